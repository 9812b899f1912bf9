/-! what the tables say of each class, method and link, by their places -/
theorem mt_w0_0 : u_lay "PondHouse" mt_T0 0 ∈ mt_Ts := mt_in2 (i := 225) rfl
theorem mt_w0_1 : u_lay "PondHouse" mt_T0 1 ∈ mt_Ts := mt_in2 (i := 227) rfl
theorem mt_w0_2 : u_lay "PondHouse" mt_T0 2 ∈ mt_Ts := mt_in2 (i := 229) rfl
theorem mt_w0_3 : u_lay "PondHouse" mt_T0 3 ∈ mt_Ts := mt_in2 (i := 231) rfl
theorem mt_w0_4 : u_lay "PondHouse" mt_T0 4 ∈ mt_Ts := mt_in2 (i := 233) rfl
theorem mt_w0_5 : u_lay "PondHouse" mt_T0 5 ∈ mt_Ts := mt_in2 (i := 235) rfl
theorem mt_w0_6 : u_lay "PondHouse" mt_T0 6 ∈ mt_Ts := mt_in2 (i := 237) rfl
theorem mt_w0_7 : u_lay "PondHouse" mt_T0 7 ∈ mt_Ts := mt_in2 (i := 239) rfl
theorem mt_w0_8 : u_lay "PondHouse" mt_T0 8 ∈ mt_Ts := mt_in3 (i := 1) rfl
theorem mt_w0_9 : u_lay "PondHouse" mt_T0 9 ∈ mt_Ts := mt_in3 (i := 3) rfl
theorem mt_w0_10 : u_lay "PondHouse" mt_T0 10 ∈ mt_Ts := mt_in3 (i := 5) rfl
theorem mt_w0_11 : u_lay "PondHouse" mt_T0 11 ∈ mt_Ts := mt_in3 (i := 7) rfl
theorem mt_w0_12 : u_lay "PondHouse" mt_T0 12 ∈ mt_Ts := mt_in3 (i := 9) rfl
theorem mt_w0_13 : u_lay "PondHouse" mt_T0 13 ∈ mt_Ts := mt_in3 (i := 11) rfl
def mt_ty0 : Nat → FieldType := fun k => match k with
  | 0 => (.object "PondHouse$Tokens")
  | 1 => (.object "PondHouse$Reader")
  | 2 => (.array (.object "PondHouse$Creature"))
  | 3 => (.array .int)
  | 4 => (.array (.object "PondHouse$LongAct"))
  | 5 => (.object "PondHouse$Runner")
  | 6 => (.object "PondHouse$Patcher")
  | 7 => (.object "PondHouse$Pond")
  | 8 => .int
  | 9 => .int
  | 10 => .int
  | 11 => .int
  | 12 => .int
  | _ => .int
theorem mt_ty0_ok : ∀ k, k < 14 → parseFieldDescriptor (mt_T0 k).2.2.1 = some (mt_ty0 k) := by decide +kernel
theorem mt_ok0 : mm_okC mt_Ts mt_r0 := by
  refine ⟨fun w hw => ?_, ⟨mt_ty0, mt_ty0_ok⟩, by decide +kernel⟩
  obtain ⟨k, hk, rfl⟩ := List.mem_map.mp hw
  have hk : k < 14 := List.mem_range.mp hk
  match k, hk with
  | 0, _ => exact mt_w0_0
  | 1, _ => exact mt_w0_1
  | 2, _ => exact mt_w0_2
  | 3, _ => exact mt_w0_3
  | 4, _ => exact mt_w0_4
  | 5, _ => exact mt_w0_5
  | 6, _ => exact mt_w0_6
  | 7, _ => exact mt_w0_7
  | 8, _ => exact mt_w0_8
  | 9, _ => exact mt_w0_9
  | 10, _ => exact mt_w0_10
  | 11, _ => exact mt_w0_11
  | 12, _ => exact mt_w0_12
  | 13, _ => exact mt_w0_13
  | k + 14, hk => exact absurd hk (by omega)
theorem mt_nw0 (xs : List Int32) : ∀ vs, (mt_P xs).2.1 0 = some vs → vs.length = mt_r0.2.2 ∧ ∀ q, q < mt_r0.2.2 → ∃ ty v, parseFieldDescriptor (mt_r0.2.1 q).2.2.1 = some ty ∧ vs[q]? = some v ∧ v = defaultValue ty ∧ mm_vR ((fun _ => 0), (fun _ => 0), (fun _ => .int), []) [] v v := by
  intro vs hvs
  obtain rfl : [.null, .null, .null, .null, .null, .null, .null, .null, .int 0, .int 0, .int 0, .int 0, .int 0, .int 0] = vs := Option.some.inj hvs
  refine ⟨rfl, fun q hq => ?_⟩
  have hq : q < 14 := hq
  match q, hq with
  | 0, h => exact ⟨_, _, mt_ty0_ok 0 h, rfl, rfl, rfl⟩
  | 1, h => exact ⟨_, _, mt_ty0_ok 1 h, rfl, rfl, rfl⟩
  | 2, h => exact ⟨_, _, mt_ty0_ok 2 h, rfl, rfl, rfl⟩
  | 3, h => exact ⟨_, _, mt_ty0_ok 3 h, rfl, rfl, rfl⟩
  | 4, h => exact ⟨_, _, mt_ty0_ok 4 h, rfl, rfl, rfl⟩
  | 5, h => exact ⟨_, _, mt_ty0_ok 5 h, rfl, rfl, rfl⟩
  | 6, h => exact ⟨_, _, mt_ty0_ok 6 h, rfl, rfl, rfl⟩
  | 7, h => exact ⟨_, _, mt_ty0_ok 7 h, rfl, rfl, rfl⟩
  | 8, h => exact ⟨_, _, mt_ty0_ok 8 h, rfl, rfl, rfl⟩
  | 9, h => exact ⟨_, _, mt_ty0_ok 9 h, rfl, rfl, rfl⟩
  | 10, h => exact ⟨_, _, mt_ty0_ok 10 h, rfl, rfl, rfl⟩
  | 11, h => exact ⟨_, _, mt_ty0_ok 11 h, rfl, rfl, rfl⟩
  | 12, h => exact ⟨_, _, mt_ty0_ok 12 h, rfl, rfl, rfl⟩
  | 13, h => exact ⟨_, _, mt_ty0_ok 13 h, rfl, rfl, rfl⟩
  | q + 14, hq => exact absurd hq (by omega)
theorem mt_w1_0 : u_lay "PondHouse$Tokens" mt_T1 0 ∈ mt_Ts := mt_in1 (i := 106) rfl
theorem mt_w1_1 : u_lay "PondHouse$Tokens" mt_T1 1 ∈ mt_Ts := mt_in1 (i := 108) rfl
theorem mt_w1_2 : u_lay "PondHouse$Tokens" mt_T1 2 ∈ mt_Ts := mt_in1 (i := 110) rfl
theorem mt_w1_3 : u_lay "PondHouse$Tokens" mt_T1 3 ∈ mt_Ts := mt_in1 (i := 112) rfl
theorem mt_w1_4 : u_lay "PondHouse$Tokens" mt_T1 4 ∈ mt_Ts := mt_in1 (i := 114) rfl
theorem mt_w1_5 : u_lay "PondHouse$Tokens" mt_T1 5 ∈ mt_Ts := mt_in1 (i := 116) rfl
theorem mt_w1_6 : u_lay "PondHouse$Tokens" mt_T1 6 ∈ mt_Ts := mt_in1 (i := 118) rfl
def mt_ty1 : Nat → FieldType := fun k => match k with
  | 0 => (.array .int)
  | 1 => .int
  | 2 => (.array .int)
  | 3 => (.array .int)
  | 4 => (.array .int)
  | 5 => .int
  | _ => (.array .int)
theorem mt_ty1_ok : ∀ k, k < 7 → parseFieldDescriptor (mt_T1 k).2.2.1 = some (mt_ty1 k) := by decide +kernel
theorem mt_ok1 : mm_okC mt_Ts mt_r1 := by
  refine ⟨fun w hw => ?_, ⟨mt_ty1, mt_ty1_ok⟩, by decide +kernel⟩
  obtain ⟨k, hk, rfl⟩ := List.mem_map.mp hw
  have hk : k < 7 := List.mem_range.mp hk
  match k, hk with
  | 0, _ => exact mt_w1_0
  | 1, _ => exact mt_w1_1
  | 2, _ => exact mt_w1_2
  | 3, _ => exact mt_w1_3
  | 4, _ => exact mt_w1_4
  | 5, _ => exact mt_w1_5
  | 6, _ => exact mt_w1_6
  | k + 7, hk => exact absurd hk (by omega)
theorem mt_nw1 (xs : List Int32) : ∀ vs, (mt_P xs).2.1 1 = some vs → vs.length = mt_r1.2.2 ∧ ∀ q, q < mt_r1.2.2 → ∃ ty v, parseFieldDescriptor (mt_r1.2.1 q).2.2.1 = some ty ∧ vs[q]? = some v ∧ v = defaultValue ty ∧ mm_vR ((fun _ => 0), (fun _ => 0), (fun _ => .int), []) [] v v := by
  intro vs hvs
  obtain rfl : [.null, .int 0, .null, .null, .null, .int 0, .null] = vs := Option.some.inj hvs
  refine ⟨rfl, fun q hq => ?_⟩
  have hq : q < 7 := hq
  match q, hq with
  | 0, h => exact ⟨_, _, mt_ty1_ok 0 h, rfl, rfl, rfl⟩
  | 1, h => exact ⟨_, _, mt_ty1_ok 1 h, rfl, rfl, rfl⟩
  | 2, h => exact ⟨_, _, mt_ty1_ok 2 h, rfl, rfl, rfl⟩
  | 3, h => exact ⟨_, _, mt_ty1_ok 3 h, rfl, rfl, rfl⟩
  | 4, h => exact ⟨_, _, mt_ty1_ok 4 h, rfl, rfl, rfl⟩
  | 5, h => exact ⟨_, _, mt_ty1_ok 5 h, rfl, rfl, rfl⟩
  | 6, h => exact ⟨_, _, mt_ty1_ok 6 h, rfl, rfl, rfl⟩
  | q + 7, hq => exact absurd hq (by omega)
theorem mt_w2_0 : u_lay "PondHouse$Reader" mt_T2 0 ∈ mt_Ts := mt_in1 (i := 172) rfl
theorem mt_w2_1 : u_lay "PondHouse$Reader" mt_T2 1 ∈ mt_Ts := mt_in1 (i := 174) rfl
theorem mt_w2_2 : u_lay "PondHouse$Reader" mt_T2 2 ∈ mt_Ts := mt_in1 (i := 176) rfl
theorem mt_w2_3 : u_lay "PondHouse$Reader" mt_T2 3 ∈ mt_Ts := mt_in1 (i := 178) rfl
theorem mt_w2_4 : u_lay "PondHouse$Reader" mt_T2 4 ∈ mt_Ts := mt_in1 (i := 180) rfl
theorem mt_w2_5 : u_lay "PondHouse$Reader" mt_T2 5 ∈ mt_Ts := mt_in1 (i := 182) rfl
theorem mt_w2_6 : u_lay "PondHouse$Reader" mt_T2 6 ∈ mt_Ts := mt_in1 (i := 184) rfl
theorem mt_w2_7 : u_lay "PondHouse$Reader" mt_T2 7 ∈ mt_Ts := mt_in1 (i := 186) rfl
theorem mt_w2_8 : u_lay "PondHouse$Reader" mt_T2 8 ∈ mt_Ts := mt_in1 (i := 188) rfl
theorem mt_w2_9 : u_lay "PondHouse$Reader" mt_T2 9 ∈ mt_Ts := mt_in1 (i := 190) rfl
theorem mt_w2_10 : u_lay "PondHouse$Reader" mt_T2 10 ∈ mt_Ts := mt_in1 (i := 192) rfl
theorem mt_w2_11 : u_lay "PondHouse$Reader" mt_T2 11 ∈ mt_Ts := mt_in1 (i := 194) rfl
theorem mt_w2_12 : u_lay "PondHouse$Reader" mt_T2 12 ∈ mt_Ts := mt_in1 (i := 196) rfl
def mt_ty2 : Nat → FieldType := fun k => match k with
  | 0 => (.object "PondHouse$Tokens")
  | 1 => (.array .int)
  | 2 => .int
  | 3 => .int
  | 4 => .int
  | 5 => .int
  | 6 => (.array .int)
  | 7 => .int
  | 8 => .int
  | 9 => .int
  | 10 => .int
  | 11 => (.object "PondHouse$Pond")
  | _ => (.object "java/util/ArrayList")
theorem mt_ty2_ok : ∀ k, k < 13 → parseFieldDescriptor (mt_T2 k).2.2.1 = some (mt_ty2 k) := by decide +kernel
theorem mt_ok2 : mm_okC mt_Ts mt_r2 := by
  refine ⟨fun w hw => ?_, ⟨mt_ty2, mt_ty2_ok⟩, by decide +kernel⟩
  obtain ⟨k, hk, rfl⟩ := List.mem_map.mp hw
  have hk : k < 13 := List.mem_range.mp hk
  match k, hk with
  | 0, _ => exact mt_w2_0
  | 1, _ => exact mt_w2_1
  | 2, _ => exact mt_w2_2
  | 3, _ => exact mt_w2_3
  | 4, _ => exact mt_w2_4
  | 5, _ => exact mt_w2_5
  | 6, _ => exact mt_w2_6
  | 7, _ => exact mt_w2_7
  | 8, _ => exact mt_w2_8
  | 9, _ => exact mt_w2_9
  | 10, _ => exact mt_w2_10
  | 11, _ => exact mt_w2_11
  | 12, _ => exact mt_w2_12
  | k + 13, hk => exact absurd hk (by omega)
theorem mt_nw2 (xs : List Int32) : ∀ vs, (mt_P xs).2.1 2 = some vs → vs.length = mt_r2.2.2 ∧ ∀ q, q < mt_r2.2.2 → ∃ ty v, parseFieldDescriptor (mt_r2.2.1 q).2.2.1 = some ty ∧ vs[q]? = some v ∧ v = defaultValue ty ∧ mm_vR ((fun _ => 0), (fun _ => 0), (fun _ => .int), []) [] v v := by
  intro vs hvs
  obtain rfl : [.null, .null, .int 0, .int 0, .int 0, .int 0, .null, .int 0, .int 0, .int 0, .int 0, .null, .null] = vs := Option.some.inj hvs
  refine ⟨rfl, fun q hq => ?_⟩
  have hq : q < 13 := hq
  match q, hq with
  | 0, h => exact ⟨_, _, mt_ty2_ok 0 h, rfl, rfl, rfl⟩
  | 1, h => exact ⟨_, _, mt_ty2_ok 1 h, rfl, rfl, rfl⟩
  | 2, h => exact ⟨_, _, mt_ty2_ok 2 h, rfl, rfl, rfl⟩
  | 3, h => exact ⟨_, _, mt_ty2_ok 3 h, rfl, rfl, rfl⟩
  | 4, h => exact ⟨_, _, mt_ty2_ok 4 h, rfl, rfl, rfl⟩
  | 5, h => exact ⟨_, _, mt_ty2_ok 5 h, rfl, rfl, rfl⟩
  | 6, h => exact ⟨_, _, mt_ty2_ok 6 h, rfl, rfl, rfl⟩
  | 7, h => exact ⟨_, _, mt_ty2_ok 7 h, rfl, rfl, rfl⟩
  | 8, h => exact ⟨_, _, mt_ty2_ok 8 h, rfl, rfl, rfl⟩
  | 9, h => exact ⟨_, _, mt_ty2_ok 9 h, rfl, rfl, rfl⟩
  | 10, h => exact ⟨_, _, mt_ty2_ok 10 h, rfl, rfl, rfl⟩
  | 11, h => exact ⟨_, _, mt_ty2_ok 11 h, rfl, rfl, rfl⟩
  | 12, h => exact ⟨_, _, mt_ty2_ok 12 h, rfl, rfl, rfl⟩
  | q + 13, hq => exact absurd hq (by omega)
theorem mt_w3_0 : u_lay "java/util/ArrayList" mt_T3 0 ∈ mt_Ts := mt_in1 (i := 148) rfl
theorem mt_w3_1 : u_lay "java/util/ArrayList" mt_T3 1 ∈ mt_Ts := mt_in1 (i := 150) rfl
theorem mt_w3_2 : u_lay "java/util/ArrayList" mt_T3 2 ∈ mt_Ts := mt_in1 (i := 152) rfl
def mt_ty3 : Nat → FieldType := fun k => match k with
  | 0 => (.array (.object "java/lang/Object"))
  | 1 => .int
  | _ => .int
theorem mt_ty3_ok : ∀ k, k < 3 → parseFieldDescriptor (mt_T3 k).2.2.1 = some (mt_ty3 k) := by decide +kernel
theorem mt_ok3 : mm_okC mt_Ts mt_r3 := by
  refine ⟨fun w hw => ?_, ⟨mt_ty3, mt_ty3_ok⟩, by decide +kernel⟩
  obtain ⟨k, hk, rfl⟩ := List.mem_map.mp hw
  have hk : k < 3 := List.mem_range.mp hk
  match k, hk with
  | 0, _ => exact mt_w3_0
  | 1, _ => exact mt_w3_1
  | 2, _ => exact mt_w3_2
  | k + 3, hk => exact absurd hk (by omega)
theorem mt_nw3 (xs : List Int32) : ∀ vs, (mt_P xs).2.1 3 = some vs → vs.length = mt_r3.2.2 ∧ ∀ q, q < mt_r3.2.2 → ∃ ty v, parseFieldDescriptor (mt_r3.2.1 q).2.2.1 = some ty ∧ vs[q]? = some v ∧ v = defaultValue ty ∧ mm_vR ((fun _ => 0), (fun _ => 0), (fun _ => .int), []) [] v v := by
  intro vs hvs
  obtain rfl : [.null, .int 0, .int 0] = vs := Option.some.inj hvs
  refine ⟨rfl, fun q hq => ?_⟩
  have hq : q < 3 := hq
  match q, hq with
  | 0, h => exact ⟨_, _, mt_ty3_ok 0 h, rfl, rfl, rfl⟩
  | 1, h => exact ⟨_, _, mt_ty3_ok 1 h, rfl, rfl, rfl⟩
  | 2, h => exact ⟨_, _, mt_ty3_ok 2 h, rfl, rfl, rfl⟩
  | q + 3, hq => exact absurd hq (by omega)
theorem mt_w4_0 : u_lay "PondHouse$Runner" mt_T4 0 ∈ mt_Ts := mt_in2 (i := 27) rfl
theorem mt_w4_1 : u_lay "PondHouse$Runner" mt_T4 1 ∈ mt_Ts := mt_in2 (i := 29) rfl
theorem mt_w4_2 : u_lay "PondHouse$Runner" mt_T4 2 ∈ mt_Ts := mt_in2 (i := 31) rfl
theorem mt_w4_3 : u_lay "PondHouse$Runner" mt_T4 3 ∈ mt_Ts := mt_in2 (i := 33) rfl
theorem mt_w4_4 : u_lay "PondHouse$Runner" mt_T4 4 ∈ mt_Ts := mt_in2 (i := 35) rfl
theorem mt_w4_5 : u_lay "PondHouse$Runner" mt_T4 5 ∈ mt_Ts := mt_in2 (i := 37) rfl
theorem mt_w4_6 : u_lay "PondHouse$Runner" mt_T4 6 ∈ mt_Ts := mt_in2 (i := 39) rfl
theorem mt_w4_7 : u_lay "PondHouse$Runner" mt_T4 7 ∈ mt_Ts := mt_in2 (i := 41) rfl
theorem mt_w4_8 : u_lay "PondHouse$Runner" mt_T4 8 ∈ mt_Ts := mt_in2 (i := 43) rfl
theorem mt_w4_9 : u_lay "PondHouse$Runner" mt_T4 9 ∈ mt_Ts := mt_in2 (i := 45) rfl
theorem mt_w4_10 : u_lay "PondHouse$Runner" mt_T4 10 ∈ mt_Ts := mt_in2 (i := 47) rfl
theorem mt_w4_11 : u_lay "PondHouse$Runner" mt_T4 11 ∈ mt_Ts := mt_in2 (i := 49) rfl
theorem mt_w4_12 : u_lay "PondHouse$Runner" mt_T4 12 ∈ mt_Ts := mt_in2 (i := 51) rfl
theorem mt_w4_13 : u_lay "PondHouse$Runner" mt_T4 13 ∈ mt_Ts := mt_in2 (i := 53) rfl
def mt_ty4 : Nat → FieldType := fun k => match k with
  | 0 => (.array (.object "PondHouse$Creature"))
  | 1 => (.array (.object "PondHouse$Frame"))
  | 2 => (.object "PondHouse$Frame")
  | 3 => .int
  | 4 => (.array .int)
  | 5 => .int
  | 6 => .boolean
  | 7 => .int
  | 8 => .int
  | 9 => .int
  | 10 => .int
  | 11 => .boolean
  | 12 => (.array .int)
  | _ => .int
theorem mt_ty4_ok : ∀ k, k < 14 → parseFieldDescriptor (mt_T4 k).2.2.1 = some (mt_ty4 k) := by decide +kernel
theorem mt_ok4 : mm_okC mt_Ts mt_r4 := by
  refine ⟨fun w hw => ?_, ⟨mt_ty4, mt_ty4_ok⟩, by decide +kernel⟩
  obtain ⟨k, hk, rfl⟩ := List.mem_map.mp hw
  have hk : k < 14 := List.mem_range.mp hk
  match k, hk with
  | 0, _ => exact mt_w4_0
  | 1, _ => exact mt_w4_1
  | 2, _ => exact mt_w4_2
  | 3, _ => exact mt_w4_3
  | 4, _ => exact mt_w4_4
  | 5, _ => exact mt_w4_5
  | 6, _ => exact mt_w4_6
  | 7, _ => exact mt_w4_7
  | 8, _ => exact mt_w4_8
  | 9, _ => exact mt_w4_9
  | 10, _ => exact mt_w4_10
  | 11, _ => exact mt_w4_11
  | 12, _ => exact mt_w4_12
  | 13, _ => exact mt_w4_13
  | k + 14, hk => exact absurd hk (by omega)
theorem mt_nw4 (xs : List Int32) : ∀ vs, (mt_P xs).2.1 4 = some vs → vs.length = mt_r4.2.2 ∧ ∀ q, q < mt_r4.2.2 → ∃ ty v, parseFieldDescriptor (mt_r4.2.1 q).2.2.1 = some ty ∧ vs[q]? = some v ∧ v = defaultValue ty ∧ mm_vR ((fun _ => 0), (fun _ => 0), (fun _ => .int), []) [] v v := by
  intro vs hvs
  obtain rfl : [.null, .null, .null, .int 0, .null, .int 0, .int 0, .int 0, .int 0, .int 0, .int 0, .int 0, .null, .int 0] = vs := Option.some.inj hvs
  refine ⟨rfl, fun q hq => ?_⟩
  have hq : q < 14 := hq
  match q, hq with
  | 0, h => exact ⟨_, _, mt_ty4_ok 0 h, rfl, rfl, rfl⟩
  | 1, h => exact ⟨_, _, mt_ty4_ok 1 h, rfl, rfl, rfl⟩
  | 2, h => exact ⟨_, _, mt_ty4_ok 2 h, rfl, rfl, rfl⟩
  | 3, h => exact ⟨_, _, mt_ty4_ok 3 h, rfl, rfl, rfl⟩
  | 4, h => exact ⟨_, _, mt_ty4_ok 4 h, rfl, rfl, rfl⟩
  | 5, h => exact ⟨_, _, mt_ty4_ok 5 h, rfl, rfl, rfl⟩
  | 6, h => exact ⟨_, _, mt_ty4_ok 6 h, rfl, rfl, rfl⟩
  | 7, h => exact ⟨_, _, mt_ty4_ok 7 h, rfl, rfl, rfl⟩
  | 8, h => exact ⟨_, _, mt_ty4_ok 8 h, rfl, rfl, rfl⟩
  | 9, h => exact ⟨_, _, mt_ty4_ok 9 h, rfl, rfl, rfl⟩
  | 10, h => exact ⟨_, _, mt_ty4_ok 10 h, rfl, rfl, rfl⟩
  | 11, h => exact ⟨_, _, mt_ty4_ok 11 h, rfl, rfl, rfl⟩
  | 12, h => exact ⟨_, _, mt_ty4_ok 12 h, rfl, rfl, rfl⟩
  | 13, h => exact ⟨_, _, mt_ty4_ok 13 h, rfl, rfl, rfl⟩
  | q + 14, hq => exact absurd hq (by omega)
theorem mt_w5_0 : u_lay "PondHouse$Frame" mt_T5 0 ∈ mt_Ts := mt_in1 (i := 231) rfl
theorem mt_w5_1 : u_lay "PondHouse$Frame" mt_T5 1 ∈ mt_Ts := mt_in1 (i := 233) rfl
theorem mt_w5_2 : u_lay "PondHouse$Frame" mt_T5 2 ∈ mt_Ts := mt_in1 (i := 235) rfl
theorem mt_w5_3 : u_lay "PondHouse$Frame" mt_T5 3 ∈ mt_Ts := mt_in1 (i := 237) rfl
theorem mt_w5_4 : u_lay "PondHouse$Frame" mt_T5 4 ∈ mt_Ts := mt_in1 (i := 239) rfl
theorem mt_w5_5 : u_lay "PondHouse$Frame" mt_T5 5 ∈ mt_Ts := mt_in2 (i := 1) rfl
theorem mt_w5_6 : u_lay "PondHouse$Frame" mt_T5 6 ∈ mt_Ts := mt_in2 (i := 3) rfl
def mt_ty5 : Nat → FieldType := fun k => match k with
  | 0 => (.object "PondHouse$Creature")
  | 1 => (.object "PondHouse$Kind")
  | 2 => .int
  | 3 => (.array .int)
  | 4 => .int
  | 5 => .int
  | _ => .int
theorem mt_ty5_ok : ∀ k, k < 7 → parseFieldDescriptor (mt_T5 k).2.2.1 = some (mt_ty5 k) := by decide +kernel
theorem mt_ok5 : mm_okC mt_Ts mt_r5 := by
  refine ⟨fun w hw => ?_, ⟨mt_ty5, mt_ty5_ok⟩, by decide +kernel⟩
  obtain ⟨k, hk, rfl⟩ := List.mem_map.mp hw
  have hk : k < 7 := List.mem_range.mp hk
  match k, hk with
  | 0, _ => exact mt_w5_0
  | 1, _ => exact mt_w5_1
  | 2, _ => exact mt_w5_2
  | 3, _ => exact mt_w5_3
  | 4, _ => exact mt_w5_4
  | 5, _ => exact mt_w5_5
  | 6, _ => exact mt_w5_6
  | k + 7, hk => exact absurd hk (by omega)
theorem mt_nw5 (xs : List Int32) : ∀ vs, (mt_P xs).2.1 5 = some vs → vs.length = mt_r5.2.2 ∧ ∀ q, q < mt_r5.2.2 → ∃ ty v, parseFieldDescriptor (mt_r5.2.1 q).2.2.1 = some ty ∧ vs[q]? = some v ∧ v = defaultValue ty ∧ mm_vR ((fun _ => 0), (fun _ => 0), (fun _ => .int), []) [] v v := by
  intro vs hvs
  obtain rfl : [.null, .null, .int 0, .null, .int 0, .int 0, .int 0] = vs := Option.some.inj hvs
  refine ⟨rfl, fun q hq => ?_⟩
  have hq : q < 7 := hq
  match q, hq with
  | 0, h => exact ⟨_, _, mt_ty5_ok 0 h, rfl, rfl, rfl⟩
  | 1, h => exact ⟨_, _, mt_ty5_ok 1 h, rfl, rfl, rfl⟩
  | 2, h => exact ⟨_, _, mt_ty5_ok 2 h, rfl, rfl, rfl⟩
  | 3, h => exact ⟨_, _, mt_ty5_ok 3 h, rfl, rfl, rfl⟩
  | 4, h => exact ⟨_, _, mt_ty5_ok 4 h, rfl, rfl, rfl⟩
  | 5, h => exact ⟨_, _, mt_ty5_ok 5 h, rfl, rfl, rfl⟩
  | 6, h => exact ⟨_, _, mt_ty5_ok 6 h, rfl, rfl, rfl⟩
  | q + 7, hq => exact absurd hq (by omega)
theorem mt_w6_0 : u_lay "PondHouse$Patcher" mt_T6 0 ∈ mt_Ts := mt_in2 (i := 129) rfl
theorem mt_w6_1 : u_lay "PondHouse$Patcher" mt_T6 1 ∈ mt_Ts := mt_in2 (i := 131) rfl
theorem mt_w6_2 : u_lay "PondHouse$Patcher" mt_T6 2 ∈ mt_Ts := mt_in2 (i := 133) rfl
theorem mt_w6_3 : u_lay "PondHouse$Patcher" mt_T6 3 ∈ mt_Ts := mt_in2 (i := 135) rfl
theorem mt_w6_4 : u_lay "PondHouse$Patcher" mt_T6 4 ∈ mt_Ts := mt_in2 (i := 137) rfl
theorem mt_w6_5 : u_lay "PondHouse$Patcher" mt_T6 5 ∈ mt_Ts := mt_in2 (i := 139) rfl
theorem mt_w6_6 : u_lay "PondHouse$Patcher" mt_T6 6 ∈ mt_Ts := mt_in2 (i := 141) rfl
theorem mt_w6_7 : u_lay "PondHouse$Patcher" mt_T6 7 ∈ mt_Ts := mt_in2 (i := 143) rfl
theorem mt_w6_8 : u_lay "PondHouse$Patcher" mt_T6 8 ∈ mt_Ts := mt_in2 (i := 145) rfl
theorem mt_w6_9 : u_lay "PondHouse$Patcher" mt_T6 9 ∈ mt_Ts := mt_in2 (i := 147) rfl
theorem mt_w6_10 : u_lay "PondHouse$Patcher" mt_T6 10 ∈ mt_Ts := mt_in2 (i := 149) rfl
theorem mt_w6_11 : u_lay "PondHouse$Patcher" mt_T6 11 ∈ mt_Ts := mt_in2 (i := 151) rfl
theorem mt_w6_12 : u_lay "PondHouse$Patcher" mt_T6 12 ∈ mt_Ts := mt_in2 (i := 153) rfl
theorem mt_w6_13 : u_lay "PondHouse$Patcher" mt_T6 13 ∈ mt_Ts := mt_in2 (i := 155) rfl
theorem mt_w6_14 : u_lay "PondHouse$Patcher" mt_T6 14 ∈ mt_Ts := mt_in2 (i := 157) rfl
def mt_ty6 : Nat → FieldType := fun k => match k with
  | 0 => (.array (.object "PondHouse$Creature"))
  | 1 => (.object "PondHouse$Runner")
  | 2 => (.array (.object "PondHouse$Creature"))
  | 3 => (.array (.object "PondHouse$Patch"))
  | 4 => .int
  | 5 => (.object "PondHouse$Patch")
  | 6 => .int
  | 7 => (.object "PondHouse$Patch")
  | 8 => (.object "PondHouse$Pond")
  | 9 => .int
  | 10 => .int
  | 11 => .int
  | 12 => .int
  | 13 => (.array (.object "PondHouse$Kind"))
  | _ => (.array .int)
theorem mt_ty6_ok : ∀ k, k < 15 → parseFieldDescriptor (mt_T6 k).2.2.1 = some (mt_ty6 k) := by decide +kernel
theorem mt_ok6 : mm_okC mt_Ts mt_r6 := by
  refine ⟨fun w hw => ?_, ⟨mt_ty6, mt_ty6_ok⟩, by decide +kernel⟩
  obtain ⟨k, hk, rfl⟩ := List.mem_map.mp hw
  have hk : k < 15 := List.mem_range.mp hk
  match k, hk with
  | 0, _ => exact mt_w6_0
  | 1, _ => exact mt_w6_1
  | 2, _ => exact mt_w6_2
  | 3, _ => exact mt_w6_3
  | 4, _ => exact mt_w6_4
  | 5, _ => exact mt_w6_5
  | 6, _ => exact mt_w6_6
  | 7, _ => exact mt_w6_7
  | 8, _ => exact mt_w6_8
  | 9, _ => exact mt_w6_9
  | 10, _ => exact mt_w6_10
  | 11, _ => exact mt_w6_11
  | 12, _ => exact mt_w6_12
  | 13, _ => exact mt_w6_13
  | 14, _ => exact mt_w6_14
  | k + 15, hk => exact absurd hk (by omega)
theorem mt_nw6 (xs : List Int32) : ∀ vs, (mt_P xs).2.1 6 = some vs → vs.length = mt_r6.2.2 ∧ ∀ q, q < mt_r6.2.2 → ∃ ty v, parseFieldDescriptor (mt_r6.2.1 q).2.2.1 = some ty ∧ vs[q]? = some v ∧ v = defaultValue ty ∧ mm_vR ((fun _ => 0), (fun _ => 0), (fun _ => .int), []) [] v v := by
  intro vs hvs
  obtain rfl : [.null, .null, .null, .null, .int 0, .null, .int 0, .null, .null, .int 0, .int 0, .int 0, .int 0, .null, .null] = vs := Option.some.inj hvs
  refine ⟨rfl, fun q hq => ?_⟩
  have hq : q < 15 := hq
  match q, hq with
  | 0, h => exact ⟨_, _, mt_ty6_ok 0 h, rfl, rfl, rfl⟩
  | 1, h => exact ⟨_, _, mt_ty6_ok 1 h, rfl, rfl, rfl⟩
  | 2, h => exact ⟨_, _, mt_ty6_ok 2 h, rfl, rfl, rfl⟩
  | 3, h => exact ⟨_, _, mt_ty6_ok 3 h, rfl, rfl, rfl⟩
  | 4, h => exact ⟨_, _, mt_ty6_ok 4 h, rfl, rfl, rfl⟩
  | 5, h => exact ⟨_, _, mt_ty6_ok 5 h, rfl, rfl, rfl⟩
  | 6, h => exact ⟨_, _, mt_ty6_ok 6 h, rfl, rfl, rfl⟩
  | 7, h => exact ⟨_, _, mt_ty6_ok 7 h, rfl, rfl, rfl⟩
  | 8, h => exact ⟨_, _, mt_ty6_ok 8 h, rfl, rfl, rfl⟩
  | 9, h => exact ⟨_, _, mt_ty6_ok 9 h, rfl, rfl, rfl⟩
  | 10, h => exact ⟨_, _, mt_ty6_ok 10 h, rfl, rfl, rfl⟩
  | 11, h => exact ⟨_, _, mt_ty6_ok 11 h, rfl, rfl, rfl⟩
  | 12, h => exact ⟨_, _, mt_ty6_ok 12 h, rfl, rfl, rfl⟩
  | 13, h => exact ⟨_, _, mt_ty6_ok 13 h, rfl, rfl, rfl⟩
  | 14, h => exact ⟨_, _, mt_ty6_ok 14 h, rfl, rfl, rfl⟩
  | q + 15, hq => exact absurd hq (by omega)
theorem mt_w7_0 : u_lay "PondHouse$Creature" mt_T7 0 ∈ mt_Ts := mt_in2 (i := 95) rfl
theorem mt_w7_1 : u_lay "PondHouse$Creature" mt_T7 1 ∈ mt_Ts := mt_in2 (i := 97) rfl
theorem mt_w7_2 : u_lay "PondHouse$Creature" mt_T7 2 ∈ mt_Ts := mt_in2 (i := 99) rfl
theorem mt_w7_3 : u_lay "PondHouse$Creature" mt_T7 3 ∈ mt_Ts := mt_in2 (i := 101) rfl
theorem mt_w7_4 : u_lay "PondHouse$Creature" mt_T7 4 ∈ mt_Ts := mt_in2 (i := 103) rfl
theorem mt_w7_5 : u_lay "PondHouse$Creature" mt_T7 5 ∈ mt_Ts := mt_in2 (i := 105) rfl
def mt_ty7 : Nat → FieldType := fun k => match k with
  | 0 => .int
  | 1 => .boolean
  | 2 => (.object "PondHouse$Kind")
  | 3 => (.array .int)
  | 4 => (.array .boolean)
  | _ => (.array .int)
theorem mt_ty7_ok : ∀ k, k < 6 → parseFieldDescriptor (mt_T7 k).2.2.1 = some (mt_ty7 k) := by decide +kernel
theorem mt_ok7 : mm_okC mt_Ts mt_r7 := by
  refine ⟨fun w hw => ?_, ⟨mt_ty7, mt_ty7_ok⟩, by decide +kernel⟩
  obtain ⟨k, hk, rfl⟩ := List.mem_map.mp hw
  have hk : k < 6 := List.mem_range.mp hk
  match k, hk with
  | 0, _ => exact mt_w7_0
  | 1, _ => exact mt_w7_1
  | 2, _ => exact mt_w7_2
  | 3, _ => exact mt_w7_3
  | 4, _ => exact mt_w7_4
  | 5, _ => exact mt_w7_5
  | k + 6, hk => exact absurd hk (by omega)
theorem mt_nw7 (xs : List Int32) : ∀ vs, (mt_P xs).2.1 7 = some vs → vs.length = mt_r7.2.2 ∧ ∀ q, q < mt_r7.2.2 → ∃ ty v, parseFieldDescriptor (mt_r7.2.1 q).2.2.1 = some ty ∧ vs[q]? = some v ∧ v = defaultValue ty ∧ mm_vR ((fun _ => 0), (fun _ => 0), (fun _ => .int), []) [] v v := by
  intro vs hvs
  obtain rfl : [.int 0, .int 0, .null, .null, .null, .null] = vs := Option.some.inj hvs
  refine ⟨rfl, fun q hq => ?_⟩
  have hq : q < 6 := hq
  match q, hq with
  | 0, h => exact ⟨_, _, mt_ty7_ok 0 h, rfl, rfl, rfl⟩
  | 1, h => exact ⟨_, _, mt_ty7_ok 1 h, rfl, rfl, rfl⟩
  | 2, h => exact ⟨_, _, mt_ty7_ok 2 h, rfl, rfl, rfl⟩
  | 3, h => exact ⟨_, _, mt_ty7_ok 3 h, rfl, rfl, rfl⟩
  | 4, h => exact ⟨_, _, mt_ty7_ok 4 h, rfl, rfl, rfl⟩
  | 5, h => exact ⟨_, _, mt_ty7_ok 5 h, rfl, rfl, rfl⟩
  | q + 6, hq => exact absurd hq (by omega)
theorem mt_w8_0 : u_lay "PondHouse$Pond" mt_T8 0 ∈ mt_Ts := mt_in2 (i := 172) rfl
theorem mt_w8_1 : u_lay "PondHouse$Pond" mt_T8 1 ∈ mt_Ts := mt_in2 (i := 174) rfl
def mt_ty8 : Nat → FieldType := fun k => match k with
  | 0 => (.array (.object "PondHouse$Kind"))
  | _ => .int
theorem mt_ty8_ok : ∀ k, k < 2 → parseFieldDescriptor (mt_T8 k).2.2.1 = some (mt_ty8 k) := by decide +kernel
theorem mt_ok8 : mm_okC mt_Ts mt_r8 := by
  refine ⟨fun w hw => ?_, ⟨mt_ty8, mt_ty8_ok⟩, by decide +kernel⟩
  obtain ⟨k, hk, rfl⟩ := List.mem_map.mp hw
  have hk : k < 2 := List.mem_range.mp hk
  match k, hk with
  | 0, _ => exact mt_w8_0
  | 1, _ => exact mt_w8_1
  | k + 2, hk => exact absurd hk (by omega)
theorem mt_nw8 (xs : List Int32) : ∀ vs, (mt_P xs).2.1 8 = some vs → vs.length = mt_r8.2.2 ∧ ∀ q, q < mt_r8.2.2 → ∃ ty v, parseFieldDescriptor (mt_r8.2.1 q).2.2.1 = some ty ∧ vs[q]? = some v ∧ v = defaultValue ty ∧ mm_vR ((fun _ => 0), (fun _ => 0), (fun _ => .int), []) [] v v := by
  intro vs hvs
  obtain rfl : [.null, .int 0] = vs := Option.some.inj hvs
  refine ⟨rfl, fun q hq => ?_⟩
  have hq : q < 2 := hq
  match q, hq with
  | 0, h => exact ⟨_, _, mt_ty8_ok 0 h, rfl, rfl, rfl⟩
  | 1, h => exact ⟨_, _, mt_ty8_ok 1 h, rfl, rfl, rfl⟩
  | q + 2, hq => exact absurd hq (by omega)
theorem mt_w9_0 : u_lay "PondHouse$LongAct" mt_T9 0 ∈ mt_Ts := mt_in2 (i := 196) rfl
theorem mt_w9_1 : u_lay "PondHouse$LongAct" mt_T9 1 ∈ mt_Ts := mt_in2 (i := 198) rfl
theorem mt_w9_2 : u_lay "PondHouse$LongAct" mt_T9 2 ∈ mt_Ts := mt_in2 (i := 200) rfl
theorem mt_w9_3 : u_lay "PondHouse$LongAct" mt_T9 3 ∈ mt_Ts := mt_in2 (i := 202) rfl
theorem mt_w9_4 : u_lay "PondHouse$LongAct" mt_T9 4 ∈ mt_Ts := mt_in2 (i := 204) rfl
theorem mt_w9_5 : u_lay "PondHouse$LongAct" mt_T9 5 ∈ mt_Ts := mt_in2 (i := 206) rfl
theorem mt_w9_6 : u_lay "PondHouse$LongAct" mt_T9 6 ∈ mt_Ts := mt_in2 (i := 208) rfl
def mt_ty9 : Nat → FieldType := fun k => match k with
  | 0 => (.object "PondHouse$Frame")
  | 1 => .boolean
  | 2 => .boolean
  | 3 => .boolean
  | 4 => .int
  | 5 => .int
  | _ => .int
theorem mt_ty9_ok : ∀ k, k < 7 → parseFieldDescriptor (mt_T9 k).2.2.1 = some (mt_ty9 k) := by decide +kernel
theorem mt_ok9 : mm_okC mt_Ts mt_r9 := by
  refine ⟨fun w hw => ?_, ⟨mt_ty9, mt_ty9_ok⟩, by decide +kernel⟩
  obtain ⟨k, hk, rfl⟩ := List.mem_map.mp hw
  have hk : k < 7 := List.mem_range.mp hk
  match k, hk with
  | 0, _ => exact mt_w9_0
  | 1, _ => exact mt_w9_1
  | 2, _ => exact mt_w9_2
  | 3, _ => exact mt_w9_3
  | 4, _ => exact mt_w9_4
  | 5, _ => exact mt_w9_5
  | 6, _ => exact mt_w9_6
  | k + 7, hk => exact absurd hk (by omega)
theorem mt_nw9 (xs : List Int32) : ∀ vs, (mt_P xs).2.1 9 = some vs → vs.length = mt_r9.2.2 ∧ ∀ q, q < mt_r9.2.2 → ∃ ty v, parseFieldDescriptor (mt_r9.2.1 q).2.2.1 = some ty ∧ vs[q]? = some v ∧ v = defaultValue ty ∧ mm_vR ((fun _ => 0), (fun _ => 0), (fun _ => .int), []) [] v v := by
  intro vs hvs
  obtain rfl : [.null, .int 0, .int 0, .int 0, .int 0, .int 0, .int 0] = vs := Option.some.inj hvs
  refine ⟨rfl, fun q hq => ?_⟩
  have hq : q < 7 := hq
  match q, hq with
  | 0, h => exact ⟨_, _, mt_ty9_ok 0 h, rfl, rfl, rfl⟩
  | 1, h => exact ⟨_, _, mt_ty9_ok 1 h, rfl, rfl, rfl⟩
  | 2, h => exact ⟨_, _, mt_ty9_ok 2 h, rfl, rfl, rfl⟩
  | 3, h => exact ⟨_, _, mt_ty9_ok 3 h, rfl, rfl, rfl⟩
  | 4, h => exact ⟨_, _, mt_ty9_ok 4 h, rfl, rfl, rfl⟩
  | 5, h => exact ⟨_, _, mt_ty9_ok 5 h, rfl, rfl, rfl⟩
  | 6, h => exact ⟨_, _, mt_ty9_ok 6 h, rfl, rfl, rfl⟩
  | q + 7, hq => exact absurd hq (by omega)
theorem mt_w10_0 : u_lay "PondHouse$Step" mt_T10 0 ∈ mt_Ts := mt_in3 (i := 189) rfl
theorem mt_w10_1 : u_lay "PondHouse$Step" mt_T10 1 ∈ mt_Ts := mt_in3 (i := 191) rfl
theorem mt_w10_2 : u_lay "PondHouse$Step" mt_T10 2 ∈ mt_Ts := mt_in3 (i := 193) rfl
theorem mt_w10_3 : u_lay "PondHouse$Step" mt_T10 3 ∈ mt_Ts := mt_in3 (i := 195) rfl
theorem mt_w10_4 : u_lay "PondHouse$Step" mt_T10 4 ∈ mt_Ts := mt_in3 (i := 197) rfl
theorem mt_w10_5 : u_lay "PondHouse$Step" mt_T10 5 ∈ mt_Ts := mt_in3 (i := 199) rfl
def mt_ty10 : Nat → FieldType := fun k => match k with
  | 0 => .int
  | 1 => .int
  | 2 => .int
  | 3 => .int
  | 4 => .int
  | _ => (.array .int)
theorem mt_ty10_ok : ∀ k, k < 6 → parseFieldDescriptor (mt_T10 k).2.2.1 = some (mt_ty10 k) := by decide +kernel
theorem mt_ok10 : mm_okC mt_Ts mt_r10 := by
  refine ⟨fun w hw => ?_, ⟨mt_ty10, mt_ty10_ok⟩, by decide +kernel⟩
  obtain ⟨k, hk, rfl⟩ := List.mem_map.mp hw
  have hk : k < 6 := List.mem_range.mp hk
  match k, hk with
  | 0, _ => exact mt_w10_0
  | 1, _ => exact mt_w10_1
  | 2, _ => exact mt_w10_2
  | 3, _ => exact mt_w10_3
  | 4, _ => exact mt_w10_4
  | 5, _ => exact mt_w10_5
  | k + 6, hk => exact absurd hk (by omega)
theorem mt_nw10 (xs : List Int32) : ∀ vs, (mt_P xs).2.1 10 = some vs → vs.length = mt_r10.2.2 ∧ ∀ q, q < mt_r10.2.2 → ∃ ty v, parseFieldDescriptor (mt_r10.2.1 q).2.2.1 = some ty ∧ vs[q]? = some v ∧ v = defaultValue ty ∧ mm_vR ((fun _ => 0), (fun _ => 0), (fun _ => .int), []) [] v v := by
  intro vs hvs
  obtain rfl : [.int 0, .int 0, .int 0, .int 0, .int 0, .null] = vs := Option.some.inj hvs
  refine ⟨rfl, fun q hq => ?_⟩
  have hq : q < 6 := hq
  match q, hq with
  | 0, h => exact ⟨_, _, mt_ty10_ok 0 h, rfl, rfl, rfl⟩
  | 1, h => exact ⟨_, _, mt_ty10_ok 1 h, rfl, rfl, rfl⟩
  | 2, h => exact ⟨_, _, mt_ty10_ok 2 h, rfl, rfl, rfl⟩
  | 3, h => exact ⟨_, _, mt_ty10_ok 3 h, rfl, rfl, rfl⟩
  | 4, h => exact ⟨_, _, mt_ty10_ok 4 h, rfl, rfl, rfl⟩
  | 5, h => exact ⟨_, _, mt_ty10_ok 5 h, rfl, rfl, rfl⟩
  | q + 6, hq => exact absurd hq (by omega)
theorem mt_w11_0 : u_lay "PondHouse$Kind" mt_T11 0 ∈ mt_Ts := mt_in4 (i := 86) rfl
theorem mt_w11_1 : u_lay "PondHouse$Kind" mt_T11 1 ∈ mt_Ts := mt_in4 (i := 88) rfl
theorem mt_w11_2 : u_lay "PondHouse$Kind" mt_T11 2 ∈ mt_Ts := mt_in4 (i := 90) rfl
theorem mt_w11_3 : u_lay "PondHouse$Kind" mt_T11 3 ∈ mt_Ts := mt_in4 (i := 92) rfl
theorem mt_w11_4 : u_lay "PondHouse$Kind" mt_T11 4 ∈ mt_Ts := mt_in4 (i := 94) rfl
theorem mt_w11_5 : u_lay "PondHouse$Kind" mt_T11 5 ∈ mt_Ts := mt_in4 (i := 96) rfl
theorem mt_w11_6 : u_lay "PondHouse$Kind" mt_T11 6 ∈ mt_Ts := mt_in4 (i := 98) rfl
theorem mt_w11_7 : u_lay "PondHouse$Kind" mt_T11 7 ∈ mt_Ts := mt_in4 (i := 100) rfl
theorem mt_w11_8 : u_lay "PondHouse$Kind" mt_T11 8 ∈ mt_Ts := mt_in4 (i := 102) rfl
theorem mt_w11_9 : u_lay "PondHouse$Kind" mt_T11 9 ∈ mt_Ts := mt_in4 (i := 104) rfl
theorem mt_w11_10 : u_lay "PondHouse$Kind" mt_T11 10 ∈ mt_Ts := mt_in4 (i := 106) rfl
theorem mt_w11_11 : u_lay "PondHouse$Kind" mt_T11 11 ∈ mt_Ts := mt_in4 (i := 108) rfl
theorem mt_w11_12 : u_lay "PondHouse$Kind" mt_T11 12 ∈ mt_Ts := mt_in4 (i := 110) rfl
theorem mt_w11_13 : u_lay "PondHouse$Kind" mt_T11 13 ∈ mt_Ts := mt_in4 (i := 112) rfl
theorem mt_w11_14 : u_lay "PondHouse$Kind" mt_T11 14 ∈ mt_Ts := mt_in4 (i := 114) rfl
theorem mt_w11_15 : u_lay "PondHouse$Kind" mt_T11 15 ∈ mt_Ts := mt_in4 (i := 116) rfl
theorem mt_w11_16 : u_lay "PondHouse$Kind" mt_T11 16 ∈ mt_Ts := mt_in4 (i := 118) rfl
theorem mt_w11_17 : u_lay "PondHouse$Kind" mt_T11 17 ∈ mt_Ts := mt_in4 (i := 120) rfl
theorem mt_w11_18 : u_lay "PondHouse$Kind" mt_T11 18 ∈ mt_Ts := mt_in4 (i := 122) rfl
def mt_ty11 : Nat → FieldType := fun k => match k with
  | 0 => .int
  | 1 => (.object "PondHouse$Kind")
  | 2 => .int
  | 3 => .boolean
  | 4 => .int
  | 5 => (.array .int)
  | 6 => (.array .int)
  | 7 => (.array .int)
  | 8 => .int
  | 9 => (.array .int)
  | 10 => (.array .int)
  | 11 => .int
  | 12 => (.array .int)
  | 13 => (.array (.array .int))
  | 14 => (.array .boolean)
  | 15 => (.array (.object "PondHouse$Kind"))
  | 16 => (.array .int)
  | 17 => (.array (.object "PondHouse$Kind"))
  | _ => (.array .int)
theorem mt_ty11_ok : ∀ k, k < 19 → parseFieldDescriptor (mt_T11 k).2.2.1 = some (mt_ty11 k) := by decide +kernel
theorem mt_ok11 : mm_okC mt_Ts mt_r11 := by
  refine ⟨fun w hw => ?_, ⟨mt_ty11, mt_ty11_ok⟩, by decide +kernel⟩
  obtain ⟨k, hk, rfl⟩ := List.mem_map.mp hw
  have hk : k < 19 := List.mem_range.mp hk
  match k, hk with
  | 0, _ => exact mt_w11_0
  | 1, _ => exact mt_w11_1
  | 2, _ => exact mt_w11_2
  | 3, _ => exact mt_w11_3
  | 4, _ => exact mt_w11_4
  | 5, _ => exact mt_w11_5
  | 6, _ => exact mt_w11_6
  | 7, _ => exact mt_w11_7
  | 8, _ => exact mt_w11_8
  | 9, _ => exact mt_w11_9
  | 10, _ => exact mt_w11_10
  | 11, _ => exact mt_w11_11
  | 12, _ => exact mt_w11_12
  | 13, _ => exact mt_w11_13
  | 14, _ => exact mt_w11_14
  | 15, _ => exact mt_w11_15
  | 16, _ => exact mt_w11_16
  | 17, _ => exact mt_w11_17
  | 18, _ => exact mt_w11_18
  | k + 19, hk => exact absurd hk (by omega)
theorem mt_nw11 (xs : List Int32) : ∀ vs, (mt_P xs).2.1 11 = some vs → vs.length = mt_r11.2.2 ∧ ∀ q, q < mt_r11.2.2 → ∃ ty v, parseFieldDescriptor (mt_r11.2.1 q).2.2.1 = some ty ∧ vs[q]? = some v ∧ v = defaultValue ty ∧ mm_vR ((fun _ => 0), (fun _ => 0), (fun _ => .int), []) [] v v := by
  intro vs hvs
  obtain rfl : [.int 0, .null, .int 0, .int 0, .int 0, .null, .null, .null, .int 0, .null, .null, .int 0, .null, .null, .null, .null, .null, .null, .null] = vs := Option.some.inj hvs
  refine ⟨rfl, fun q hq => ?_⟩
  have hq : q < 19 := hq
  match q, hq with
  | 0, h => exact ⟨_, _, mt_ty11_ok 0 h, rfl, rfl, rfl⟩
  | 1, h => exact ⟨_, _, mt_ty11_ok 1 h, rfl, rfl, rfl⟩
  | 2, h => exact ⟨_, _, mt_ty11_ok 2 h, rfl, rfl, rfl⟩
  | 3, h => exact ⟨_, _, mt_ty11_ok 3 h, rfl, rfl, rfl⟩
  | 4, h => exact ⟨_, _, mt_ty11_ok 4 h, rfl, rfl, rfl⟩
  | 5, h => exact ⟨_, _, mt_ty11_ok 5 h, rfl, rfl, rfl⟩
  | 6, h => exact ⟨_, _, mt_ty11_ok 6 h, rfl, rfl, rfl⟩
  | 7, h => exact ⟨_, _, mt_ty11_ok 7 h, rfl, rfl, rfl⟩
  | 8, h => exact ⟨_, _, mt_ty11_ok 8 h, rfl, rfl, rfl⟩
  | 9, h => exact ⟨_, _, mt_ty11_ok 9 h, rfl, rfl, rfl⟩
  | 10, h => exact ⟨_, _, mt_ty11_ok 10 h, rfl, rfl, rfl⟩
  | 11, h => exact ⟨_, _, mt_ty11_ok 11 h, rfl, rfl, rfl⟩
  | 12, h => exact ⟨_, _, mt_ty11_ok 12 h, rfl, rfl, rfl⟩
  | 13, h => exact ⟨_, _, mt_ty11_ok 13 h, rfl, rfl, rfl⟩
  | 14, h => exact ⟨_, _, mt_ty11_ok 14 h, rfl, rfl, rfl⟩
  | 15, h => exact ⟨_, _, mt_ty11_ok 15 h, rfl, rfl, rfl⟩
  | 16, h => exact ⟨_, _, mt_ty11_ok 16 h, rfl, rfl, rfl⟩
  | 17, h => exact ⟨_, _, mt_ty11_ok 17 h, rfl, rfl, rfl⟩
  | 18, h => exact ⟨_, _, mt_ty11_ok 18 h, rfl, rfl, rfl⟩
  | q + 19, hq => exact absurd hq (by omega)
theorem mt_w12_0 : u_lay "PondHouse$Patch" mt_T12 0 ∈ mt_Ts := mt_in5 (i := 52) rfl
theorem mt_w12_1 : u_lay "PondHouse$Patch" mt_T12 1 ∈ mt_Ts := mt_in5 (i := 54) rfl
def mt_ty12 : Nat → FieldType := fun k => match k with
  | 0 => (.object "java/util/ArrayList")
  | _ => .int
theorem mt_ty12_ok : ∀ k, k < 2 → parseFieldDescriptor (mt_T12 k).2.2.1 = some (mt_ty12 k) := by decide +kernel
theorem mt_ok12 : mm_okC mt_Ts mt_r12 := by
  refine ⟨fun w hw => ?_, ⟨mt_ty12, mt_ty12_ok⟩, by decide +kernel⟩
  obtain ⟨k, hk, rfl⟩ := List.mem_map.mp hw
  have hk : k < 2 := List.mem_range.mp hk
  match k, hk with
  | 0, _ => exact mt_w12_0
  | 1, _ => exact mt_w12_1
  | k + 2, hk => exact absurd hk (by omega)
theorem mt_nw12 (xs : List Int32) : ∀ vs, (mt_P xs).2.1 12 = some vs → vs.length = mt_r12.2.2 ∧ ∀ q, q < mt_r12.2.2 → ∃ ty v, parseFieldDescriptor (mt_r12.2.1 q).2.2.1 = some ty ∧ vs[q]? = some v ∧ v = defaultValue ty ∧ mm_vR ((fun _ => 0), (fun _ => 0), (fun _ => .int), []) [] v v := by
  intro vs hvs
  obtain rfl : [.null, .int 0] = vs := Option.some.inj hvs
  refine ⟨rfl, fun q hq => ?_⟩
  have hq : q < 2 := hq
  match q, hq with
  | 0, h => exact ⟨_, _, mt_ty12_ok 0 h, rfl, rfl, rfl⟩
  | 1, h => exact ⟨_, _, mt_ty12_ok 1 h, rfl, rfl, rfl⟩
  | q + 2, hq => exact absurd hq (by omega)
theorem mt_w13_0 : u_lay "PondHouseModel" mt_T13 0 ∈ mt_Ts := mt_in7 (i := 42) rfl
theorem mt_w13_1 : u_lay "PondHouseModel" mt_T13 1 ∈ mt_Ts := mt_in7 (i := 44) rfl
theorem mt_w13_2 : u_lay "PondHouseModel" mt_T13 2 ∈ mt_Ts := mt_in7 (i := 46) rfl
theorem mt_w13_3 : u_lay "PondHouseModel" mt_T13 3 ∈ mt_Ts := mt_in7 (i := 48) rfl
theorem mt_w13_4 : u_lay "PondHouseModel" mt_T13 4 ∈ mt_Ts := mt_in7 (i := 50) rfl
theorem mt_w13_5 : u_lay "PondHouseModel" mt_T13 5 ∈ mt_Ts := mt_in7 (i := 52) rfl
theorem mt_w13_6 : u_lay "PondHouseModel" mt_T13 6 ∈ mt_Ts := mt_in7 (i := 54) rfl
theorem mt_w13_7 : u_lay "PondHouseModel" mt_T13 7 ∈ mt_Ts := mt_in7 (i := 56) rfl
theorem mt_w13_8 : u_lay "PondHouseModel" mt_T13 8 ∈ mt_Ts := mt_in7 (i := 58) rfl
theorem mt_w13_9 : u_lay "PondHouseModel" mt_T13 9 ∈ mt_Ts := mt_in7 (i := 60) rfl
theorem mt_w13_10 : u_lay "PondHouseModel" mt_T13 10 ∈ mt_Ts := mt_in7 (i := 62) rfl
theorem mt_w13_11 : u_lay "PondHouseModel" mt_T13 11 ∈ mt_Ts := mt_in7 (i := 64) rfl
theorem mt_w13_12 : u_lay "PondHouseModel" mt_T13 12 ∈ mt_Ts := mt_in7 (i := 66) rfl
theorem mt_w13_13 : u_lay "PondHouseModel" mt_T13 13 ∈ mt_Ts := mt_in7 (i := 68) rfl
theorem mt_w13_14 : u_lay "PondHouseModel" mt_T13 14 ∈ mt_Ts := mt_in7 (i := 70) rfl
theorem mt_w13_15 : u_lay "PondHouseModel" mt_T13 15 ∈ mt_Ts := mt_in7 (i := 72) rfl
theorem mt_w13_16 : u_lay "PondHouseModel" mt_T13 16 ∈ mt_Ts := mt_in7 (i := 74) rfl
theorem mt_w13_17 : u_lay "PondHouseModel" mt_T13 17 ∈ mt_Ts := mt_in7 (i := 76) rfl
theorem mt_w13_18 : u_lay "PondHouseModel" mt_T13 18 ∈ mt_Ts := mt_in7 (i := 78) rfl
theorem mt_w13_19 : u_lay "PondHouseModel" mt_T13 19 ∈ mt_Ts := mt_in7 (i := 80) rfl
theorem mt_w13_20 : u_lay "PondHouseModel" mt_T13 20 ∈ mt_Ts := mt_in7 (i := 82) rfl
theorem mt_w13_21 : u_lay "PondHouseModel" mt_T13 21 ∈ mt_Ts := mt_in7 (i := 84) rfl
theorem mt_w13_22 : u_lay "PondHouseModel" mt_T13 22 ∈ mt_Ts := mt_in7 (i := 86) rfl
theorem mt_w13_23 : u_lay "PondHouseModel" mt_T13 23 ∈ mt_Ts := mt_in7 (i := 88) rfl
theorem mt_w13_24 : u_lay "PondHouseModel" mt_T13 24 ∈ mt_Ts := mt_in7 (i := 90) rfl
theorem mt_w13_25 : u_lay "PondHouseModel" mt_T13 25 ∈ mt_Ts := mt_in7 (i := 92) rfl
theorem mt_w13_26 : u_lay "PondHouseModel" mt_T13 26 ∈ mt_Ts := mt_in7 (i := 94) rfl
theorem mt_w13_27 : u_lay "PondHouseModel" mt_T13 27 ∈ mt_Ts := mt_in7 (i := 96) rfl
theorem mt_w13_28 : u_lay "PondHouseModel" mt_T13 28 ∈ mt_Ts := mt_in7 (i := 98) rfl
theorem mt_w13_29 : u_lay "PondHouseModel" mt_T13 29 ∈ mt_Ts := mt_in7 (i := 100) rfl
theorem mt_w13_30 : u_lay "PondHouseModel" mt_T13 30 ∈ mt_Ts := mt_in7 (i := 102) rfl
theorem mt_w13_31 : u_lay "PondHouseModel" mt_T13 31 ∈ mt_Ts := mt_in7 (i := 104) rfl
theorem mt_w13_32 : u_lay "PondHouseModel" mt_T13 32 ∈ mt_Ts := mt_in7 (i := 106) rfl
theorem mt_w13_33 : u_lay "PondHouseModel" mt_T13 33 ∈ mt_Ts := mt_in7 (i := 108) rfl
theorem mt_w13_34 : u_lay "PondHouseModel" mt_T13 34 ∈ mt_Ts := mt_in7 (i := 110) rfl
theorem mt_w13_35 : u_lay "PondHouseModel" mt_T13 35 ∈ mt_Ts := mt_in7 (i := 112) rfl
theorem mt_w13_36 : u_lay "PondHouseModel" mt_T13 36 ∈ mt_Ts := mt_in7 (i := 114) rfl
theorem mt_w13_37 : u_lay "PondHouseModel" mt_T13 37 ∈ mt_Ts := mt_in7 (i := 116) rfl
theorem mt_w13_38 : u_lay "PondHouseModel" mt_T13 38 ∈ mt_Ts := mt_in7 (i := 118) rfl
theorem mt_w13_39 : u_lay "PondHouseModel" mt_T13 39 ∈ mt_Ts := mt_in7 (i := 120) rfl
theorem mt_w13_40 : u_lay "PondHouseModel" mt_T13 40 ∈ mt_Ts := mt_in7 (i := 122) rfl
theorem mt_w13_41 : u_lay "PondHouseModel" mt_T13 41 ∈ mt_Ts := mt_in7 (i := 124) rfl
theorem mt_w13_42 : u_lay "PondHouseModel" mt_T13 42 ∈ mt_Ts := mt_in7 (i := 126) rfl
theorem mt_w13_43 : u_lay "PondHouseModel" mt_T13 43 ∈ mt_Ts := mt_in7 (i := 128) rfl
theorem mt_w13_44 : u_lay "PondHouseModel" mt_T13 44 ∈ mt_Ts := mt_in7 (i := 130) rfl
theorem mt_w13_45 : u_lay "PondHouseModel" mt_T13 45 ∈ mt_Ts := mt_in7 (i := 132) rfl
theorem mt_w13_46 : u_lay "PondHouseModel" mt_T13 46 ∈ mt_Ts := mt_in7 (i := 134) rfl
theorem mt_w13_47 : u_lay "PondHouseModel" mt_T13 47 ∈ mt_Ts := mt_in7 (i := 136) rfl
theorem mt_w13_48 : u_lay "PondHouseModel" mt_T13 48 ∈ mt_Ts := mt_in7 (i := 138) rfl
theorem mt_w13_49 : u_lay "PondHouseModel" mt_T13 49 ∈ mt_Ts := mt_in7 (i := 140) rfl
theorem mt_w13_50 : u_lay "PondHouseModel" mt_T13 50 ∈ mt_Ts := mt_in7 (i := 142) rfl
theorem mt_w13_51 : u_lay "PondHouseModel" mt_T13 51 ∈ mt_Ts := mt_in7 (i := 144) rfl
theorem mt_w13_52 : u_lay "PondHouseModel" mt_T13 52 ∈ mt_Ts := mt_in7 (i := 146) rfl
theorem mt_w13_53 : u_lay "PondHouseModel" mt_T13 53 ∈ mt_Ts := mt_in7 (i := 148) rfl
theorem mt_w13_54 : u_lay "PondHouseModel" mt_T13 54 ∈ mt_Ts := mt_in7 (i := 150) rfl
theorem mt_w13_55 : u_lay "PondHouseModel" mt_T13 55 ∈ mt_Ts := mt_in7 (i := 152) rfl
theorem mt_w13_56 : u_lay "PondHouseModel" mt_T13 56 ∈ mt_Ts := mt_in7 (i := 154) rfl
theorem mt_w13_57 : u_lay "PondHouseModel" mt_T13 57 ∈ mt_Ts := mt_in7 (i := 156) rfl
theorem mt_w13_58 : u_lay "PondHouseModel" mt_T13 58 ∈ mt_Ts := mt_in7 (i := 158) rfl
theorem mt_w13_59 : u_lay "PondHouseModel" mt_T13 59 ∈ mt_Ts := mt_in7 (i := 160) rfl
theorem mt_w13_60 : u_lay "PondHouseModel" mt_T13 60 ∈ mt_Ts := mt_in7 (i := 162) rfl
theorem mt_w13_61 : u_lay "PondHouseModel" mt_T13 61 ∈ mt_Ts := mt_in7 (i := 164) rfl
theorem mt_w13_62 : u_lay "PondHouseModel" mt_T13 62 ∈ mt_Ts := mt_in7 (i := 166) rfl
theorem mt_w13_63 : u_lay "PondHouseModel" mt_T13 63 ∈ mt_Ts := mt_in7 (i := 168) rfl
theorem mt_w13_64 : u_lay "PondHouseModel" mt_T13 64 ∈ mt_Ts := mt_in7 (i := 170) rfl
theorem mt_w13_65 : u_lay "PondHouseModel" mt_T13 65 ∈ mt_Ts := mt_in7 (i := 172) rfl
theorem mt_w13_66 : u_lay "PondHouseModel" mt_T13 66 ∈ mt_Ts := mt_in7 (i := 174) rfl
theorem mt_w13_67 : u_lay "PondHouseModel" mt_T13 67 ∈ mt_Ts := mt_in7 (i := 176) rfl
theorem mt_w13_68 : u_lay "PondHouseModel" mt_T13 68 ∈ mt_Ts := mt_in7 (i := 178) rfl
theorem mt_w13_69 : u_lay "PondHouseModel" mt_T13 69 ∈ mt_Ts := mt_in7 (i := 180) rfl
theorem mt_w13_70 : u_lay "PondHouseModel" mt_T13 70 ∈ mt_Ts := mt_in7 (i := 182) rfl
theorem mt_w13_71 : u_lay "PondHouseModel" mt_T13 71 ∈ mt_Ts := mt_in7 (i := 184) rfl
theorem mt_w13_72 : u_lay "PondHouseModel" mt_T13 72 ∈ mt_Ts := mt_in7 (i := 186) rfl
theorem mt_w13_73 : u_lay "PondHouseModel" mt_T13 73 ∈ mt_Ts := mt_in7 (i := 188) rfl
theorem mt_w13_74 : u_lay "PondHouseModel" mt_T13 74 ∈ mt_Ts := mt_in7 (i := 190) rfl
theorem mt_w13_75 : u_lay "PondHouseModel" mt_T13 75 ∈ mt_Ts := mt_in7 (i := 192) rfl
theorem mt_w13_76 : u_lay "PondHouseModel" mt_T13 76 ∈ mt_Ts := mt_in7 (i := 194) rfl
theorem mt_w13_77 : u_lay "PondHouseModel" mt_T13 77 ∈ mt_Ts := mt_in7 (i := 196) rfl
theorem mt_w13_78 : u_lay "PondHouseModel" mt_T13 78 ∈ mt_Ts := mt_in7 (i := 198) rfl
theorem mt_w13_79 : u_lay "PondHouseModel" mt_T13 79 ∈ mt_Ts := mt_in7 (i := 200) rfl
theorem mt_w13_80 : u_lay "PondHouseModel" mt_T13 80 ∈ mt_Ts := mt_in7 (i := 202) rfl
theorem mt_w13_81 : u_lay "PondHouseModel" mt_T13 81 ∈ mt_Ts := mt_in7 (i := 204) rfl
theorem mt_w13_82 : u_lay "PondHouseModel" mt_T13 82 ∈ mt_Ts := mt_in7 (i := 206) rfl
theorem mt_w13_83 : u_lay "PondHouseModel" mt_T13 83 ∈ mt_Ts := mt_in7 (i := 208) rfl
theorem mt_w13_84 : u_lay "PondHouseModel" mt_T13 84 ∈ mt_Ts := mt_in7 (i := 210) rfl
theorem mt_w13_85 : u_lay "PondHouseModel" mt_T13 85 ∈ mt_Ts := mt_in7 (i := 212) rfl
theorem mt_w13_86 : u_lay "PondHouseModel" mt_T13 86 ∈ mt_Ts := mt_in7 (i := 214) rfl
theorem mt_w13_87 : u_lay "PondHouseModel" mt_T13 87 ∈ mt_Ts := mt_in7 (i := 216) rfl
theorem mt_w13_88 : u_lay "PondHouseModel" mt_T13 88 ∈ mt_Ts := mt_in7 (i := 218) rfl
theorem mt_w13_89 : u_lay "PondHouseModel" mt_T13 89 ∈ mt_Ts := mt_in7 (i := 220) rfl
theorem mt_w13_90 : u_lay "PondHouseModel" mt_T13 90 ∈ mt_Ts := mt_in7 (i := 222) rfl
theorem mt_w13_91 : u_lay "PondHouseModel" mt_T13 91 ∈ mt_Ts := mt_in7 (i := 224) rfl
theorem mt_w13_92 : u_lay "PondHouseModel" mt_T13 92 ∈ mt_Ts := mt_in7 (i := 226) rfl
theorem mt_w13_93 : u_lay "PondHouseModel" mt_T13 93 ∈ mt_Ts := mt_in7 (i := 228) rfl
theorem mt_w13_94 : u_lay "PondHouseModel" mt_T13 94 ∈ mt_Ts := mt_in7 (i := 230) rfl
def mt_ty13 : Nat → FieldType := fun k => match k with
  | 0 => (.array .int)
  | 1 => .int
  | 2 => .int
  | 3 => .int
  | 4 => .int
  | 5 => .int
  | 6 => (.array .long)
  | 7 => .int
  | 8 => (.array .long)
  | 9 => .boolean
  | 10 => .long
  | 11 => .int
  | 12 => .int
  | 13 => .int
  | 14 => .int
  | 15 => (.array .int)
  | 16 => .int
  | 17 => .int
  | 18 => .int
  | 19 => .int
  | 20 => .int
  | 21 => .int
  | 22 => .int
  | 23 => (.array .int)
  | 24 => .int
  | 25 => .int
  | 26 => .int
  | 27 => .int
  | 28 => .int
  | 29 => .int
  | 30 => .int
  | 31 => (.array .int)
  | 32 => (.array .int)
  | 33 => .int
  | 34 => (.array .boolean)
  | 35 => (.array .int)
  | 36 => (.array .int)
  | 37 => (.array .int)
  | 38 => (.array .boolean)
  | 39 => .int
  | 40 => .int
  | 41 => .int
  | 42 => .boolean
  | 43 => (.array .int)
  | 44 => (.array .int)
  | 45 => (.array .int)
  | 46 => (.array .int)
  | 47 => (.array .int)
  | 48 => (.array .int)
  | 49 => (.array .int)
  | 50 => (.array .int)
  | 51 => (.array .int)
  | 52 => .int
  | 53 => (.array .int)
  | 54 => .int
  | 55 => .int
  | 56 => .int
  | 57 => .int
  | 58 => .int
  | 59 => .int
  | 60 => .boolean
  | 61 => (.array .int)
  | 62 => (.array .int)
  | 63 => (.array .int)
  | 64 => (.array .int)
  | 65 => (.array .int)
  | 66 => .int
  | 67 => (.array .boolean)
  | 68 => (.array .boolean)
  | 69 => (.array .boolean)
  | 70 => (.array .int)
  | 71 => (.array .int)
  | 72 => (.array .int)
  | 73 => (.array .int)
  | 74 => (.array .int)
  | 75 => (.array .int)
  | 76 => (.array .int)
  | 77 => (.array .int)
  | 78 => (.array .int)
  | 79 => (.array .int)
  | 80 => (.array .int)
  | 81 => (.array .int)
  | 82 => .int
  | 83 => .int
  | 84 => .int
  | 85 => (.array .int)
  | 86 => (.array .int)
  | 87 => (.array .int)
  | 88 => (.array .boolean)
  | 89 => (.array .boolean)
  | 90 => (.array .int)
  | 91 => (.array .int)
  | 92 => (.array .int)
  | 93 => (.array .int)
  | _ => (.array .int)
theorem mt_ty13_ok : ∀ k, k < 95 → parseFieldDescriptor (mt_T13 k).2.2.1 = some (mt_ty13 k) := by decide +kernel
theorem mt_ok13 : mm_okC mt_Ts mt_r13 := by
  refine ⟨fun w hw => ?_, ⟨mt_ty13, mt_ty13_ok⟩, by decide +kernel⟩
  obtain ⟨k, hk, rfl⟩ := List.mem_map.mp hw
  have hk : k < 95 := List.mem_range.mp hk
  match k, hk with
  | 0, _ => exact mt_w13_0
  | 1, _ => exact mt_w13_1
  | 2, _ => exact mt_w13_2
  | 3, _ => exact mt_w13_3
  | 4, _ => exact mt_w13_4
  | 5, _ => exact mt_w13_5
  | 6, _ => exact mt_w13_6
  | 7, _ => exact mt_w13_7
  | 8, _ => exact mt_w13_8
  | 9, _ => exact mt_w13_9
  | 10, _ => exact mt_w13_10
  | 11, _ => exact mt_w13_11
  | 12, _ => exact mt_w13_12
  | 13, _ => exact mt_w13_13
  | 14, _ => exact mt_w13_14
  | 15, _ => exact mt_w13_15
  | 16, _ => exact mt_w13_16
  | 17, _ => exact mt_w13_17
  | 18, _ => exact mt_w13_18
  | 19, _ => exact mt_w13_19
  | 20, _ => exact mt_w13_20
  | 21, _ => exact mt_w13_21
  | 22, _ => exact mt_w13_22
  | 23, _ => exact mt_w13_23
  | 24, _ => exact mt_w13_24
  | 25, _ => exact mt_w13_25
  | 26, _ => exact mt_w13_26
  | 27, _ => exact mt_w13_27
  | 28, _ => exact mt_w13_28
  | 29, _ => exact mt_w13_29
  | 30, _ => exact mt_w13_30
  | 31, _ => exact mt_w13_31
  | 32, _ => exact mt_w13_32
  | 33, _ => exact mt_w13_33
  | 34, _ => exact mt_w13_34
  | 35, _ => exact mt_w13_35
  | 36, _ => exact mt_w13_36
  | 37, _ => exact mt_w13_37
  | 38, _ => exact mt_w13_38
  | 39, _ => exact mt_w13_39
  | 40, _ => exact mt_w13_40
  | 41, _ => exact mt_w13_41
  | 42, _ => exact mt_w13_42
  | 43, _ => exact mt_w13_43
  | 44, _ => exact mt_w13_44
  | 45, _ => exact mt_w13_45
  | 46, _ => exact mt_w13_46
  | 47, _ => exact mt_w13_47
  | 48, _ => exact mt_w13_48
  | 49, _ => exact mt_w13_49
  | 50, _ => exact mt_w13_50
  | 51, _ => exact mt_w13_51
  | 52, _ => exact mt_w13_52
  | 53, _ => exact mt_w13_53
  | 54, _ => exact mt_w13_54
  | 55, _ => exact mt_w13_55
  | 56, _ => exact mt_w13_56
  | 57, _ => exact mt_w13_57
  | 58, _ => exact mt_w13_58
  | 59, _ => exact mt_w13_59
  | 60, _ => exact mt_w13_60
  | 61, _ => exact mt_w13_61
  | 62, _ => exact mt_w13_62
  | 63, _ => exact mt_w13_63
  | 64, _ => exact mt_w13_64
  | 65, _ => exact mt_w13_65
  | 66, _ => exact mt_w13_66
  | 67, _ => exact mt_w13_67
  | 68, _ => exact mt_w13_68
  | 69, _ => exact mt_w13_69
  | 70, _ => exact mt_w13_70
  | 71, _ => exact mt_w13_71
  | 72, _ => exact mt_w13_72
  | 73, _ => exact mt_w13_73
  | 74, _ => exact mt_w13_74
  | 75, _ => exact mt_w13_75
  | 76, _ => exact mt_w13_76
  | 77, _ => exact mt_w13_77
  | 78, _ => exact mt_w13_78
  | 79, _ => exact mt_w13_79
  | 80, _ => exact mt_w13_80
  | 81, _ => exact mt_w13_81
  | 82, _ => exact mt_w13_82
  | 83, _ => exact mt_w13_83
  | 84, _ => exact mt_w13_84
  | 85, _ => exact mt_w13_85
  | 86, _ => exact mt_w13_86
  | 87, _ => exact mt_w13_87
  | 88, _ => exact mt_w13_88
  | 89, _ => exact mt_w13_89
  | 90, _ => exact mt_w13_90
  | 91, _ => exact mt_w13_91
  | 92, _ => exact mt_w13_92
  | 93, _ => exact mt_w13_93
  | 94, _ => exact mt_w13_94
  | k + 95, hk => exact absurd hk (by omega)
theorem mt_nw13 (xs : List Int32) : ∀ vs, (mt_P xs).2.1 13 = some vs → vs.length = mt_r13.2.2 ∧ ∀ q, q < mt_r13.2.2 → ∃ ty v, parseFieldDescriptor (mt_r13.2.1 q).2.2.1 = some ty ∧ vs[q]? = some v ∧ v = defaultValue ty ∧ mm_vR ((fun _ => 0), (fun _ => 0), (fun _ => .int), []) [] v v := by
  intro vs hvs
  obtain rfl : [.null, .int 0, .int 0, .int 0, .int 0, .int 0, .null, .int 0, .null, .int 0, .long 0, .int 0, .int 0, .int 0, .int 0, .null, .int 0, .int 0, .int 0, .int 0, .int 0, .int 0, .int 0, .null, .int 0, .int 0, .int 0, .int 0, .int 0, .int 0, .int 0, .null, .null, .int 0, .null, .null, .null, .null, .null, .int 0, .int 0, .int 0, .int 0, .null, .null, .null, .null, .null, .null, .null, .null, .null, .int 0, .null, .int 0, .int 0, .int 0, .int 0, .int 0, .int 0, .int 0, .null, .null, .null, .null, .null, .int 0, .null, .null, .null, .null, .null, .null, .null, .null, .null, .null, .null, .null, .null, .null, .null, .int 0, .int 0, .int 0, .null, .null, .null, .null, .null, .null, .null, .null, .null, .null] = vs := Option.some.inj hvs
  refine ⟨rfl, fun q hq => ?_⟩
  have hq : q < 95 := hq
  match q, hq with
  | 0, h => exact ⟨_, _, mt_ty13_ok 0 h, rfl, rfl, rfl⟩
  | 1, h => exact ⟨_, _, mt_ty13_ok 1 h, rfl, rfl, rfl⟩
  | 2, h => exact ⟨_, _, mt_ty13_ok 2 h, rfl, rfl, rfl⟩
  | 3, h => exact ⟨_, _, mt_ty13_ok 3 h, rfl, rfl, rfl⟩
  | 4, h => exact ⟨_, _, mt_ty13_ok 4 h, rfl, rfl, rfl⟩
  | 5, h => exact ⟨_, _, mt_ty13_ok 5 h, rfl, rfl, rfl⟩
  | 6, h => exact ⟨_, _, mt_ty13_ok 6 h, rfl, rfl, rfl⟩
  | 7, h => exact ⟨_, _, mt_ty13_ok 7 h, rfl, rfl, rfl⟩
  | 8, h => exact ⟨_, _, mt_ty13_ok 8 h, rfl, rfl, rfl⟩
  | 9, h => exact ⟨_, _, mt_ty13_ok 9 h, rfl, rfl, rfl⟩
  | 10, h => exact ⟨_, _, mt_ty13_ok 10 h, rfl, rfl, rfl⟩
  | 11, h => exact ⟨_, _, mt_ty13_ok 11 h, rfl, rfl, rfl⟩
  | 12, h => exact ⟨_, _, mt_ty13_ok 12 h, rfl, rfl, rfl⟩
  | 13, h => exact ⟨_, _, mt_ty13_ok 13 h, rfl, rfl, rfl⟩
  | 14, h => exact ⟨_, _, mt_ty13_ok 14 h, rfl, rfl, rfl⟩
  | 15, h => exact ⟨_, _, mt_ty13_ok 15 h, rfl, rfl, rfl⟩
  | 16, h => exact ⟨_, _, mt_ty13_ok 16 h, rfl, rfl, rfl⟩
  | 17, h => exact ⟨_, _, mt_ty13_ok 17 h, rfl, rfl, rfl⟩
  | 18, h => exact ⟨_, _, mt_ty13_ok 18 h, rfl, rfl, rfl⟩
  | 19, h => exact ⟨_, _, mt_ty13_ok 19 h, rfl, rfl, rfl⟩
  | 20, h => exact ⟨_, _, mt_ty13_ok 20 h, rfl, rfl, rfl⟩
  | 21, h => exact ⟨_, _, mt_ty13_ok 21 h, rfl, rfl, rfl⟩
  | 22, h => exact ⟨_, _, mt_ty13_ok 22 h, rfl, rfl, rfl⟩
  | 23, h => exact ⟨_, _, mt_ty13_ok 23 h, rfl, rfl, rfl⟩
  | 24, h => exact ⟨_, _, mt_ty13_ok 24 h, rfl, rfl, rfl⟩
  | 25, h => exact ⟨_, _, mt_ty13_ok 25 h, rfl, rfl, rfl⟩
  | 26, h => exact ⟨_, _, mt_ty13_ok 26 h, rfl, rfl, rfl⟩
  | 27, h => exact ⟨_, _, mt_ty13_ok 27 h, rfl, rfl, rfl⟩
  | 28, h => exact ⟨_, _, mt_ty13_ok 28 h, rfl, rfl, rfl⟩
  | 29, h => exact ⟨_, _, mt_ty13_ok 29 h, rfl, rfl, rfl⟩
  | 30, h => exact ⟨_, _, mt_ty13_ok 30 h, rfl, rfl, rfl⟩
  | 31, h => exact ⟨_, _, mt_ty13_ok 31 h, rfl, rfl, rfl⟩
  | 32, h => exact ⟨_, _, mt_ty13_ok 32 h, rfl, rfl, rfl⟩
  | 33, h => exact ⟨_, _, mt_ty13_ok 33 h, rfl, rfl, rfl⟩
  | 34, h => exact ⟨_, _, mt_ty13_ok 34 h, rfl, rfl, rfl⟩
  | 35, h => exact ⟨_, _, mt_ty13_ok 35 h, rfl, rfl, rfl⟩
  | 36, h => exact ⟨_, _, mt_ty13_ok 36 h, rfl, rfl, rfl⟩
  | 37, h => exact ⟨_, _, mt_ty13_ok 37 h, rfl, rfl, rfl⟩
  | 38, h => exact ⟨_, _, mt_ty13_ok 38 h, rfl, rfl, rfl⟩
  | 39, h => exact ⟨_, _, mt_ty13_ok 39 h, rfl, rfl, rfl⟩
  | 40, h => exact ⟨_, _, mt_ty13_ok 40 h, rfl, rfl, rfl⟩
  | 41, h => exact ⟨_, _, mt_ty13_ok 41 h, rfl, rfl, rfl⟩
  | 42, h => exact ⟨_, _, mt_ty13_ok 42 h, rfl, rfl, rfl⟩
  | 43, h => exact ⟨_, _, mt_ty13_ok 43 h, rfl, rfl, rfl⟩
  | 44, h => exact ⟨_, _, mt_ty13_ok 44 h, rfl, rfl, rfl⟩
  | 45, h => exact ⟨_, _, mt_ty13_ok 45 h, rfl, rfl, rfl⟩
  | 46, h => exact ⟨_, _, mt_ty13_ok 46 h, rfl, rfl, rfl⟩
  | 47, h => exact ⟨_, _, mt_ty13_ok 47 h, rfl, rfl, rfl⟩
  | 48, h => exact ⟨_, _, mt_ty13_ok 48 h, rfl, rfl, rfl⟩
  | 49, h => exact ⟨_, _, mt_ty13_ok 49 h, rfl, rfl, rfl⟩
  | 50, h => exact ⟨_, _, mt_ty13_ok 50 h, rfl, rfl, rfl⟩
  | 51, h => exact ⟨_, _, mt_ty13_ok 51 h, rfl, rfl, rfl⟩
  | 52, h => exact ⟨_, _, mt_ty13_ok 52 h, rfl, rfl, rfl⟩
  | 53, h => exact ⟨_, _, mt_ty13_ok 53 h, rfl, rfl, rfl⟩
  | 54, h => exact ⟨_, _, mt_ty13_ok 54 h, rfl, rfl, rfl⟩
  | 55, h => exact ⟨_, _, mt_ty13_ok 55 h, rfl, rfl, rfl⟩
  | 56, h => exact ⟨_, _, mt_ty13_ok 56 h, rfl, rfl, rfl⟩
  | 57, h => exact ⟨_, _, mt_ty13_ok 57 h, rfl, rfl, rfl⟩
  | 58, h => exact ⟨_, _, mt_ty13_ok 58 h, rfl, rfl, rfl⟩
  | 59, h => exact ⟨_, _, mt_ty13_ok 59 h, rfl, rfl, rfl⟩
  | 60, h => exact ⟨_, _, mt_ty13_ok 60 h, rfl, rfl, rfl⟩
  | 61, h => exact ⟨_, _, mt_ty13_ok 61 h, rfl, rfl, rfl⟩
  | 62, h => exact ⟨_, _, mt_ty13_ok 62 h, rfl, rfl, rfl⟩
  | 63, h => exact ⟨_, _, mt_ty13_ok 63 h, rfl, rfl, rfl⟩
  | 64, h => exact ⟨_, _, mt_ty13_ok 64 h, rfl, rfl, rfl⟩
  | 65, h => exact ⟨_, _, mt_ty13_ok 65 h, rfl, rfl, rfl⟩
  | 66, h => exact ⟨_, _, mt_ty13_ok 66 h, rfl, rfl, rfl⟩
  | 67, h => exact ⟨_, _, mt_ty13_ok 67 h, rfl, rfl, rfl⟩
  | 68, h => exact ⟨_, _, mt_ty13_ok 68 h, rfl, rfl, rfl⟩
  | 69, h => exact ⟨_, _, mt_ty13_ok 69 h, rfl, rfl, rfl⟩
  | 70, h => exact ⟨_, _, mt_ty13_ok 70 h, rfl, rfl, rfl⟩
  | 71, h => exact ⟨_, _, mt_ty13_ok 71 h, rfl, rfl, rfl⟩
  | 72, h => exact ⟨_, _, mt_ty13_ok 72 h, rfl, rfl, rfl⟩
  | 73, h => exact ⟨_, _, mt_ty13_ok 73 h, rfl, rfl, rfl⟩
  | 74, h => exact ⟨_, _, mt_ty13_ok 74 h, rfl, rfl, rfl⟩
  | 75, h => exact ⟨_, _, mt_ty13_ok 75 h, rfl, rfl, rfl⟩
  | 76, h => exact ⟨_, _, mt_ty13_ok 76 h, rfl, rfl, rfl⟩
  | 77, h => exact ⟨_, _, mt_ty13_ok 77 h, rfl, rfl, rfl⟩
  | 78, h => exact ⟨_, _, mt_ty13_ok 78 h, rfl, rfl, rfl⟩
  | 79, h => exact ⟨_, _, mt_ty13_ok 79 h, rfl, rfl, rfl⟩
  | 80, h => exact ⟨_, _, mt_ty13_ok 80 h, rfl, rfl, rfl⟩
  | 81, h => exact ⟨_, _, mt_ty13_ok 81 h, rfl, rfl, rfl⟩
  | 82, h => exact ⟨_, _, mt_ty13_ok 82 h, rfl, rfl, rfl⟩
  | 83, h => exact ⟨_, _, mt_ty13_ok 83 h, rfl, rfl, rfl⟩
  | 84, h => exact ⟨_, _, mt_ty13_ok 84 h, rfl, rfl, rfl⟩
  | 85, h => exact ⟨_, _, mt_ty13_ok 85 h, rfl, rfl, rfl⟩
  | 86, h => exact ⟨_, _, mt_ty13_ok 86 h, rfl, rfl, rfl⟩
  | 87, h => exact ⟨_, _, mt_ty13_ok 87 h, rfl, rfl, rfl⟩
  | 88, h => exact ⟨_, _, mt_ty13_ok 88 h, rfl, rfl, rfl⟩
  | 89, h => exact ⟨_, _, mt_ty13_ok 89 h, rfl, rfl, rfl⟩
  | 90, h => exact ⟨_, _, mt_ty13_ok 90 h, rfl, rfl, rfl⟩
  | 91, h => exact ⟨_, _, mt_ty13_ok 91 h, rfl, rfl, rfl⟩
  | 92, h => exact ⟨_, _, mt_ty13_ok 92 h, rfl, rfl, rfl⟩
  | 93, h => exact ⟨_, _, mt_ty13_ok 93 h, rfl, rfl, rfl⟩
  | 94, h => exact ⟨_, _, mt_ty13_ok 94 h, rfl, rfl, rfl⟩
  | q + 95, hq => exact absurd hq (by omega)
theorem mt_okC : ∀ r ∈ mt_cl, mm_okC mt_Ts r := by
  intro r hr
  simp only [mt_cl, List.mem_cons, List.not_mem_nil, or_false] at hr
  rcases hr with rfl | rfl | rfl | rfl | rfl | rfl | rfl | rfl | rfl | rfl | rfl | rfl | rfl | rfl
  · exact mt_ok0
  · exact mt_ok1
  · exact mt_ok2
  · exact mt_ok3
  · exact mt_ok4
  · exact mt_ok5
  · exact mt_ok6
  · exact mt_ok7
  · exact mt_ok8
  · exact mt_ok9
  · exact mt_ok10
  · exact mt_ok11
  · exact mt_ok12
  · exact mt_ok13
