/-! the words of the language, learned -/
def wkC : List Int := [223456, 11438892, 3369766, 243146, 283292562, 830, 144941, 119082, 582341, 123, 378004, 358472, 249, 107681, 22, 237458, 47328332, 92275, 267413, 261214178, 1627639, 1755524]
def wkR : List Int := [2921348, 356008274, 103043844, 3183499, 20736983619, 4308, 1873285, 1577548, 17364357, 271, 5002116, 4740308, 582, 1361093, 22, 3151060, 3355763141, 1123280, 3470725, 19414913861, 50668697, 52449483]
theorem c187z {w : Int64} {h : hS} : c187 w 0 h = some w := rfl
theorem c187m {x y c : Int} {h : hS} (x0 : 0 ≤ x) (x1 : x < 68719476736) (c0 : 97 ≤ c) (c1 : c ≤ 122) (hy : x * 64 + (c - 96) = y) : c187 (Int64.ofInt x) c h = some (Int64.ofInt y) := by
  unfold c187
  rw [if_neg (by omega), wsub_e (by omega) (by omega), more_e x0 x1 (by omega) (by omega), hy]
theorem bex {α β : Type} {m : Option α} {f : α → Option β} {P : β → Prop} (R : α → Prop) (e : ∃ x, m = some x ∧ R x) (g : ∀ x, R x → ∃ o, f x = some o ∧ P o) : ∃ o, m.bind f = some o ∧ P o := by
  obtain ⟨x, rfl, hx⟩ := e
  exact g x hx
theorem c186_e {k a b c d e f : Int} {i : Nat} {v1 v2 v3 v4 v5 v6 : Int64} {h : hS} (e1 : c187 (Int64.ofNat 0) a h = some v1) (e2 : c187 v1 b h = some v2) (e3 : c187 v2 c h = some v3) (e4 : c187 v3 d h = some v4) (e5 : c187 v4 e h = some v5) (e6 : c187 v5 f h = some v6) (hk : k = 100 + (i : Int)) (hi : i < 22) : c186 k a b c d e f h = some (sJ h 398 i v6) := by
  unfold c186
  rw [e1]
  simp only [bsome]
  rw [e2]
  simp only [bsome]
  rw [e3]
  simp only [bsome]
  rw [e4]
  simp only [bsome]
  rw [e5]
  simp only [bsome]
  rw [e6]
  simp only [bsome]
  rw [wsub_e (by omega) (by omega), wJs_s (by omega) (by omega)]
  simp only [bsome]
  rw [show (k - 100).toNat = i by omega]
theorem wd_0 {h : hS} : c186 100 107 105 110 100 0 0 h = some (sJ h 398 0 (Int64.ofInt 2921348)) :=
  c186_e (i := 0) (c187m (x := 0) (y := 11) (by decide) (by decide) (by decide) (by decide) (by decide)) (c187m (x := 11) (y := 713) (by decide) (by decide) (by decide) (by decide) (by decide)) (c187m (x := 713) (y := 45646) (by decide) (by decide) (by decide) (by decide) (by decide)) (c187m (x := 45646) (y := 2921348) (by decide) (by decide) (by decide) (by decide) (by decide)) c187z c187z (by decide) (by decide)
theorem wd_1 {h : hS} : c186 101 117 110 100 101 114 0 h = some (sJ h 398 1 (Int64.ofInt 356008274)) :=
  c186_e (i := 1) (c187m (x := 0) (y := 21) (by decide) (by decide) (by decide) (by decide) (by decide)) (c187m (x := 21) (y := 1358) (by decide) (by decide) (by decide) (by decide) (by decide)) (c187m (x := 1358) (y := 86916) (by decide) (by decide) (by decide) (by decide) (by decide)) (c187m (x := 86916) (y := 5562629) (by decide) (by decide) (by decide) (by decide) (by decide)) (c187m (x := 5562629) (y := 356008274) (by decide) (by decide) (by decide) (by decide) (by decide)) c187z (by decide) (by decide)
theorem wd_2 {h : hS} : c186 102 102 105 101 108 100 0 h = some (sJ h 398 2 (Int64.ofInt 103043844)) :=
  c186_e (i := 2) (c187m (x := 0) (y := 6) (by decide) (by decide) (by decide) (by decide) (by decide)) (c187m (x := 6) (y := 393) (by decide) (by decide) (by decide) (by decide) (by decide)) (c187m (x := 393) (y := 25157) (by decide) (by decide) (by decide) (by decide) (by decide)) (c187m (x := 25157) (y := 1610060) (by decide) (by decide) (by decide) (by decide) (by decide)) (c187m (x := 1610060) (y := 103043844) (by decide) (by decide) (by decide) (by decide) (by decide)) c187z (by decide) (by decide)
theorem wd_3 {h : hS} : c186 103 108 105 110 107 0 0 h = some (sJ h 398 3 (Int64.ofInt 3183499)) :=
  c186_e (i := 3) (c187m (x := 0) (y := 12) (by decide) (by decide) (by decide) (by decide) (by decide)) (c187m (x := 12) (y := 777) (by decide) (by decide) (by decide) (by decide) (by decide)) (c187m (x := 777) (y := 49742) (by decide) (by decide) (by decide) (by decide) (by decide)) (c187m (x := 49742) (y := 3183499) (by decide) (by decide) (by decide) (by decide) (by decide)) c187z c187z (by decide) (by decide)
theorem wd_4 {h : hS} : c186 104 115 116 97 116 105 99 h = some (sJ h 398 4 (Int64.ofInt 20736983619)) :=
  c186_e (i := 4) (c187m (x := 0) (y := 19) (by decide) (by decide) (by decide) (by decide) (by decide)) (c187m (x := 19) (y := 1236) (by decide) (by decide) (by decide) (by decide) (by decide)) (c187m (x := 1236) (y := 79105) (by decide) (by decide) (by decide) (by decide) (by decide)) (c187m (x := 79105) (y := 5062740) (by decide) (by decide) (by decide) (by decide) (by decide)) (c187m (x := 5062740) (y := 324015369) (by decide) (by decide) (by decide) (by decide) (by decide)) (c187m (x := 324015369) (y := 20736983619) (by decide) (by decide) (by decide) (by decide) (by decide)) (by decide) (by decide)
theorem wd_5 {h : hS} : c186 105 97 99 116 0 0 0 h = some (sJ h 398 5 (Int64.ofInt 4308)) :=
  c186_e (i := 5) (c187m (x := 0) (y := 1) (by decide) (by decide) (by decide) (by decide) (by decide)) (c187m (x := 1) (y := 67) (by decide) (by decide) (by decide) (by decide) (by decide)) (c187m (x := 67) (y := 4308) (by decide) (by decide) (by decide) (by decide) (by decide)) c187z c187z c187z (by decide) (by decide)
theorem wd_6 {h : hS} : c186 106 103 105 118 101 0 0 h = some (sJ h 398 6 (Int64.ofInt 1873285)) :=
  c186_e (i := 6) (c187m (x := 0) (y := 7) (by decide) (by decide) (by decide) (by decide) (by decide)) (c187m (x := 7) (y := 457) (by decide) (by decide) (by decide) (by decide) (by decide)) (c187m (x := 457) (y := 29270) (by decide) (by decide) (by decide) (by decide) (by decide)) (c187m (x := 29270) (y := 1873285) (by decide) (by decide) (by decide) (by decide) (by decide)) c187z c187z (by decide) (by decide)
theorem wd_7 {h : hS} : c186 107 102 97 105 108 0 0 h = some (sJ h 398 7 (Int64.ofInt 1577548)) :=
  c186_e (i := 7) (c187m (x := 0) (y := 6) (by decide) (by decide) (by decide) (by decide) (by decide)) (c187m (x := 6) (y := 385) (by decide) (by decide) (by decide) (by decide) (by decide)) (c187m (x := 385) (y := 24649) (by decide) (by decide) (by decide) (by decide) (by decide)) (c187m (x := 24649) (y := 1577548) (by decide) (by decide) (by decide) (by decide) (by decide)) c187z c187z (by decide) (by decide)
theorem wd_8 {h : hS} : c186 108 97 98 111 118 101 0 h = some (sJ h 398 8 (Int64.ofInt 17364357)) :=
  c186_e (i := 8) (c187m (x := 0) (y := 1) (by decide) (by decide) (by decide) (by decide) (by decide)) (c187m (x := 1) (y := 66) (by decide) (by decide) (by decide) (by decide) (by decide)) (c187m (x := 66) (y := 4239) (by decide) (by decide) (by decide) (by decide) (by decide)) (c187m (x := 4239) (y := 271318) (by decide) (by decide) (by decide) (by decide) (by decide)) (c187m (x := 271318) (y := 17364357) (by decide) (by decide) (by decide) (by decide) (by decide)) c187z (by decide) (by decide)
theorem wd_9 {h : hS} : c186 109 100 111 0 0 0 0 h = some (sJ h 398 9 (Int64.ofInt 271)) :=
  c186_e (i := 9) (c187m (x := 0) (y := 4) (by decide) (by decide) (by decide) (by decide) (by decide)) (c187m (x := 4) (y := 271) (by decide) (by decide) (by decide) (by decide) (by decide)) c187z c187z c187z c187z (by decide) (by decide)
theorem wd_10 {h : hS} : c186 110 115 101 110 100 0 0 h = some (sJ h 398 10 (Int64.ofInt 5002116)) :=
  c186_e (i := 10) (c187m (x := 0) (y := 19) (by decide) (by decide) (by decide) (by decide) (by decide)) (c187m (x := 19) (y := 1221) (by decide) (by decide) (by decide) (by decide) (by decide)) (c187m (x := 1221) (y := 78158) (by decide) (by decide) (by decide) (by decide) (by decide)) (c187m (x := 78158) (y := 5002116) (by decide) (by decide) (by decide) (by decide) (by decide)) c187z c187z (by decide) (by decide)
theorem wd_11 {h : hS} : c186 111 114 101 115 116 0 0 h = some (sJ h 398 11 (Int64.ofInt 4740308)) :=
  c186_e (i := 11) (c187m (x := 0) (y := 18) (by decide) (by decide) (by decide) (by decide) (by decide)) (c187m (x := 18) (y := 1157) (by decide) (by decide) (by decide) (by decide) (by decide)) (c187m (x := 1157) (y := 74067) (by decide) (by decide) (by decide) (by decide) (by decide)) (c187m (x := 74067) (y := 4740308) (by decide) (by decide) (by decide) (by decide) (by decide)) c187z c187z (by decide) (by decide)
theorem wd_12 {h : hS} : c186 112 105 102 0 0 0 0 h = some (sJ h 398 12 (Int64.ofInt 582)) :=
  c186_e (i := 12) (c187m (x := 0) (y := 9) (by decide) (by decide) (by decide) (by decide) (by decide)) (c187m (x := 9) (y := 582) (by decide) (by decide) (by decide) (by decide) (by decide)) c187z c187z c187z c187z (by decide) (by decide)
theorem wd_13 {h : hS} : c186 113 101 108 115 101 0 0 h = some (sJ h 398 13 (Int64.ofInt 1361093)) :=
  c186_e (i := 13) (c187m (x := 0) (y := 5) (by decide) (by decide) (by decide) (by decide) (by decide)) (c187m (x := 5) (y := 332) (by decide) (by decide) (by decide) (by decide) (by decide)) (c187m (x := 332) (y := 21267) (by decide) (by decide) (by decide) (by decide) (by decide)) (c187m (x := 21267) (y := 1361093) (by decide) (by decide) (by decide) (by decide) (by decide)) c187z c187z (by decide) (by decide)
theorem wd_14 {h : hS} : c186 114 118 0 0 0 0 0 h = some (sJ h 398 14 (Int64.ofInt 22)) :=
  c186_e (i := 14) (c187m (x := 0) (y := 22) (by decide) (by decide) (by decide) (by decide) (by decide)) c187z c187z c187z c187z c187z (by decide) (by decide)
theorem wd_15 {h : hS} : c186 115 108 97 115 116 0 0 h = some (sJ h 398 15 (Int64.ofInt 3151060)) :=
  c186_e (i := 15) (c187m (x := 0) (y := 12) (by decide) (by decide) (by decide) (by decide) (by decide)) (c187m (x := 12) (y := 769) (by decide) (by decide) (by decide) (by decide) (by decide)) (c187m (x := 769) (y := 49235) (by decide) (by decide) (by decide) (by decide) (by decide)) (c187m (x := 49235) (y := 3151060) (by decide) (by decide) (by decide) (by decide) (by decide)) c187z c187z (by decide) (by decide)
theorem wd_16 {h : hS} : c186 116 99 104 97 110 103 101 h = some (sJ h 398 16 (Int64.ofInt 3355763141)) :=
  c186_e (i := 16) (c187m (x := 0) (y := 3) (by decide) (by decide) (by decide) (by decide) (by decide)) (c187m (x := 3) (y := 200) (by decide) (by decide) (by decide) (by decide) (by decide)) (c187m (x := 200) (y := 12801) (by decide) (by decide) (by decide) (by decide) (by decide)) (c187m (x := 12801) (y := 819278) (by decide) (by decide) (by decide) (by decide) (by decide)) (c187m (x := 819278) (y := 52433799) (by decide) (by decide) (by decide) (by decide) (by decide)) (c187m (x := 52433799) (y := 3355763141) (by decide) (by decide) (by decide) (by decide) (by decide)) (by decide) (by decide)
theorem wd_17 {h : hS} : c186 117 100 114 111 112 0 0 h = some (sJ h 398 17 (Int64.ofInt 1123280)) :=
  c186_e (i := 17) (c187m (x := 0) (y := 4) (by decide) (by decide) (by decide) (by decide) (by decide)) (c187m (x := 4) (y := 274) (by decide) (by decide) (by decide) (by decide) (by decide)) (c187m (x := 274) (y := 17551) (by decide) (by decide) (by decide) (by decide) (by decide)) (c187m (x := 17551) (y := 1123280) (by decide) (by decide) (by decide) (by decide) (by decide)) c187z c187z (by decide) (by decide)
theorem wd_18 {h : hS} : c186 118 109 111 118 101 0 0 h = some (sJ h 398 18 (Int64.ofInt 3470725)) :=
  c186_e (i := 18) (c187m (x := 0) (y := 13) (by decide) (by decide) (by decide) (by decide) (by decide)) (c187m (x := 13) (y := 847) (by decide) (by decide) (by decide) (by decide) (by decide)) (c187m (x := 847) (y := 54230) (by decide) (by decide) (by decide) (by decide) (by decide)) (c187m (x := 54230) (y := 3470725) (by decide) (by decide) (by decide) (by decide) (by decide)) c187z c187z (by decide) (by decide)
theorem wd_19 {h : hS} : c186 119 114 101 110 97 109 101 h = some (sJ h 398 19 (Int64.ofInt 19414913861)) :=
  c186_e (i := 19) (c187m (x := 0) (y := 18) (by decide) (by decide) (by decide) (by decide) (by decide)) (c187m (x := 18) (y := 1157) (by decide) (by decide) (by decide) (by decide) (by decide)) (c187m (x := 1157) (y := 74062) (by decide) (by decide) (by decide) (by decide) (by decide)) (c187m (x := 74062) (y := 4739969) (by decide) (by decide) (by decide) (by decide) (by decide)) (c187m (x := 4739969) (y := 303358029) (by decide) (by decide) (by decide) (by decide) (by decide)) (c187m (x := 303358029) (y := 19414913861) (by decide) (by decide) (by decide) (by decide) (by decide)) (by decide) (by decide)
theorem wd_20 {h : hS} : c186 120 99 97 114 114 121 0 h = some (sJ h 398 20 (Int64.ofInt 50668697)) :=
  c186_e (i := 20) (c187m (x := 0) (y := 3) (by decide) (by decide) (by decide) (by decide) (by decide)) (c187m (x := 3) (y := 193) (by decide) (by decide) (by decide) (by decide) (by decide)) (c187m (x := 193) (y := 12370) (by decide) (by decide) (by decide) (by decide) (by decide)) (c187m (x := 12370) (y := 791698) (by decide) (by decide) (by decide) (by decide) (by decide)) (c187m (x := 791698) (y := 50668697) (by decide) (by decide) (by decide) (by decide) (by decide)) c187z (by decide) (by decide)
theorem wd_21 {h : hS} : c186 121 99 104 101 99 107 0 h = some (sJ h 398 21 (Int64.ofInt 52449483)) :=
  c186_e (i := 21) (c187m (x := 0) (y := 3) (by decide) (by decide) (by decide) (by decide) (by decide)) (c187m (x := 3) (y := 200) (by decide) (by decide) (by decide) (by decide) (by decide)) (c187m (x := 200) (y := 12805) (by decide) (by decide) (by decide) (by decide) (by decide)) (c187m (x := 12805) (y := 819523) (by decide) (by decide) (by decide) (by decide) (by decide)) (c187m (x := 819523) (y := 52449483) (by decide) (by decide) (by decide) (by decide) (by decide)) c187z (by decide) (by decide)
theorem wk_rel : ∀ i : Nat, i < 22 → W2R (wkC.getD i 0) (Int64.ofInt (wkR.getD i 0))
  | 0, _ => ⟨fun t => ([11, 9, 14, 4] : List Int).getD t 0, 4, by decide, by decide, by decide +kernel, congrArg Int64.ofInt (show (2921348 : Int) = kk 64 (fun t => ([11, 9, 14, 4] : List Int).getD t 0) 4 by decide +kernel)⟩
  | 1, _ => ⟨fun t => ([21, 14, 4, 5, 18] : List Int).getD t 0, 5, by decide, by decide, by decide +kernel, congrArg Int64.ofInt (show (356008274 : Int) = kk 64 (fun t => ([21, 14, 4, 5, 18] : List Int).getD t 0) 5 by decide +kernel)⟩
  | 2, _ => ⟨fun t => ([6, 9, 5, 12, 4] : List Int).getD t 0, 5, by decide, by decide, by decide +kernel, congrArg Int64.ofInt (show (103043844 : Int) = kk 64 (fun t => ([6, 9, 5, 12, 4] : List Int).getD t 0) 5 by decide +kernel)⟩
  | 3, _ => ⟨fun t => ([12, 9, 14, 11] : List Int).getD t 0, 4, by decide, by decide, by decide +kernel, congrArg Int64.ofInt (show (3183499 : Int) = kk 64 (fun t => ([12, 9, 14, 11] : List Int).getD t 0) 4 by decide +kernel)⟩
  | 4, _ => ⟨fun t => ([19, 20, 1, 20, 9, 3] : List Int).getD t 0, 6, by decide, by decide, by decide +kernel, congrArg Int64.ofInt (show (20736983619 : Int) = kk 64 (fun t => ([19, 20, 1, 20, 9, 3] : List Int).getD t 0) 6 by decide +kernel)⟩
  | 5, _ => ⟨fun t => ([1, 3, 20] : List Int).getD t 0, 3, by decide, by decide, by decide +kernel, congrArg Int64.ofInt (show (4308 : Int) = kk 64 (fun t => ([1, 3, 20] : List Int).getD t 0) 3 by decide +kernel)⟩
  | 6, _ => ⟨fun t => ([7, 9, 22, 5] : List Int).getD t 0, 4, by decide, by decide, by decide +kernel, congrArg Int64.ofInt (show (1873285 : Int) = kk 64 (fun t => ([7, 9, 22, 5] : List Int).getD t 0) 4 by decide +kernel)⟩
  | 7, _ => ⟨fun t => ([6, 1, 9, 12] : List Int).getD t 0, 4, by decide, by decide, by decide +kernel, congrArg Int64.ofInt (show (1577548 : Int) = kk 64 (fun t => ([6, 1, 9, 12] : List Int).getD t 0) 4 by decide +kernel)⟩
  | 8, _ => ⟨fun t => ([1, 2, 15, 22, 5] : List Int).getD t 0, 5, by decide, by decide, by decide +kernel, congrArg Int64.ofInt (show (17364357 : Int) = kk 64 (fun t => ([1, 2, 15, 22, 5] : List Int).getD t 0) 5 by decide +kernel)⟩
  | 9, _ => ⟨fun t => ([4, 15] : List Int).getD t 0, 2, by decide, by decide, by decide +kernel, congrArg Int64.ofInt (show (271 : Int) = kk 64 (fun t => ([4, 15] : List Int).getD t 0) 2 by decide +kernel)⟩
  | 10, _ => ⟨fun t => ([19, 5, 14, 4] : List Int).getD t 0, 4, by decide, by decide, by decide +kernel, congrArg Int64.ofInt (show (5002116 : Int) = kk 64 (fun t => ([19, 5, 14, 4] : List Int).getD t 0) 4 by decide +kernel)⟩
  | 11, _ => ⟨fun t => ([18, 5, 19, 20] : List Int).getD t 0, 4, by decide, by decide, by decide +kernel, congrArg Int64.ofInt (show (4740308 : Int) = kk 64 (fun t => ([18, 5, 19, 20] : List Int).getD t 0) 4 by decide +kernel)⟩
  | 12, _ => ⟨fun t => ([9, 6] : List Int).getD t 0, 2, by decide, by decide, by decide +kernel, congrArg Int64.ofInt (show (582 : Int) = kk 64 (fun t => ([9, 6] : List Int).getD t 0) 2 by decide +kernel)⟩
  | 13, _ => ⟨fun t => ([5, 12, 19, 5] : List Int).getD t 0, 4, by decide, by decide, by decide +kernel, congrArg Int64.ofInt (show (1361093 : Int) = kk 64 (fun t => ([5, 12, 19, 5] : List Int).getD t 0) 4 by decide +kernel)⟩
  | 14, _ => ⟨fun t => ([22] : List Int).getD t 0, 1, by decide, by decide, by decide +kernel, congrArg Int64.ofInt (show (22 : Int) = kk 64 (fun t => ([22] : List Int).getD t 0) 1 by decide +kernel)⟩
  | 15, _ => ⟨fun t => ([12, 1, 19, 20] : List Int).getD t 0, 4, by decide, by decide, by decide +kernel, congrArg Int64.ofInt (show (3151060 : Int) = kk 64 (fun t => ([12, 1, 19, 20] : List Int).getD t 0) 4 by decide +kernel)⟩
  | 16, _ => ⟨fun t => ([3, 8, 1, 14, 7, 5] : List Int).getD t 0, 6, by decide, by decide, by decide +kernel, congrArg Int64.ofInt (show (3355763141 : Int) = kk 64 (fun t => ([3, 8, 1, 14, 7, 5] : List Int).getD t 0) 6 by decide +kernel)⟩
  | 17, _ => ⟨fun t => ([4, 18, 15, 16] : List Int).getD t 0, 4, by decide, by decide, by decide +kernel, congrArg Int64.ofInt (show (1123280 : Int) = kk 64 (fun t => ([4, 18, 15, 16] : List Int).getD t 0) 4 by decide +kernel)⟩
  | 18, _ => ⟨fun t => ([13, 15, 22, 5] : List Int).getD t 0, 4, by decide, by decide, by decide +kernel, congrArg Int64.ofInt (show (3470725 : Int) = kk 64 (fun t => ([13, 15, 22, 5] : List Int).getD t 0) 4 by decide +kernel)⟩
  | 19, _ => ⟨fun t => ([18, 5, 14, 1, 13, 5] : List Int).getD t 0, 6, by decide, by decide, by decide +kernel, congrArg Int64.ofInt (show (19414913861 : Int) = kk 64 (fun t => ([18, 5, 14, 1, 13, 5] : List Int).getD t 0) 6 by decide +kernel)⟩
  | 20, _ => ⟨fun t => ([3, 1, 18, 18, 25] : List Int).getD t 0, 5, by decide, by decide, by decide +kernel, congrArg Int64.ofInt (show (50668697 : Int) = kk 64 (fun t => ([3, 1, 18, 18, 25] : List Int).getD t 0) 5 by decide +kernel)⟩
  | 21, _ => ⟨fun t => ([3, 8, 5, 3, 11] : List Int).getD t 0, 5, by decide, by decide, by decide +kernel, congrArg Int64.ofInt (show (52449483 : Int) = kk 64 (fun t => ([3, 8, 5, 3, 11] : List Int).getD t 0) 5 by decide +kernel)⟩
  | i + 22, h => absurd h (by omega)
def lrn (h : hS) : Prop := hI h 395 9 = 1 ∧ ∀ i : Nat, i < 22 → hJ h 398 i = Int64.ofInt (wkR.getD i 0)
def lrk (h0 : hS) (i : Nat) (h : hS) : Prop := h.1 = h0.1 ∧ h.2.1 = h0.2.1 ∧ h.2.2.2 = h0.2.2.2 ∧ (∀ t : Nat, t < i → hJ h 398 t = Int64.ofInt (wkR.getD t 0)) ∧ ∀ x j, x ≠ 398 → hJ h x j = hJ h0 x j
theorem lrk_n {h0 h : hS} {i : Nat} {V : Int} (P : lrk h0 i h) (hV : wkR.getD i 0 = V) : lrk h0 (i + 1) (sJ h 398 i (Int64.ofInt V)) := by
  obtain ⟨p1, p2, p3, p4, p5⟩ := P
  refine ⟨p1, p2, p3, fun t ht => ?_, fun x j hx => ?_⟩
  · rw [hJ_sJ]
    by_cases q : t = i
    · rw [if_pos ⟨rfl, q⟩, q, hV]
    · rw [if_neg (fun c => q c.2)]
      exact p4 t (by omega)
  · rw [hJ_sJ, if_neg (fun c => hx c.1)]
    exact p5 x j hx
theorem c185_e {h : hS} (H : hI h 395 9 = 0 ∨ lrn h) : ∃ h', c185 h = some h' ∧ (lrn h' ∧ h'.2.1 = h.2.1 ∧ h'.2.2.2 = h.2.2.2 ∧ (∀ x j, ¬ (x = 395 ∧ j = 9) → hI h' x j = hI h x j) ∧ (∀ x j, x ≠ 398 → hJ h' x j = hJ h x j)) := by
  unfold c185
  by_cases q : hI h 395 9 = 0
  · rw [if_pos q]
    refine bex (fun k => k = sI h 395 9 1) ⟨_, rfl, rfl⟩ (fun g0 hg => ?_)
    have e9 : hI g0 395 9 = 1 := by rw [hg, hI_sI, if_pos ⟨rfl, rfl⟩]
    have eo : ∀ x j, ¬ (x = 395 ∧ j = 9) → hI g0 x j = hI h x j := fun x j hx => by rw [hg, hI_sI, if_neg hx]
    have eJ : ∀ x j, hJ g0 x j = hJ h x j := fun _ _ => by rw [hg]; rfl
    have eR : g0.2.1 = h.2.1 := by rw [hg]; rfl
    have eT : g0.2.2.2 = h.2.2.2 := by rw [hg]; rfl
    clear hg
    have P0 : lrk g0 0 g0 := ⟨rfl, rfl, rfl, fun t ht => by omega, fun _ _ _ => rfl⟩
    refine bex (lrk g0 1) ⟨_, wd_0, lrk_n P0 rfl⟩ (fun k1 P1 => ?_)
    refine bex (lrk g0 2) ⟨_, wd_1, lrk_n P1 rfl⟩ (fun k2 P2 => ?_)
    refine bex (lrk g0 3) ⟨_, wd_2, lrk_n P2 rfl⟩ (fun k3 P3 => ?_)
    refine bex (lrk g0 4) ⟨_, wd_3, lrk_n P3 rfl⟩ (fun k4 P4 => ?_)
    refine bex (lrk g0 5) ⟨_, wd_4, lrk_n P4 rfl⟩ (fun k5 P5 => ?_)
    refine bex (lrk g0 6) ⟨_, wd_5, lrk_n P5 rfl⟩ (fun k6 P6 => ?_)
    refine bex (lrk g0 7) ⟨_, wd_6, lrk_n P6 rfl⟩ (fun k7 P7 => ?_)
    refine bex (lrk g0 8) ⟨_, wd_7, lrk_n P7 rfl⟩ (fun k8 P8 => ?_)
    refine bex (lrk g0 9) ⟨_, wd_8, lrk_n P8 rfl⟩ (fun k9 P9 => ?_)
    refine bex (lrk g0 10) ⟨_, wd_9, lrk_n P9 rfl⟩ (fun k10 P10 => ?_)
    refine bex (lrk g0 11) ⟨_, wd_10, lrk_n P10 rfl⟩ (fun k11 P11 => ?_)
    refine bex (lrk g0 12) ⟨_, wd_11, lrk_n P11 rfl⟩ (fun k12 P12 => ?_)
    refine bex (lrk g0 13) ⟨_, wd_12, lrk_n P12 rfl⟩ (fun k13 P13 => ?_)
    refine bex (lrk g0 14) ⟨_, wd_13, lrk_n P13 rfl⟩ (fun k14 P14 => ?_)
    refine bex (lrk g0 15) ⟨_, wd_14, lrk_n P14 rfl⟩ (fun k15 P15 => ?_)
    refine bex (lrk g0 16) ⟨_, wd_15, lrk_n P15 rfl⟩ (fun k16 P16 => ?_)
    refine bex (lrk g0 17) ⟨_, wd_16, lrk_n P16 rfl⟩ (fun k17 P17 => ?_)
    refine bex (lrk g0 18) ⟨_, wd_17, lrk_n P17 rfl⟩ (fun k18 P18 => ?_)
    refine bex (lrk g0 19) ⟨_, wd_18, lrk_n P18 rfl⟩ (fun k19 P19 => ?_)
    refine bex (lrk g0 20) ⟨_, wd_19, lrk_n P19 rfl⟩ (fun k20 P20 => ?_)
    refine bex (lrk g0 21) ⟨_, wd_20, lrk_n P20 rfl⟩ (fun k21 P21 => ?_)
    refine bex (lrk g0 22) ⟨_, wd_21, lrk_n P21 rfl⟩ (fun k22 P22 => ?_)
    obtain ⟨p1, p2, p3, p4, p5⟩ := P22
    have pI : ∀ x j, hI k22 x j = hI g0 x j := fun x j => by show k22.1 x j = g0.1 x j; rw [p1]
    exact ⟨k22, rfl, ⟨by rw [pI]; exact e9, p4⟩, p2.trans eR, p3.trans eT, fun x j hx => by rw [pI]; exact eo x j hx, fun x j hx => by rw [p5 x j hx]; exact eJ x j⟩
  · rw [if_neg q]
    rcases H with H | H
    · exact absurd H q
    · exact ⟨h, rfl, H, rfl, rfl, fun _ _ _ => rfl, fun _ _ _ => rfl⟩
