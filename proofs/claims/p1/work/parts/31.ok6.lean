/-! each entry of each method -/
section MTI31
variable (xs : List Int32) (oA : Nat → Nat) (dA : Nat → ClassId)
set_option maxRecDepth 100000 in
set_option maxHeartbeats 4000000 in
theorem mt_i301 (nm : String) : mt_All (mm_okI mt_Ts (mt_P xs) (mt_G oA dA) mt_cl mt_X mt_Mt ⟨"PondHouseLaw", nm, "([I)Z"⟩ ret) mt_c301 := ⟨mt_n22_7 xs, trivial, Or.inr ⟨rfl, mt_m22_9 xs⟩, trivial, mt_n22_10 xs, trivial, Or.inr ⟨rfl, mt_m22_12 xs⟩, trivial, trivial, trivial, trivial, trivial, trivial, trivial, trivial, ⟨964, by decide⟩, trivial, trivial, trivial, trivial, trivial, trivial, trivial, trivial, trivial, trivial, trivial, trivial, trivial, trivial, trivial, trivial, trivial, trivial, trivial, trivial, trivial, trivial, trivial, trivial, trivial, trivial, trivial, trivial, trivial, trivial, trivial, trivial, Or.inr ⟨by decide, by decide, mt_m22_13 xs⟩, trivial, trivial, trivial, trivial, trivial, trivial, trivial, trivial, trivial, trivial, trivial, trivial, trivial, trivial, trivial, trivial, trivial, trivial, trivial, trivial, trivial, trivial, trivial, trivial, trivial, trivial, Or.inr ⟨by decide, by decide, mt_m22_17 xs⟩, ⟨958, by decide⟩, trivial, rfl, trivial, trivial, trivial, trivial, trivial, trivial, Or.inr ⟨by decide, by decide, mt_m22_18 xs⟩, trivial, trivial, trivial, trivial, trivial, trivial, Or.inr ⟨by decide, by decide, mt_m22_22 xs⟩, ⟨958, by decide⟩, trivial, rfl, trivial, Or.inr ⟨by decide, by decide, mt_m22_23 xs⟩, trivial, Or.inr ⟨by decide, by decide, mt_m22_27 xs⟩, ⟨958, by decide⟩, trivial, rfl, trivial, Or.inr ⟨by decide, by decide, mt_m22_28 xs⟩, trivial, Or.inr ⟨by decide, by decide, mt_m22_31 xs⟩, ⟨958, by decide⟩, trivial, rfl, trivial, Or.inr ⟨by decide, by decide, mt_m22_32 xs⟩, trivial, Or.inr ⟨by decide, by decide, mt_m22_35 xs⟩, ⟨958, by decide⟩, trivial, rfl, trivial, trivial, trivial, trivial, trivial, trivial, Or.inr ⟨by decide, by decide, mt_m22_36 xs⟩, trivial, trivial, trivial, trivial, trivial, trivial, Or.inr ⟨by decide, by decide, mt_m22_40 xs⟩, ⟨958, by decide⟩, trivial, rfl, trivial, Or.inr ⟨by decide, by decide, mt_m22_41 xs⟩, trivial, Or.inr ⟨by decide, by decide, mt_m22_44 xs⟩, ⟨958, by decide⟩, trivial, rfl, trivial, trivial, trivial, trivial, trivial, trivial, trivial, trivial, trivial, trivial, trivial, Or.inr ⟨by decide, by decide, mt_m22_45 xs⟩, trivial, trivial, trivial, trivial, trivial, trivial, trivial, trivial, trivial, trivial, trivial, Or.inr ⟨by decide, by decide, mt_m22_49 xs⟩, ⟨958, by decide⟩, trivial, rfl, trivial, trivial, trivial, trivial, trivial, trivial, Or.inr ⟨by decide, by decide, mt_m22_50 xs⟩, trivial, trivial, trivial, trivial, trivial, trivial, Or.inr ⟨by decide, by decide, mt_m22_53 xs⟩, ⟨958, by decide⟩, trivial, rfl, trivial, trivial, trivial, trivial, trivial, trivial, Or.inr ⟨by decide, by decide, mt_m22_54 xs⟩, trivial, trivial, trivial, trivial, trivial, trivial, Or.inr ⟨by decide, by decide, mt_m22_57 xs⟩, ⟨958, by decide⟩, trivial, rfl, trivial, trivial, trivial, trivial, trivial, trivial, Or.inr ⟨by decide, by decide, mt_m22_58 xs⟩, trivial, trivial, trivial, trivial, trivial, trivial, Or.inr ⟨by decide, by decide, mt_m22_61 xs⟩, ⟨958, by decide⟩, trivial, rfl, trivial, trivial, trivial, trivial, trivial, trivial, trivial, trivial, trivial, trivial, trivial, Or.inr ⟨by decide, by decide, mt_m22_62 xs⟩, trivial, trivial, trivial, trivial, trivial, trivial, trivial, trivial, trivial, trivial, trivial, Or.inr ⟨by decide, by decide, mt_m22_66 xs⟩, ⟨958, by decide⟩, trivial, rfl, trivial, trivial, trivial, trivial, trivial, trivial, trivial, trivial, trivial, trivial, trivial, Or.inr ⟨by decide, by decide, mt_m22_67 xs⟩, trivial, trivial, trivial, trivial, trivial, trivial, trivial, trivial, trivial, trivial, trivial, Or.inr ⟨by decide, by decide, mt_m22_70 xs⟩, ⟨958, by decide⟩, trivial, rfl, trivial, trivial, trivial, trivial, trivial, trivial, trivial, trivial, trivial, trivial, trivial, trivial, trivial, trivial, trivial, trivial, Or.inr ⟨by decide, by decide, mt_m22_71 xs⟩, trivial, trivial, trivial, trivial, trivial, trivial, trivial, trivial, trivial, trivial, trivial, trivial, trivial, trivial, trivial, trivial, Or.inr ⟨by decide, by decide, mt_m22_75 xs⟩, ⟨958, by decide⟩, trivial, rfl, trivial, trivial, trivial, trivial, trivial, trivial, trivial, trivial, trivial, trivial, trivial, Or.inr ⟨by decide, by decide, mt_m22_76 xs⟩, trivial, trivial, trivial, trivial, trivial, trivial, trivial, trivial, trivial, trivial, trivial, Or.inr ⟨by decide, by decide, mt_m22_79 xs⟩, ⟨958, by decide⟩, trivial, rfl, trivial, trivial, trivial, trivial, trivial, trivial, trivial, trivial, trivial, trivial, trivial, trivial, trivial, trivial, trivial, trivial, Or.inr ⟨by decide, by decide, mt_m22_80 xs⟩, trivial, trivial, trivial, trivial, trivial, trivial, trivial, trivial, trivial, trivial, trivial, trivial, trivial, trivial, trivial, trivial, Or.inr ⟨by decide, by decide, mt_m22_84 xs⟩, ⟨958, by decide⟩, trivial, rfl, trivial, trivial, trivial, trivial, trivial, trivial, Or.inr ⟨by decide, by decide, mt_m22_85 xs⟩, trivial, trivial, trivial, trivial, trivial, trivial, Or.inr ⟨by decide, by decide, mt_m22_88 xs⟩, ⟨958, by decide⟩, trivial, rfl, trivial, trivial, trivial, trivial, trivial, trivial, Or.inr ⟨by decide, by decide, mt_m22_89 xs⟩, trivial, trivial, trivial, trivial, trivial, trivial, Or.inr ⟨by decide, by decide, mt_m22_92 xs⟩, ⟨958, by decide⟩, trivial, rfl, trivial, Or.inr ⟨by decide, by decide, mt_m22_93 xs⟩, trivial, Or.inr ⟨by decide, by decide, mt_m22_96 xs⟩, ⟨958, by decide⟩, trivial, rfl, trivial, trivial, trivial, trivial, trivial, trivial, Or.inr ⟨by decide, by decide, mt_m22_97 xs⟩, trivial, trivial, trivial, trivial, trivial, trivial, Or.inr ⟨by decide, by decide, mt_m22_100 xs⟩, ⟨958, by decide⟩, trivial, rfl, trivial, trivial, trivial, trivial, trivial, trivial, trivial, trivial, trivial, trivial, trivial, Or.inr ⟨by decide, by decide, mt_m22_101 xs⟩, trivial, trivial, trivial, trivial, trivial, trivial, trivial, trivial, trivial, trivial, trivial, Or.inr ⟨by decide, by decide, mt_m22_104 xs⟩, ⟨958, by decide⟩, trivial, rfl, trivial, trivial, trivial, trivial, trivial, trivial, trivial, trivial, trivial, trivial, trivial, trivial, trivial, trivial, trivial, trivial, Or.inr ⟨by decide, by decide, mt_m22_105 xs⟩, trivial, trivial, trivial, trivial, trivial, trivial, trivial, trivial, trivial, trivial, trivial, trivial, trivial, trivial, trivial, trivial, Or.inr ⟨by decide, by decide, mt_m22_108 xs⟩, ⟨958, by decide⟩, trivial, rfl, trivial, trivial, trivial, trivial, trivial, trivial, trivial, trivial, trivial, trivial, trivial, Or.inr ⟨by decide, by decide, mt_m22_109 xs⟩, trivial, trivial, trivial, trivial, trivial, trivial, trivial, trivial, trivial, trivial, trivial, Or.inr ⟨by decide, by decide, mt_m22_112 xs⟩, ⟨958, by decide⟩, trivial, rfl, trivial, trivial, trivial, trivial, trivial, trivial, trivial, trivial, trivial, trivial, trivial, ⟨821, by decide⟩, trivial, trivial, trivial, Or.inr ⟨by decide, by decide, mt_m22_113 xs⟩, trivial, trivial, trivial, trivial, trivial, trivial, trivial, trivial, trivial, trivial, trivial, ⟨843, by decide⟩, trivial, trivial, trivial, Or.inr ⟨by decide, by decide, mt_m22_117 xs⟩, ⟨958, by decide⟩, trivial, rfl, trivial, trivial, trivial, trivial, trivial, trivial, Or.inr ⟨by decide, by decide, mt_m22_118 xs⟩, trivial, trivial, trivial, trivial, trivial, trivial, Or.inr ⟨by decide, by decide, mt_m22_121 xs⟩, ⟨958, by decide⟩, trivial, rfl, trivial, trivial, trivial, trivial, trivial, trivial, Or.inr ⟨by decide, by decide, mt_m22_122 xs⟩, trivial, trivial, trivial, trivial, trivial, trivial, Or.inr ⟨by decide, by decide, mt_m22_125 xs⟩, ⟨958, by decide⟩, trivial, rfl, trivial, trivial, trivial, trivial, trivial, trivial, Or.inr ⟨by decide, by decide, mt_m22_126 xs⟩, trivial, trivial, trivial, trivial, trivial, trivial, Or.inr ⟨by decide, by decide, mt_m22_129 xs⟩, ⟨958, by decide⟩, trivial, rfl, trivial, Or.inr ⟨by decide, by decide, mt_m22_130 xs⟩, trivial, Or.inr ⟨by decide, by decide, mt_m22_134 xs⟩, ⟨958, by decide⟩, trivial, rfl, trivial, trivial, trivial, trivial, trivial, trivial, Or.inr ⟨by decide, by decide, mt_m22_135 xs⟩, trivial, trivial, trivial, trivial, trivial, trivial, Or.inr ⟨by decide, by decide, mt_m22_139 xs⟩, trivial, ⟨958, by decide⟩, trivial, rfl, trivial, trivial, trivial, rfl, trivial⟩
set_option maxRecDepth 100000 in
set_option maxHeartbeats 4000000 in
theorem mt_d301_0 : ((mt_c301.drop 0).take 20).all (mt_ckD code) = true := by decide +kernel
set_option maxRecDepth 100000 in
set_option maxHeartbeats 4000000 in
theorem mt_d301_1 : ((mt_c301.drop 20).take 20).all (mt_ckD code) = true := by decide +kernel
set_option maxRecDepth 100000 in
set_option maxHeartbeats 4000000 in
theorem mt_d301_2 : ((mt_c301.drop 40).take 20).all (mt_ckD code) = true := by decide +kernel
set_option maxRecDepth 100000 in
set_option maxHeartbeats 4000000 in
theorem mt_d301_3 : ((mt_c301.drop 60).take 20).all (mt_ckD code) = true := by decide +kernel
set_option maxRecDepth 100000 in
set_option maxHeartbeats 4000000 in
theorem mt_d301_4 : ((mt_c301.drop 80).take 20).all (mt_ckD code) = true := by decide +kernel
set_option maxRecDepth 100000 in
set_option maxHeartbeats 4000000 in
theorem mt_d301_5 : ((mt_c301.drop 100).take 20).all (mt_ckD code) = true := by decide +kernel
set_option maxRecDepth 100000 in
set_option maxHeartbeats 4000000 in
theorem mt_d301_6 : ((mt_c301.drop 120).take 20).all (mt_ckD code) = true := by decide +kernel
set_option maxRecDepth 100000 in
set_option maxHeartbeats 4000000 in
theorem mt_d301_7 : ((mt_c301.drop 140).take 20).all (mt_ckD code) = true := by decide +kernel
set_option maxRecDepth 100000 in
set_option maxHeartbeats 4000000 in
theorem mt_d301_8 : ((mt_c301.drop 160).take 20).all (mt_ckD code) = true := by decide +kernel
set_option maxRecDepth 100000 in
set_option maxHeartbeats 4000000 in
theorem mt_d301_9 : ((mt_c301.drop 180).take 20).all (mt_ckD code) = true := by decide +kernel
set_option maxRecDepth 100000 in
set_option maxHeartbeats 4000000 in
theorem mt_d301_10 : ((mt_c301.drop 200).take 20).all (mt_ckD code) = true := by decide +kernel
set_option maxRecDepth 100000 in
set_option maxHeartbeats 4000000 in
theorem mt_d301_11 : ((mt_c301.drop 220).take 20).all (mt_ckD code) = true := by decide +kernel
set_option maxRecDepth 100000 in
set_option maxHeartbeats 4000000 in
theorem mt_d301_12 : ((mt_c301.drop 240).take 20).all (mt_ckD code) = true := by decide +kernel
set_option maxRecDepth 100000 in
set_option maxHeartbeats 4000000 in
theorem mt_d301_13 : ((mt_c301.drop 260).take 20).all (mt_ckD code) = true := by decide +kernel
set_option maxRecDepth 100000 in
set_option maxHeartbeats 4000000 in
theorem mt_d301_14 : ((mt_c301.drop 280).take 20).all (mt_ckD code) = true := by decide +kernel
set_option maxRecDepth 100000 in
set_option maxHeartbeats 4000000 in
theorem mt_d301_15 : ((mt_c301.drop 300).take 20).all (mt_ckD code) = true := by decide +kernel
set_option maxRecDepth 100000 in
set_option maxHeartbeats 4000000 in
theorem mt_d301_16 : ((mt_c301.drop 320).take 20).all (mt_ckD code) = true := by decide +kernel
set_option maxRecDepth 100000 in
set_option maxHeartbeats 4000000 in
theorem mt_d301_17 : ((mt_c301.drop 340).take 20).all (mt_ckD code) = true := by decide +kernel
set_option maxRecDepth 100000 in
set_option maxHeartbeats 4000000 in
theorem mt_d301_18 : ((mt_c301.drop 360).take 20).all (mt_ckD code) = true := by decide +kernel
set_option maxRecDepth 100000 in
set_option maxHeartbeats 4000000 in
theorem mt_d301_19 : ((mt_c301.drop 380).take 20).all (mt_ckD code) = true := by decide +kernel
set_option maxRecDepth 100000 in
set_option maxHeartbeats 4000000 in
theorem mt_d301_20 : ((mt_c301.drop 400).take 20).all (mt_ckD code) = true := by decide +kernel
set_option maxRecDepth 100000 in
set_option maxHeartbeats 4000000 in
theorem mt_d301_21 : ((mt_c301.drop 420).take 20).all (mt_ckD code) = true := by decide +kernel
set_option maxRecDepth 100000 in
set_option maxHeartbeats 4000000 in
theorem mt_d301_22 : ((mt_c301.drop 440).take 20).all (mt_ckD code) = true := by decide +kernel
set_option maxRecDepth 100000 in
set_option maxHeartbeats 4000000 in
theorem mt_d301_23 : ((mt_c301.drop 460).take 20).all (mt_ckD code) = true := by decide +kernel
set_option maxRecDepth 100000 in
set_option maxHeartbeats 4000000 in
theorem mt_d301_24 : ((mt_c301.drop 480).take 20).all (mt_ckD code) = true := by decide +kernel
set_option maxRecDepth 100000 in
set_option maxHeartbeats 4000000 in
theorem mt_d301_25 : ((mt_c301.drop 500).take 20).all (mt_ckD code) = true := by decide +kernel
set_option maxRecDepth 100000 in
set_option maxHeartbeats 4000000 in
theorem mt_d301_26 : ((mt_c301.drop 520).take 20).all (mt_ckD code) = true := by decide +kernel
set_option maxRecDepth 100000 in
set_option maxHeartbeats 4000000 in
theorem mt_d301_27 : ((mt_c301.drop 540).take 20).all (mt_ckD code) = true := by decide +kernel
set_option maxRecDepth 100000 in
set_option maxHeartbeats 4000000 in
theorem mt_d301_28 : ((mt_c301.drop 560).take 20).all (mt_ckD code) = true := by decide +kernel
set_option maxRecDepth 100000 in
set_option maxHeartbeats 4000000 in
theorem mt_d301_29 : ((mt_c301.drop 580).take 20).all (mt_ckD code) = true := by decide +kernel
set_option maxRecDepth 100000 in
set_option maxHeartbeats 4000000 in
theorem mt_d301_30 : ((mt_c301.drop 600).take 20).all (mt_ckD code) = true := by decide +kernel
set_option maxRecDepth 100000 in
set_option maxHeartbeats 4000000 in
theorem mt_d301_31 : ((mt_c301.drop 620).take 20).all (mt_ckD code) = true := by decide +kernel
theorem mt_d301_32 : (mt_c301.drop 640).all (mt_ckD code) = true := by decide +kernel
set_option maxRecDepth 100000 in
set_option maxHeartbeats 4000000 in
theorem mt_d301 : mt_c301.all (mt_ckD code) = true := mt_cut 0 20 mt_d301_0 (mt_cut 20 20 mt_d301_1 (mt_cut 40 20 mt_d301_2 (mt_cut 60 20 mt_d301_3 (mt_cut 80 20 mt_d301_4 (mt_cut 100 20 mt_d301_5 (mt_cut 120 20 mt_d301_6 (mt_cut 140 20 mt_d301_7 (mt_cut 160 20 mt_d301_8 (mt_cut 180 20 mt_d301_9 (mt_cut 200 20 mt_d301_10 (mt_cut 220 20 mt_d301_11 (mt_cut 240 20 mt_d301_12 (mt_cut 260 20 mt_d301_13 (mt_cut 280 20 mt_d301_14 (mt_cut 300 20 mt_d301_15 (mt_cut 320 20 mt_d301_16 (mt_cut 340 20 mt_d301_17 (mt_cut 360 20 mt_d301_18 (mt_cut 380 20 mt_d301_19 (mt_cut 400 20 mt_d301_20 (mt_cut 420 20 mt_d301_21 (mt_cut 440 20 mt_d301_22 (mt_cut 460 20 mt_d301_23 (mt_cut 480 20 mt_d301_24 (mt_cut 500 20 mt_d301_25 (mt_cut 520 20 mt_d301_26 (mt_cut 540 20 mt_d301_27 (mt_cut 560 20 mt_d301_28 (mt_cut 580 20 mt_d301_29 (mt_cut 600 20 mt_d301_30 (mt_cut 620 20 mt_d301_31 (mt_d301_32))))))))))))))))))))))))))))))))
end MTI31
