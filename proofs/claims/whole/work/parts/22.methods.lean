/-! methods -/
theorem mt_pn0 : plainName "PondHouse" = true := by decide +kernel
theorem mt_pn1 : plainName "PondHouse$Tokens" = true := by decide +kernel
theorem mt_pn2 : plainName "java/lang/String" = true := by decide +kernel
theorem mt_pn3 : plainName "java/lang/StringLatin1" = true := by decide +kernel
theorem mt_pn4 : plainName "jdk/internal/util/Preconditions" = true := by decide +kernel
theorem mt_pn5 : plainName "PondHouse$Reader" = true := by decide +kernel
theorem mt_pn6 : plainName "java/util/ArrayList" = true := by decide +kernel
theorem mt_pn7 : plainName "java/util/AbstractList" = true := by decide +kernel
theorem mt_pn8 : plainName "java/util/AbstractCollection" = true := by decide +kernel
theorem mt_pn9 : plainName "PondHouse$Runner" = true := by decide +kernel
theorem mt_pn10 : plainName "PondHouse$Frame" = true := by decide +kernel
theorem mt_pn11 : plainName "PondHouse$Patcher" = true := by decide +kernel
theorem mt_pn12 : plainName "PondHouse$Creature" = true := by decide +kernel
theorem mt_pn13 : plainName "PondHouse$Pond" = true := by decide +kernel
theorem mt_pn14 : plainName "PondHouse$LongAct" = true := by decide +kernel
theorem mt_pn15 : plainName "PondHouse$Step" = true := by decide +kernel
theorem mt_pn16 : plainName "jdk/internal/util/ArraysSupport" = true := by decide +kernel
theorem mt_pn17 : plainName "java/util/Arrays" = true := by decide +kernel
theorem mt_pn18 : plainName "PondHouse$Kind" = true := by decide +kernel
theorem mt_pn19 : plainName "PondHouse$Patch" = true := by decide +kernel
theorem mt_pn20 : plainName "java/util/Objects" = true := by decide +kernel
theorem mt_pn21 : plainName "PondHouseModel" = true := by decide +kernel
theorem mt_ins0 : Cond.instantiable "PondHouse" 14 ∈ mt_Ts := mt_in1 (i := 28) rfl
theorem mt_ins1 : Cond.instantiable "PondHouse$Tokens" 7 ∈ mt_Ts := mt_in1 (i := 36) rfl
theorem mt_ins2 : Cond.instantiable "PondHouse$Reader" 13 ∈ mt_Ts := mt_in1 (i := 124) rfl
theorem mt_ins3 : Cond.instantiable "java/util/ArrayList" 3 ∈ mt_Ts := mt_in1 (i := 130) rfl
theorem mt_ins4 : Cond.instantiable "PondHouse$Runner" 14 ∈ mt_Ts := mt_in1 (i := 204) rfl
theorem mt_ins5 : Cond.instantiable "PondHouse$Frame" 7 ∈ mt_Ts := mt_in1 (i := 211) rfl
theorem mt_ins6 : Cond.instantiable "PondHouse$Patcher" 15 ∈ mt_Ts := mt_in2 (i := 57) rfl
theorem mt_ins7 : Cond.instantiable "PondHouse$Creature" 6 ∈ mt_Ts := mt_in2 (i := 67) rfl
theorem mt_ins8 : Cond.instantiable "PondHouse$Pond" 2 ∈ mt_Ts := mt_in2 (i := 161) rfl
theorem mt_ins9 : Cond.instantiable "PondHouse$LongAct" 7 ∈ mt_Ts := mt_in2 (i := 178) rfl
theorem mt_ins10 : Cond.instantiable "PondHouse$Step" 6 ∈ mt_Ts := mt_in3 (i := 164) rfl
theorem mt_ins11 : Cond.instantiable "PondHouse$Kind" 19 ∈ mt_Ts := mt_in4 (i := 24) rfl
theorem mt_ins12 : Cond.instantiable "PondHouse$Patch" 2 ∈ mt_Ts := mt_in5 (i := 42) rfl
theorem mt_ins13 : Cond.instantiable "PondHouseModel" 95 ∈ mt_Ts := mt_in6 (i := 181) rfl
theorem mt_inst : ∀ r ∈ mt_cl, Cond.instantiable r.1 r.2.2 ∈ mt_Ts := by
  intro r hr
  simp only [mt_cl, List.mem_cons, List.not_mem_nil, or_false] at hr
  rcases hr with rfl | rfl | rfl | rfl | rfl | rfl | rfl | rfl | rfl | rfl | rfl | rfl | rfl | rfl
  · exact mt_ins0
  · exact mt_ins1
  · exact mt_ins2
  · exact mt_ins3
  · exact mt_ins4
  · exact mt_ins5
  · exact mt_ins6
  · exact mt_ins7
  · exact mt_ins8
  · exact mt_ins9
  · exact mt_ins10
  · exact mt_ins11
  · exact mt_ins12
  · exact mt_ins13
theorem mt_castO : Cond.castable "PondHouse$Step" "java/lang/Object" ∈ mt_Ts := mt_in9 (i := 235) rfl
theorem mt_ov4 : Cond.arrayOver (.object "PondHouse$Creature") ∈ mt_Ts := mt_in1 (i := 200) rfl
theorem mt_ov5 : Cond.arrayOver (.object "PondHouse$LongAct") ∈ mt_Ts := mt_in1 (i := 202) rfl
theorem mt_ov6 : Cond.arrayOver (.object "PondHouse$Frame") ∈ mt_Ts := mt_in1 (i := 210) rfl
theorem mt_ov7 : Cond.arrayOver (.object "PondHouse$Patch") ∈ mt_Ts := mt_in2 (i := 64) rfl
theorem mt_ov8 : Cond.arrayOver (.object "PondHouse$Kind") ∈ mt_Ts := mt_in2 (i := 66) rfl
theorem mt_ov9 : Cond.arrayOver (.object "java/lang/Object") ∈ mt_Ts := mt_in4 (i := 11) rfl
theorem mt_ov10 : Cond.arrayOver (.array .int) ∈ mt_Ts := mt_in4 (i := 30) rfl
theorem mt_ls0 : Cond.laysStatic "java/lang/String" "COMPACT_STRINGS" "Z" ∈ lw_tbl := mt_il1 (i := 51) rfl
theorem mt_li0 : Cond.initialized "java/lang/String" ∈ lw_tbl := mt_il1 (i := 3) rfl
theorem mt_ls1 : Cond.laysStatic "java/util/ArrayList" "DEFAULTCAPACITY_EMPTY_ELEMENTDATA" "[Ljava/lang/Object;" ∈ lw_tbl := mt_il1 (i := 142) rfl
theorem mt_li1 : Cond.initialized "java/util/ArrayList" ∈ lw_tbl := mt_il1 (i := 10) rfl
theorem mt_ls2 : Cond.laysStatic "jdk/internal/util/Preconditions" "SIOOBE_FORMATTER" "Ljava/util/function/BiFunction;" ∈ lw_tbl := mt_il1 (i := 67) rfl
theorem mt_li2 : Cond.initialized "jdk/internal/util/Preconditions" ∈ lw_tbl := mt_il1 (i := 5) rfl
theorem mt_sr0 : Cond.stringRef "PondHouse$Tokens" 27 mt_tx0 ∈ lw_tbl := mt_il1 (i := 41) rfl
theorem mt_sr1 : Cond.stringRef "PondHouse$Tokens" 75 mt_tx1 ∈ lw_tbl := mt_il3 (i := 66) rfl
theorem mt_kc0 : Cond.code mt_y0 mt_b0 (mt_nl 0) mt_t0 ∈ mt_Ts := mt_in1 (i := 31) rfl
theorem mt_kn0 : Cond.initialized mt_y0.cls ∈ mt_Ts := mt_in1 (i := 1) rfl
theorem mt_ki0 : Cond.instanceMethod mt_y0 ∈ mt_Ts := mt_in1 (i := 30) rfl
theorem mt_kc1 : Cond.code mt_y1 mt_b1 (mt_nl 1) mt_t1 ∈ mt_Ts := mt_in1 (i := 39) rfl
theorem mt_kn1 : Cond.initialized mt_y1.cls ∈ mt_Ts := mt_in1 (i := 2) rfl
theorem mt_ki1 : Cond.instanceMethod mt_y1 ∈ mt_Ts := mt_in1 (i := 38) rfl
theorem mt_kc2 : Cond.code mt_y2 mt_b2 (mt_nl 2) mt_t2 ∈ mt_Ts := mt_in1 (i := 45) rfl
theorem mt_kn2 : Cond.initialized mt_y2.cls ∈ mt_Ts := mt_in1 (i := 3) rfl
theorem mt_ki2 : Cond.instanceMethod mt_y2 ∈ mt_Ts := mt_in1 (i := 43) rfl
theorem mt_kc3 : Cond.code mt_y3 mt_b3 (mt_nl 3) mt_t3 ∈ mt_Ts := mt_in1 (i := 49) rfl
theorem mt_kn3 : Cond.initialized mt_y3.cls ∈ mt_Ts := mt_in1 (i := 3) rfl
theorem mt_ki3 : Cond.instanceMethod mt_y3 ∈ mt_Ts := mt_in1 (i := 47) rfl
theorem mt_kc4 : Cond.code mt_y4 mt_b4 (mt_nl 4) mt_t4 ∈ mt_Ts := mt_in1 (i := 55) rfl
theorem mt_kn4 : Cond.initialized mt_y4.cls ∈ mt_Ts := mt_in1 (i := 3) rfl
theorem mt_ki4 : Cond.instanceMethod mt_y4 ∈ mt_Ts := mt_in1 (i := 53) rfl
theorem mt_kc5 : Cond.code mt_y5 mt_b5 (mt_nl 5) mt_t5 ∈ mt_Ts := mt_in1 (i := 59) rfl
theorem mt_kn5 : Cond.initialized mt_y5.cls ∈ mt_Ts := mt_in1 (i := 3) rfl
theorem mt_ki5 : Cond.instanceMethod mt_y5 ∈ mt_Ts := mt_in1 (i := 57) rfl
theorem mt_kc6 : Cond.code mt_y6 mt_b6 (mt_nl 6) mt_t6 ∈ mt_Ts := mt_in1 (i := 62) rfl
theorem mt_kn6 : Cond.initialized mt_y6.cls ∈ mt_Ts := mt_in1 (i := 4) rfl
theorem mt_ks6 : Cond.static mt_y6 ∈ mt_Ts := mt_in1 (i := 61) rfl
theorem mt_kc7 : Cond.code mt_y7 mt_b7 (mt_nl 7) mt_t7 ∈ mt_Ts := mt_in1 (i := 65) rfl
theorem mt_kn7 : Cond.initialized mt_y7.cls ∈ mt_Ts := mt_in1 (i := 3) rfl
theorem mt_ks7 : Cond.static mt_y7 ∈ mt_Ts := mt_in1 (i := 64) rfl
theorem mt_kc8 : Cond.code mt_y8 mt_b8 (mt_nl 8) mt_t8 ∈ mt_Ts := mt_in1 (i := 70) rfl
theorem mt_kn8 : Cond.initialized mt_y8.cls ∈ mt_Ts := mt_in1 (i := 5) rfl
theorem mt_ks8 : Cond.static mt_y8 ∈ mt_Ts := mt_in1 (i := 69) rfl
theorem mt_kc9 : Cond.code mt_y9 mt_b9 (mt_nl 9) mt_t9 ∈ mt_Ts := mt_in1 (i := 92) rfl
theorem mt_kn9 : Cond.initialized mt_y9.cls ∈ mt_Ts := mt_in1 (i := 2) rfl
theorem mt_ks9 : Cond.static mt_y9 ∈ mt_Ts := mt_in1 (i := 91) rfl
theorem mt_kc10 : Cond.code mt_y10 mt_b10 (mt_nl 10) mt_t10 ∈ mt_Ts := mt_in1 (i := 127) rfl
theorem mt_kn10 : Cond.initialized mt_y10.cls ∈ mt_Ts := mt_in1 (i := 7) rfl
theorem mt_ki10 : Cond.instanceMethod mt_y10 ∈ mt_Ts := mt_in1 (i := 126) rfl
theorem mt_kc11 : Cond.code mt_y11 mt_b11 (mt_nl 11) mt_t11 ∈ mt_Ts := mt_in1 (i := 133) rfl
theorem mt_kn11 : Cond.initialized mt_y11.cls ∈ mt_Ts := mt_in1 (i := 10) rfl
theorem mt_ki11 : Cond.instanceMethod mt_y11 ∈ mt_Ts := mt_in1 (i := 132) rfl
theorem mt_kc12 : Cond.code mt_y12 mt_b12 (mt_nl 12) mt_t12 ∈ mt_Ts := mt_in1 (i := 136) rfl
theorem mt_kn12 : Cond.initialized mt_y12.cls ∈ mt_Ts := mt_in1 (i := 9) rfl
theorem mt_ki12 : Cond.instanceMethod mt_y12 ∈ mt_Ts := mt_in1 (i := 135) rfl
theorem mt_kc13 : Cond.code mt_y13 mt_b13 (mt_nl 13) mt_t13 ∈ mt_Ts := mt_in1 (i := 139) rfl
theorem mt_kn13 : Cond.initialized mt_y13.cls ∈ mt_Ts := mt_in1 (i := 8) rfl
theorem mt_ki13 : Cond.instanceMethod mt_y13 ∈ mt_Ts := mt_in1 (i := 138) rfl
theorem mt_kc14 : Cond.code mt_y14 mt_b14 (mt_nl 14) mt_t14 ∈ mt_Ts := mt_in1 (i := 207) rfl
theorem mt_kn14 : Cond.initialized mt_y14.cls ∈ mt_Ts := mt_in1 (i := 11) rfl
theorem mt_ki14 : Cond.instanceMethod mt_y14 ∈ mt_Ts := mt_in1 (i := 206) rfl
theorem mt_kc15 : Cond.code mt_y15 mt_b15 (mt_nl 15) mt_t15 ∈ mt_Ts := mt_in1 (i := 214) rfl
theorem mt_kn15 : Cond.initialized mt_y15.cls ∈ mt_Ts := mt_in1 (i := 12) rfl
theorem mt_ki15 : Cond.instanceMethod mt_y15 ∈ mt_Ts := mt_in1 (i := 213) rfl
theorem mt_kc16 : Cond.code mt_y16 mt_b16 (mt_nl 16) mt_t16 ∈ mt_Ts := mt_in2 (i := 60) rfl
theorem mt_kn16 : Cond.initialized mt_y16.cls ∈ mt_Ts := mt_in1 (i := 13) rfl
theorem mt_ki16 : Cond.instanceMethod mt_y16 ∈ mt_Ts := mt_in2 (i := 59) rfl
theorem mt_kc17 : Cond.code mt_y17 mt_b17 (mt_nl 17) mt_t17 ∈ mt_Ts := mt_in2 (i := 70) rfl
theorem mt_kn17 : Cond.initialized mt_y17.cls ∈ mt_Ts := mt_in1 (i := 14) rfl
theorem mt_ki17 : Cond.instanceMethod mt_y17 ∈ mt_Ts := mt_in2 (i := 69) rfl
theorem mt_kc18 : Cond.code mt_y18 mt_b18 (mt_nl 18) mt_t18 ∈ mt_Ts := mt_in2 (i := 164) rfl
theorem mt_kn18 : Cond.initialized mt_y18.cls ∈ mt_Ts := mt_in1 (i := 15) rfl
theorem mt_ki18 : Cond.instanceMethod mt_y18 ∈ mt_Ts := mt_in2 (i := 163) rfl
theorem mt_kc19 : Cond.code mt_y19 mt_b19 (mt_nl 19) mt_t19 ∈ mt_Ts := mt_in2 (i := 181) rfl
theorem mt_kn19 : Cond.initialized mt_y19.cls ∈ mt_Ts := mt_in1 (i := 16) rfl
theorem mt_ki19 : Cond.instanceMethod mt_y19 ∈ mt_Ts := mt_in2 (i := 180) rfl
theorem mt_kc20 : Cond.code mt_y20 mt_b20 (mt_nl 20) mt_t20 ∈ mt_Ts := mt_in3 (i := 17) rfl
theorem mt_kn20 : Cond.initialized mt_y20.cls ∈ mt_Ts := mt_in1 (i := 1) rfl
theorem mt_ki20 : Cond.instanceMethod mt_y20 ∈ mt_Ts := mt_in3 (i := 15) rfl
theorem mt_kc21 : Cond.code mt_y21 mt_b21 (mt_nl 21) mt_t21 ∈ mt_Ts := mt_in3 (i := 21) rfl
theorem mt_kn21 : Cond.initialized mt_y21.cls ∈ mt_Ts := mt_in1 (i := 2) rfl
theorem mt_ki21 : Cond.instanceMethod mt_y21 ∈ mt_Ts := mt_in3 (i := 20) rfl
theorem mt_kc22 : Cond.code mt_y22 mt_b22 (mt_nl 22) mt_t22 ∈ mt_Ts := mt_in3 (i := 25) rfl
theorem mt_kn22 : Cond.initialized mt_y22.cls ∈ mt_Ts := mt_in1 (i := 1) rfl
theorem mt_ki22 : Cond.instanceMethod mt_y22 ∈ mt_Ts := mt_in3 (i := 23) rfl
theorem mt_kc23 : Cond.code mt_y23 mt_b23 (mt_nl 23) mt_t23 ∈ mt_Ts := mt_in3 (i := 29) rfl
theorem mt_kn23 : Cond.initialized mt_y23.cls ∈ mt_Ts := mt_in1 (i := 1) rfl
theorem mt_ki23 : Cond.instanceMethod mt_y23 ∈ mt_Ts := mt_in3 (i := 27) rfl
theorem mt_kc24 : Cond.code mt_y24 mt_b24 (mt_nl 24) mt_t24 ∈ mt_Ts := mt_in3 (i := 33) rfl
theorem mt_kn24 : Cond.initialized mt_y24.cls ∈ mt_Ts := mt_in1 (i := 7) rfl
theorem mt_ki24 : Cond.instanceMethod mt_y24 ∈ mt_Ts := mt_in3 (i := 32) rfl
theorem mt_kc25 : Cond.code mt_y25 mt_b25 (mt_nl 25) mt_t25 ∈ mt_Ts := mt_in3 (i := 37) rfl
theorem mt_kn25 : Cond.initialized mt_y25.cls ∈ mt_Ts := mt_in1 (i := 2) rfl
theorem mt_ki25 : Cond.instanceMethod mt_y25 ∈ mt_Ts := mt_in3 (i := 36) rfl
theorem mt_kc26 : Cond.code mt_y26 mt_b26 (mt_nl 26) mt_t26 ∈ mt_Ts := mt_in3 (i := 41) rfl
theorem mt_kn26 : Cond.initialized mt_y26.cls ∈ mt_Ts := mt_in1 (i := 2) rfl
theorem mt_ki26 : Cond.instanceMethod mt_y26 ∈ mt_Ts := mt_in3 (i := 40) rfl
theorem mt_kc27 : Cond.code mt_y27 mt_b27 (mt_nl 27) mt_t27 ∈ mt_Ts := mt_in3 (i := 44) rfl
theorem mt_kn27 : Cond.initialized mt_y27.cls ∈ mt_Ts := mt_in1 (i := 2) rfl
theorem mt_ks27 : Cond.static mt_y27 ∈ mt_Ts := mt_in3 (i := 43) rfl
theorem mt_kc28 : Cond.code mt_y28 mt_b28 (mt_nl 28) mt_t28 ∈ mt_Ts := mt_in3 (i := 48) rfl
theorem mt_kn28 : Cond.initialized mt_y28.cls ∈ mt_Ts := mt_in1 (i := 2) rfl
theorem mt_ki28 : Cond.instanceMethod mt_y28 ∈ mt_Ts := mt_in3 (i := 47) rfl
theorem mt_kc29 : Cond.code mt_y29 mt_b29 (mt_nl 29) mt_t29 ∈ mt_Ts := mt_in3 (i := 51) rfl
theorem mt_kn29 : Cond.initialized mt_y29.cls ∈ mt_Ts := mt_in1 (i := 1) rfl
theorem mt_ks29 : Cond.static mt_y29 ∈ mt_Ts := mt_in3 (i := 50) rfl
theorem mt_kc30 : Cond.code mt_y30 mt_b30 (mt_nl 30) mt_t30 ∈ mt_Ts := mt_in3 (i := 55) rfl
theorem mt_kn30 : Cond.initialized mt_y30.cls ∈ mt_Ts := mt_in1 (i := 2) rfl
theorem mt_ki30 : Cond.instanceMethod mt_y30 ∈ mt_Ts := mt_in3 (i := 54) rfl
theorem mt_kc31 : Cond.code mt_y31 mt_b31 (mt_nl 31) mt_t31 ∈ mt_Ts := mt_in3 (i := 58) rfl
theorem mt_kn31 : Cond.initialized mt_y31.cls ∈ mt_Ts := mt_in1 (i := 2) rfl
theorem mt_ks31 : Cond.static mt_y31 ∈ mt_Ts := mt_in3 (i := 57) rfl
theorem mt_kc32 : Cond.code mt_y32 mt_b32 (mt_nl 32) mt_t32 ∈ mt_Ts := mt_in3 (i := 62) rfl
theorem mt_kn32 : Cond.initialized mt_y32.cls ∈ mt_Ts := mt_in1 (i := 2) rfl
theorem mt_ki32 : Cond.instanceMethod mt_y32 ∈ mt_Ts := mt_in3 (i := 61) rfl
theorem mt_kc33 : Cond.code mt_y33 mt_b33 (mt_nl 33) mt_t33 ∈ mt_Ts := mt_in3 (i := 65) rfl
theorem mt_kn33 : Cond.initialized mt_y33.cls ∈ mt_Ts := mt_in1 (i := 2) rfl
theorem mt_ks33 : Cond.static mt_y33 ∈ mt_Ts := mt_in3 (i := 64) rfl
theorem mt_kc34 : Cond.code mt_y34 mt_b34 (mt_nl 34) mt_t34 ∈ mt_Ts := mt_in3 (i := 70) rfl
theorem mt_kn34 : Cond.initialized mt_y34.cls ∈ mt_Ts := mt_in1 (i := 3) rfl
theorem mt_ki34 : Cond.instanceMethod mt_y34 ∈ mt_Ts := mt_in3 (i := 68) rfl
theorem mt_kc35 : Cond.code mt_y35 mt_b35 (mt_nl 35) mt_t35 ∈ mt_Ts := mt_in3 (i := 74) rfl
theorem mt_kn35 : Cond.initialized mt_y35.cls ∈ mt_Ts := mt_in1 (i := 3) rfl
theorem mt_ki35 : Cond.instanceMethod mt_y35 ∈ mt_Ts := mt_in3 (i := 72) rfl
theorem mt_kc36 : Cond.code mt_y36 mt_b36 (mt_nl 36) mt_t36 ∈ mt_Ts := mt_in3 (i := 78) rfl
theorem mt_kn36 : Cond.initialized mt_y36.cls ∈ mt_Ts := mt_in1 (i := 4) rfl
theorem mt_ks36 : Cond.static mt_y36 ∈ mt_Ts := mt_in3 (i := 77) rfl
theorem mt_kc37 : Cond.code mt_y37 mt_b37 (mt_nl 37) mt_t37 ∈ mt_Ts := mt_in3 (i := 81) rfl
theorem mt_kn37 : Cond.initialized mt_y37.cls ∈ mt_Ts := mt_in1 (i := 4) rfl
theorem mt_ks37 : Cond.static mt_y37 ∈ mt_Ts := mt_in3 (i := 80) rfl
theorem mt_kc38 : Cond.code mt_y38 mt_b38 (mt_nl 38) mt_t38 ∈ mt_Ts := mt_in3 (i := 90) rfl
theorem mt_kn38 : Cond.initialized mt_y38.cls ∈ mt_Ts := mt_in1 (i := 4) rfl
theorem mt_ks38 : Cond.static mt_y38 ∈ mt_Ts := mt_in3 (i := 89) rfl
theorem mt_kc39 : Cond.code mt_y39 mt_b39 (mt_nl 39) mt_t39 ∈ mt_Ts := mt_in3 (i := 130) rfl
theorem mt_kn39 : Cond.initialized mt_y39.cls ∈ mt_Ts := mt_in1 (i := 7) rfl
theorem mt_ki39 : Cond.instanceMethod mt_y39 ∈ mt_Ts := mt_in3 (i := 129) rfl
theorem mt_kc40 : Cond.code mt_y40 mt_b40 (mt_nl 40) mt_t40 ∈ mt_Ts := mt_in3 (i := 134) rfl
theorem mt_kn40 : Cond.initialized mt_y40.cls ∈ mt_Ts := mt_in1 (i := 7) rfl
theorem mt_ki40 : Cond.instanceMethod mt_y40 ∈ mt_Ts := mt_in3 (i := 133) rfl
theorem mt_kc41 : Cond.code mt_y41 mt_b41 (mt_nl 41) mt_t41 ∈ mt_Ts := mt_in3 (i := 138) rfl
theorem mt_kn41 : Cond.initialized mt_y41.cls ∈ mt_Ts := mt_in1 (i := 1) rfl
theorem mt_ki41 : Cond.instanceMethod mt_y41 ∈ mt_Ts := mt_in3 (i := 136) rfl
theorem mt_kc42 : Cond.code mt_y42 mt_b42 (mt_nl 42) mt_t42 ∈ mt_Ts := mt_in3 (i := 142) rfl
theorem mt_kn42 : Cond.initialized mt_y42.cls ∈ mt_Ts := mt_in1 (i := 7) rfl
theorem mt_ki42 : Cond.instanceMethod mt_y42 ∈ mt_Ts := mt_in3 (i := 141) rfl
theorem mt_kc43 : Cond.code mt_y43 mt_b43 (mt_nl 43) mt_t43 ∈ mt_Ts := mt_in3 (i := 146) rfl
theorem mt_kn43 : Cond.initialized mt_y43.cls ∈ mt_Ts := mt_in1 (i := 7) rfl
theorem mt_ki43 : Cond.instanceMethod mt_y43 ∈ mt_Ts := mt_in3 (i := 145) rfl
theorem mt_kc44 : Cond.code mt_y44 mt_b44 (mt_nl 44) mt_t44 ∈ mt_Ts := mt_in3 (i := 150) rfl
theorem mt_kn44 : Cond.initialized mt_y44.cls ∈ mt_Ts := mt_in1 (i := 7) rfl
theorem mt_ki44 : Cond.instanceMethod mt_y44 ∈ mt_Ts := mt_in3 (i := 149) rfl
theorem mt_kc45 : Cond.code mt_y45 mt_b45 (mt_nl 45) mt_t45 ∈ mt_Ts := mt_in3 (i := 154) rfl
theorem mt_kn45 : Cond.initialized mt_y45.cls ∈ mt_Ts := mt_in1 (i := 7) rfl
theorem mt_ki45 : Cond.instanceMethod mt_y45 ∈ mt_Ts := mt_in3 (i := 153) rfl
theorem mt_kc46 : Cond.code mt_y46 mt_b46 (mt_nl 46) mt_t46 ∈ mt_Ts := mt_in3 (i := 158) rfl
theorem mt_kn46 : Cond.initialized mt_y46.cls ∈ mt_Ts := mt_in1 (i := 7) rfl
theorem mt_ki46 : Cond.instanceMethod mt_y46 ∈ mt_Ts := mt_in3 (i := 157) rfl
theorem mt_kc47 : Cond.code mt_y47 mt_b47 (mt_nl 47) mt_t47 ∈ mt_Ts := mt_in3 (i := 162) rfl
theorem mt_kn47 : Cond.initialized mt_y47.cls ∈ mt_Ts := mt_in1 (i := 15) rfl
theorem mt_ki47 : Cond.instanceMethod mt_y47 ∈ mt_Ts := mt_in3 (i := 161) rfl
theorem mt_kc48 : Cond.code mt_y48 mt_b48 (mt_nl 48) mt_t48 ∈ mt_Ts := mt_in3 (i := 167) rfl
theorem mt_kn48 : Cond.initialized mt_y48.cls ∈ mt_Ts := mt_in1 (i := 20) rfl
theorem mt_ki48 : Cond.instanceMethod mt_y48 ∈ mt_Ts := mt_in3 (i := 166) rfl
theorem mt_kc49 : Cond.code mt_y49 mt_b49 (mt_nl 49) mt_t49 ∈ mt_Ts := mt_in3 (i := 205) rfl
theorem mt_kn49 : Cond.initialized mt_y49.cls ∈ mt_Ts := mt_in1 (i := 10) rfl
theorem mt_ki49 : Cond.instanceMethod mt_y49 ∈ mt_Ts := mt_in3 (i := 203) rfl
theorem mt_kc50 : Cond.code mt_y50 mt_b50 (mt_nl 50) mt_t50 ∈ mt_Ts := mt_in3 (i := 209) rfl
theorem mt_kn50 : Cond.initialized mt_y50.cls ∈ mt_Ts := mt_in1 (i := 10) rfl
theorem mt_ki50 : Cond.instanceMethod mt_y50 ∈ mt_Ts := mt_in3 (i := 208) rfl
theorem mt_kc51 : Cond.code mt_y51 mt_b51 (mt_nl 51) mt_t51 ∈ mt_Ts := mt_in3 (i := 213) rfl
theorem mt_kn51 : Cond.initialized mt_y51.cls ∈ mt_Ts := mt_in1 (i := 10) rfl
theorem mt_ki51 : Cond.instanceMethod mt_y51 ∈ mt_Ts := mt_in3 (i := 212) rfl
theorem mt_kc52 : Cond.code mt_y52 mt_b52 (mt_nl 52) mt_t52 ∈ mt_Ts := mt_in3 (i := 217) rfl
theorem mt_kn52 : Cond.initialized mt_y52.cls ∈ mt_Ts := mt_in1 (i := 10) rfl
theorem mt_ki52 : Cond.instanceMethod mt_y52 ∈ mt_Ts := mt_in3 (i := 216) rfl
theorem mt_kc53 : Cond.code mt_y53 mt_b53 (mt_nl 53) mt_t53 ∈ mt_Ts := mt_in3 (i := 220) rfl
theorem mt_kn53 : Cond.initialized mt_y53.cls ∈ mt_Ts := mt_in1 (i := 21) rfl
theorem mt_ks53 : Cond.static mt_y53 ∈ mt_Ts := mt_in3 (i := 219) rfl
theorem mt_kc54 : Cond.code mt_y54 mt_b54 (mt_nl 54) mt_t54 ∈ mt_Ts := mt_in3 (i := 228) rfl
theorem mt_kn54 : Cond.initialized mt_y54.cls ∈ mt_Ts := mt_in1 (i := 22) rfl
theorem mt_ks54 : Cond.static mt_y54 ∈ mt_Ts := mt_in3 (i := 227) rfl
theorem mt_kc55 : Cond.code mt_y55 mt_b55 (mt_nl 55) mt_t55 ∈ mt_Ts := mt_in4 (i := 9) rfl
theorem mt_kn55 : Cond.initialized mt_y55.cls ∈ mt_Ts := mt_in1 (i := 22) rfl
theorem mt_ks55 : Cond.static mt_y55 ∈ mt_Ts := mt_in4 (i := 8) rfl
theorem mt_kc56 : Cond.code mt_y56 mt_b56 (mt_nl 56) mt_t56 ∈ mt_Ts := mt_in4 (i := 22) rfl
theorem mt_kn56 : Cond.initialized mt_y56.cls ∈ mt_Ts := mt_in1 (i := 15) rfl
theorem mt_ki56 : Cond.instanceMethod mt_y56 ∈ mt_Ts := mt_in4 (i := 21) rfl
theorem mt_kc57 : Cond.code mt_y57 mt_b57 (mt_nl 57) mt_t57 ∈ mt_Ts := mt_in4 (i := 27) rfl
theorem mt_kn57 : Cond.initialized mt_y57.cls ∈ mt_Ts := mt_in1 (i := 24) rfl
theorem mt_ki57 : Cond.instanceMethod mt_y57 ∈ mt_Ts := mt_in4 (i := 26) rfl
theorem mt_kc58 : Cond.code mt_y58 mt_b58 (mt_nl 58) mt_t58 ∈ mt_Ts := mt_in4 (i := 128) rfl
theorem mt_kn58 : Cond.initialized mt_y58.cls ∈ mt_Ts := mt_in1 (i := 7) rfl
theorem mt_ki58 : Cond.instanceMethod mt_y58 ∈ mt_Ts := mt_in4 (i := 127) rfl
theorem mt_kc59 : Cond.code mt_y59 mt_b59 (mt_nl 59) mt_t59 ∈ mt_Ts := mt_in4 (i := 132) rfl
theorem mt_kn59 : Cond.initialized mt_y59.cls ∈ mt_Ts := mt_in1 (i := 7) rfl
theorem mt_ki59 : Cond.instanceMethod mt_y59 ∈ mt_Ts := mt_in4 (i := 131) rfl
theorem mt_kc60 : Cond.code mt_y60 mt_b60 (mt_nl 60) mt_t60 ∈ mt_Ts := mt_in4 (i := 136) rfl
theorem mt_kn60 : Cond.initialized mt_y60.cls ∈ mt_Ts := mt_in1 (i := 24) rfl
theorem mt_ki60 : Cond.instanceMethod mt_y60 ∈ mt_Ts := mt_in4 (i := 135) rfl
theorem mt_kc61 : Cond.code mt_y61 mt_b61 (mt_nl 61) mt_t61 ∈ mt_Ts := mt_in4 (i := 141) rfl
theorem mt_kn61 : Cond.initialized mt_y61.cls ∈ mt_Ts := mt_in1 (i := 24) rfl
theorem mt_ki61 : Cond.instanceMethod mt_y61 ∈ mt_Ts := mt_in4 (i := 140) rfl
theorem mt_kc62 : Cond.code mt_y62 mt_b62 (mt_nl 62) mt_t62 ∈ mt_Ts := mt_in4 (i := 145) rfl
theorem mt_kn62 : Cond.initialized mt_y62.cls ∈ mt_Ts := mt_in1 (i := 7) rfl
theorem mt_ki62 : Cond.instanceMethod mt_y62 ∈ mt_Ts := mt_in4 (i := 144) rfl
theorem mt_kc63 : Cond.code mt_y63 mt_b63 (mt_nl 63) mt_t63 ∈ mt_Ts := mt_in4 (i := 149) rfl
theorem mt_kn63 : Cond.initialized mt_y63.cls ∈ mt_Ts := mt_in1 (i := 7) rfl
theorem mt_ki63 : Cond.instanceMethod mt_y63 ∈ mt_Ts := mt_in4 (i := 148) rfl
theorem mt_kc64 : Cond.code mt_y64 mt_b64 (mt_nl 64) mt_t64 ∈ mt_Ts := mt_in4 (i := 153) rfl
theorem mt_kn64 : Cond.initialized mt_y64.cls ∈ mt_Ts := mt_in1 (i := 7) rfl
theorem mt_ki64 : Cond.instanceMethod mt_y64 ∈ mt_Ts := mt_in4 (i := 152) rfl
theorem mt_kc65 : Cond.code mt_y65 mt_b65 (mt_nl 65) mt_t65 ∈ mt_Ts := mt_in4 (i := 157) rfl
theorem mt_kn65 : Cond.initialized mt_y65.cls ∈ mt_Ts := mt_in1 (i := 7) rfl
theorem mt_ki65 : Cond.instanceMethod mt_y65 ∈ mt_Ts := mt_in4 (i := 156) rfl
theorem mt_kc66 : Cond.code mt_y66 mt_b66 (mt_nl 66) mt_t66 ∈ mt_Ts := mt_in4 (i := 161) rfl
theorem mt_kn66 : Cond.initialized mt_y66.cls ∈ mt_Ts := mt_in1 (i := 7) rfl
theorem mt_ki66 : Cond.instanceMethod mt_y66 ∈ mt_Ts := mt_in4 (i := 160) rfl
theorem mt_kc67 : Cond.code mt_y67 mt_b67 (mt_nl 67) mt_t67 ∈ mt_Ts := mt_in4 (i := 165) rfl
theorem mt_kn67 : Cond.initialized mt_y67.cls ∈ mt_Ts := mt_in1 (i := 7) rfl
theorem mt_ki67 : Cond.instanceMethod mt_y67 ∈ mt_Ts := mt_in4 (i := 164) rfl
theorem mt_kc68 : Cond.code mt_y68 mt_b68 (mt_nl 68) mt_t68 ∈ mt_Ts := mt_in4 (i := 169) rfl
theorem mt_kn68 : Cond.initialized mt_y68.cls ∈ mt_Ts := mt_in1 (i := 7) rfl
theorem mt_ki68 : Cond.instanceMethod mt_y68 ∈ mt_Ts := mt_in4 (i := 168) rfl
theorem mt_kc69 : Cond.code mt_y69 mt_b69 (mt_nl 69) mt_t69 ∈ mt_Ts := mt_in4 (i := 173) rfl
theorem mt_kn69 : Cond.initialized mt_y69.cls ∈ mt_Ts := mt_in1 (i := 7) rfl
theorem mt_ki69 : Cond.instanceMethod mt_y69 ∈ mt_Ts := mt_in4 (i := 172) rfl
theorem mt_kc70 : Cond.code mt_y70 mt_b70 (mt_nl 70) mt_t70 ∈ mt_Ts := mt_in4 (i := 176) rfl
theorem mt_kn70 : Cond.initialized mt_y70.cls ∈ mt_Ts := mt_in1 (i := 7) rfl
theorem mt_ks70 : Cond.static mt_y70 ∈ mt_Ts := mt_in4 (i := 175) rfl
theorem mt_kc71 : Cond.code mt_y71 mt_b71 (mt_nl 71) mt_t71 ∈ mt_Ts := mt_in4 (i := 180) rfl
theorem mt_kn71 : Cond.initialized mt_y71.cls ∈ mt_Ts := mt_in1 (i := 7) rfl
theorem mt_ki71 : Cond.instanceMethod mt_y71 ∈ mt_Ts := mt_in4 (i := 179) rfl
theorem mt_kc73 : Cond.code mt_y73 mt_b73 (mt_nl 73) mt_t73 ∈ mt_Ts := mt_in4 (i := 184) rfl
theorem mt_kn73 : Cond.initialized mt_y73.cls ∈ mt_Ts := mt_in1 (i := 7) rfl
theorem mt_ki73 : Cond.instanceMethod mt_y73 ∈ mt_Ts := mt_in4 (i := 183) rfl
theorem mt_kc74 : Cond.code mt_y74 mt_b74 (mt_nl 74) mt_t74 ∈ mt_Ts := mt_in4 (i := 187) rfl
theorem mt_kn74 : Cond.initialized mt_y74.cls ∈ mt_Ts := mt_in1 (i := 22) rfl
theorem mt_ks74 : Cond.static mt_y74 ∈ mt_Ts := mt_in4 (i := 186) rfl
theorem mt_kc75 : Cond.code mt_y75 mt_b75 (mt_nl 75) mt_t75 ∈ mt_Ts := mt_in4 (i := 198) rfl
theorem mt_kn75 : Cond.initialized mt_y75.cls ∈ mt_Ts := mt_in1 (i := 24) rfl
theorem mt_ki75 : Cond.instanceMethod mt_y75 ∈ mt_Ts := mt_in4 (i := 197) rfl
theorem mt_kc76 : Cond.code mt_y76 mt_b76 (mt_nl 76) mt_t76 ∈ mt_Ts := mt_in4 (i := 202) rfl
theorem mt_kn76 : Cond.initialized mt_y76.cls ∈ mt_Ts := mt_in1 (i := 24) rfl
theorem mt_ki76 : Cond.instanceMethod mt_y76 ∈ mt_Ts := mt_in4 (i := 201) rfl
theorem mt_kc77 : Cond.code mt_y77 mt_b77 (mt_nl 77) mt_t77 ∈ mt_Ts := mt_in4 (i := 206) rfl
theorem mt_kn77 : Cond.initialized mt_y77.cls ∈ mt_Ts := mt_in1 (i := 24) rfl
theorem mt_ki77 : Cond.instanceMethod mt_y77 ∈ mt_Ts := mt_in4 (i := 205) rfl
theorem mt_kc78 : Cond.code mt_y78 mt_b78 (mt_nl 78) mt_t78 ∈ mt_Ts := mt_in4 (i := 210) rfl
theorem mt_kn78 : Cond.initialized mt_y78.cls ∈ mt_Ts := mt_in1 (i := 24) rfl
theorem mt_ki78 : Cond.instanceMethod mt_y78 ∈ mt_Ts := mt_in4 (i := 209) rfl
theorem mt_kc79 : Cond.code mt_y79 mt_b79 (mt_nl 79) mt_t79 ∈ mt_Ts := mt_in4 (i := 214) rfl
theorem mt_kn79 : Cond.initialized mt_y79.cls ∈ mt_Ts := mt_in1 (i := 24) rfl
theorem mt_ki79 : Cond.instanceMethod mt_y79 ∈ mt_Ts := mt_in4 (i := 213) rfl
theorem mt_kc80 : Cond.code mt_y80 mt_b80 (mt_nl 80) mt_t80 ∈ mt_Ts := mt_in4 (i := 218) rfl
theorem mt_kn80 : Cond.initialized mt_y80.cls ∈ mt_Ts := mt_in1 (i := 24) rfl
theorem mt_ki80 : Cond.instanceMethod mt_y80 ∈ mt_Ts := mt_in4 (i := 217) rfl
theorem mt_kc81 : Cond.code mt_y81 mt_b81 (mt_nl 81) mt_t81 ∈ mt_Ts := mt_in4 (i := 222) rfl
theorem mt_kn81 : Cond.initialized mt_y81.cls ∈ mt_Ts := mt_in1 (i := 24) rfl
theorem mt_ki81 : Cond.instanceMethod mt_y81 ∈ mt_Ts := mt_in4 (i := 221) rfl
theorem mt_kc82 : Cond.code mt_y82 mt_b82 (mt_nl 82) mt_t82 ∈ mt_Ts := mt_in4 (i := 225) rfl
theorem mt_kn82 : Cond.initialized mt_y82.cls ∈ mt_Ts := mt_in1 (i := 1) rfl
theorem mt_ks82 : Cond.static mt_y82 ∈ mt_Ts := mt_in4 (i := 224) rfl
theorem mt_kc83 : Cond.code mt_y83 mt_b83 (mt_nl 83) mt_t83 ∈ mt_Ts := mt_in4 (i := 231) rfl
theorem mt_kn83 : Cond.initialized mt_y83.cls ∈ mt_Ts := mt_in1 (i := 24) rfl
theorem mt_ki83 : Cond.instanceMethod mt_y83 ∈ mt_Ts := mt_in4 (i := 230) rfl
theorem mt_kc84 : Cond.code mt_y84 mt_b84 (mt_nl 84) mt_t84 ∈ mt_Ts := mt_in4 (i := 235) rfl
theorem mt_kn84 : Cond.initialized mt_y84.cls ∈ mt_Ts := mt_in1 (i := 7) rfl
theorem mt_ki84 : Cond.instanceMethod mt_y84 ∈ mt_Ts := mt_in4 (i := 234) rfl
theorem mt_kc85 : Cond.code mt_y85 mt_b85 (mt_nl 85) mt_t85 ∈ mt_Ts := mt_in4 (i := 239) rfl
theorem mt_kn85 : Cond.initialized mt_y85.cls ∈ mt_Ts := mt_in1 (i := 7) rfl
theorem mt_ki85 : Cond.instanceMethod mt_y85 ∈ mt_Ts := mt_in4 (i := 238) rfl
theorem mt_kc86 : Cond.code mt_y86 mt_b86 (mt_nl 86) mt_t86 ∈ mt_Ts := mt_in5 (i := 3) rfl
theorem mt_kn86 : Cond.initialized mt_y86.cls ∈ mt_Ts := mt_in1 (i := 7) rfl
theorem mt_ki86 : Cond.instanceMethod mt_y86 ∈ mt_Ts := mt_in5 (i := 2) rfl
theorem mt_kc87 : Cond.code mt_y87 mt_b87 (mt_nl 87) mt_t87 ∈ mt_Ts := mt_in5 (i := 7) rfl
theorem mt_kn87 : Cond.initialized mt_y87.cls ∈ mt_Ts := mt_in1 (i := 7) rfl
theorem mt_ki87 : Cond.instanceMethod mt_y87 ∈ mt_Ts := mt_in5 (i := 6) rfl
theorem mt_kc88 : Cond.code mt_y88 mt_b88 (mt_nl 88) mt_t88 ∈ mt_Ts := mt_in5 (i := 11) rfl
theorem mt_kn88 : Cond.initialized mt_y88.cls ∈ mt_Ts := mt_in1 (i := 15) rfl
theorem mt_ki88 : Cond.instanceMethod mt_y88 ∈ mt_Ts := mt_in5 (i := 10) rfl
theorem mt_kc89 : Cond.code mt_y89 mt_b89 (mt_nl 89) mt_t89 ∈ mt_Ts := mt_in5 (i := 15) rfl
theorem mt_kn89 : Cond.initialized mt_y89.cls ∈ mt_Ts := mt_in1 (i := 24) rfl
theorem mt_ki89 : Cond.instanceMethod mt_y89 ∈ mt_Ts := mt_in5 (i := 14) rfl
theorem mt_kc90 : Cond.code mt_y90 mt_b90 (mt_nl 90) mt_t90 ∈ mt_Ts := mt_in5 (i := 19) rfl
theorem mt_kn90 : Cond.initialized mt_y90.cls ∈ mt_Ts := mt_in1 (i := 15) rfl
theorem mt_ki90 : Cond.instanceMethod mt_y90 ∈ mt_Ts := mt_in5 (i := 18) rfl
theorem mt_kc91 : Cond.code mt_y91 mt_b91 (mt_nl 91) mt_t91 ∈ mt_Ts := mt_in5 (i := 24) rfl
theorem mt_kn91 : Cond.initialized mt_y91.cls ∈ mt_Ts := mt_in1 (i := 13) rfl
theorem mt_ki91 : Cond.instanceMethod mt_y91 ∈ mt_Ts := mt_in5 (i := 23) rfl
theorem mt_kc92 : Cond.code mt_y92 mt_b92 (mt_nl 92) mt_t92 ∈ mt_Ts := mt_in5 (i := 28) rfl
theorem mt_kn92 : Cond.initialized mt_y92.cls ∈ mt_Ts := mt_in1 (i := 1) rfl
theorem mt_ki92 : Cond.instanceMethod mt_y92 ∈ mt_Ts := mt_in5 (i := 26) rfl
theorem mt_kc93 : Cond.code mt_y93 mt_b93 (mt_nl 93) mt_t93 ∈ mt_Ts := mt_in5 (i := 32) rfl
theorem mt_kn93 : Cond.initialized mt_y93.cls ∈ mt_Ts := mt_in1 (i := 13) rfl
theorem mt_ki93 : Cond.instanceMethod mt_y93 ∈ mt_Ts := mt_in5 (i := 31) rfl
theorem mt_kc94 : Cond.code mt_y94 mt_b94 (mt_nl 94) mt_t94 ∈ mt_Ts := mt_in5 (i := 36) rfl
theorem mt_kn94 : Cond.initialized mt_y94.cls ∈ mt_Ts := mt_in1 (i := 7) rfl
theorem mt_ki94 : Cond.instanceMethod mt_y94 ∈ mt_Ts := mt_in5 (i := 35) rfl
theorem mt_kc95 : Cond.code mt_y95 mt_b95 (mt_nl 95) mt_t95 ∈ mt_Ts := mt_in5 (i := 40) rfl
theorem mt_kn95 : Cond.initialized mt_y95.cls ∈ mt_Ts := mt_in1 (i := 13) rfl
theorem mt_ki95 : Cond.instanceMethod mt_y95 ∈ mt_Ts := mt_in5 (i := 39) rfl
theorem mt_kc96 : Cond.code mt_y96 mt_b96 (mt_nl 96) mt_t96 ∈ mt_Ts := mt_in5 (i := 45) rfl
theorem mt_kn96 : Cond.initialized mt_y96.cls ∈ mt_Ts := mt_in1 (i := 25) rfl
theorem mt_ki96 : Cond.instanceMethod mt_y96 ∈ mt_Ts := mt_in5 (i := 44) rfl
theorem mt_kc97 : Cond.code mt_y97 mt_b97 (mt_nl 97) mt_t97 ∈ mt_Ts := mt_in5 (i := 60) rfl
theorem mt_kn97 : Cond.initialized mt_y97.cls ∈ mt_Ts := mt_in1 (i := 1) rfl
theorem mt_ki97 : Cond.instanceMethod mt_y97 ∈ mt_Ts := mt_in5 (i := 58) rfl
theorem mt_kc98 : Cond.code mt_y98 mt_b98 (mt_nl 98) mt_t98 ∈ mt_Ts := mt_in5 (i := 64) rfl
theorem mt_kn98 : Cond.initialized mt_y98.cls ∈ mt_Ts := mt_in1 (i := 1) rfl
theorem mt_ki98 : Cond.instanceMethod mt_y98 ∈ mt_Ts := mt_in5 (i := 62) rfl
theorem mt_kc99 : Cond.code mt_y99 mt_b99 (mt_nl 99) mt_t99 ∈ mt_Ts := mt_in5 (i := 68) rfl
theorem mt_kn99 : Cond.initialized mt_y99.cls ∈ mt_Ts := mt_in1 (i := 1) rfl
theorem mt_ki99 : Cond.instanceMethod mt_y99 ∈ mt_Ts := mt_in5 (i := 66) rfl
theorem mt_kc100 : Cond.code mt_y100 mt_b100 (mt_nl 100) mt_t100 ∈ mt_Ts := mt_in5 (i := 72) rfl
theorem mt_kn100 : Cond.initialized mt_y100.cls ∈ mt_Ts := mt_in1 (i := 1) rfl
theorem mt_ki100 : Cond.instanceMethod mt_y100 ∈ mt_Ts := mt_in5 (i := 70) rfl
theorem mt_kc101 : Cond.code mt_y101 mt_b101 (mt_nl 101) mt_t101 ∈ mt_Ts := mt_in5 (i := 77) rfl
theorem mt_kn101 : Cond.initialized mt_y101.cls ∈ mt_Ts := mt_in1 (i := 14) rfl
theorem mt_ki101 : Cond.instanceMethod mt_y101 ∈ mt_Ts := mt_in5 (i := 76) rfl
theorem mt_kc102 : Cond.code mt_y102 mt_b102 (mt_nl 102) mt_t102 ∈ mt_Ts := mt_in5 (i := 81) rfl
theorem mt_kn102 : Cond.initialized mt_y102.cls ∈ mt_Ts := mt_in1 (i := 1) rfl
theorem mt_ki102 : Cond.instanceMethod mt_y102 ∈ mt_Ts := mt_in5 (i := 79) rfl
theorem mt_kc103 : Cond.code mt_y103 mt_b103 (mt_nl 103) mt_t103 ∈ mt_Ts := mt_in5 (i := 85) rfl
theorem mt_kn103 : Cond.initialized mt_y103.cls ∈ mt_Ts := mt_in1 (i := 1) rfl
theorem mt_ki103 : Cond.instanceMethod mt_y103 ∈ mt_Ts := mt_in5 (i := 84) rfl
theorem mt_kc104 : Cond.code mt_y104 mt_b104 (mt_nl 104) mt_t104 ∈ mt_Ts := mt_in5 (i := 89) rfl
theorem mt_kn104 : Cond.initialized mt_y104.cls ∈ mt_Ts := mt_in1 (i := 1) rfl
theorem mt_ki104 : Cond.instanceMethod mt_y104 ∈ mt_Ts := mt_in5 (i := 87) rfl
theorem mt_kc105 : Cond.code mt_y105 mt_b105 (mt_nl 105) mt_t105 ∈ mt_Ts := mt_in5 (i := 93) rfl
theorem mt_kn105 : Cond.initialized mt_y105.cls ∈ mt_Ts := mt_in1 (i := 1) rfl
theorem mt_ki105 : Cond.instanceMethod mt_y105 ∈ mt_Ts := mt_in5 (i := 91) rfl
theorem mt_kc106 : Cond.code mt_y106 mt_b106 (mt_nl 106) mt_t106 ∈ mt_Ts := mt_in5 (i := 97) rfl
theorem mt_kn106 : Cond.initialized mt_y106.cls ∈ mt_Ts := mt_in1 (i := 24) rfl
theorem mt_ki106 : Cond.instanceMethod mt_y106 ∈ mt_Ts := mt_in5 (i := 96) rfl
theorem mt_kc107 : Cond.code mt_y107 mt_b107 (mt_nl 107) mt_t107 ∈ mt_Ts := mt_in5 (i := 101) rfl
theorem mt_kn107 : Cond.initialized mt_y107.cls ∈ mt_Ts := mt_in1 (i := 1) rfl
theorem mt_ki107 : Cond.instanceMethod mt_y107 ∈ mt_Ts := mt_in5 (i := 99) rfl
theorem mt_kc108 : Cond.code mt_y108 mt_b108 (mt_nl 108) mt_t108 ∈ mt_Ts := mt_in5 (i := 104) rfl
theorem mt_kn108 : Cond.initialized mt_y108.cls ∈ mt_Ts := mt_in1 (i := 1) rfl
theorem mt_ks108 : Cond.static mt_y108 ∈ mt_Ts := mt_in5 (i := 103) rfl
theorem mt_kc109 : Cond.code mt_y109 mt_b109 (mt_nl 109) mt_t109 ∈ mt_Ts := mt_in5 (i := 108) rfl
theorem mt_kn109 : Cond.initialized mt_y109.cls ∈ mt_Ts := mt_in1 (i := 1) rfl
theorem mt_ki109 : Cond.instanceMethod mt_y109 ∈ mt_Ts := mt_in5 (i := 106) rfl
theorem mt_kc110 : Cond.code mt_y110 mt_b110 (mt_nl 110) mt_t110 ∈ mt_Ts := mt_in5 (i := 112) rfl
theorem mt_kn110 : Cond.initialized mt_y110.cls ∈ mt_Ts := mt_in1 (i := 1) rfl
theorem mt_ki110 : Cond.instanceMethod mt_y110 ∈ mt_Ts := mt_in5 (i := 110) rfl
theorem mt_kc111 : Cond.code mt_y111 mt_b111 (mt_nl 111) mt_t111 ∈ mt_Ts := mt_in5 (i := 116) rfl
theorem mt_kn111 : Cond.initialized mt_y111.cls ∈ mt_Ts := mt_in1 (i := 24) rfl
theorem mt_ki111 : Cond.instanceMethod mt_y111 ∈ mt_Ts := mt_in5 (i := 115) rfl
theorem mt_kc112 : Cond.code mt_y112 mt_b112 (mt_nl 112) mt_t112 ∈ mt_Ts := mt_in5 (i := 120) rfl
theorem mt_kn112 : Cond.initialized mt_y112.cls ∈ mt_Ts := mt_in1 (i := 1) rfl
theorem mt_ki112 : Cond.instanceMethod mt_y112 ∈ mt_Ts := mt_in5 (i := 118) rfl
theorem mt_kc113 : Cond.code mt_y113 mt_b113 (mt_nl 113) mt_t113 ∈ mt_Ts := mt_in5 (i := 124) rfl
theorem mt_kn113 : Cond.initialized mt_y113.cls ∈ mt_Ts := mt_in1 (i := 11) rfl
theorem mt_ki113 : Cond.instanceMethod mt_y113 ∈ mt_Ts := mt_in5 (i := 123) rfl
theorem mt_kc114 : Cond.code mt_y114 mt_b114 (mt_nl 114) mt_t114 ∈ mt_Ts := mt_in5 (i := 128) rfl
theorem mt_kn114 : Cond.initialized mt_y114.cls ∈ mt_Ts := mt_in1 (i := 11) rfl
theorem mt_ki114 : Cond.instanceMethod mt_y114 ∈ mt_Ts := mt_in5 (i := 127) rfl
theorem mt_kc115 : Cond.code mt_y115 mt_b115 (mt_nl 115) mt_t115 ∈ mt_Ts := mt_in5 (i := 132) rfl
theorem mt_kn115 : Cond.initialized mt_y115.cls ∈ mt_Ts := mt_in1 (i := 24) rfl
theorem mt_ki115 : Cond.instanceMethod mt_y115 ∈ mt_Ts := mt_in5 (i := 131) rfl
theorem mt_kc116 : Cond.code mt_y116 mt_b116 (mt_nl 116) mt_t116 ∈ mt_Ts := mt_in5 (i := 136) rfl
theorem mt_kn116 : Cond.initialized mt_y116.cls ∈ mt_Ts := mt_in1 (i := 12) rfl
theorem mt_ki116 : Cond.instanceMethod mt_y116 ∈ mt_Ts := mt_in5 (i := 135) rfl
theorem mt_kc117 : Cond.code mt_y117 mt_b117 (mt_nl 117) mt_t117 ∈ mt_Ts := mt_in5 (i := 140) rfl
theorem mt_kn117 : Cond.initialized mt_y117.cls ∈ mt_Ts := mt_in1 (i := 11) rfl
theorem mt_ki117 : Cond.instanceMethod mt_y117 ∈ mt_Ts := mt_in5 (i := 139) rfl
theorem mt_kc118 : Cond.code mt_y118 mt_b118 (mt_nl 118) mt_t118 ∈ mt_Ts := mt_in5 (i := 144) rfl
theorem mt_kn118 : Cond.initialized mt_y118.cls ∈ mt_Ts := mt_in1 (i := 11) rfl
theorem mt_ki118 : Cond.instanceMethod mt_y118 ∈ mt_Ts := mt_in5 (i := 143) rfl
theorem mt_kc119 : Cond.code mt_y119 mt_b119 (mt_nl 119) mt_t119 ∈ mt_Ts := mt_in5 (i := 149) rfl
theorem mt_kn119 : Cond.initialized mt_y119.cls ∈ mt_Ts := mt_in1 (i := 12) rfl
theorem mt_ki119 : Cond.instanceMethod mt_y119 ∈ mt_Ts := mt_in5 (i := 148) rfl
theorem mt_kc120 : Cond.code mt_y120 mt_b120 (mt_nl 120) mt_t120 ∈ mt_Ts := mt_in5 (i := 153) rfl
theorem mt_kn120 : Cond.initialized mt_y120.cls ∈ mt_Ts := mt_in1 (i := 11) rfl
theorem mt_ki120 : Cond.instanceMethod mt_y120 ∈ mt_Ts := mt_in5 (i := 152) rfl
theorem mt_kc121 : Cond.code mt_y121 mt_b121 (mt_nl 121) mt_t121 ∈ mt_Ts := mt_in5 (i := 157) rfl
theorem mt_kn121 : Cond.initialized mt_y121.cls ∈ mt_Ts := mt_in1 (i := 11) rfl
theorem mt_ki121 : Cond.instanceMethod mt_y121 ∈ mt_Ts := mt_in5 (i := 156) rfl
theorem mt_kc122 : Cond.code mt_y122 mt_b122 (mt_nl 122) mt_t122 ∈ mt_Ts := mt_in5 (i := 161) rfl
theorem mt_kn122 : Cond.initialized mt_y122.cls ∈ mt_Ts := mt_in1 (i := 11) rfl
theorem mt_ki122 : Cond.instanceMethod mt_y122 ∈ mt_Ts := mt_in5 (i := 160) rfl
theorem mt_kc123 : Cond.code mt_y123 mt_b123 (mt_nl 123) mt_t123 ∈ mt_Ts := mt_in5 (i := 168) rfl
theorem mt_kn123 : Cond.initialized mt_y123.cls ∈ mt_Ts := mt_in1 (i := 11) rfl
theorem mt_ki123 : Cond.instanceMethod mt_y123 ∈ mt_Ts := mt_in5 (i := 167) rfl
theorem mt_kc124 : Cond.code mt_y124 mt_b124 (mt_nl 124) mt_t124 ∈ mt_Ts := mt_in5 (i := 172) rfl
theorem mt_kn124 : Cond.initialized mt_y124.cls ∈ mt_Ts := mt_in1 (i := 11) rfl
theorem mt_ki124 : Cond.instanceMethod mt_y124 ∈ mt_Ts := mt_in5 (i := 171) rfl
theorem mt_kc125 : Cond.code mt_y125 mt_b125 (mt_nl 125) mt_t125 ∈ mt_Ts := mt_in5 (i := 176) rfl
theorem mt_kn125 : Cond.initialized mt_y125.cls ∈ mt_Ts := mt_in1 (i := 11) rfl
theorem mt_ki125 : Cond.instanceMethod mt_y125 ∈ mt_Ts := mt_in5 (i := 175) rfl
theorem mt_kc126 : Cond.code mt_y126 mt_b126 (mt_nl 126) mt_t126 ∈ mt_Ts := mt_in5 (i := 180) rfl
theorem mt_kn126 : Cond.initialized mt_y126.cls ∈ mt_Ts := mt_in1 (i := 11) rfl
theorem mt_ki126 : Cond.instanceMethod mt_y126 ∈ mt_Ts := mt_in5 (i := 179) rfl
theorem mt_kc127 : Cond.code mt_y127 mt_b127 (mt_nl 127) mt_t127 ∈ mt_Ts := mt_in5 (i := 184) rfl
theorem mt_kn127 : Cond.initialized mt_y127.cls ∈ mt_Ts := mt_in1 (i := 11) rfl
theorem mt_ki127 : Cond.instanceMethod mt_y127 ∈ mt_Ts := mt_in5 (i := 183) rfl
theorem mt_kc128 : Cond.code mt_y128 mt_b128 (mt_nl 128) mt_t128 ∈ mt_Ts := mt_in5 (i := 188) rfl
theorem mt_kn128 : Cond.initialized mt_y128.cls ∈ mt_Ts := mt_in1 (i := 11) rfl
theorem mt_ki128 : Cond.instanceMethod mt_y128 ∈ mt_Ts := mt_in5 (i := 187) rfl
theorem mt_kc129 : Cond.code mt_y129 mt_b129 (mt_nl 129) mt_t129 ∈ mt_Ts := mt_in5 (i := 192) rfl
theorem mt_kn129 : Cond.initialized mt_y129.cls ∈ mt_Ts := mt_in1 (i := 11) rfl
theorem mt_ki129 : Cond.instanceMethod mt_y129 ∈ mt_Ts := mt_in5 (i := 191) rfl
theorem mt_kc130 : Cond.code mt_y130 mt_b130 (mt_nl 130) mt_t130 ∈ mt_Ts := mt_in5 (i := 196) rfl
theorem mt_kn130 : Cond.initialized mt_y130.cls ∈ mt_Ts := mt_in1 (i := 11) rfl
theorem mt_ki130 : Cond.instanceMethod mt_y130 ∈ mt_Ts := mt_in5 (i := 195) rfl
theorem mt_kc131 : Cond.code mt_y131 mt_b131 (mt_nl 131) mt_t131 ∈ mt_Ts := mt_in5 (i := 200) rfl
theorem mt_kn131 : Cond.initialized mt_y131.cls ∈ mt_Ts := mt_in1 (i := 11) rfl
theorem mt_ki131 : Cond.instanceMethod mt_y131 ∈ mt_Ts := mt_in5 (i := 199) rfl
theorem mt_kc132 : Cond.code mt_y132 mt_b132 (mt_nl 132) mt_t132 ∈ mt_Ts := mt_in5 (i := 204) rfl
theorem mt_kn132 : Cond.initialized mt_y132.cls ∈ mt_Ts := mt_in1 (i := 11) rfl
theorem mt_ki132 : Cond.instanceMethod mt_y132 ∈ mt_Ts := mt_in5 (i := 203) rfl
theorem mt_kc133 : Cond.code mt_y133 mt_b133 (mt_nl 133) mt_t133 ∈ mt_Ts := mt_in5 (i := 208) rfl
theorem mt_kn133 : Cond.initialized mt_y133.cls ∈ mt_Ts := mt_in1 (i := 11) rfl
theorem mt_ki133 : Cond.instanceMethod mt_y133 ∈ mt_Ts := mt_in5 (i := 207) rfl
theorem mt_kc134 : Cond.code mt_y134 mt_b134 (mt_nl 134) mt_t134 ∈ mt_Ts := mt_in5 (i := 212) rfl
theorem mt_kn134 : Cond.initialized mt_y134.cls ∈ mt_Ts := mt_in1 (i := 1) rfl
theorem mt_ki134 : Cond.instanceMethod mt_y134 ∈ mt_Ts := mt_in5 (i := 210) rfl
theorem mt_kc135 : Cond.code mt_y135 mt_b135 (mt_nl 135) mt_t135 ∈ mt_Ts := mt_in5 (i := 216) rfl
theorem mt_kn135 : Cond.initialized mt_y135.cls ∈ mt_Ts := mt_in1 (i := 1) rfl
theorem mt_ki135 : Cond.instanceMethod mt_y135 ∈ mt_Ts := mt_in5 (i := 214) rfl
theorem mt_kc136 : Cond.code mt_y136 mt_b136 (mt_nl 136) mt_t136 ∈ mt_Ts := mt_in5 (i := 220) rfl
theorem mt_kn136 : Cond.initialized mt_y136.cls ∈ mt_Ts := mt_in1 (i := 1) rfl
theorem mt_ki136 : Cond.instanceMethod mt_y136 ∈ mt_Ts := mt_in5 (i := 218) rfl
theorem mt_kc137 : Cond.code mt_y137 mt_b137 (mt_nl 137) mt_t137 ∈ mt_Ts := mt_in5 (i := 224) rfl
theorem mt_kn137 : Cond.initialized mt_y137.cls ∈ mt_Ts := mt_in1 (i := 11) rfl
theorem mt_ki137 : Cond.instanceMethod mt_y137 ∈ mt_Ts := mt_in5 (i := 223) rfl
theorem mt_kc138 : Cond.code mt_y138 mt_b138 (mt_nl 138) mt_t138 ∈ mt_Ts := mt_in5 (i := 228) rfl
theorem mt_kn138 : Cond.initialized mt_y138.cls ∈ mt_Ts := mt_in1 (i := 16) rfl
theorem mt_ki138 : Cond.instanceMethod mt_y138 ∈ mt_Ts := mt_in5 (i := 227) rfl
theorem mt_kc139 : Cond.code mt_y139 mt_b139 (mt_nl 139) mt_t139 ∈ mt_Ts := mt_in5 (i := 232) rfl
theorem mt_kn139 : Cond.initialized mt_y139.cls ∈ mt_Ts := mt_in1 (i := 13) rfl
theorem mt_ki139 : Cond.instanceMethod mt_y139 ∈ mt_Ts := mt_in5 (i := 231) rfl
theorem mt_kc140 : Cond.code mt_y140 mt_b140 (mt_nl 140) mt_t140 ∈ mt_Ts := mt_in5 (i := 236) rfl
theorem mt_kn140 : Cond.initialized mt_y140.cls ∈ mt_Ts := mt_in1 (i := 15) rfl
theorem mt_ki140 : Cond.instanceMethod mt_y140 ∈ mt_Ts := mt_in5 (i := 235) rfl
theorem mt_kc141 : Cond.code mt_y141 mt_b141 (mt_nl 141) mt_t141 ∈ mt_Ts := mt_in6 (i := 2) rfl
theorem mt_kn141 : Cond.initialized mt_y141.cls ∈ mt_Ts := mt_in1 (i := 24) rfl
theorem mt_ki141 : Cond.instanceMethod mt_y141 ∈ mt_Ts := mt_in6 (i := 1) rfl
theorem mt_kc142 : Cond.code mt_y142 mt_b142 (mt_nl 142) mt_t142 ∈ mt_Ts := mt_in6 (i := 7) rfl
theorem mt_kn142 : Cond.initialized mt_y142.cls ∈ mt_Ts := mt_in1 (i := 13) rfl
theorem mt_ki142 : Cond.instanceMethod mt_y142 ∈ mt_Ts := mt_in6 (i := 6) rfl
theorem mt_kc143 : Cond.code mt_y143 mt_b143 (mt_nl 143) mt_t143 ∈ mt_Ts := mt_in6 (i := 11) rfl
theorem mt_kn143 : Cond.initialized mt_y143.cls ∈ mt_Ts := mt_in1 (i := 10) rfl
theorem mt_ki143 : Cond.instanceMethod mt_y143 ∈ mt_Ts := mt_in6 (i := 9) rfl
theorem mt_kc144 : Cond.code mt_y144 mt_b144 (mt_nl 144) mt_t144 ∈ mt_Ts := mt_in6 (i := 15) rfl
theorem mt_kn144 : Cond.initialized mt_y144.cls ∈ mt_Ts := mt_in1 (i := 10) rfl
theorem mt_ki144 : Cond.instanceMethod mt_y144 ∈ mt_Ts := mt_in6 (i := 13) rfl
theorem mt_kc145 : Cond.code mt_y145 mt_b145 (mt_nl 145) mt_t145 ∈ mt_Ts := mt_in6 (i := 18) rfl
theorem mt_kn145 : Cond.initialized mt_y145.cls ∈ mt_Ts := mt_in1 (i := 26) rfl
theorem mt_ks145 : Cond.static mt_y145 ∈ mt_Ts := mt_in6 (i := 17) rfl
theorem mt_kc146 : Cond.code mt_y146 mt_b146 (mt_nl 146) mt_t146 ∈ mt_Ts := mt_in6 (i := 23) rfl
theorem mt_kn146 : Cond.initialized mt_y146.cls ∈ mt_Ts := mt_in1 (i := 10) rfl
theorem mt_ki146 : Cond.instanceMethod mt_y146 ∈ mt_Ts := mt_in6 (i := 21) rfl
theorem mt_kc147 : Cond.code mt_y147 mt_b147 (mt_nl 147) mt_t147 ∈ mt_Ts := mt_in6 (i := 28) rfl
theorem mt_kn147 : Cond.initialized mt_y147.cls ∈ mt_Ts := mt_in1 (i := 15) rfl
theorem mt_ki147 : Cond.instanceMethod mt_y147 ∈ mt_Ts := mt_in6 (i := 27) rfl
theorem mt_kc148 : Cond.code mt_y148 mt_b148 (mt_nl 148) mt_t148 ∈ mt_Ts := mt_in6 (i := 33) rfl
theorem mt_kn148 : Cond.initialized mt_y148.cls ∈ mt_Ts := mt_in1 (i := 15) rfl
theorem mt_ki148 : Cond.instanceMethod mt_y148 ∈ mt_Ts := mt_in6 (i := 32) rfl
theorem mt_kc149 : Cond.code mt_y149 mt_b149 (mt_nl 149) mt_t149 ∈ mt_Ts := mt_in6 (i := 38) rfl
theorem mt_kn149 : Cond.initialized mt_y149.cls ∈ mt_Ts := mt_in1 (i := 15) rfl
theorem mt_ki149 : Cond.instanceMethod mt_y149 ∈ mt_Ts := mt_in6 (i := 37) rfl
theorem mt_kc150 : Cond.code mt_y150 mt_b150 (mt_nl 150) mt_t150 ∈ mt_Ts := mt_in6 (i := 42) rfl
theorem mt_kn150 : Cond.initialized mt_y150.cls ∈ mt_Ts := mt_in1 (i := 24) rfl
theorem mt_ki150 : Cond.instanceMethod mt_y150 ∈ mt_Ts := mt_in6 (i := 41) rfl
theorem mt_kc151 : Cond.code mt_y151 mt_b151 (mt_nl 151) mt_t151 ∈ mt_Ts := mt_in6 (i := 47) rfl
theorem mt_kn151 : Cond.initialized mt_y151.cls ∈ mt_Ts := mt_in1 (i := 13) rfl
theorem mt_ki151 : Cond.instanceMethod mt_y151 ∈ mt_Ts := mt_in6 (i := 46) rfl
theorem mt_kc152 : Cond.code mt_y152 mt_b152 (mt_nl 152) mt_t152 ∈ mt_Ts := mt_in6 (i := 51) rfl
theorem mt_kn152 : Cond.initialized mt_y152.cls ∈ mt_Ts := mt_in1 (i := 15) rfl
theorem mt_ki152 : Cond.instanceMethod mt_y152 ∈ mt_Ts := mt_in6 (i := 50) rfl
theorem mt_kc153 : Cond.code mt_y153 mt_b153 (mt_nl 153) mt_t153 ∈ mt_Ts := mt_in6 (i := 57) rfl
theorem mt_kn153 : Cond.initialized mt_y153.cls ∈ mt_Ts := mt_in1 (i := 13) rfl
theorem mt_ki153 : Cond.instanceMethod mt_y153 ∈ mt_Ts := mt_in6 (i := 56) rfl
theorem mt_kc154 : Cond.code mt_y154 mt_b154 (mt_nl 154) mt_t154 ∈ mt_Ts := mt_in6 (i := 61) rfl
theorem mt_kn154 : Cond.initialized mt_y154.cls ∈ mt_Ts := mt_in1 (i := 14) rfl
theorem mt_ki154 : Cond.instanceMethod mt_y154 ∈ mt_Ts := mt_in6 (i := 60) rfl
theorem mt_kc155 : Cond.code mt_y155 mt_b155 (mt_nl 155) mt_t155 ∈ mt_Ts := mt_in6 (i := 67) rfl
theorem mt_kn155 : Cond.initialized mt_y155.cls ∈ mt_Ts := mt_in1 (i := 13) rfl
theorem mt_ki155 : Cond.instanceMethod mt_y155 ∈ mt_Ts := mt_in6 (i := 66) rfl
theorem mt_kc156 : Cond.code mt_y156 mt_b156 (mt_nl 156) mt_t156 ∈ mt_Ts := mt_in6 (i := 70) rfl
theorem mt_kn156 : Cond.initialized mt_y156.cls ∈ mt_Ts := mt_in1 (i := 22) rfl
theorem mt_ks156 : Cond.static mt_y156 ∈ mt_Ts := mt_in6 (i := 69) rfl
theorem mt_kc157 : Cond.code mt_y157 mt_b157 (mt_nl 157) mt_t157 ∈ mt_Ts := mt_in6 (i := 74) rfl
theorem mt_kn157 : Cond.initialized mt_y157.cls ∈ mt_Ts := mt_in1 (i := 13) rfl
theorem mt_ki157 : Cond.instanceMethod mt_y157 ∈ mt_Ts := mt_in6 (i := 73) rfl
theorem mt_kc158 : Cond.code mt_y158 mt_b158 (mt_nl 158) mt_t158 ∈ mt_Ts := mt_in6 (i := 78) rfl
theorem mt_kn158 : Cond.initialized mt_y158.cls ∈ mt_Ts := mt_in1 (i := 15) rfl
theorem mt_ki158 : Cond.instanceMethod mt_y158 ∈ mt_Ts := mt_in6 (i := 77) rfl
theorem mt_kc159 : Cond.code mt_y159 mt_b159 (mt_nl 159) mt_t159 ∈ mt_Ts := mt_in6 (i := 82) rfl
theorem mt_kn159 : Cond.initialized mt_y159.cls ∈ mt_Ts := mt_in1 (i := 24) rfl
theorem mt_ki159 : Cond.instanceMethod mt_y159 ∈ mt_Ts := mt_in6 (i := 81) rfl
theorem mt_kc160 : Cond.code mt_y160 mt_b160 (mt_nl 160) mt_t160 ∈ mt_Ts := mt_in6 (i := 87) rfl
theorem mt_kn160 : Cond.initialized mt_y160.cls ∈ mt_Ts := mt_in1 (i := 25) rfl
theorem mt_ki160 : Cond.instanceMethod mt_y160 ∈ mt_Ts := mt_in6 (i := 86) rfl
theorem mt_kc161 : Cond.code mt_y161 mt_b161 (mt_nl 161) mt_t161 ∈ mt_Ts := mt_in6 (i := 95) rfl
theorem mt_kn161 : Cond.initialized mt_y161.cls ∈ mt_Ts := mt_in1 (i := 11) rfl
theorem mt_ki161 : Cond.instanceMethod mt_y161 ∈ mt_Ts := mt_in6 (i := 94) rfl
theorem mt_kc162 : Cond.code mt_y162 mt_b162 (mt_nl 162) mt_t162 ∈ mt_Ts := mt_in6 (i := 99) rfl
theorem mt_kn162 : Cond.initialized mt_y162.cls ∈ mt_Ts := mt_in1 (i := 12) rfl
theorem mt_ki162 : Cond.instanceMethod mt_y162 ∈ mt_Ts := mt_in6 (i := 98) rfl
theorem mt_kc163 : Cond.code mt_y163 mt_b163 (mt_nl 163) mt_t163 ∈ mt_Ts := mt_in6 (i := 103) rfl
theorem mt_kn163 : Cond.initialized mt_y163.cls ∈ mt_Ts := mt_in1 (i := 13) rfl
theorem mt_ki163 : Cond.instanceMethod mt_y163 ∈ mt_Ts := mt_in6 (i := 102) rfl
theorem mt_kc164 : Cond.code mt_y164 mt_b164 (mt_nl 164) mt_t164 ∈ mt_Ts := mt_in6 (i := 107) rfl
theorem mt_kn164 : Cond.initialized mt_y164.cls ∈ mt_Ts := mt_in1 (i := 13) rfl
theorem mt_ki164 : Cond.instanceMethod mt_y164 ∈ mt_Ts := mt_in6 (i := 106) rfl
theorem mt_kc165 : Cond.code mt_y165 mt_b165 (mt_nl 165) mt_t165 ∈ mt_Ts := mt_in6 (i := 112) rfl
theorem mt_kn165 : Cond.initialized mt_y165.cls ∈ mt_Ts := mt_in1 (i := 1) rfl
theorem mt_ki165 : Cond.instanceMethod mt_y165 ∈ mt_Ts := mt_in6 (i := 111) rfl
theorem mt_kc166 : Cond.code mt_y166 mt_b166 (mt_nl 166) mt_t166 ∈ mt_Ts := mt_in6 (i := 116) rfl
theorem mt_kn166 : Cond.initialized mt_y166.cls ∈ mt_Ts := mt_in1 (i := 1) rfl
theorem mt_ki166 : Cond.instanceMethod mt_y166 ∈ mt_Ts := mt_in6 (i := 114) rfl
theorem mt_kc167 : Cond.code mt_y167 mt_b167 (mt_nl 167) mt_t167 ∈ mt_Ts := mt_in6 (i := 120) rfl
theorem mt_kn167 : Cond.initialized mt_y167.cls ∈ mt_Ts := mt_in1 (i := 1) rfl
theorem mt_ki167 : Cond.instanceMethod mt_y167 ∈ mt_Ts := mt_in6 (i := 118) rfl
theorem mt_kc168 : Cond.code mt_y168 mt_b168 (mt_nl 168) mt_t168 ∈ mt_Ts := mt_in6 (i := 124) rfl
theorem mt_kn168 : Cond.initialized mt_y168.cls ∈ mt_Ts := mt_in1 (i := 1) rfl
theorem mt_ki168 : Cond.instanceMethod mt_y168 ∈ mt_Ts := mt_in6 (i := 122) rfl
theorem mt_kc169 : Cond.code mt_y169 mt_b169 (mt_nl 169) mt_t169 ∈ mt_Ts := mt_in6 (i := 129) rfl
theorem mt_kn169 : Cond.initialized mt_y169.cls ∈ mt_Ts := mt_in1 (i := 16) rfl
theorem mt_ki169 : Cond.instanceMethod mt_y169 ∈ mt_Ts := mt_in6 (i := 128) rfl
theorem mt_kc170 : Cond.code mt_y170 mt_b170 (mt_nl 170) mt_t170 ∈ mt_Ts := mt_in6 (i := 134) rfl
theorem mt_kn170 : Cond.initialized mt_y170.cls ∈ mt_Ts := mt_in1 (i := 1) rfl
theorem mt_ki170 : Cond.instanceMethod mt_y170 ∈ mt_Ts := mt_in6 (i := 132) rfl
theorem mt_kc171 : Cond.code mt_y171 mt_b171 (mt_nl 171) mt_t171 ∈ mt_Ts := mt_in6 (i := 138) rfl
theorem mt_kn171 : Cond.initialized mt_y171.cls ∈ mt_Ts := mt_in1 (i := 16) rfl
theorem mt_ki171 : Cond.instanceMethod mt_y171 ∈ mt_Ts := mt_in6 (i := 137) rfl
theorem mt_kc172 : Cond.code mt_y172 mt_b172 (mt_nl 172) mt_t172 ∈ mt_Ts := mt_in6 (i := 142) rfl
theorem mt_kn172 : Cond.initialized mt_y172.cls ∈ mt_Ts := mt_in1 (i := 1) rfl
theorem mt_ki172 : Cond.instanceMethod mt_y172 ∈ mt_Ts := mt_in6 (i := 140) rfl
theorem mt_kc173 : Cond.code mt_y173 mt_b173 (mt_nl 173) mt_t173 ∈ mt_Ts := mt_in6 (i := 146) rfl
theorem mt_kn173 : Cond.initialized mt_y173.cls ∈ mt_Ts := mt_in1 (i := 1) rfl
theorem mt_ki173 : Cond.instanceMethod mt_y173 ∈ mt_Ts := mt_in6 (i := 144) rfl
theorem mt_kc174 : Cond.code mt_y174 mt_b174 (mt_nl 174) mt_t174 ∈ mt_Ts := mt_in6 (i := 150) rfl
theorem mt_kn174 : Cond.initialized mt_y174.cls ∈ mt_Ts := mt_in1 (i := 13) rfl
theorem mt_ki174 : Cond.instanceMethod mt_y174 ∈ mt_Ts := mt_in6 (i := 149) rfl
theorem mt_kc175 : Cond.code mt_y175 mt_b175 (mt_nl 175) mt_t175 ∈ mt_Ts := mt_in6 (i := 154) rfl
theorem mt_kn175 : Cond.initialized mt_y175.cls ∈ mt_Ts := mt_in1 (i := 1) rfl
theorem mt_ki175 : Cond.instanceMethod mt_y175 ∈ mt_Ts := mt_in6 (i := 152) rfl
theorem mt_kc176 : Cond.code mt_y176 mt_b176 (mt_nl 176) mt_t176 ∈ mt_Ts := mt_in6 (i := 158) rfl
theorem mt_kn176 : Cond.initialized mt_y176.cls ∈ mt_Ts := mt_in1 (i := 1) rfl
theorem mt_ki176 : Cond.instanceMethod mt_y176 ∈ mt_Ts := mt_in6 (i := 156) rfl
theorem mt_kc177 : Cond.code mt_y177 mt_b177 (mt_nl 177) mt_t177 ∈ mt_Ts := mt_in6 (i := 162) rfl
theorem mt_kn177 : Cond.initialized mt_y177.cls ∈ mt_Ts := mt_in1 (i := 1) rfl
theorem mt_ki177 : Cond.instanceMethod mt_y177 ∈ mt_Ts := mt_in6 (i := 160) rfl
theorem mt_kc178 : Cond.code mt_y178 mt_b178 (mt_nl 178) mt_t178 ∈ mt_Ts := mt_in6 (i := 166) rfl
theorem mt_kn178 : Cond.initialized mt_y178.cls ∈ mt_Ts := mt_in1 (i := 13) rfl
theorem mt_ki178 : Cond.instanceMethod mt_y178 ∈ mt_Ts := mt_in6 (i := 165) rfl
theorem mt_kc179 : Cond.code mt_y179 mt_b179 (mt_nl 179) mt_t179 ∈ mt_Ts := mt_in6 (i := 170) rfl
theorem mt_kn179 : Cond.initialized mt_y179.cls ∈ mt_Ts := mt_in1 (i := 13) rfl
theorem mt_ki179 : Cond.instanceMethod mt_y179 ∈ mt_Ts := mt_in6 (i := 169) rfl
theorem mt_kc180 : Cond.code mt_y180 mt_b180 (mt_nl 180) mt_t180 ∈ mt_Ts := mt_in6 (i := 175) rfl
theorem mt_kn180 : Cond.initialized mt_y180.cls ∈ mt_Ts := mt_in1 (i := 13) rfl
theorem mt_ki180 : Cond.instanceMethod mt_y180 ∈ mt_Ts := mt_in6 (i := 174) rfl
theorem mt_kc181 : Cond.code mt_y181 mt_b181 (mt_nl 181) mt_t181 ∈ mt_Ts := mt_in6 (i := 179) rfl
theorem mt_kn181 : Cond.initialized mt_y181.cls ∈ mt_Ts := mt_in1 (i := 1) rfl
theorem mt_ki181 : Cond.instanceMethod mt_y181 ∈ mt_Ts := mt_in6 (i := 177) rfl
theorem mt_kc182 : Cond.code mt_y182 mt_b182 (mt_nl 182) mt_t182 ∈ mt_Ts := mt_in6 (i := 184) rfl
theorem mt_kn182 : Cond.initialized mt_y182.cls ∈ mt_Ts := mt_in1 (i := 17) rfl
theorem mt_ki182 : Cond.instanceMethod mt_y182 ∈ mt_Ts := mt_in6 (i := 183) rfl
theorem mt_kc183 : Cond.code mt_y183 mt_b183 (mt_nl 183) mt_t183 ∈ mt_Ts := mt_in7 (i := 237) rfl
theorem mt_kn183 : Cond.initialized mt_y183.cls ∈ mt_Ts := mt_in1 (i := 17) rfl
theorem mt_ki183 : Cond.instanceMethod mt_y183 ∈ mt_Ts := mt_in7 (i := 235) rfl
theorem mt_kc184 : Cond.code mt_y184 mt_b184 (mt_nl 184) mt_t184 ∈ mt_Ts := mt_in8 (i := 1) rfl
theorem mt_kn184 : Cond.initialized mt_y184.cls ∈ mt_Ts := mt_in1 (i := 17) rfl
theorem mt_ki184 : Cond.instanceMethod mt_y184 ∈ mt_Ts := mt_in8 (i := 0) rfl
theorem mt_kc185 : Cond.code mt_y185 mt_b185 (mt_nl 185) mt_t185 ∈ mt_Ts := mt_in8 (i := 5) rfl
theorem mt_kn185 : Cond.initialized mt_y185.cls ∈ mt_Ts := mt_in1 (i := 17) rfl
theorem mt_ki185 : Cond.instanceMethod mt_y185 ∈ mt_Ts := mt_in8 (i := 4) rfl
theorem mt_kc186 : Cond.code mt_y186 mt_b186 (mt_nl 186) mt_t186 ∈ mt_Ts := mt_in8 (i := 9) rfl
theorem mt_kn186 : Cond.initialized mt_y186.cls ∈ mt_Ts := mt_in1 (i := 17) rfl
theorem mt_ki186 : Cond.instanceMethod mt_y186 ∈ mt_Ts := mt_in8 (i := 8) rfl
theorem mt_kc187 : Cond.code mt_y187 mt_b187 (mt_nl 187) mt_t187 ∈ mt_Ts := mt_in8 (i := 12) rfl
theorem mt_kn187 : Cond.initialized mt_y187.cls ∈ mt_Ts := mt_in1 (i := 17) rfl
theorem mt_ks187 : Cond.static mt_y187 ∈ mt_Ts := mt_in8 (i := 11) rfl
theorem mt_kc188 : Cond.code mt_y188 mt_b188 (mt_nl 188) mt_t188 ∈ mt_Ts := mt_in8 (i := 16) rfl
theorem mt_kn188 : Cond.initialized mt_y188.cls ∈ mt_Ts := mt_in1 (i := 17) rfl
theorem mt_ki188 : Cond.instanceMethod mt_y188 ∈ mt_Ts := mt_in8 (i := 15) rfl
theorem mt_kc189 : Cond.code mt_y189 mt_b189 (mt_nl 189) mt_t189 ∈ mt_Ts := mt_in8 (i := 20) rfl
theorem mt_kn189 : Cond.initialized mt_y189.cls ∈ mt_Ts := mt_in1 (i := 17) rfl
theorem mt_ki189 : Cond.instanceMethod mt_y189 ∈ mt_Ts := mt_in8 (i := 19) rfl
theorem mt_kc190 : Cond.code mt_y190 mt_b190 (mt_nl 190) mt_t190 ∈ mt_Ts := mt_in8 (i := 23) rfl
theorem mt_kn190 : Cond.initialized mt_y190.cls ∈ mt_Ts := mt_in1 (i := 17) rfl
theorem mt_ks190 : Cond.static mt_y190 ∈ mt_Ts := mt_in8 (i := 22) rfl
theorem mt_kc191 : Cond.code mt_y191 mt_b191 (mt_nl 191) mt_t191 ∈ mt_Ts := mt_in8 (i := 26) rfl
theorem mt_kn191 : Cond.initialized mt_y191.cls ∈ mt_Ts := mt_in1 (i := 17) rfl
theorem mt_ks191 : Cond.static mt_y191 ∈ mt_Ts := mt_in8 (i := 25) rfl
theorem mt_kc192 : Cond.code mt_y192 mt_b192 (mt_nl 192) mt_t192 ∈ mt_Ts := mt_in8 (i := 29) rfl
theorem mt_kn192 : Cond.initialized mt_y192.cls ∈ mt_Ts := mt_in1 (i := 17) rfl
theorem mt_ks192 : Cond.static mt_y192 ∈ mt_Ts := mt_in8 (i := 28) rfl
theorem mt_kc193 : Cond.code mt_y193 mt_b193 (mt_nl 193) mt_t193 ∈ mt_Ts := mt_in8 (i := 33) rfl
theorem mt_kn193 : Cond.initialized mt_y193.cls ∈ mt_Ts := mt_in1 (i := 17) rfl
theorem mt_ki193 : Cond.instanceMethod mt_y193 ∈ mt_Ts := mt_in8 (i := 32) rfl
theorem mt_kc194 : Cond.code mt_y194 mt_b194 (mt_nl 194) mt_t194 ∈ mt_Ts := mt_in8 (i := 37) rfl
theorem mt_kn194 : Cond.initialized mt_y194.cls ∈ mt_Ts := mt_in1 (i := 17) rfl
theorem mt_ki194 : Cond.instanceMethod mt_y194 ∈ mt_Ts := mt_in8 (i := 36) rfl
theorem mt_kc195 : Cond.code mt_y195 mt_b195 (mt_nl 195) mt_t195 ∈ mt_Ts := mt_in8 (i := 41) rfl
theorem mt_kn195 : Cond.initialized mt_y195.cls ∈ mt_Ts := mt_in1 (i := 17) rfl
theorem mt_ki195 : Cond.instanceMethod mt_y195 ∈ mt_Ts := mt_in8 (i := 40) rfl
theorem mt_kc196 : Cond.code mt_y196 mt_b196 (mt_nl 196) mt_t196 ∈ mt_Ts := mt_in8 (i := 45) rfl
theorem mt_kn196 : Cond.initialized mt_y196.cls ∈ mt_Ts := mt_in1 (i := 17) rfl
theorem mt_ki196 : Cond.instanceMethod mt_y196 ∈ mt_Ts := mt_in8 (i := 44) rfl
theorem mt_kc197 : Cond.code mt_y197 mt_b197 (mt_nl 197) mt_t197 ∈ mt_Ts := mt_in8 (i := 49) rfl
theorem mt_kn197 : Cond.initialized mt_y197.cls ∈ mt_Ts := mt_in1 (i := 17) rfl
theorem mt_ki197 : Cond.instanceMethod mt_y197 ∈ mt_Ts := mt_in8 (i := 48) rfl
theorem mt_kc198 : Cond.code mt_y198 mt_b198 (mt_nl 198) mt_t198 ∈ mt_Ts := mt_in8 (i := 53) rfl
theorem mt_kn198 : Cond.initialized mt_y198.cls ∈ mt_Ts := mt_in1 (i := 17) rfl
theorem mt_ki198 : Cond.instanceMethod mt_y198 ∈ mt_Ts := mt_in8 (i := 52) rfl
theorem mt_kc199 : Cond.code mt_y199 mt_b199 (mt_nl 199) mt_t199 ∈ mt_Ts := mt_in8 (i := 57) rfl
theorem mt_kn199 : Cond.initialized mt_y199.cls ∈ mt_Ts := mt_in1 (i := 17) rfl
theorem mt_ki199 : Cond.instanceMethod mt_y199 ∈ mt_Ts := mt_in8 (i := 56) rfl
theorem mt_kc200 : Cond.code mt_y200 mt_b200 (mt_nl 200) mt_t200 ∈ mt_Ts := mt_in8 (i := 61) rfl
theorem mt_kn200 : Cond.initialized mt_y200.cls ∈ mt_Ts := mt_in1 (i := 17) rfl
theorem mt_ki200 : Cond.instanceMethod mt_y200 ∈ mt_Ts := mt_in8 (i := 60) rfl
theorem mt_kc201 : Cond.code mt_y201 mt_b201 (mt_nl 201) mt_t201 ∈ mt_Ts := mt_in8 (i := 65) rfl
theorem mt_kn201 : Cond.initialized mt_y201.cls ∈ mt_Ts := mt_in1 (i := 17) rfl
theorem mt_ki201 : Cond.instanceMethod mt_y201 ∈ mt_Ts := mt_in8 (i := 64) rfl
theorem mt_kc202 : Cond.code mt_y202 mt_b202 (mt_nl 202) mt_t202 ∈ mt_Ts := mt_in8 (i := 69) rfl
theorem mt_kn202 : Cond.initialized mt_y202.cls ∈ mt_Ts := mt_in1 (i := 17) rfl
theorem mt_ki202 : Cond.instanceMethod mt_y202 ∈ mt_Ts := mt_in8 (i := 68) rfl
theorem mt_kc203 : Cond.code mt_y203 mt_b203 (mt_nl 203) mt_t203 ∈ mt_Ts := mt_in8 (i := 73) rfl
theorem mt_kn203 : Cond.initialized mt_y203.cls ∈ mt_Ts := mt_in1 (i := 17) rfl
theorem mt_ki203 : Cond.instanceMethod mt_y203 ∈ mt_Ts := mt_in8 (i := 72) rfl
theorem mt_kc204 : Cond.code mt_y204 mt_b204 (mt_nl 204) mt_t204 ∈ mt_Ts := mt_in8 (i := 77) rfl
theorem mt_kn204 : Cond.initialized mt_y204.cls ∈ mt_Ts := mt_in1 (i := 17) rfl
theorem mt_ki204 : Cond.instanceMethod mt_y204 ∈ mt_Ts := mt_in8 (i := 76) rfl
theorem mt_kc205 : Cond.code mt_y205 mt_b205 (mt_nl 205) mt_t205 ∈ mt_Ts := mt_in8 (i := 81) rfl
theorem mt_kn205 : Cond.initialized mt_y205.cls ∈ mt_Ts := mt_in1 (i := 17) rfl
theorem mt_ki205 : Cond.instanceMethod mt_y205 ∈ mt_Ts := mt_in8 (i := 80) rfl
theorem mt_kc206 : Cond.code mt_y206 mt_b206 (mt_nl 206) mt_t206 ∈ mt_Ts := mt_in8 (i := 85) rfl
theorem mt_kn206 : Cond.initialized mt_y206.cls ∈ mt_Ts := mt_in1 (i := 17) rfl
theorem mt_ki206 : Cond.instanceMethod mt_y206 ∈ mt_Ts := mt_in8 (i := 84) rfl
theorem mt_kc207 : Cond.code mt_y207 mt_b207 (mt_nl 207) mt_t207 ∈ mt_Ts := mt_in8 (i := 89) rfl
theorem mt_kn207 : Cond.initialized mt_y207.cls ∈ mt_Ts := mt_in1 (i := 17) rfl
theorem mt_ki207 : Cond.instanceMethod mt_y207 ∈ mt_Ts := mt_in8 (i := 88) rfl
theorem mt_kc208 : Cond.code mt_y208 mt_b208 (mt_nl 208) mt_t208 ∈ mt_Ts := mt_in8 (i := 93) rfl
theorem mt_kn208 : Cond.initialized mt_y208.cls ∈ mt_Ts := mt_in1 (i := 17) rfl
theorem mt_ki208 : Cond.instanceMethod mt_y208 ∈ mt_Ts := mt_in8 (i := 92) rfl
theorem mt_kc209 : Cond.code mt_y209 mt_b209 (mt_nl 209) mt_t209 ∈ mt_Ts := mt_in8 (i := 97) rfl
theorem mt_kn209 : Cond.initialized mt_y209.cls ∈ mt_Ts := mt_in1 (i := 17) rfl
theorem mt_ki209 : Cond.instanceMethod mt_y209 ∈ mt_Ts := mt_in8 (i := 96) rfl
theorem mt_kc210 : Cond.code mt_y210 mt_b210 (mt_nl 210) mt_t210 ∈ mt_Ts := mt_in8 (i := 101) rfl
theorem mt_kn210 : Cond.initialized mt_y210.cls ∈ mt_Ts := mt_in1 (i := 17) rfl
theorem mt_ki210 : Cond.instanceMethod mt_y210 ∈ mt_Ts := mt_in8 (i := 100) rfl
theorem mt_kc211 : Cond.code mt_y211 mt_b211 (mt_nl 211) mt_t211 ∈ mt_Ts := mt_in8 (i := 105) rfl
theorem mt_kn211 : Cond.initialized mt_y211.cls ∈ mt_Ts := mt_in1 (i := 17) rfl
theorem mt_ki211 : Cond.instanceMethod mt_y211 ∈ mt_Ts := mt_in8 (i := 104) rfl
theorem mt_kc212 : Cond.code mt_y212 mt_b212 (mt_nl 212) mt_t212 ∈ mt_Ts := mt_in8 (i := 109) rfl
theorem mt_kn212 : Cond.initialized mt_y212.cls ∈ mt_Ts := mt_in1 (i := 17) rfl
theorem mt_ki212 : Cond.instanceMethod mt_y212 ∈ mt_Ts := mt_in8 (i := 108) rfl
theorem mt_kc213 : Cond.code mt_y213 mt_b213 (mt_nl 213) mt_t213 ∈ mt_Ts := mt_in8 (i := 113) rfl
theorem mt_kn213 : Cond.initialized mt_y213.cls ∈ mt_Ts := mt_in1 (i := 17) rfl
theorem mt_ki213 : Cond.instanceMethod mt_y213 ∈ mt_Ts := mt_in8 (i := 112) rfl
theorem mt_kc214 : Cond.code mt_y214 mt_b214 (mt_nl 214) mt_t214 ∈ mt_Ts := mt_in8 (i := 117) rfl
theorem mt_kn214 : Cond.initialized mt_y214.cls ∈ mt_Ts := mt_in1 (i := 17) rfl
theorem mt_ki214 : Cond.instanceMethod mt_y214 ∈ mt_Ts := mt_in8 (i := 116) rfl
theorem mt_kc215 : Cond.code mt_y215 mt_b215 (mt_nl 215) mt_t215 ∈ mt_Ts := mt_in8 (i := 121) rfl
theorem mt_kn215 : Cond.initialized mt_y215.cls ∈ mt_Ts := mt_in1 (i := 17) rfl
theorem mt_ki215 : Cond.instanceMethod mt_y215 ∈ mt_Ts := mt_in8 (i := 120) rfl
theorem mt_kc216 : Cond.code mt_y216 mt_b216 (mt_nl 216) mt_t216 ∈ mt_Ts := mt_in8 (i := 125) rfl
theorem mt_kn216 : Cond.initialized mt_y216.cls ∈ mt_Ts := mt_in1 (i := 17) rfl
theorem mt_ki216 : Cond.instanceMethod mt_y216 ∈ mt_Ts := mt_in8 (i := 124) rfl
theorem mt_kc217 : Cond.code mt_y217 mt_b217 (mt_nl 217) mt_t217 ∈ mt_Ts := mt_in8 (i := 129) rfl
theorem mt_kn217 : Cond.initialized mt_y217.cls ∈ mt_Ts := mt_in1 (i := 17) rfl
theorem mt_ki217 : Cond.instanceMethod mt_y217 ∈ mt_Ts := mt_in8 (i := 128) rfl
theorem mt_kc218 : Cond.code mt_y218 mt_b218 (mt_nl 218) mt_t218 ∈ mt_Ts := mt_in8 (i := 133) rfl
theorem mt_kn218 : Cond.initialized mt_y218.cls ∈ mt_Ts := mt_in1 (i := 17) rfl
theorem mt_ki218 : Cond.instanceMethod mt_y218 ∈ mt_Ts := mt_in8 (i := 132) rfl
theorem mt_kc219 : Cond.code mt_y219 mt_b219 (mt_nl 219) mt_t219 ∈ mt_Ts := mt_in8 (i := 137) rfl
theorem mt_kn219 : Cond.initialized mt_y219.cls ∈ mt_Ts := mt_in1 (i := 17) rfl
theorem mt_ki219 : Cond.instanceMethod mt_y219 ∈ mt_Ts := mt_in8 (i := 136) rfl
theorem mt_kc220 : Cond.code mt_y220 mt_b220 (mt_nl 220) mt_t220 ∈ mt_Ts := mt_in8 (i := 141) rfl
theorem mt_kn220 : Cond.initialized mt_y220.cls ∈ mt_Ts := mt_in1 (i := 17) rfl
theorem mt_ki220 : Cond.instanceMethod mt_y220 ∈ mt_Ts := mt_in8 (i := 140) rfl
theorem mt_kc221 : Cond.code mt_y221 mt_b221 (mt_nl 221) mt_t221 ∈ mt_Ts := mt_in8 (i := 145) rfl
theorem mt_kn221 : Cond.initialized mt_y221.cls ∈ mt_Ts := mt_in1 (i := 17) rfl
theorem mt_ki221 : Cond.instanceMethod mt_y221 ∈ mt_Ts := mt_in8 (i := 144) rfl
theorem mt_kc222 : Cond.code mt_y222 mt_b222 (mt_nl 222) mt_t222 ∈ mt_Ts := mt_in8 (i := 149) rfl
theorem mt_kn222 : Cond.initialized mt_y222.cls ∈ mt_Ts := mt_in1 (i := 17) rfl
theorem mt_ki222 : Cond.instanceMethod mt_y222 ∈ mt_Ts := mt_in8 (i := 148) rfl
theorem mt_kc223 : Cond.code mt_y223 mt_b223 (mt_nl 223) mt_t223 ∈ mt_Ts := mt_in8 (i := 153) rfl
theorem mt_kn223 : Cond.initialized mt_y223.cls ∈ mt_Ts := mt_in1 (i := 17) rfl
theorem mt_ki223 : Cond.instanceMethod mt_y223 ∈ mt_Ts := mt_in8 (i := 152) rfl
theorem mt_kc224 : Cond.code mt_y224 mt_b224 (mt_nl 224) mt_t224 ∈ mt_Ts := mt_in8 (i := 157) rfl
theorem mt_kn224 : Cond.initialized mt_y224.cls ∈ mt_Ts := mt_in1 (i := 17) rfl
theorem mt_ki224 : Cond.instanceMethod mt_y224 ∈ mt_Ts := mt_in8 (i := 156) rfl
theorem mt_kc225 : Cond.code mt_y225 mt_b225 (mt_nl 225) mt_t225 ∈ mt_Ts := mt_in8 (i := 161) rfl
theorem mt_kn225 : Cond.initialized mt_y225.cls ∈ mt_Ts := mt_in1 (i := 17) rfl
theorem mt_ki225 : Cond.instanceMethod mt_y225 ∈ mt_Ts := mt_in8 (i := 160) rfl
theorem mt_kc226 : Cond.code mt_y226 mt_b226 (mt_nl 226) mt_t226 ∈ mt_Ts := mt_in8 (i := 166) rfl
theorem mt_kn226 : Cond.initialized mt_y226.cls ∈ mt_Ts := mt_in1 (i := 17) rfl
theorem mt_ki226 : Cond.instanceMethod mt_y226 ∈ mt_Ts := mt_in8 (i := 165) rfl
theorem mt_kc227 : Cond.code mt_y227 mt_b227 (mt_nl 227) mt_t227 ∈ mt_Ts := mt_in8 (i := 170) rfl
theorem mt_kn227 : Cond.initialized mt_y227.cls ∈ mt_Ts := mt_in1 (i := 17) rfl
theorem mt_ki227 : Cond.instanceMethod mt_y227 ∈ mt_Ts := mt_in8 (i := 168) rfl
theorem mt_kc228 : Cond.code mt_y228 mt_b228 (mt_nl 228) mt_t228 ∈ mt_Ts := mt_in8 (i := 174) rfl
theorem mt_kn228 : Cond.initialized mt_y228.cls ∈ mt_Ts := mt_in1 (i := 17) rfl
theorem mt_ki228 : Cond.instanceMethod mt_y228 ∈ mt_Ts := mt_in8 (i := 173) rfl
theorem mt_kc229 : Cond.code mt_y229 mt_b229 (mt_nl 229) mt_t229 ∈ mt_Ts := mt_in8 (i := 178) rfl
theorem mt_kn229 : Cond.initialized mt_y229.cls ∈ mt_Ts := mt_in1 (i := 17) rfl
theorem mt_ki229 : Cond.instanceMethod mt_y229 ∈ mt_Ts := mt_in8 (i := 177) rfl
theorem mt_kc230 : Cond.code mt_y230 mt_b230 (mt_nl 230) mt_t230 ∈ mt_Ts := mt_in8 (i := 182) rfl
theorem mt_kn230 : Cond.initialized mt_y230.cls ∈ mt_Ts := mt_in1 (i := 17) rfl
theorem mt_ki230 : Cond.instanceMethod mt_y230 ∈ mt_Ts := mt_in8 (i := 181) rfl
theorem mt_kc231 : Cond.code mt_y231 mt_b231 (mt_nl 231) mt_t231 ∈ mt_Ts := mt_in8 (i := 186) rfl
theorem mt_kn231 : Cond.initialized mt_y231.cls ∈ mt_Ts := mt_in1 (i := 17) rfl
theorem mt_ki231 : Cond.instanceMethod mt_y231 ∈ mt_Ts := mt_in8 (i := 185) rfl
theorem mt_kc232 : Cond.code mt_y232 mt_b232 (mt_nl 232) mt_t232 ∈ mt_Ts := mt_in8 (i := 190) rfl
theorem mt_kn232 : Cond.initialized mt_y232.cls ∈ mt_Ts := mt_in1 (i := 17) rfl
theorem mt_ki232 : Cond.instanceMethod mt_y232 ∈ mt_Ts := mt_in8 (i := 188) rfl
theorem mt_kc233 : Cond.code mt_y233 mt_b233 (mt_nl 233) mt_t233 ∈ mt_Ts := mt_in8 (i := 194) rfl
theorem mt_kn233 : Cond.initialized mt_y233.cls ∈ mt_Ts := mt_in1 (i := 17) rfl
theorem mt_ki233 : Cond.instanceMethod mt_y233 ∈ mt_Ts := mt_in8 (i := 192) rfl
theorem mt_kc234 : Cond.code mt_y234 mt_b234 (mt_nl 234) mt_t234 ∈ mt_Ts := mt_in8 (i := 198) rfl
theorem mt_kn234 : Cond.initialized mt_y234.cls ∈ mt_Ts := mt_in1 (i := 17) rfl
theorem mt_ki234 : Cond.instanceMethod mt_y234 ∈ mt_Ts := mt_in8 (i := 196) rfl
theorem mt_kc235 : Cond.code mt_y235 mt_b235 (mt_nl 235) mt_t235 ∈ mt_Ts := mt_in8 (i := 202) rfl
theorem mt_kn235 : Cond.initialized mt_y235.cls ∈ mt_Ts := mt_in1 (i := 17) rfl
theorem mt_ki235 : Cond.instanceMethod mt_y235 ∈ mt_Ts := mt_in8 (i := 200) rfl
theorem mt_kc236 : Cond.code mt_y236 mt_b236 (mt_nl 236) mt_t236 ∈ mt_Ts := mt_in8 (i := 206) rfl
theorem mt_kn236 : Cond.initialized mt_y236.cls ∈ mt_Ts := mt_in1 (i := 17) rfl
theorem mt_ki236 : Cond.instanceMethod mt_y236 ∈ mt_Ts := mt_in8 (i := 204) rfl
theorem mt_kc237 : Cond.code mt_y237 mt_b237 (mt_nl 237) mt_t237 ∈ mt_Ts := mt_in8 (i := 210) rfl
theorem mt_kn237 : Cond.initialized mt_y237.cls ∈ mt_Ts := mt_in1 (i := 17) rfl
theorem mt_ki237 : Cond.instanceMethod mt_y237 ∈ mt_Ts := mt_in8 (i := 209) rfl
theorem mt_kc238 : Cond.code mt_y238 mt_b238 (mt_nl 238) mt_t238 ∈ mt_Ts := mt_in8 (i := 214) rfl
theorem mt_kn238 : Cond.initialized mt_y238.cls ∈ mt_Ts := mt_in1 (i := 17) rfl
theorem mt_ki238 : Cond.instanceMethod mt_y238 ∈ mt_Ts := mt_in8 (i := 212) rfl
theorem mt_kc239 : Cond.code mt_y239 mt_b239 (mt_nl 239) mt_t239 ∈ mt_Ts := mt_in8 (i := 218) rfl
theorem mt_kn239 : Cond.initialized mt_y239.cls ∈ mt_Ts := mt_in1 (i := 17) rfl
theorem mt_ki239 : Cond.instanceMethod mt_y239 ∈ mt_Ts := mt_in8 (i := 216) rfl
theorem mt_kc240 : Cond.code mt_y240 mt_b240 (mt_nl 240) mt_t240 ∈ mt_Ts := mt_in8 (i := 222) rfl
theorem mt_kn240 : Cond.initialized mt_y240.cls ∈ mt_Ts := mt_in1 (i := 17) rfl
theorem mt_ki240 : Cond.instanceMethod mt_y240 ∈ mt_Ts := mt_in8 (i := 220) rfl
theorem mt_kc241 : Cond.code mt_y241 mt_b241 (mt_nl 241) mt_t241 ∈ mt_Ts := mt_in8 (i := 226) rfl
theorem mt_kn241 : Cond.initialized mt_y241.cls ∈ mt_Ts := mt_in1 (i := 17) rfl
theorem mt_ki241 : Cond.instanceMethod mt_y241 ∈ mt_Ts := mt_in8 (i := 225) rfl
theorem mt_kc242 : Cond.code mt_y242 mt_b242 (mt_nl 242) mt_t242 ∈ mt_Ts := mt_in8 (i := 230) rfl
theorem mt_kn242 : Cond.initialized mt_y242.cls ∈ mt_Ts := mt_in1 (i := 17) rfl
theorem mt_ki242 : Cond.instanceMethod mt_y242 ∈ mt_Ts := mt_in8 (i := 228) rfl
theorem mt_kc243 : Cond.code mt_y243 mt_b243 (mt_nl 243) mt_t243 ∈ mt_Ts := mt_in8 (i := 234) rfl
theorem mt_kn243 : Cond.initialized mt_y243.cls ∈ mt_Ts := mt_in1 (i := 17) rfl
theorem mt_ki243 : Cond.instanceMethod mt_y243 ∈ mt_Ts := mt_in8 (i := 232) rfl
theorem mt_kc244 : Cond.code mt_y244 mt_b244 (mt_nl 244) mt_t244 ∈ mt_Ts := mt_in8 (i := 237) rfl
theorem mt_kn244 : Cond.initialized mt_y244.cls ∈ mt_Ts := mt_in1 (i := 17) rfl
theorem mt_ks244 : Cond.static mt_y244 ∈ mt_Ts := mt_in8 (i := 236) rfl
theorem mt_kc245 : Cond.code mt_y245 mt_b245 (mt_nl 245) mt_t245 ∈ mt_Ts := mt_in9 (i := 1) rfl
theorem mt_kn245 : Cond.initialized mt_y245.cls ∈ mt_Ts := mt_in1 (i := 17) rfl
theorem mt_ki245 : Cond.instanceMethod mt_y245 ∈ mt_Ts := mt_in8 (i := 239) rfl
theorem mt_kc246 : Cond.code mt_y246 mt_b246 (mt_nl 246) mt_t246 ∈ mt_Ts := mt_in9 (i := 6) rfl
theorem mt_kn246 : Cond.initialized mt_y246.cls ∈ mt_Ts := mt_in1 (i := 17) rfl
theorem mt_ki246 : Cond.instanceMethod mt_y246 ∈ mt_Ts := mt_in9 (i := 4) rfl
theorem mt_kc247 : Cond.code mt_y247 mt_b247 (mt_nl 247) mt_t247 ∈ mt_Ts := mt_in9 (i := 10) rfl
theorem mt_kn247 : Cond.initialized mt_y247.cls ∈ mt_Ts := mt_in1 (i := 17) rfl
theorem mt_ki247 : Cond.instanceMethod mt_y247 ∈ mt_Ts := mt_in9 (i := 8) rfl
theorem mt_kc248 : Cond.code mt_y248 mt_b248 (mt_nl 248) mt_t248 ∈ mt_Ts := mt_in9 (i := 14) rfl
theorem mt_kn248 : Cond.initialized mt_y248.cls ∈ mt_Ts := mt_in1 (i := 17) rfl
theorem mt_ki248 : Cond.instanceMethod mt_y248 ∈ mt_Ts := mt_in9 (i := 13) rfl
theorem mt_kc249 : Cond.code mt_y249 mt_b249 (mt_nl 249) mt_t249 ∈ mt_Ts := mt_in9 (i := 18) rfl
theorem mt_kn249 : Cond.initialized mt_y249.cls ∈ mt_Ts := mt_in1 (i := 17) rfl
theorem mt_ki249 : Cond.instanceMethod mt_y249 ∈ mt_Ts := mt_in9 (i := 16) rfl
theorem mt_kc250 : Cond.code mt_y250 mt_b250 (mt_nl 250) mt_t250 ∈ mt_Ts := mt_in9 (i := 22) rfl
theorem mt_kn250 : Cond.initialized mt_y250.cls ∈ mt_Ts := mt_in1 (i := 17) rfl
theorem mt_ki250 : Cond.instanceMethod mt_y250 ∈ mt_Ts := mt_in9 (i := 20) rfl
theorem mt_kc251 : Cond.code mt_y251 mt_b251 (mt_nl 251) mt_t251 ∈ mt_Ts := mt_in9 (i := 26) rfl
theorem mt_kn251 : Cond.initialized mt_y251.cls ∈ mt_Ts := mt_in1 (i := 17) rfl
theorem mt_ki251 : Cond.instanceMethod mt_y251 ∈ mt_Ts := mt_in9 (i := 25) rfl
theorem mt_kc252 : Cond.code mt_y252 mt_b252 (mt_nl 252) mt_t252 ∈ mt_Ts := mt_in9 (i := 30) rfl
theorem mt_kn252 : Cond.initialized mt_y252.cls ∈ mt_Ts := mt_in1 (i := 17) rfl
theorem mt_ki252 : Cond.instanceMethod mt_y252 ∈ mt_Ts := mt_in9 (i := 29) rfl
theorem mt_kc253 : Cond.code mt_y253 mt_b253 (mt_nl 253) mt_t253 ∈ mt_Ts := mt_in9 (i := 34) rfl
theorem mt_kn253 : Cond.initialized mt_y253.cls ∈ mt_Ts := mt_in1 (i := 17) rfl
theorem mt_ki253 : Cond.instanceMethod mt_y253 ∈ mt_Ts := mt_in9 (i := 33) rfl
theorem mt_kc254 : Cond.code mt_y254 mt_b254 (mt_nl 254) mt_t254 ∈ mt_Ts := mt_in9 (i := 38) rfl
theorem mt_kn254 : Cond.initialized mt_y254.cls ∈ mt_Ts := mt_in1 (i := 17) rfl
theorem mt_ki254 : Cond.instanceMethod mt_y254 ∈ mt_Ts := mt_in9 (i := 37) rfl
theorem mt_kc255 : Cond.code mt_y255 mt_b255 (mt_nl 255) mt_t255 ∈ mt_Ts := mt_in9 (i := 42) rfl
theorem mt_kn255 : Cond.initialized mt_y255.cls ∈ mt_Ts := mt_in1 (i := 17) rfl
theorem mt_ki255 : Cond.instanceMethod mt_y255 ∈ mt_Ts := mt_in9 (i := 41) rfl
theorem mt_kc256 : Cond.code mt_y256 mt_b256 (mt_nl 256) mt_t256 ∈ mt_Ts := mt_in9 (i := 46) rfl
theorem mt_kn256 : Cond.initialized mt_y256.cls ∈ mt_Ts := mt_in1 (i := 17) rfl
theorem mt_ki256 : Cond.instanceMethod mt_y256 ∈ mt_Ts := mt_in9 (i := 45) rfl
theorem mt_kc257 : Cond.code mt_y257 mt_b257 (mt_nl 257) mt_t257 ∈ mt_Ts := mt_in9 (i := 50) rfl
theorem mt_kn257 : Cond.initialized mt_y257.cls ∈ mt_Ts := mt_in1 (i := 17) rfl
theorem mt_ki257 : Cond.instanceMethod mt_y257 ∈ mt_Ts := mt_in9 (i := 49) rfl
theorem mt_kc258 : Cond.code mt_y258 mt_b258 (mt_nl 258) mt_t258 ∈ mt_Ts := mt_in9 (i := 54) rfl
theorem mt_kn258 : Cond.initialized mt_y258.cls ∈ mt_Ts := mt_in1 (i := 17) rfl
theorem mt_ki258 : Cond.instanceMethod mt_y258 ∈ mt_Ts := mt_in9 (i := 53) rfl
theorem mt_kc259 : Cond.code mt_y259 mt_b259 (mt_nl 259) mt_t259 ∈ mt_Ts := mt_in9 (i := 58) rfl
theorem mt_kn259 : Cond.initialized mt_y259.cls ∈ mt_Ts := mt_in1 (i := 17) rfl
theorem mt_ki259 : Cond.instanceMethod mt_y259 ∈ mt_Ts := mt_in9 (i := 57) rfl
theorem mt_kc260 : Cond.code mt_y260 mt_b260 (mt_nl 260) mt_t260 ∈ mt_Ts := mt_in9 (i := 62) rfl
theorem mt_kn260 : Cond.initialized mt_y260.cls ∈ mt_Ts := mt_in1 (i := 17) rfl
theorem mt_ki260 : Cond.instanceMethod mt_y260 ∈ mt_Ts := mt_in9 (i := 61) rfl
theorem mt_kc261 : Cond.code mt_y261 mt_b261 (mt_nl 261) mt_t261 ∈ mt_Ts := mt_in9 (i := 66) rfl
theorem mt_kn261 : Cond.initialized mt_y261.cls ∈ mt_Ts := mt_in1 (i := 17) rfl
theorem mt_ki261 : Cond.instanceMethod mt_y261 ∈ mt_Ts := mt_in9 (i := 65) rfl
theorem mt_kc262 : Cond.code mt_y262 mt_b262 (mt_nl 262) mt_t262 ∈ mt_Ts := mt_in9 (i := 69) rfl
theorem mt_kn262 : Cond.initialized mt_y262.cls ∈ mt_Ts := mt_in1 (i := 17) rfl
theorem mt_ks262 : Cond.static mt_y262 ∈ mt_Ts := mt_in9 (i := 68) rfl
theorem mt_kc263 : Cond.code mt_y263 mt_b263 (mt_nl 263) mt_t263 ∈ mt_Ts := mt_in9 (i := 73) rfl
theorem mt_kn263 : Cond.initialized mt_y263.cls ∈ mt_Ts := mt_in1 (i := 17) rfl
theorem mt_ki263 : Cond.instanceMethod mt_y263 ∈ mt_Ts := mt_in9 (i := 72) rfl
theorem mt_kc264 : Cond.code mt_y264 mt_b264 (mt_nl 264) mt_t264 ∈ mt_Ts := mt_in9 (i := 77) rfl
theorem mt_kn264 : Cond.initialized mt_y264.cls ∈ mt_Ts := mt_in1 (i := 17) rfl
theorem mt_ki264 : Cond.instanceMethod mt_y264 ∈ mt_Ts := mt_in9 (i := 76) rfl
theorem mt_kc265 : Cond.code mt_y265 mt_b265 (mt_nl 265) mt_t265 ∈ mt_Ts := mt_in9 (i := 81) rfl
theorem mt_kn265 : Cond.initialized mt_y265.cls ∈ mt_Ts := mt_in1 (i := 17) rfl
theorem mt_ki265 : Cond.instanceMethod mt_y265 ∈ mt_Ts := mt_in9 (i := 80) rfl
theorem mt_kc266 : Cond.code mt_y266 mt_b266 (mt_nl 266) mt_t266 ∈ mt_Ts := mt_in9 (i := 85) rfl
theorem mt_kn266 : Cond.initialized mt_y266.cls ∈ mt_Ts := mt_in1 (i := 17) rfl
theorem mt_ki266 : Cond.instanceMethod mt_y266 ∈ mt_Ts := mt_in9 (i := 84) rfl
theorem mt_kc267 : Cond.code mt_y267 mt_b267 (mt_nl 267) mt_t267 ∈ mt_Ts := mt_in9 (i := 89) rfl
theorem mt_kn267 : Cond.initialized mt_y267.cls ∈ mt_Ts := mt_in1 (i := 17) rfl
theorem mt_ki267 : Cond.instanceMethod mt_y267 ∈ mt_Ts := mt_in9 (i := 88) rfl
theorem mt_kc268 : Cond.code mt_y268 mt_b268 (mt_nl 268) mt_t268 ∈ mt_Ts := mt_in9 (i := 93) rfl
theorem mt_kn268 : Cond.initialized mt_y268.cls ∈ mt_Ts := mt_in1 (i := 17) rfl
theorem mt_ki268 : Cond.instanceMethod mt_y268 ∈ mt_Ts := mt_in9 (i := 92) rfl
theorem mt_kc269 : Cond.code mt_y269 mt_b269 (mt_nl 269) mt_t269 ∈ mt_Ts := mt_in9 (i := 97) rfl
theorem mt_kn269 : Cond.initialized mt_y269.cls ∈ mt_Ts := mt_in1 (i := 17) rfl
theorem mt_ki269 : Cond.instanceMethod mt_y269 ∈ mt_Ts := mt_in9 (i := 95) rfl
theorem mt_kc270 : Cond.code mt_y270 mt_b270 (mt_nl 270) mt_t270 ∈ mt_Ts := mt_in9 (i := 101) rfl
theorem mt_kn270 : Cond.initialized mt_y270.cls ∈ mt_Ts := mt_in1 (i := 17) rfl
theorem mt_ki270 : Cond.instanceMethod mt_y270 ∈ mt_Ts := mt_in9 (i := 99) rfl
theorem mt_kc271 : Cond.code mt_y271 mt_b271 (mt_nl 271) mt_t271 ∈ mt_Ts := mt_in9 (i := 105) rfl
theorem mt_kn271 : Cond.initialized mt_y271.cls ∈ mt_Ts := mt_in1 (i := 17) rfl
theorem mt_ki271 : Cond.instanceMethod mt_y271 ∈ mt_Ts := mt_in9 (i := 103) rfl
theorem mt_kc272 : Cond.code mt_y272 mt_b272 (mt_nl 272) mt_t272 ∈ mt_Ts := mt_in9 (i := 109) rfl
theorem mt_kn272 : Cond.initialized mt_y272.cls ∈ mt_Ts := mt_in1 (i := 17) rfl
theorem mt_ki272 : Cond.instanceMethod mt_y272 ∈ mt_Ts := mt_in9 (i := 108) rfl
theorem mt_kc273 : Cond.code mt_y273 mt_b273 (mt_nl 273) mt_t273 ∈ mt_Ts := mt_in9 (i := 113) rfl
theorem mt_kn273 : Cond.initialized mt_y273.cls ∈ mt_Ts := mt_in1 (i := 17) rfl
theorem mt_ki273 : Cond.instanceMethod mt_y273 ∈ mt_Ts := mt_in9 (i := 112) rfl
theorem mt_kc274 : Cond.code mt_y274 mt_b274 (mt_nl 274) mt_t274 ∈ mt_Ts := mt_in9 (i := 117) rfl
theorem mt_kn274 : Cond.initialized mt_y274.cls ∈ mt_Ts := mt_in1 (i := 17) rfl
theorem mt_ki274 : Cond.instanceMethod mt_y274 ∈ mt_Ts := mt_in9 (i := 116) rfl
theorem mt_kc275 : Cond.code mt_y275 mt_b275 (mt_nl 275) mt_t275 ∈ mt_Ts := mt_in9 (i := 121) rfl
theorem mt_kn275 : Cond.initialized mt_y275.cls ∈ mt_Ts := mt_in1 (i := 17) rfl
theorem mt_ki275 : Cond.instanceMethod mt_y275 ∈ mt_Ts := mt_in9 (i := 120) rfl
theorem mt_kc276 : Cond.code mt_y276 mt_b276 (mt_nl 276) mt_t276 ∈ mt_Ts := mt_in9 (i := 125) rfl
theorem mt_kn276 : Cond.initialized mt_y276.cls ∈ mt_Ts := mt_in1 (i := 17) rfl
theorem mt_ki276 : Cond.instanceMethod mt_y276 ∈ mt_Ts := mt_in9 (i := 124) rfl
theorem mt_kc277 : Cond.code mt_y277 mt_b277 (mt_nl 277) mt_t277 ∈ mt_Ts := mt_in9 (i := 129) rfl
theorem mt_kn277 : Cond.initialized mt_y277.cls ∈ mt_Ts := mt_in1 (i := 17) rfl
theorem mt_ki277 : Cond.instanceMethod mt_y277 ∈ mt_Ts := mt_in9 (i := 128) rfl
theorem mt_kc278 : Cond.code mt_y278 mt_b278 (mt_nl 278) mt_t278 ∈ mt_Ts := mt_in9 (i := 133) rfl
theorem mt_kn278 : Cond.initialized mt_y278.cls ∈ mt_Ts := mt_in1 (i := 17) rfl
theorem mt_ki278 : Cond.instanceMethod mt_y278 ∈ mt_Ts := mt_in9 (i := 132) rfl
theorem mt_kc279 : Cond.code mt_y279 mt_b279 (mt_nl 279) mt_t279 ∈ mt_Ts := mt_in9 (i := 137) rfl
theorem mt_kn279 : Cond.initialized mt_y279.cls ∈ mt_Ts := mt_in1 (i := 17) rfl
theorem mt_ki279 : Cond.instanceMethod mt_y279 ∈ mt_Ts := mt_in9 (i := 136) rfl
theorem mt_kc280 : Cond.code mt_y280 mt_b280 (mt_nl 280) mt_t280 ∈ mt_Ts := mt_in9 (i := 141) rfl
theorem mt_kn280 : Cond.initialized mt_y280.cls ∈ mt_Ts := mt_in1 (i := 17) rfl
theorem mt_ki280 : Cond.instanceMethod mt_y280 ∈ mt_Ts := mt_in9 (i := 140) rfl
theorem mt_kc281 : Cond.code mt_y281 mt_b281 (mt_nl 281) mt_t281 ∈ mt_Ts := mt_in9 (i := 145) rfl
theorem mt_kn281 : Cond.initialized mt_y281.cls ∈ mt_Ts := mt_in1 (i := 17) rfl
theorem mt_ki281 : Cond.instanceMethod mt_y281 ∈ mt_Ts := mt_in9 (i := 144) rfl
theorem mt_kc282 : Cond.code mt_y282 mt_b282 (mt_nl 282) mt_t282 ∈ mt_Ts := mt_in9 (i := 149) rfl
theorem mt_kn282 : Cond.initialized mt_y282.cls ∈ mt_Ts := mt_in1 (i := 17) rfl
theorem mt_ki282 : Cond.instanceMethod mt_y282 ∈ mt_Ts := mt_in9 (i := 148) rfl
theorem mt_kc283 : Cond.code mt_y283 mt_b283 (mt_nl 283) mt_t283 ∈ mt_Ts := mt_in9 (i := 153) rfl
theorem mt_kn283 : Cond.initialized mt_y283.cls ∈ mt_Ts := mt_in1 (i := 17) rfl
theorem mt_ki283 : Cond.instanceMethod mt_y283 ∈ mt_Ts := mt_in9 (i := 152) rfl
theorem mt_kc284 : Cond.code mt_y284 mt_b284 (mt_nl 284) mt_t284 ∈ mt_Ts := mt_in9 (i := 157) rfl
theorem mt_kn284 : Cond.initialized mt_y284.cls ∈ mt_Ts := mt_in1 (i := 17) rfl
theorem mt_ki284 : Cond.instanceMethod mt_y284 ∈ mt_Ts := mt_in9 (i := 156) rfl
theorem mt_kc285 : Cond.code mt_y285 mt_b285 (mt_nl 285) mt_t285 ∈ mt_Ts := mt_in9 (i := 161) rfl
theorem mt_kn285 : Cond.initialized mt_y285.cls ∈ mt_Ts := mt_in1 (i := 17) rfl
theorem mt_ki285 : Cond.instanceMethod mt_y285 ∈ mt_Ts := mt_in9 (i := 160) rfl
theorem mt_kc286 : Cond.code mt_y286 mt_b286 (mt_nl 286) mt_t286 ∈ mt_Ts := mt_in9 (i := 165) rfl
theorem mt_kn286 : Cond.initialized mt_y286.cls ∈ mt_Ts := mt_in1 (i := 17) rfl
theorem mt_ki286 : Cond.instanceMethod mt_y286 ∈ mt_Ts := mt_in9 (i := 164) rfl
theorem mt_kc287 : Cond.code mt_y287 mt_b287 (mt_nl 287) mt_t287 ∈ mt_Ts := mt_in9 (i := 169) rfl
theorem mt_kn287 : Cond.initialized mt_y287.cls ∈ mt_Ts := mt_in1 (i := 17) rfl
theorem mt_ki287 : Cond.instanceMethod mt_y287 ∈ mt_Ts := mt_in9 (i := 168) rfl
theorem mt_kc288 : Cond.code mt_y288 mt_b288 (mt_nl 288) mt_t288 ∈ mt_Ts := mt_in9 (i := 173) rfl
theorem mt_kn288 : Cond.initialized mt_y288.cls ∈ mt_Ts := mt_in1 (i := 17) rfl
theorem mt_ki288 : Cond.instanceMethod mt_y288 ∈ mt_Ts := mt_in9 (i := 172) rfl
theorem mt_kc289 : Cond.code mt_y289 mt_b289 (mt_nl 289) mt_t289 ∈ mt_Ts := mt_in9 (i := 177) rfl
theorem mt_kn289 : Cond.initialized mt_y289.cls ∈ mt_Ts := mt_in1 (i := 17) rfl
theorem mt_ki289 : Cond.instanceMethod mt_y289 ∈ mt_Ts := mt_in9 (i := 176) rfl
theorem mt_kc290 : Cond.code mt_y290 mt_b290 (mt_nl 290) mt_t290 ∈ mt_Ts := mt_in9 (i := 181) rfl
theorem mt_kn290 : Cond.initialized mt_y290.cls ∈ mt_Ts := mt_in1 (i := 17) rfl
theorem mt_ki290 : Cond.instanceMethod mt_y290 ∈ mt_Ts := mt_in9 (i := 180) rfl
theorem mt_kc291 : Cond.code mt_y291 mt_b291 (mt_nl 291) mt_t291 ∈ mt_Ts := mt_in9 (i := 185) rfl
theorem mt_kn291 : Cond.initialized mt_y291.cls ∈ mt_Ts := mt_in1 (i := 17) rfl
theorem mt_ki291 : Cond.instanceMethod mt_y291 ∈ mt_Ts := mt_in9 (i := 183) rfl
theorem mt_kc292 : Cond.code mt_y292 mt_b292 (mt_nl 292) mt_t292 ∈ mt_Ts := mt_in9 (i := 189) rfl
theorem mt_kn292 : Cond.initialized mt_y292.cls ∈ mt_Ts := mt_in1 (i := 17) rfl
theorem mt_ki292 : Cond.instanceMethod mt_y292 ∈ mt_Ts := mt_in9 (i := 187) rfl
theorem mt_kc293 : Cond.code mt_y293 mt_b293 (mt_nl 293) mt_t293 ∈ mt_Ts := mt_in9 (i := 193) rfl
theorem mt_kn293 : Cond.initialized mt_y293.cls ∈ mt_Ts := mt_in1 (i := 17) rfl
theorem mt_ki293 : Cond.instanceMethod mt_y293 ∈ mt_Ts := mt_in9 (i := 191) rfl
theorem mt_kc294 : Cond.code mt_y294 mt_b294 (mt_nl 294) mt_t294 ∈ mt_Ts := mt_in9 (i := 197) rfl
theorem mt_kn294 : Cond.initialized mt_y294.cls ∈ mt_Ts := mt_in1 (i := 17) rfl
theorem mt_ki294 : Cond.instanceMethod mt_y294 ∈ mt_Ts := mt_in9 (i := 195) rfl
theorem mt_kc295 : Cond.code mt_y295 mt_b295 (mt_nl 295) mt_t295 ∈ mt_Ts := mt_in9 (i := 201) rfl
theorem mt_kn295 : Cond.initialized mt_y295.cls ∈ mt_Ts := mt_in1 (i := 17) rfl
theorem mt_ki295 : Cond.instanceMethod mt_y295 ∈ mt_Ts := mt_in9 (i := 199) rfl
theorem mt_kc296 : Cond.code mt_y296 mt_b296 (mt_nl 296) mt_t296 ∈ mt_Ts := mt_in9 (i := 205) rfl
theorem mt_kn296 : Cond.initialized mt_y296.cls ∈ mt_Ts := mt_in1 (i := 17) rfl
theorem mt_ki296 : Cond.instanceMethod mt_y296 ∈ mt_Ts := mt_in9 (i := 203) rfl
theorem mt_kc297 : Cond.code mt_y297 mt_b297 (mt_nl 297) mt_t297 ∈ mt_Ts := mt_in9 (i := 209) rfl
theorem mt_kn297 : Cond.initialized mt_y297.cls ∈ mt_Ts := mt_in1 (i := 17) rfl
theorem mt_ki297 : Cond.instanceMethod mt_y297 ∈ mt_Ts := mt_in9 (i := 207) rfl
theorem mt_kc298 : Cond.code mt_y298 mt_b298 (mt_nl 298) mt_t298 ∈ mt_Ts := mt_in9 (i := 213) rfl
theorem mt_kn298 : Cond.initialized mt_y298.cls ∈ mt_Ts := mt_in1 (i := 17) rfl
theorem mt_ki298 : Cond.instanceMethod mt_y298 ∈ mt_Ts := mt_in9 (i := 211) rfl
theorem mt_kc299 : Cond.code mt_y299 mt_b299 (mt_nl 299) mt_t299 ∈ mt_Ts := mt_in9 (i := 217) rfl
theorem mt_kn299 : Cond.initialized mt_y299.cls ∈ mt_Ts := mt_in1 (i := 17) rfl
theorem mt_ki299 : Cond.instanceMethod mt_y299 ∈ mt_Ts := mt_in9 (i := 215) rfl
theorem mt_kc300 : Cond.code mt_y300 mt_b300 (mt_nl 300) mt_t300 ∈ mt_Ts := mt_in9 (i := 221) rfl
theorem mt_kn300 : Cond.initialized mt_y300.cls ∈ mt_Ts := mt_in1 (i := 17) rfl
theorem mt_ki300 : Cond.instanceMethod mt_y300 ∈ mt_Ts := mt_in9 (i := 220) rfl
