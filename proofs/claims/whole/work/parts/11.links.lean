theorem kJ6_265 : Cond.constant RJ6 265 1431655765 ∈ lw_good := good_in (tb4 (List.mem_of_getElem? (i := 119) rfl)) rfl
theorem kJ6_266 : Cond.constant RJ6 266 858993459 ∈ lw_good := good_in (tb4 (List.mem_of_getElem? (i := 120) rfl)) rfl
theorem kJ6_267 : Cond.constant RJ6 267 252645135 ∈ lw_good := good_in (tb4 (List.mem_of_getElem? (i := 121) rfl)) rfl
theorem wJ0_9 : Cond.fieldLink RJ0 9 "java/lang/String" "value" "[B" ∈ lw_good := good_in (tb7 (List.mem_of_getElem? (i := 236) rfl)) rfl
theorem lJ0_335 : Cond.methodLink RJ0 335 yJ0_coder_7d493 ∈ lw_good := good_in (tb2 (List.mem_of_getElem? (i := 198) rfl)) rfl
theorem lJ0_492 : Cond.methodLink RJ0 492 yJ0_isLatin1_aae02 ∈ lw_good := good_in (tb2 (List.mem_of_getElem? (i := 208) rfl)) rfl
theorem lJ0_498 : Cond.methodLink RJ0 498 yJ2_charAt_3b067 ∈ lw_good := good_in (tb2 (List.mem_of_getElem? (i := 223) rfl)) rfl
theorem lJ0_495 : Cond.methodLink RJ0 495 yJ1_charAt_3b067 ∈ lw_good := good_in (tb2 (List.mem_of_getElem? (i := 212) rfl)) rfl
theorem wJ0_38 : Cond.fieldLink RJ0 38 "java/lang/String" "COMPACT_STRINGS" "Z" ∈ lw_good := good_in (tb2 (List.mem_of_getElem? (i := 202) rfl)) rfl
theorem wJ0_15 : Cond.fieldLink RJ0 15 "java/lang/String" "coder" "B" ∈ lw_good := good_in (tb7 (List.mem_of_getElem? (i := 237) rfl)) rfl
theorem wJ0_1053 : Cond.fieldLink RJ0 1053 "jdk/internal/util/Preconditions" "SIOOBE_FORMATTER" "Ljava/util/function/BiFunction;" ∈ lw_good := good_in (tb2 (List.mem_of_getElem? (i := 218) rfl)) rfl
theorem lJ0_1059 : Cond.methodLink RJ0 1059 yJ3_checkIndex_8e157 ∈ lw_good := good_in (tb2 (List.mem_of_getElem? (i := 220) rfl)) rfl
theorem lJ1_9 : Cond.methodLink RJ1 9 yJ0_checkIndex_df160 ∈ lw_good := good_in (tb2 (List.mem_of_getElem? (i := 215) rfl)) rfl
theorem fX7_24 : FL RX7 7 2 24 0 := ⟨good_in (tb2 (List.mem_of_getElem? (i := 90) rfl)) rfl, by decide, by decide, rfl⟩
theorem fX7_28 : FL RX7 7 5 28 0 := ⟨good_in (tb2 (List.mem_of_getElem? (i := 95) rfl)) rfl, by decide, by decide, rfl⟩
theorem fX7_11 : FL RX7 7 0 11 2 := ⟨good_in (tb2 (List.mem_of_getElem? (i := 86) rfl)) rfl, by decide, by decide, rfl⟩
theorem fX7_15 : FL RX7 7 1 15 2 := ⟨good_in (tb2 (List.mem_of_getElem? (i := 88) rfl)) rfl, by decide, by decide, rfl⟩
theorem fX7_18 : FL RX7 7 3 18 2 := ⟨good_in (tb2 (List.mem_of_getElem? (i := 91) rfl)) rfl, by decide, by decide, rfl⟩
theorem fX7_21 : FL RX7 7 4 21 2 := ⟨good_in (tb2 (List.mem_of_getElem? (i := 93) rfl)) rfl, by decide, by decide, rfl⟩
theorem fX8_36 : FL RX8 8 0 36 0 := ⟨good_in (tb1 (List.mem_of_getElem? (i := 40) rfl)) rfl, by decide, by decide, rfl⟩
theorem fX8_40 : FL RX8 8 2 40 0 := ⟨good_in (tb1 (List.mem_of_getElem? (i := 49) rfl)) rfl, by decide, by decide, rfl⟩
theorem fX8_43 : FL RX8 8 3 43 0 := ⟨good_in (tb1 (List.mem_of_getElem? (i := 56) rfl)) rfl, by decide, by decide, rfl⟩
theorem lX8_46 : Cond.methodLink RX8 46 yX8_hasLodger ∈ lw_good := good_in (tb3 (List.mem_of_getElem? (i := 138) rfl)) rfl
theorem fX8_21 : FL RX8 8 8 21 2 := ⟨good_in (tb1 (List.mem_of_getElem? (i := 76) rfl)) rfl, by decide, by decide, rfl⟩
theorem fX8_27 : FL RX8 8 10 27 2 := ⟨good_in (tb1 (List.mem_of_getElem? (i := 83) rfl)) rfl, by decide, by decide, rfl⟩
theorem lX8_50 : Cond.methodLink RX8 50 yJ9_abs_0f7a4 ∈ lw_good := good_in (tb3 (List.mem_of_getElem? (i := 139) rfl)) rfl
theorem lX8_56 : Cond.methodLink RX8 56 yX8_far ∈ lw_good := good_in (tb4 (List.mem_of_getElem? (i := 31) rfl)) rfl
theorem fX8_9 : FL RX8 8 5 9 2 := ⟨good_in (tb1 (List.mem_of_getElem? (i := 66) rfl)) rfl, by decide, by decide, rfl⟩
theorem fX8_33 : FL RX8 8 12 33 2 := ⟨good_in (tb1 (List.mem_of_getElem? (i := 93) rfl)) rfl, by decide, by decide, rfl⟩
theorem fX8_30 : FL RX8 8 11 30 2 := ⟨good_in (tb1 (List.mem_of_getElem? (i := 87) rfl)) rfl, by decide, by decide, rfl⟩
theorem fX8_24 : FL RX8 8 9 24 2 := ⟨good_in (tb1 (List.mem_of_getElem? (i := 80) rfl)) rfl, by decide, by decide, rfl⟩
theorem lX8_59 : Cond.methodLink RX8 59 yX8_hasBed ∈ lw_good := good_in (tb3 (List.mem_of_getElem? (i := 209) rfl)) rfl
theorem fX8_18 : FL RX8 8 7 18 2 := ⟨good_in (tb1 (List.mem_of_getElem? (i := 73) rfl)) rfl, by decide, by decide, rfl⟩
theorem lX8_62 : Cond.methodLink RX8 62 yJ9_floorDiv_7cf53 ∈ lw_good := good_in (tb3 (List.mem_of_getElem? (i := 210) rfl)) rfl
theorem fX8_15 : FL RX8 8 6 15 2 := ⟨good_in (tb1 (List.mem_of_getElem? (i := 70) rfl)) rfl, by decide, by decide, rfl⟩
theorem fX8_66 : FL RX8 8 4 66 0 := ⟨good_in (tb1 (List.mem_of_getElem? (i := 65) rfl)) rfl, by decide, by decide, rfl⟩
theorem lX8_69 : Cond.methodLink RX8 69 yX8_sleptOfAll ∈ lw_good := good_in (tb4 (List.mem_of_getElem? (i := 180) rfl)) rfl
theorem fX8_73 : FL RX8 8 1 73 0 := ⟨good_in (tb1 (List.mem_of_getElem? (i := 47) rfl)) rfl, by decide, by decide, rfl⟩
theorem fX5_11 : FL RX5 5 0 11 2 := ⟨good_in (tb1 (List.mem_of_getElem? (i := 130) rfl)) rfl, by decide, by decide, rfl⟩
theorem fX5_15 : FL RX5 5 2 15 0 := ⟨good_in (tb1 (List.mem_of_getElem? (i := 133) rfl)) rfl, by decide, by decide, rfl⟩
theorem lX5_19 : Cond.methodLink RX5 19 yX8_packInto ∈ lw_good := good_in (tb3 (List.mem_of_getElem? (i := 158) rfl)) rfl
theorem fX5_23 : FL RX5 5 1 23 0 := ⟨good_in (tb1 (List.mem_of_getElem? (i := 131) rfl)) rfl, by decide, by decide, rfl⟩
theorem lX5_26 : Cond.methodLink RX5 26 yJ9_min_7cf53 ∈ lw_good := good_in (tb3 (List.mem_of_getElem? (i := 162) rfl)) rfl
theorem lX5_32 : Cond.methodLink RX5 32 yX8_unpackFrom ∈ lw_good := good_in (tb4 (List.mem_of_getElem? (i := 9) rfl)) rfl
theorem fX3_12 : FL RX3 3 0 12 2 := ⟨good_in (tb1 (List.mem_of_getElem? (i := 141) rfl)) rfl, by decide, by decide, rfl⟩
theorem lX3_42 : Cond.methodLink RX3 42 yX8_copyFrom ∈ lw_good := good_in (tb3 (List.mem_of_getElem? (i := 36) rfl)) rfl
theorem fX3_18 : FL RX3 3 1 18 2 := ⟨good_in (tb1 (List.mem_of_getElem? (i := 144) rfl)) rfl, by decide, by decide, rfl⟩
theorem fX3_24 : FL RX3 3 2 24 2 := ⟨good_in (tb1 (List.mem_of_getElem? (i := 146) rfl)) rfl, by decide, by decide, rfl⟩
theorem lX3_46 : Cond.methodLink RX3 46 yX5_forget ∈ lw_good := good_in (tb3 (List.mem_of_getElem? (i := 40) rfl)) rfl
theorem fX3_49 : FL RX3 3 6 49 0 := ⟨good_in (tb1 (List.mem_of_getElem? (i := 151) rfl)) rfl, by decide, by decide, rfl⟩
theorem lX3_52 : Cond.methodLink RX3 52 yX5_keep ∈ lw_good := good_in (tb3 (List.mem_of_getElem? (i := 154) rfl)) rfl
theorem fX3_28 : FL RX3 3 3 28 2 := ⟨good_in (tb1 (List.mem_of_getElem? (i := 148) rfl)) rfl, by decide, by decide, rfl⟩
theorem fX3_32 : FL RX3 3 4 32 2 := ⟨good_in (tb1 (List.mem_of_getElem? (i := 149) rfl)) rfl, by decide, by decide, rfl⟩
theorem fX3_35 : FL RX3 3 5 35 2 := ⟨good_in (tb1 (List.mem_of_getElem? (i := 150) rfl)) rfl, by decide, by decide, rfl⟩
theorem lX3_55 : Cond.methodLink RX3 55 yJ9_max_7cf53 ∈ lw_good := good_in (tb4 (List.mem_of_getElem? (i := 208) rfl)) rfl
theorem lX3_61 : Cond.methodLink RX3 61 yX8_hasLodger ∈ lw_good := good_in (tb4 (List.mem_of_getElem? (i := 217) rfl)) rfl
theorem fX3_65 : FL RX3 8 11 65 2 := ⟨good_in (tb1 (List.mem_of_getElem? (i := 91) rfl)) rfl, by decide, by decide, rfl⟩
theorem lX3_68 : Cond.methodLink RX3 68 yX5_copyFrom ∈ lw_good := good_in (tb5 (List.mem_of_getElem? (i := 40) rfl)) rfl
theorem fX3_38 : FL RX3 3 7 38 0 := ⟨good_in (tb1 (List.mem_of_getElem? (i := 153) rfl)) rfl, by decide, by decide, rfl⟩
theorem fX3_71 : FL RX3 3 8 71 0 := ⟨good_in (tb1 (List.mem_of_getElem? (i := 155) rfl)) rfl, by decide, by decide, rfl⟩
theorem fX4_9 : FL RX4 4 0 9 2 := ⟨good_in (tb1 (List.mem_of_getElem? (i := 216) rfl)) rfl, by decide, by decide, rfl⟩
theorem fX4_15 : FL RX4 4 1 15 2 := ⟨good_in (tb1 (List.mem_of_getElem? (i := 217) rfl)) rfl, by decide, by decide, rfl⟩
theorem fX4_28 : FL RX4 8 3 28 0 := ⟨good_in (tb1 (List.mem_of_getElem? (i := 55) rfl)) rfl, by decide, by decide, rfl⟩
theorem lX4_46 : Cond.methodLink RX4 46 yX4_shapeAll ∈ lw_good := good_in (tb3 (List.mem_of_getElem? (i := 201) rfl)) rfl
theorem lX4_50 : Cond.methodLink RX4 50 yX8_cardAllIfDue ∈ lw_good := good_in (tb3 (List.mem_of_getElem? (i := 217) rfl)) rfl
theorem fX4_53 : FL RX4 8 4 53 0 := ⟨good_in (tb1 (List.mem_of_getElem? (i := 62) rfl)) rfl, by decide, by decide, rfl⟩
theorem lX4_34 : Cond.methodLink RX4 34 yX4_byHabit ∈ lw_good := good_in (tb3 (List.mem_of_getElem? (i := 171) rfl)) rfl
theorem fX4_18 : FL RX4 4 2 18 2 := ⟨good_in (tb1 (List.mem_of_getElem? (i := 218) rfl)) rfl, by decide, by decide, rfl⟩
theorem lX4_42 : Cond.methodLink RX4 42 yX4_hasRoom ∈ lw_good := good_in (tb3 (List.mem_of_getElem? (i := 176) rfl)) rfl
theorem lX4_38 : Cond.methodLink RX4 38 yX4_byRule ∈ lw_good := good_in (tb3 (List.mem_of_getElem? (i := 181) rfl)) rfl
theorem lX4_56 : Cond.methodLink RX4 56 yX8_hasBed ∈ lw_good := good_in (tb3 (List.mem_of_getElem? (i := 180) rfl)) rfl
theorem fX4_60 : FL RX4 8 1 60 0 := ⟨good_in (tb1 (List.mem_of_getElem? (i := 44) rfl)) rfl, by decide, by decide, rfl⟩
theorem lX4_63 : Cond.methodLink RX4 63 yX8_hasLodger ∈ lw_good := good_in (tb3 (List.mem_of_getElem? (i := 175) rfl)) rfl
theorem fX4_66 : FL RX4 8 11 66 2 := ⟨good_in (tb1 (List.mem_of_getElem? (i := 88) rfl)) rfl, by decide, by decide, rfl⟩
theorem fX4_69 : FL RX4 8 2 69 0 := ⟨good_in (tb1 (List.mem_of_getElem? (i := 50) rfl)) rfl, by decide, by decide, rfl⟩
theorem lX4_72 : Cond.methodLink RX4 72 yX4_worthOf ∈ lw_good := good_in (tb3 (List.mem_of_getElem? (i := 185) rfl)) rfl
theorem fX4_76 : FL RX4 7 5 76 0 := ⟨good_in (tb2 (List.mem_of_getElem? (i := 96) rfl)) rfl, by decide, by decide, rfl⟩
theorem fX4_81 : FL RX4 7 4 81 2 := ⟨good_in (tb2 (List.mem_of_getElem? (i := 94) rfl)) rfl, by decide, by decide, rfl⟩
theorem fX4_84 : FL RX4 7 3 84 2 := ⟨good_in (tb2 (List.mem_of_getElem? (i := 92) rfl)) rfl, by decide, by decide, rfl⟩
theorem lX4_87 : Cond.methodLink RX4 87 yX4_run ∈ lw_good := good_in (tb3 (List.mem_of_getElem? (i := 189) rfl)) rfl
theorem lX4_91 : Cond.methodLink RX4 91 yJ9_max_7cf53 ∈ lw_good := good_in (tb3 (List.mem_of_getElem? (i := 193) rfl)) rfl
theorem fX4_24 : FL RX4 4 4 24 2 := ⟨good_in (tb1 (List.mem_of_getElem? (i := 220) rfl)) rfl, by decide, by decide, rfl⟩
theorem fX4_97 : FL RX4 7 0 97 2 := ⟨good_in (tb2 (List.mem_of_getElem? (i := 87) rfl)) rfl, by decide, by decide, rfl⟩
theorem fX4_100 : FL RX4 7 1 100 2 := ⟨good_in (tb2 (List.mem_of_getElem? (i := 89) rfl)) rfl, by decide, by decide, rfl⟩
theorem lX4_103 : Cond.methodLink RX4 103 yX4_wordOf ∈ lw_good := good_in (tb3 (List.mem_of_getElem? (i := 194) rfl)) rfl
theorem lX4_107 : Cond.methodLink RX4 107 yX4_join ∈ lw_good := good_in (tb3 (List.mem_of_getElem? (i := 198) rfl)) rfl
theorem fX4_111 : FL RX4 8 8 111 2 := ⟨good_in (tb1 (List.mem_of_getElem? (i := 78) rfl)) rfl, by decide, by decide, rfl⟩
theorem fX4_114 : FL RX4 8 5 114 2 := ⟨good_in (tb1 (List.mem_of_getElem? (i := 67) rfl)) rfl, by decide, by decide, rfl⟩
theorem fX4_117 : FL RX4 8 9 117 2 := ⟨good_in (tb1 (List.mem_of_getElem? (i := 81) rfl)) rfl, by decide, by decide, rfl⟩
theorem fX4_120 : FL RX4 8 10 120 2 := ⟨good_in (tb1 (List.mem_of_getElem? (i := 85) rfl)) rfl, by decide, by decide, rfl⟩
theorem fX4_123 : FL RX4 8 6 123 2 := ⟨good_in (tb1 (List.mem_of_getElem? (i := 72) rfl)) rfl, by decide, by decide, rfl⟩
theorem fX4_126 : FL RX4 8 7 126 2 := ⟨good_in (tb1 (List.mem_of_getElem? (i := 75) rfl)) rfl, by decide, by decide, rfl⟩
theorem fX4_21 : FL RX4 4 3 21 2 := ⟨good_in (tb1 (List.mem_of_getElem? (i := 219) rfl)) rfl, by decide, by decide, rfl⟩
theorem lX4_129 : Cond.methodLink RX4 129 yX8_hollowBehind ∈ lw_good := good_in (tb3 (List.mem_of_getElem? (i := 205) rfl)) rfl
theorem lX4_132 : Cond.methodLink RX4 132 yX8_shapeBehind ∈ lw_good := good_in (tb3 (List.mem_of_getElem? (i := 213) rfl)) rfl
theorem fX4_135 : FL RX4 8 12 135 2 := ⟨good_in (tb1 (List.mem_of_getElem? (i := 95) rfl)) rfl, by decide, by decide, rfl⟩
theorem fX1_22 : FL RX1 1 3 22 2 := ⟨good_in (tb2 (List.mem_of_getElem? (i := 4) rfl)) rfl, by decide, by decide, rfl⟩
theorem fX1_12 : FL RX1 1 1 12 2 := ⟨good_in (tb2 (List.mem_of_getElem? (i := 2) rfl)) rfl, by decide, by decide, rfl⟩
theorem lX1_29 : Cond.methodLink RX1 29 yX8_copyFrom ∈ lw_good := good_in (tb4 (List.mem_of_getElem? (i := 21) rfl)) rfl
theorem lX1_33 : Cond.methodLink RX1 33 yX1_goOn ∈ lw_good := good_in (tb4 (List.mem_of_getElem? (i := 22) rfl)) rfl
theorem fX1_25 : FL RX1 1 0 25 2 := ⟨good_in (tb2 (List.mem_of_getElem? (i := 1) rfl)) rfl, by decide, by decide, rfl⟩
theorem lX1_37 : Cond.methodLink RX1 37 yX4_pass ∈ lw_good := good_in (tb4 (List.mem_of_getElem? (i := 26) rfl)) rfl
theorem lX1_43 : Cond.methodLink RX1 43 yX8_hasLodger ∈ lw_good := good_in (tb4 (List.mem_of_getElem? (i := 40) rfl)) rfl
theorem fX1_47 : FL RX1 8 8 47 2 := ⟨good_in (tb1 (List.mem_of_getElem? (i := 77) rfl)) rfl, by decide, by decide, rfl⟩
theorem fX1_50 : FL RX1 8 4 50 0 := ⟨good_in (tb1 (List.mem_of_getElem? (i := 63) rfl)) rfl, by decide, by decide, rfl⟩
theorem kX1_54 : Cond.constant RX1 54 1000000 ∈ lw_good := good_in (tb4 (List.mem_of_getElem? (i := 97) rfl)) rfl
theorem fX1_55 : FL RX1 8 2 55 0 := ⟨good_in (tb1 (List.mem_of_getElem? (i := 54) rfl)) rfl, by decide, by decide, rfl⟩
theorem lX1_66 : Cond.methodLink RX1 66 yX1_tell ∈ lw_good := good_in (tb4 (List.mem_of_getElem? (i := 100) rfl)) rfl
theorem lX1_58 : Cond.methodLink RX1 58 yX8_swapSides ∈ lw_good := good_in (tb4 (List.mem_of_getElem? (i := 98) rfl)) rfl
theorem lX1_62 : Cond.methodLink RX1 62 yX8_farOfAll ∈ lw_good := good_in (tb4 (List.mem_of_getElem? (i := 99) rfl)) rfl
theorem fX1_70 : FL RX1 8 0 70 0 := ⟨good_in (tb1 (List.mem_of_getElem? (i := 42) rfl)) rfl, by decide, by decide, rfl⟩
theorem fX1_73 : FL RX1 8 3 73 0 := ⟨good_in (tb1 (List.mem_of_getElem? (i := 60) rfl)) rfl, by decide, by decide, rfl⟩
theorem lX1_76 : Cond.methodLink RX1 76 yX1_writeBegin ∈ lw_good := good_in (tb4 (List.mem_of_getElem? (i := 139) rfl)) rfl
theorem lX1_79 : Cond.methodLink RX1 79 yX1_sameBegins ∈ lw_good := good_in (tb4 (List.mem_of_getElem? (i := 143) rfl)) rfl
theorem fX1_18 : FL RX1 1 2 18 2 := ⟨good_in (tb2 (List.mem_of_getElem? (i := 3) rfl)) rfl, by decide, by decide, rfl⟩
theorem fX1_83 : FL RX1 8 5 83 2 := ⟨good_in (tb1 (List.mem_of_getElem? (i := 69) rfl)) rfl, by decide, by decide, rfl⟩
theorem lX1_86 : Cond.methodLink RX1 86 yJ9_max_7cf53 ∈ lw_good := good_in (tb4 (List.mem_of_getElem? (i := 147) rfl)) rfl
theorem fX1_92 : FL RX1 3 8 92 0 := ⟨good_in (tb1 (List.mem_of_getElem? (i := 156) rfl)) rfl, by decide, by decide, rfl⟩
theorem fX1_97 : FL RX1 1 4 97 1 := ⟨good_in (tb2 (List.mem_of_getElem? (i := 5) rfl)) rfl, by decide, by decide, rfl⟩
theorem fX1_100 : FL RX1 3 0 100 2 := ⟨good_in (tb1 (List.mem_of_getElem? (i := 143) rfl)) rfl, by decide, by decide, rfl⟩
theorem lX1_103 : Cond.methodLink RX1 103 yX1_goOnTurning ∈ lw_good := good_in (tb5 (List.mem_of_getElem? (i := 10) rfl)) rfl
theorem lX1_107 : Cond.methodLink RX1 107 yX8_hollowOfAll ∈ lw_good := good_in (tb5 (List.mem_of_getElem? (i := 22) rfl)) rfl
theorem lX1_110 : Cond.methodLink RX1 110 yX1_draw ∈ lw_good := good_in (tb5 (List.mem_of_getElem? (i := 14) rfl)) rfl
theorem kX1_113 : Cond.constantLong RX1 113 1103515245 ∈ lw_good := good_in (tb5 (List.mem_of_getElem? (i := 18) rfl)) rfl
theorem kX1_115 : Cond.constantLong RX1 115 12345 ∈ lw_good := good_in (tb5 (List.mem_of_getElem? (i := 19) rfl)) rfl
theorem kX1_117 : Cond.constantLong RX1 117 2147483648 ∈ lw_good := good_in (tb5 (List.mem_of_getElem? (i := 20) rfl)) rfl
theorem kX1_119 : Cond.constantLong RX1 119 65536 ∈ lw_good := good_in (tb5 (List.mem_of_getElem? (i := 21) rfl)) rfl
theorem fX0_24 : FL RX0 0 4 24 2 := ⟨good_in (tb2 (List.mem_of_getElem? (i := 30) rfl)) rfl, by decide, by decide, rfl⟩
theorem fX0_17 : FL RX0 0 2 17 2 := ⟨good_in (tb2 (List.mem_of_getElem? (i := 28) rfl)) rfl, by decide, by decide, rfl⟩
theorem lX0_49 : Cond.methodLink RX0 49 yX0_holdNobody ∈ lw_good := good_in (tb4 (List.mem_of_getElem? (i := 49) rfl)) rfl
theorem fX0_11 : FL RX0 0 1 11 2 := ⟨good_in (tb2 (List.mem_of_getElem? (i := 27) rfl)) rfl, by decide, by decide, rfl⟩
theorem lX0_52 : Cond.methodLink RX0 52 yX8_copyFrom ∈ lw_good := good_in (tb4 (List.mem_of_getElem? (i := 53) rfl)) rfl
theorem kX0_56 : Cond.constant RX0 56 1000000 ∈ lw_good := good_in (tb4 (List.mem_of_getElem? (i := 54) rfl)) rfl
theorem lX0_57 : Cond.methodLink RX0 57 yX0_searchRow ∈ lw_good := good_in (tb4 (List.mem_of_getElem? (i := 55) rfl)) rfl
theorem lX0_61 : Cond.methodLink RX0 61 yX8_far ∈ lw_good := good_in (tb4 (List.mem_of_getElem? (i := 59) rfl)) rfl
theorem lX0_65 : Cond.methodLink RX0 65 yX0_keepIfLess ∈ lw_good := good_in (tb4 (List.mem_of_getElem? (i := 60) rfl)) rfl
theorem fX0_69 : FL RX0 8 2 69 0 := ⟨good_in (tb1 (List.mem_of_getElem? (i := 53) rfl)) rfl, by decide, by decide, rfl⟩
theorem fX0_42 : FL RX0 0 0 42 2 := ⟨good_in (tb2 (List.mem_of_getElem? (i := 26) rfl)) rfl, by decide, by decide, rfl⟩
theorem lX0_73 : Cond.methodLink RX0 73 yX4_pass ∈ lw_good := good_in (tb4 (List.mem_of_getElem? (i := 64) rfl)) rfl
theorem fX0_77 : FL RX0 8 11 77 2 := ⟨good_in (tb1 (List.mem_of_getElem? (i := 90) rfl)) rfl, by decide, by decide, rfl⟩
theorem fX0_21 : FL RX0 0 3 21 2 := ⟨good_in (tb2 (List.mem_of_getElem? (i := 29) rfl)) rfl, by decide, by decide, rfl⟩
theorem fX0_30 : FL RX0 0 6 30 2 := ⟨good_in (tb2 (List.mem_of_getElem? (i := 32) rfl)) rfl, by decide, by decide, rfl⟩
theorem lX0_80 : Cond.methodLink RX0 80 yX0_weighPlaces ∈ lw_good := good_in (tb4 (List.mem_of_getElem? (i := 77) rfl)) rfl
theorem lX0_84 : Cond.methodLink RX0 84 yX0_searchTonight ∈ lw_good := good_in (tb4 (List.mem_of_getElem? (i := 85) rfl)) rfl
theorem fX0_33 : FL RX0 0 7 33 2 := ⟨good_in (tb2 (List.mem_of_getElem? (i := 33) rfl)) rfl, by decide, by decide, rfl⟩
theorem lX0_88 : Cond.methodLink RX0 88 yX8_hasLodger ∈ lw_good := good_in (tb4 (List.mem_of_getElem? (i := 81) rfl)) rfl
theorem lX0_92 : Cond.methodLink RX0 92 yX8_shapeBehind ∈ lw_good := good_in (tb4 (List.mem_of_getElem? (i := 82) rfl)) rfl
theorem fX0_96 : FL RX0 8 10 96 2 := ⟨good_in (tb1 (List.mem_of_getElem? (i := 84) rfl)) rfl, by decide, by decide, rfl⟩
theorem lX0_99 : Cond.methodLink RX0 99 yJ9_abs_0f7a4 ∈ lw_good := good_in (tb4 (List.mem_of_getElem? (i := 83) rfl)) rfl
theorem fX0_27 : FL RX0 0 5 27 2 := ⟨good_in (tb2 (List.mem_of_getElem? (i := 31) rfl)) rfl, by decide, by decide, rfl⟩
theorem lX0_104 : Cond.methodLink RX0 104 yJ9_min_7cf53 ∈ lw_good := good_in (tb4 (List.mem_of_getElem? (i := 84) rfl)) rfl
theorem fX0_107 : FL RX0 8 3 107 0 := ⟨good_in (tb1 (List.mem_of_getElem? (i := 59) rfl)) rfl, by decide, by decide, rfl⟩
theorem fX0_110 : FL RX0 8 1 110 0 := ⟨good_in (tb1 (List.mem_of_getElem? (i := 46) rfl)) rfl, by decide, by decide, rfl⟩
theorem lX0_113 : Cond.methodLink RX0 113 yJ6_bitCount_0f7a4 ∈ lw_good := good_in (tb4 (List.mem_of_getElem? (i := 116) rfl)) rfl
theorem lX0_118 : Cond.methodLink RX0 118 yX8_hollowBehind ∈ lw_good := good_in (tb4 (List.mem_of_getElem? (i := 122) rfl)) rfl
theorem lX0_121 : Cond.methodLink RX0 121 yX0_playAllTwos ∈ lw_good := good_in (tb4 (List.mem_of_getElem? (i := 164) rfl)) rfl
theorem lX0_125 : Cond.methodLink RX0 125 yX0_isRest ∈ lw_good := good_in (tb4 (List.mem_of_getElem? (i := 168) rfl)) rfl
theorem fX0_36 : FL RX0 0 8 36 2 := ⟨good_in (tb2 (List.mem_of_getElem? (i := 34) rfl)) rfl, by decide, by decide, rfl⟩
theorem fX0_39 : FL RX0 0 9 39 2 := ⟨good_in (tb2 (List.mem_of_getElem? (i := 35) rfl)) rfl, by decide, by decide, rfl⟩
theorem fX2_25 : FL RX2 2 4 25 2 := ⟨good_in (tb2 (List.mem_of_getElem? (i := 69) rfl)) rfl, by decide, by decide, rfl⟩
theorem lX2_32 : Cond.methodLink RX2 32 yX2_agrees ∈ lw_good := good_in (tb4 (List.mem_of_getElem? (i := 200) rfl)) rfl
theorem fX2_22 : FL RX2 2 3 22 2 := ⟨good_in (tb2 (List.mem_of_getElem? (i := 68) rfl)) rfl, by decide, by decide, rfl⟩
theorem fX2_36 : FL RX2 3 1 36 2 := ⟨good_in (tb1 (List.mem_of_getElem? (i := 145) rfl)) rfl, by decide, by decide, rfl⟩
theorem fX2_41 : FL RX2 8 3 41 0 := ⟨good_in (tb1 (List.mem_of_getElem? (i := 58) rfl)) rfl, by decide, by decide, rfl⟩
theorem lX2_45 : Cond.methodLink RX2 45 yX2_countPlaces ∈ lw_good := good_in (tb4 (List.mem_of_getElem? (i := 230) rfl)) rfl
theorem lX2_49 : Cond.methodLink RX2 49 yX2_mostAlike ∈ lw_good := good_in (tb4 (List.mem_of_getElem? (i := 234) rfl)) rfl
theorem lX2_53 : Cond.methodLink RX2 53 yX3_lastNotedNight ∈ lw_good := good_in (tb4 (List.mem_of_getElem? (i := 204) rfl)) rfl
theorem lX2_57 : Cond.methodLink RX2 57 yJ9_max_7cf53 ∈ lw_good := good_in (tb4 (List.mem_of_getElem? (i := 209) rfl)) rfl
theorem lX2_63 : Cond.methodLink RX2 63 yJ9_min_7cf53 ∈ lw_good := good_in (tb4 (List.mem_of_getElem? (i := 210) rfl)) rfl
theorem fX2_12 : FL RX2 2 1 12 2 := ⟨good_in (tb2 (List.mem_of_getElem? (i := 66) rfl)) rfl, by decide, by decide, rfl⟩
theorem lX2_66 : Cond.methodLink RX2 66 yX8_copyFrom ∈ lw_good := good_in (tb4 (List.mem_of_getElem? (i := 211) rfl)) rfl
theorem fX2_28 : FL RX2 2 0 28 2 := ⟨good_in (tb2 (List.mem_of_getElem? (i := 65) rfl)) rfl, by decide, by decide, rfl⟩
theorem lX2_70 : Cond.methodLink RX2 70 yX4_pass ∈ lw_good := good_in (tb4 (List.mem_of_getElem? (i := 212) rfl)) rfl
theorem lX2_76 : Cond.methodLink RX2 76 yX3_agrees ∈ lw_good := good_in (tb4 (List.mem_of_getElem? (i := 213) rfl)) rfl
theorem fX2_18 : FL RX2 2 2 18 2 := ⟨good_in (tb2 (List.mem_of_getElem? (i := 67) rfl)) rfl, by decide, by decide, rfl⟩
theorem fX2_79 : FL RX2 8 11 79 2 := ⟨good_in (tb1 (List.mem_of_getElem? (i := 89) rfl)) rfl, by decide, by decide, rfl⟩
theorem fX9_72 : FL RX9 9 1 72 0 := ⟨good_in (tb2 (List.mem_of_getElem? (i := 111) rfl)) rfl, by decide, by decide, rfl⟩
theorem lX9_76 : Cond.methodLink RX9 76 yX9_append ∈ lw_good := good_in (tb2 (List.mem_of_getElem? (i := 151) rfl)) rfl
theorem fX9_9 : FL RX9 9 0 9 2 := ⟨good_in (tb2 (List.mem_of_getElem? (i := 110) rfl)) rfl, by decide, by decide, rfl⟩
theorem fX9_37 : FL RX9 9 7 37 2 := ⟨good_in (tb2 (List.mem_of_getElem? (i := 117) rfl)) rfl, by decide, by decide, rfl⟩
theorem lX9_80 : Cond.methodLink RX9 80 yX6_readCity ∈ lw_good := good_in (tb2 (List.mem_of_getElem? (i := 163) rfl)) rfl
theorem fX9_22 : FL RX9 9 4 22 2 := ⟨good_in (tb2 (List.mem_of_getElem? (i := 114) rfl)) rfl, by decide, by decide, rfl⟩
theorem fX9_84 : FL RX9 6 0 84 2 := ⟨good_in (tb1 (List.mem_of_getElem? (i := 187) rfl)) rfl, by decide, by decide, rfl⟩
theorem lX9_88 : Cond.methodLink RX9 88 yX3_beginWith ∈ lw_good := good_in (tb3 (List.mem_of_getElem? (i := 32) rfl)) rfl
theorem fX9_92 : FL RX9 3 0 92 2 := ⟨good_in (tb1 (List.mem_of_getElem? (i := 142) rfl)) rfl, by decide, by decide, rfl⟩
theorem fX9_95 : FL RX9 8 2 95 0 := ⟨good_in (tb1 (List.mem_of_getElem? (i := 52) rfl)) rfl, by decide, by decide, rfl⟩
theorem fX9_100 : FL RX9 9 3 100 0 := ⟨good_in (tb2 (List.mem_of_getElem? (i := 113) rfl)) rfl, by decide, by decide, rfl⟩
theorem fX9_15 : FL RX9 9 2 15 2 := ⟨good_in (tb2 (List.mem_of_getElem? (i := 112) rfl)) rfl, by decide, by decide, rfl⟩
theorem lX9_103 : Cond.methodLink RX9 103 yX6_readRule ∈ lw_good := good_in (tb3 (List.mem_of_getElem? (i := 49) rfl)) rfl
theorem fX9_107 : FL RX9 3 7 107 0 := ⟨good_in (tb1 (List.mem_of_getElem? (i := 154) rfl)) rfl, by decide, by decide, rfl⟩
theorem lX9_110 : Cond.methodLink RX9 110 yX8_hasBed ∈ lw_good := good_in (tb3 (List.mem_of_getElem? (i := 118) rfl)) rfl
theorem fX9_114 : FL RX9 8 5 114 2 := ⟨good_in (tb1 (List.mem_of_getElem? (i := 68) rfl)) rfl, by decide, by decide, rfl⟩
theorem fX9_117 : FL RX9 8 6 117 2 := ⟨good_in (tb1 (List.mem_of_getElem? (i := 71) rfl)) rfl, by decide, by decide, rfl⟩
theorem fX9_120 : FL RX9 8 7 120 2 := ⟨good_in (tb1 (List.mem_of_getElem? (i := 74) rfl)) rfl, by decide, by decide, rfl⟩
theorem lX9_123 : Cond.methodLink RX9 123 yX8_lodgersOn ∈ lw_good := good_in (tb3 (List.mem_of_getElem? (i := 122) rfl)) rfl
theorem lX9_127 : Cond.methodLink RX9 127 yX8_hasLodger ∈ lw_good := good_in (tb3 (List.mem_of_getElem? (i := 130) rfl)) rfl
theorem fX9_130 : FL RX9 8 8 130 2 := ⟨good_in (tb1 (List.mem_of_getElem? (i := 79) rfl)) rfl, by decide, by decide, rfl⟩
theorem fX9_133 : FL RX9 8 9 133 2 := ⟨good_in (tb1 (List.mem_of_getElem? (i := 82) rfl)) rfl, by decide, by decide, rfl⟩
theorem fX9_136 : FL RX9 8 10 136 2 := ⟨good_in (tb1 (List.mem_of_getElem? (i := 86) rfl)) rfl, by decide, by decide, rfl⟩
theorem fX9_139 : FL RX9 8 11 139 2 := ⟨good_in (tb1 (List.mem_of_getElem? (i := 92) rfl)) rfl, by decide, by decide, rfl⟩
theorem fX9_142 : FL RX9 8 12 142 2 := ⟨good_in (tb1 (List.mem_of_getElem? (i := 94) rfl)) rfl, by decide, by decide, rfl⟩
theorem lX9_145 : Cond.methodLink RX9 145 yX8_far ∈ lw_good := good_in (tb3 (List.mem_of_getElem? (i := 134) rfl)) rfl
theorem lX9_148 : Cond.methodLink RX9 148 yX8_stands ∈ lw_good := good_in (tb3 (List.mem_of_getElem? (i := 146) rfl)) rfl
theorem fX9_152 : FL RX9 8 4 152 0 := ⟨good_in (tb1 (List.mem_of_getElem? (i := 64) rfl)) rfl, by decide, by decide, rfl⟩
theorem lX9_155 : Cond.methodLink RX9 155 yX3_keepForUndo ∈ lw_good := good_in (tb3 (List.mem_of_getElem? (i := 150) rfl)) rfl
theorem fX9_44 : FL RX9 9 8 44 2 := ⟨good_in (tb2 (List.mem_of_getElem? (i := 118) rfl)) rfl, by decide, by decide, rfl⟩
theorem lX9_158 : Cond.methodLink RX9 158 yX9_ruleInForce ∈ lw_good := good_in (tb3 (List.mem_of_getElem? (i := 163) rfl)) rfl
theorem lX9_162 : Cond.methodLink RX9 162 yX4_pass ∈ lw_good := good_in (tb3 (List.mem_of_getElem? (i := 167) rfl)) rfl
theorem lX9_166 : Cond.methodLink RX9 166 yX8_swapSides ∈ lw_good := good_in (tb3 (List.mem_of_getElem? (i := 225) rfl)) rfl
theorem fX9_169 : FL RX9 3 2 169 2 := ⟨good_in (tb1 (List.mem_of_getElem? (i := 147) rfl)) rfl, by decide, by decide, rfl⟩
theorem lX9_173 : Cond.methodLink RX9 173 yX5_takeBack ∈ lw_good := good_in (tb4 (List.mem_of_getElem? (i := 5) rfl)) rfl
theorem fX9_179 : FL RX9 5 1 179 0 := ⟨good_in (tb1 (List.mem_of_getElem? (i := 132) rfl)) rfl, by decide, by decide, rfl⟩
theorem fX9_53 : FL RX9 9 9 53 2 := ⟨good_in (tb2 (List.mem_of_getElem? (i := 119) rfl)) rfl, by decide, by decide, rfl⟩
theorem lX9_182 : Cond.methodLink RX9 182 yX1_after ∈ lw_good := good_in (tb4 (List.mem_of_getElem? (i := 17) rfl)) rfl
theorem lX9_186 : Cond.methodLink RX9 186 yX8_farOfAll ∈ lw_good := good_in (tb4 (List.mem_of_getElem? (i := 27) rfl)) rfl
theorem lX9_190 : Cond.methodLink RX9 190 yX1_firstNightOf ∈ lw_good := good_in (tb4 (List.mem_of_getElem? (i := 36) rfl)) rfl
theorem fX9_60 : FL RX9 9 10 60 2 := ⟨good_in (tb2 (List.mem_of_getElem? (i := 120) rfl)) rfl, by decide, by decide, rfl⟩
theorem lX9_194 : Cond.methodLink RX9 194 yX0_findRow ∈ lw_good := good_in (tb4 (List.mem_of_getElem? (i := 45) rfl)) rfl
theorem lX9_198 : Cond.methodLink RX9 198 yX0_told ∈ lw_good := good_in (tb4 (List.mem_of_getElem? (i := 65) rfl)) rfl
theorem fX9_201 : FL RX9 8 3 201 0 := ⟨good_in (tb1 (List.mem_of_getElem? (i := 61) rfl)) rfl, by decide, by decide, rfl⟩
theorem lX9_204 : Cond.methodLink RX9 204 yX0_findTonight ∈ lw_good := good_in (tb4 (List.mem_of_getElem? (i := 73) rfl)) rfl
theorem lX9_207 : Cond.methodLink RX9 207 yX1_findTurned ∈ lw_good := good_in (tb4 (List.mem_of_getElem? (i := 93) rfl)) rfl
theorem lX9_211 : Cond.methodLink RX9 211 yX1_told ∈ lw_good := good_in (tb4 (List.mem_of_getElem? (i := 104) rfl)) rfl
theorem lX9_212 : Cond.methodLink RX9 212 yX0_findLain ∈ lw_good := good_in (tb4 (List.mem_of_getElem? (i := 112) rfl)) rfl
theorem lX9_216 : Cond.methodLink RX9 216 yX1_findTwins ∈ lw_good := good_in (tb4 (List.mem_of_getElem? (i := 127) rfl)) rfl
theorem lX9_219 : Cond.methodLink RX9 219 yX1_findSettled ∈ lw_good := good_in (tb4 (List.mem_of_getElem? (i := 135) rfl)) rfl
theorem lX9_223 : Cond.methodLink RX9 223 yX1_findBest ∈ lw_good := good_in (tb4 (List.mem_of_getElem? (i := 152) rfl)) rfl
theorem lX9_226 : Cond.methodLink RX9 226 yX0_findRests ∈ lw_good := good_in (tb4 (List.mem_of_getElem? (i := 160) rfl)) rfl
theorem lX9_230 : Cond.methodLink RX9 230 yX8_rentOf ∈ lw_good := good_in (tb4 (List.mem_of_getElem? (i := 176) rfl)) rfl
theorem lX9_237 : Cond.methodLink RX9 237 yX3_addNote ∈ lw_good := good_in (tb4 (List.mem_of_getElem? (i := 188) rfl)) rfl
theorem fX9_234 : FL RX9 3 6 234 0 := ⟨good_in (tb1 (List.mem_of_getElem? (i := 152) rfl)) rfl, by decide, by decide, rfl⟩
theorem fX9_67 : FL RX9 9 11 67 2 := ⟨good_in (tb2 (List.mem_of_getElem? (i := 121) rfl)) rfl, by decide, by decide, rfl⟩
theorem lX9_241 : Cond.methodLink RX9 241 yX2_findRuled ∈ lw_good := good_in (tb4 (List.mem_of_getElem? (i := 196) rfl)) rfl
theorem lX9_245 : Cond.methodLink RX9 245 yX2_told ∈ lw_good := good_in (tb4 (List.mem_of_getElem? (i := 218) rfl)) rfl
theorem lX9_246 : Cond.methodLink RX9 246 yX2_findLook ∈ lw_good := good_in (tb4 (List.mem_of_getElem? (i := 226) rfl)) rfl
theorem fX9_250 : FL RX9 3 8 250 0 := ⟨good_in (tb1 (List.mem_of_getElem? (i := 157) rfl)) rfl, by decide, by decide, rfl⟩
theorem lX9_253 : Cond.methodLink RX9 253 yX1_findMays ∈ lw_good := good_in (tb5 (List.mem_of_getElem? (i := 6) rfl)) rfl
theorem fX9_257 : FL RX9 8 0 257 0 := ⟨good_in (tb1 (List.mem_of_getElem? (i := 43) rfl)) rfl, by decide, by decide, rfl⟩
theorem fX9_260 : FL RX9 8 1 260 0 := ⟨good_in (tb1 (List.mem_of_getElem? (i := 48) rfl)) rfl, by decide, by decide, rfl⟩
theorem lX9_263 : Cond.methodLink RX9 263 yX8_hollowOfAll ∈ lw_good := good_in (tb5 (List.mem_of_getElem? (i := 30) rfl)) rfl
theorem lX9_266 : Cond.methodLink RX9 266 yX8_sleptOfAll ∈ lw_good := good_in (tb5 (List.mem_of_getElem? (i := 31) rfl)) rfl
theorem fX9_26 : FL RX9 9 5 26 2 := ⟨good_in (tb2 (List.mem_of_getElem? (i := 115) rfl)) rfl, by decide, by decide, rfl⟩
theorem lX9_269 : Cond.methodLink RX9 269 yX3_copyFrom ∈ lw_good := good_in (tb5 (List.mem_of_getElem? (i := 36) rfl)) rfl
theorem fX9_30 : FL RX9 9 6 30 2 := ⟨good_in (tb2 (List.mem_of_getElem? (i := 116) rfl)) rfl, by decide, by decide, rfl⟩
theorem lX6_22 : Cond.methodLink RX6 22 yX6_open ∈ lw_good := good_in (tb2 (List.mem_of_getElem? (i := 167) rfl)) rfl
theorem fX6_12 : FL RX6 6 0 12 2 := ⟨good_in (tb1 (List.mem_of_getElem? (i := 186) rfl)) rfl, by decide, by decide, rfl⟩
theorem lX6_26 : Cond.methodLink RX6 26 yX8_clear ∈ lw_good := good_in (tb2 (List.mem_of_getElem? (i := 177) rfl)) rfl
theorem fX6_29 : FL RX6 6 4 29 0 := ⟨good_in (tb1 (List.mem_of_getElem? (i := 191) rfl)) rfl, by decide, by decide, rfl⟩
theorem lX6_33 : Cond.methodLink RX6 33 yX6_readCityClause ∈ lw_good := good_in (tb2 (List.mem_of_getElem? (i := 181) rfl)) rfl
theorem lX6_37 : Cond.methodLink RX6 37 yX6_clauseListEnds ∈ lw_good := good_in (tb3 (List.mem_of_getElem? (i := 28) rfl)) rfl
theorem lX6_41 : Cond.methodLink RX6 41 yX6_next ∈ lw_good := good_in (tb2 (List.mem_of_getElem? (i := 185) rfl)) rfl
theorem fX6_45 : FL RX6 6 3 45 0 := ⟨good_in (tb1 (List.mem_of_getElem? (i := 190) rfl)) rfl, by decide, by decide, rfl⟩
theorem lX6_50 : Cond.methodLink RX6 50 yX6_takeWord ∈ lw_good := good_in (tb2 (List.mem_of_getElem? (i := 190) rfl)) rfl
theorem lX6_58 : Cond.methodLink RX6 58 yX6_cityClauseFits ∈ lw_good := good_in (tb3 (List.mem_of_getElem? (i := 9) rfl)) rfl
theorem lX6_62 : Cond.methodLink RX6 62 yX6_readNumber ∈ lw_good := good_in (tb3 (List.mem_of_getElem? (i := 13) rfl)) rfl
theorem lX6_76 : Cond.methodLink RX6 76 yX8_addLodger ∈ lw_good := good_in (tb3 (List.mem_of_getElem? (i := 24) rfl)) rfl
theorem lX6_72 : Cond.methodLink RX6 72 yX8_addBed ∈ lw_good := good_in (tb3 (List.mem_of_getElem? (i := 20) rfl)) rfl
theorem fX6_66 : FL RX6 8 0 66 0 := ⟨good_in (tb1 (List.mem_of_getElem? (i := 41) rfl)) rfl, by decide, by decide, rfl⟩
theorem fX6_69 : FL RX6 8 1 69 0 := ⟨good_in (tb1 (List.mem_of_getElem? (i := 45) rfl)) rfl, by decide, by decide, rfl⟩
theorem lX6_54 : Cond.methodLink RX6 54 yX6_fail ∈ lw_good := good_in (tb3 (List.mem_of_getElem? (i := 5) rfl)) rfl
theorem fX6_82 : FL RX6 8 3 82 0 := ⟨good_in (tb1 (List.mem_of_getElem? (i := 57) rfl)) rfl, by decide, by decide, rfl⟩
theorem fX6_79 : FL RX6 8 2 79 0 := ⟨good_in (tb1 (List.mem_of_getElem? (i := 51) rfl)) rfl, by decide, by decide, rfl⟩
theorem fX6_85 : FL RX6 6 6 85 2 := ⟨good_in (tb1 (List.mem_of_getElem? (i := 193) rfl)) rfl, by decide, by decide, rfl⟩
theorem lX6_89 : Cond.methodLink RX6 89 yX7_clear ∈ lw_good := good_in (tb3 (List.mem_of_getElem? (i := 53) rfl)) rfl
theorem lX6_94 : Cond.methodLink RX6 94 yX7_openClause ∈ lw_good := good_in (tb3 (List.mem_of_getElem? (i := 58) rfl)) rfl
theorem lX6_97 : Cond.methodLink RX6 97 yX6_readSum ∈ lw_good := good_in (tb3 (List.mem_of_getElem? (i := 62) rfl)) rfl
theorem lX6_100 : Cond.methodLink RX6 100 yX7_openTest ∈ lw_good := good_in (tb3 (List.mem_of_getElem? (i := 83) rfl)) rfl
theorem lX6_108 : Cond.methodLink RX6 108 yX7_closeClause ∈ lw_good := good_in (tb3 (List.mem_of_getElem? (i := 106) rfl)) rfl
theorem lX6_105 : Cond.methodLink RX6 105 yX6_readTest ∈ lw_good := good_in (tb3 (List.mem_of_getElem? (i := 88) rfl)) rfl
theorem lX6_111 : Cond.methodLink RX6 111 yX6_readFact ∈ lw_good := good_in (tb3 (List.mem_of_getElem? (i := 92) rfl)) rfl
theorem lX6_116 : Cond.methodLink RX6 116 yX7_add ∈ lw_good := good_in (tb3 (List.mem_of_getElem? (i := 71) rfl)) rfl
theorem lX6_121 : Cond.methodLink RX6 121 yX6_expectClosing ∈ lw_good := good_in (tb3 (List.mem_of_getElem? (i := 97) rfl)) rfl
theorem lX6_124 : Cond.methodLink RX6 124 yX6_readSign ∈ lw_good := good_in (tb3 (List.mem_of_getElem? (i := 101) rfl)) rfl
theorem lX6_127 : Cond.methodLink RX6 127 yX6_countItem ∈ lw_good := good_in (tb3 (List.mem_of_getElem? (i := 76) rfl)) rfl
theorem fX6_130 : FL RX6 6 2 130 0 := ⟨good_in (tb1 (List.mem_of_getElem? (i := 189) rfl)) rfl, by decide, by decide, rfl⟩
theorem fX6_18 : FL RX6 6 1 18 2 := ⟨good_in (tb1 (List.mem_of_getElem? (i := 188) rfl)) rfl, by decide, by decide, rfl⟩
theorem lX6_133 : Cond.methodLink RX6 133 yX6_readValue ∈ lw_good := good_in (tb3 (List.mem_of_getElem? (i := 66) rfl)) rfl
theorem lX6_136 : Cond.methodLink RX6 136 yX6_stepOf ∈ lw_good := good_in (tb3 (List.mem_of_getElem? (i := 80) rfl)) rfl
theorem lX6_140 : Cond.methodLink RX6 140 yX6_isDigit ∈ lw_good := good_in (tb3 (List.mem_of_getElem? (i := 17) rfl)) rfl
theorem kX6_144 : Cond.constant RX6 144 99999 ∈ lw_good := good_in (tb3 (List.mem_of_getElem? (i := 70) rfl)) rfl
theorem fX6_147 : FL RX6 6 5 147 0 := ⟨good_in (tb1 (List.mem_of_getElem? (i := 192) rfl)) rfl, by decide, by decide, rfl⟩
theorem lX6_150 : Cond.methodLink RX6 150 yJ0_length_8abf5 ∈ lw_good := good_in (tb2 (List.mem_of_getElem? (i := 194) rfl)) rfl
theorem lX6_154 : Cond.methodLink RX6 154 yJ0_charAt_5068e ∈ lw_good := good_in (tb2 (List.mem_of_getElem? (i := 204) rfl)) rfl
theorem lX6_158 : Cond.methodLink RX6 158 yX6_isLetter ∈ lw_good := good_in (tb3 (List.mem_of_getElem? (i := 2) rfl)) rfl
theorem lX6_161 : Cond.methodLink RX6 161 yJ9_min_7cf53 ∈ lw_good := good_in (tb2 (List.mem_of_getElem? (i := 171) rfl)) rfl
theorem lX6_166 : Cond.methodLink RX6 166 yJ9_max_7cf53 ∈ lw_good := good_in (tb2 (List.mem_of_getElem? (i := 174) rfl)) rfl
theorem lX0_3 : Cond.methodLink RX0 3 Lib.objectInit ∈ lw_good := good_in (tb2 (List.mem_of_getElem? (i := 22) rfl)) rfl
theorem nX0_9 : Cond.classLink RX0 9 RX8 ∈ lw_good := good_in (tb2 (List.mem_of_getElem? (i := 23) rfl)) rfl
theorem xX0_46 : Cond.methodLinkNest RX0 46 yX8_init RX9 ∈ lw_nest := by decide +kernel
theorem lX1_3 : Cond.methodLink RX1 3 Lib.objectInit ∈ lw_good := good_in (tb1 (List.mem_of_getElem? (i := 238) rfl)) rfl
theorem nX1_9 : Cond.classLink RX1 9 RX8 ∈ lw_good := good_in (tb1 (List.mem_of_getElem? (i := 239) rfl)) rfl
theorem xX1_11 : Cond.methodLinkNest RX1 11 yX8_init RX9 ∈ lw_nest := by decide +kernel
theorem lX2_3 : Cond.methodLink RX2 3 Lib.objectInit ∈ lw_good := good_in (tb2 (List.mem_of_getElem? (i := 62) rfl)) rfl
theorem nX2_9 : Cond.classLink RX2 9 RX8 ∈ lw_good := good_in (tb2 (List.mem_of_getElem? (i := 63) rfl)) rfl
theorem xX2_11 : Cond.methodLinkNest RX2 11 yX8_init RX9 ∈ lw_nest := by decide +kernel
theorem lX3_3 : Cond.methodLink RX3 3 Lib.objectInit ∈ lw_good := good_in (tb1 (List.mem_of_getElem? (i := 33) rfl)) rfl
theorem nX3_9 : Cond.classLink RX3 9 RX8 ∈ lw_good := good_in (tb1 (List.mem_of_getElem? (i := 34) rfl)) rfl
theorem xX3_11 : Cond.methodLinkNest RX3 11 yX8_init RX9 ∈ lw_nest := by decide +kernel
theorem nX3_21 : Cond.classLink RX3 21 RX5 ∈ lw_good := good_in (tb1 (List.mem_of_getElem? (i := 124) rfl)) rfl
theorem xX3_23 : Cond.methodLinkNest RX3 23 yX5_init RX9 ∈ lw_nest := by decide +kernel
theorem lX4_3 : Cond.methodLink RX4 3 Lib.objectInit ∈ lw_good := good_in (tb1 (List.mem_of_getElem? (i := 215) rfl)) rfl
theorem lX5_1 : Cond.methodLink RX5 1 Lib.objectInit ∈ lw_good := good_in (tb1 (List.mem_of_getElem? (i := 129) rfl)) rfl
theorem lX6_3 : Cond.methodLink RX6 3 Lib.objectInit ∈ lw_good := good_in (tb1 (List.mem_of_getElem? (i := 183) rfl)) rfl
theorem nX6_9 : Cond.classLink RX6 9 RX8 ∈ lw_good := good_in (tb1 (List.mem_of_getElem? (i := 184) rfl)) rfl
theorem xX6_11 : Cond.methodLinkNest RX6 11 yX8_init RX9 ∈ lw_nest := by decide +kernel
theorem lX7_3 : Cond.methodLink RX7 3 Lib.objectInit ∈ lw_good := good_in (tb2 (List.mem_of_getElem? (i := 85) rfl)) rfl
theorem lX8_3 : Cond.methodLink RX8 3 Lib.objectInit ∈ lw_good := good_in (tb1 (List.mem_of_getElem? (i := 39) rfl)) rfl
theorem lX10_3 : Cond.methodLink RX10 3 Lib.objectInit ∈ lw_good := good_in (tb5 (List.mem_of_getElem? (i := 53) rfl)) rfl
theorem fX10_9 : FL RX10 10 1 9 2 := ⟨good_in (tb5 (List.mem_of_getElem? (i := 54) rfl)) rfl, by decide, by decide, rfl⟩
theorem fX10_13 : FL RX10 10 2 13 2 := ⟨good_in (tb5 (List.mem_of_getElem? (i := 55) rfl)) rfl, by decide, by decide, rfl⟩
theorem fX10_16 : FL RX10 10 3 16 2 := ⟨good_in (tb5 (List.mem_of_getElem? (i := 56) rfl)) rfl, by decide, by decide, rfl⟩
theorem fX10_19 : FL RX10 10 4 19 2 := ⟨good_in (tb5 (List.mem_of_getElem? (i := 57) rfl)) rfl, by decide, by decide, rfl⟩
theorem fX10_22 : FL RX10 10 5 22 2 := ⟨good_in (tb5 (List.mem_of_getElem? (i := 58) rfl)) rfl, by decide, by decide, rfl⟩
theorem fX10_25 : FL RX10 10 6 25 2 := ⟨good_in (tb5 (List.mem_of_getElem? (i := 59) rfl)) rfl, by decide, by decide, rfl⟩
theorem fX10_28 : FL RX10 10 7 28 2 := ⟨good_in (tb5 (List.mem_of_getElem? (i := 60) rfl)) rfl, by decide, by decide, rfl⟩
theorem fX10_31 : FL RX10 10 8 31 2 := ⟨good_in (tb5 (List.mem_of_getElem? (i := 61) rfl)) rfl, by decide, by decide, rfl⟩
theorem fX10_34 : FL RX10 10 9 34 2 := ⟨good_in (tb5 (List.mem_of_getElem? (i := 62) rfl)) rfl, by decide, by decide, rfl⟩
theorem fX10_37 : FL RX10 10 10 37 2 := ⟨good_in (tb5 (List.mem_of_getElem? (i := 63) rfl)) rfl, by decide, by decide, rfl⟩
theorem fX10_40 : FL RX10 10 11 40 2 := ⟨good_in (tb5 (List.mem_of_getElem? (i := 64) rfl)) rfl, by decide, by decide, rfl⟩
theorem fX10_43 : FL RX10 10 12 43 2 := ⟨good_in (tb5 (List.mem_of_getElem? (i := 65) rfl)) rfl, by decide, by decide, rfl⟩
theorem fX10_46 : FL RX10 10 13 46 2 := ⟨good_in (tb5 (List.mem_of_getElem? (i := 66) rfl)) rfl, by decide, by decide, rfl⟩
theorem fX10_49 : FL RX10 10 14 49 2 := ⟨good_in (tb5 (List.mem_of_getElem? (i := 67) rfl)) rfl, by decide, by decide, rfl⟩
theorem fX10_52 : FL RX10 10 15 52 2 := ⟨good_in (tb5 (List.mem_of_getElem? (i := 68) rfl)) rfl, by decide, by decide, rfl⟩
theorem fX10_55 : FL RX10 10 16 55 2 := ⟨good_in (tb5 (List.mem_of_getElem? (i := 69) rfl)) rfl, by decide, by decide, rfl⟩
theorem fX10_58 : FL RX10 10 17 58 2 := ⟨good_in (tb5 (List.mem_of_getElem? (i := 70) rfl)) rfl, by decide, by decide, rfl⟩
theorem fX10_61 : FL RX10 10 18 61 2 := ⟨good_in (tb5 (List.mem_of_getElem? (i := 71) rfl)) rfl, by decide, by decide, rfl⟩
theorem fX10_64 : FL RX10 10 19 64 2 := ⟨good_in (tb5 (List.mem_of_getElem? (i := 72) rfl)) rfl, by decide, by decide, rfl⟩
theorem fX10_67 : FL RX10 10 20 67 2 := ⟨good_in (tb5 (List.mem_of_getElem? (i := 73) rfl)) rfl, by decide, by decide, rfl⟩
theorem fX10_70 : FL RX10 10 21 70 2 := ⟨good_in (tb5 (List.mem_of_getElem? (i := 74) rfl)) rfl, by decide, by decide, rfl⟩
theorem fX10_73 : FL RX10 10 22 73 2 := ⟨good_in (tb5 (List.mem_of_getElem? (i := 75) rfl)) rfl, by decide, by decide, rfl⟩
theorem fX10_76 : FL RX10 10 23 76 2 := ⟨good_in (tb5 (List.mem_of_getElem? (i := 76) rfl)) rfl, by decide, by decide, rfl⟩
theorem fX10_79 : FL RX10 10 33 79 0 := ⟨good_in (tb5 (List.mem_of_getElem? (i := 86) rfl)) rfl, by decide, by decide, rfl⟩
theorem fX10_83 : FL RX10 10 34 83 2 := ⟨good_in (tb5 (List.mem_of_getElem? (i := 87) rfl)) rfl, by decide, by decide, rfl⟩
theorem fX10_87 : FL RX10 10 35 87 2 := ⟨good_in (tb5 (List.mem_of_getElem? (i := 88) rfl)) rfl, by decide, by decide, rfl⟩
theorem fX10_90 : FL RX10 10 36 90 2 := ⟨good_in (tb5 (List.mem_of_getElem? (i := 89) rfl)) rfl, by decide, by decide, rfl⟩
theorem fX10_93 : FL RX10 10 37 93 2 := ⟨good_in (tb5 (List.mem_of_getElem? (i := 90) rfl)) rfl, by decide, by decide, rfl⟩
theorem fX10_96 : FL RX10 10 38 96 2 := ⟨good_in (tb5 (List.mem_of_getElem? (i := 91) rfl)) rfl, by decide, by decide, rfl⟩
theorem fX10_99 : FL RX10 10 39 99 2 := ⟨good_in (tb5 (List.mem_of_getElem? (i := 92) rfl)) rfl, by decide, by decide, rfl⟩
theorem fX10_102 : FL RX10 10 40 102 2 := ⟨good_in (tb5 (List.mem_of_getElem? (i := 93) rfl)) rfl, by decide, by decide, rfl⟩
theorem fX10_105 : FL RX10 10 41 105 2 := ⟨good_in (tb5 (List.mem_of_getElem? (i := 94) rfl)) rfl, by decide, by decide, rfl⟩
theorem fX10_108 : FL RX10 10 42 108 2 := ⟨good_in (tb5 (List.mem_of_getElem? (i := 95) rfl)) rfl, by decide, by decide, rfl⟩
theorem fX10_112 : FL RX10 10 43 112 2 := ⟨good_in (tb5 (List.mem_of_getElem? (i := 96) rfl)) rfl, by decide, by decide, rfl⟩
theorem fX10_115 : FL RX10 10 44 115 2 := ⟨good_in (tb5 (List.mem_of_getElem? (i := 97) rfl)) rfl, by decide, by decide, rfl⟩
theorem fX10_118 : FL RX10 10 45 118 2 := ⟨good_in (tb5 (List.mem_of_getElem? (i := 98) rfl)) rfl, by decide, by decide, rfl⟩
theorem fX10_121 : FL RX10 10 46 121 2 := ⟨good_in (tb5 (List.mem_of_getElem? (i := 99) rfl)) rfl, by decide, by decide, rfl⟩
theorem fX10_124 : FL RX10 10 47 124 2 := ⟨good_in (tb5 (List.mem_of_getElem? (i := 100) rfl)) rfl, by decide, by decide, rfl⟩
theorem fX10_127 : FL RX10 10 49 127 2 := ⟨good_in (tb5 (List.mem_of_getElem? (i := 102) rfl)) rfl, by decide, by decide, rfl⟩
theorem fX10_130 : FL RX10 10 50 130 2 := ⟨good_in (tb5 (List.mem_of_getElem? (i := 103) rfl)) rfl, by decide, by decide, rfl⟩
theorem fX10_133 : FL RX10 10 54 133 2 := ⟨good_in (tb5 (List.mem_of_getElem? (i := 107) rfl)) rfl, by decide, by decide, rfl⟩
theorem fX10_136 : FL RX10 10 55 136 2 := ⟨good_in (tb5 (List.mem_of_getElem? (i := 108) rfl)) rfl, by decide, by decide, rfl⟩
theorem fX10_139 : FL RX10 10 56 139 2 := ⟨good_in (tb5 (List.mem_of_getElem? (i := 109) rfl)) rfl, by decide, by decide, rfl⟩
theorem fX10_142 : FL RX10 10 57 142 2 := ⟨good_in (tb5 (List.mem_of_getElem? (i := 110) rfl)) rfl, by decide, by decide, rfl⟩
theorem fX10_145 : FL RX10 10 58 145 2 := ⟨good_in (tb5 (List.mem_of_getElem? (i := 111) rfl)) rfl, by decide, by decide, rfl⟩
theorem fX10_148 : FL RX10 10 59 148 2 := ⟨good_in (tb5 (List.mem_of_getElem? (i := 112) rfl)) rfl, by decide, by decide, rfl⟩
theorem fX10_151 : FL RX10 10 60 151 2 := ⟨good_in (tb5 (List.mem_of_getElem? (i := 113) rfl)) rfl, by decide, by decide, rfl⟩
theorem fX10_154 : FL RX10 10 61 154 2 := ⟨good_in (tb5 (List.mem_of_getElem? (i := 114) rfl)) rfl, by decide, by decide, rfl⟩
theorem fX10_157 : FL RX10 10 62 157 2 := ⟨good_in (tb5 (List.mem_of_getElem? (i := 115) rfl)) rfl, by decide, by decide, rfl⟩
theorem lX9_1 : Cond.methodLink RX9 1 Lib.objectInit ∈ lw_good := good_in (tb1 (List.mem_of_getElem? (i := 23) rfl)) rfl
theorem nX9_13 : Cond.classLink RX9 13 RX7 ∈ lw_good := good_in (tb1 (List.mem_of_getElem? (i := 26) rfl)) rfl
theorem nX9_19 : Cond.classLink RX9 19 RX3 ∈ lw_good := good_in (tb1 (List.mem_of_getElem? (i := 28) rfl)) rfl
theorem xX9_21 : Cond.methodLinkNest RX9 21 yX3_init RX9 ∈ lw_nest := by decide +kernel
theorem nX9_34 : Cond.classLink RX9 34 RX6 ∈ lw_good := good_in (tb1 (List.mem_of_getElem? (i := 178) rfl)) rfl
theorem xX9_36 : Cond.methodLinkNest RX9 36 yX6_init RX9 ∈ lw_nest := by decide +kernel
theorem nX9_41 : Cond.classLink RX9 41 RX4 ∈ lw_good := good_in (tb1 (List.mem_of_getElem? (i := 210) rfl)) rfl
theorem xX9_43 : Cond.methodLinkNest RX9 43 yX4_init RX9 ∈ lw_nest := by decide +kernel
theorem nX9_48 : Cond.classLink RX9 48 RX1 ∈ lw_good := good_in (tb1 (List.mem_of_getElem? (i := 233) rfl)) rfl
theorem lX9_50 : Cond.methodLink RX9 50 yX1_init ∈ lw_good := good_in (tb1 (List.mem_of_getElem? (i := 235) rfl)) rfl
theorem nX9_57 : Cond.classLink RX9 57 RX0 ∈ lw_good := good_in (tb2 (List.mem_of_getElem? (i := 17) rfl)) rfl
theorem lX9_59 : Cond.methodLink RX9 59 yX0_init ∈ lw_good := good_in (tb2 (List.mem_of_getElem? (i := 19) rfl)) rfl
theorem nX9_64 : Cond.classLink RX9 64 RX2 ∈ lw_good := good_in (tb2 (List.mem_of_getElem? (i := 57) rfl)) rfl
theorem lX9_66 : Cond.methodLink RX9 66 yX2_init ∈ lw_good := good_in (tb2 (List.mem_of_getElem? (i := 59) rfl)) rfl
theorem xX9_71 : Cond.methodLinkNest RX9 71 yX7_init RX9 ∈ lw_nest := by decide +kernel
theorem lX10_164 : Cond.methodLink RX10 164 yX10_in ∈ lw_good := good_in (tb6 (List.mem_of_getElem? (i := 84) rfl)) rfl
theorem fX10_168 : FL RX10 10 24 168 0 := ⟨good_in (tb5 (List.mem_of_getElem? (i := 77) rfl)) rfl, by decide, by decide, rfl⟩
theorem lX10_171 : Cond.methodLink RX10 171 yX10_put ∈ lw_good := good_in (tb6 (List.mem_of_getElem? (i := 13) rfl)) rfl
theorem fX10_194 : FL RX10 10 26 194 0 := ⟨good_in (tb5 (List.mem_of_getElem? (i := 79) rfl)) rfl, by decide, by decide, rfl⟩
theorem fX10_197 : FL RX10 10 25 197 0 := ⟨good_in (tb5 (List.mem_of_getElem? (i := 78) rfl)) rfl, by decide, by decide, rfl⟩
theorem lX10_200 : Cond.methodLink RX10 200 yX10_sign ∈ lw_good := good_in (tb6 (List.mem_of_getElem? (i := 41) rfl)) rfl
theorem kX10_204 : Cond.constantLong RX10 204 48 ∈ lw_good := good_in (tb6 (List.mem_of_getElem? (i := 82) rfl)) rfl
theorem kX10_206 : Cond.constantLong RX10 206 57 ∈ lw_good := good_in (tb6 (List.mem_of_getElem? (i := 83) rfl)) rfl
theorem lX10_208 : Cond.methodLink RX10 208 yJ0_length_8abf5 ∈ lw_good := good_in (tb6 (List.mem_of_getElem? (i := 55) rfl)) rfl
theorem lX10_213 : Cond.methodLink RX10 213 yJ0_charAt_5068e ∈ lw_good := good_in (tb6 (List.mem_of_getElem? (i := 56) rfl)) rfl
theorem lX10_217 : Cond.methodLink RX10 217 yX10_blanks ∈ lw_good := good_in (tb6 (List.mem_of_getElem? (i := 37) rfl)) rfl
theorem lX10_220 : Cond.methodLink RX10 220 yX10_stood ∈ lw_good := good_in (tb6 (List.mem_of_getElem? (i := 51) rfl)) rfl
theorem fX10_224 : FL RX10 10 27 224 0 := ⟨good_in (tb5 (List.mem_of_getElem? (i := 80) rfl)) rfl, by decide, by decide, rfl⟩
theorem fX10_227 : FL RX10 10 29 227 0 := ⟨good_in (tb5 (List.mem_of_getElem? (i := 82) rfl)) rfl, by decide, by decide, rfl⟩
theorem fX10_230 : FL RX10 10 31 230 0 := ⟨good_in (tb5 (List.mem_of_getElem? (i := 84) rfl)) rfl, by decide, by decide, rfl⟩
theorem lX10_233 : Cond.methodLink RX10 233 yX10_fails ∈ lw_good := good_in (tb6 (List.mem_of_getElem? (i := 57) rfl)) rfl
theorem lX10_237 : Cond.methodLink RX10 237 yX10_isDigit ∈ lw_good := good_in (tb6 (List.mem_of_getElem? (i := 78) rfl)) rfl
theorem kX10_241 : Cond.constant RX10 241 99999 ∈ lw_good := good_in (tb6 (List.mem_of_getElem? (i := 73) rfl)) rfl
theorem lX10_242 : Cond.methodLink RX10 242 yX10_digits ∈ lw_good := good_in (tb6 (List.mem_of_getElem? (i := 74) rfl)) rfl
theorem lX10_246 : Cond.methodLink RX10 246 yX10_isCounted ∈ lw_good := good_in (tb6 (List.mem_of_getElem? (i := 119) rfl)) rfl
theorem lX10_249 : Cond.methodLink RX10 249 yX10_entry ∈ lw_good := good_in (tb6 (List.mem_of_getElem? (i := 123) rfl)) rfl
theorem lX10_252 : Cond.methodLink RX10 252 yX10_wordOf ∈ lw_good := good_in (tb6 (List.mem_of_getElem? (i := 127) rfl)) rfl
theorem lX10_256 : Cond.methodLink RX10 256 yX10_value ∈ lw_good := good_in (tb6 (List.mem_of_getElem? (i := 115) rfl)) rfl
theorem lX10_259 : Cond.methodLink RX10 259 yX10_term ∈ lw_good := good_in (tb6 (List.mem_of_getElem? (i := 111) rfl)) rfl
theorem lX10_262 : Cond.methodLink RX10 262 yX10_sum ∈ lw_good := good_in (tb6 (List.mem_of_getElem? (i := 107) rfl)) rfl
theorem fX10_265 : FL RX10 10 32 265 0 := ⟨good_in (tb5 (List.mem_of_getElem? (i := 85) rfl)) rfl, by decide, by decide, rfl⟩
theorem fX10_268 : FL RX10 10 30 268 0 := ⟨good_in (tb5 (List.mem_of_getElem? (i := 83) rfl)) rfl, by decide, by decide, rfl⟩
theorem lX10_271 : Cond.methodLink RX10 271 yX10_top ∈ lw_good := good_in (tb6 (List.mem_of_getElem? (i := 166) rfl)) rfl
theorem lX10_279 : Cond.methodLink RX10 279 yX10_compared ∈ lw_good := good_in (tb6 (List.mem_of_getElem? (i := 158) rfl)) rfl
theorem lX10_276 : Cond.methodLink RX10 276 yX10_opens ∈ lw_good := good_in (tb6 (List.mem_of_getElem? (i := 154) rfl)) rfl
theorem lX10_285 : Cond.methodLink RX10 285 yX10_answers ∈ lw_good := good_in (tb6 (List.mem_of_getElem? (i := 162) rfl)) rfl
theorem lX10_282 : Cond.methodLink RX10 282 yX10_fact ∈ lw_good := good_in (tb6 (List.mem_of_getElem? (i := 149) rfl)) rfl
theorem lX10_294 : Cond.methodLink RX10 294 yX10_amount ∈ lw_good := good_in (tb6 (List.mem_of_getElem? (i := 69) rfl)) rfl
theorem lX10_301 : Cond.methodLink RX10 301 yX10_isFull ∈ lw_good := good_in (tb6 (List.mem_of_getElem? (i := 61) rfl)) rfl
theorem lX10_298 : Cond.methodLink RX10 298 yX10_cityWord ∈ lw_good := good_in (tb6 (List.mem_of_getElem? (i := 45) rfl)) rfl
theorem lX10_305 : Cond.methodLink RX10 305 yX10_cityPart ∈ lw_good := good_in (tb6 (List.mem_of_getElem? (i := 65) rfl)) rfl
theorem lX10_308 : Cond.methodLink RX10 308 yX10_starts ∈ lw_good := good_in (tb6 (List.mem_of_getElem? (i := 29) rfl)) rfl
theorem lX10_311 : Cond.methodLink RX10 311 yX10_cityClause ∈ lw_good := good_in (tb6 (List.mem_of_getElem? (i := 33) rfl)) rfl
theorem lX10_314 : Cond.methodLink RX10 314 yX10_goesOn ∈ lw_good := good_in (tb6 (List.mem_of_getElem? (i := 87) rfl)) rfl
theorem lX10_317 : Cond.methodLink RX10 317 yX10_copies ∈ lw_good := good_in (tb6 (List.mem_of_getElem? (i := 91) rfl)) rfl
theorem lX10_321 : Cond.methodLink RX10 321 yX10_readsAll ∈ lw_good := good_in (tb6 (List.mem_of_getElem? (i := 25) rfl)) rfl
theorem lX10_324 : Cond.methodLink RX10 324 yX10_begins ∈ lw_good := good_in (tb6 (List.mem_of_getElem? (i := 94) rfl)) rfl
theorem fX10_327 : FL RX10 10 51 327 0 := ⟨good_in (tb5 (List.mem_of_getElem? (i := 104) rfl)) rfl, by decide, by decide, rfl⟩
theorem lX10_334 : Cond.methodLink RX10 334 yX10_takes ∈ lw_good := good_in (tb6 (List.mem_of_getElem? (i := 141) rfl)) rfl
theorem lX10_337 : Cond.methodLink RX10 337 yX10_test ∈ lw_good := good_in (tb6 (List.mem_of_getElem? (i := 145) rfl)) rfl
theorem fX10_340 : FL RX10 10 28 340 0 := ⟨good_in (tb5 (List.mem_of_getElem? (i := 81) rfl)) rfl, by decide, by decide, rfl⟩
theorem lX10_343 : Cond.methodLink RX10 343 yX10_ruleClause ∈ lw_good := good_in (tb6 (List.mem_of_getElem? (i := 102) rfl)) rfl
theorem kX10_346 : Cond.constantLong RX10 346 (-1) ∈ lw_good := good_in (tb6 (List.mem_of_getElem? (i := 176) rfl)) rfl
theorem lX10_348 : Cond.methodLink RX10 348 yX10_answer ∈ lw_good := good_in (tb7 (List.mem_of_getElem? (i := 16) rfl)) rfl
theorem lX10_352 : Cond.methodLink RX10 352 yX10_truth ∈ lw_good := good_in (tb7 (List.mem_of_getElem? (i := 23) rfl)) rfl
theorem lX10_356 : Cond.methodLink RX10 356 yX10_both ∈ lw_good := good_in (tb7 (List.mem_of_getElem? (i := 20) rfl)) rfl
theorem lX10_360 : Cond.methodLink RX10 360 yX10_differ ∈ lw_good := good_in (tb6 (List.mem_of_getElem? (i := 201) rfl)) rfl
theorem lX10_363 : Cond.methodLink RX10 363 yX10_farOf ∈ lw_good := good_in (tb6 (List.mem_of_getElem? (i := 197) rfl)) rfl
theorem lX10_366 : Cond.methodLink RX10 366 yX10_isBed ∈ lw_good := good_in (tb6 (List.mem_of_getElem? (i := 181) rfl)) rfl
theorem lX10_370 : Cond.methodLink RX10 370 yX10_layOn ∈ lw_good := good_in (tb6 (List.mem_of_getElem? (i := 185) rfl)) rfl
theorem lX10_373 : Cond.methodLink RX10 373 yX10_isLodger ∈ lw_good := good_in (tb6 (List.mem_of_getElem? (i := 193) rfl)) rfl
theorem lX10_376 : Cond.methodLink RX10 376 yX10_wanted ∈ lw_good := good_in (tb7 (List.mem_of_getElem? (i := 12) rfl)) rfl
theorem kX10_386 : Cond.constantLong RX10 386 10 ∈ lw_good := good_in (tb7 (List.mem_of_getElem? (i := 27) rfl)) rfl
theorem kX10_384 : Cond.constantLong RX10 384 100 ∈ lw_good := good_in (tb7 (List.mem_of_getElem? (i := 26) rfl)) rfl
theorem lX10_380 : Cond.methodLink RX10 380 yX10_sumOf ∈ lw_good := good_in (tb7 (List.mem_of_getElem? (i := 8) rfl)) rfl
theorem fX10_391 : FL RX10 10 48 391 0 := ⟨good_in (tb5 (List.mem_of_getElem? (i := 101) rfl)) rfl, by decide, by decide, rfl⟩
theorem lX10_388 : Cond.methodLink RX10 388 yX10_isRoom ∈ lw_good := good_in (tb7 (List.mem_of_getElem? (i := 0) rfl)) rfl
theorem lX10_395 : Cond.methodLink RX10 395 yX10_likes ∈ lw_good := good_in (tb7 (List.mem_of_getElem? (i := 4) rfl)) rfl
theorem lX10_401 : Cond.methodLink RX10 401 yX10_shapesAll ∈ lw_good := good_in (tb7 (List.mem_of_getElem? (i := 28) rfl)) rfl
theorem lX10_398 : Cond.methodLink RX10 398 yX10_choice ∈ lw_good := good_in (tb6 (List.mem_of_getElem? (i := 236) rfl)) rfl
theorem lX10_404 : Cond.methodLink RX10 404 yX10_goes ∈ lw_good := good_in (tb6 (List.mem_of_getElem? (i := 232) rfl)) rfl
theorem fX10_407 : FL RX10 10 53 407 0 := ⟨good_in (tb5 (List.mem_of_getElem? (i := 106) rfl)) rfl, by decide, by decide, rfl⟩
theorem fX10_410 : FL RX10 10 52 410 0 := ⟨good_in (tb5 (List.mem_of_getElem? (i := 105) rfl)) rfl, by decide, by decide, rfl⟩
theorem lX10_413 : Cond.methodLink RX10 413 yX10_moves ∈ lw_good := good_in (tb6 (List.mem_of_getElem? (i := 212) rfl)) rfl
theorem lX10_416 : Cond.methodLink RX10 416 yX10_movesRow ∈ lw_good := good_in (tb6 (List.mem_of_getElem? (i := 216) rfl)) rfl
theorem lX10_420 : Cond.methodLink RX10 420 yX10_movesAll ∈ lw_good := good_in (tb6 (List.mem_of_getElem? (i := 208) rfl)) rfl
theorem lX10_424 : Cond.methodLink RX10 424 yX10_isCity ∈ lw_good := good_in (tb6 (List.mem_of_getElem? (i := 224) rfl)) rfl
theorem lX10_427 : Cond.methodLink RX10 427 yX10_keepsAct ∈ lw_good := good_in (tb6 (List.mem_of_getElem? (i := 228) rfl)) rfl
theorem lX10_430 : Cond.methodLink RX10 430 yX10_turns ∈ lw_good := good_in (tb7 (List.mem_of_getElem? (i := 36) rfl)) rfl
theorem kX10_433 : Cond.constantLong RX10 433 9 ∈ lw_good := good_in (tb7 (List.mem_of_getElem? (i := 44) rfl)) rfl
theorem lX10_435 : Cond.methodLink RX10 435 yX10_carriesAll ∈ lw_good := good_in (tb7 (List.mem_of_getElem? (i := 61) rfl)) rfl
theorem lX10_438 : Cond.methodLink RX10 438 yX10_goFor ∈ lw_good := good_in (tb7 (List.mem_of_getElem? (i := 69) rfl)) rfl
theorem lX10_441 : Cond.methodLink RX10 441 yX10_allFar ∈ lw_good := good_in (tb7 (List.mem_of_getElem? (i := 73) rfl)) rfl
theorem lX10_444 : Cond.methodLink RX10 444 yX10_laysBack ∈ lw_good := good_in (tb7 (List.mem_of_getElem? (i := 77) rfl)) rfl
theorem lX10_447 : Cond.methodLink RX10 447 yX10_keepsAll ∈ lw_good := good_in (tb7 (List.mem_of_getElem? (i := 57) rfl)) rfl
theorem kX10_450 : Cond.constantLong RX10 450 99 ∈ lw_good := good_in (tb7 (List.mem_of_getElem? (i := 85) rfl)) rfl
theorem lX10_452 : Cond.methodLink RX10 452 yX10_codesOf ∈ lw_good := good_in (tb7 (List.mem_of_getElem? (i := 92) rfl)) rfl
theorem lX10_458 : Cond.methodLink RX10 458 yX10_freesAll ∈ lw_good := good_in (tb7 (List.mem_of_getElem? (i := 104) rfl)) rfl
theorem kX10_461 : Cond.constant RX10 461 100000 ∈ lw_good := good_in (tb7 (List.mem_of_getElem? (i := 91) rfl)) rfl
theorem lX10_455 : Cond.methodLink RX10 455 yX10_placeOf ∈ lw_good := good_in (tb7 (List.mem_of_getElem? (i := 100) rfl)) rfl
theorem kX10_462 : Cond.constantLong RX10 462 4 ∈ lw_good := good_in (tb7 (List.mem_of_getElem? (i := 90) rfl)) rfl
theorem lX10_464 : Cond.methodLink RX10 464 yX10_farByRow ∈ lw_good := good_in (tb7 (List.mem_of_getElem? (i := 96) rfl)) rfl
theorem kX10_468 : Cond.constantLong RX10 468 5 ∈ lw_good := good_in (tb7 (List.mem_of_getElem? (i := 112) rfl)) rfl
theorem lX10_470 : Cond.methodLink RX10 470 yX10_farTonight ∈ lw_good := good_in (tb7 (List.mem_of_getElem? (i := 113) rfl)) rfl
theorem kX10_473 : Cond.constantLong RX10 473 60 ∈ lw_good := good_in (tb7 (List.mem_of_getElem? (i := 121) rfl)) rfl
theorem lX10_475 : Cond.methodLink RX10 475 yX10_farIn ∈ lw_good := good_in (tb7 (List.mem_of_getElem? (i := 122) rfl)) rfl
theorem lX10_478 : Cond.methodLink RX10 478 yX10_bits ∈ lw_good := good_in (tb7 (List.mem_of_getElem? (i := 131) rfl)) rfl
theorem lX10_481 : Cond.methodLink RX10 481 yX10_has ∈ lw_good := good_in (tb7 (List.mem_of_getElem? (i := 138) rfl)) rfl
theorem kX10_484 : Cond.constantLong RX10 484 2 ∈ lw_good := good_in (tb7 (List.mem_of_getElem? (i := 130) rfl)) rfl
theorem lX10_486 : Cond.methodLink RX10 486 yX10_hollowBy ∈ lw_good := good_in (tb7 (List.mem_of_getElem? (i := 134) rfl)) rfl
theorem lX10_489 : Cond.methodLink RX10 489 yX10_laysCourse ∈ lw_good := good_in (tb7 (List.mem_of_getElem? (i := 149) rfl)) rfl
theorem lX10_492 : Cond.methodLink RX10 492 yX10_areAlike ∈ lw_good := good_in (tb7 (List.mem_of_getElem? (i := 153) rfl)) rfl
theorem kX10_495 : Cond.constantLong RX10 495 20 ∈ lw_good := good_in (tb7 (List.mem_of_getElem? (i := 165) rfl)) rfl
theorem lX10_497 : Cond.methodLink RX10 497 yX10_laysBeds ∈ lw_good := good_in (tb7 (List.mem_of_getElem? (i := 166) rfl)) rfl
theorem lX10_501 : Cond.methodLink RX10 501 yX10_isRest ∈ lw_good := good_in (tb7 (List.mem_of_getElem? (i := 170) rfl)) rfl
theorem kX10_504 : Cond.constantLong RX10 504 9999 ∈ lw_good := good_in (tb7 (List.mem_of_getElem? (i := 178) rfl)) rfl
theorem lX10_506 : Cond.methodLink RX10 506 yX10_allNights ∈ lw_good := good_in (tb7 (List.mem_of_getElem? (i := 179) rfl)) rfl
theorem lX10_509 : Cond.methodLink RX10 509 yX10_couldRule ∈ lw_good := good_in (tb7 (List.mem_of_getElem? (i := 191) rfl)) rfl
theorem lX10_512 : Cond.methodLink RX10 512 yX10_mostAlike ∈ lw_good := good_in (tb7 (List.mem_of_getElem? (i := 199) rfl)) rfl
theorem kX10_515 : Cond.constantLong RX10 515 1103515245 ∈ lw_good := good_in (tb7 (List.mem_of_getElem? (i := 215) rfl)) rfl
theorem kX10_517 : Cond.constantLong RX10 517 12345 ∈ lw_good := good_in (tb7 (List.mem_of_getElem? (i := 216) rfl)) rfl
theorem kX10_519 : Cond.constantLong RX10 519 2147483648 ∈ lw_good := good_in (tb7 (List.mem_of_getElem? (i := 217) rfl)) rfl
theorem kX10_521 : Cond.constant RX10 521 65536 ∈ lw_good := good_in (tb7 (List.mem_of_getElem? (i := 218) rfl)) rfl
theorem lX10_525 : Cond.methodLink RX10 525 yX10_allHollows ∈ lw_good := good_in (tb7 (List.mem_of_getElem? (i := 219) rfl)) rfl
theorem lX10_522 : Cond.methodLink RX10 522 yX10_draws ∈ lw_good := good_in (tb7 (List.mem_of_getElem? (i := 211) rfl)) rfl
theorem fX10_528 : FL RX10 10 64 528 0 := ⟨good_in (tb5 (List.mem_of_getElem? (i := 117) rfl)) rfl, by decide, by decide, rfl⟩
theorem fX10_531 : FL RX10 10 63 531 0 := ⟨good_in (tb5 (List.mem_of_getElem? (i := 116) rfl)) rfl, by decide, by decide, rfl⟩
theorem lX10_534 : Cond.methodLink RX10 534 yX10_carryRow ∈ lw_good := good_in (tb7 (List.mem_of_getElem? (i := 65) rfl)) rfl
theorem kX10_537 : Cond.constantLong RX10 537 3 ∈ lw_good := good_in (tb7 (List.mem_of_getElem? (i := 231) rfl)) rfl
