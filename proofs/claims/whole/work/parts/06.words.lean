theorem u_0 : (Cond.selects R_Pla y_Pla_measurePoints y_Pla_measurePoints : Cond) ∈ gd_tbl := List.mem_filter.mpr ⟨List.mem_of_getElem? (i := 0) (by decide +kernel), by decide +kernel⟩
theorem u_1 : (Cond.selects R_Pla y_Pla_streetsThrough y_Pla_streetsThrough : Cond) ∈ gd_tbl := List.mem_filter.mpr ⟨List.mem_of_getElem? (i := 1) (by decide +kernel), by decide +kernel⟩
theorem u_2 : (Cond.selects R_Pla y_Pla_height y_Pla_height : Cond) ∈ gd_tbl := List.mem_filter.mpr ⟨List.mem_of_getElem? (i := 2) (by decide +kernel), by decide +kernel⟩
theorem u_3 : (Cond.selects R_Pla y_Pla_sidesOfPoint y_Pla_sidesOfPoint : Cond) ∈ gd_tbl := List.mem_filter.mpr ⟨List.mem_of_getElem? (i := 3) (by decide +kernel), by decide +kernel⟩
theorem u_4 : (Cond.selects R_Pla y_Pla_measureQuarters y_Pla_measureQuarters : Cond) ∈ gd_tbl := List.mem_filter.mpr ⟨List.mem_of_getElem? (i := 4) (by decide +kernel), by decide +kernel⟩
theorem u_5 : (Cond.selects R_Pla y_Pla_sidesFar y_Pla_sidesFar : Cond) ∈ gd_tbl := List.mem_filter.mpr ⟨List.mem_of_getElem? (i := 5) (by decide +kernel), by decide +kernel⟩
theorem u_6 : (Cond.selects R_All y_All_refuse y_All_refuse : Cond) ∈ gd_tbl := List.mem_filter.mpr ⟨List.mem_of_getElem? (i := 6) (by decide +kernel), by decide +kernel⟩
theorem u_7 : (Cond.selects R_Let y_Let_readAll y_Let_readAll : Cond) ∈ gd_tbl := List.mem_filter.mpr ⟨List.mem_of_getElem? (i := 7) (by decide +kernel), by decide +kernel⟩
theorem u_8 : (Cond.selects R_Let y_Let_readStatement y_Let_readStatement : Cond) ∈ gd_tbl := List.mem_filter.mpr ⟨List.mem_of_getElem? (i := 8) (by decide +kernel), by decide +kernel⟩
theorem u_9 : (Cond.selects R_Let y_Let_takes y_Let_takes : Cond) ∈ gd_tbl := List.mem_filter.mpr ⟨List.mem_of_getElem? (i := 9) (by decide +kernel), by decide +kernel⟩
theorem u_10 : (Cond.selects R_Let y_Let_readKind y_Let_readKind : Cond) ∈ gd_tbl := List.mem_filter.mpr ⟨List.mem_of_getElem? (i := 10) (by decide +kernel), by decide +kernel⟩
theorem u_11 : (Cond.selects R_Let y_Let_readNumber y_Let_readNumber : Cond) ∈ gd_tbl := List.mem_filter.mpr ⟨List.mem_of_getElem? (i := 11) (by decide +kernel), by decide +kernel⟩
theorem u_12 : (Cond.selects R_Let y_Let_isDigit y_Let_isDigit : Cond) ∈ gd_tbl := List.mem_filter.mpr ⟨List.mem_of_getElem? (i := 12) (by decide +kernel), by decide +kernel⟩
theorem u_13 : (Cond.selects R_Let y_Let_putStatement y_Let_putStatement : Cond) ∈ gd_tbl := List.mem_filter.mpr ⟨List.mem_of_getElem? (i := 13) (by decide +kernel), by decide +kernel⟩
theorem u_14 : (Cond.selects R_All y_All_refuseFar y_All_refuseFar : Cond) ∈ gd_tbl := List.mem_filter.mpr ⟨List.mem_of_getElem? (i := 14) (by decide +kernel), by decide +kernel⟩
theorem u_15 : (Cond.selects R_Pla y_Pla_isSquare y_Pla_isSquare : Cond) ∈ gd_tbl := List.mem_filter.mpr ⟨List.mem_of_getElem? (i := 15) (by decide +kernel), by decide +kernel⟩
theorem u_16 : (Cond.selects R_Pla y_Pla_lampsAt y_Pla_lampsAt : Cond) ∈ gd_tbl := List.mem_filter.mpr ⟨List.mem_of_getElem? (i := 16) (by decide +kernel), by decide +kernel⟩
theorem u_17 : (Cond.selects R_All y_All_whyNoNewLine y_All_whyNoNewLine : Cond) ∈ gd_tbl := List.mem_filter.mpr ⟨List.mem_of_getElem? (i := 17) (by decide +kernel), by decide +kernel⟩
theorem u_18 : (Cond.selects R_All y_All_whyNoLine y_All_whyNoLine : Cond) ∈ gd_tbl := List.mem_filter.mpr ⟨List.mem_of_getElem? (i := 18) (by decide +kernel), by decide +kernel⟩
theorem u_19 : (Cond.selects R_All y_All_fearedLines y_All_fearedLines : Cond) ∈ gd_tbl := List.mem_filter.mpr ⟨List.mem_of_getElem? (i := 19) (by decide +kernel), by decide +kernel⟩
theorem u_20 : (Cond.selects R_All y_All_dearestStreet y_All_dearestStreet : Cond) ∈ gd_tbl := List.mem_filter.mpr ⟨List.mem_of_getElem? (i := 20) (by decide +kernel), by decide +kernel⟩
theorem u_21 : (Cond.selects R_Mod y_Mod_no y_Mod_no : Cond) ∈ gd_tbl := List.mem_filter.mpr ⟨List.mem_of_getElem? (i := 21) (by decide +kernel), by decide +kernel⟩
theorem u_22 : (Cond.selects R_Mod y_Mod_statement y_Mod_statement : Cond) ∈ gd_tbl := List.mem_filter.mpr ⟨List.mem_of_getElem? (i := 22) (by decide +kernel), by decide +kernel⟩
theorem u_23 : (Cond.selects R_Mod y_Mod_is y_Mod_is : Cond) ∈ gd_tbl := List.mem_filter.mpr ⟨List.mem_of_getElem? (i := 23) (by decide +kernel), by decide +kernel⟩
theorem u_24 : (Cond.selects R_Mod y_Mod_number y_Mod_number : Cond) ∈ gd_tbl := List.mem_filter.mpr ⟨List.mem_of_getElem? (i := 24) (by decide +kernel), by decide +kernel⟩
theorem u_25 : (Cond.selects R_Mod y_Mod_isDigit y_Mod_isDigit : Cond) ∈ gd_tbl := List.mem_filter.mpr ⟨List.mem_of_getElem? (i := 25) (by decide +kernel), by decide +kernel⟩
theorem u_26 : (Cond.selects R_Mod y_Mod_isDirection y_Mod_isDirection : Cond) ∈ gd_tbl := List.mem_filter.mpr ⟨List.mem_of_getElem? (i := 26) (by decide +kernel), by decide +kernel⟩
theorem u_27 : (Cond.selects R_Mod y_Mod_keep y_Mod_keep : Cond) ∈ gd_tbl := List.mem_filter.mpr ⟨List.mem_of_getElem? (i := 27) (by decide +kernel), by decide +kernel⟩
theorem u_28 : (Cond.selects R_Mod y_Mod_again y_Mod_again : Cond) ∈ gd_tbl := List.mem_filter.mpr ⟨List.mem_of_getElem? (i := 28) (by decide +kernel), by decide +kernel⟩
theorem u_29 : (Cond.selects R_Mod y_Mod_isStreet y_Mod_isStreet : Cond) ∈ gd_tbl := List.mem_filter.mpr ⟨List.mem_of_getElem? (i := 29) (by decide +kernel), by decide +kernel⟩
theorem u_30 : (Cond.selects R_Mod y_Mod_noFar y_Mod_noFar : Cond) ∈ gd_tbl := List.mem_filter.mpr ⟨List.mem_of_getElem? (i := 30) (by decide +kernel), by decide +kernel⟩
theorem u_31 : (Cond.selects R_Mod y_Mod_lampsOf y_Mod_lampsOf : Cond) ∈ gd_tbl := List.mem_filter.mpr ⟨List.mem_of_getElem? (i := 31) (by decide +kernel), by decide +kernel⟩
theorem u_32 : (Cond.selects R_Mod y_Mod_pointsOf y_Mod_pointsOf : Cond) ∈ gd_tbl := List.mem_filter.mpr ⟨List.mem_of_getElem? (i := 32) (by decide +kernel), by decide +kernel⟩
theorem u_33 : (Cond.selects R_Mod y_Mod_isFirst y_Mod_isFirst : Cond) ∈ gd_tbl := List.mem_filter.mpr ⟨List.mem_of_getElem? (i := 33) (by decide +kernel), by decide +kernel⟩
theorem u_34 : (Cond.selects R_Mod y_Mod_sideOfCrossing y_Mod_sideOfCrossing : Cond) ∈ gd_tbl := List.mem_filter.mpr ⟨List.mem_of_getElem? (i := 34) (by decide +kernel), by decide +kernel⟩
theorem u_35 : (Cond.selects R_Mod y_Mod_isPlot y_Mod_isPlot : Cond) ∈ gd_tbl := List.mem_filter.mpr ⟨List.mem_of_getElem? (i := 35) (by decide +kernel), by decide +kernel⟩
theorem u_36 : (Cond.selects R_Mod y_Mod_lay y_Mod_lay : Cond) ∈ gd_tbl := List.mem_filter.mpr ⟨List.mem_of_getElem? (i := 36) (by decide +kernel), by decide +kernel⟩
theorem u_37 : (Cond.selects R_Mod y_Mod_along y_Mod_along : Cond) ∈ gd_tbl := List.mem_filter.mpr ⟨List.mem_of_getElem? (i := 37) (by decide +kernel), by decide +kernel⟩
theorem u_38 : (Cond.selects R_Mod y_Mod_isAbout y_Mod_isAbout : Cond) ∈ gd_tbl := List.mem_filter.mpr ⟨List.mem_of_getElem? (i := 38) (by decide +kernel), by decide +kernel⟩
theorem u_39 : (Cond.selects R_Mod y_Mod_howMany y_Mod_howMany : Cond) ∈ gd_tbl := List.mem_filter.mpr ⟨List.mem_of_getElem? (i := 39) (by decide +kernel), by decide +kernel⟩
theorem u_40 : (Cond.selects R_Mod y_Mod_isQuarter y_Mod_isQuarter : Cond) ∈ gd_tbl := List.mem_filter.mpr ⟨List.mem_of_getElem? (i := 40) (by decide +kernel), by decide +kernel⟩
theorem u_41 : (Cond.selects R_Mod y_Mod_sidesOf y_Mod_sidesOf : Cond) ∈ gd_tbl := List.mem_filter.mpr ⟨List.mem_of_getElem? (i := 41) (by decide +kernel), by decide +kernel⟩
theorem u_42 : (Cond.selects R_Mod y_Mod_whereIs y_Mod_whereIs : Cond) ∈ gd_tbl := List.mem_filter.mpr ⟨List.mem_of_getElem? (i := 42) (by decide +kernel), by decide +kernel⟩
theorem u_43 : (Cond.selects R_Mod y_Mod_at y_Mod_at : Cond) ∈ gd_tbl := List.mem_filter.mpr ⟨List.mem_of_getElem? (i := 43) (by decide +kernel), by decide +kernel⟩
theorem u_44 : (Cond.selects R_Mod y_Mod_side y_Mod_side : Cond) ∈ gd_tbl := List.mem_filter.mpr ⟨List.mem_of_getElem? (i := 44) (by decide +kernel), by decide +kernel⟩
theorem u_45 : (Cond.selects R_Mod y_Mod_think y_Mod_think : Cond) ∈ gd_tbl := List.mem_filter.mpr ⟨List.mem_of_getElem? (i := 45) (by decide +kernel), by decide +kernel⟩
theorem u_46 : (Cond.selects R_Mod y_Mod_cuts y_Mod_cuts : Cond) ∈ gd_tbl := List.mem_filter.mpr ⟨List.mem_of_getElem? (i := 46) (by decide +kernel), by decide +kernel⟩
theorem u_47 : (Cond.selects R_Mod y_Mod_without y_Mod_without : Cond) ∈ gd_tbl := List.mem_filter.mpr ⟨List.mem_of_getElem? (i := 47) (by decide +kernel), by decide +kernel⟩
theorem u_49 : (Cond.initialized R_All : Cond) ∈ gd_tbl := List.mem_filter.mpr ⟨List.mem_of_getElem? (i := 49) (by decide +kernel), by decide +kernel⟩
theorem u_50 : (Cond.initialized R_Tow : Cond) ∈ gd_tbl := List.mem_filter.mpr ⟨List.mem_of_getElem? (i := 50) (by decide +kernel), by decide +kernel⟩
theorem u_51 : (Cond.initialized R_Pla : Cond) ∈ gd_tbl := List.mem_filter.mpr ⟨List.mem_of_getElem? (i := 51) (by decide +kernel), by decide +kernel⟩
theorem u_52 : (Cond.initialized R_Let : Cond) ∈ gd_tbl := List.mem_filter.mpr ⟨List.mem_of_getElem? (i := 52) (by decide +kernel), by decide +kernel⟩
theorem u_54 : (Cond.initialized R_Mod : Cond) ∈ gd_tbl := List.mem_filter.mpr ⟨List.mem_of_getElem? (i := 54) (by decide +kernel), by decide +kernel⟩
theorem u_56 : (Cond.initialized R_Str : Cond) ∈ gd_tbl := List.mem_filter.mpr ⟨List.mem_of_getElem? (i := 56) (by decide +kernel), by decide +kernel⟩
theorem u_57 : (Cond.initialized R_Lat : Cond) ∈ gd_tbl := List.mem_filter.mpr ⟨List.mem_of_getElem? (i := 57) (by decide +kernel), by decide +kernel⟩
theorem u_61 : (Cond.initialized R_Int : Cond) ∈ gd_tbl := List.mem_filter.mpr ⟨List.mem_of_getElem? (i := 61) (by decide +kernel), by decide +kernel⟩
theorem u_62 : (Cond.initialized R_Lng : Cond) ∈ gd_tbl := List.mem_filter.mpr ⟨List.mem_of_getElem? (i := 62) (by decide +kernel), by decide +kernel⟩
theorem u_77 : (Cond.fieldLink R_Tow 9 "CrossesAllOld$Town" "kind" "[I" : Cond) ∈ gd_tbl := List.mem_filter.mpr ⟨List.mem_of_getElem? (i := 77) (by decide +kernel), by decide +kernel⟩
theorem u_78 : (Cond.fieldLink R_All 76 "CrossesAllOld$Town" "kind" "[I" : Cond) ∈ gd_tbl := List.mem_filter.mpr ⟨List.mem_of_getElem? (i := 78) (by decide +kernel), by decide +kernel⟩
theorem u_79 : (Cond.fieldLink R_Pla 142 "CrossesAllOld$Town" "kind" "[I" : Cond) ∈ gd_tbl := List.mem_filter.mpr ⟨List.mem_of_getElem? (i := 79) (by decide +kernel), by decide +kernel⟩
theorem u_80 : (Cond.fieldLink R_Tow 15 "CrossesAllOld$Town" "a" "[I" : Cond) ∈ gd_tbl := List.mem_filter.mpr ⟨List.mem_of_getElem? (i := 80) (by decide +kernel), by decide +kernel⟩
theorem u_81 : (Cond.fieldLink R_All 79 "CrossesAllOld$Town" "a" "[I" : Cond) ∈ gd_tbl := List.mem_filter.mpr ⟨List.mem_of_getElem? (i := 81) (by decide +kernel), by decide +kernel⟩
theorem u_82 : (Cond.fieldLink R_Pla 119 "CrossesAllOld$Town" "a" "[I" : Cond) ∈ gd_tbl := List.mem_filter.mpr ⟨List.mem_of_getElem? (i := 82) (by decide +kernel), by decide +kernel⟩
theorem u_83 : (Cond.fieldLink R_Tow 18 "CrossesAllOld$Town" "b" "[I" : Cond) ∈ gd_tbl := List.mem_filter.mpr ⟨List.mem_of_getElem? (i := 83) (by decide +kernel), by decide +kernel⟩
theorem u_84 : (Cond.fieldLink R_All 82 "CrossesAllOld$Town" "b" "[I" : Cond) ∈ gd_tbl := List.mem_filter.mpr ⟨List.mem_of_getElem? (i := 84) (by decide +kernel), by decide +kernel⟩
theorem u_85 : (Cond.fieldLink R_Pla 113 "CrossesAllOld$Town" "b" "[I" : Cond) ∈ gd_tbl := List.mem_filter.mpr ⟨List.mem_of_getElem? (i := 85) (by decide +kernel), by decide +kernel⟩
theorem u_86 : (Cond.fieldLink R_Tow 21 "CrossesAllOld$Town" "c" "[I" : Cond) ∈ gd_tbl := List.mem_filter.mpr ⟨List.mem_of_getElem? (i := 86) (by decide +kernel), by decide +kernel⟩
theorem u_87 : (Cond.fieldLink R_All 85 "CrossesAllOld$Town" "c" "[I" : Cond) ∈ gd_tbl := List.mem_filter.mpr ⟨List.mem_of_getElem? (i := 87) (by decide +kernel), by decide +kernel⟩
theorem u_88 : (Cond.fieldLink R_Pla 116 "CrossesAllOld$Town" "c" "[I" : Cond) ∈ gd_tbl := List.mem_filter.mpr ⟨List.mem_of_getElem? (i := 88) (by decide +kernel), by decide +kernel⟩
theorem u_89 : (Cond.fieldLink R_Tow 30 "CrossesAllOld$Town" "streets" "I" : Cond) ∈ gd_tbl := List.mem_filter.mpr ⟨List.mem_of_getElem? (i := 89) (by decide +kernel), by decide +kernel⟩
theorem u_90 : (Cond.fieldLink R_Pla 49 "CrossesAllOld$Town" "streets" "I" : Cond) ∈ gd_tbl := List.mem_filter.mpr ⟨List.mem_of_getElem? (i := 90) (by decide +kernel), by decide +kernel⟩
theorem u_91 : (Cond.fieldLink R_All 140 "CrossesAllOld$Town" "streets" "I" : Cond) ∈ gd_tbl := List.mem_filter.mpr ⟨List.mem_of_getElem? (i := 91) (by decide +kernel), by decide +kernel⟩
theorem u_92 : (Cond.fieldLink R_Tow 24 "CrossesAllOld$Town" "x" "[I" : Cond) ∈ gd_tbl := List.mem_filter.mpr ⟨List.mem_of_getElem? (i := 92) (by decide +kernel), by decide +kernel⟩
theorem u_93 : (Cond.fieldLink R_All 94 "CrossesAllOld$Town" "x" "[I" : Cond) ∈ gd_tbl := List.mem_filter.mpr ⟨List.mem_of_getElem? (i := 93) (by decide +kernel), by decide +kernel⟩
theorem u_94 : (Cond.fieldLink R_Pla 80 "CrossesAllOld$Town" "x" "[I" : Cond) ∈ gd_tbl := List.mem_filter.mpr ⟨List.mem_of_getElem? (i := 94) (by decide +kernel), by decide +kernel⟩
theorem u_95 : (Cond.fieldLink R_Tow 27 "CrossesAllOld$Town" "y" "[I" : Cond) ∈ gd_tbl := List.mem_filter.mpr ⟨List.mem_of_getElem? (i := 95) (by decide +kernel), by decide +kernel⟩
theorem u_96 : (Cond.fieldLink R_All 97 "CrossesAllOld$Town" "y" "[I" : Cond) ∈ gd_tbl := List.mem_filter.mpr ⟨List.mem_of_getElem? (i := 96) (by decide +kernel), by decide +kernel⟩
theorem u_97 : (Cond.fieldLink R_Pla 83 "CrossesAllOld$Town" "y" "[I" : Cond) ∈ gd_tbl := List.mem_filter.mpr ⟨List.mem_of_getElem? (i := 97) (by decide +kernel), by decide +kernel⟩
theorem u_98 : (Cond.fieldLink R_Tow 34 "CrossesAllOld$Town" "plots" "I" : Cond) ∈ gd_tbl := List.mem_filter.mpr ⟨List.mem_of_getElem? (i := 98) (by decide +kernel), by decide +kernel⟩
theorem u_99 : (Cond.fieldLink R_Pla 96 "CrossesAllOld$Town" "plots" "I" : Cond) ∈ gd_tbl := List.mem_filter.mpr ⟨List.mem_of_getElem? (i := 99) (by decide +kernel), by decide +kernel⟩
theorem u_100 : (Cond.fieldLink R_All 157 "CrossesAllOld$Town" "plots" "I" : Cond) ∈ gd_tbl := List.mem_filter.mpr ⟨List.mem_of_getElem? (i := 100) (by decide +kernel), by decide +kernel⟩
theorem u_125 : (Cond.fieldLink R_Pla 27 "CrossesAllOld$Plan" "town" "LCrossesAllOld$Town;" : Cond) ∈ gd_tbl := List.mem_filter.mpr ⟨List.mem_of_getElem? (i := 125) (by decide +kernel), by decide +kernel⟩
theorem u_126 : (Cond.fieldLink R_Pla 37 "CrossesAllOld$Plan" "quarters" "J" : Cond) ∈ gd_tbl := List.mem_filter.mpr ⟨List.mem_of_getElem? (i := 126) (by decide +kernel), by decide +kernel⟩
theorem u_127 : (Cond.fieldLink R_All 114 "CrossesAllOld$Plan" "quarters" "J" : Cond) ∈ gd_tbl := List.mem_filter.mpr ⟨List.mem_of_getElem? (i := 127) (by decide +kernel), by decide +kernel⟩
theorem u_128 : (Cond.fieldLink R_All 124 "CrossesAllOld$Plan" "openQuarters" "J" : Cond) ∈ gd_tbl := List.mem_filter.mpr ⟨List.mem_of_getElem? (i := 128) (by decide +kernel), by decide +kernel⟩
theorem u_129 : (Cond.fieldLink R_Pla 131 "CrossesAllOld$Plan" "openQuarters" "J" : Cond) ∈ gd_tbl := List.mem_filter.mpr ⟨List.mem_of_getElem? (i := 129) (by decide +kernel), by decide +kernel⟩
theorem u_130 : (Cond.fieldLink R_Pla 45 "CrossesAllOld$Plan" "points" "I" : Cond) ∈ gd_tbl := List.mem_filter.mpr ⟨List.mem_of_getElem? (i := 130) (by decide +kernel), by decide +kernel⟩
theorem u_131 : (Cond.fieldLink R_All 144 "CrossesAllOld$Plan" "points" "I" : Cond) ∈ gd_tbl := List.mem_filter.mpr ⟨List.mem_of_getElem? (i := 131) (by decide +kernel), by decide +kernel⟩
theorem u_132 : (Cond.fieldLink R_Pla 9 "CrossesAllOld$Plan" "pointX" "[I" : Cond) ∈ gd_tbl := List.mem_filter.mpr ⟨List.mem_of_getElem? (i := 132) (by decide +kernel), by decide +kernel⟩
theorem u_133 : (Cond.fieldLink R_Pla 15 "CrossesAllOld$Plan" "pointY" "[I" : Cond) ∈ gd_tbl := List.mem_filter.mpr ⟨List.mem_of_getElem? (i := 133) (by decide +kernel), by decide +kernel⟩
theorem u_134 : (Cond.fieldLink R_Pla 18 "CrossesAllOld$Plan" "pointBelow" "[I" : Cond) ∈ gd_tbl := List.mem_filter.mpr ⟨List.mem_of_getElem? (i := 134) (by decide +kernel), by decide +kernel⟩
theorem u_135 : (Cond.fieldLink R_Pla 21 "CrossesAllOld$Plan" "streetsAt" "[I" : Cond) ∈ gd_tbl := List.mem_filter.mpr ⟨List.mem_of_getElem? (i := 135) (by decide +kernel), by decide +kernel⟩
theorem u_136 : (Cond.fieldLink R_Pla 24 "CrossesAllOld$Plan" "sidesAt" "[I" : Cond) ∈ gd_tbl := List.mem_filter.mpr ⟨List.mem_of_getElem? (i := 136) (by decide +kernel), by decide +kernel⟩
theorem u_162 : (Cond.fieldLink R_Let 9 "CrossesAllOld$Letters" "told" "[I" : Cond) ∈ gd_tbl := List.mem_filter.mpr ⟨List.mem_of_getElem? (i := 162) (by decide +kernel), by decide +kernel⟩
theorem u_163 : (Cond.fieldLink R_Let 18 "CrossesAllOld$Letters" "count" "I" : Cond) ∈ gd_tbl := List.mem_filter.mpr ⟨List.mem_of_getElem? (i := 163) (by decide +kernel), by decide +kernel⟩
theorem u_164 : (Cond.fieldLink R_All 215 "CrossesAllOld$Letters" "count" "I" : Cond) ∈ gd_tbl := List.mem_filter.mpr ⟨List.mem_of_getElem? (i := 164) (by decide +kernel), by decide +kernel⟩
theorem u_165 : (Cond.fieldLink R_Let 30 "CrossesAllOld$Letters" "at" "I" : Cond) ∈ gd_tbl := List.mem_filter.mpr ⟨List.mem_of_getElem? (i := 165) (by decide +kernel), by decide +kernel⟩
theorem u_166 : (Cond.fieldLink R_Let 40 "CrossesAllOld$Letters" "kind" "I" : Cond) ∈ gd_tbl := List.mem_filter.mpr ⟨List.mem_of_getElem? (i := 166) (by decide +kernel), by decide +kernel⟩
theorem u_167 : (Cond.fieldLink R_Let 15 "CrossesAllOld$Letters" "numbers" "[I" : Cond) ∈ gd_tbl := List.mem_filter.mpr ⟨List.mem_of_getElem? (i := 167) (by decide +kernel), by decide +kernel⟩
theorem u_179 : (Cond.methodLink R_All 45 y_Pla_measure : Cond) ∈ gd_tbl := List.mem_filter.mpr ⟨List.mem_of_getElem? (i := 179) (by decide +kernel), by decide +kernel⟩
theorem u_180 : (Cond.instanceMethod y_Pla_measure : Cond) ∈ gd_tbl := List.mem_filter.mpr ⟨List.mem_of_getElem? (i := 180) (by decide +kernel), by decide +kernel⟩
theorem u_181 : (Cond.selects R_Pla y_Pla_measure y_Pla_measure : Cond) ∈ gd_tbl := List.mem_filter.mpr ⟨List.mem_of_getElem? (i := 181) (by decide +kernel), by decide +kernel⟩
theorem u_182 : (Cond.code y_Pla_measure b_Pla_measure 1 none : Cond) ∈ gd_tbl := List.mem_filter.mpr ⟨List.mem_of_getElem? (i := 182) (by decide +kernel), by decide +kernel⟩
theorem u_183 : (Cond.methodLink R_Pla 31 y_Pla_measurePoints : Cond) ∈ gd_tbl := List.mem_filter.mpr ⟨List.mem_of_getElem? (i := 183) (by decide +kernel), by decide +kernel⟩
theorem u_185 : (Cond.instanceMethod y_Pla_measurePoints : Cond) ∈ gd_tbl := List.mem_filter.mpr ⟨List.mem_of_getElem? (i := 185) (by decide +kernel), by decide +kernel⟩
theorem u_186 : (Cond.code y_Pla_measurePoints b_Pla_measurePoints 8 none : Cond) ∈ gd_tbl := List.mem_filter.mpr ⟨List.mem_of_getElem? (i := 186) (by decide +kernel), by decide +kernel⟩
theorem u_187 : (Cond.methodLink R_Pla 122 y_Tow_crossingX : Cond) ∈ gd_tbl := List.mem_filter.mpr ⟨List.mem_of_getElem? (i := 187) (by decide +kernel), by decide +kernel⟩
theorem u_188 : (Cond.instanceMethod y_Tow_crossingX : Cond) ∈ gd_tbl := List.mem_filter.mpr ⟨List.mem_of_getElem? (i := 188) (by decide +kernel), by decide +kernel⟩
theorem u_189 : (Cond.selects R_Tow y_Tow_crossingX y_Tow_crossingX : Cond) ∈ gd_tbl := List.mem_filter.mpr ⟨List.mem_of_getElem? (i := 189) (by decide +kernel), by decide +kernel⟩
theorem u_190 : (Cond.code y_Tow_crossingX b_Tow_crossingX 4 (some .int) : Cond) ∈ gd_tbl := List.mem_filter.mpr ⟨List.mem_of_getElem? (i := 190) (by decide +kernel), by decide +kernel⟩
theorem u_191 : (Cond.methodLink R_Tow 37 y_Tow_turn : Cond) ∈ gd_tbl := List.mem_filter.mpr ⟨List.mem_of_getElem? (i := 191) (by decide +kernel), by decide +kernel⟩
theorem u_192 : (Cond.instanceMethod y_Tow_turn : Cond) ∈ gd_tbl := List.mem_filter.mpr ⟨List.mem_of_getElem? (i := 192) (by decide +kernel), by decide +kernel⟩
theorem u_193 : (Cond.selects R_Tow y_Tow_turn y_Tow_turn : Cond) ∈ gd_tbl := List.mem_filter.mpr ⟨List.mem_of_getElem? (i := 193) (by decide +kernel), by decide +kernel⟩
theorem u_194 : (Cond.code y_Tow_turn b_Tow_turn 4 (some .int) : Cond) ∈ gd_tbl := List.mem_filter.mpr ⟨List.mem_of_getElem? (i := 194) (by decide +kernel), by decide +kernel⟩
theorem u_195 : (Cond.methodLink R_Pla 125 y_Tow_crossingY : Cond) ∈ gd_tbl := List.mem_filter.mpr ⟨List.mem_of_getElem? (i := 195) (by decide +kernel), by decide +kernel⟩
theorem u_196 : (Cond.instanceMethod y_Tow_crossingY : Cond) ∈ gd_tbl := List.mem_filter.mpr ⟨List.mem_of_getElem? (i := 196) (by decide +kernel), by decide +kernel⟩
theorem u_197 : (Cond.selects R_Tow y_Tow_crossingY y_Tow_crossingY : Cond) ∈ gd_tbl := List.mem_filter.mpr ⟨List.mem_of_getElem? (i := 197) (by decide +kernel), by decide +kernel⟩
theorem u_198 : (Cond.code y_Tow_crossingY b_Tow_crossingY 4 (some .int) : Cond) ∈ gd_tbl := List.mem_filter.mpr ⟨List.mem_of_getElem? (i := 198) (by decide +kernel), by decide +kernel⟩
theorem u_199 : (Cond.methodLink R_Pla 128 y_Tow_crossingBelow : Cond) ∈ gd_tbl := List.mem_filter.mpr ⟨List.mem_of_getElem? (i := 199) (by decide +kernel), by decide +kernel⟩
theorem u_200 : (Cond.instanceMethod y_Tow_crossingBelow : Cond) ∈ gd_tbl := List.mem_filter.mpr ⟨List.mem_of_getElem? (i := 200) (by decide +kernel), by decide +kernel⟩
theorem u_201 : (Cond.selects R_Tow y_Tow_crossingBelow y_Tow_crossingBelow : Cond) ∈ gd_tbl := List.mem_filter.mpr ⟨List.mem_of_getElem? (i := 201) (by decide +kernel), by decide +kernel⟩
theorem u_202 : (Cond.code y_Tow_crossingBelow b_Tow_crossingBelow 3 (some .int) : Cond) ∈ gd_tbl := List.mem_filter.mpr ⟨List.mem_of_getElem? (i := 202) (by decide +kernel), by decide +kernel⟩
theorem u_206 : (Cond.methodLink R_Pla 89 y_Pla_streetsThrough : Cond) ∈ gd_tbl := List.mem_filter.mpr ⟨List.mem_of_getElem? (i := 206) (by decide +kernel), by decide +kernel⟩
theorem u_208 : (Cond.instanceMethod y_Pla_streetsThrough : Cond) ∈ gd_tbl := List.mem_filter.mpr ⟨List.mem_of_getElem? (i := 208) (by decide +kernel), by decide +kernel⟩
theorem u_209 : (Cond.code y_Pla_streetsThrough b_Pla_streetsThrough 6 (some .int) : Cond) ∈ gd_tbl := List.mem_filter.mpr ⟨List.mem_of_getElem? (i := 209) (by decide +kernel), by decide +kernel⟩
theorem u_210 : (Cond.methodLink R_Pla 145 y_Pla_height : Cond) ∈ gd_tbl := List.mem_filter.mpr ⟨List.mem_of_getElem? (i := 210) (by decide +kernel), by decide +kernel⟩
theorem u_212 : (Cond.instanceMethod y_Pla_height : Cond) ∈ gd_tbl := List.mem_filter.mpr ⟨List.mem_of_getElem? (i := 212) (by decide +kernel), by decide +kernel⟩
theorem u_213 : (Cond.code y_Pla_height b_Pla_height 5 (some .int) : Cond) ∈ gd_tbl := List.mem_filter.mpr ⟨List.mem_of_getElem? (i := 213) (by decide +kernel), by decide +kernel⟩
theorem u_214 : (Cond.methodLink R_Pla 93 y_Pla_sidesOfPoint : Cond) ∈ gd_tbl := List.mem_filter.mpr ⟨List.mem_of_getElem? (i := 214) (by decide +kernel), by decide +kernel⟩
theorem u_216 : (Cond.instanceMethod y_Pla_sidesOfPoint : Cond) ∈ gd_tbl := List.mem_filter.mpr ⟨List.mem_of_getElem? (i := 216) (by decide +kernel), by decide +kernel⟩
theorem u_217 : (Cond.code y_Pla_sidesOfPoint b_Pla_sidesOfPoint 6 (some .int) : Cond) ∈ gd_tbl := List.mem_filter.mpr ⟨List.mem_of_getElem? (i := 217) (by decide +kernel), by decide +kernel⟩
theorem u_218 : (Cond.methodLink R_Pla 34 y_Pla_measureQuarters : Cond) ∈ gd_tbl := List.mem_filter.mpr ⟨List.mem_of_getElem? (i := 218) (by decide +kernel), by decide +kernel⟩
theorem u_220 : (Cond.instanceMethod y_Pla_measureQuarters : Cond) ∈ gd_tbl := List.mem_filter.mpr ⟨List.mem_of_getElem? (i := 220) (by decide +kernel), by decide +kernel⟩
theorem u_221 : (Cond.code y_Pla_measureQuarters b_Pla_measureQuarters 6 none : Cond) ∈ gd_tbl := List.mem_filter.mpr ⟨List.mem_of_getElem? (i := 221) (by decide +kernel), by decide +kernel⟩
theorem u_222 : (Cond.methodLink R_Pla 107 y_Pla_sidesFar : Cond) ∈ gd_tbl := List.mem_filter.mpr ⟨List.mem_of_getElem? (i := 222) (by decide +kernel), by decide +kernel⟩
theorem u_224 : (Cond.instanceMethod y_Pla_sidesFar : Cond) ∈ gd_tbl := List.mem_filter.mpr ⟨List.mem_of_getElem? (i := 224) (by decide +kernel), by decide +kernel⟩
theorem u_225 : (Cond.code y_Pla_sidesFar b_Pla_sidesFar 6 (some .int) : Cond) ∈ gd_tbl := List.mem_filter.mpr ⟨List.mem_of_getElem? (i := 225) (by decide +kernel), by decide +kernel⟩
theorem u_226 : (Cond.methodLink R_Pla 110 y_Tow_turn : Cond) ∈ gd_tbl := List.mem_filter.mpr ⟨List.mem_of_getElem? (i := 226) (by decide +kernel), by decide +kernel⟩
theorem u_227 : (Cond.methodLink R_Pla 134 y_Pla_cutBy : Cond) ∈ gd_tbl := List.mem_filter.mpr ⟨List.mem_of_getElem? (i := 227) (by decide +kernel), by decide +kernel⟩
theorem u_228 : (Cond.instanceMethod y_Pla_cutBy : Cond) ∈ gd_tbl := List.mem_filter.mpr ⟨List.mem_of_getElem? (i := 228) (by decide +kernel), by decide +kernel⟩
theorem u_229 : (Cond.selects R_Pla y_Pla_cutBy y_Pla_cutBy : Cond) ∈ gd_tbl := List.mem_filter.mpr ⟨List.mem_of_getElem? (i := 229) (by decide +kernel), by decide +kernel⟩
theorem u_230 : (Cond.code y_Pla_cutBy b_Pla_cutBy 13 (some .long) : Cond) ∈ gd_tbl := List.mem_filter.mpr ⟨List.mem_of_getElem? (i := 230) (by decide +kernel), by decide +kernel⟩
theorem u_231 : (Cond.methodLink R_Pla 138 y_Pla_onBothSides : Cond) ∈ gd_tbl := List.mem_filter.mpr ⟨List.mem_of_getElem? (i := 231) (by decide +kernel), by decide +kernel⟩
theorem u_232 : (Cond.static y_Pla_onBothSides : Cond) ∈ gd_tbl := List.mem_filter.mpr ⟨List.mem_of_getElem? (i := 232) (by decide +kernel), by decide +kernel⟩
theorem u_233 : (Cond.code y_Pla_onBothSides b_Pla_onBothSides 3 (some .long) : Cond) ∈ gd_tbl := List.mem_filter.mpr ⟨List.mem_of_getElem? (i := 233) (by decide +kernel), by decide +kernel⟩
theorem u_234 : (Cond.fieldLink R_All 10 "CrossesAllOld" "now" "LCrossesAllOld$Town;" : Cond) ∈ gd_tbl := List.mem_filter.mpr ⟨List.mem_of_getElem? (i := 234) (by decide +kernel), by decide +kernel⟩
theorem u_235 : (Cond.fieldLink R_All 16 "CrossesAllOld" "draft" "LCrossesAllOld$Town;" : Cond) ∈ gd_tbl := List.mem_filter.mpr ⟨List.mem_of_getElem? (i := 235) (by decide +kernel), by decide +kernel⟩
theorem u_236 : (Cond.fieldLink R_All 19 "CrossesAllOld" "image" "LCrossesAllOld$Town;" : Cond) ∈ gd_tbl := List.mem_filter.mpr ⟨List.mem_of_getElem? (i := 236) (by decide +kernel), by decide +kernel⟩
theorem u_237 : (Cond.fieldLink R_All 211 "CrossesAllOld" "imageTaken" "Z" : Cond) ∈ gd_tbl := List.mem_filter.mpr ⟨List.mem_of_getElem? (i := 237) (by decide +kernel), by decide +kernel⟩
theorem u_238 : (Cond.fieldLink R_All 27 "CrossesAllOld" "plan" "LCrossesAllOld$Plan;" : Cond) ∈ gd_tbl := List.mem_filter.mpr ⟨List.mem_of_getElem? (i := 238) (by decide +kernel), by decide +kernel⟩
theorem u_239 : (Cond.fieldLink R_All 34 "CrossesAllOld" "letters" "LCrossesAllOld$Letters;" : Cond) ∈ gd_tbl := List.mem_filter.mpr ⟨List.mem_of_getElem? (i := 239) (by decide +kernel), by decide +kernel⟩
theorem u_240 : (Cond.fieldLink R_All 38 "CrossesAllOld" "row" "[I" : Cond) ∈ gd_tbl := List.mem_filter.mpr ⟨List.mem_of_getElem? (i := 240) (by decide +kernel), by decide +kernel⟩
theorem u_241 : (Cond.fieldLink R_All 199 "CrossesAllOld" "rowLength" "I" : Cond) ∈ gd_tbl := List.mem_filter.mpr ⟨List.mem_of_getElem? (i := 241) (by decide +kernel), by decide +kernel⟩
theorem u_242 : (Cond.fieldLink R_All 42 "CrossesAllOld" "refusals" "[I" : Cond) ∈ gd_tbl := List.mem_filter.mpr ⟨List.mem_of_getElem? (i := 242) (by decide +kernel), by decide +kernel⟩
theorem u_263 : (Cond.instanceMethod y_All_letter : Cond) ∈ gd_tbl := List.mem_filter.mpr ⟨List.mem_of_getElem? (i := 263) (by decide +kernel), by decide +kernel⟩
theorem u_264 : (Cond.selects R_All y_All_letter y_All_letter : Cond) ∈ gd_tbl := List.mem_filter.mpr ⟨List.mem_of_getElem? (i := 264) (by decide +kernel), by decide +kernel⟩
theorem u_265 : (Cond.code y_All_letter b_All_letter 2 (some .int) : Cond) ∈ gd_tbl := List.mem_filter.mpr ⟨List.mem_of_getElem? (i := 265) (by decide +kernel), by decide +kernel⟩
theorem u_266 : (Cond.methodLink R_All 48 y_All_refuse : Cond) ∈ gd_tbl := List.mem_filter.mpr ⟨List.mem_of_getElem? (i := 266) (by decide +kernel), by decide +kernel⟩
theorem u_268 : (Cond.instanceMethod y_All_refuse : Cond) ∈ gd_tbl := List.mem_filter.mpr ⟨List.mem_of_getElem? (i := 268) (by decide +kernel), by decide +kernel⟩
theorem u_269 : (Cond.code y_All_refuse b_All_refuse 3 (some .int) : Cond) ∈ gd_tbl := List.mem_filter.mpr ⟨List.mem_of_getElem? (i := 269) (by decide +kernel), by decide +kernel⟩
theorem u_270 : (Cond.methodLink R_All 52 y_Let_isFull : Cond) ∈ gd_tbl := List.mem_filter.mpr ⟨List.mem_of_getElem? (i := 270) (by decide +kernel), by decide +kernel⟩
theorem u_271 : (Cond.instanceMethod y_Let_isFull : Cond) ∈ gd_tbl := List.mem_filter.mpr ⟨List.mem_of_getElem? (i := 271) (by decide +kernel), by decide +kernel⟩
theorem u_272 : (Cond.selects R_Let y_Let_isFull y_Let_isFull : Cond) ∈ gd_tbl := List.mem_filter.mpr ⟨List.mem_of_getElem? (i := 272) (by decide +kernel), by decide +kernel⟩
theorem u_273 : (Cond.code y_Let_isFull b_Let_isFull 1 (some .boolean) : Cond) ∈ gd_tbl := List.mem_filter.mpr ⟨List.mem_of_getElem? (i := 273) (by decide +kernel), by decide +kernel⟩
theorem u_274 : (Cond.methodLink R_All 56 y_Let_put : Cond) ∈ gd_tbl := List.mem_filter.mpr ⟨List.mem_of_getElem? (i := 274) (by decide +kernel), by decide +kernel⟩
theorem u_275 : (Cond.instanceMethod y_Let_put : Cond) ∈ gd_tbl := List.mem_filter.mpr ⟨List.mem_of_getElem? (i := 275) (by decide +kernel), by decide +kernel⟩
theorem u_276 : (Cond.selects R_Let y_Let_put y_Let_put : Cond) ∈ gd_tbl := List.mem_filter.mpr ⟨List.mem_of_getElem? (i := 276) (by decide +kernel), by decide +kernel⟩
theorem u_277 : (Cond.code y_Let_put b_Let_put 2 (some .int) : Cond) ∈ gd_tbl := List.mem_filter.mpr ⟨List.mem_of_getElem? (i := 277) (by decide +kernel), by decide +kernel⟩
theorem u_278 : (Cond.methodLink R_Let 22 y_Let_isFull : Cond) ∈ gd_tbl := List.mem_filter.mpr ⟨List.mem_of_getElem? (i := 278) (by decide +kernel), by decide +kernel⟩
theorem u_280 : (Cond.instanceMethod y_All_town : Cond) ∈ gd_tbl := List.mem_filter.mpr ⟨List.mem_of_getElem? (i := 280) (by decide +kernel), by decide +kernel⟩
theorem u_281 : (Cond.selects R_All y_All_town y_All_town : Cond) ∈ gd_tbl := List.mem_filter.mpr ⟨List.mem_of_getElem? (i := 281) (by decide +kernel), by decide +kernel⟩
theorem u_282 : (Cond.code y_All_town b_All_town 2 (some .int) : Cond) ∈ gd_tbl := List.mem_filter.mpr ⟨List.mem_of_getElem? (i := 282) (by decide +kernel), by decide +kernel⟩
theorem u_283 : (Cond.methodLink R_All 59 y_Tow_copyFrom : Cond) ∈ gd_tbl := List.mem_filter.mpr ⟨List.mem_of_getElem? (i := 283) (by decide +kernel), by decide +kernel⟩
theorem u_284 : (Cond.instanceMethod y_Tow_copyFrom : Cond) ∈ gd_tbl := List.mem_filter.mpr ⟨List.mem_of_getElem? (i := 284) (by decide +kernel), by decide +kernel⟩
theorem u_285 : (Cond.selects R_Tow y_Tow_copyFrom y_Tow_copyFrom : Cond) ∈ gd_tbl := List.mem_filter.mpr ⟨List.mem_of_getElem? (i := 285) (by decide +kernel), by decide +kernel⟩
theorem u_286 : (Cond.code y_Tow_copyFrom b_Tow_copyFrom 2 none : Cond) ∈ gd_tbl := List.mem_filter.mpr ⟨List.mem_of_getElem? (i := 286) (by decide +kernel), by decide +kernel⟩
theorem u_290 : (Cond.methodLink R_All 62 y_Let_readInto : Cond) ∈ gd_tbl := List.mem_filter.mpr ⟨List.mem_of_getElem? (i := 290) (by decide +kernel), by decide +kernel⟩
theorem u_291 : (Cond.instanceMethod y_Let_readInto : Cond) ∈ gd_tbl := List.mem_filter.mpr ⟨List.mem_of_getElem? (i := 291) (by decide +kernel), by decide +kernel⟩
theorem u_292 : (Cond.selects R_Let y_Let_readInto y_Let_readInto : Cond) ∈ gd_tbl := List.mem_filter.mpr ⟨List.mem_of_getElem? (i := 292) (by decide +kernel), by decide +kernel⟩
theorem u_293 : (Cond.code y_Let_readInto b_Let_readInto 5 (some .int) : Cond) ∈ gd_tbl := List.mem_filter.mpr ⟨List.mem_of_getElem? (i := 293) (by decide +kernel), by decide +kernel⟩
theorem u_294 : (Cond.methodLink R_Let 26 y_Let_readAll : Cond) ∈ gd_tbl := List.mem_filter.mpr ⟨List.mem_of_getElem? (i := 294) (by decide +kernel), by decide +kernel⟩
theorem u_296 : (Cond.instanceMethod y_Let_readAll : Cond) ∈ gd_tbl := List.mem_filter.mpr ⟨List.mem_of_getElem? (i := 296) (by decide +kernel), by decide +kernel⟩
theorem u_297 : (Cond.code y_Let_readAll b_Let_readAll 2 (some .int) : Cond) ∈ gd_tbl := List.mem_filter.mpr ⟨List.mem_of_getElem? (i := 297) (by decide +kernel), by decide +kernel⟩
theorem u_298 : (Cond.methodLink R_Let 33 y_Let_readStatement : Cond) ∈ gd_tbl := List.mem_filter.mpr ⟨List.mem_of_getElem? (i := 298) (by decide +kernel), by decide +kernel⟩
theorem u_300 : (Cond.instanceMethod y_Let_readStatement : Cond) ∈ gd_tbl := List.mem_filter.mpr ⟨List.mem_of_getElem? (i := 300) (by decide +kernel), by decide +kernel⟩
theorem u_301 : (Cond.code y_Let_readStatement b_Let_readStatement 1 (some .boolean) : Cond) ∈ gd_tbl := List.mem_filter.mpr ⟨List.mem_of_getElem? (i := 301) (by decide +kernel), by decide +kernel⟩
theorem u_302 : (Cond.methodLink R_Let 53 y_Let_takes : Cond) ∈ gd_tbl := List.mem_filter.mpr ⟨List.mem_of_getElem? (i := 302) (by decide +kernel), by decide +kernel⟩
theorem u_304 : (Cond.instanceMethod y_Let_takes : Cond) ∈ gd_tbl := List.mem_filter.mpr ⟨List.mem_of_getElem? (i := 304) (by decide +kernel), by decide +kernel⟩
theorem u_305 : (Cond.code y_Let_takes b_Let_takes 3 (some .boolean) : Cond) ∈ gd_tbl := List.mem_filter.mpr ⟨List.mem_of_getElem? (i := 305) (by decide +kernel), by decide +kernel⟩
theorem u_306 : (Cond.methodLink R_Let 57 y_Let_readKind : Cond) ∈ gd_tbl := List.mem_filter.mpr ⟨List.mem_of_getElem? (i := 306) (by decide +kernel), by decide +kernel⟩
theorem u_308 : (Cond.instanceMethod y_Let_readKind : Cond) ∈ gd_tbl := List.mem_filter.mpr ⟨List.mem_of_getElem? (i := 308) (by decide +kernel), by decide +kernel⟩
theorem u_309 : (Cond.code y_Let_readKind b_Let_readKind 1 (some .boolean) : Cond) ∈ gd_tbl := List.mem_filter.mpr ⟨List.mem_of_getElem? (i := 309) (by decide +kernel), by decide +kernel⟩
theorem u_311 : (Cond.methodLink R_Let 65 y_Str_indexOf1 : Cond) ∈ gd_tbl := List.mem_filter.mpr ⟨List.mem_of_getElem? (i := 311) (by decide +kernel), by decide +kernel⟩
theorem u_312 : (Cond.instanceMethod y_Str_indexOf1 : Cond) ∈ gd_tbl := List.mem_filter.mpr ⟨List.mem_of_getElem? (i := 312) (by decide +kernel), by decide +kernel⟩
theorem u_313 : (Cond.selects R_Str y_Str_indexOf1 y_Str_indexOf1 : Cond) ∈ gd_tbl := List.mem_filter.mpr ⟨List.mem_of_getElem? (i := 313) (by decide +kernel), by decide +kernel⟩
theorem u_314 : (Cond.code y_Str_indexOf1 b_Str_indexOf1 2 (some .int) : Cond) ∈ gd_tbl := List.mem_filter.mpr ⟨List.mem_of_getElem? (i := 314) (by decide +kernel), by decide +kernel⟩
theorem u_315 : (Cond.methodLink R_Str 633 y_Str_indexOf2 : Cond) ∈ gd_tbl := List.mem_filter.mpr ⟨List.mem_of_getElem? (i := 315) (by decide +kernel), by decide +kernel⟩
theorem u_316 : (Cond.instanceMethod y_Str_indexOf2 : Cond) ∈ gd_tbl := List.mem_filter.mpr ⟨List.mem_of_getElem? (i := 316) (by decide +kernel), by decide +kernel⟩
theorem u_317 : (Cond.selects R_Str y_Str_indexOf2 y_Str_indexOf2 : Cond) ∈ gd_tbl := List.mem_filter.mpr ⟨List.mem_of_getElem? (i := 317) (by decide +kernel), by decide +kernel⟩
theorem u_318 : (Cond.code y_Str_indexOf2 b_Str_indexOf2 3 (some .int) : Cond) ∈ gd_tbl := List.mem_filter.mpr ⟨List.mem_of_getElem? (i := 318) (by decide +kernel), by decide +kernel⟩
theorem u_319 : (Cond.methodLink R_Str 492 y_Str_isLatin1 : Cond) ∈ gd_tbl := List.mem_filter.mpr ⟨List.mem_of_getElem? (i := 319) (by decide +kernel), by decide +kernel⟩
theorem u_320 : (Cond.instanceMethod y_Str_isLatin1 : Cond) ∈ gd_tbl := List.mem_filter.mpr ⟨List.mem_of_getElem? (i := 320) (by decide +kernel), by decide +kernel⟩
theorem u_321 : (Cond.selects R_Str y_Str_isLatin1 y_Str_isLatin1 : Cond) ∈ gd_tbl := List.mem_filter.mpr ⟨List.mem_of_getElem? (i := 321) (by decide +kernel), by decide +kernel⟩
theorem u_322 : (Cond.code y_Str_isLatin1 b_Str_isLatin1 1 (some .boolean) : Cond) ∈ gd_tbl := List.mem_filter.mpr ⟨List.mem_of_getElem? (i := 322) (by decide +kernel), by decide +kernel⟩
theorem u_323 : (Cond.fieldLink R_Str 38 "java/lang/String" "COMPACT_STRINGS" "Z" : Cond) ∈ gd_tbl := List.mem_filter.mpr ⟨List.mem_of_getElem? (i := 323) (by decide +kernel), by decide +kernel⟩
theorem u_325 : (Cond.methodLink R_Str 505 y_Str_length : Cond) ∈ gd_tbl := List.mem_filter.mpr ⟨List.mem_of_getElem? (i := 325) (by decide +kernel), by decide +kernel⟩
theorem u_326 : (Cond.instanceMethod y_Str_length : Cond) ∈ gd_tbl := List.mem_filter.mpr ⟨List.mem_of_getElem? (i := 326) (by decide +kernel), by decide +kernel⟩
theorem u_327 : (Cond.selects R_Str y_Str_length y_Str_length : Cond) ∈ gd_tbl := List.mem_filter.mpr ⟨List.mem_of_getElem? (i := 327) (by decide +kernel), by decide +kernel⟩
theorem u_328 : (Cond.code y_Str_length b_Str_length 1 (some .int) : Cond) ∈ gd_tbl := List.mem_filter.mpr ⟨List.mem_of_getElem? (i := 328) (by decide +kernel), by decide +kernel⟩
theorem u_329 : (Cond.methodLink R_Str 335 y_Str_coder : Cond) ∈ gd_tbl := List.mem_filter.mpr ⟨List.mem_of_getElem? (i := 329) (by decide +kernel), by decide +kernel⟩
theorem u_330 : (Cond.instanceMethod y_Str_coder : Cond) ∈ gd_tbl := List.mem_filter.mpr ⟨List.mem_of_getElem? (i := 330) (by decide +kernel), by decide +kernel⟩
theorem u_331 : (Cond.selects R_Str y_Str_coder y_Str_coder : Cond) ∈ gd_tbl := List.mem_filter.mpr ⟨List.mem_of_getElem? (i := 331) (by decide +kernel), by decide +kernel⟩
theorem u_332 : (Cond.code y_Str_coder b_Str_coder 1 (some .byte) : Cond) ∈ gd_tbl := List.mem_filter.mpr ⟨List.mem_of_getElem? (i := 332) (by decide +kernel), by decide +kernel⟩
theorem u_333 : (Cond.methodLink R_Str 637 y_Lat_indexOf : Cond) ∈ gd_tbl := List.mem_filter.mpr ⟨List.mem_of_getElem? (i := 333) (by decide +kernel), by decide +kernel⟩
theorem u_334 : (Cond.static y_Lat_indexOf : Cond) ∈ gd_tbl := List.mem_filter.mpr ⟨List.mem_of_getElem? (i := 334) (by decide +kernel), by decide +kernel⟩
theorem u_335 : (Cond.code y_Lat_indexOf b_Lat_indexOf 4 (some .int) : Cond) ∈ gd_tbl := List.mem_filter.mpr ⟨List.mem_of_getElem? (i := 335) (by decide +kernel), by decide +kernel⟩
theorem u_336 : (Cond.methodLink R_Lat 88 y_Lat_canEncode : Cond) ∈ gd_tbl := List.mem_filter.mpr ⟨List.mem_of_getElem? (i := 336) (by decide +kernel), by decide +kernel⟩
theorem u_337 : (Cond.static y_Lat_canEncode : Cond) ∈ gd_tbl := List.mem_filter.mpr ⟨List.mem_of_getElem? (i := 337) (by decide +kernel), by decide +kernel⟩
theorem u_338 : (Cond.code y_Lat_canEncode b_Lat_canEncode 1 (some .boolean) : Cond) ∈ gd_tbl := List.mem_filter.mpr ⟨List.mem_of_getElem? (i := 338) (by decide +kernel), by decide +kernel⟩
theorem u_345 : (Cond.methodLink R_Lat 95 y_Lat_indexOfChar : Cond) ∈ gd_tbl := List.mem_filter.mpr ⟨List.mem_of_getElem? (i := 345) (by decide +kernel), by decide +kernel⟩
theorem u_346 : (Cond.static y_Lat_indexOfChar : Cond) ∈ gd_tbl := List.mem_filter.mpr ⟨List.mem_of_getElem? (i := 346) (by decide +kernel), by decide +kernel⟩
theorem u_347 : (Cond.code y_Lat_indexOfChar b_Lat_indexOfChar 6 (some .int) : Cond) ∈ gd_tbl := List.mem_filter.mpr ⟨List.mem_of_getElem? (i := 347) (by decide +kernel), by decide +kernel⟩
theorem u_397 : (Cond.methodLink R_Let 60 y_Let_readNumber : Cond) ∈ gd_tbl := List.mem_filter.mpr ⟨List.mem_of_getElem? (i := 397) (by decide +kernel), by decide +kernel⟩
theorem u_399 : (Cond.instanceMethod y_Let_readNumber : Cond) ∈ gd_tbl := List.mem_filter.mpr ⟨List.mem_of_getElem? (i := 399) (by decide +kernel), by decide +kernel⟩
theorem u_400 : (Cond.code y_Let_readNumber b_Let_readNumber 6 (some .boolean) : Cond) ∈ gd_tbl := List.mem_filter.mpr ⟨List.mem_of_getElem? (i := 400) (by decide +kernel), by decide +kernel⟩
theorem u_401 : (Cond.methodLink R_Let 71 y_Let_isDigit : Cond) ∈ gd_tbl := List.mem_filter.mpr ⟨List.mem_of_getElem? (i := 401) (by decide +kernel), by decide +kernel⟩
theorem u_403 : (Cond.instanceMethod y_Let_isDigit : Cond) ∈ gd_tbl := List.mem_filter.mpr ⟨List.mem_of_getElem? (i := 403) (by decide +kernel), by decide +kernel⟩
theorem u_404 : (Cond.code y_Let_isDigit b_Let_isDigit 1 (some .boolean) : Cond) ∈ gd_tbl := List.mem_filter.mpr ⟨List.mem_of_getElem? (i := 404) (by decide +kernel), by decide +kernel⟩
theorem u_405 : (Cond.methodLink R_Let 36 y_Let_putStatement : Cond) ∈ gd_tbl := List.mem_filter.mpr ⟨List.mem_of_getElem? (i := 405) (by decide +kernel), by decide +kernel⟩
theorem u_407 : (Cond.instanceMethod y_Let_putStatement : Cond) ∈ gd_tbl := List.mem_filter.mpr ⟨List.mem_of_getElem? (i := 407) (by decide +kernel), by decide +kernel⟩
theorem u_408 : (Cond.code y_Let_putStatement b_Let_putStatement 2 (some .boolean) : Cond) ∈ gd_tbl := List.mem_filter.mpr ⟨List.mem_of_getElem? (i := 408) (by decide +kernel), by decide +kernel⟩
theorem u_409 : (Cond.methodLink R_Let 43 y_Tow_putPlot : Cond) ∈ gd_tbl := List.mem_filter.mpr ⟨List.mem_of_getElem? (i := 409) (by decide +kernel), by decide +kernel⟩
theorem u_410 : (Cond.instanceMethod y_Tow_putPlot : Cond) ∈ gd_tbl := List.mem_filter.mpr ⟨List.mem_of_getElem? (i := 410) (by decide +kernel), by decide +kernel⟩
theorem u_411 : (Cond.selects R_Tow y_Tow_putPlot y_Tow_putPlot : Cond) ∈ gd_tbl := List.mem_filter.mpr ⟨List.mem_of_getElem? (i := 411) (by decide +kernel), by decide +kernel⟩
theorem u_412 : (Cond.code y_Tow_putPlot b_Tow_putPlot 4 (some .boolean) : Cond) ∈ gd_tbl := List.mem_filter.mpr ⟨List.mem_of_getElem? (i := 412) (by decide +kernel), by decide +kernel⟩
theorem u_413 : (Cond.methodLink R_Let 49 y_Tow_putStreet : Cond) ∈ gd_tbl := List.mem_filter.mpr ⟨List.mem_of_getElem? (i := 413) (by decide +kernel), by decide +kernel⟩
theorem u_414 : (Cond.instanceMethod y_Tow_putStreet : Cond) ∈ gd_tbl := List.mem_filter.mpr ⟨List.mem_of_getElem? (i := 414) (by decide +kernel), by decide +kernel⟩
theorem u_415 : (Cond.selects R_Tow y_Tow_putStreet y_Tow_putStreet : Cond) ∈ gd_tbl := List.mem_filter.mpr ⟨List.mem_of_getElem? (i := 415) (by decide +kernel), by decide +kernel⟩
theorem u_416 : (Cond.code y_Tow_putStreet b_Tow_putStreet 6 (some .boolean) : Cond) ∈ gd_tbl := List.mem_filter.mpr ⟨List.mem_of_getElem? (i := 416) (by decide +kernel), by decide +kernel⟩
theorem u_417 : (Cond.methodLink R_Tow 41 y_Tow_hasDirection : Cond) ∈ gd_tbl := List.mem_filter.mpr ⟨List.mem_of_getElem? (i := 417) (by decide +kernel), by decide +kernel⟩
theorem u_418 : (Cond.instanceMethod y_Tow_hasDirection : Cond) ∈ gd_tbl := List.mem_filter.mpr ⟨List.mem_of_getElem? (i := 418) (by decide +kernel), by decide +kernel⟩
theorem u_419 : (Cond.selects R_Tow y_Tow_hasDirection y_Tow_hasDirection : Cond) ∈ gd_tbl := List.mem_filter.mpr ⟨List.mem_of_getElem? (i := 419) (by decide +kernel), by decide +kernel⟩
theorem u_420 : (Cond.code y_Tow_hasDirection b_Tow_hasDirection 4 (some .boolean) : Cond) ∈ gd_tbl := List.mem_filter.mpr ⟨List.mem_of_getElem? (i := 420) (by decide +kernel), by decide +kernel⟩
theorem u_421 : (Cond.methodLink R_All 66 y_Let_clear : Cond) ∈ gd_tbl := List.mem_filter.mpr ⟨List.mem_of_getElem? (i := 421) (by decide +kernel), by decide +kernel⟩
theorem u_422 : (Cond.instanceMethod y_Let_clear : Cond) ∈ gd_tbl := List.mem_filter.mpr ⟨List.mem_of_getElem? (i := 422) (by decide +kernel), by decide +kernel⟩
theorem u_423 : (Cond.selects R_Let y_Let_clear y_Let_clear : Cond) ∈ gd_tbl := List.mem_filter.mpr ⟨List.mem_of_getElem? (i := 423) (by decide +kernel), by decide +kernel⟩
theorem u_424 : (Cond.code y_Let_clear b_Let_clear 1 none : Cond) ∈ gd_tbl := List.mem_filter.mpr ⟨List.mem_of_getElem? (i := 424) (by decide +kernel), by decide +kernel⟩
theorem u_427 : (Cond.instanceMethod y_All_street : Cond) ∈ gd_tbl := List.mem_filter.mpr ⟨List.mem_of_getElem? (i := 427) (by decide +kernel), by decide +kernel⟩
theorem u_428 : (Cond.selects R_All y_All_street y_All_street : Cond) ∈ gd_tbl := List.mem_filter.mpr ⟨List.mem_of_getElem? (i := 428) (by decide +kernel), by decide +kernel⟩
theorem u_429 : (Cond.code y_All_street b_All_street 3 (some .int) : Cond) ∈ gd_tbl := List.mem_filter.mpr ⟨List.mem_of_getElem? (i := 429) (by decide +kernel), by decide +kernel⟩
theorem u_430 : (Cond.methodLink R_All 69 y_Tow_hasStreet : Cond) ∈ gd_tbl := List.mem_filter.mpr ⟨List.mem_of_getElem? (i := 430) (by decide +kernel), by decide +kernel⟩
theorem u_431 : (Cond.instanceMethod y_Tow_hasStreet : Cond) ∈ gd_tbl := List.mem_filter.mpr ⟨List.mem_of_getElem? (i := 431) (by decide +kernel), by decide +kernel⟩
theorem u_432 : (Cond.selects R_Tow y_Tow_hasStreet y_Tow_hasStreet : Cond) ∈ gd_tbl := List.mem_filter.mpr ⟨List.mem_of_getElem? (i := 432) (by decide +kernel), by decide +kernel⟩
theorem u_433 : (Cond.code y_Tow_hasStreet b_Tow_hasStreet 2 (some .boolean) : Cond) ∈ gd_tbl := List.mem_filter.mpr ⟨List.mem_of_getElem? (i := 433) (by decide +kernel), by decide +kernel⟩
theorem u_434 : (Cond.methodLink R_All 73 y_All_refuseFar : Cond) ∈ gd_tbl := List.mem_filter.mpr ⟨List.mem_of_getElem? (i := 434) (by decide +kernel), by decide +kernel⟩
theorem u_436 : (Cond.instanceMethod y_All_refuseFar : Cond) ∈ gd_tbl := List.mem_filter.mpr ⟨List.mem_of_getElem? (i := 436) (by decide +kernel), by decide +kernel⟩
theorem u_437 : (Cond.code y_All_refuseFar b_All_refuseFar 2 (some .int) : Cond) ∈ gd_tbl := List.mem_filter.mpr ⟨List.mem_of_getElem? (i := 437) (by decide +kernel), by decide +kernel⟩
theorem u_438 : (Cond.constant R_All 218 (1000000000) : Cond) ∈ gd_tbl := List.mem_filter.mpr ⟨List.mem_of_getElem? (i := 438) (by decide +kernel), by decide +kernel⟩
theorem u_439 : (Cond.methodLink R_All 88 y_Pla_lampsFrom : Cond) ∈ gd_tbl := List.mem_filter.mpr ⟨List.mem_of_getElem? (i := 439) (by decide +kernel), by decide +kernel⟩
theorem u_440 : (Cond.instanceMethod y_Pla_lampsFrom : Cond) ∈ gd_tbl := List.mem_filter.mpr ⟨List.mem_of_getElem? (i := 440) (by decide +kernel), by decide +kernel⟩
theorem u_441 : (Cond.selects R_Pla y_Pla_lampsFrom y_Pla_lampsFrom : Cond) ∈ gd_tbl := List.mem_filter.mpr ⟨List.mem_of_getElem? (i := 441) (by decide +kernel), by decide +kernel⟩
theorem u_442 : (Cond.code y_Pla_lampsFrom b_Pla_lampsFrom 4 (some .int) : Cond) ∈ gd_tbl := List.mem_filter.mpr ⟨List.mem_of_getElem? (i := 442) (by decide +kernel), by decide +kernel⟩
theorem u_443 : (Cond.methodLink R_Pla 58 y_Pla_isSquare : Cond) ∈ gd_tbl := List.mem_filter.mpr ⟨List.mem_of_getElem? (i := 443) (by decide +kernel), by decide +kernel⟩
theorem u_445 : (Cond.instanceMethod y_Pla_isSquare : Cond) ∈ gd_tbl := List.mem_filter.mpr ⟨List.mem_of_getElem? (i := 445) (by decide +kernel), by decide +kernel⟩
theorem u_446 : (Cond.code y_Pla_isSquare b_Pla_isSquare 2 (some .boolean) : Cond) ∈ gd_tbl := List.mem_filter.mpr ⟨List.mem_of_getElem? (i := 446) (by decide +kernel), by decide +kernel⟩
theorem u_447 : (Cond.methodLink R_Pla 61 y_Int_bitCount : Cond) ∈ gd_tbl := List.mem_filter.mpr ⟨List.mem_of_getElem? (i := 447) (by decide +kernel), by decide +kernel⟩
theorem u_448 : (Cond.static y_Int_bitCount : Cond) ∈ gd_tbl := List.mem_filter.mpr ⟨List.mem_of_getElem? (i := 448) (by decide +kernel), by decide +kernel⟩
theorem u_449 : (Cond.code y_Int_bitCount b_Int_bitCount 1 (some .int) : Cond) ∈ gd_tbl := List.mem_filter.mpr ⟨List.mem_of_getElem? (i := 449) (by decide +kernel), by decide +kernel⟩
theorem u_450 : (Cond.constant R_Int 265 (1431655765) : Cond) ∈ gd_tbl := List.mem_filter.mpr ⟨List.mem_of_getElem? (i := 450) (by decide +kernel), by decide +kernel⟩
theorem u_451 : (Cond.constant R_Int 266 (858993459) : Cond) ∈ gd_tbl := List.mem_filter.mpr ⟨List.mem_of_getElem? (i := 451) (by decide +kernel), by decide +kernel⟩
theorem u_452 : (Cond.constant R_Int 267 (252645135) : Cond) ∈ gd_tbl := List.mem_filter.mpr ⟨List.mem_of_getElem? (i := 452) (by decide +kernel), by decide +kernel⟩
theorem u_453 : (Cond.methodLink R_Pla 73 y_Pla_lampsAt : Cond) ∈ gd_tbl := List.mem_filter.mpr ⟨List.mem_of_getElem? (i := 453) (by decide +kernel), by decide +kernel⟩
theorem u_455 : (Cond.instanceMethod y_Pla_lampsAt : Cond) ∈ gd_tbl := List.mem_filter.mpr ⟨List.mem_of_getElem? (i := 455) (by decide +kernel), by decide +kernel⟩
theorem u_456 : (Cond.code y_Pla_lampsAt b_Pla_lampsAt 6 (some .int) : Cond) ∈ gd_tbl := List.mem_filter.mpr ⟨List.mem_of_getElem? (i := 456) (by decide +kernel), by decide +kernel⟩
theorem u_458 : (Cond.instanceMethod y_All_plot : Cond) ∈ gd_tbl := List.mem_filter.mpr ⟨List.mem_of_getElem? (i := 458) (by decide +kernel), by decide +kernel⟩
theorem u_459 : (Cond.selects R_All y_All_plot y_All_plot : Cond) ∈ gd_tbl := List.mem_filter.mpr ⟨List.mem_of_getElem? (i := 459) (by decide +kernel), by decide +kernel⟩
theorem u_460 : (Cond.code y_All_plot b_All_plot 3 (some .int) : Cond) ∈ gd_tbl := List.mem_filter.mpr ⟨List.mem_of_getElem? (i := 460) (by decide +kernel), by decide +kernel⟩
theorem u_461 : (Cond.methodLink R_All 91 y_Tow_hasPlot : Cond) ∈ gd_tbl := List.mem_filter.mpr ⟨List.mem_of_getElem? (i := 461) (by decide +kernel), by decide +kernel⟩
theorem u_462 : (Cond.instanceMethod y_Tow_hasPlot : Cond) ∈ gd_tbl := List.mem_filter.mpr ⟨List.mem_of_getElem? (i := 462) (by decide +kernel), by decide +kernel⟩
theorem u_463 : (Cond.selects R_Tow y_Tow_hasPlot y_Tow_hasPlot : Cond) ∈ gd_tbl := List.mem_filter.mpr ⟨List.mem_of_getElem? (i := 463) (by decide +kernel), by decide +kernel⟩
theorem u_464 : (Cond.code y_Tow_hasPlot b_Tow_hasPlot 2 (some .boolean) : Cond) ∈ gd_tbl := List.mem_filter.mpr ⟨List.mem_of_getElem? (i := 464) (by decide +kernel), by decide +kernel⟩
theorem u_466 : (Cond.instanceMethod y_All_crossing : Cond) ∈ gd_tbl := List.mem_filter.mpr ⟨List.mem_of_getElem? (i := 466) (by decide +kernel), by decide +kernel⟩
theorem u_467 : (Cond.selects R_All y_All_crossing y_All_crossing : Cond) ∈ gd_tbl := List.mem_filter.mpr ⟨List.mem_of_getElem? (i := 467) (by decide +kernel), by decide +kernel⟩
theorem u_468 : (Cond.code y_All_crossing b_All_crossing 7 (some .int) : Cond) ∈ gd_tbl := List.mem_filter.mpr ⟨List.mem_of_getElem? (i := 468) (by decide +kernel), by decide +kernel⟩
theorem u_469 : (Cond.methodLink R_All 100 y_Tow_crossingBelow : Cond) ∈ gd_tbl := List.mem_filter.mpr ⟨List.mem_of_getElem? (i := 469) (by decide +kernel), by decide +kernel⟩
theorem u_470 : (Cond.methodLink R_All 104 y_Tow_crossingX : Cond) ∈ gd_tbl := List.mem_filter.mpr ⟨List.mem_of_getElem? (i := 470) (by decide +kernel), by decide +kernel⟩
theorem u_471 : (Cond.methodLink R_All 107 y_Tow_crossingY : Cond) ∈ gd_tbl := List.mem_filter.mpr ⟨List.mem_of_getElem? (i := 471) (by decide +kernel), by decide +kernel⟩
theorem u_472 : (Cond.methodLink R_All 110 y_All_cancelled : Cond) ∈ gd_tbl := List.mem_filter.mpr ⟨List.mem_of_getElem? (i := 472) (by decide +kernel), by decide +kernel⟩
theorem u_473 : (Cond.static y_All_cancelled : Cond) ∈ gd_tbl := List.mem_filter.mpr ⟨List.mem_of_getElem? (i := 473) (by decide +kernel), by decide +kernel⟩
theorem u_474 : (Cond.code y_All_cancelled b_All_cancelled 4 (some .int) : Cond) ∈ gd_tbl := List.mem_filter.mpr ⟨List.mem_of_getElem? (i := 474) (by decide +kernel), by decide +kernel⟩
theorem u_476 : (Cond.instanceMethod y_All_quarters : Cond) ∈ gd_tbl := List.mem_filter.mpr ⟨List.mem_of_getElem? (i := 476) (by decide +kernel), by decide +kernel⟩
theorem u_477 : (Cond.selects R_All y_All_quarters y_All_quarters : Cond) ∈ gd_tbl := List.mem_filter.mpr ⟨List.mem_of_getElem? (i := 477) (by decide +kernel), by decide +kernel⟩
theorem u_478 : (Cond.code y_All_quarters b_All_quarters 1 (some .int) : Cond) ∈ gd_tbl := List.mem_filter.mpr ⟨List.mem_of_getElem? (i := 478) (by decide +kernel), by decide +kernel⟩
theorem u_479 : (Cond.methodLink R_All 118 y_Lng_bitCount : Cond) ∈ gd_tbl := List.mem_filter.mpr ⟨List.mem_of_getElem? (i := 479) (by decide +kernel), by decide +kernel⟩
theorem u_480 : (Cond.static y_Lng_bitCount : Cond) ∈ gd_tbl := List.mem_filter.mpr ⟨List.mem_of_getElem? (i := 480) (by decide +kernel), by decide +kernel⟩
theorem u_481 : (Cond.code y_Lng_bitCount b_Lng_bitCount 2 (some .int) : Cond) ∈ gd_tbl := List.mem_filter.mpr ⟨List.mem_of_getElem? (i := 481) (by decide +kernel), by decide +kernel⟩
theorem u_482 : (Cond.constantLong R_Lng 314 (6148914691236517205) : Cond) ∈ gd_tbl := List.mem_filter.mpr ⟨List.mem_of_getElem? (i := 482) (by decide +kernel), by decide +kernel⟩
theorem u_483 : (Cond.constantLong R_Lng 316 (3689348814741910323) : Cond) ∈ gd_tbl := List.mem_filter.mpr ⟨List.mem_of_getElem? (i := 483) (by decide +kernel), by decide +kernel⟩
theorem u_484 : (Cond.constantLong R_Lng 318 (1085102592571150095) : Cond) ∈ gd_tbl := List.mem_filter.mpr ⟨List.mem_of_getElem? (i := 484) (by decide +kernel), by decide +kernel⟩
theorem u_486 : (Cond.instanceMethod y_All_open : Cond) ∈ gd_tbl := List.mem_filter.mpr ⟨List.mem_of_getElem? (i := 486) (by decide +kernel), by decide +kernel⟩
theorem u_487 : (Cond.selects R_All y_All_open y_All_open : Cond) ∈ gd_tbl := List.mem_filter.mpr ⟨List.mem_of_getElem? (i := 487) (by decide +kernel), by decide +kernel⟩
theorem u_488 : (Cond.code y_All_open b_All_open 1 (some .int) : Cond) ∈ gd_tbl := List.mem_filter.mpr ⟨List.mem_of_getElem? (i := 488) (by decide +kernel), by decide +kernel⟩
theorem u_490 : (Cond.instanceMethod y_All_with : Cond) ∈ gd_tbl := List.mem_filter.mpr ⟨List.mem_of_getElem? (i := 490) (by decide +kernel), by decide +kernel⟩
theorem u_491 : (Cond.selects R_All y_All_with y_All_with : Cond) ∈ gd_tbl := List.mem_filter.mpr ⟨List.mem_of_getElem? (i := 491) (by decide +kernel), by decide +kernel⟩
theorem u_492 : (Cond.code y_All_with b_All_with 4 (some .int) : Cond) ∈ gd_tbl := List.mem_filter.mpr ⟨List.mem_of_getElem? (i := 492) (by decide +kernel), by decide +kernel⟩
theorem u_493 : (Cond.methodLink R_All 127 y_Pla_hasQuarter : Cond) ∈ gd_tbl := List.mem_filter.mpr ⟨List.mem_of_getElem? (i := 493) (by decide +kernel), by decide +kernel⟩
theorem u_494 : (Cond.instanceMethod y_Pla_hasQuarter : Cond) ∈ gd_tbl := List.mem_filter.mpr ⟨List.mem_of_getElem? (i := 494) (by decide +kernel), by decide +kernel⟩
theorem u_495 : (Cond.selects R_Pla y_Pla_hasQuarter y_Pla_hasQuarter : Cond) ∈ gd_tbl := List.mem_filter.mpr ⟨List.mem_of_getElem? (i := 495) (by decide +kernel), by decide +kernel⟩
theorem u_496 : (Cond.code y_Pla_hasQuarter b_Pla_hasQuarter 2 (some .boolean) : Cond) ∈ gd_tbl := List.mem_filter.mpr ⟨List.mem_of_getElem? (i := 496) (by decide +kernel), by decide +kernel⟩
theorem u_498 : (Cond.static y_All_has : Cond) ∈ gd_tbl := List.mem_filter.mpr ⟨List.mem_of_getElem? (i := 498) (by decide +kernel), by decide +kernel⟩
theorem u_499 : (Cond.code y_All_has b_All_has 3 (some .boolean) : Cond) ∈ gd_tbl := List.mem_filter.mpr ⟨List.mem_of_getElem? (i := 499) (by decide +kernel), by decide +kernel⟩
theorem u_500 : (Cond.methodLink R_All 130 y_Pla_cornersOf : Cond) ∈ gd_tbl := List.mem_filter.mpr ⟨List.mem_of_getElem? (i := 500) (by decide +kernel), by decide +kernel⟩
theorem u_501 : (Cond.instanceMethod y_Pla_cornersOf : Cond) ∈ gd_tbl := List.mem_filter.mpr ⟨List.mem_of_getElem? (i := 501) (by decide +kernel), by decide +kernel⟩
theorem u_502 : (Cond.selects R_Pla y_Pla_cornersOf y_Pla_cornersOf : Cond) ∈ gd_tbl := List.mem_filter.mpr ⟨List.mem_of_getElem? (i := 502) (by decide +kernel), by decide +kernel⟩
theorem u_503 : (Cond.code y_Pla_cornersOf b_Pla_cornersOf 4 (some .int) : Cond) ∈ gd_tbl := List.mem_filter.mpr ⟨List.mem_of_getElem? (i := 503) (by decide +kernel), by decide +kernel⟩
theorem u_505 : (Cond.instanceMethod y_All_corners : Cond) ∈ gd_tbl := List.mem_filter.mpr ⟨List.mem_of_getElem? (i := 505) (by decide +kernel), by decide +kernel⟩
theorem u_506 : (Cond.selects R_All y_All_corners y_All_corners : Cond) ∈ gd_tbl := List.mem_filter.mpr ⟨List.mem_of_getElem? (i := 506) (by decide +kernel), by decide +kernel⟩
theorem u_507 : (Cond.code y_All_corners b_All_corners 2 (some .int) : Cond) ∈ gd_tbl := List.mem_filter.mpr ⟨List.mem_of_getElem? (i := 507) (by decide +kernel), by decide +kernel⟩
theorem u_509 : (Cond.instanceMethod y_All_sides : Cond) ∈ gd_tbl := List.mem_filter.mpr ⟨List.mem_of_getElem? (i := 509) (by decide +kernel), by decide +kernel⟩
theorem u_510 : (Cond.selects R_All y_All_sides y_All_sides : Cond) ∈ gd_tbl := List.mem_filter.mpr ⟨List.mem_of_getElem? (i := 510) (by decide +kernel), by decide +kernel⟩
theorem u_511 : (Cond.code y_All_sides b_All_sides 2 (some .int) : Cond) ∈ gd_tbl := List.mem_filter.mpr ⟨List.mem_of_getElem? (i := 511) (by decide +kernel), by decide +kernel⟩
theorem u_512 : (Cond.methodLink R_All 133 y_Pla_sidesOf : Cond) ∈ gd_tbl := List.mem_filter.mpr ⟨List.mem_of_getElem? (i := 512) (by decide +kernel), by decide +kernel⟩
theorem u_513 : (Cond.instanceMethod y_Pla_sidesOf : Cond) ∈ gd_tbl := List.mem_filter.mpr ⟨List.mem_of_getElem? (i := 513) (by decide +kernel), by decide +kernel⟩
theorem u_514 : (Cond.selects R_Pla y_Pla_sidesOf y_Pla_sidesOf : Cond) ∈ gd_tbl := List.mem_filter.mpr ⟨List.mem_of_getElem? (i := 514) (by decide +kernel), by decide +kernel⟩
theorem u_515 : (Cond.code y_Pla_sidesOf b_Pla_sidesOf 4 (some .int) : Cond) ∈ gd_tbl := List.mem_filter.mpr ⟨List.mem_of_getElem? (i := 515) (by decide +kernel), by decide +kernel⟩
theorem u_516 : (Cond.methodLink R_Pla 54 y_Pla_hasQuarter : Cond) ∈ gd_tbl := List.mem_filter.mpr ⟨List.mem_of_getElem? (i := 516) (by decide +kernel), by decide +kernel⟩
theorem u_518 : (Cond.instanceMethod y_All_isOpen : Cond) ∈ gd_tbl := List.mem_filter.mpr ⟨List.mem_of_getElem? (i := 518) (by decide +kernel), by decide +kernel⟩
theorem u_519 : (Cond.selects R_All y_All_isOpen y_All_isOpen : Cond) ∈ gd_tbl := List.mem_filter.mpr ⟨List.mem_of_getElem? (i := 519) (by decide +kernel), by decide +kernel⟩
theorem u_520 : (Cond.code y_All_isOpen b_All_isOpen 2 (some .int) : Cond) ∈ gd_tbl := List.mem_filter.mpr ⟨List.mem_of_getElem? (i := 520) (by decide +kernel), by decide +kernel⟩
theorem u_521 : (Cond.methodLink R_All 136 y_All_has : Cond) ∈ gd_tbl := List.mem_filter.mpr ⟨List.mem_of_getElem? (i := 521) (by decide +kernel), by decide +kernel⟩
theorem u_523 : (Cond.instanceMethod y_All_whole : Cond) ∈ gd_tbl := List.mem_filter.mpr ⟨List.mem_of_getElem? (i := 523) (by decide +kernel), by decide +kernel⟩
theorem u_524 : (Cond.selects R_All y_All_whole y_All_whole : Cond) ∈ gd_tbl := List.mem_filter.mpr ⟨List.mem_of_getElem? (i := 524) (by decide +kernel), by decide +kernel⟩
theorem u_525 : (Cond.code y_All_whole b_All_whole 3 (some .int) : Cond) ∈ gd_tbl := List.mem_filter.mpr ⟨List.mem_of_getElem? (i := 525) (by decide +kernel), by decide +kernel⟩
theorem u_527 : (Cond.instanceMethod y_All_points : Cond) ∈ gd_tbl := List.mem_filter.mpr ⟨List.mem_of_getElem? (i := 527) (by decide +kernel), by decide +kernel⟩
theorem u_528 : (Cond.selects R_All y_All_points y_All_points : Cond) ∈ gd_tbl := List.mem_filter.mpr ⟨List.mem_of_getElem? (i := 528) (by decide +kernel), by decide +kernel⟩
theorem u_529 : (Cond.code y_All_points b_All_points 2 (some .int) : Cond) ∈ gd_tbl := List.mem_filter.mpr ⟨List.mem_of_getElem? (i := 529) (by decide +kernel), by decide +kernel⟩
theorem u_530 : (Cond.methodLink R_All 147 y_Pla_squares : Cond) ∈ gd_tbl := List.mem_filter.mpr ⟨List.mem_of_getElem? (i := 530) (by decide +kernel), by decide +kernel⟩
theorem u_531 : (Cond.instanceMethod y_Pla_squares : Cond) ∈ gd_tbl := List.mem_filter.mpr ⟨List.mem_of_getElem? (i := 531) (by decide +kernel), by decide +kernel⟩
theorem u_532 : (Cond.selects R_Pla y_Pla_squares y_Pla_squares : Cond) ∈ gd_tbl := List.mem_filter.mpr ⟨List.mem_of_getElem? (i := 532) (by decide +kernel), by decide +kernel⟩
theorem u_533 : (Cond.code y_Pla_squares b_Pla_squares 3 (some .int) : Cond) ∈ gd_tbl := List.mem_filter.mpr ⟨List.mem_of_getElem? (i := 533) (by decide +kernel), by decide +kernel⟩
theorem u_534 : (Cond.methodLink R_All 151 y_Pla_mostMeeting : Cond) ∈ gd_tbl := List.mem_filter.mpr ⟨List.mem_of_getElem? (i := 534) (by decide +kernel), by decide +kernel⟩
theorem u_535 : (Cond.instanceMethod y_Pla_mostMeeting : Cond) ∈ gd_tbl := List.mem_filter.mpr ⟨List.mem_of_getElem? (i := 535) (by decide +kernel), by decide +kernel⟩
theorem u_536 : (Cond.selects R_Pla y_Pla_mostMeeting y_Pla_mostMeeting : Cond) ∈ gd_tbl := List.mem_filter.mpr ⟨List.mem_of_getElem? (i := 536) (by decide +kernel), by decide +kernel⟩
theorem u_537 : (Cond.code y_Pla_mostMeeting b_Pla_mostMeeting 3 (some .int) : Cond) ∈ gd_tbl := List.mem_filter.mpr ⟨List.mem_of_getElem? (i := 537) (by decide +kernel), by decide +kernel⟩
theorem u_540 : (Cond.instanceMethod y_All_lamps : Cond) ∈ gd_tbl := List.mem_filter.mpr ⟨List.mem_of_getElem? (i := 540) (by decide +kernel), by decide +kernel⟩
theorem u_541 : (Cond.selects R_All y_All_lamps y_All_lamps : Cond) ∈ gd_tbl := List.mem_filter.mpr ⟨List.mem_of_getElem? (i := 541) (by decide +kernel), by decide +kernel⟩
theorem u_542 : (Cond.code y_All_lamps b_All_lamps 3 (some .int) : Cond) ∈ gd_tbl := List.mem_filter.mpr ⟨List.mem_of_getElem? (i := 542) (by decide +kernel), by decide +kernel⟩
theorem u_544 : (Cond.instanceMethod y_All_where : Cond) ∈ gd_tbl := List.mem_filter.mpr ⟨List.mem_of_getElem? (i := 544) (by decide +kernel), by decide +kernel⟩
theorem u_545 : (Cond.selects R_All y_All_where y_All_where : Cond) ∈ gd_tbl := List.mem_filter.mpr ⟨List.mem_of_getElem? (i := 545) (by decide +kernel), by decide +kernel⟩
theorem u_546 : (Cond.code y_All_where b_All_where 2 (some .int) : Cond) ∈ gd_tbl := List.mem_filter.mpr ⟨List.mem_of_getElem? (i := 546) (by decide +kernel), by decide +kernel⟩
theorem u_547 : (Cond.methodLink R_All 154 y_Pla_quarterOfPlot : Cond) ∈ gd_tbl := List.mem_filter.mpr ⟨List.mem_of_getElem? (i := 547) (by decide +kernel), by decide +kernel⟩
theorem u_548 : (Cond.instanceMethod y_Pla_quarterOfPlot : Cond) ∈ gd_tbl := List.mem_filter.mpr ⟨List.mem_of_getElem? (i := 548) (by decide +kernel), by decide +kernel⟩
theorem u_549 : (Cond.selects R_Pla y_Pla_quarterOfPlot y_Pla_quarterOfPlot : Cond) ∈ gd_tbl := List.mem_filter.mpr ⟨List.mem_of_getElem? (i := 549) (by decide +kernel), by decide +kernel⟩
theorem u_550 : (Cond.code y_Pla_quarterOfPlot b_Pla_quarterOfPlot 2 (some .int) : Cond) ∈ gd_tbl := List.mem_filter.mpr ⟨List.mem_of_getElem? (i := 550) (by decide +kernel), by decide +kernel⟩
theorem u_551 : (Cond.methodLink R_Pla 77 y_Tow_hasPlot : Cond) ∈ gd_tbl := List.mem_filter.mpr ⟨List.mem_of_getElem? (i := 551) (by decide +kernel), by decide +kernel⟩
theorem u_552 : (Cond.methodLink R_Pla 86 y_Pla_quarterAt : Cond) ∈ gd_tbl := List.mem_filter.mpr ⟨List.mem_of_getElem? (i := 552) (by decide +kernel), by decide +kernel⟩
theorem u_553 : (Cond.instanceMethod y_Pla_quarterAt : Cond) ∈ gd_tbl := List.mem_filter.mpr ⟨List.mem_of_getElem? (i := 553) (by decide +kernel), by decide +kernel⟩
theorem u_554 : (Cond.selects R_Pla y_Pla_quarterAt y_Pla_quarterAt : Cond) ∈ gd_tbl := List.mem_filter.mpr ⟨List.mem_of_getElem? (i := 554) (by decide +kernel), by decide +kernel⟩
theorem u_555 : (Cond.code y_Pla_quarterAt b_Pla_quarterAt 3 (some .int) : Cond) ∈ gd_tbl := List.mem_filter.mpr ⟨List.mem_of_getElem? (i := 555) (by decide +kernel), by decide +kernel⟩
theorem u_557 : (Cond.instanceMethod y_All_together : Cond) ∈ gd_tbl := List.mem_filter.mpr ⟨List.mem_of_getElem? (i := 557) (by decide +kernel), by decide +kernel⟩
theorem u_558 : (Cond.selects R_All y_All_together y_All_together : Cond) ∈ gd_tbl := List.mem_filter.mpr ⟨List.mem_of_getElem? (i := 558) (by decide +kernel), by decide +kernel⟩
theorem u_559 : (Cond.code y_All_together b_All_together 5 (some .int) : Cond) ∈ gd_tbl := List.mem_filter.mpr ⟨List.mem_of_getElem? (i := 559) (by decide +kernel), by decide +kernel⟩
theorem u_561 : (Cond.instanceMethod y_All_steps : Cond) ∈ gd_tbl := List.mem_filter.mpr ⟨List.mem_of_getElem? (i := 561) (by decide +kernel), by decide +kernel⟩
theorem u_562 : (Cond.selects R_All y_All_steps y_All_steps : Cond) ∈ gd_tbl := List.mem_filter.mpr ⟨List.mem_of_getElem? (i := 562) (by decide +kernel), by decide +kernel⟩
theorem u_563 : (Cond.code y_All_steps b_All_steps 5 (some .int) : Cond) ∈ gd_tbl := List.mem_filter.mpr ⟨List.mem_of_getElem? (i := 563) (by decide +kernel), by decide +kernel⟩
theorem u_564 : (Cond.methodLink R_All 160 y_Int_bitCount : Cond) ∈ gd_tbl := List.mem_filter.mpr ⟨List.mem_of_getElem? (i := 564) (by decide +kernel), by decide +kernel⟩
theorem u_566 : (Cond.instanceMethod y_All_next : Cond) ∈ gd_tbl := List.mem_filter.mpr ⟨List.mem_of_getElem? (i := 566) (by decide +kernel), by decide +kernel⟩
theorem u_567 : (Cond.selects R_All y_All_next y_All_next : Cond) ∈ gd_tbl := List.mem_filter.mpr ⟨List.mem_of_getElem? (i := 567) (by decide +kernel), by decide +kernel⟩
theorem u_568 : (Cond.code y_All_next b_All_next 7 (some .int) : Cond) ∈ gd_tbl := List.mem_filter.mpr ⟨List.mem_of_getElem? (i := 568) (by decide +kernel), by decide +kernel⟩
theorem u_569 : (Cond.methodLink R_All 164 y_All_whyNoNewLine : Cond) ∈ gd_tbl := List.mem_filter.mpr ⟨List.mem_of_getElem? (i := 569) (by decide +kernel), by decide +kernel⟩
theorem u_571 : (Cond.instanceMethod y_All_whyNoNewLine : Cond) ∈ gd_tbl := List.mem_filter.mpr ⟨List.mem_of_getElem? (i := 571) (by decide +kernel), by decide +kernel⟩
theorem u_572 : (Cond.code y_All_whyNoNewLine b_All_whyNoNewLine 5 (some .int) : Cond) ∈ gd_tbl := List.mem_filter.mpr ⟨List.mem_of_getElem? (i := 572) (by decide +kernel), by decide +kernel⟩
theorem u_573 : (Cond.methodLink R_All 171 y_All_whyNoLine : Cond) ∈ gd_tbl := List.mem_filter.mpr ⟨List.mem_of_getElem? (i := 573) (by decide +kernel), by decide +kernel⟩
theorem u_575 : (Cond.instanceMethod y_All_whyNoLine : Cond) ∈ gd_tbl := List.mem_filter.mpr ⟨List.mem_of_getElem? (i := 575) (by decide +kernel), by decide +kernel⟩
theorem u_576 : (Cond.code y_All_whyNoLine b_All_whyNoLine 4 (some .int) : Cond) ∈ gd_tbl := List.mem_filter.mpr ⟨List.mem_of_getElem? (i := 576) (by decide +kernel), by decide +kernel⟩
theorem u_577 : (Cond.methodLink R_All 219 y_Tow_hasDirection : Cond) ∈ gd_tbl := List.mem_filter.mpr ⟨List.mem_of_getElem? (i := 577) (by decide +kernel), by decide +kernel⟩
theorem u_578 : (Cond.methodLink R_All 167 y_Pla_cutBy : Cond) ∈ gd_tbl := List.mem_filter.mpr ⟨List.mem_of_getElem? (i := 578) (by decide +kernel), by decide +kernel⟩
theorem u_580 : (Cond.instanceMethod y_All_through : Cond) ∈ gd_tbl := List.mem_filter.mpr ⟨List.mem_of_getElem? (i := 580) (by decide +kernel), by decide +kernel⟩
theorem u_581 : (Cond.selects R_All y_All_through y_All_through : Cond) ∈ gd_tbl := List.mem_filter.mpr ⟨List.mem_of_getElem? (i := 581) (by decide +kernel), by decide +kernel⟩
theorem u_582 : (Cond.code y_All_through b_All_through 5 (some .int) : Cond) ∈ gd_tbl := List.mem_filter.mpr ⟨List.mem_of_getElem? (i := 582) (by decide +kernel), by decide +kernel⟩
theorem u_584 : (Cond.instanceMethod y_All_spare : Cond) ∈ gd_tbl := List.mem_filter.mpr ⟨List.mem_of_getElem? (i := 584) (by decide +kernel), by decide +kernel⟩
theorem u_585 : (Cond.selects R_All y_All_spare y_All_spare : Cond) ∈ gd_tbl := List.mem_filter.mpr ⟨List.mem_of_getElem? (i := 585) (by decide +kernel), by decide +kernel⟩
theorem u_586 : (Cond.code y_All_spare b_All_spare 7 (some .int) : Cond) ∈ gd_tbl := List.mem_filter.mpr ⟨List.mem_of_getElem? (i := 586) (by decide +kernel), by decide +kernel⟩
theorem u_587 : (Cond.methodLink R_All 174 y_Pla_quartersWithPlots : Cond) ∈ gd_tbl := List.mem_filter.mpr ⟨List.mem_of_getElem? (i := 587) (by decide +kernel), by decide +kernel⟩
theorem u_588 : (Cond.instanceMethod y_Pla_quartersWithPlots : Cond) ∈ gd_tbl := List.mem_filter.mpr ⟨List.mem_of_getElem? (i := 588) (by decide +kernel), by decide +kernel⟩
theorem u_589 : (Cond.selects R_Pla y_Pla_quartersWithPlots y_Pla_quartersWithPlots : Cond) ∈ gd_tbl := List.mem_filter.mpr ⟨List.mem_of_getElem? (i := 589) (by decide +kernel), by decide +kernel⟩
theorem u_590 : (Cond.code y_Pla_quartersWithPlots b_Pla_quartersWithPlots 5 (some .long) : Cond) ∈ gd_tbl := List.mem_filter.mpr ⟨List.mem_of_getElem? (i := 590) (by decide +kernel), by decide +kernel⟩
theorem u_591 : (Cond.methodLink R_Pla 99 y_Pla_quarterOfPlot : Cond) ∈ gd_tbl := List.mem_filter.mpr ⟨List.mem_of_getElem? (i := 591) (by decide +kernel), by decide +kernel⟩
theorem u_592 : (Cond.methodLink R_All 178 y_Tow_hasPlotOn : Cond) ∈ gd_tbl := List.mem_filter.mpr ⟨List.mem_of_getElem? (i := 592) (by decide +kernel), by decide +kernel⟩
theorem u_593 : (Cond.instanceMethod y_Tow_hasPlotOn : Cond) ∈ gd_tbl := List.mem_filter.mpr ⟨List.mem_of_getElem? (i := 593) (by decide +kernel), by decide +kernel⟩
theorem u_594 : (Cond.selects R_Tow y_Tow_hasPlotOn y_Tow_hasPlotOn : Cond) ∈ gd_tbl := List.mem_filter.mpr ⟨List.mem_of_getElem? (i := 594) (by decide +kernel), by decide +kernel⟩
theorem u_595 : (Cond.code y_Tow_hasPlotOn b_Tow_hasPlotOn 5 (some .boolean) : Cond) ∈ gd_tbl := List.mem_filter.mpr ⟨List.mem_of_getElem? (i := 595) (by decide +kernel), by decide +kernel⟩
theorem u_597 : (Cond.instanceMethod y_All_most : Cond) ∈ gd_tbl := List.mem_filter.mpr ⟨List.mem_of_getElem? (i := 597) (by decide +kernel), by decide +kernel⟩
theorem u_598 : (Cond.selects R_All y_All_most y_All_most : Cond) ∈ gd_tbl := List.mem_filter.mpr ⟨List.mem_of_getElem? (i := 598) (by decide +kernel), by decide +kernel⟩
theorem u_599 : (Cond.code y_All_most b_All_most 6 (some .int) : Cond) ∈ gd_tbl := List.mem_filter.mpr ⟨List.mem_of_getElem? (i := 599) (by decide +kernel), by decide +kernel⟩
theorem u_600 : (Cond.methodLink R_All 182 y_Pla_pointsOn : Cond) ∈ gd_tbl := List.mem_filter.mpr ⟨List.mem_of_getElem? (i := 600) (by decide +kernel), by decide +kernel⟩
theorem u_601 : (Cond.instanceMethod y_Pla_pointsOn : Cond) ∈ gd_tbl := List.mem_filter.mpr ⟨List.mem_of_getElem? (i := 601) (by decide +kernel), by decide +kernel⟩
theorem u_602 : (Cond.selects R_Pla y_Pla_pointsOn y_Pla_pointsOn : Cond) ∈ gd_tbl := List.mem_filter.mpr ⟨List.mem_of_getElem? (i := 602) (by decide +kernel), by decide +kernel⟩
theorem u_603 : (Cond.code y_Pla_pointsOn b_Pla_pointsOn 6 (some .int) : Cond) ∈ gd_tbl := List.mem_filter.mpr ⟨List.mem_of_getElem? (i := 603) (by decide +kernel), by decide +kernel⟩
theorem u_606 : (Cond.instanceMethod y_All_fear : Cond) ∈ gd_tbl := List.mem_filter.mpr ⟨List.mem_of_getElem? (i := 606) (by decide +kernel), by decide +kernel⟩
theorem u_607 : (Cond.selects R_All y_All_fear y_All_fear : Cond) ∈ gd_tbl := List.mem_filter.mpr ⟨List.mem_of_getElem? (i := 607) (by decide +kernel), by decide +kernel⟩
theorem u_608 : (Cond.code y_All_fear b_All_fear 8 (some .int) : Cond) ∈ gd_tbl := List.mem_filter.mpr ⟨List.mem_of_getElem? (i := 608) (by decide +kernel), by decide +kernel⟩
theorem u_609 : (Cond.methodLink R_All 190 y_All_fearedLines : Cond) ∈ gd_tbl := List.mem_filter.mpr ⟨List.mem_of_getElem? (i := 609) (by decide +kernel), by decide +kernel⟩
theorem u_611 : (Cond.instanceMethod y_All_fearedLines : Cond) ∈ gd_tbl := List.mem_filter.mpr ⟨List.mem_of_getElem? (i := 611) (by decide +kernel), by decide +kernel⟩
theorem u_612 : (Cond.code y_All_fearedLines b_All_fearedLines 6 (some .int) : Cond) ∈ gd_tbl := List.mem_filter.mpr ⟨List.mem_of_getElem? (i := 612) (by decide +kernel), by decide +kernel⟩
theorem u_614 : (Cond.instanceMethod y_All_taken : Cond) ∈ gd_tbl := List.mem_filter.mpr ⟨List.mem_of_getElem? (i := 614) (by decide +kernel), by decide +kernel⟩
theorem u_615 : (Cond.selects R_All y_All_taken y_All_taken : Cond) ∈ gd_tbl := List.mem_filter.mpr ⟨List.mem_of_getElem? (i := 615) (by decide +kernel), by decide +kernel⟩
theorem u_616 : (Cond.code y_All_taken b_All_taken 2 (some .int) : Cond) ∈ gd_tbl := List.mem_filter.mpr ⟨List.mem_of_getElem? (i := 616) (by decide +kernel), by decide +kernel⟩
theorem u_617 : (Cond.methodLink R_All 193 y_All_dearestStreet : Cond) ∈ gd_tbl := List.mem_filter.mpr ⟨List.mem_of_getElem? (i := 617) (by decide +kernel), by decide +kernel⟩
theorem u_619 : (Cond.instanceMethod y_All_dearestStreet : Cond) ∈ gd_tbl := List.mem_filter.mpr ⟨List.mem_of_getElem? (i := 619) (by decide +kernel), by decide +kernel⟩
theorem u_620 : (Cond.code y_All_dearestStreet b_All_dearestStreet 5 (some .int) : Cond) ∈ gd_tbl := List.mem_filter.mpr ⟨List.mem_of_getElem? (i := 620) (by decide +kernel), by decide +kernel⟩
theorem u_621 : (Cond.methodLink R_All 196 y_Pla_quartersWithout : Cond) ∈ gd_tbl := List.mem_filter.mpr ⟨List.mem_of_getElem? (i := 621) (by decide +kernel), by decide +kernel⟩
theorem u_622 : (Cond.instanceMethod y_Pla_quartersWithout : Cond) ∈ gd_tbl := List.mem_filter.mpr ⟨List.mem_of_getElem? (i := 622) (by decide +kernel), by decide +kernel⟩
theorem u_623 : (Cond.selects R_Pla y_Pla_quartersWithout y_Pla_quartersWithout : Cond) ∈ gd_tbl := List.mem_filter.mpr ⟨List.mem_of_getElem? (i := 623) (by decide +kernel), by decide +kernel⟩
theorem u_624 : (Cond.code y_Pla_quartersWithout b_Pla_quartersWithout 5 (some .int) : Cond) ∈ gd_tbl := List.mem_filter.mpr ⟨List.mem_of_getElem? (i := 624) (by decide +kernel), by decide +kernel⟩
theorem u_625 : (Cond.methodLink R_Pla 102 y_Lng_bitCount : Cond) ∈ gd_tbl := List.mem_filter.mpr ⟨List.mem_of_getElem? (i := 625) (by decide +kernel), by decide +kernel⟩
theorem u_627 : (Cond.instanceMethod y_All_row : Cond) ∈ gd_tbl := List.mem_filter.mpr ⟨List.mem_of_getElem? (i := 627) (by decide +kernel), by decide +kernel⟩
theorem u_628 : (Cond.selects R_All y_All_row y_All_row : Cond) ∈ gd_tbl := List.mem_filter.mpr ⟨List.mem_of_getElem? (i := 628) (by decide +kernel), by decide +kernel⟩
theorem u_629 : (Cond.code y_All_row b_All_row 2 (some .int) : Cond) ∈ gd_tbl := List.mem_filter.mpr ⟨List.mem_of_getElem? (i := 629) (by decide +kernel), by decide +kernel⟩
theorem u_631 : (Cond.instanceMethod y_All_judge : Cond) ∈ gd_tbl := List.mem_filter.mpr ⟨List.mem_of_getElem? (i := 631) (by decide +kernel), by decide +kernel⟩
theorem u_632 : (Cond.selects R_All y_All_judge y_All_judge : Cond) ∈ gd_tbl := List.mem_filter.mpr ⟨List.mem_of_getElem? (i := 632) (by decide +kernel), by decide +kernel⟩
theorem u_633 : (Cond.code y_All_judge b_All_judge 3 (some .int) : Cond) ∈ gd_tbl := List.mem_filter.mpr ⟨List.mem_of_getElem? (i := 633) (by decide +kernel), by decide +kernel⟩
theorem u_635 : (Cond.instanceMethod y_All_seeds : Cond) ∈ gd_tbl := List.mem_filter.mpr ⟨List.mem_of_getElem? (i := 635) (by decide +kernel), by decide +kernel⟩
theorem u_636 : (Cond.selects R_All y_All_seeds y_All_seeds : Cond) ∈ gd_tbl := List.mem_filter.mpr ⟨List.mem_of_getElem? (i := 636) (by decide +kernel), by decide +kernel⟩
theorem u_637 : (Cond.code y_All_seeds b_All_seeds 10 (some .int) : Cond) ∈ gd_tbl := List.mem_filter.mpr ⟨List.mem_of_getElem? (i := 637) (by decide +kernel), by decide +kernel⟩
theorem u_638 : (Cond.methodLink R_All 202 y_All_seedAfter : Cond) ∈ gd_tbl := List.mem_filter.mpr ⟨List.mem_of_getElem? (i := 638) (by decide +kernel), by decide +kernel⟩
theorem u_639 : (Cond.static y_All_seedAfter : Cond) ∈ gd_tbl := List.mem_filter.mpr ⟨List.mem_of_getElem? (i := 639) (by decide +kernel), by decide +kernel⟩
theorem u_640 : (Cond.code y_All_seedAfter b_All_seedAfter 1 (some .int) : Cond) ∈ gd_tbl := List.mem_filter.mpr ⟨List.mem_of_getElem? (i := 640) (by decide +kernel), by decide +kernel⟩
theorem u_641 : (Cond.constant R_All 223 (1664525) : Cond) ∈ gd_tbl := List.mem_filter.mpr ⟨List.mem_of_getElem? (i := 641) (by decide +kernel), by decide +kernel⟩
theorem u_642 : (Cond.constant R_All 224 (1013904223) : Cond) ∈ gd_tbl := List.mem_filter.mpr ⟨List.mem_of_getElem? (i := 642) (by decide +kernel), by decide +kernel⟩
theorem u_643 : (Cond.methodLink R_All 205 y_All_placeDrawn : Cond) ∈ gd_tbl := List.mem_filter.mpr ⟨List.mem_of_getElem? (i := 643) (by decide +kernel), by decide +kernel⟩
theorem u_644 : (Cond.static y_All_placeDrawn : Cond) ∈ gd_tbl := List.mem_filter.mpr ⟨List.mem_of_getElem? (i := 644) (by decide +kernel), by decide +kernel⟩
theorem u_645 : (Cond.code y_All_placeDrawn b_All_placeDrawn 1 (some .int) : Cond) ∈ gd_tbl := List.mem_filter.mpr ⟨List.mem_of_getElem? (i := 645) (by decide +kernel), by decide +kernel⟩
theorem u_646 : (Cond.constant R_All 225 (2147483647) : Cond) ∈ gd_tbl := List.mem_filter.mpr ⟨List.mem_of_getElem? (i := 646) (by decide +kernel), by decide +kernel⟩
theorem u_647 : (Cond.methodLink R_All 208 y_Pla_quarterAt : Cond) ∈ gd_tbl := List.mem_filter.mpr ⟨List.mem_of_getElem? (i := 647) (by decide +kernel), by decide +kernel⟩
theorem u_649 : (Cond.instanceMethod y_All_image : Cond) ∈ gd_tbl := List.mem_filter.mpr ⟨List.mem_of_getElem? (i := 649) (by decide +kernel), by decide +kernel⟩
theorem u_650 : (Cond.selects R_All y_All_image y_All_image : Cond) ∈ gd_tbl := List.mem_filter.mpr ⟨List.mem_of_getElem? (i := 650) (by decide +kernel), by decide +kernel⟩
theorem u_651 : (Cond.code y_All_image b_All_image 1 (some .int) : Cond) ∈ gd_tbl := List.mem_filter.mpr ⟨List.mem_of_getElem? (i := 651) (by decide +kernel), by decide +kernel⟩
theorem u_653 : (Cond.instanceMethod y_All_on : Cond) ∈ gd_tbl := List.mem_filter.mpr ⟨List.mem_of_getElem? (i := 653) (by decide +kernel), by decide +kernel⟩
theorem u_654 : (Cond.selects R_All y_All_on y_All_on : Cond) ∈ gd_tbl := List.mem_filter.mpr ⟨List.mem_of_getElem? (i := 654) (by decide +kernel), by decide +kernel⟩
theorem u_655 : (Cond.code y_All_on b_All_on 1 (some .int) : Cond) ∈ gd_tbl := List.mem_filter.mpr ⟨List.mem_of_getElem? (i := 655) (by decide +kernel), by decide +kernel⟩
theorem u_657 : (Cond.instanceMethod y_All_count : Cond) ∈ gd_tbl := List.mem_filter.mpr ⟨List.mem_of_getElem? (i := 657) (by decide +kernel), by decide +kernel⟩
theorem u_658 : (Cond.selects R_All y_All_count y_All_count : Cond) ∈ gd_tbl := List.mem_filter.mpr ⟨List.mem_of_getElem? (i := 658) (by decide +kernel), by decide +kernel⟩
theorem u_659 : (Cond.code y_All_count b_All_count 2 (some .int) : Cond) ∈ gd_tbl := List.mem_filter.mpr ⟨List.mem_of_getElem? (i := 659) (by decide +kernel), by decide +kernel⟩
theorem u_666 : (Cond.fieldLink R_Mod 58 "CrossesAllOldModel" "streets" "I" : Cond) ∈ gd_tbl := List.mem_filter.mpr ⟨List.mem_of_getElem? (i := 666) (by decide +kernel), by decide +kernel⟩
theorem u_667 : (Cond.fieldLink R_Mod 7 "CrossesAllOldModel" "kind" "[I" : Cond) ∈ gd_tbl := List.mem_filter.mpr ⟨List.mem_of_getElem? (i := 667) (by decide +kernel), by decide +kernel⟩
theorem u_668 : (Cond.fieldLink R_Mod 13 "CrossesAllOldModel" "a" "[I" : Cond) ∈ gd_tbl := List.mem_filter.mpr ⟨List.mem_of_getElem? (i := 668) (by decide +kernel), by decide +kernel⟩
theorem u_669 : (Cond.fieldLink R_Mod 16 "CrossesAllOldModel" "b" "[I" : Cond) ∈ gd_tbl := List.mem_filter.mpr ⟨List.mem_of_getElem? (i := 669) (by decide +kernel), by decide +kernel⟩
theorem u_670 : (Cond.fieldLink R_Mod 19 "CrossesAllOldModel" "c" "[I" : Cond) ∈ gd_tbl := List.mem_filter.mpr ⟨List.mem_of_getElem? (i := 670) (by decide +kernel), by decide +kernel⟩
theorem u_671 : (Cond.fieldLink R_Mod 66 "CrossesAllOldModel" "plots" "I" : Cond) ∈ gd_tbl := List.mem_filter.mpr ⟨List.mem_of_getElem? (i := 671) (by decide +kernel), by decide +kernel⟩
theorem u_672 : (Cond.fieldLink R_Mod 22 "CrossesAllOldModel" "x" "[I" : Cond) ∈ gd_tbl := List.mem_filter.mpr ⟨List.mem_of_getElem? (i := 672) (by decide +kernel), by decide +kernel⟩
theorem u_673 : (Cond.fieldLink R_Mod 25 "CrossesAllOldModel" "y" "[I" : Cond) ∈ gd_tbl := List.mem_filter.mpr ⟨List.mem_of_getElem? (i := 673) (by decide +kernel), by decide +kernel⟩
theorem u_674 : (Cond.fieldLink R_Mod 69 "CrossesAllOldModel" "letters" "I" : Cond) ∈ gd_tbl := List.mem_filter.mpr ⟨List.mem_of_getElem? (i := 674) (by decide +kernel), by decide +kernel⟩
theorem u_675 : (Cond.fieldLink R_Mod 28 "CrossesAllOldModel" "letter" "[I" : Cond) ∈ gd_tbl := List.mem_filter.mpr ⟨List.mem_of_getElem? (i := 675) (by decide +kernel), by decide +kernel⟩
theorem u_676 : (Cond.fieldLink R_Mod 72 "CrossesAllOldModel" "at" "I" : Cond) ∈ gd_tbl := List.mem_filter.mpr ⟨List.mem_of_getElem? (i := 676) (by decide +kernel), by decide +kernel⟩
theorem u_677 : (Cond.fieldLink R_Mod 31 "CrossesAllOldModel" "value" "[I" : Cond) ∈ gd_tbl := List.mem_filter.mpr ⟨List.mem_of_getElem? (i := 677) (by decide +kernel), by decide +kernel⟩
theorem u_678 : (Cond.fieldLink R_Mod 197 "CrossesAllOldModel" "inRow" "I" : Cond) ∈ gd_tbl := List.mem_filter.mpr ⟨List.mem_of_getElem? (i := 678) (by decide +kernel), by decide +kernel⟩
theorem u_679 : (Cond.fieldLink R_Mod 34 "CrossesAllOldModel" "row" "[I" : Cond) ∈ gd_tbl := List.mem_filter.mpr ⟨List.mem_of_getElem? (i := 679) (by decide +kernel), by decide +kernel⟩
theorem u_680 : (Cond.fieldLink R_Mod 37 "CrossesAllOldModel" "refusals" "[I" : Cond) ∈ gd_tbl := List.mem_filter.mpr ⟨List.mem_of_getElem? (i := 680) (by decide +kernel), by decide +kernel⟩
theorem u_681 : (Cond.fieldLink R_Mod 208 "CrossesAllOldModel" "imaged" "Z" : Cond) ∈ gd_tbl := List.mem_filter.mpr ⟨List.mem_of_getElem? (i := 681) (by decide +kernel), by decide +kernel⟩
theorem u_682 : (Cond.fieldLink R_Mod 40 "CrossesAllOldModel" "image" "[I" : Cond) ∈ gd_tbl := List.mem_filter.mpr ⟨List.mem_of_getElem? (i := 682) (by decide +kernel), by decide +kernel⟩
theorem u_683 : (Cond.fieldLink R_Mod 43 "CrossesAllOldModel" "ahead" "[I" : Cond) ∈ gd_tbl := List.mem_filter.mpr ⟨List.mem_of_getElem? (i := 683) (by decide +kernel), by decide +kernel⟩
theorem u_684 : (Cond.fieldLink R_Mod 46 "CrossesAllOldModel" "corner" "[I" : Cond) ∈ gd_tbl := List.mem_filter.mpr ⟨List.mem_of_getElem? (i := 684) (by decide +kernel), by decide +kernel⟩
theorem u_685 : (Cond.fieldLink R_Mod 49 "CrossesAllOldModel" "ends" "[Z" : Cond) ∈ gd_tbl := List.mem_filter.mpr ⟨List.mem_of_getElem? (i := 685) (by decide +kernel), by decide +kernel⟩
theorem u_686 : (Cond.fieldLink R_Mod 112 "CrossesAllOldModel" "points" "I" : Cond) ∈ gd_tbl := List.mem_filter.mpr ⟨List.mem_of_getElem? (i := 686) (by decide +kernel), by decide +kernel⟩
theorem u_687 : (Cond.fieldLink R_Mod 115 "CrossesAllOldModel" "squares" "I" : Cond) ∈ gd_tbl := List.mem_filter.mpr ⟨List.mem_of_getElem? (i := 687) (by decide +kernel), by decide +kernel⟩
theorem u_688 : (Cond.fieldLink R_Mod 118 "CrossesAllOldModel" "meet" "I" : Cond) ∈ gd_tbl := List.mem_filter.mpr ⟨List.mem_of_getElem? (i := 688) (by decide +kernel), by decide +kernel⟩
theorem u_738 : (Cond.instanceMethod y_Mod_letter : Cond) ∈ gd_tbl := List.mem_filter.mpr ⟨List.mem_of_getElem? (i := 738) (by decide +kernel), by decide +kernel⟩
theorem u_739 : (Cond.selects R_Mod y_Mod_letter y_Mod_letter : Cond) ∈ gd_tbl := List.mem_filter.mpr ⟨List.mem_of_getElem? (i := 739) (by decide +kernel), by decide +kernel⟩
theorem u_740 : (Cond.code y_Mod_letter b_Mod_letter 2 (some .int) : Cond) ∈ gd_tbl := List.mem_filter.mpr ⟨List.mem_of_getElem? (i := 740) (by decide +kernel), by decide +kernel⟩
theorem u_741 : (Cond.methodLink R_Mod 54 y_Mod_no : Cond) ∈ gd_tbl := List.mem_filter.mpr ⟨List.mem_of_getElem? (i := 741) (by decide +kernel), by decide +kernel⟩
theorem u_743 : (Cond.instanceMethod y_Mod_no : Cond) ∈ gd_tbl := List.mem_filter.mpr ⟨List.mem_of_getElem? (i := 743) (by decide +kernel), by decide +kernel⟩
theorem u_744 : (Cond.code y_Mod_no b_Mod_no 2 (some .int) : Cond) ∈ gd_tbl := List.mem_filter.mpr ⟨List.mem_of_getElem? (i := 744) (by decide +kernel), by decide +kernel⟩
theorem u_746 : (Cond.instanceMethod y_Mod_town : Cond) ∈ gd_tbl := List.mem_filter.mpr ⟨List.mem_of_getElem? (i := 746) (by decide +kernel), by decide +kernel⟩
theorem u_747 : (Cond.selects R_Mod y_Mod_town y_Mod_town : Cond) ∈ gd_tbl := List.mem_filter.mpr ⟨List.mem_of_getElem? (i := 747) (by decide +kernel), by decide +kernel⟩
theorem u_748 : (Cond.code y_Mod_town b_Mod_town 4 (some .int) : Cond) ∈ gd_tbl := List.mem_filter.mpr ⟨List.mem_of_getElem? (i := 748) (by decide +kernel), by decide +kernel⟩
theorem u_749 : (Cond.methodLink R_Mod 97 y_Mod_statement : Cond) ∈ gd_tbl := List.mem_filter.mpr ⟨List.mem_of_getElem? (i := 749) (by decide +kernel), by decide +kernel⟩
theorem u_751 : (Cond.instanceMethod y_Mod_statement : Cond) ∈ gd_tbl := List.mem_filter.mpr ⟨List.mem_of_getElem? (i := 751) (by decide +kernel), by decide +kernel⟩
theorem u_752 : (Cond.code y_Mod_statement b_Mod_statement 3 (some .int) : Cond) ∈ gd_tbl := List.mem_filter.mpr ⟨List.mem_of_getElem? (i := 752) (by decide +kernel), by decide +kernel⟩
theorem u_753 : (Cond.methodLink R_Mod 75 y_Mod_is : Cond) ∈ gd_tbl := List.mem_filter.mpr ⟨List.mem_of_getElem? (i := 753) (by decide +kernel), by decide +kernel⟩
theorem u_755 : (Cond.instanceMethod y_Mod_is : Cond) ∈ gd_tbl := List.mem_filter.mpr ⟨List.mem_of_getElem? (i := 755) (by decide +kernel), by decide +kernel⟩
theorem u_756 : (Cond.code y_Mod_is b_Mod_is 2 (some .boolean) : Cond) ∈ gd_tbl := List.mem_filter.mpr ⟨List.mem_of_getElem? (i := 756) (by decide +kernel), by decide +kernel⟩
theorem u_757 : (Cond.methodLink R_Mod 83 y_Mod_number : Cond) ∈ gd_tbl := List.mem_filter.mpr ⟨List.mem_of_getElem? (i := 757) (by decide +kernel), by decide +kernel⟩
theorem u_759 : (Cond.instanceMethod y_Mod_number : Cond) ∈ gd_tbl := List.mem_filter.mpr ⟨List.mem_of_getElem? (i := 759) (by decide +kernel), by decide +kernel⟩
theorem u_760 : (Cond.code y_Mod_number b_Mod_number 5 (some .boolean) : Cond) ∈ gd_tbl := List.mem_filter.mpr ⟨List.mem_of_getElem? (i := 760) (by decide +kernel), by decide +kernel⟩
theorem u_761 : (Cond.methodLink R_Mod 79 y_Mod_isDigit : Cond) ∈ gd_tbl := List.mem_filter.mpr ⟨List.mem_of_getElem? (i := 761) (by decide +kernel), by decide +kernel⟩
theorem u_763 : (Cond.instanceMethod y_Mod_isDigit : Cond) ∈ gd_tbl := List.mem_filter.mpr ⟨List.mem_of_getElem? (i := 763) (by decide +kernel), by decide +kernel⟩
theorem u_764 : (Cond.code y_Mod_isDigit b_Mod_isDigit 1 (some .boolean) : Cond) ∈ gd_tbl := List.mem_filter.mpr ⟨List.mem_of_getElem? (i := 764) (by decide +kernel), by decide +kernel⟩
theorem u_765 : (Cond.methodLink R_Mod 62 y_Mod_within : Cond) ∈ gd_tbl := List.mem_filter.mpr ⟨List.mem_of_getElem? (i := 765) (by decide +kernel), by decide +kernel⟩
theorem u_766 : (Cond.static y_Mod_within : Cond) ∈ gd_tbl := List.mem_filter.mpr ⟨List.mem_of_getElem? (i := 766) (by decide +kernel), by decide +kernel⟩
theorem u_767 : (Cond.code y_Mod_within b_Mod_within 3 (some .boolean) : Cond) ∈ gd_tbl := List.mem_filter.mpr ⟨List.mem_of_getElem? (i := 767) (by decide +kernel), by decide +kernel⟩
theorem u_769 : (Cond.methodLink R_Mod 89 y_Str_indexOf1 : Cond) ∈ gd_tbl := List.mem_filter.mpr ⟨List.mem_of_getElem? (i := 769) (by decide +kernel), by decide +kernel⟩
theorem u_770 : (Cond.methodLink R_Mod 94 y_Mod_isDirection : Cond) ∈ gd_tbl := List.mem_filter.mpr ⟨List.mem_of_getElem? (i := 770) (by decide +kernel), by decide +kernel⟩
theorem u_772 : (Cond.instanceMethod y_Mod_isDirection : Cond) ∈ gd_tbl := List.mem_filter.mpr ⟨List.mem_of_getElem? (i := 772) (by decide +kernel), by decide +kernel⟩
theorem u_773 : (Cond.code y_Mod_isDirection b_Mod_isDirection 5 (some .boolean) : Cond) ∈ gd_tbl := List.mem_filter.mpr ⟨List.mem_of_getElem? (i := 773) (by decide +kernel), by decide +kernel⟩
theorem u_774 : (Cond.methodLink R_Mod 101 y_Mod_keep : Cond) ∈ gd_tbl := List.mem_filter.mpr ⟨List.mem_of_getElem? (i := 774) (by decide +kernel), by decide +kernel⟩
theorem u_776 : (Cond.instanceMethod y_Mod_keep : Cond) ∈ gd_tbl := List.mem_filter.mpr ⟨List.mem_of_getElem? (i := 776) (by decide +kernel), by decide +kernel⟩
theorem u_777 : (Cond.code y_Mod_keep b_Mod_keep 3 none : Cond) ∈ gd_tbl := List.mem_filter.mpr ⟨List.mem_of_getElem? (i := 777) (by decide +kernel), by decide +kernel⟩
theorem u_778 : (Cond.methodLink R_Mod 105 y_Mod_again : Cond) ∈ gd_tbl := List.mem_filter.mpr ⟨List.mem_of_getElem? (i := 778) (by decide +kernel), by decide +kernel⟩
theorem u_780 : (Cond.instanceMethod y_Mod_again : Cond) ∈ gd_tbl := List.mem_filter.mpr ⟨List.mem_of_getElem? (i := 780) (by decide +kernel), by decide +kernel⟩
theorem u_781 : (Cond.code y_Mod_again b_Mod_again 3 none : Cond) ∈ gd_tbl := List.mem_filter.mpr ⟨List.mem_of_getElem? (i := 781) (by decide +kernel), by decide +kernel⟩
theorem u_783 : (Cond.instanceMethod y_Mod_street : Cond) ∈ gd_tbl := List.mem_filter.mpr ⟨List.mem_of_getElem? (i := 783) (by decide +kernel), by decide +kernel⟩
theorem u_784 : (Cond.selects R_Mod y_Mod_street y_Mod_street : Cond) ∈ gd_tbl := List.mem_filter.mpr ⟨List.mem_of_getElem? (i := 784) (by decide +kernel), by decide +kernel⟩
theorem u_785 : (Cond.code y_Mod_street b_Mod_street 3 (some .int) : Cond) ∈ gd_tbl := List.mem_filter.mpr ⟨List.mem_of_getElem? (i := 785) (by decide +kernel), by decide +kernel⟩
theorem u_786 : (Cond.methodLink R_Mod 154 y_Mod_isStreet : Cond) ∈ gd_tbl := List.mem_filter.mpr ⟨List.mem_of_getElem? (i := 786) (by decide +kernel), by decide +kernel⟩
theorem u_788 : (Cond.instanceMethod y_Mod_isStreet : Cond) ∈ gd_tbl := List.mem_filter.mpr ⟨List.mem_of_getElem? (i := 788) (by decide +kernel), by decide +kernel⟩
theorem u_789 : (Cond.code y_Mod_isStreet b_Mod_isStreet 2 (some .boolean) : Cond) ∈ gd_tbl := List.mem_filter.mpr ⟨List.mem_of_getElem? (i := 789) (by decide +kernel), by decide +kernel⟩
theorem u_790 : (Cond.methodLink R_Mod 157 y_Mod_noFar : Cond) ∈ gd_tbl := List.mem_filter.mpr ⟨List.mem_of_getElem? (i := 790) (by decide +kernel), by decide +kernel⟩
theorem u_792 : (Cond.instanceMethod y_Mod_noFar : Cond) ∈ gd_tbl := List.mem_filter.mpr ⟨List.mem_of_getElem? (i := 792) (by decide +kernel), by decide +kernel⟩
theorem u_793 : (Cond.code y_Mod_noFar b_Mod_noFar 2 (some .int) : Cond) ∈ gd_tbl := List.mem_filter.mpr ⟨List.mem_of_getElem? (i := 793) (by decide +kernel), by decide +kernel⟩
theorem u_794 : (Cond.constant R_Mod 53 (1000000000) : Cond) ∈ gd_tbl := List.mem_filter.mpr ⟨List.mem_of_getElem? (i := 794) (by decide +kernel), by decide +kernel⟩
theorem u_795 : (Cond.methodLink R_Mod 160 y_Mod_lampsOf : Cond) ∈ gd_tbl := List.mem_filter.mpr ⟨List.mem_of_getElem? (i := 795) (by decide +kernel), by decide +kernel⟩
theorem u_797 : (Cond.instanceMethod y_Mod_lampsOf : Cond) ∈ gd_tbl := List.mem_filter.mpr ⟨List.mem_of_getElem? (i := 797) (by decide +kernel), by decide +kernel⟩
theorem u_798 : (Cond.code y_Mod_lampsOf b_Mod_lampsOf 3 (some .int) : Cond) ∈ gd_tbl := List.mem_filter.mpr ⟨List.mem_of_getElem? (i := 798) (by decide +kernel), by decide +kernel⟩
theorem u_799 : (Cond.methodLink R_Mod 150 y_Mod_pointsOf : Cond) ∈ gd_tbl := List.mem_filter.mpr ⟨List.mem_of_getElem? (i := 799) (by decide +kernel), by decide +kernel⟩
theorem u_801 : (Cond.instanceMethod y_Mod_pointsOf : Cond) ∈ gd_tbl := List.mem_filter.mpr ⟨List.mem_of_getElem? (i := 801) (by decide +kernel), by decide +kernel⟩
theorem u_802 : (Cond.code y_Mod_pointsOf b_Mod_pointsOf 8 (some .int) : Cond) ∈ gd_tbl := List.mem_filter.mpr ⟨List.mem_of_getElem? (i := 802) (by decide +kernel), by decide +kernel⟩
theorem u_803 : (Cond.methodLink R_Mod 125 y_Mod_isFirst : Cond) ∈ gd_tbl := List.mem_filter.mpr ⟨List.mem_of_getElem? (i := 803) (by decide +kernel), by decide +kernel⟩
theorem u_805 : (Cond.instanceMethod y_Mod_isFirst : Cond) ∈ gd_tbl := List.mem_filter.mpr ⟨List.mem_of_getElem? (i := 805) (by decide +kernel), by decide +kernel⟩
theorem u_806 : (Cond.code y_Mod_isFirst b_Mod_isFirst 4 (some .boolean) : Cond) ∈ gd_tbl := List.mem_filter.mpr ⟨List.mem_of_getElem? (i := 806) (by decide +kernel), by decide +kernel⟩
theorem u_807 : (Cond.methodLink R_Mod 108 y_Mod_sideOfCrossing : Cond) ∈ gd_tbl := List.mem_filter.mpr ⟨List.mem_of_getElem? (i := 807) (by decide +kernel), by decide +kernel⟩
theorem u_809 : (Cond.instanceMethod y_Mod_sideOfCrossing : Cond) ∈ gd_tbl := List.mem_filter.mpr ⟨List.mem_of_getElem? (i := 809) (by decide +kernel), by decide +kernel⟩
theorem u_810 : (Cond.code y_Mod_sideOfCrossing b_Mod_sideOfCrossing 8 (some .int) : Cond) ∈ gd_tbl := List.mem_filter.mpr ⟨List.mem_of_getElem? (i := 810) (by decide +kernel), by decide +kernel⟩
theorem u_812 : (Cond.instanceMethod y_Mod_plot : Cond) ∈ gd_tbl := List.mem_filter.mpr ⟨List.mem_of_getElem? (i := 812) (by decide +kernel), by decide +kernel⟩
theorem u_813 : (Cond.selects R_Mod y_Mod_plot y_Mod_plot : Cond) ∈ gd_tbl := List.mem_filter.mpr ⟨List.mem_of_getElem? (i := 813) (by decide +kernel), by decide +kernel⟩
theorem u_814 : (Cond.code y_Mod_plot b_Mod_plot 3 (some .int) : Cond) ∈ gd_tbl := List.mem_filter.mpr ⟨List.mem_of_getElem? (i := 814) (by decide +kernel), by decide +kernel⟩
theorem u_815 : (Cond.methodLink R_Mod 163 y_Mod_isPlot : Cond) ∈ gd_tbl := List.mem_filter.mpr ⟨List.mem_of_getElem? (i := 815) (by decide +kernel), by decide +kernel⟩
theorem u_817 : (Cond.instanceMethod y_Mod_isPlot : Cond) ∈ gd_tbl := List.mem_filter.mpr ⟨List.mem_of_getElem? (i := 817) (by decide +kernel), by decide +kernel⟩
theorem u_818 : (Cond.code y_Mod_isPlot b_Mod_isPlot 2 (some .boolean) : Cond) ∈ gd_tbl := List.mem_filter.mpr ⟨List.mem_of_getElem? (i := 818) (by decide +kernel), by decide +kernel⟩
theorem u_820 : (Cond.instanceMethod y_Mod_crossing : Cond) ∈ gd_tbl := List.mem_filter.mpr ⟨List.mem_of_getElem? (i := 820) (by decide +kernel), by decide +kernel⟩
theorem u_821 : (Cond.selects R_Mod y_Mod_crossing y_Mod_crossing : Cond) ∈ gd_tbl := List.mem_filter.mpr ⟨List.mem_of_getElem? (i := 821) (by decide +kernel), by decide +kernel⟩
theorem u_822 : (Cond.code y_Mod_crossing b_Mod_crossing 9 (some .int) : Cond) ∈ gd_tbl := List.mem_filter.mpr ⟨List.mem_of_getElem? (i := 822) (by decide +kernel), by decide +kernel⟩
theorem u_825 : (Cond.instanceMethod y_Mod_quarters : Cond) ∈ gd_tbl := List.mem_filter.mpr ⟨List.mem_of_getElem? (i := 825) (by decide +kernel), by decide +kernel⟩
theorem u_826 : (Cond.selects R_Mod y_Mod_quarters y_Mod_quarters : Cond) ∈ gd_tbl := List.mem_filter.mpr ⟨List.mem_of_getElem? (i := 826) (by decide +kernel), by decide +kernel⟩
theorem u_827 : (Cond.code y_Mod_quarters b_Mod_quarters 1 (some .int) : Cond) ∈ gd_tbl := List.mem_filter.mpr ⟨List.mem_of_getElem? (i := 827) (by decide +kernel), by decide +kernel⟩
theorem u_828 : (Cond.methodLink R_Mod 146 y_Mod_lay : Cond) ∈ gd_tbl := List.mem_filter.mpr ⟨List.mem_of_getElem? (i := 828) (by decide +kernel), by decide +kernel⟩
theorem u_830 : (Cond.instanceMethod y_Mod_lay : Cond) ∈ gd_tbl := List.mem_filter.mpr ⟨List.mem_of_getElem? (i := 830) (by decide +kernel), by decide +kernel⟩
theorem u_831 : (Cond.code y_Mod_lay b_Mod_lay 9 none : Cond) ∈ gd_tbl := List.mem_filter.mpr ⟨List.mem_of_getElem? (i := 831) (by decide +kernel), by decide +kernel⟩
theorem u_832 : (Cond.methodLink R_Mod 121 y_Mod_along : Cond) ∈ gd_tbl := List.mem_filter.mpr ⟨List.mem_of_getElem? (i := 832) (by decide +kernel), by decide +kernel⟩
theorem u_834 : (Cond.instanceMethod y_Mod_along : Cond) ∈ gd_tbl := List.mem_filter.mpr ⟨List.mem_of_getElem? (i := 834) (by decide +kernel), by decide +kernel⟩
theorem u_835 : (Cond.code y_Mod_along b_Mod_along 5 (some .int) : Cond) ∈ gd_tbl := List.mem_filter.mpr ⟨List.mem_of_getElem? (i := 835) (by decide +kernel), by decide +kernel⟩
theorem u_836 : (Cond.methodLink R_Mod 129 y_Int_bitCount : Cond) ∈ gd_tbl := List.mem_filter.mpr ⟨List.mem_of_getElem? (i := 836) (by decide +kernel), by decide +kernel⟩
theorem u_838 : (Cond.methodLink R_Mod 140 y_Mod_isAbout : Cond) ∈ gd_tbl := List.mem_filter.mpr ⟨List.mem_of_getElem? (i := 838) (by decide +kernel), by decide +kernel⟩
theorem u_840 : (Cond.instanceMethod y_Mod_isAbout : Cond) ∈ gd_tbl := List.mem_filter.mpr ⟨List.mem_of_getElem? (i := 840) (by decide +kernel), by decide +kernel⟩
theorem u_841 : (Cond.code y_Mod_isAbout b_Mod_isAbout 8 (some .boolean) : Cond) ∈ gd_tbl := List.mem_filter.mpr ⟨List.mem_of_getElem? (i := 841) (by decide +kernel), by decide +kernel⟩
theorem u_842 : (Cond.methodLink R_Mod 143 y_Mod_has : Cond) ∈ gd_tbl := List.mem_filter.mpr ⟨List.mem_of_getElem? (i := 842) (by decide +kernel), by decide +kernel⟩
theorem u_843 : (Cond.static y_Mod_has : Cond) ∈ gd_tbl := List.mem_filter.mpr ⟨List.mem_of_getElem? (i := 843) (by decide +kernel), by decide +kernel⟩
theorem u_844 : (Cond.code y_Mod_has b_Mod_has 2 (some .boolean) : Cond) ∈ gd_tbl := List.mem_filter.mpr ⟨List.mem_of_getElem? (i := 844) (by decide +kernel), by decide +kernel⟩
theorem u_845 : (Cond.methodLink R_Mod 169 y_Mod_howMany : Cond) ∈ gd_tbl := List.mem_filter.mpr ⟨List.mem_of_getElem? (i := 845) (by decide +kernel), by decide +kernel⟩
theorem u_847 : (Cond.instanceMethod y_Mod_howMany : Cond) ∈ gd_tbl := List.mem_filter.mpr ⟨List.mem_of_getElem? (i := 847) (by decide +kernel), by decide +kernel⟩
theorem u_848 : (Cond.code y_Mod_howMany b_Mod_howMany 3 (some .int) : Cond) ∈ gd_tbl := List.mem_filter.mpr ⟨List.mem_of_getElem? (i := 848) (by decide +kernel), by decide +kernel⟩
theorem u_850 : (Cond.instanceMethod y_Mod_open : Cond) ∈ gd_tbl := List.mem_filter.mpr ⟨List.mem_of_getElem? (i := 850) (by decide +kernel), by decide +kernel⟩
theorem u_851 : (Cond.selects R_Mod y_Mod_open y_Mod_open : Cond) ∈ gd_tbl := List.mem_filter.mpr ⟨List.mem_of_getElem? (i := 851) (by decide +kernel), by decide +kernel⟩
theorem u_852 : (Cond.code y_Mod_open b_Mod_open 3 (some .int) : Cond) ∈ gd_tbl := List.mem_filter.mpr ⟨List.mem_of_getElem? (i := 852) (by decide +kernel), by decide +kernel⟩
theorem u_854 : (Cond.instanceMethod y_Mod_with : Cond) ∈ gd_tbl := List.mem_filter.mpr ⟨List.mem_of_getElem? (i := 854) (by decide +kernel), by decide +kernel⟩
theorem u_855 : (Cond.selects R_Mod y_Mod_with y_Mod_with : Cond) ∈ gd_tbl := List.mem_filter.mpr ⟨List.mem_of_getElem? (i := 855) (by decide +kernel), by decide +kernel⟩
theorem u_856 : (Cond.code y_Mod_with b_Mod_with 4 (some .int) : Cond) ∈ gd_tbl := List.mem_filter.mpr ⟨List.mem_of_getElem? (i := 856) (by decide +kernel), by decide +kernel⟩
theorem u_858 : (Cond.instanceMethod y_Mod_corners : Cond) ∈ gd_tbl := List.mem_filter.mpr ⟨List.mem_of_getElem? (i := 858) (by decide +kernel), by decide +kernel⟩
theorem u_859 : (Cond.selects R_Mod y_Mod_corners y_Mod_corners : Cond) ∈ gd_tbl := List.mem_filter.mpr ⟨List.mem_of_getElem? (i := 859) (by decide +kernel), by decide +kernel⟩
theorem u_860 : (Cond.code y_Mod_corners b_Mod_corners 2 (some .int) : Cond) ∈ gd_tbl := List.mem_filter.mpr ⟨List.mem_of_getElem? (i := 860) (by decide +kernel), by decide +kernel⟩
theorem u_861 : (Cond.methodLink R_Mod 173 y_Mod_isQuarter : Cond) ∈ gd_tbl := List.mem_filter.mpr ⟨List.mem_of_getElem? (i := 861) (by decide +kernel), by decide +kernel⟩
theorem u_863 : (Cond.instanceMethod y_Mod_isQuarter : Cond) ∈ gd_tbl := List.mem_filter.mpr ⟨List.mem_of_getElem? (i := 863) (by decide +kernel), by decide +kernel⟩
theorem u_864 : (Cond.code y_Mod_isQuarter b_Mod_isQuarter 2 (some .boolean) : Cond) ∈ gd_tbl := List.mem_filter.mpr ⟨List.mem_of_getElem? (i := 864) (by decide +kernel), by decide +kernel⟩
theorem u_866 : (Cond.instanceMethod y_Mod_sides : Cond) ∈ gd_tbl := List.mem_filter.mpr ⟨List.mem_of_getElem? (i := 866) (by decide +kernel), by decide +kernel⟩
theorem u_867 : (Cond.selects R_Mod y_Mod_sides y_Mod_sides : Cond) ∈ gd_tbl := List.mem_filter.mpr ⟨List.mem_of_getElem? (i := 867) (by decide +kernel), by decide +kernel⟩
theorem u_868 : (Cond.code y_Mod_sides b_Mod_sides 2 (some .int) : Cond) ∈ gd_tbl := List.mem_filter.mpr ⟨List.mem_of_getElem? (i := 868) (by decide +kernel), by decide +kernel⟩
theorem u_869 : (Cond.methodLink R_Mod 176 y_Mod_sidesOf : Cond) ∈ gd_tbl := List.mem_filter.mpr ⟨List.mem_of_getElem? (i := 869) (by decide +kernel), by decide +kernel⟩
theorem u_871 : (Cond.instanceMethod y_Mod_sidesOf : Cond) ∈ gd_tbl := List.mem_filter.mpr ⟨List.mem_of_getElem? (i := 871) (by decide +kernel), by decide +kernel⟩
theorem u_872 : (Cond.code y_Mod_sidesOf b_Mod_sidesOf 4 (some .int) : Cond) ∈ gd_tbl := List.mem_filter.mpr ⟨List.mem_of_getElem? (i := 872) (by decide +kernel), by decide +kernel⟩
theorem u_874 : (Cond.instanceMethod y_Mod_isOpen : Cond) ∈ gd_tbl := List.mem_filter.mpr ⟨List.mem_of_getElem? (i := 874) (by decide +kernel), by decide +kernel⟩
theorem u_875 : (Cond.selects R_Mod y_Mod_isOpen y_Mod_isOpen : Cond) ∈ gd_tbl := List.mem_filter.mpr ⟨List.mem_of_getElem? (i := 875) (by decide +kernel), by decide +kernel⟩
theorem u_876 : (Cond.code y_Mod_isOpen b_Mod_isOpen 2 (some .int) : Cond) ∈ gd_tbl := List.mem_filter.mpr ⟨List.mem_of_getElem? (i := 876) (by decide +kernel), by decide +kernel⟩
theorem u_878 : (Cond.instanceMethod y_Mod_whole : Cond) ∈ gd_tbl := List.mem_filter.mpr ⟨List.mem_of_getElem? (i := 878) (by decide +kernel), by decide +kernel⟩
theorem u_879 : (Cond.selects R_Mod y_Mod_whole y_Mod_whole : Cond) ∈ gd_tbl := List.mem_filter.mpr ⟨List.mem_of_getElem? (i := 879) (by decide +kernel), by decide +kernel⟩
theorem u_880 : (Cond.code y_Mod_whole b_Mod_whole 3 (some .int) : Cond) ∈ gd_tbl := List.mem_filter.mpr ⟨List.mem_of_getElem? (i := 880) (by decide +kernel), by decide +kernel⟩
theorem u_882 : (Cond.instanceMethod y_Mod_points : Cond) ∈ gd_tbl := List.mem_filter.mpr ⟨List.mem_of_getElem? (i := 882) (by decide +kernel), by decide +kernel⟩
theorem u_883 : (Cond.selects R_Mod y_Mod_points y_Mod_points : Cond) ∈ gd_tbl := List.mem_filter.mpr ⟨List.mem_of_getElem? (i := 883) (by decide +kernel), by decide +kernel⟩
theorem u_884 : (Cond.code y_Mod_points b_Mod_points 2 (some .int) : Cond) ∈ gd_tbl := List.mem_filter.mpr ⟨List.mem_of_getElem? (i := 884) (by decide +kernel), by decide +kernel⟩
theorem u_886 : (Cond.instanceMethod y_Mod_lamps : Cond) ∈ gd_tbl := List.mem_filter.mpr ⟨List.mem_of_getElem? (i := 886) (by decide +kernel), by decide +kernel⟩
theorem u_887 : (Cond.selects R_Mod y_Mod_lamps y_Mod_lamps : Cond) ∈ gd_tbl := List.mem_filter.mpr ⟨List.mem_of_getElem? (i := 887) (by decide +kernel), by decide +kernel⟩
theorem u_888 : (Cond.code y_Mod_lamps b_Mod_lamps 3 (some .int) : Cond) ∈ gd_tbl := List.mem_filter.mpr ⟨List.mem_of_getElem? (i := 888) (by decide +kernel), by decide +kernel⟩
theorem u_890 : (Cond.instanceMethod y_Mod_where : Cond) ∈ gd_tbl := List.mem_filter.mpr ⟨List.mem_of_getElem? (i := 890) (by decide +kernel), by decide +kernel⟩
theorem u_891 : (Cond.selects R_Mod y_Mod_where y_Mod_where : Cond) ∈ gd_tbl := List.mem_filter.mpr ⟨List.mem_of_getElem? (i := 891) (by decide +kernel), by decide +kernel⟩
theorem u_892 : (Cond.code y_Mod_where b_Mod_where 2 (some .int) : Cond) ∈ gd_tbl := List.mem_filter.mpr ⟨List.mem_of_getElem? (i := 892) (by decide +kernel), by decide +kernel⟩
theorem u_893 : (Cond.methodLink R_Mod 184 y_Mod_whereIs : Cond) ∈ gd_tbl := List.mem_filter.mpr ⟨List.mem_of_getElem? (i := 893) (by decide +kernel), by decide +kernel⟩
theorem u_895 : (Cond.instanceMethod y_Mod_whereIs : Cond) ∈ gd_tbl := List.mem_filter.mpr ⟨List.mem_of_getElem? (i := 895) (by decide +kernel), by decide +kernel⟩
theorem u_896 : (Cond.code y_Mod_whereIs b_Mod_whereIs 2 (some .int) : Cond) ∈ gd_tbl := List.mem_filter.mpr ⟨List.mem_of_getElem? (i := 896) (by decide +kernel), by decide +kernel⟩
theorem u_897 : (Cond.methodLink R_Mod 182 y_Mod_at : Cond) ∈ gd_tbl := List.mem_filter.mpr ⟨List.mem_of_getElem? (i := 897) (by decide +kernel), by decide +kernel⟩
theorem u_899 : (Cond.instanceMethod y_Mod_at : Cond) ∈ gd_tbl := List.mem_filter.mpr ⟨List.mem_of_getElem? (i := 899) (by decide +kernel), by decide +kernel⟩
theorem u_900 : (Cond.code y_Mod_at b_Mod_at 6 (some .int) : Cond) ∈ gd_tbl := List.mem_filter.mpr ⟨List.mem_of_getElem? (i := 900) (by decide +kernel), by decide +kernel⟩
theorem u_901 : (Cond.methodLink R_Mod 179 y_Mod_side : Cond) ∈ gd_tbl := List.mem_filter.mpr ⟨List.mem_of_getElem? (i := 901) (by decide +kernel), by decide +kernel⟩
theorem u_903 : (Cond.instanceMethod y_Mod_side : Cond) ∈ gd_tbl := List.mem_filter.mpr ⟨List.mem_of_getElem? (i := 903) (by decide +kernel), by decide +kernel⟩
theorem u_904 : (Cond.code y_Mod_side b_Mod_side 5 (some .int) : Cond) ∈ gd_tbl := List.mem_filter.mpr ⟨List.mem_of_getElem? (i := 904) (by decide +kernel), by decide +kernel⟩
theorem u_906 : (Cond.instanceMethod y_Mod_together : Cond) ∈ gd_tbl := List.mem_filter.mpr ⟨List.mem_of_getElem? (i := 906) (by decide +kernel), by decide +kernel⟩
theorem u_907 : (Cond.selects R_Mod y_Mod_together y_Mod_together : Cond) ∈ gd_tbl := List.mem_filter.mpr ⟨List.mem_of_getElem? (i := 907) (by decide +kernel), by decide +kernel⟩
theorem u_908 : (Cond.code y_Mod_together b_Mod_together 5 (some .int) : Cond) ∈ gd_tbl := List.mem_filter.mpr ⟨List.mem_of_getElem? (i := 908) (by decide +kernel), by decide +kernel⟩
theorem u_910 : (Cond.instanceMethod y_Mod_steps : Cond) ∈ gd_tbl := List.mem_filter.mpr ⟨List.mem_of_getElem? (i := 910) (by decide +kernel), by decide +kernel⟩
theorem u_911 : (Cond.selects R_Mod y_Mod_steps y_Mod_steps : Cond) ∈ gd_tbl := List.mem_filter.mpr ⟨List.mem_of_getElem? (i := 911) (by decide +kernel), by decide +kernel⟩
theorem u_912 : (Cond.code y_Mod_steps b_Mod_steps 5 (some .int) : Cond) ∈ gd_tbl := List.mem_filter.mpr ⟨List.mem_of_getElem? (i := 912) (by decide +kernel), by decide +kernel⟩
theorem u_914 : (Cond.instanceMethod y_Mod_next : Cond) ∈ gd_tbl := List.mem_filter.mpr ⟨List.mem_of_getElem? (i := 914) (by decide +kernel), by decide +kernel⟩
theorem u_915 : (Cond.selects R_Mod y_Mod_next y_Mod_next : Cond) ∈ gd_tbl := List.mem_filter.mpr ⟨List.mem_of_getElem? (i := 915) (by decide +kernel), by decide +kernel⟩
theorem u_916 : (Cond.code y_Mod_next b_Mod_next 7 (some .int) : Cond) ∈ gd_tbl := List.mem_filter.mpr ⟨List.mem_of_getElem? (i := 916) (by decide +kernel), by decide +kernel⟩
theorem u_917 : (Cond.methodLink R_Mod 187 y_Mod_think : Cond) ∈ gd_tbl := List.mem_filter.mpr ⟨List.mem_of_getElem? (i := 917) (by decide +kernel), by decide +kernel⟩
theorem u_919 : (Cond.instanceMethod y_Mod_think : Cond) ∈ gd_tbl := List.mem_filter.mpr ⟨List.mem_of_getElem? (i := 919) (by decide +kernel), by decide +kernel⟩
theorem u_920 : (Cond.code y_Mod_think b_Mod_think 4 none : Cond) ∈ gd_tbl := List.mem_filter.mpr ⟨List.mem_of_getElem? (i := 920) (by decide +kernel), by decide +kernel⟩
theorem u_921 : (Cond.methodLink R_Mod 191 y_Mod_cuts : Cond) ∈ gd_tbl := List.mem_filter.mpr ⟨List.mem_of_getElem? (i := 921) (by decide +kernel), by decide +kernel⟩
theorem u_923 : (Cond.instanceMethod y_Mod_cuts : Cond) ∈ gd_tbl := List.mem_filter.mpr ⟨List.mem_of_getElem? (i := 923) (by decide +kernel), by decide +kernel⟩
theorem u_924 : (Cond.code y_Mod_cuts b_Mod_cuts 2 (some .boolean) : Cond) ∈ gd_tbl := List.mem_filter.mpr ⟨List.mem_of_getElem? (i := 924) (by decide +kernel), by decide +kernel⟩
theorem u_926 : (Cond.instanceMethod y_Mod_through : Cond) ∈ gd_tbl := List.mem_filter.mpr ⟨List.mem_of_getElem? (i := 926) (by decide +kernel), by decide +kernel⟩
theorem u_927 : (Cond.selects R_Mod y_Mod_through y_Mod_through : Cond) ∈ gd_tbl := List.mem_filter.mpr ⟨List.mem_of_getElem? (i := 927) (by decide +kernel), by decide +kernel⟩
theorem u_928 : (Cond.code y_Mod_through b_Mod_through 4 (some .int) : Cond) ∈ gd_tbl := List.mem_filter.mpr ⟨List.mem_of_getElem? (i := 928) (by decide +kernel), by decide +kernel⟩
theorem u_930 : (Cond.instanceMethod y_Mod_spare : Cond) ∈ gd_tbl := List.mem_filter.mpr ⟨List.mem_of_getElem? (i := 930) (by decide +kernel), by decide +kernel⟩
theorem u_931 : (Cond.selects R_Mod y_Mod_spare y_Mod_spare : Cond) ∈ gd_tbl := List.mem_filter.mpr ⟨List.mem_of_getElem? (i := 931) (by decide +kernel), by decide +kernel⟩
theorem u_932 : (Cond.code y_Mod_spare b_Mod_spare 7 (some .int) : Cond) ∈ gd_tbl := List.mem_filter.mpr ⟨List.mem_of_getElem? (i := 932) (by decide +kernel), by decide +kernel⟩
theorem u_934 : (Cond.instanceMethod y_Mod_most : Cond) ∈ gd_tbl := List.mem_filter.mpr ⟨List.mem_of_getElem? (i := 934) (by decide +kernel), by decide +kernel⟩
theorem u_935 : (Cond.selects R_Mod y_Mod_most y_Mod_most : Cond) ∈ gd_tbl := List.mem_filter.mpr ⟨List.mem_of_getElem? (i := 935) (by decide +kernel), by decide +kernel⟩
theorem u_936 : (Cond.code y_Mod_most b_Mod_most 8 (some .int) : Cond) ∈ gd_tbl := List.mem_filter.mpr ⟨List.mem_of_getElem? (i := 936) (by decide +kernel), by decide +kernel⟩
theorem u_938 : (Cond.instanceMethod y_Mod_fear : Cond) ∈ gd_tbl := List.mem_filter.mpr ⟨List.mem_of_getElem? (i := 938) (by decide +kernel), by decide +kernel⟩
theorem u_939 : (Cond.selects R_Mod y_Mod_fear y_Mod_fear : Cond) ∈ gd_tbl := List.mem_filter.mpr ⟨List.mem_of_getElem? (i := 939) (by decide +kernel), by decide +kernel⟩
theorem u_940 : (Cond.code y_Mod_fear b_Mod_fear 9 (some .int) : Cond) ∈ gd_tbl := List.mem_filter.mpr ⟨List.mem_of_getElem? (i := 940) (by decide +kernel), by decide +kernel⟩
theorem u_942 : (Cond.instanceMethod y_Mod_taken : Cond) ∈ gd_tbl := List.mem_filter.mpr ⟨List.mem_of_getElem? (i := 942) (by decide +kernel), by decide +kernel⟩
theorem u_943 : (Cond.selects R_Mod y_Mod_taken y_Mod_taken : Cond) ∈ gd_tbl := List.mem_filter.mpr ⟨List.mem_of_getElem? (i := 943) (by decide +kernel), by decide +kernel⟩
theorem u_944 : (Cond.code y_Mod_taken b_Mod_taken 6 (some .int) : Cond) ∈ gd_tbl := List.mem_filter.mpr ⟨List.mem_of_getElem? (i := 944) (by decide +kernel), by decide +kernel⟩
theorem u_945 : (Cond.methodLink R_Mod 194 y_Mod_without : Cond) ∈ gd_tbl := List.mem_filter.mpr ⟨List.mem_of_getElem? (i := 945) (by decide +kernel), by decide +kernel⟩
theorem u_947 : (Cond.instanceMethod y_Mod_without : Cond) ∈ gd_tbl := List.mem_filter.mpr ⟨List.mem_of_getElem? (i := 947) (by decide +kernel), by decide +kernel⟩
theorem u_948 : (Cond.code y_Mod_without b_Mod_without 7 (some .int) : Cond) ∈ gd_tbl := List.mem_filter.mpr ⟨List.mem_of_getElem? (i := 948) (by decide +kernel), by decide +kernel⟩
theorem u_950 : (Cond.instanceMethod y_Mod_row : Cond) ∈ gd_tbl := List.mem_filter.mpr ⟨List.mem_of_getElem? (i := 950) (by decide +kernel), by decide +kernel⟩
theorem u_951 : (Cond.selects R_Mod y_Mod_row y_Mod_row : Cond) ∈ gd_tbl := List.mem_filter.mpr ⟨List.mem_of_getElem? (i := 951) (by decide +kernel), by decide +kernel⟩
theorem u_952 : (Cond.code y_Mod_row b_Mod_row 2 (some .int) : Cond) ∈ gd_tbl := List.mem_filter.mpr ⟨List.mem_of_getElem? (i := 952) (by decide +kernel), by decide +kernel⟩
theorem u_954 : (Cond.instanceMethod y_Mod_judge : Cond) ∈ gd_tbl := List.mem_filter.mpr ⟨List.mem_of_getElem? (i := 954) (by decide +kernel), by decide +kernel⟩
theorem u_955 : (Cond.selects R_Mod y_Mod_judge y_Mod_judge : Cond) ∈ gd_tbl := List.mem_filter.mpr ⟨List.mem_of_getElem? (i := 955) (by decide +kernel), by decide +kernel⟩
theorem u_956 : (Cond.code y_Mod_judge b_Mod_judge 3 (some .int) : Cond) ∈ gd_tbl := List.mem_filter.mpr ⟨List.mem_of_getElem? (i := 956) (by decide +kernel), by decide +kernel⟩
theorem u_958 : (Cond.instanceMethod y_Mod_seeds : Cond) ∈ gd_tbl := List.mem_filter.mpr ⟨List.mem_of_getElem? (i := 958) (by decide +kernel), by decide +kernel⟩
theorem u_959 : (Cond.selects R_Mod y_Mod_seeds y_Mod_seeds : Cond) ∈ gd_tbl := List.mem_filter.mpr ⟨List.mem_of_getElem? (i := 959) (by decide +kernel), by decide +kernel⟩
theorem u_960 : (Cond.code y_Mod_seeds b_Mod_seeds 10 (some .int) : Cond) ∈ gd_tbl := List.mem_filter.mpr ⟨List.mem_of_getElem? (i := 960) (by decide +kernel), by decide +kernel⟩
theorem u_961 : (Cond.constant R_Mod 200 (1664525) : Cond) ∈ gd_tbl := List.mem_filter.mpr ⟨List.mem_of_getElem? (i := 961) (by decide +kernel), by decide +kernel⟩
theorem u_962 : (Cond.constant R_Mod 201 (1013904223) : Cond) ∈ gd_tbl := List.mem_filter.mpr ⟨List.mem_of_getElem? (i := 962) (by decide +kernel), by decide +kernel⟩
theorem u_963 : (Cond.constant R_Mod 202 (2147483647) : Cond) ∈ gd_tbl := List.mem_filter.mpr ⟨List.mem_of_getElem? (i := 963) (by decide +kernel), by decide +kernel⟩
theorem u_964 : (Cond.methodLink R_Mod 203 y_Lng_bitCount : Cond) ∈ gd_tbl := List.mem_filter.mpr ⟨List.mem_of_getElem? (i := 964) (by decide +kernel), by decide +kernel⟩
theorem u_966 : (Cond.instanceMethod y_Mod_image : Cond) ∈ gd_tbl := List.mem_filter.mpr ⟨List.mem_of_getElem? (i := 966) (by decide +kernel), by decide +kernel⟩
theorem u_967 : (Cond.selects R_Mod y_Mod_image y_Mod_image : Cond) ∈ gd_tbl := List.mem_filter.mpr ⟨List.mem_of_getElem? (i := 967) (by decide +kernel), by decide +kernel⟩
theorem u_968 : (Cond.code y_Mod_image b_Mod_image 1 (some .int) : Cond) ∈ gd_tbl := List.mem_filter.mpr ⟨List.mem_of_getElem? (i := 968) (by decide +kernel), by decide +kernel⟩
theorem u_970 : (Cond.instanceMethod y_Mod_on : Cond) ∈ gd_tbl := List.mem_filter.mpr ⟨List.mem_of_getElem? (i := 970) (by decide +kernel), by decide +kernel⟩
theorem u_971 : (Cond.selects R_Mod y_Mod_on y_Mod_on : Cond) ∈ gd_tbl := List.mem_filter.mpr ⟨List.mem_of_getElem? (i := 971) (by decide +kernel), by decide +kernel⟩
theorem u_972 : (Cond.code y_Mod_on b_Mod_on 1 (some .int) : Cond) ∈ gd_tbl := List.mem_filter.mpr ⟨List.mem_of_getElem? (i := 972) (by decide +kernel), by decide +kernel⟩
theorem u_974 : (Cond.instanceMethod y_Mod_count : Cond) ∈ gd_tbl := List.mem_filter.mpr ⟨List.mem_of_getElem? (i := 974) (by decide +kernel), by decide +kernel⟩
theorem u_975 : (Cond.selects R_Mod y_Mod_count y_Mod_count : Cond) ∈ gd_tbl := List.mem_filter.mpr ⟨List.mem_of_getElem? (i := 975) (by decide +kernel), by decide +kernel⟩
theorem u_976 : (Cond.code y_Mod_count b_Mod_count 2 (some .int) : Cond) ∈ gd_tbl := List.mem_filter.mpr ⟨List.mem_of_getElem? (i := 976) (by decide +kernel), by decide +kernel⟩
theorem u_977 : (Cond.fieldLink R_Str 15 "java/lang/String" "coder" "B" : Cond) ∈ gd_tbl := List.mem_filter.mpr ⟨List.mem_of_getElem? (i := 977) (by decide +kernel), by decide +kernel⟩
theorem u_978 : (Cond.fieldLink R_Str 9 "java/lang/String" "value" "[B" : Cond) ∈ gd_tbl := List.mem_filter.mpr ⟨List.mem_of_getElem? (i := 978) (by decide +kernel), by decide +kernel⟩
theorem u_ms538_max : (Cond.methodLink R_Pla 67 Lib.Math.max.name : Cond) ∈ gd_tbl := List.mem_filter.mpr ⟨List.mem_of_getElem? (i := 538) (by decide +kernel), by decide +kernel⟩
theorem u_ms203_abs : (Cond.methodLink R_Tow 45 Lib.Math.abs.name : Cond) ∈ gd_tbl := List.mem_filter.mpr ⟨List.mem_of_getElem? (i := 203) (by decide +kernel), by decide +kernel⟩
theorem u_mcopy_s287 : (Cond.methodLink R_Tow 51 arraycopyName : Cond) ∈ gd_tbl := List.mem_filter.mpr ⟨List.mem_of_getElem? (i := 287) (by decide +kernel), by decide +kernel⟩
theorem u_ms604_max : (Cond.methodLink R_All 185 Lib.Math.max.name : Cond) ∈ gd_tbl := List.mem_filter.mpr ⟨List.mem_of_getElem? (i := 604) (by decide +kernel), by decide +kernel⟩
theorem u_ms837_max : (Cond.methodLink R_Mod 134 Lib.Math.max.name : Cond) ∈ gd_tbl := List.mem_filter.mpr ⟨List.mem_of_getElem? (i := 837) (by decide +kernel), by decide +kernel⟩
theorem u_ms823_abs : (Cond.methodLink R_Mod 166 Lib.Math.abs.name : Cond) ∈ gd_tbl := List.mem_filter.mpr ⟨List.mem_of_getElem? (i := 823) (by decide +kernel), by decide +kernel⟩
theorem u_ms342_min : (Cond.methodLink R_Lat 38 Lib.Math.min.name : Cond) ∈ gd_tbl := List.mem_filter.mpr ⟨List.mem_of_getElem? (i := 342) (by decide +kernel), by decide +kernel⟩
theorem u_ms339_max : (Cond.methodLink R_Lat 92 Lib.Math.max.name : Cond) ∈ gd_tbl := List.mem_filter.mpr ⟨List.mem_of_getElem? (i := 339) (by decide +kernel), by decide +kernel⟩
theorem u_st_max : (Cond.static Lib.Math.max.name : Cond) ∈ gd_tbl := List.mem_filter.mpr ⟨List.mem_of_getElem? (i := 340) (by decide +kernel), by decide +kernel⟩
theorem u_co_max : (Cond.code Lib.Math.max.name Lib.Math.max.code 2 (some .int) : Cond) ∈ gd_tbl := List.mem_filter.mpr ⟨List.mem_of_getElem? (i := 341) (by decide +kernel), by decide +kernel⟩
theorem u_st_min : (Cond.static Lib.Math.min.name : Cond) ∈ gd_tbl := List.mem_filter.mpr ⟨List.mem_of_getElem? (i := 343) (by decide +kernel), by decide +kernel⟩
theorem u_co_min : (Cond.code Lib.Math.min.name Lib.Math.min.code 2 (some .int) : Cond) ∈ gd_tbl := List.mem_filter.mpr ⟨List.mem_of_getElem? (i := 344) (by decide +kernel), by decide +kernel⟩
theorem u_st_abs : (Cond.static Lib.Math.abs.name : Cond) ∈ gd_tbl := List.mem_filter.mpr ⟨List.mem_of_getElem? (i := 204) (by decide +kernel), by decide +kernel⟩
theorem u_co_abs : (Cond.code Lib.Math.abs.name Lib.Math.abs.code 1 (some .int) : Cond) ∈ gd_tbl := List.mem_filter.mpr ⟨List.mem_of_getElem? (i := 205) (by decide +kernel), by decide +kernel⟩
theorem u_in_Math : (Cond.initialized "java/lang/Math" : Cond) ∈ gd_tbl := List.mem_filter.mpr ⟨List.mem_of_getElem? (i := 53) (by decide +kernel), by decide +kernel⟩
theorem u_st_copy : (Cond.static arraycopyName : Cond) ∈ gd_tbl := List.mem_filter.mpr ⟨List.mem_of_getElem? (i := 288) (by decide +kernel), by decide +kernel⟩
theorem u_na_copy : (Cond.native arraycopyName : Cond) ∈ gd_tbl := List.mem_filter.mpr ⟨List.mem_of_getElem? (i := 289) (by decide +kernel), by decide +kernel⟩
theorem u_in_Sys : (Cond.initialized "java/lang/System" : Cond) ∈ gd_tbl := List.mem_filter.mpr ⟨List.mem_of_getElem? (i := 55) (by decide +kernel), by decide +kernel⟩
theorem ok_Tow_turn : xk_ok y_Tow_turn b_Tow_turn 4 (some .int) 3 := ⟨xk_gin u_194, u_50, by decide +kernel⟩
theorem in_Tow_turn : Cond.instanceMethod y_Tow_turn ∈ gd_tbl ∧ Cond.selects y_Tow_turn.cls y_Tow_turn y_Tow_turn ∈ gd_tbl := ⟨u_192, u_193⟩
theorem ok_Tow_crossingX : xk_ok y_Tow_crossingX b_Tow_crossingX 4 (some .int) 2 := ⟨xk_gin u_190, u_50, by decide +kernel⟩
theorem in_Tow_crossingX : Cond.instanceMethod y_Tow_crossingX ∈ gd_tbl ∧ Cond.selects y_Tow_crossingX.cls y_Tow_crossingX y_Tow_crossingX ∈ gd_tbl := ⟨u_188, u_189⟩
theorem ok_Tow_crossingY : xk_ok y_Tow_crossingY b_Tow_crossingY 4 (some .int) 2 := ⟨xk_gin u_198, u_50, by decide +kernel⟩
theorem in_Tow_crossingY : Cond.instanceMethod y_Tow_crossingY ∈ gd_tbl ∧ Cond.selects y_Tow_crossingY.cls y_Tow_crossingY y_Tow_crossingY ∈ gd_tbl := ⟨u_196, u_197⟩
theorem ok_Tow_crossingBelow : xk_ok y_Tow_crossingBelow b_Tow_crossingBelow 3 (some .int) 2 := ⟨xk_gin u_202, u_50, by decide +kernel⟩
theorem in_Tow_crossingBelow : Cond.instanceMethod y_Tow_crossingBelow ∈ gd_tbl ∧ Cond.selects y_Tow_crossingBelow.cls y_Tow_crossingBelow y_Tow_crossingBelow ∈ gd_tbl := ⟨u_200, u_201⟩
theorem ok_Pla_height : xk_ok y_Pla_height b_Pla_height 5 (some .int) 4 := ⟨xk_gin u_213, u_51, by decide +kernel⟩
theorem in_Pla_height : Cond.instanceMethod y_Pla_height ∈ gd_tbl ∧ Cond.selects y_Pla_height.cls y_Pla_height y_Pla_height ∈ gd_tbl := ⟨u_212, u_2⟩
theorem ok_Pla_streetsThrough : xk_ok y_Pla_streetsThrough b_Pla_streetsThrough 6 (some .int) 3 := ⟨xk_gin u_209, u_51, by decide +kernel⟩
theorem in_Pla_streetsThrough : Cond.instanceMethod y_Pla_streetsThrough ∈ gd_tbl ∧ Cond.selects y_Pla_streetsThrough.cls y_Pla_streetsThrough y_Pla_streetsThrough ∈ gd_tbl := ⟨u_208, u_1⟩
theorem ok_Pla_sidesOfPoint : xk_ok y_Pla_sidesOfPoint b_Pla_sidesOfPoint 6 (some .int) 3 := ⟨xk_gin u_217, u_51, by decide +kernel⟩
theorem in_Pla_sidesOfPoint : Cond.instanceMethod y_Pla_sidesOfPoint ∈ gd_tbl ∧ Cond.selects y_Pla_sidesOfPoint.cls y_Pla_sidesOfPoint y_Pla_sidesOfPoint ∈ gd_tbl := ⟨u_216, u_3⟩
theorem ok_Pla_measurePoints : xk_ok y_Pla_measurePoints b_Pla_measurePoints 8 none 0 := ⟨xk_gin u_186, u_51, by decide +kernel⟩
theorem in_Pla_measurePoints : Cond.instanceMethod y_Pla_measurePoints ∈ gd_tbl ∧ Cond.selects y_Pla_measurePoints.cls y_Pla_measurePoints y_Pla_measurePoints ∈ gd_tbl := ⟨u_185, u_0⟩
theorem ok_Pla_sidesFar : xk_ok y_Pla_sidesFar b_Pla_sidesFar 6 (some .int) 3 := ⟨xk_gin u_225, u_51, by decide +kernel⟩
theorem in_Pla_sidesFar : Cond.instanceMethod y_Pla_sidesFar ∈ gd_tbl ∧ Cond.selects y_Pla_sidesFar.cls y_Pla_sidesFar y_Pla_sidesFar ∈ gd_tbl := ⟨u_224, u_5⟩
theorem ok_Pla_cutBy : xk_ok y_Pla_cutBy b_Pla_cutBy 13 (some .long) 3 := ⟨xk_gin u_230, u_51, by decide +kernel⟩
theorem in_Pla_cutBy : Cond.instanceMethod y_Pla_cutBy ∈ gd_tbl ∧ Cond.selects y_Pla_cutBy.cls y_Pla_cutBy y_Pla_cutBy ∈ gd_tbl := ⟨u_228, u_229⟩
theorem ok_Pla_onBothSides : xk_ok y_Pla_onBothSides b_Pla_onBothSides 3 (some .long) 2 := ⟨xk_gin u_233, u_51, by decide +kernel⟩
theorem st_Pla_onBothSides : Cond.static y_Pla_onBothSides ∈ gd_tbl := u_232
theorem ok_Pla_measureQuarters : xk_ok y_Pla_measureQuarters b_Pla_measureQuarters 6 none 0 := ⟨xk_gin u_221, u_51, by decide +kernel⟩
theorem in_Pla_measureQuarters : Cond.instanceMethod y_Pla_measureQuarters ∈ gd_tbl ∧ Cond.selects y_Pla_measureQuarters.cls y_Pla_measureQuarters y_Pla_measureQuarters ∈ gd_tbl := ⟨u_220, u_4⟩
theorem ok_Pla_measure : xk_ok y_Pla_measure b_Pla_measure 1 none 0 := ⟨xk_gin u_182, u_51, by decide +kernel⟩
theorem in_Pla_measure : Cond.instanceMethod y_Pla_measure ∈ gd_tbl ∧ Cond.selects y_Pla_measure.cls y_Pla_measure y_Pla_measure ∈ gd_tbl := ⟨u_180, u_181⟩
theorem ok_All_refuse : xk_ok y_All_refuse b_All_refuse 3 (some .int) 1 := ⟨xk_gin u_269, u_49, by decide +kernel⟩
theorem in_All_refuse : Cond.instanceMethod y_All_refuse ∈ gd_tbl ∧ Cond.selects y_All_refuse.cls y_All_refuse y_All_refuse ∈ gd_tbl := ⟨u_268, u_6⟩
theorem ok_Let_isFull : xk_ok y_Let_isFull b_Let_isFull 1 (some .boolean) 0 := ⟨xk_gin u_273, u_52, by decide +kernel⟩
theorem in_Let_isFull : Cond.instanceMethod y_Let_isFull ∈ gd_tbl ∧ Cond.selects y_Let_isFull.cls y_Let_isFull y_Let_isFull ∈ gd_tbl := ⟨u_271, u_272⟩
theorem ok_Let_put : xk_ok y_Let_put b_Let_put 2 (some .int) 1 := ⟨xk_gin u_277, u_52, by decide +kernel⟩
theorem in_Let_put : Cond.instanceMethod y_Let_put ∈ gd_tbl ∧ Cond.selects y_Let_put.cls y_Let_put y_Let_put ∈ gd_tbl := ⟨u_275, u_276⟩
theorem ok_All_letter : xk_ok y_All_letter b_All_letter 2 (some .int) 1 := ⟨xk_gin u_265, u_49, by decide +kernel⟩
theorem in_All_letter : Cond.instanceMethod y_All_letter ∈ gd_tbl ∧ Cond.selects y_All_letter.cls y_All_letter y_All_letter ∈ gd_tbl := ⟨u_263, u_264⟩
theorem ok_Tow_copyFrom : xk_ok y_Tow_copyFrom b_Tow_copyFrom 2 none 1 := ⟨xk_gin u_286, u_50, by decide +kernel⟩
theorem in_Tow_copyFrom : Cond.instanceMethod y_Tow_copyFrom ∈ gd_tbl ∧ Cond.selects y_Tow_copyFrom.cls y_Tow_copyFrom y_Tow_copyFrom ∈ gd_tbl := ⟨u_284, u_285⟩
theorem ok_Let_takes : xk_ok y_Let_takes b_Let_takes 3 (some .boolean) 1 := ⟨xk_gin u_305, u_52, by decide +kernel⟩
theorem in_Let_takes : Cond.instanceMethod y_Let_takes ∈ gd_tbl ∧ Cond.selects y_Let_takes.cls y_Let_takes y_Let_takes ∈ gd_tbl := ⟨u_304, u_9⟩
theorem ok_Str_isLatin1 : xk_ok y_Str_isLatin1 b_Str_isLatin1 1 (some .boolean) 0 := ⟨xk_gin u_322, u_56, by decide +kernel⟩
theorem in_Str_isLatin1 : Cond.instanceMethod y_Str_isLatin1 ∈ gd_tbl ∧ Cond.selects y_Str_isLatin1.cls y_Str_isLatin1 y_Str_isLatin1 ∈ gd_tbl := ⟨u_320, u_321⟩
theorem ok_Str_coder : xk_ok y_Str_coder b_Str_coder 1 (some .byte) 0 := ⟨xk_gin u_332, u_56, by decide +kernel⟩
theorem in_Str_coder : Cond.instanceMethod y_Str_coder ∈ gd_tbl ∧ Cond.selects y_Str_coder.cls y_Str_coder y_Str_coder ∈ gd_tbl := ⟨u_330, u_331⟩
theorem ok_Str_length : xk_ok y_Str_length b_Str_length 1 (some .int) 0 := ⟨xk_gin u_328, u_56, by decide +kernel⟩
theorem in_Str_length : Cond.instanceMethod y_Str_length ∈ gd_tbl ∧ Cond.selects y_Str_length.cls y_Str_length y_Str_length ∈ gd_tbl := ⟨u_326, u_327⟩
theorem ok_Lat_canEncode : xk_ok y_Lat_canEncode b_Lat_canEncode 1 (some .boolean) 1 := ⟨xk_gin u_338, u_57, by decide +kernel⟩
theorem st_Lat_canEncode : Cond.static y_Lat_canEncode ∈ gd_tbl := u_337
theorem ok_Lat_indexOfChar : xk_ok y_Lat_indexOfChar b_Lat_indexOfChar 6 (some .int) 4 := ⟨xk_gin u_347, u_57, by decide +kernel⟩
theorem st_Lat_indexOfChar : Cond.static y_Lat_indexOfChar ∈ gd_tbl := u_346
theorem ok_Lat_indexOf : xk_ok y_Lat_indexOf b_Lat_indexOf 4 (some .int) 4 := ⟨xk_gin u_335, u_57, by decide +kernel⟩
theorem st_Lat_indexOf : Cond.static y_Lat_indexOf ∈ gd_tbl := u_334
theorem ok_Str_indexOf2 : xk_ok y_Str_indexOf2 b_Str_indexOf2 3 (some .int) 2 := ⟨xk_gin u_318, u_56, by decide +kernel⟩
theorem in_Str_indexOf2 : Cond.instanceMethod y_Str_indexOf2 ∈ gd_tbl ∧ Cond.selects y_Str_indexOf2.cls y_Str_indexOf2 y_Str_indexOf2 ∈ gd_tbl := ⟨u_316, u_317⟩
theorem ok_Str_indexOf1 : xk_ok y_Str_indexOf1 b_Str_indexOf1 2 (some .int) 1 := ⟨xk_gin u_314, u_56, by decide +kernel⟩
theorem in_Str_indexOf1 : Cond.instanceMethod y_Str_indexOf1 ∈ gd_tbl ∧ Cond.selects y_Str_indexOf1.cls y_Str_indexOf1 y_Str_indexOf1 ∈ gd_tbl := ⟨u_312, u_313⟩
theorem ok_Let_readKind : xk_ok y_Let_readKind b_Let_readKind 1 (some .boolean) 0 := ⟨xk_gin u_309, u_52, by decide +kernel⟩
theorem in_Let_readKind : Cond.instanceMethod y_Let_readKind ∈ gd_tbl ∧ Cond.selects y_Let_readKind.cls y_Let_readKind y_Let_readKind ∈ gd_tbl := ⟨u_308, u_10⟩
theorem ok_Let_isDigit : xk_ok y_Let_isDigit b_Let_isDigit 1 (some .boolean) 0 := ⟨xk_gin u_404, u_52, by decide +kernel⟩
theorem in_Let_isDigit : Cond.instanceMethod y_Let_isDigit ∈ gd_tbl ∧ Cond.selects y_Let_isDigit.cls y_Let_isDigit y_Let_isDigit ∈ gd_tbl := ⟨u_403, u_12⟩
theorem ok_Let_readNumber : xk_ok y_Let_readNumber b_Let_readNumber 6 (some .boolean) 2 := ⟨xk_gin u_400, u_52, by decide +kernel⟩
theorem in_Let_readNumber : Cond.instanceMethod y_Let_readNumber ∈ gd_tbl ∧ Cond.selects y_Let_readNumber.cls y_Let_readNumber y_Let_readNumber ∈ gd_tbl := ⟨u_399, u_11⟩
theorem ok_Let_readStatement : xk_ok y_Let_readStatement b_Let_readStatement 1 (some .boolean) 0 := ⟨xk_gin u_301, u_52, by decide +kernel⟩
theorem in_Let_readStatement : Cond.instanceMethod y_Let_readStatement ∈ gd_tbl ∧ Cond.selects y_Let_readStatement.cls y_Let_readStatement y_Let_readStatement ∈ gd_tbl := ⟨u_300, u_8⟩
theorem ok_Let_readAll : xk_ok y_Let_readAll b_Let_readAll 2 (some .int) 0 := ⟨xk_gin u_297, u_52, by decide +kernel⟩
theorem in_Let_readAll : Cond.instanceMethod y_Let_readAll ∈ gd_tbl ∧ Cond.selects y_Let_readAll.cls y_Let_readAll y_Let_readAll ∈ gd_tbl := ⟨u_296, u_7⟩
theorem ok_Tow_putPlot : xk_ok y_Tow_putPlot b_Tow_putPlot 4 (some .boolean) 2 := ⟨xk_gin u_412, u_50, by decide +kernel⟩
theorem in_Tow_putPlot : Cond.instanceMethod y_Tow_putPlot ∈ gd_tbl ∧ Cond.selects y_Tow_putPlot.cls y_Tow_putPlot y_Tow_putPlot ∈ gd_tbl := ⟨u_410, u_411⟩
theorem ok_Tow_hasDirection : xk_ok y_Tow_hasDirection b_Tow_hasDirection 4 (some .boolean) 2 := ⟨xk_gin u_420, u_50, by decide +kernel⟩
theorem in_Tow_hasDirection : Cond.instanceMethod y_Tow_hasDirection ∈ gd_tbl ∧ Cond.selects y_Tow_hasDirection.cls y_Tow_hasDirection y_Tow_hasDirection ∈ gd_tbl := ⟨u_418, u_419⟩
theorem ok_Tow_putStreet : xk_ok y_Tow_putStreet b_Tow_putStreet 6 (some .boolean) 4 := ⟨xk_gin u_416, u_50, by decide +kernel⟩
theorem in_Tow_putStreet : Cond.instanceMethod y_Tow_putStreet ∈ gd_tbl ∧ Cond.selects y_Tow_putStreet.cls y_Tow_putStreet y_Tow_putStreet ∈ gd_tbl := ⟨u_414, u_415⟩
theorem ok_Let_putStatement : xk_ok y_Let_putStatement b_Let_putStatement 2 (some .boolean) 1 := ⟨xk_gin u_408, u_52, by decide +kernel⟩
theorem in_Let_putStatement : Cond.instanceMethod y_Let_putStatement ∈ gd_tbl ∧ Cond.selects y_Let_putStatement.cls y_Let_putStatement y_Let_putStatement ∈ gd_tbl := ⟨u_407, u_13⟩
theorem ok_Let_readInto : xk_ok y_Let_readInto b_Let_readInto 5 (some .int) 1 := ⟨xk_gin u_293, u_52, by decide +kernel⟩
theorem in_Let_readInto : Cond.instanceMethod y_Let_readInto ∈ gd_tbl ∧ Cond.selects y_Let_readInto.cls y_Let_readInto y_Let_readInto ∈ gd_tbl := ⟨u_291, u_292⟩
theorem ok_Let_clear : xk_ok y_Let_clear b_Let_clear 1 none 0 := ⟨xk_gin u_424, u_52, by decide +kernel⟩
theorem in_Let_clear : Cond.instanceMethod y_Let_clear ∈ gd_tbl ∧ Cond.selects y_Let_clear.cls y_Let_clear y_Let_clear ∈ gd_tbl := ⟨u_422, u_423⟩
theorem ok_All_town : xk_ok y_All_town b_All_town 2 (some .int) 0 := ⟨xk_gin u_282, u_49, by decide +kernel⟩
theorem in_All_town : Cond.instanceMethod y_All_town ∈ gd_tbl ∧ Cond.selects y_All_town.cls y_All_town y_All_town ∈ gd_tbl := ⟨u_280, u_281⟩
theorem ok_Tow_hasStreet : xk_ok y_Tow_hasStreet b_Tow_hasStreet 2 (some .boolean) 1 := ⟨xk_gin u_433, u_50, by decide +kernel⟩
theorem in_Tow_hasStreet : Cond.instanceMethod y_Tow_hasStreet ∈ gd_tbl ∧ Cond.selects y_Tow_hasStreet.cls y_Tow_hasStreet y_Tow_hasStreet ∈ gd_tbl := ⟨u_431, u_432⟩
theorem ok_All_refuseFar : xk_ok y_All_refuseFar b_All_refuseFar 2 (some .int) 1 := ⟨xk_gin u_437, u_49, by decide +kernel⟩
theorem in_All_refuseFar : Cond.instanceMethod y_All_refuseFar ∈ gd_tbl ∧ Cond.selects y_All_refuseFar.cls y_All_refuseFar y_All_refuseFar ∈ gd_tbl := ⟨u_436, u_14⟩
theorem ok_Int_bitCount : xk_ok y_Int_bitCount b_Int_bitCount 1 (some .int) 1 := ⟨xk_gin u_449, u_61, by decide +kernel⟩
theorem st_Int_bitCount : Cond.static y_Int_bitCount ∈ gd_tbl := u_448
theorem ok_Pla_isSquare : xk_ok y_Pla_isSquare b_Pla_isSquare 2 (some .boolean) 1 := ⟨xk_gin u_446, u_51, by decide +kernel⟩
theorem in_Pla_isSquare : Cond.instanceMethod y_Pla_isSquare ∈ gd_tbl ∧ Cond.selects y_Pla_isSquare.cls y_Pla_isSquare y_Pla_isSquare ∈ gd_tbl := ⟨u_445, u_15⟩
theorem ok_Pla_lampsAt : xk_ok y_Pla_lampsAt b_Pla_lampsAt 6 (some .int) 2 := ⟨xk_gin u_456, u_51, by decide +kernel⟩
theorem in_Pla_lampsAt : Cond.instanceMethod y_Pla_lampsAt ∈ gd_tbl ∧ Cond.selects y_Pla_lampsAt.cls y_Pla_lampsAt y_Pla_lampsAt ∈ gd_tbl := ⟨u_455, u_16⟩
theorem ok_Pla_lampsFrom : xk_ok y_Pla_lampsFrom b_Pla_lampsFrom 4 (some .int) 1 := ⟨xk_gin u_442, u_51, by decide +kernel⟩
theorem in_Pla_lampsFrom : Cond.instanceMethod y_Pla_lampsFrom ∈ gd_tbl ∧ Cond.selects y_Pla_lampsFrom.cls y_Pla_lampsFrom y_Pla_lampsFrom ∈ gd_tbl := ⟨u_440, u_441⟩
theorem ok_All_street : xk_ok y_All_street b_All_street 3 (some .int) 2 := ⟨xk_gin u_429, u_49, by decide +kernel⟩
theorem in_All_street : Cond.instanceMethod y_All_street ∈ gd_tbl ∧ Cond.selects y_All_street.cls y_All_street y_All_street ∈ gd_tbl := ⟨u_427, u_428⟩
theorem ok_Tow_hasPlot : xk_ok y_Tow_hasPlot b_Tow_hasPlot 2 (some .boolean) 1 := ⟨xk_gin u_464, u_50, by decide +kernel⟩
theorem in_Tow_hasPlot : Cond.instanceMethod y_Tow_hasPlot ∈ gd_tbl ∧ Cond.selects y_Tow_hasPlot.cls y_Tow_hasPlot y_Tow_hasPlot ∈ gd_tbl := ⟨u_462, u_463⟩
theorem ok_All_plot : xk_ok y_All_plot b_All_plot 3 (some .int) 2 := ⟨xk_gin u_460, u_49, by decide +kernel⟩
theorem in_All_plot : Cond.instanceMethod y_All_plot ∈ gd_tbl ∧ Cond.selects y_All_plot.cls y_All_plot y_All_plot ∈ gd_tbl := ⟨u_458, u_459⟩
theorem ok_All_cancelled : xk_ok y_All_cancelled b_All_cancelled 4 (some .int) 3 := ⟨xk_gin u_474, u_49, by decide +kernel⟩
theorem st_All_cancelled : Cond.static y_All_cancelled ∈ gd_tbl := u_473
theorem ok_All_crossing : xk_ok y_All_crossing b_All_crossing 7 (some .int) 3 := ⟨xk_gin u_468, u_49, by decide +kernel⟩
theorem in_All_crossing : Cond.instanceMethod y_All_crossing ∈ gd_tbl ∧ Cond.selects y_All_crossing.cls y_All_crossing y_All_crossing ∈ gd_tbl := ⟨u_466, u_467⟩
theorem ok_Lng_bitCount : xk_ok y_Lng_bitCount b_Lng_bitCount 2 (some .int) 1 := ⟨xk_gin u_481, u_62, by decide +kernel⟩
theorem st_Lng_bitCount : Cond.static y_Lng_bitCount ∈ gd_tbl := u_480
theorem ok_All_quarters : xk_ok y_All_quarters b_All_quarters 1 (some .int) 0 := ⟨xk_gin u_478, u_49, by decide +kernel⟩
theorem in_All_quarters : Cond.instanceMethod y_All_quarters ∈ gd_tbl ∧ Cond.selects y_All_quarters.cls y_All_quarters y_All_quarters ∈ gd_tbl := ⟨u_476, u_477⟩
theorem ok_All_open : xk_ok y_All_open b_All_open 1 (some .int) 0 := ⟨xk_gin u_488, u_49, by decide +kernel⟩
theorem in_All_open : Cond.instanceMethod y_All_open ∈ gd_tbl ∧ Cond.selects y_All_open.cls y_All_open y_All_open ∈ gd_tbl := ⟨u_486, u_487⟩
theorem ok_All_has : xk_ok y_All_has b_All_has 3 (some .boolean) 2 := ⟨xk_gin u_499, u_49, by decide +kernel⟩
theorem st_All_has : Cond.static y_All_has ∈ gd_tbl := u_498
theorem ok_Pla_hasQuarter : xk_ok y_Pla_hasQuarter b_Pla_hasQuarter 2 (some .boolean) 1 := ⟨xk_gin u_496, u_51, by decide +kernel⟩
theorem in_Pla_hasQuarter : Cond.instanceMethod y_Pla_hasQuarter ∈ gd_tbl ∧ Cond.selects y_Pla_hasQuarter.cls y_Pla_hasQuarter y_Pla_hasQuarter ∈ gd_tbl := ⟨u_494, u_495⟩
theorem ok_Pla_cornersOf : xk_ok y_Pla_cornersOf b_Pla_cornersOf 4 (some .int) 1 := ⟨xk_gin u_503, u_51, by decide +kernel⟩
theorem in_Pla_cornersOf : Cond.instanceMethod y_Pla_cornersOf ∈ gd_tbl ∧ Cond.selects y_Pla_cornersOf.cls y_Pla_cornersOf y_Pla_cornersOf ∈ gd_tbl := ⟨u_501, u_502⟩
theorem ok_All_with : xk_ok y_All_with b_All_with 4 (some .int) 1 := ⟨xk_gin u_492, u_49, by decide +kernel⟩
theorem in_All_with : Cond.instanceMethod y_All_with ∈ gd_tbl ∧ Cond.selects y_All_with.cls y_All_with y_All_with ∈ gd_tbl := ⟨u_490, u_491⟩
theorem ok_All_corners : xk_ok y_All_corners b_All_corners 2 (some .int) 1 := ⟨xk_gin u_507, u_49, by decide +kernel⟩
theorem in_All_corners : Cond.instanceMethod y_All_corners ∈ gd_tbl ∧ Cond.selects y_All_corners.cls y_All_corners y_All_corners ∈ gd_tbl := ⟨u_505, u_506⟩
theorem ok_Pla_sidesOf : xk_ok y_Pla_sidesOf b_Pla_sidesOf 4 (some .int) 1 := ⟨xk_gin u_515, u_51, by decide +kernel⟩
theorem in_Pla_sidesOf : Cond.instanceMethod y_Pla_sidesOf ∈ gd_tbl ∧ Cond.selects y_Pla_sidesOf.cls y_Pla_sidesOf y_Pla_sidesOf ∈ gd_tbl := ⟨u_513, u_514⟩
theorem ok_All_sides : xk_ok y_All_sides b_All_sides 2 (some .int) 1 := ⟨xk_gin u_511, u_49, by decide +kernel⟩
theorem in_All_sides : Cond.instanceMethod y_All_sides ∈ gd_tbl ∧ Cond.selects y_All_sides.cls y_All_sides y_All_sides ∈ gd_tbl := ⟨u_509, u_510⟩
theorem ok_All_isOpen : xk_ok y_All_isOpen b_All_isOpen 2 (some .int) 1 := ⟨xk_gin u_520, u_49, by decide +kernel⟩
theorem in_All_isOpen : Cond.instanceMethod y_All_isOpen ∈ gd_tbl ∧ Cond.selects y_All_isOpen.cls y_All_isOpen y_All_isOpen ∈ gd_tbl := ⟨u_518, u_519⟩
theorem ok_All_whole : xk_ok y_All_whole b_All_whole 3 (some .int) 0 := ⟨xk_gin u_525, u_49, by decide +kernel⟩
theorem in_All_whole : Cond.instanceMethod y_All_whole ∈ gd_tbl ∧ Cond.selects y_All_whole.cls y_All_whole y_All_whole ∈ gd_tbl := ⟨u_523, u_524⟩
theorem ok_Pla_squares : xk_ok y_Pla_squares b_Pla_squares 3 (some .int) 0 := ⟨xk_gin u_533, u_51, by decide +kernel⟩
theorem in_Pla_squares : Cond.instanceMethod y_Pla_squares ∈ gd_tbl ∧ Cond.selects y_Pla_squares.cls y_Pla_squares y_Pla_squares ∈ gd_tbl := ⟨u_531, u_532⟩
theorem ok_Pla_mostMeeting : xk_ok y_Pla_mostMeeting b_Pla_mostMeeting 3 (some .int) 0 := ⟨xk_gin u_537, u_51, by decide +kernel⟩
theorem in_Pla_mostMeeting : Cond.instanceMethod y_Pla_mostMeeting ∈ gd_tbl ∧ Cond.selects y_Pla_mostMeeting.cls y_Pla_mostMeeting y_Pla_mostMeeting ∈ gd_tbl := ⟨u_535, u_536⟩
theorem ok_All_points : xk_ok y_All_points b_All_points 2 (some .int) 1 := ⟨xk_gin u_529, u_49, by decide +kernel⟩
theorem in_All_points : Cond.instanceMethod y_All_points ∈ gd_tbl ∧ Cond.selects y_All_points.cls y_All_points y_All_points ∈ gd_tbl := ⟨u_527, u_528⟩
theorem ok_All_lamps : xk_ok y_All_lamps b_All_lamps 3 (some .int) 0 := ⟨xk_gin u_542, u_49, by decide +kernel⟩
theorem in_All_lamps : Cond.instanceMethod y_All_lamps ∈ gd_tbl ∧ Cond.selects y_All_lamps.cls y_All_lamps y_All_lamps ∈ gd_tbl := ⟨u_540, u_541⟩
theorem ok_Pla_quarterAt : xk_ok y_Pla_quarterAt b_Pla_quarterAt 3 (some .int) 2 := ⟨xk_gin u_555, u_51, by decide +kernel⟩
theorem in_Pla_quarterAt : Cond.instanceMethod y_Pla_quarterAt ∈ gd_tbl ∧ Cond.selects y_Pla_quarterAt.cls y_Pla_quarterAt y_Pla_quarterAt ∈ gd_tbl := ⟨u_553, u_554⟩
theorem ok_Pla_quarterOfPlot : xk_ok y_Pla_quarterOfPlot b_Pla_quarterOfPlot 2 (some .int) 1 := ⟨xk_gin u_550, u_51, by decide +kernel⟩
theorem in_Pla_quarterOfPlot : Cond.instanceMethod y_Pla_quarterOfPlot ∈ gd_tbl ∧ Cond.selects y_Pla_quarterOfPlot.cls y_Pla_quarterOfPlot y_Pla_quarterOfPlot ∈ gd_tbl := ⟨u_548, u_549⟩
theorem ok_All_where : xk_ok y_All_where b_All_where 2 (some .int) 1 := ⟨xk_gin u_546, u_49, by decide +kernel⟩
theorem in_All_where : Cond.instanceMethod y_All_where ∈ gd_tbl ∧ Cond.selects y_All_where.cls y_All_where y_All_where ∈ gd_tbl := ⟨u_544, u_545⟩
theorem ok_All_together : xk_ok y_All_together b_All_together 5 (some .int) 1 := ⟨xk_gin u_559, u_49, by decide +kernel⟩
theorem in_All_together : Cond.instanceMethod y_All_together ∈ gd_tbl ∧ Cond.selects y_All_together.cls y_All_together y_All_together ∈ gd_tbl := ⟨u_557, u_558⟩
theorem ok_All_steps : xk_ok y_All_steps b_All_steps 5 (some .int) 2 := ⟨xk_gin u_563, u_49, by decide +kernel⟩
theorem in_All_steps : Cond.instanceMethod y_All_steps ∈ gd_tbl ∧ Cond.selects y_All_steps.cls y_All_steps y_All_steps ∈ gd_tbl := ⟨u_561, u_562⟩
theorem ok_All_whyNoLine : xk_ok y_All_whyNoLine b_All_whyNoLine 4 (some .int) 3 := ⟨xk_gin u_576, u_49, by decide +kernel⟩
theorem in_All_whyNoLine : Cond.instanceMethod y_All_whyNoLine ∈ gd_tbl ∧ Cond.selects y_All_whyNoLine.cls y_All_whyNoLine y_All_whyNoLine ∈ gd_tbl := ⟨u_575, u_18⟩
theorem ok_All_whyNoNewLine : xk_ok y_All_whyNoNewLine b_All_whyNoNewLine 5 (some .int) 3 := ⟨xk_gin u_572, u_49, by decide +kernel⟩
theorem in_All_whyNoNewLine : Cond.instanceMethod y_All_whyNoNewLine ∈ gd_tbl ∧ Cond.selects y_All_whyNoNewLine.cls y_All_whyNoNewLine y_All_whyNoNewLine ∈ gd_tbl := ⟨u_571, u_17⟩
theorem ok_All_next : xk_ok y_All_next b_All_next 7 (some .int) 4 := ⟨xk_gin u_568, u_49, by decide +kernel⟩
theorem in_All_next : Cond.instanceMethod y_All_next ∈ gd_tbl ∧ Cond.selects y_All_next.cls y_All_next y_All_next ∈ gd_tbl := ⟨u_566, u_567⟩
theorem ok_All_through : xk_ok y_All_through b_All_through 5 (some .int) 3 := ⟨xk_gin u_582, u_49, by decide +kernel⟩
theorem in_All_through : Cond.instanceMethod y_All_through ∈ gd_tbl ∧ Cond.selects y_All_through.cls y_All_through y_All_through ∈ gd_tbl := ⟨u_580, u_581⟩
theorem ok_Pla_quartersWithPlots : xk_ok y_Pla_quartersWithPlots b_Pla_quartersWithPlots 5 (some .long) 0 := ⟨xk_gin u_590, u_51, by decide +kernel⟩
theorem in_Pla_quartersWithPlots : Cond.instanceMethod y_Pla_quartersWithPlots ∈ gd_tbl ∧ Cond.selects y_Pla_quartersWithPlots.cls y_Pla_quartersWithPlots y_Pla_quartersWithPlots ∈ gd_tbl := ⟨u_588, u_589⟩
theorem ok_Tow_hasPlotOn : xk_ok y_Tow_hasPlotOn b_Tow_hasPlotOn 5 (some .boolean) 3 := ⟨xk_gin u_595, u_50, by decide +kernel⟩
theorem in_Tow_hasPlotOn : Cond.instanceMethod y_Tow_hasPlotOn ∈ gd_tbl ∧ Cond.selects y_Tow_hasPlotOn.cls y_Tow_hasPlotOn y_Tow_hasPlotOn ∈ gd_tbl := ⟨u_593, u_594⟩
theorem ok_All_spare : xk_ok y_All_spare b_All_spare 7 (some .int) 2 := ⟨xk_gin u_586, u_49, by decide +kernel⟩
theorem in_All_spare : Cond.instanceMethod y_All_spare ∈ gd_tbl ∧ Cond.selects y_All_spare.cls y_All_spare y_All_spare ∈ gd_tbl := ⟨u_584, u_585⟩
theorem ok_Pla_pointsOn : xk_ok y_Pla_pointsOn b_Pla_pointsOn 6 (some .int) 3 := ⟨xk_gin u_603, u_51, by decide +kernel⟩
theorem in_Pla_pointsOn : Cond.instanceMethod y_Pla_pointsOn ∈ gd_tbl ∧ Cond.selects y_Pla_pointsOn.cls y_Pla_pointsOn y_Pla_pointsOn ∈ gd_tbl := ⟨u_601, u_602⟩
theorem ok_All_most : xk_ok y_All_most b_All_most 6 (some .int) 2 := ⟨xk_gin u_599, u_49, by decide +kernel⟩
theorem in_All_most : Cond.instanceMethod y_All_most ∈ gd_tbl ∧ Cond.selects y_All_most.cls y_All_most y_All_most ∈ gd_tbl := ⟨u_597, u_598⟩
theorem ok_All_fearedLines : xk_ok y_All_fearedLines b_All_fearedLines 6 (some .int) 3 := ⟨xk_gin u_612, u_49, by decide +kernel⟩
theorem in_All_fearedLines : Cond.instanceMethod y_All_fearedLines ∈ gd_tbl ∧ Cond.selects y_All_fearedLines.cls y_All_fearedLines y_All_fearedLines ∈ gd_tbl := ⟨u_611, u_19⟩
theorem ok_All_fear : xk_ok y_All_fear b_All_fear 8 (some .int) 2 := ⟨xk_gin u_608, u_49, by decide +kernel⟩
theorem in_All_fear : Cond.instanceMethod y_All_fear ∈ gd_tbl ∧ Cond.selects y_All_fear.cls y_All_fear y_All_fear ∈ gd_tbl := ⟨u_606, u_607⟩
theorem ok_Pla_quartersWithout : xk_ok y_Pla_quartersWithout b_Pla_quartersWithout 5 (some .int) 1 := ⟨xk_gin u_624, u_51, by decide +kernel⟩
theorem in_Pla_quartersWithout : Cond.instanceMethod y_Pla_quartersWithout ∈ gd_tbl ∧ Cond.selects y_Pla_quartersWithout.cls y_Pla_quartersWithout y_Pla_quartersWithout ∈ gd_tbl := ⟨u_622, u_623⟩
theorem ok_All_dearestStreet : xk_ok y_All_dearestStreet b_All_dearestStreet 5 (some .int) 0 := ⟨xk_gin u_620, u_49, by decide +kernel⟩
theorem in_All_dearestStreet : Cond.instanceMethod y_All_dearestStreet ∈ gd_tbl ∧ Cond.selects y_All_dearestStreet.cls y_All_dearestStreet y_All_dearestStreet ∈ gd_tbl := ⟨u_619, u_20⟩
theorem ok_All_taken : xk_ok y_All_taken b_All_taken 2 (some .int) 1 := ⟨xk_gin u_616, u_49, by decide +kernel⟩
theorem in_All_taken : Cond.instanceMethod y_All_taken ∈ gd_tbl ∧ Cond.selects y_All_taken.cls y_All_taken y_All_taken ∈ gd_tbl := ⟨u_614, u_615⟩
theorem ok_All_row : xk_ok y_All_row b_All_row 2 (some .int) 1 := ⟨xk_gin u_629, u_49, by decide +kernel⟩
theorem in_All_row : Cond.instanceMethod y_All_row ∈ gd_tbl ∧ Cond.selects y_All_row.cls y_All_row y_All_row ∈ gd_tbl := ⟨u_627, u_628⟩
theorem ok_All_judge : xk_ok y_All_judge b_All_judge 3 (some .int) 0 := ⟨xk_gin u_633, u_49, by decide +kernel⟩
theorem in_All_judge : Cond.instanceMethod y_All_judge ∈ gd_tbl ∧ Cond.selects y_All_judge.cls y_All_judge y_All_judge ∈ gd_tbl := ⟨u_631, u_632⟩
theorem ok_All_seedAfter : xk_ok y_All_seedAfter b_All_seedAfter 1 (some .int) 1 := ⟨xk_gin u_640, u_49, by decide +kernel⟩
theorem st_All_seedAfter : Cond.static y_All_seedAfter ∈ gd_tbl := u_639
theorem ok_All_placeDrawn : xk_ok y_All_placeDrawn b_All_placeDrawn 1 (some .int) 1 := ⟨xk_gin u_645, u_49, by decide +kernel⟩
theorem st_All_placeDrawn : Cond.static y_All_placeDrawn ∈ gd_tbl := u_644
theorem ok_All_seeds : xk_ok y_All_seeds b_All_seeds 10 (some .int) 2 := ⟨xk_gin u_637, u_49, by decide +kernel⟩
theorem in_All_seeds : Cond.instanceMethod y_All_seeds ∈ gd_tbl ∧ Cond.selects y_All_seeds.cls y_All_seeds y_All_seeds ∈ gd_tbl := ⟨u_635, u_636⟩
theorem ok_All_image : xk_ok y_All_image b_All_image 1 (some .int) 0 := ⟨xk_gin u_651, u_49, by decide +kernel⟩
theorem in_All_image : Cond.instanceMethod y_All_image ∈ gd_tbl ∧ Cond.selects y_All_image.cls y_All_image y_All_image ∈ gd_tbl := ⟨u_649, u_650⟩
theorem ok_All_on : xk_ok y_All_on b_All_on 1 (some .int) 0 := ⟨xk_gin u_655, u_49, by decide +kernel⟩
theorem in_All_on : Cond.instanceMethod y_All_on ∈ gd_tbl ∧ Cond.selects y_All_on.cls y_All_on y_All_on ∈ gd_tbl := ⟨u_653, u_654⟩
theorem ok_All_count : xk_ok y_All_count b_All_count 2 (some .int) 1 := ⟨xk_gin u_659, u_49, by decide +kernel⟩
theorem in_All_count : Cond.instanceMethod y_All_count ∈ gd_tbl ∧ Cond.selects y_All_count.cls y_All_count y_All_count ∈ gd_tbl := ⟨u_657, u_658⟩
theorem ok_Mod_no : xk_ok y_Mod_no b_Mod_no 2 (some .int) 1 := ⟨xk_gin u_744, u_54, by decide +kernel⟩
theorem in_Mod_no : Cond.instanceMethod y_Mod_no ∈ gd_tbl ∧ Cond.selects y_Mod_no.cls y_Mod_no y_Mod_no ∈ gd_tbl := ⟨u_743, u_21⟩
theorem ok_Mod_letter : xk_ok y_Mod_letter b_Mod_letter 2 (some .int) 1 := ⟨xk_gin u_740, u_54, by decide +kernel⟩
theorem in_Mod_letter : Cond.instanceMethod y_Mod_letter ∈ gd_tbl ∧ Cond.selects y_Mod_letter.cls y_Mod_letter y_Mod_letter ∈ gd_tbl := ⟨u_738, u_739⟩
theorem ok_Mod_is : xk_ok y_Mod_is b_Mod_is 2 (some .boolean) 1 := ⟨xk_gin u_756, u_54, by decide +kernel⟩
theorem in_Mod_is : Cond.instanceMethod y_Mod_is ∈ gd_tbl ∧ Cond.selects y_Mod_is.cls y_Mod_is y_Mod_is ∈ gd_tbl := ⟨u_755, u_23⟩
theorem ok_Mod_isDigit : xk_ok y_Mod_isDigit b_Mod_isDigit 1 (some .boolean) 0 := ⟨xk_gin u_764, u_54, by decide +kernel⟩
theorem in_Mod_isDigit : Cond.instanceMethod y_Mod_isDigit ∈ gd_tbl ∧ Cond.selects y_Mod_isDigit.cls y_Mod_isDigit y_Mod_isDigit ∈ gd_tbl := ⟨u_763, u_25⟩
theorem ok_Mod_number : xk_ok y_Mod_number b_Mod_number 5 (some .boolean) 2 := ⟨xk_gin u_760, u_54, by decide +kernel⟩
theorem in_Mod_number : Cond.instanceMethod y_Mod_number ∈ gd_tbl ∧ Cond.selects y_Mod_number.cls y_Mod_number y_Mod_number ∈ gd_tbl := ⟨u_759, u_24⟩
theorem ok_Mod_within : xk_ok y_Mod_within b_Mod_within 3 (some .boolean) 3 := ⟨xk_gin u_767, u_54, by decide +kernel⟩
theorem st_Mod_within : Cond.static y_Mod_within ∈ gd_tbl := u_766
theorem ok_Mod_isDirection : xk_ok y_Mod_isDirection b_Mod_isDirection 5 (some .boolean) 3 := ⟨xk_gin u_773, u_54, by decide +kernel⟩
theorem in_Mod_isDirection : Cond.instanceMethod y_Mod_isDirection ∈ gd_tbl ∧ Cond.selects y_Mod_isDirection.cls y_Mod_isDirection y_Mod_isDirection ∈ gd_tbl := ⟨u_772, u_26⟩
theorem ok_Mod_statement : xk_ok y_Mod_statement b_Mod_statement 3 (some .int) 1 := ⟨xk_gin u_752, u_54, by decide +kernel⟩
theorem in_Mod_statement : Cond.instanceMethod y_Mod_statement ∈ gd_tbl ∧ Cond.selects y_Mod_statement.cls y_Mod_statement y_Mod_statement ∈ gd_tbl := ⟨u_751, u_22⟩
theorem ok_Mod_keep : xk_ok y_Mod_keep b_Mod_keep 3 none 1 := ⟨xk_gin u_777, u_54, by decide +kernel⟩
theorem in_Mod_keep : Cond.instanceMethod y_Mod_keep ∈ gd_tbl ∧ Cond.selects y_Mod_keep.cls y_Mod_keep y_Mod_keep ∈ gd_tbl := ⟨u_776, u_27⟩
theorem ok_Mod_again : xk_ok y_Mod_again b_Mod_again 3 none 1 := ⟨xk_gin u_781, u_54, by decide +kernel⟩
theorem in_Mod_again : Cond.instanceMethod y_Mod_again ∈ gd_tbl ∧ Cond.selects y_Mod_again.cls y_Mod_again y_Mod_again ∈ gd_tbl := ⟨u_780, u_28⟩
theorem ok_Mod_town : xk_ok y_Mod_town b_Mod_town 4 (some .int) 0 := ⟨xk_gin u_748, u_54, by decide +kernel⟩
theorem in_Mod_town : Cond.instanceMethod y_Mod_town ∈ gd_tbl ∧ Cond.selects y_Mod_town.cls y_Mod_town y_Mod_town ∈ gd_tbl := ⟨u_746, u_747⟩
theorem ok_Mod_isStreet : xk_ok y_Mod_isStreet b_Mod_isStreet 2 (some .boolean) 1 := ⟨xk_gin u_789, u_54, by decide +kernel⟩
theorem in_Mod_isStreet : Cond.instanceMethod y_Mod_isStreet ∈ gd_tbl ∧ Cond.selects y_Mod_isStreet.cls y_Mod_isStreet y_Mod_isStreet ∈ gd_tbl := ⟨u_788, u_29⟩
theorem ok_Mod_noFar : xk_ok y_Mod_noFar b_Mod_noFar 2 (some .int) 1 := ⟨xk_gin u_793, u_54, by decide +kernel⟩
theorem in_Mod_noFar : Cond.instanceMethod y_Mod_noFar ∈ gd_tbl ∧ Cond.selects y_Mod_noFar.cls y_Mod_noFar y_Mod_noFar ∈ gd_tbl := ⟨u_792, u_30⟩
theorem ok_Mod_sideOfCrossing : xk_ok y_Mod_sideOfCrossing b_Mod_sideOfCrossing 8 (some .int) 3 := ⟨xk_gin u_810, u_54, by decide +kernel⟩
theorem in_Mod_sideOfCrossing : Cond.instanceMethod y_Mod_sideOfCrossing ∈ gd_tbl ∧ Cond.selects y_Mod_sideOfCrossing.cls y_Mod_sideOfCrossing y_Mod_sideOfCrossing ∈ gd_tbl := ⟨u_809, u_34⟩
theorem ok_Mod_isFirst : xk_ok y_Mod_isFirst b_Mod_isFirst 4 (some .boolean) 2 := ⟨xk_gin u_806, u_54, by decide +kernel⟩
theorem in_Mod_isFirst : Cond.instanceMethod y_Mod_isFirst ∈ gd_tbl ∧ Cond.selects y_Mod_isFirst.cls y_Mod_isFirst y_Mod_isFirst ∈ gd_tbl := ⟨u_805, u_33⟩
theorem ok_Mod_pointsOf : xk_ok y_Mod_pointsOf b_Mod_pointsOf 8 (some .int) 2 := ⟨xk_gin u_802, u_54, by decide +kernel⟩
theorem in_Mod_pointsOf : Cond.instanceMethod y_Mod_pointsOf ∈ gd_tbl ∧ Cond.selects y_Mod_pointsOf.cls y_Mod_pointsOf y_Mod_pointsOf ∈ gd_tbl := ⟨u_801, u_32⟩
theorem ok_Mod_lampsOf : xk_ok y_Mod_lampsOf b_Mod_lampsOf 3 (some .int) 1 := ⟨xk_gin u_798, u_54, by decide +kernel⟩
theorem in_Mod_lampsOf : Cond.instanceMethod y_Mod_lampsOf ∈ gd_tbl ∧ Cond.selects y_Mod_lampsOf.cls y_Mod_lampsOf y_Mod_lampsOf ∈ gd_tbl := ⟨u_797, u_31⟩
theorem ok_Mod_street : xk_ok y_Mod_street b_Mod_street 3 (some .int) 2 := ⟨xk_gin u_785, u_54, by decide +kernel⟩
theorem in_Mod_street : Cond.instanceMethod y_Mod_street ∈ gd_tbl ∧ Cond.selects y_Mod_street.cls y_Mod_street y_Mod_street ∈ gd_tbl := ⟨u_783, u_784⟩
theorem ok_Mod_isPlot : xk_ok y_Mod_isPlot b_Mod_isPlot 2 (some .boolean) 1 := ⟨xk_gin u_818, u_54, by decide +kernel⟩
theorem in_Mod_isPlot : Cond.instanceMethod y_Mod_isPlot ∈ gd_tbl ∧ Cond.selects y_Mod_isPlot.cls y_Mod_isPlot y_Mod_isPlot ∈ gd_tbl := ⟨u_817, u_35⟩
theorem ok_Mod_plot : xk_ok y_Mod_plot b_Mod_plot 3 (some .int) 2 := ⟨xk_gin u_814, u_54, by decide +kernel⟩
theorem in_Mod_plot : Cond.instanceMethod y_Mod_plot ∈ gd_tbl ∧ Cond.selects y_Mod_plot.cls y_Mod_plot y_Mod_plot ∈ gd_tbl := ⟨u_812, u_813⟩
theorem ok_Mod_crossing : xk_ok y_Mod_crossing b_Mod_crossing 9 (some .int) 3 := ⟨xk_gin u_822, u_54, by decide +kernel⟩
theorem in_Mod_crossing : Cond.instanceMethod y_Mod_crossing ∈ gd_tbl ∧ Cond.selects y_Mod_crossing.cls y_Mod_crossing y_Mod_crossing ∈ gd_tbl := ⟨u_820, u_821⟩
theorem ok_Mod_along : xk_ok y_Mod_along b_Mod_along 5 (some .int) 3 := ⟨xk_gin u_835, u_54, by decide +kernel⟩
theorem in_Mod_along : Cond.instanceMethod y_Mod_along ∈ gd_tbl ∧ Cond.selects y_Mod_along.cls y_Mod_along y_Mod_along ∈ gd_tbl := ⟨u_834, u_37⟩
theorem ok_Mod_has : xk_ok y_Mod_has b_Mod_has 2 (some .boolean) 2 := ⟨xk_gin u_844, u_54, by decide +kernel⟩
theorem st_Mod_has : Cond.static y_Mod_has ∈ gd_tbl := u_843
theorem ok_Mod_isAbout : xk_ok y_Mod_isAbout b_Mod_isAbout 8 (some .boolean) 3 := ⟨xk_gin u_841, u_54, by decide +kernel⟩
theorem in_Mod_isAbout : Cond.instanceMethod y_Mod_isAbout ∈ gd_tbl ∧ Cond.selects y_Mod_isAbout.cls y_Mod_isAbout y_Mod_isAbout ∈ gd_tbl := ⟨u_840, u_38⟩
theorem ok_Mod_lay : xk_ok y_Mod_lay b_Mod_lay 9 none 1 := ⟨xk_gin u_831, u_54, by decide +kernel⟩
theorem in_Mod_lay : Cond.instanceMethod y_Mod_lay ∈ gd_tbl ∧ Cond.selects y_Mod_lay.cls y_Mod_lay y_Mod_lay ∈ gd_tbl := ⟨u_830, u_36⟩
theorem ok_Mod_howMany : xk_ok y_Mod_howMany b_Mod_howMany 3 (some .int) 0 := ⟨xk_gin u_848, u_54, by decide +kernel⟩
theorem in_Mod_howMany : Cond.instanceMethod y_Mod_howMany ∈ gd_tbl ∧ Cond.selects y_Mod_howMany.cls y_Mod_howMany y_Mod_howMany ∈ gd_tbl := ⟨u_847, u_39⟩
theorem ok_Mod_quarters : xk_ok y_Mod_quarters b_Mod_quarters 1 (some .int) 0 := ⟨xk_gin u_827, u_54, by decide +kernel⟩
theorem in_Mod_quarters : Cond.instanceMethod y_Mod_quarters ∈ gd_tbl ∧ Cond.selects y_Mod_quarters.cls y_Mod_quarters y_Mod_quarters ∈ gd_tbl := ⟨u_825, u_826⟩
theorem ok_Mod_open : xk_ok y_Mod_open b_Mod_open 3 (some .int) 0 := ⟨xk_gin u_852, u_54, by decide +kernel⟩
theorem in_Mod_open : Cond.instanceMethod y_Mod_open ∈ gd_tbl ∧ Cond.selects y_Mod_open.cls y_Mod_open y_Mod_open ∈ gd_tbl := ⟨u_850, u_851⟩
theorem ok_Mod_with : xk_ok y_Mod_with b_Mod_with 4 (some .int) 1 := ⟨xk_gin u_856, u_54, by decide +kernel⟩
theorem in_Mod_with : Cond.instanceMethod y_Mod_with ∈ gd_tbl ∧ Cond.selects y_Mod_with.cls y_Mod_with y_Mod_with ∈ gd_tbl := ⟨u_854, u_855⟩
theorem ok_Mod_isQuarter : xk_ok y_Mod_isQuarter b_Mod_isQuarter 2 (some .boolean) 1 := ⟨xk_gin u_864, u_54, by decide +kernel⟩
theorem in_Mod_isQuarter : Cond.instanceMethod y_Mod_isQuarter ∈ gd_tbl ∧ Cond.selects y_Mod_isQuarter.cls y_Mod_isQuarter y_Mod_isQuarter ∈ gd_tbl := ⟨u_863, u_40⟩
theorem ok_Mod_corners : xk_ok y_Mod_corners b_Mod_corners 2 (some .int) 1 := ⟨xk_gin u_860, u_54, by decide +kernel⟩
theorem in_Mod_corners : Cond.instanceMethod y_Mod_corners ∈ gd_tbl ∧ Cond.selects y_Mod_corners.cls y_Mod_corners y_Mod_corners ∈ gd_tbl := ⟨u_858, u_859⟩
theorem ok_Mod_sidesOf : xk_ok y_Mod_sidesOf b_Mod_sidesOf 4 (some .int) 1 := ⟨xk_gin u_872, u_54, by decide +kernel⟩
theorem in_Mod_sidesOf : Cond.instanceMethod y_Mod_sidesOf ∈ gd_tbl ∧ Cond.selects y_Mod_sidesOf.cls y_Mod_sidesOf y_Mod_sidesOf ∈ gd_tbl := ⟨u_871, u_41⟩
theorem ok_Mod_sides : xk_ok y_Mod_sides b_Mod_sides 2 (some .int) 1 := ⟨xk_gin u_868, u_54, by decide +kernel⟩
theorem in_Mod_sides : Cond.instanceMethod y_Mod_sides ∈ gd_tbl ∧ Cond.selects y_Mod_sides.cls y_Mod_sides y_Mod_sides ∈ gd_tbl := ⟨u_866, u_867⟩
theorem ok_Mod_isOpen : xk_ok y_Mod_isOpen b_Mod_isOpen 2 (some .int) 1 := ⟨xk_gin u_876, u_54, by decide +kernel⟩
theorem in_Mod_isOpen : Cond.instanceMethod y_Mod_isOpen ∈ gd_tbl ∧ Cond.selects y_Mod_isOpen.cls y_Mod_isOpen y_Mod_isOpen ∈ gd_tbl := ⟨u_874, u_875⟩
theorem ok_Mod_whole : xk_ok y_Mod_whole b_Mod_whole 3 (some .int) 0 := ⟨xk_gin u_880, u_54, by decide +kernel⟩
theorem in_Mod_whole : Cond.instanceMethod y_Mod_whole ∈ gd_tbl ∧ Cond.selects y_Mod_whole.cls y_Mod_whole y_Mod_whole ∈ gd_tbl := ⟨u_878, u_879⟩
theorem ok_Mod_points : xk_ok y_Mod_points b_Mod_points 2 (some .int) 1 := ⟨xk_gin u_884, u_54, by decide +kernel⟩
theorem in_Mod_points : Cond.instanceMethod y_Mod_points ∈ gd_tbl ∧ Cond.selects y_Mod_points.cls y_Mod_points y_Mod_points ∈ gd_tbl := ⟨u_882, u_883⟩
theorem ok_Mod_lamps : xk_ok y_Mod_lamps b_Mod_lamps 3 (some .int) 0 := ⟨xk_gin u_888, u_54, by decide +kernel⟩
theorem in_Mod_lamps : Cond.instanceMethod y_Mod_lamps ∈ gd_tbl ∧ Cond.selects y_Mod_lamps.cls y_Mod_lamps y_Mod_lamps ∈ gd_tbl := ⟨u_886, u_887⟩
theorem ok_Mod_side : xk_ok y_Mod_side b_Mod_side 5 (some .int) 3 := ⟨xk_gin u_904, u_54, by decide +kernel⟩
theorem in_Mod_side : Cond.instanceMethod y_Mod_side ∈ gd_tbl ∧ Cond.selects y_Mod_side.cls y_Mod_side y_Mod_side ∈ gd_tbl := ⟨u_903, u_44⟩
theorem ok_Mod_at : xk_ok y_Mod_at b_Mod_at 6 (some .int) 2 := ⟨xk_gin u_900, u_54, by decide +kernel⟩
theorem in_Mod_at : Cond.instanceMethod y_Mod_at ∈ gd_tbl ∧ Cond.selects y_Mod_at.cls y_Mod_at y_Mod_at ∈ gd_tbl := ⟨u_899, u_43⟩
theorem ok_Mod_whereIs : xk_ok y_Mod_whereIs b_Mod_whereIs 2 (some .int) 1 := ⟨xk_gin u_896, u_54, by decide +kernel⟩
theorem in_Mod_whereIs : Cond.instanceMethod y_Mod_whereIs ∈ gd_tbl ∧ Cond.selects y_Mod_whereIs.cls y_Mod_whereIs y_Mod_whereIs ∈ gd_tbl := ⟨u_895, u_42⟩
theorem ok_Mod_where : xk_ok y_Mod_where b_Mod_where 2 (some .int) 1 := ⟨xk_gin u_892, u_54, by decide +kernel⟩
theorem in_Mod_where : Cond.instanceMethod y_Mod_where ∈ gd_tbl ∧ Cond.selects y_Mod_where.cls y_Mod_where y_Mod_where ∈ gd_tbl := ⟨u_890, u_891⟩
theorem ok_Mod_together : xk_ok y_Mod_together b_Mod_together 5 (some .int) 1 := ⟨xk_gin u_908, u_54, by decide +kernel⟩
theorem in_Mod_together : Cond.instanceMethod y_Mod_together ∈ gd_tbl ∧ Cond.selects y_Mod_together.cls y_Mod_together y_Mod_together ∈ gd_tbl := ⟨u_906, u_907⟩
theorem ok_Mod_steps : xk_ok y_Mod_steps b_Mod_steps 5 (some .int) 2 := ⟨xk_gin u_912, u_54, by decide +kernel⟩
theorem in_Mod_steps : Cond.instanceMethod y_Mod_steps ∈ gd_tbl ∧ Cond.selects y_Mod_steps.cls y_Mod_steps y_Mod_steps ∈ gd_tbl := ⟨u_910, u_911⟩
theorem ok_Mod_think : xk_ok y_Mod_think b_Mod_think 4 none 3 := ⟨xk_gin u_920, u_54, by decide +kernel⟩
theorem in_Mod_think : Cond.instanceMethod y_Mod_think ∈ gd_tbl ∧ Cond.selects y_Mod_think.cls y_Mod_think y_Mod_think ∈ gd_tbl := ⟨u_919, u_45⟩
theorem ok_Mod_cuts : xk_ok y_Mod_cuts b_Mod_cuts 2 (some .boolean) 1 := ⟨xk_gin u_924, u_54, by decide +kernel⟩
theorem in_Mod_cuts : Cond.instanceMethod y_Mod_cuts ∈ gd_tbl ∧ Cond.selects y_Mod_cuts.cls y_Mod_cuts y_Mod_cuts ∈ gd_tbl := ⟨u_923, u_46⟩
theorem ok_Mod_next : xk_ok y_Mod_next b_Mod_next 7 (some .int) 4 := ⟨xk_gin u_916, u_54, by decide +kernel⟩
theorem in_Mod_next : Cond.instanceMethod y_Mod_next ∈ gd_tbl ∧ Cond.selects y_Mod_next.cls y_Mod_next y_Mod_next ∈ gd_tbl := ⟨u_914, u_915⟩
theorem ok_Mod_through : xk_ok y_Mod_through b_Mod_through 4 (some .int) 3 := ⟨xk_gin u_928, u_54, by decide +kernel⟩
theorem in_Mod_through : Cond.instanceMethod y_Mod_through ∈ gd_tbl ∧ Cond.selects y_Mod_through.cls y_Mod_through y_Mod_through ∈ gd_tbl := ⟨u_926, u_927⟩
theorem ok_Mod_spare : xk_ok y_Mod_spare b_Mod_spare 7 (some .int) 2 := ⟨xk_gin u_932, u_54, by decide +kernel⟩
theorem in_Mod_spare : Cond.instanceMethod y_Mod_spare ∈ gd_tbl ∧ Cond.selects y_Mod_spare.cls y_Mod_spare y_Mod_spare ∈ gd_tbl := ⟨u_930, u_931⟩
theorem ok_Mod_most : xk_ok y_Mod_most b_Mod_most 8 (some .int) 2 := ⟨xk_gin u_936, u_54, by decide +kernel⟩
theorem in_Mod_most : Cond.instanceMethod y_Mod_most ∈ gd_tbl ∧ Cond.selects y_Mod_most.cls y_Mod_most y_Mod_most ∈ gd_tbl := ⟨u_934, u_935⟩
theorem ok_Mod_fear : xk_ok y_Mod_fear b_Mod_fear 9 (some .int) 2 := ⟨xk_gin u_940, u_54, by decide +kernel⟩
theorem in_Mod_fear : Cond.instanceMethod y_Mod_fear ∈ gd_tbl ∧ Cond.selects y_Mod_fear.cls y_Mod_fear y_Mod_fear ∈ gd_tbl := ⟨u_938, u_939⟩
theorem ok_Mod_without : xk_ok y_Mod_without b_Mod_without 7 (some .int) 1 := ⟨xk_gin u_948, u_54, by decide +kernel⟩
theorem in_Mod_without : Cond.instanceMethod y_Mod_without ∈ gd_tbl ∧ Cond.selects y_Mod_without.cls y_Mod_without y_Mod_without ∈ gd_tbl := ⟨u_947, u_47⟩
theorem ok_Mod_taken : xk_ok y_Mod_taken b_Mod_taken 6 (some .int) 1 := ⟨xk_gin u_944, u_54, by decide +kernel⟩
theorem in_Mod_taken : Cond.instanceMethod y_Mod_taken ∈ gd_tbl ∧ Cond.selects y_Mod_taken.cls y_Mod_taken y_Mod_taken ∈ gd_tbl := ⟨u_942, u_943⟩
theorem ok_Mod_row : xk_ok y_Mod_row b_Mod_row 2 (some .int) 1 := ⟨xk_gin u_952, u_54, by decide +kernel⟩
theorem in_Mod_row : Cond.instanceMethod y_Mod_row ∈ gd_tbl ∧ Cond.selects y_Mod_row.cls y_Mod_row y_Mod_row ∈ gd_tbl := ⟨u_950, u_951⟩
theorem ok_Mod_judge : xk_ok y_Mod_judge b_Mod_judge 3 (some .int) 0 := ⟨xk_gin u_956, u_54, by decide +kernel⟩
theorem in_Mod_judge : Cond.instanceMethod y_Mod_judge ∈ gd_tbl ∧ Cond.selects y_Mod_judge.cls y_Mod_judge y_Mod_judge ∈ gd_tbl := ⟨u_954, u_955⟩
theorem ok_Mod_seeds : xk_ok y_Mod_seeds b_Mod_seeds 10 (some .int) 2 := ⟨xk_gin u_960, u_54, by decide +kernel⟩
theorem in_Mod_seeds : Cond.instanceMethod y_Mod_seeds ∈ gd_tbl ∧ Cond.selects y_Mod_seeds.cls y_Mod_seeds y_Mod_seeds ∈ gd_tbl := ⟨u_958, u_959⟩
theorem ok_Mod_image : xk_ok y_Mod_image b_Mod_image 1 (some .int) 0 := ⟨xk_gin u_968, u_54, by decide +kernel⟩
theorem in_Mod_image : Cond.instanceMethod y_Mod_image ∈ gd_tbl ∧ Cond.selects y_Mod_image.cls y_Mod_image y_Mod_image ∈ gd_tbl := ⟨u_966, u_967⟩
theorem ok_Mod_on : xk_ok y_Mod_on b_Mod_on 1 (some .int) 0 := ⟨xk_gin u_972, u_54, by decide +kernel⟩
theorem in_Mod_on : Cond.instanceMethod y_Mod_on ∈ gd_tbl ∧ Cond.selects y_Mod_on.cls y_Mod_on y_Mod_on ∈ gd_tbl := ⟨u_970, u_971⟩
theorem ok_Mod_count : xk_ok y_Mod_count b_Mod_count 2 (some .int) 1 := ⟨xk_gin u_976, u_54, by decide +kernel⟩
theorem in_Mod_count : Cond.instanceMethod y_Mod_count ∈ gd_tbl ∧ Cond.selects y_Mod_count.cls y_Mod_count y_Mod_count ∈ gd_tbl := ⟨u_974, u_975⟩
