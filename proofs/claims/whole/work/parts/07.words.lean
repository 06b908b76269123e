/-! ===== the words that are used, calls ===== -/
theorem wd_0 : Cond.selects RX6 yX6_found yX6_found ∈ GG := gg_in (List.mem_of_getElem? (i := 0) (by decide +kernel)) rfl
theorem wd_1 : Cond.selects RX6 yX6_well yX6_well ∈ GG := gg_in (List.mem_of_getElem? (i := 1) (by decide +kernel)) rfl
theorem wd_2 : Cond.selects RX5 yX5_lowestBits yX5_lowestBits ∈ GG := gg_in (List.mem_of_getElem? (i := 2) (by decide +kernel)) rfl
theorem wd_3 : Cond.selects RX4 yX4_nextToken yX4_nextToken ∈ GG := gg_in (List.mem_of_getElem? (i := 3) (by decide +kernel)) rfl
theorem wd_4 : Cond.selects RX4 yX4_readFigures yX4_readFigures ∈ GG := gg_in (List.mem_of_getElem? (i := 4) (by decide +kernel)) rfl
theorem wd_5 : Cond.selects RX4 yX4_readLaw yX4_readLaw ∈ GG := gg_in (List.mem_of_getElem? (i := 5) (by decide +kernel)) rfl
theorem wd_6 : Cond.selects RX4 yX4_take yX4_take ∈ GG := gg_in (List.mem_of_getElem? (i := 6) (by decide +kernel)) rfl
theorem wd_7 : Cond.selects RX4 yX4_fail yX4_fail ∈ GG := gg_in (List.mem_of_getElem? (i := 7) (by decide +kernel)) rfl
theorem wd_8 : Cond.selects RX4 yX4_takeNumber yX4_takeNumber ∈ GG := gg_in (List.mem_of_getElem? (i := 8) (by decide +kernel)) rfl
theorem wd_9 : Cond.selects RX4 yX4_readWind yX4_readWind ∈ GG := gg_in (List.mem_of_getElem? (i := 9) (by decide +kernel)) rfl
theorem wd_10 : Cond.selects RX4 yX4_readSheet yX4_readSheet ∈ GG := gg_in (List.mem_of_getElem? (i := 10) (by decide +kernel)) rfl
theorem wd_11 : Cond.selects RX2 yX2_drift yX2_drift ∈ GG := gg_in (List.mem_of_getElem? (i := 11) (by decide +kernel)) rfl
theorem wd_12 : Cond.selects RX2 yX2_thickened yX2_thickened ∈ GG := gg_in (List.mem_of_getElem? (i := 12) (by decide +kernel)) rfl
theorem wd_13 : Cond.selects RX2 yX2_giveNumbers yX2_giveNumbers ∈ GG := gg_in (List.mem_of_getElem? (i := 13) (by decide +kernel)) rfl
theorem wd_14 : Cond.selects RX3 yX3_weighWalks yX3_weighWalks ∈ GG := gg_in (List.mem_of_getElem? (i := 14) (by decide +kernel)) rfl
theorem wd_15 : Cond.selects RX3 yX3_noteOver yX3_noteOver ∈ GG := gg_in (List.mem_of_getElem? (i := 15) (by decide +kernel)) rfl
theorem wd_16 : Cond.selects RX3 yX3_bestNext yX3_bestNext ∈ GG := gg_in (List.mem_of_getElem? (i := 16) (by decide +kernel)) rfl
theorem wd_17 : Cond.selects RX3 yX3_weightOf yX3_weightOf ∈ GG := gg_in (List.mem_of_getElem? (i := 17) (by decide +kernel)) rfl
theorem wd_18 : Cond.selects RX3 yX3_numberedBy yX3_numberedBy ∈ GG := gg_in (List.mem_of_getElem? (i := 18) (by decide +kernel)) rfl
theorem wd_19 : Cond.selects RX2 yX2_thicknessOfSet yX2_thicknessOfSet ∈ GG := gg_in (List.mem_of_getElem? (i := 19) (by decide +kernel)) rfl
theorem wd_20 : Cond.selects RX3 yX3_walkersTurn yX3_walkersTurn ∈ GG := gg_in (List.mem_of_getElem? (i := 20) (by decide +kernel)) rfl
theorem wd_21 : Cond.selects RX3 yX3_courtsTurn yX3_courtsTurn ∈ GG := gg_in (List.mem_of_getElem? (i := 21) (by decide +kernel)) rfl
theorem wd_22 : Cond.selects RX6 yX6_allThatFits yX6_allThatFits ∈ GG := gg_in (List.mem_of_getElem? (i := 22) (by decide +kernel)) rfl
theorem wd_23 : Cond.selects RX3 yX3_suppose yX3_suppose ∈ GG := gg_in (List.mem_of_getElem? (i := 23) (by decide +kernel)) rfl
theorem wd_24 : Cond.selects RX3 yX3_isAsTold yX3_isAsTold ∈ GG := gg_in (List.mem_of_getElem? (i := 24) (by decide +kernel)) rfl
theorem wd_25 : Cond.selects RX3 yX3_drawOne yX3_drawOne ∈ GG := gg_in (List.mem_of_getElem? (i := 25) (by decide +kernel)) rfl
theorem wd_26 : Cond.selects RX1 yX1_answer yX1_answer ∈ GG := gg_in (List.mem_of_getElem? (i := 26) (by decide +kernel)) rfl
theorem wd_27 : Cond.selects RX1 yX1_begin yX1_begin ∈ GG := gg_in (List.mem_of_getElem? (i := 27) (by decide +kernel)) rfl
theorem wd_28 : Cond.selects RX1 yX1_leave yX1_leave ∈ GG := gg_in (List.mem_of_getElem? (i := 28) (by decide +kernel)) rfl
theorem wd_29 : Cond.selects RX6 yX6_rowsThere yX6_rowsThere ∈ GG := gg_in (List.mem_of_getElem? (i := 29) (by decide +kernel)) rfl
theorem wd_30 : Cond.selects RX7 yX7_finding yX7_finding ∈ GG := gg_in (List.mem_of_getElem? (i := 30) (by decide +kernel)) rfl
theorem wd_31 : Cond.selects RX7 yX7_begin yX7_begin ∈ GG := gg_in (List.mem_of_getElem? (i := 31) (by decide +kernel)) rfl
theorem wd_32 : Cond.selects RX7 yX7_nextToken yX7_nextToken ∈ GG := gg_in (List.mem_of_getElem? (i := 32) (by decide +kernel)) rfl
theorem wd_33 : Cond.selects RX7 yX7_isLetter yX7_isLetter ∈ GG := gg_in (List.mem_of_getElem? (i := 33) (by decide +kernel)) rfl
theorem wd_34 : Cond.selects RX7 yX7_must yX7_must ∈ GG := gg_in (List.mem_of_getElem? (i := 34) (by decide +kernel)) rfl
theorem wd_35 : Cond.selects RX7 yX7_bad yX7_bad ∈ GG := gg_in (List.mem_of_getElem? (i := 35) (by decide +kernel)) rfl
theorem wd_36 : Cond.selects RX7 yX7_number yX7_number ∈ GG := gg_in (List.mem_of_getElem? (i := 36) (by decide +kernel)) rfl
theorem wd_37 : Cond.selects RX7 yX7_mustSign yX7_mustSign ∈ GG := gg_in (List.mem_of_getElem? (i := 37) (by decide +kernel)) rfl
theorem wd_38 : Cond.selects RX7 yX7_readWind yX7_readWind ∈ GG := gg_in (List.mem_of_getElem? (i := 38) (by decide +kernel)) rfl
theorem wd_39 : Cond.selects RX7 yX7_isSort yX7_isSort ∈ GG := gg_in (List.mem_of_getElem? (i := 39) (by decide +kernel)) rfl
theorem wd_40 : Cond.selects RX7 yX7_readSheet yX7_readSheet ∈ GG := gg_in (List.mem_of_getElem? (i := 40) (by decide +kernel)) rfl
theorem wd_41 : Cond.selects RX7 yX7_failed yX7_failed ∈ GG := gg_in (List.mem_of_getElem? (i := 41) (by decide +kernel)) rfl
theorem wd_42 : Cond.selects RX7 yX7_isThere yX7_isThere ∈ GG := gg_in (List.mem_of_getElem? (i := 42) (by decide +kernel)) rfl
theorem wd_43 : Cond.selects RX7 yX7_keep yX7_keep ∈ GG := gg_in (List.mem_of_getElem? (i := 43) (by decide +kernel)) rfl
theorem wd_44 : Cond.selects RX7 yX7_isCell yX7_isCell ∈ GG := gg_in (List.mem_of_getElem? (i := 44) (by decide +kernel)) rfl
theorem wd_45 : Cond.selects RX7 yX7_isWind yX7_isWind ∈ GG := gg_in (List.mem_of_getElem? (i := 45) (by decide +kernel)) rfl
theorem wd_46 : Cond.selects RX7 yX7_isSheet yX7_isSheet ∈ GG := gg_in (List.mem_of_getElem? (i := 46) (by decide +kernel)) rfl
theorem wd_47 : Cond.selects RX7 yX7_layThen yX7_layThen ∈ GG := gg_in (List.mem_of_getElem? (i := 47) (by decide +kernel)) rfl
theorem wd_48 : Cond.selects RX7 yX7_numberedBy yX7_numberedBy ∈ GG := gg_in (List.mem_of_getElem? (i := 48) (by decide +kernel)) rfl
theorem wd_49 : Cond.selects RX7 yX7_pailsOf yX7_pailsOf ∈ GG := gg_in (List.mem_of_getElem? (i := 49) (by decide +kernel)) rfl
theorem wd_50 : Cond.selects RX7 yX7_afterTurns yX7_afterTurns ∈ GG := gg_in (List.mem_of_getElem? (i := 50) (by decide +kernel)) rfl
theorem wd_51 : Cond.selects RX7 yX7_rowFound yX7_rowFound ∈ GG := gg_in (List.mem_of_getElem? (i := 51) (by decide +kernel)) rfl
theorem wd_52 : Cond.selects RX7 yX7_allSo yX7_allSo ∈ GG := gg_in (List.mem_of_getElem? (i := 52) (by decide +kernel)) rfl
theorem wd_53 : Cond.selects RX7 yX7_sizeOf yX7_sizeOf ∈ GG := gg_in (List.mem_of_getElem? (i := 53) (by decide +kernel)) rfl
theorem wd_54 : Cond.selects RX7 yX7_haarSize yX7_haarSize ∈ GG := gg_in (List.mem_of_getElem? (i := 54) (by decide +kernel)) rfl
theorem wd_55 : Cond.selects RX7 yX7_began yX7_began ∈ GG := gg_in (List.mem_of_getElem? (i := 55) (by decide +kernel)) rfl
theorem wd_56 : Cond.selects RX7 yX7_plainSize yX7_plainSize ∈ GG := gg_in (List.mem_of_getElem? (i := 56) (by decide +kernel)) rfl
theorem wd_57 : Cond.selects RX7 yX7_markOf yX7_markOf ∈ GG := gg_in (List.mem_of_getElem? (i := 57) (by decide +kernel)) rfl
theorem wd_59 : Cond.initialized RX6 ∈ GG := gg_in (List.mem_of_getElem? (i := 59) (by decide +kernel)) rfl
theorem wd_60 : Cond.initialized RX4 ∈ GG := gg_in (List.mem_of_getElem? (i := 60) (by decide +kernel)) rfl
theorem wd_61 : Cond.initialized RX2 ∈ GG := gg_in (List.mem_of_getElem? (i := 61) (by decide +kernel)) rfl
theorem wd_62 : Cond.initialized RX0 ∈ GG := gg_in (List.mem_of_getElem? (i := 62) (by decide +kernel)) rfl
theorem wd_63 : Cond.initialized RX3 ∈ GG := gg_in (List.mem_of_getElem? (i := 63) (by decide +kernel)) rfl
theorem wd_64 : Cond.initialized RX1 ∈ GG := gg_in (List.mem_of_getElem? (i := 64) (by decide +kernel)) rfl
theorem wd_65 : Cond.initialized RX5 ∈ GG := gg_in (List.mem_of_getElem? (i := 65) (by decide +kernel)) rfl
theorem wd_66 : Cond.initialized RX7 ∈ GG := gg_in (List.mem_of_getElem? (i := 66) (by decide +kernel)) rfl
theorem wd_67 : Cond.initialized RJ7 ∈ GG := gg_in (List.mem_of_getElem? (i := 67) (by decide +kernel)) rfl
theorem wd_68 : Cond.initialized "java/lang/System" ∈ GG := gg_in (List.mem_of_getElem? (i := 68) (by decide +kernel)) rfl
theorem wd_69 : Cond.initialized "java/lang/Math" ∈ GG := gg_in (List.mem_of_getElem? (i := 69) (by decide +kernel)) rfl
theorem wd_70 : Cond.initialized RJ6 ∈ GG := gg_in (List.mem_of_getElem? (i := 70) (by decide +kernel)) rfl
theorem wd_93 : Cond.fieldLink RX2 9 RX2 "winds" "[I" ∈ GG := gg_in (List.mem_of_getElem? (i := 93) (by decide +kernel)) rfl
theorem wd_94 : Cond.fieldLink RX6 169 RX2 "winds" "[I" ∈ GG := gg_in (List.mem_of_getElem? (i := 94) (by decide +kernel)) rfl
theorem wd_95 : Cond.fieldLink RX3 126 RX2 "winds" "[I" ∈ GG := gg_in (List.mem_of_getElem? (i := 95) (by decide +kernel)) rfl
theorem wd_96 : Cond.fieldLink RX2 15 RX2 "kinds" "[I" ∈ GG := gg_in (List.mem_of_getElem? (i := 96) (by decide +kernel)) rfl
theorem wd_97 : Cond.fieldLink RX1 21 RX2 "kinds" "[I" ∈ GG := gg_in (List.mem_of_getElem? (i := 97) (by decide +kernel)) rfl
theorem wd_98 : Cond.fieldLink RX3 161 RX2 "kinds" "[I" ∈ GG := gg_in (List.mem_of_getElem? (i := 98) (by decide +kernel)) rfl
theorem wd_99 : Cond.fieldLink RX6 288 RX2 "kinds" "[I" ∈ GG := gg_in (List.mem_of_getElem? (i := 99) (by decide +kernel)) rfl
theorem wd_100 : Cond.fieldLink RX2 18 RX2 "at" "[I" ∈ GG := gg_in (List.mem_of_getElem? (i := 100) (by decide +kernel)) rfl
theorem wd_101 : Cond.fieldLink RX3 164 RX2 "at" "[I" ∈ GG := gg_in (List.mem_of_getElem? (i := 101) (by decide +kernel)) rfl
theorem wd_102 : Cond.fieldLink RX2 21 RX2 "wide" "[I" ∈ GG := gg_in (List.mem_of_getElem? (i := 102) (by decide +kernel)) rfl
theorem wd_103 : Cond.fieldLink RX1 50 RX2 "wide" "[I" ∈ GG := gg_in (List.mem_of_getElem? (i := 103) (by decide +kernel)) rfl
theorem wd_104 : Cond.fieldLink RX6 191 RX2 "wide" "[I" ∈ GG := gg_in (List.mem_of_getElem? (i := 104) (by decide +kernel)) rfl
theorem wd_105 : Cond.fieldLink RX2 24 RX2 "thick" "[I" ∈ GG := gg_in (List.mem_of_getElem? (i := 105) (by decide +kernel)) rfl
theorem wd_106 : Cond.fieldLink RX1 53 RX2 "thick" "[I" ∈ GG := gg_in (List.mem_of_getElem? (i := 106) (by decide +kernel)) rfl
theorem wd_107 : Cond.fieldLink RX3 167 RX2 "thick" "[I" ∈ GG := gg_in (List.mem_of_getElem? (i := 107) (by decide +kernel)) rfl
theorem wd_108 : Cond.fieldLink RX2 27 RX2 "number" "[I" ∈ GG := gg_in (List.mem_of_getElem? (i := 108) (by decide +kernel)) rfl
theorem wd_109 : Cond.fieldLink RX3 45 RX2 "number" "[I" ∈ GG := gg_in (List.mem_of_getElem? (i := 109) (by decide +kernel)) rfl
theorem wd_110 : Cond.fieldLink RX6 197 RX2 "number" "[I" ∈ GG := gg_in (List.mem_of_getElem? (i := 110) (by decide +kernel)) rfl
theorem wd_111 : Cond.fieldLink RX2 36 RX2 "told" "Z" ∈ GG := gg_in (List.mem_of_getElem? (i := 111) (by decide +kernel)) rfl
theorem wd_112 : Cond.fieldLink RX4 50 RX2 "told" "Z" ∈ GG := gg_in (List.mem_of_getElem? (i := 112) (by decide +kernel)) rfl
theorem wd_113 : Cond.fieldLink RX6 145 RX2 "told" "Z" ∈ GG := gg_in (List.mem_of_getElem? (i := 113) (by decide +kernel)) rfl
theorem wd_114 : Cond.fieldLink RX2 40 RX2 "cells" "I" ∈ GG := gg_in (List.mem_of_getElem? (i := 114) (by decide +kernel)) rfl
theorem wd_115 : Cond.fieldLink RX4 62 RX2 "cells" "I" ∈ GG := gg_in (List.mem_of_getElem? (i := 115) (by decide +kernel)) rfl
theorem wd_116 : Cond.fieldLink RX3 74 RX2 "cells" "I" ∈ GG := gg_in (List.mem_of_getElem? (i := 116) (by decide +kernel)) rfl
theorem wd_117 : Cond.fieldLink RX6 209 RX2 "cells" "I" ∈ GG := gg_in (List.mem_of_getElem? (i := 117) (by decide +kernel)) rfl
theorem wd_118 : Cond.fieldLink RX2 44 RX2 "point" "I" ∈ GG := gg_in (List.mem_of_getElem? (i := 118) (by decide +kernel)) rfl
theorem wd_119 : Cond.fieldLink RX4 65 RX2 "point" "I" ∈ GG := gg_in (List.mem_of_getElem? (i := 119) (by decide +kernel)) rfl
theorem wd_120 : Cond.fieldLink RX3 113 RX2 "point" "I" ∈ GG := gg_in (List.mem_of_getElem? (i := 120) (by decide +kernel)) rfl
theorem wd_121 : Cond.fieldLink RX6 212 RX2 "point" "I" ∈ GG := gg_in (List.mem_of_getElem? (i := 121) (by decide +kernel)) rfl
theorem wd_122 : Cond.fieldLink RX2 47 RX2 "walker" "I" ∈ GG := gg_in (List.mem_of_getElem? (i := 122) (by decide +kernel)) rfl
theorem wd_123 : Cond.fieldLink RX4 68 RX2 "walker" "I" ∈ GG := gg_in (List.mem_of_getElem? (i := 123) (by decide +kernel)) rfl
theorem wd_124 : Cond.fieldLink RX3 56 RX2 "walker" "I" ∈ GG := gg_in (List.mem_of_getElem? (i := 124) (by decide +kernel)) rfl
theorem wd_125 : Cond.fieldLink RX6 160 RX2 "walker" "I" ∈ GG := gg_in (List.mem_of_getElem? (i := 125) (by decide +kernel)) rfl
theorem wd_126 : Cond.fieldLink RX2 50 RX2 "awake" "I" ∈ GG := gg_in (List.mem_of_getElem? (i := 126) (by decide +kernel)) rfl
theorem wd_127 : Cond.fieldLink RX4 71 RX2 "awake" "I" ∈ GG := gg_in (List.mem_of_getElem? (i := 127) (by decide +kernel)) rfl
theorem wd_128 : Cond.fieldLink RX6 172 RX2 "awake" "I" ∈ GG := gg_in (List.mem_of_getElem? (i := 128) (by decide +kernel)) rfl
theorem wd_129 : Cond.fieldLink RX2 53 RX2 "windCount" "I" ∈ GG := gg_in (List.mem_of_getElem? (i := 129) (by decide +kernel)) rfl
theorem wd_130 : Cond.fieldLink RX4 74 RX2 "windCount" "I" ∈ GG := gg_in (List.mem_of_getElem? (i := 130) (by decide +kernel)) rfl
theorem wd_131 : Cond.fieldLink RX3 181 RX2 "windCount" "I" ∈ GG := gg_in (List.mem_of_getElem? (i := 131) (by decide +kernel)) rfl
theorem wd_132 : Cond.fieldLink RX6 306 RX2 "windCount" "I" ∈ GG := gg_in (List.mem_of_getElem? (i := 132) (by decide +kernel)) rfl
theorem wd_133 : Cond.fieldLink RX2 56 RX2 "sheetCount" "I" ∈ GG := gg_in (List.mem_of_getElem? (i := 133) (by decide +kernel)) rfl
theorem wd_134 : Cond.fieldLink RX4 87 RX2 "sheetCount" "I" ∈ GG := gg_in (List.mem_of_getElem? (i := 134) (by decide +kernel)) rfl
theorem wd_135 : Cond.fieldLink RX6 135 RX2 "sheetCount" "I" ∈ GG := gg_in (List.mem_of_getElem? (i := 135) (by decide +kernel)) rfl
theorem wd_136 : Cond.fieldLink RX3 184 RX2 "sheetCount" "I" ∈ GG := gg_in (List.mem_of_getElem? (i := 136) (by decide +kernel)) rfl
theorem wd_137 : Cond.fieldLink RX2 59 RX2 "hour" "I" ∈ GG := gg_in (List.mem_of_getElem? (i := 137) (by decide +kernel)) rfl
theorem wd_138 : Cond.fieldLink RX6 148 RX2 "hour" "I" ∈ GG := gg_in (List.mem_of_getElem? (i := 138) (by decide +kernel)) rfl
theorem wd_139 : Cond.fieldLink RX3 110 RX2 "hour" "I" ∈ GG := gg_in (List.mem_of_getElem? (i := 139) (by decide +kernel)) rfl
theorem wd_140 : Cond.fieldLink RX2 62 RX2 "in" "I" ∈ GG := gg_in (List.mem_of_getElem? (i := 140) (by decide +kernel)) rfl
theorem wd_141 : Cond.fieldLink RX6 185 RX2 "in" "I" ∈ GG := gg_in (List.mem_of_getElem? (i := 141) (by decide +kernel)) rfl
theorem wd_142 : Cond.fieldLink RX2 65 RX2 "numbered" "I" ∈ GG := gg_in (List.mem_of_getElem? (i := 142) (by decide +kernel)) rfl
theorem wd_143 : Cond.fieldLink RX6 157 RX2 "numbered" "I" ∈ GG := gg_in (List.mem_of_getElem? (i := 143) (by decide +kernel)) rfl
theorem wd_144 : Cond.fieldLink RX3 178 RX2 "numbered" "I" ∈ GG := gg_in (List.mem_of_getElem? (i := 144) (by decide +kernel)) rfl
theorem wd_179 : Cond.fieldLink RX4 12 RX4 "draft" "LFogSheets$Estuary;" ∈ GG := gg_in (List.mem_of_getElem? (i := 179) (by decide +kernel)) rfl
theorem wd_180 : Cond.fieldLink RX6 125 RX4 "draft" "LFogSheets$Estuary;" ∈ GG := gg_in (List.mem_of_getElem? (i := 180) (by decide +kernel)) rfl
theorem wd_181 : Cond.fieldLink RX4 22 RX4 "bytes" "I" ∈ GG := gg_in (List.mem_of_getElem? (i := 181) (by decide +kernel)) rfl
theorem wd_182 : Cond.fieldLink RX6 104 RX4 "bytes" "I" ∈ GG := gg_in (List.mem_of_getElem? (i := 182) (by decide +kernel)) rfl
theorem wd_183 : Cond.fieldLink RX4 26 RX4 "fault" "I" ∈ GG := gg_in (List.mem_of_getElem? (i := 183) (by decide +kernel)) rfl
theorem wd_184 : Cond.fieldLink RX6 115 RX4 "fault" "I" ∈ GG := gg_in (List.mem_of_getElem? (i := 184) (by decide +kernel)) rfl
theorem wd_185 : Cond.fieldLink RX6 122 RX4 "place" "I" ∈ GG := gg_in (List.mem_of_getElem? (i := 185) (by decide +kernel)) rfl
theorem wd_186 : Cond.fieldLink RX4 101 RX4 "place" "I" ∈ GG := gg_in (List.mem_of_getElem? (i := 186) (by decide +kernel)) rfl
theorem wd_187 : Cond.fieldLink RX4 18 RX4 "tape" "[I" ∈ GG := gg_in (List.mem_of_getElem? (i := 187) (by decide +kernel)) rfl
theorem wd_188 : Cond.fieldLink RX4 44 RX4 "token" "I" ∈ GG := gg_in (List.mem_of_getElem? (i := 188) (by decide +kernel)) rfl
theorem wd_189 : Cond.fieldLink RX4 94 RX4 "value" "I" ∈ GG := gg_in (List.mem_of_getElem? (i := 189) (by decide +kernel)) rfl
theorem wd_190 : Cond.fieldLink RX4 29 RX4 "behind" "I" ∈ GG := gg_in (List.mem_of_getElem? (i := 190) (by decide +kernel)) rfl
theorem wd_219 : Cond.fieldLink RX0 11 RX0 "before" "[LFogSheets$Estuary;" ∈ GG := gg_in (List.mem_of_getElem? (i := 219) (by decide +kernel)) rfl
theorem wd_220 : Cond.fieldLink RX0 18 RX0 "next" "I" ∈ GG := gg_in (List.mem_of_getElem? (i := 220) (by decide +kernel)) rfl
theorem wd_221 : Cond.fieldLink RX0 26 RX0 "kept" "I" ∈ GG := gg_in (List.mem_of_getElem? (i := 221) (by decide +kernel)) rfl
theorem wd_222 : Cond.fieldLink RX6 138 RX0 "kept" "I" ∈ GG := gg_in (List.mem_of_getElem? (i := 222) (by decide +kernel)) rfl
theorem wd_240 : Cond.fieldLink RX3 12 RX3 "then" "LFogSheets$Estuary;" ∈ GG := gg_in (List.mem_of_getElem? (i := 240) (by decide +kernel)) rfl
theorem wd_241 : Cond.fieldLink RX3 20 RX3 "overThen" "[[I" ∈ GG := gg_in (List.mem_of_getElem? (i := 241) (by decide +kernel)) rfl
theorem wd_242 : Cond.fieldLink RX3 23 RX3 "leastFrom" "[[I" ∈ GG := gg_in (List.mem_of_getElem? (i := 242) (by decide +kernel)) rfl
theorem wd_243 : Cond.fieldLink RX3 26 RX3 "seen" "[I" ∈ GG := gg_in (List.mem_of_getElem? (i := 243) (by decide +kernel)) rfl
theorem wd_244 : Cond.fieldLink RX3 30 RX3 "told" "[I" ∈ GG := gg_in (List.mem_of_getElem? (i := 244) (by decide +kernel)) rfl
theorem wd_245 : Cond.fieldLink RX3 136 RX3 "hoursTold" "I" ∈ GG := gg_in (List.mem_of_getElem? (i := 245) (by decide +kernel)) rfl
theorem wd_265 : Cond.fieldLink RX1 7 RX1 "bodies" "[I" ∈ GG := gg_in (List.mem_of_getElem? (i := 265) (by decide +kernel)) rfl
theorem wd_266 : Cond.fieldLink RX6 300 RX1 "bodies" "[I" ∈ GG := gg_in (List.mem_of_getElem? (i := 266) (by decide +kernel)) rfl
theorem wd_267 : Cond.fieldLink RX1 13 RX1 "begun" "I" ∈ GG := gg_in (List.mem_of_getElem? (i := 267) (by decide +kernel)) rfl
theorem wd_268 : Cond.fieldLink RX6 297 RX1 "begun" "I" ∈ GG := gg_in (List.mem_of_getElem? (i := 268) (by decide +kernel)) rfl
theorem wd_279 : Cond.fieldLink RX5 9 RX5 "items" "[I" ∈ GG := gg_in (List.mem_of_getElem? (i := 279) (by decide +kernel)) rfl
theorem wd_280 : Cond.fieldLink RX6 91 RX5 "items" "[I" ∈ GG := gg_in (List.mem_of_getElem? (i := 280) (by decide +kernel)) rfl
theorem wd_281 : Cond.fieldLink RX3 139 RX5 "items" "[I" ∈ GG := gg_in (List.mem_of_getElem? (i := 281) (by decide +kernel)) rfl
theorem wd_282 : Cond.fieldLink RX5 15 RX5 "missing" "Z" ∈ GG := gg_in (List.mem_of_getElem? (i := 282) (by decide +kernel)) rfl
theorem wd_283 : Cond.fieldLink RX6 75 RX5 "missing" "Z" ∈ GG := gg_in (List.mem_of_getElem? (i := 283) (by decide +kernel)) rfl
theorem wd_284 : Cond.fieldLink RX5 19 RX5 "lane" "I" ∈ GG := gg_in (List.mem_of_getElem? (i := 284) (by decide +kernel)) rfl
theorem wd_285 : Cond.fieldLink RX6 87 RX5 "lane" "I" ∈ GG := gg_in (List.mem_of_getElem? (i := 285) (by decide +kernel)) rfl
theorem wd_286 : Cond.fieldLink RX5 23 RX5 "size" "I" ∈ GG := gg_in (List.mem_of_getElem? (i := 286) (by decide +kernel)) rfl
theorem wd_287 : Cond.fieldLink RX6 101 RX5 "size" "I" ∈ GG := gg_in (List.mem_of_getElem? (i := 287) (by decide +kernel)) rfl
theorem wd_297 : Cond.fieldLink RX6 11 RX6 "rows" "[LFogSheets$Row;" ∈ GG := gg_in (List.mem_of_getElem? (i := 297) (by decide +kernel)) rfl
theorem wd_298 : Cond.fieldLink RX6 18 RX6 "reader" "LFogSheets$Reader;" ∈ GG := gg_in (List.mem_of_getElem? (i := 298) (by decide +kernel)) rfl
theorem wd_299 : Cond.fieldLink RX6 25 RX6 "now" "LFogSheets$Estuary;" ∈ GG := gg_in (List.mem_of_getElem? (i := 299) (by decide +kernel)) rfl
theorem wd_300 : Cond.fieldLink RX6 32 RX6 "acts" "LFogSheets$Acts;" ∈ GG := gg_in (List.mem_of_getElem? (i := 300) (by decide +kernel)) rfl
theorem wd_301 : Cond.fieldLink RX6 36 RX6 "images" "[LFogSheets$Estuary;" ∈ GG := gg_in (List.mem_of_getElem? (i := 301) (by decide +kernel)) rfl
theorem wd_302 : Cond.fieldLink RX6 43 RX6 "foreteller" "LFogSheets$Foreteller;" ∈ GG := gg_in (List.mem_of_getElem? (i := 302) (by decide +kernel)) rfl
theorem wd_303 : Cond.fieldLink RX6 50 RX6 "asks" "LFogSheets$Asks;" ∈ GG := gg_in (List.mem_of_getElem? (i := 303) (by decide +kernel)) rfl
theorem wd_304 : Cond.fieldLink RX6 118 RX6 "latestFault" "I" ∈ GG := gg_in (List.mem_of_getElem? (i := 304) (by decide +kernel)) rfl
theorem wd_305 : Cond.fieldLink RX6 309 RX6 "latestFinding" "I" ∈ GG := gg_in (List.mem_of_getElem? (i := 305) (by decide +kernel)) rfl
theorem wd_325 : Cond.methodLink RL 13 yX6_row ∈ GG := gg_in (List.mem_of_getElem? (i := 325) (by decide +kernel)) rfl
theorem wd_326 : Cond.instanceMethod yX6_row ∈ GG := gg_in (List.mem_of_getElem? (i := 326) (by decide +kernel)) rfl
theorem wd_327 : Cond.selects RX6 yX6_row yX6_row ∈ GG := gg_in (List.mem_of_getElem? (i := 327) (by decide +kernel)) rfl
theorem wd_328 : Cond.code yX6_row cX6_row 4 (some .int) ∈ GG := gg_in (List.mem_of_getElem? (i := 328) (by decide +kernel)) rfl
theorem wd_329 : Cond.methodLink RX6 55 yX6_isRow ∈ GG := gg_in (List.mem_of_getElem? (i := 329) (by decide +kernel)) rfl
theorem wd_330 : Cond.static yX6_isRow ∈ GG := gg_in (List.mem_of_getElem? (i := 330) (by decide +kernel)) rfl
theorem wd_331 : Cond.code yX6_isRow cX6_isRow 1 (some .boolean) ∈ GG := gg_in (List.mem_of_getElem? (i := 331) (by decide +kernel)) rfl
theorem wd_332 : Cond.methodLink RX6 59 yX6_isWithin ∈ GG := gg_in (List.mem_of_getElem? (i := 332) (by decide +kernel)) rfl
theorem wd_333 : Cond.static yX6_isWithin ∈ GG := gg_in (List.mem_of_getElem? (i := 333) (by decide +kernel)) rfl
theorem wd_334 : Cond.code yX6_isWithin cX6_isWithin 3 (some .boolean) ∈ GG := gg_in (List.mem_of_getElem? (i := 334) (by decide +kernel)) rfl
theorem wd_335 : Cond.constant RX6 63 (-1000001) ∈ GG := gg_in (List.mem_of_getElem? (i := 335) (by decide +kernel)) rfl
theorem wd_336 : Cond.methodLink RX6 64 yX6_found ∈ GG := gg_in (List.mem_of_getElem? (i := 336) (by decide +kernel)) rfl
theorem wd_338 : Cond.instanceMethod yX6_found ∈ GG := gg_in (List.mem_of_getElem? (i := 338) (by decide +kernel)) rfl
theorem wd_339 : Cond.code yX6_found cX6_found 2 (some .int) ∈ GG := gg_in (List.mem_of_getElem? (i := 339) (by decide +kernel)) rfl
theorem wd_340 : Cond.constant RX6 312 (-1000010) ∈ GG := gg_in (List.mem_of_getElem? (i := 340) (by decide +kernel)) rfl
theorem wd_341 : Cond.methodLink RX6 68 yX5_make ∈ GG := gg_in (List.mem_of_getElem? (i := 341) (by decide +kernel)) rfl
theorem wd_342 : Cond.instanceMethod yX5_make ∈ GG := gg_in (List.mem_of_getElem? (i := 342) (by decide +kernel)) rfl
theorem wd_343 : Cond.selects RX5 yX5_make yX5_make ∈ GG := gg_in (List.mem_of_getElem? (i := 343) (by decide +kernel)) rfl
theorem wd_344 : Cond.code yX5_make cX5_make 3 none ∈ GG := gg_in (List.mem_of_getElem? (i := 344) (by decide +kernel)) rfl
theorem wd_345 : Cond.methodLink RX5 26 yJ7_fill_53178 ∈ GG := gg_in (List.mem_of_getElem? (i := 345) (by decide +kernel)) rfl
theorem wd_346 : Cond.static yJ7_fill_53178 ∈ GG := gg_in (List.mem_of_getElem? (i := 346) (by decide +kernel)) rfl
theorem wd_347 : Cond.code yJ7_fill_53178 cJ7_fill_53178 4 none ∈ GG := gg_in (List.mem_of_getElem? (i := 347) (by decide +kernel)) rfl
theorem wd_348 : Cond.methodLink RX6 72 yX6_well ∈ GG := gg_in (List.mem_of_getElem? (i := 348) (by decide +kernel)) rfl
theorem wd_350 : Cond.instanceMethod yX6_well ∈ GG := gg_in (List.mem_of_getElem? (i := 350) (by decide +kernel)) rfl
theorem wd_351 : Cond.code yX6_well cX6_well 2 (some .int) ∈ GG := gg_in (List.mem_of_getElem? (i := 351) (by decide +kernel)) rfl
theorem wd_352 : Cond.methodLink RL 18 yX6_set ∈ GG := gg_in (List.mem_of_getElem? (i := 352) (by decide +kernel)) rfl
theorem wd_353 : Cond.instanceMethod yX6_set ∈ GG := gg_in (List.mem_of_getElem? (i := 353) (by decide +kernel)) rfl
theorem wd_354 : Cond.selects RX6 yX6_set yX6_set ∈ GG := gg_in (List.mem_of_getElem? (i := 354) (by decide +kernel)) rfl
theorem wd_355 : Cond.code yX6_set cX6_set 5 (some .int) ∈ GG := gg_in (List.mem_of_getElem? (i := 355) (by decide +kernel)) rfl
theorem wd_356 : Cond.methodLink RX6 79 yX5_holds ∈ GG := gg_in (List.mem_of_getElem? (i := 356) (by decide +kernel)) rfl
theorem wd_357 : Cond.instanceMethod yX5_holds ∈ GG := gg_in (List.mem_of_getElem? (i := 357) (by decide +kernel)) rfl
theorem wd_358 : Cond.selects RX5 yX5_holds yX5_holds ∈ GG := gg_in (List.mem_of_getElem? (i := 358) (by decide +kernel)) rfl
theorem wd_359 : Cond.code yX5_holds cX5_holds 3 (some .boolean) ∈ GG := gg_in (List.mem_of_getElem? (i := 359) (by decide +kernel)) rfl
theorem wd_360 : Cond.methodLink RX6 83 yX5_put ∈ GG := gg_in (List.mem_of_getElem? (i := 360) (by decide +kernel)) rfl
theorem wd_361 : Cond.instanceMethod yX5_put ∈ GG := gg_in (List.mem_of_getElem? (i := 361) (by decide +kernel)) rfl
theorem wd_362 : Cond.selects RX5 yX5_put yX5_put ∈ GG := gg_in (List.mem_of_getElem? (i := 362) (by decide +kernel)) rfl
theorem wd_363 : Cond.code yX5_put cX5_put 3 (some .int) ∈ GG := gg_in (List.mem_of_getElem? (i := 363) (by decide +kernel)) rfl
theorem wd_364 : Cond.methodLink RX5 32 yX5_lowestBits ∈ GG := gg_in (List.mem_of_getElem? (i := 364) (by decide +kernel)) rfl
theorem wd_366 : Cond.instanceMethod yX5_lowestBits ∈ GG := gg_in (List.mem_of_getElem? (i := 366) (by decide +kernel)) rfl
theorem wd_367 : Cond.code yX5_lowestBits cX5_lowestBits 2 (some .int) ∈ GG := gg_in (List.mem_of_getElem? (i := 367) (by decide +kernel)) rfl
theorem wd_368 : Cond.methodLink RL 22 yX6_copy ∈ GG := gg_in (List.mem_of_getElem? (i := 368) (by decide +kernel)) rfl
theorem wd_369 : Cond.instanceMethod yX6_copy ∈ GG := gg_in (List.mem_of_getElem? (i := 369) (by decide +kernel)) rfl
theorem wd_370 : Cond.selects RX6 yX6_copy yX6_copy ∈ GG := gg_in (List.mem_of_getElem? (i := 370) (by decide +kernel)) rfl
theorem wd_371 : Cond.code yX6_copy cX6_copy 8 (some .int) ∈ GG := gg_in (List.mem_of_getElem? (i := 371) (by decide +kernel)) rfl
theorem wd_372 : Cond.methodLink RX6 95 arraycopyName ∈ GG := gg_in (List.mem_of_getElem? (i := 372) (by decide +kernel)) rfl
theorem wd_373 : Cond.static arraycopyName ∈ GG := gg_in (List.mem_of_getElem? (i := 373) (by decide +kernel)) rfl
theorem wd_374 : Cond.native arraycopyName ∈ GG := gg_in (List.mem_of_getElem? (i := 374) (by decide +kernel)) rfl
theorem wd_375 : Cond.methodLink RL 27 yX6_drop ∈ GG := gg_in (List.mem_of_getElem? (i := 375) (by decide +kernel)) rfl
theorem wd_376 : Cond.instanceMethod yX6_drop ∈ GG := gg_in (List.mem_of_getElem? (i := 376) (by decide +kernel)) rfl
theorem wd_377 : Cond.selects RX6 yX6_drop yX6_drop ∈ GG := gg_in (List.mem_of_getElem? (i := 377) (by decide +kernel)) rfl
theorem wd_378 : Cond.code yX6_drop cX6_drop 3 (some .int) ∈ GG := gg_in (List.mem_of_getElem? (i := 378) (by decide +kernel)) rfl
theorem wd_379 : Cond.methodLink RL 32 yX6_feed ∈ GG := gg_in (List.mem_of_getElem? (i := 379) (by decide +kernel)) rfl
theorem wd_380 : Cond.instanceMethod yX6_feed ∈ GG := gg_in (List.mem_of_getElem? (i := 380) (by decide +kernel)) rfl
theorem wd_381 : Cond.selects RX6 yX6_feed yX6_feed ∈ GG := gg_in (List.mem_of_getElem? (i := 381) (by decide +kernel)) rfl
theorem wd_382 : Cond.code yX6_feed cX6_feed 2 (some .int) ∈ GG := gg_in (List.mem_of_getElem? (i := 382) (by decide +kernel)) rfl
theorem wd_383 : Cond.constant RX6 107 (-1000003) ∈ GG := gg_in (List.mem_of_getElem? (i := 383) (by decide +kernel)) rfl
theorem wd_384 : Cond.methodLink RX6 108 yX4_append ∈ GG := gg_in (List.mem_of_getElem? (i := 384) (by decide +kernel)) rfl
theorem wd_385 : Cond.instanceMethod yX4_append ∈ GG := gg_in (List.mem_of_getElem? (i := 385) (by decide +kernel)) rfl
theorem wd_386 : Cond.selects RX4 yX4_append yX4_append ∈ GG := gg_in (List.mem_of_getElem? (i := 386) (by decide +kernel)) rfl
theorem wd_387 : Cond.code yX4_append cX4_append 2 none ∈ GG := gg_in (List.mem_of_getElem? (i := 387) (by decide +kernel)) rfl
theorem wd_388 : Cond.methodLink RL 36 yX6_estuary ∈ GG := gg_in (List.mem_of_getElem? (i := 388) (by decide +kernel)) rfl
theorem wd_389 : Cond.instanceMethod yX6_estuary ∈ GG := gg_in (List.mem_of_getElem? (i := 389) (by decide +kernel)) rfl
theorem wd_390 : Cond.selects RX6 yX6_estuary yX6_estuary ∈ GG := gg_in (List.mem_of_getElem? (i := 390) (by decide +kernel)) rfl
theorem wd_391 : Cond.code yX6_estuary cX6_estuary 1 (some .int) ∈ GG := gg_in (List.mem_of_getElem? (i := 391) (by decide +kernel)) rfl
theorem wd_392 : Cond.methodLink RX6 112 yX4_read ∈ GG := gg_in (List.mem_of_getElem? (i := 392) (by decide +kernel)) rfl
theorem wd_393 : Cond.instanceMethod yX4_read ∈ GG := gg_in (List.mem_of_getElem? (i := 393) (by decide +kernel)) rfl
theorem wd_394 : Cond.selects RX4 yX4_read yX4_read ∈ GG := gg_in (List.mem_of_getElem? (i := 394) (by decide +kernel)) rfl
theorem wd_395 : Cond.code yX4_read cX4_read 2 none ∈ GG := gg_in (List.mem_of_getElem? (i := 395) (by decide +kernel)) rfl
theorem wd_396 : Cond.methodLink RX4 32 yX2_clear ∈ GG := gg_in (List.mem_of_getElem? (i := 396) (by decide +kernel)) rfl
theorem wd_397 : Cond.instanceMethod yX2_clear ∈ GG := gg_in (List.mem_of_getElem? (i := 397) (by decide +kernel)) rfl
theorem wd_398 : Cond.selects RX2 yX2_clear yX2_clear ∈ GG := gg_in (List.mem_of_getElem? (i := 398) (by decide +kernel)) rfl
theorem wd_399 : Cond.code yX2_clear cX2_clear 1 none ∈ GG := gg_in (List.mem_of_getElem? (i := 399) (by decide +kernel)) rfl
theorem wd_400 : Cond.methodLink RX2 68 yJ7_fill_53178 ∈ GG := gg_in (List.mem_of_getElem? (i := 400) (by decide +kernel)) rfl
theorem wd_401 : Cond.methodLink RX4 35 yX4_nextToken ∈ GG := gg_in (List.mem_of_getElem? (i := 401) (by decide +kernel)) rfl
theorem wd_403 : Cond.instanceMethod yX4_nextToken ∈ GG := gg_in (List.mem_of_getElem? (i := 403) (by decide +kernel)) rfl
theorem wd_404 : Cond.code yX4_nextToken cX4_nextToken 2 none ∈ GG := gg_in (List.mem_of_getElem? (i := 404) (by decide +kernel)) rfl
theorem wd_405 : Cond.methodLink RX4 104 yX4_isFigure ∈ GG := gg_in (List.mem_of_getElem? (i := 405) (by decide +kernel)) rfl
theorem wd_406 : Cond.static yX4_isFigure ∈ GG := gg_in (List.mem_of_getElem? (i := 406) (by decide +kernel)) rfl
theorem wd_407 : Cond.code yX4_isFigure cX4_isFigure 1 (some .boolean) ∈ GG := gg_in (List.mem_of_getElem? (i := 407) (by decide +kernel)) rfl
theorem wd_409 : Cond.methodLink RX4 108 yX4_readFigures ∈ GG := gg_in (List.mem_of_getElem? (i := 409) (by decide +kernel)) rfl
theorem wd_411 : Cond.instanceMethod yX4_readFigures ∈ GG := gg_in (List.mem_of_getElem? (i := 411) (by decide +kernel)) rfl
theorem wd_412 : Cond.code yX4_readFigures cX4_readFigures 2 none ∈ GG := gg_in (List.mem_of_getElem? (i := 412) (by decide +kernel)) rfl
theorem wd_413 : Cond.methodLink RX4 38 yX4_readLaw ∈ GG := gg_in (List.mem_of_getElem? (i := 413) (by decide +kernel)) rfl
theorem wd_415 : Cond.instanceMethod yX4_readLaw ∈ GG := gg_in (List.mem_of_getElem? (i := 415) (by decide +kernel)) rfl
theorem wd_416 : Cond.code yX4_readLaw cX4_readLaw 1 none ∈ GG := gg_in (List.mem_of_getElem? (i := 416) (by decide +kernel)) rfl
theorem wd_417 : Cond.methodLink RX4 54 yX4_take ∈ GG := gg_in (List.mem_of_getElem? (i := 417) (by decide +kernel)) rfl
theorem wd_419 : Cond.instanceMethod yX4_take ∈ GG := gg_in (List.mem_of_getElem? (i := 419) (by decide +kernel)) rfl
theorem wd_420 : Cond.code yX4_take cX4_take 2 none ∈ GG := gg_in (List.mem_of_getElem? (i := 420) (by decide +kernel)) rfl
theorem wd_421 : Cond.methodLink RX4 77 yX4_fail ∈ GG := gg_in (List.mem_of_getElem? (i := 421) (by decide +kernel)) rfl
theorem wd_423 : Cond.instanceMethod yX4_fail ∈ GG := gg_in (List.mem_of_getElem? (i := 423) (by decide +kernel)) rfl
theorem wd_424 : Cond.code yX4_fail cX4_fail 2 none ∈ GG := gg_in (List.mem_of_getElem? (i := 424) (by decide +kernel)) rfl
theorem wd_425 : Cond.methodLink RX4 58 yX4_takeNumber ∈ GG := gg_in (List.mem_of_getElem? (i := 425) (by decide +kernel)) rfl
theorem wd_427 : Cond.instanceMethod yX4_takeNumber ∈ GG := gg_in (List.mem_of_getElem? (i := 427) (by decide +kernel)) rfl
theorem wd_428 : Cond.code yX4_takeNumber cX4_takeNumber 4 (some .int) ∈ GG := gg_in (List.mem_of_getElem? (i := 428) (by decide +kernel)) rfl
theorem wd_429 : Cond.methodLink RX4 41 yX4_readWind ∈ GG := gg_in (List.mem_of_getElem? (i := 429) (by decide +kernel)) rfl
theorem wd_431 : Cond.instanceMethod yX4_readWind ∈ GG := gg_in (List.mem_of_getElem? (i := 431) (by decide +kernel)) rfl
theorem wd_432 : Cond.code yX4_readWind cX4_readWind 1 none ∈ GG := gg_in (List.mem_of_getElem? (i := 432) (by decide +kernel)) rfl
theorem wd_433 : Cond.methodLink RX4 80 yX2_addWind ∈ GG := gg_in (List.mem_of_getElem? (i := 433) (by decide +kernel)) rfl
theorem wd_434 : Cond.instanceMethod yX2_addWind ∈ GG := gg_in (List.mem_of_getElem? (i := 434) (by decide +kernel)) rfl
theorem wd_435 : Cond.selects RX2 yX2_addWind yX2_addWind ∈ GG := gg_in (List.mem_of_getElem? (i := 435) (by decide +kernel)) rfl
theorem wd_436 : Cond.code yX2_addWind cX2_addWind 2 none ∈ GG := gg_in (List.mem_of_getElem? (i := 436) (by decide +kernel)) rfl
theorem wd_437 : Cond.methodLink RX4 47 yX4_readSheet ∈ GG := gg_in (List.mem_of_getElem? (i := 437) (by decide +kernel)) rfl
theorem wd_439 : Cond.instanceMethod yX4_readSheet ∈ GG := gg_in (List.mem_of_getElem? (i := 439) (by decide +kernel)) rfl
theorem wd_440 : Cond.code yX4_readSheet cX4_readSheet 5 none ∈ GG := gg_in (List.mem_of_getElem? (i := 440) (by decide +kernel)) rfl
theorem wd_441 : Cond.methodLink RX4 83 yX4_kindOfSort ∈ GG := gg_in (List.mem_of_getElem? (i := 441) (by decide +kernel)) rfl
theorem wd_442 : Cond.static yX4_kindOfSort ∈ GG := gg_in (List.mem_of_getElem? (i := 442) (by decide +kernel)) rfl
theorem wd_443 : Cond.code yX4_kindOfSort cX4_kindOfSort 1 (some .int) ∈ GG := gg_in (List.mem_of_getElem? (i := 443) (by decide +kernel)) rfl
theorem wd_444 : Cond.methodLink RX4 90 yX2_addSheet ∈ GG := gg_in (List.mem_of_getElem? (i := 444) (by decide +kernel)) rfl
theorem wd_445 : Cond.instanceMethod yX2_addSheet ∈ GG := gg_in (List.mem_of_getElem? (i := 445) (by decide +kernel)) rfl
theorem wd_446 : Cond.selects RX2 yX2_addSheet yX2_addSheet ∈ GG := gg_in (List.mem_of_getElem? (i := 446) (by decide +kernel)) rfl
theorem wd_447 : Cond.code yX2_addSheet cX2_addSheet 5 none ∈ GG := gg_in (List.mem_of_getElem? (i := 447) (by decide +kernel)) rfl
theorem wd_448 : Cond.methodLink RX2 74 yX2_admit ∈ GG := gg_in (List.mem_of_getElem? (i := 448) (by decide +kernel)) rfl
theorem wd_449 : Cond.instanceMethod yX2_admit ∈ GG := gg_in (List.mem_of_getElem? (i := 449) (by decide +kernel)) rfl
theorem wd_450 : Cond.selects RX2 yX2_admit yX2_admit ∈ GG := gg_in (List.mem_of_getElem? (i := 450) (by decide +kernel)) rfl
theorem wd_451 : Cond.code yX2_admit cX2_admit 4 none ∈ GG := gg_in (List.mem_of_getElem? (i := 451) (by decide +kernel)) rfl
theorem wd_452 : Cond.constant RX6 121 (-1000100) ∈ GG := gg_in (List.mem_of_getElem? (i := 452) (by decide +kernel)) rfl
theorem wd_453 : Cond.methodLink RX6 128 yX2_become ∈ GG := gg_in (List.mem_of_getElem? (i := 453) (by decide +kernel)) rfl
theorem wd_454 : Cond.instanceMethod yX2_become ∈ GG := gg_in (List.mem_of_getElem? (i := 454) (by decide +kernel)) rfl
theorem wd_455 : Cond.selects RX2 yX2_become yX2_become ∈ GG := gg_in (List.mem_of_getElem? (i := 455) (by decide +kernel)) rfl
theorem wd_456 : Cond.code yX2_become cX2_become 2 none ∈ GG := gg_in (List.mem_of_getElem? (i := 456) (by decide +kernel)) rfl
theorem wd_457 : Cond.methodLink RX2 30 arraycopyName ∈ GG := gg_in (List.mem_of_getElem? (i := 457) (by decide +kernel)) rfl
theorem wd_458 : Cond.methodLink RX6 132 yX0_forget ∈ GG := gg_in (List.mem_of_getElem? (i := 458) (by decide +kernel)) rfl
theorem wd_459 : Cond.instanceMethod yX0_forget ∈ GG := gg_in (List.mem_of_getElem? (i := 459) (by decide +kernel)) rfl
theorem wd_460 : Cond.selects RX0 yX0_forget yX0_forget ∈ GG := gg_in (List.mem_of_getElem? (i := 460) (by decide +kernel)) rfl
theorem wd_461 : Cond.code yX0_forget cX0_forget 1 none ∈ GG := gg_in (List.mem_of_getElem? (i := 461) (by decide +kernel)) rfl
theorem wd_462 : Cond.methodLink RL 41 yX6_fault ∈ GG := gg_in (List.mem_of_getElem? (i := 462) (by decide +kernel)) rfl
theorem wd_463 : Cond.instanceMethod yX6_fault ∈ GG := gg_in (List.mem_of_getElem? (i := 463) (by decide +kernel)) rfl
theorem wd_464 : Cond.selects RX6 yX6_fault yX6_fault ∈ GG := gg_in (List.mem_of_getElem? (i := 464) (by decide +kernel)) rfl
theorem wd_465 : Cond.code yX6_fault cX6_fault 1 (some .int) ∈ GG := gg_in (List.mem_of_getElem? (i := 465) (by decide +kernel)) rfl
theorem wd_466 : Cond.methodLink RL 45 yX6_undo ∈ GG := gg_in (List.mem_of_getElem? (i := 466) (by decide +kernel)) rfl
theorem wd_467 : Cond.instanceMethod yX6_undo ∈ GG := gg_in (List.mem_of_getElem? (i := 467) (by decide +kernel)) rfl
theorem wd_468 : Cond.selects RX6 yX6_undo yX6_undo ∈ GG := gg_in (List.mem_of_getElem? (i := 468) (by decide +kernel)) rfl
theorem wd_469 : Cond.code yX6_undo cX6_undo 1 (some .int) ∈ GG := gg_in (List.mem_of_getElem? (i := 469) (by decide +kernel)) rfl
theorem wd_470 : Cond.constant RX6 141 (-1000002) ∈ GG := gg_in (List.mem_of_getElem? (i := 470) (by decide +kernel)) rfl
theorem wd_471 : Cond.methodLink RX6 142 yX0_takeBack ∈ GG := gg_in (List.mem_of_getElem? (i := 471) (by decide +kernel)) rfl
theorem wd_472 : Cond.instanceMethod yX0_takeBack ∈ GG := gg_in (List.mem_of_getElem? (i := 472) (by decide +kernel)) rfl
theorem wd_473 : Cond.selects RX0 yX0_takeBack yX0_takeBack ∈ GG := gg_in (List.mem_of_getElem? (i := 473) (by decide +kernel)) rfl
theorem wd_474 : Cond.code yX0_takeBack cX0_takeBack 2 none ∈ GG := gg_in (List.mem_of_getElem? (i := 474) (by decide +kernel)) rfl
theorem wd_475 : Cond.methodLink RX0 22 yX2_become ∈ GG := gg_in (List.mem_of_getElem? (i := 475) (by decide +kernel)) rfl
theorem wd_476 : Cond.methodLink RL 49 yX6_hours ∈ GG := gg_in (List.mem_of_getElem? (i := 476) (by decide +kernel)) rfl
theorem wd_477 : Cond.instanceMethod yX6_hours ∈ GG := gg_in (List.mem_of_getElem? (i := 477) (by decide +kernel)) rfl
theorem wd_478 : Cond.selects RX6 yX6_hours yX6_hours ∈ GG := gg_in (List.mem_of_getElem? (i := 478) (by decide +kernel)) rfl
theorem wd_479 : Cond.code yX6_hours cX6_hours 3 (some .int) ∈ GG := gg_in (List.mem_of_getElem? (i := 479) (by decide +kernel)) rfl
theorem wd_480 : Cond.methodLink RX6 151 yX0_keep ∈ GG := gg_in (List.mem_of_getElem? (i := 480) (by decide +kernel)) rfl
theorem wd_481 : Cond.instanceMethod yX0_keep ∈ GG := gg_in (List.mem_of_getElem? (i := 481) (by decide +kernel)) rfl
theorem wd_482 : Cond.selects RX0 yX0_keep yX0_keep ∈ GG := gg_in (List.mem_of_getElem? (i := 482) (by decide +kernel)) rfl
theorem wd_483 : Cond.code yX0_keep cX0_keep 2 none ∈ GG := gg_in (List.mem_of_getElem? (i := 483) (by decide +kernel)) rfl
theorem wd_484 : Cond.methodLink RX0 29 Lib.Math.min.name ∈ GG := gg_in (List.mem_of_getElem? (i := 484) (by decide +kernel)) rfl
theorem wd_485 : Cond.static Lib.Math.min.name ∈ GG := gg_in (List.mem_of_getElem? (i := 485) (by decide +kernel)) rfl
theorem wd_486 : Cond.code Lib.Math.min.name Lib.Math.min.code 2 (some .int) ∈ GG := gg_in (List.mem_of_getElem? (i := 486) (by decide +kernel)) rfl
theorem wd_487 : Cond.methodLink RX6 154 yX2_passHour ∈ GG := gg_in (List.mem_of_getElem? (i := 487) (by decide +kernel)) rfl
theorem wd_488 : Cond.instanceMethod yX2_passHour ∈ GG := gg_in (List.mem_of_getElem? (i := 488) (by decide +kernel)) rfl
theorem wd_489 : Cond.selects RX2 yX2_passHour yX2_passHour ∈ GG := gg_in (List.mem_of_getElem? (i := 489) (by decide +kernel)) rfl
theorem wd_490 : Cond.code yX2_passHour cX2_passHour 3 none ∈ GG := gg_in (List.mem_of_getElem? (i := 490) (by decide +kernel)) rfl
theorem wd_491 : Cond.methodLink RX2 82 yX2_gust ∈ GG := gg_in (List.mem_of_getElem? (i := 491) (by decide +kernel)) rfl
theorem wd_492 : Cond.instanceMethod yX2_gust ∈ GG := gg_in (List.mem_of_getElem? (i := 492) (by decide +kernel)) rfl
theorem wd_493 : Cond.selects RX2 yX2_gust yX2_gust ∈ GG := gg_in (List.mem_of_getElem? (i := 493) (by decide +kernel)) rfl
theorem wd_494 : Cond.code yX2_gust cX2_gust 1 (some .int) ∈ GG := gg_in (List.mem_of_getElem? (i := 494) (by decide +kernel)) rfl
theorem wd_495 : Cond.methodLink RX2 78 yX2_windOfHour ∈ GG := gg_in (List.mem_of_getElem? (i := 495) (by decide +kernel)) rfl
theorem wd_496 : Cond.instanceMethod yX2_windOfHour ∈ GG := gg_in (List.mem_of_getElem? (i := 496) (by decide +kernel)) rfl
theorem wd_497 : Cond.selects RX2 yX2_windOfHour yX2_windOfHour ∈ GG := gg_in (List.mem_of_getElem? (i := 497) (by decide +kernel)) rfl
theorem wd_498 : Cond.code yX2_windOfHour cX2_windOfHour 1 (some .int) ∈ GG := gg_in (List.mem_of_getElem? (i := 498) (by decide +kernel)) rfl
theorem wd_499 : Cond.methodLink RX2 85 yX2_isIn ∈ GG := gg_in (List.mem_of_getElem? (i := 499) (by decide +kernel)) rfl
theorem wd_500 : Cond.instanceMethod yX2_isIn ∈ GG := gg_in (List.mem_of_getElem? (i := 500) (by decide +kernel)) rfl
theorem wd_501 : Cond.selects RX2 yX2_isIn yX2_isIn ∈ GG := gg_in (List.mem_of_getElem? (i := 501) (by decide +kernel)) rfl
theorem wd_502 : Cond.code yX2_isIn cX2_isIn 2 (some .boolean) ∈ GG := gg_in (List.mem_of_getElem? (i := 502) (by decide +kernel)) rfl
theorem wd_503 : Cond.methodLink RX2 89 yX2_drift ∈ GG := gg_in (List.mem_of_getElem? (i := 503) (by decide +kernel)) rfl
theorem wd_505 : Cond.instanceMethod yX2_drift ∈ GG := gg_in (List.mem_of_getElem? (i := 505) (by decide +kernel)) rfl
theorem wd_506 : Cond.code yX2_drift cX2_drift 5 none ∈ GG := gg_in (List.mem_of_getElem? (i := 506) (by decide +kernel)) rfl
theorem wd_507 : Cond.methodLink RX2 100 yX2_cellsDrifted ∈ GG := gg_in (List.mem_of_getElem? (i := 507) (by decide +kernel)) rfl
theorem wd_508 : Cond.static yX2_cellsDrifted ∈ GG := gg_in (List.mem_of_getElem? (i := 508) (by decide +kernel)) rfl
theorem wd_509 : Cond.code yX2_cellsDrifted cX2_cellsDrifted 2 (some .int) ∈ GG := gg_in (List.mem_of_getElem? (i := 509) (by decide +kernel)) rfl
theorem wd_510 : Cond.methodLink RX2 104 yX2_thickened ∈ GG := gg_in (List.mem_of_getElem? (i := 510) (by decide +kernel)) rfl
theorem wd_512 : Cond.instanceMethod yX2_thickened ∈ GG := gg_in (List.mem_of_getElem? (i := 512) (by decide +kernel)) rfl
theorem wd_513 : Cond.code yX2_thickened cX2_thickened 4 (some .int) ∈ GG := gg_in (List.mem_of_getElem? (i := 513) (by decide +kernel)) rfl
theorem wd_514 : Cond.methodLink RX2 108 Lib.Math.min.name ∈ GG := gg_in (List.mem_of_getElem? (i := 514) (by decide +kernel)) rfl
theorem wd_515 : Cond.methodLink RX2 93 yX2_clerkIsAwake ∈ GG := gg_in (List.mem_of_getElem? (i := 515) (by decide +kernel)) rfl
theorem wd_516 : Cond.instanceMethod yX2_clerkIsAwake ∈ GG := gg_in (List.mem_of_getElem? (i := 516) (by decide +kernel)) rfl
theorem wd_517 : Cond.selects RX2 yX2_clerkIsAwake yX2_clerkIsAwake ∈ GG := gg_in (List.mem_of_getElem? (i := 517) (by decide +kernel)) rfl
theorem wd_518 : Cond.code yX2_clerkIsAwake cX2_clerkIsAwake 1 (some .boolean) ∈ GG := gg_in (List.mem_of_getElem? (i := 518) (by decide +kernel)) rfl
theorem wd_519 : Cond.methodLink RX2 97 yX2_giveNumbers ∈ GG := gg_in (List.mem_of_getElem? (i := 519) (by decide +kernel)) rfl
theorem wd_521 : Cond.instanceMethod yX2_giveNumbers ∈ GG := gg_in (List.mem_of_getElem? (i := 521) (by decide +kernel)) rfl
theorem wd_522 : Cond.code yX2_giveNumbers cX2_giveNumbers 2 none ∈ GG := gg_in (List.mem_of_getElem? (i := 522) (by decide +kernel)) rfl
theorem wd_523 : Cond.methodLink RX2 113 yX2_liesOn ∈ GG := gg_in (List.mem_of_getElem? (i := 523) (by decide +kernel)) rfl
theorem wd_524 : Cond.instanceMethod yX2_liesOn ∈ GG := gg_in (List.mem_of_getElem? (i := 524) (by decide +kernel)) rfl
theorem wd_525 : Cond.selects RX2 yX2_liesOn yX2_liesOn ∈ GG := gg_in (List.mem_of_getElem? (i := 525) (by decide +kernel)) rfl
theorem wd_526 : Cond.code yX2_liesOn cX2_liesOn 3 (some .boolean) ∈ GG := gg_in (List.mem_of_getElem? (i := 526) (by decide +kernel)) rfl
theorem wd_527 : Cond.methodLink RL 53 yX6_step ∈ GG := gg_in (List.mem_of_getElem? (i := 527) (by decide +kernel)) rfl
theorem wd_528 : Cond.instanceMethod yX6_step ∈ GG := gg_in (List.mem_of_getElem? (i := 528) (by decide +kernel)) rfl
theorem wd_529 : Cond.selects RX6 yX6_step yX6_step ∈ GG := gg_in (List.mem_of_getElem? (i := 529) (by decide +kernel)) rfl
theorem wd_530 : Cond.code yX6_step cX6_step 3 (some .int) ∈ GG := gg_in (List.mem_of_getElem? (i := 530) (by decide +kernel)) rfl
theorem wd_531 : Cond.methodLink RX6 163 yX2_isCell ∈ GG := gg_in (List.mem_of_getElem? (i := 531) (by decide +kernel)) rfl
theorem wd_532 : Cond.instanceMethod yX2_isCell ∈ GG := gg_in (List.mem_of_getElem? (i := 532) (by decide +kernel)) rfl
theorem wd_533 : Cond.selects RX2 yX2_isCell yX2_isCell ∈ GG := gg_in (List.mem_of_getElem? (i := 533) (by decide +kernel)) rfl
theorem wd_534 : Cond.code yX2_isCell cX2_isCell 2 (some .boolean) ∈ GG := gg_in (List.mem_of_getElem? (i := 534) (by decide +kernel)) rfl
theorem wd_535 : Cond.methodLink RL 57 yX6_wind ∈ GG := gg_in (List.mem_of_getElem? (i := 535) (by decide +kernel)) rfl
theorem wd_536 : Cond.instanceMethod yX6_wind ∈ GG := gg_in (List.mem_of_getElem? (i := 536) (by decide +kernel)) rfl
theorem wd_537 : Cond.selects RX6 yX6_wind yX6_wind ∈ GG := gg_in (List.mem_of_getElem? (i := 537) (by decide +kernel)) rfl
theorem wd_538 : Cond.code yX6_wind cX6_wind 4 (some .int) ∈ GG := gg_in (List.mem_of_getElem? (i := 538) (by decide +kernel)) rfl
theorem wd_539 : Cond.methodLink RX6 166 yX2_isWind ∈ GG := gg_in (List.mem_of_getElem? (i := 539) (by decide +kernel)) rfl
theorem wd_540 : Cond.instanceMethod yX2_isWind ∈ GG := gg_in (List.mem_of_getElem? (i := 540) (by decide +kernel)) rfl
theorem wd_541 : Cond.selects RX2 yX2_isWind yX2_isWind ∈ GG := gg_in (List.mem_of_getElem? (i := 541) (by decide +kernel)) rfl
theorem wd_542 : Cond.code yX2_isWind cX2_isWind 2 (some .boolean) ∈ GG := gg_in (List.mem_of_getElem? (i := 542) (by decide +kernel)) rfl
theorem wd_543 : Cond.methodLink RL 62 yX6_wake ∈ GG := gg_in (List.mem_of_getElem? (i := 543) (by decide +kernel)) rfl
theorem wd_544 : Cond.instanceMethod yX6_wake ∈ GG := gg_in (List.mem_of_getElem? (i := 544) (by decide +kernel)) rfl
theorem wd_545 : Cond.selects RX6 yX6_wake yX6_wake ∈ GG := gg_in (List.mem_of_getElem? (i := 545) (by decide +kernel)) rfl
theorem wd_546 : Cond.code yX6_wake cX6_wake 3 (some .int) ∈ GG := gg_in (List.mem_of_getElem? (i := 546) (by decide +kernel)) rfl
theorem wd_547 : Cond.methodLink RL 66 yX6_let ∈ GG := gg_in (List.mem_of_getElem? (i := 547) (by decide +kernel)) rfl
theorem wd_548 : Cond.instanceMethod yX6_let ∈ GG := gg_in (List.mem_of_getElem? (i := 548) (by decide +kernel)) rfl
theorem wd_549 : Cond.selects RX6 yX6_let yX6_let ∈ GG := gg_in (List.mem_of_getElem? (i := 549) (by decide +kernel)) rfl
theorem wd_550 : Cond.code yX6_let cX6_let 4 (some .int) ∈ GG := gg_in (List.mem_of_getElem? (i := 550) (by decide +kernel)) rfl
theorem wd_551 : Cond.methodLink RX6 175 yX2_isSheet ∈ GG := gg_in (List.mem_of_getElem? (i := 551) (by decide +kernel)) rfl
theorem wd_552 : Cond.instanceMethod yX2_isSheet ∈ GG := gg_in (List.mem_of_getElem? (i := 552) (by decide +kernel)) rfl
theorem wd_553 : Cond.selects RX2 yX2_isSheet yX2_isSheet ∈ GG := gg_in (List.mem_of_getElem? (i := 553) (by decide +kernel)) rfl
theorem wd_554 : Cond.code yX2_isSheet cX2_isSheet 2 (some .boolean) ∈ GG := gg_in (List.mem_of_getElem? (i := 554) (by decide +kernel)) rfl
theorem wd_555 : Cond.methodLink RX6 178 yX2_isIn ∈ GG := gg_in (List.mem_of_getElem? (i := 555) (by decide +kernel)) rfl
theorem wd_556 : Cond.methodLink RX6 181 yX2_admit ∈ GG := gg_in (List.mem_of_getElem? (i := 556) (by decide +kernel)) rfl
theorem wd_557 : Cond.methodLink RL 70 yX6_sheet ∈ GG := gg_in (List.mem_of_getElem? (i := 557) (by decide +kernel)) rfl
theorem wd_558 : Cond.instanceMethod yX6_sheet ∈ GG := gg_in (List.mem_of_getElem? (i := 558) (by decide +kernel)) rfl
theorem wd_559 : Cond.selects RX6 yX6_sheet yX6_sheet ∈ GG := gg_in (List.mem_of_getElem? (i := 559) (by decide +kernel)) rfl
theorem wd_560 : Cond.code yX6_sheet cX6_sheet 3 (some .int) ∈ GG := gg_in (List.mem_of_getElem? (i := 560) (by decide +kernel)) rfl
theorem wd_561 : Cond.methodLink RX6 188 yX2_placeOf ∈ GG := gg_in (List.mem_of_getElem? (i := 561) (by decide +kernel)) rfl
theorem wd_562 : Cond.instanceMethod yX2_placeOf ∈ GG := gg_in (List.mem_of_getElem? (i := 562) (by decide +kernel)) rfl
theorem wd_563 : Cond.selects RX2 yX2_placeOf yX2_placeOf ∈ GG := gg_in (List.mem_of_getElem? (i := 563) (by decide +kernel)) rfl
theorem wd_564 : Cond.code yX2_placeOf cX2_placeOf 2 (some .int) ∈ GG := gg_in (List.mem_of_getElem? (i := 564) (by decide +kernel)) rfl
theorem wd_565 : Cond.constant RX2 117 (-1000000) ∈ GG := gg_in (List.mem_of_getElem? (i := 565) (by decide +kernel)) rfl
theorem wd_566 : Cond.methodLink RX6 194 yX2_thicknessOf ∈ GG := gg_in (List.mem_of_getElem? (i := 566) (by decide +kernel)) rfl
theorem wd_567 : Cond.instanceMethod yX2_thicknessOf ∈ GG := gg_in (List.mem_of_getElem? (i := 567) (by decide +kernel)) rfl
theorem wd_568 : Cond.selects RX2 yX2_thicknessOf yX2_thicknessOf ∈ GG := gg_in (List.mem_of_getElem? (i := 568) (by decide +kernel)) rfl
theorem wd_569 : Cond.code yX2_thicknessOf cX2_thicknessOf 2 (some .int) ∈ GG := gg_in (List.mem_of_getElem? (i := 569) (by decide +kernel)) rfl
theorem wd_570 : Cond.methodLink RX6 200 yX2_cellsUnder ∈ GG := gg_in (List.mem_of_getElem? (i := 570) (by decide +kernel)) rfl
theorem wd_571 : Cond.instanceMethod yX2_cellsUnder ∈ GG := gg_in (List.mem_of_getElem? (i := 571) (by decide +kernel)) rfl
theorem wd_572 : Cond.selects RX2 yX2_cellsUnder yX2_cellsUnder ∈ GG := gg_in (List.mem_of_getElem? (i := 572) (by decide +kernel)) rfl
theorem wd_573 : Cond.code yX2_cellsUnder cX2_cellsUnder 4 (some .int) ∈ GG := gg_in (List.mem_of_getElem? (i := 573) (by decide +kernel)) rfl
theorem wd_574 : Cond.methodLink RL 74 yX6_cell ∈ GG := gg_in (List.mem_of_getElem? (i := 574) (by decide +kernel)) rfl
theorem wd_575 : Cond.instanceMethod yX6_cell ∈ GG := gg_in (List.mem_of_getElem? (i := 575) (by decide +kernel)) rfl
theorem wd_576 : Cond.selects RX6 yX6_cell yX6_cell ∈ GG := gg_in (List.mem_of_getElem? (i := 576) (by decide +kernel)) rfl
theorem wd_577 : Cond.code yX6_cell cX6_cell 3 (some .int) ∈ GG := gg_in (List.mem_of_getElem? (i := 577) (by decide +kernel)) rfl
theorem wd_578 : Cond.methodLink RX6 203 yX2_thicknessOver ∈ GG := gg_in (List.mem_of_getElem? (i := 578) (by decide +kernel)) rfl
theorem wd_579 : Cond.instanceMethod yX2_thicknessOver ∈ GG := gg_in (List.mem_of_getElem? (i := 579) (by decide +kernel)) rfl
theorem wd_580 : Cond.selects RX2 yX2_thicknessOver yX2_thicknessOver ∈ GG := gg_in (List.mem_of_getElem? (i := 580) (by decide +kernel)) rfl
theorem wd_581 : Cond.code yX2_thicknessOver cX2_thicknessOver 4 (some .int) ∈ GG := gg_in (List.mem_of_getElem? (i := 581) (by decide +kernel)) rfl
theorem wd_582 : Cond.methodLink RX6 206 yX2_sheetsOn ∈ GG := gg_in (List.mem_of_getElem? (i := 582) (by decide +kernel)) rfl
theorem wd_583 : Cond.instanceMethod yX2_sheetsOn ∈ GG := gg_in (List.mem_of_getElem? (i := 583) (by decide +kernel)) rfl
theorem wd_584 : Cond.selects RX2 yX2_sheetsOn yX2_sheetsOn ∈ GG := gg_in (List.mem_of_getElem? (i := 584) (by decide +kernel)) rfl
theorem wd_585 : Cond.code yX2_sheetsOn cX2_sheetsOn 4 (some .int) ∈ GG := gg_in (List.mem_of_getElem? (i := 585) (by decide +kernel)) rfl
theorem wd_586 : Cond.methodLink RL 78 yX6_stand ∈ GG := gg_in (List.mem_of_getElem? (i := 586) (by decide +kernel)) rfl
theorem wd_587 : Cond.instanceMethod yX6_stand ∈ GG := gg_in (List.mem_of_getElem? (i := 587) (by decide +kernel)) rfl
theorem wd_588 : Cond.selects RX6 yX6_stand yX6_stand ∈ GG := gg_in (List.mem_of_getElem? (i := 588) (by decide +kernel)) rfl
theorem wd_589 : Cond.code yX6_stand cX6_stand 2 (some .int) ∈ GG := gg_in (List.mem_of_getElem? (i := 589) (by decide +kernel)) rfl
theorem wd_590 : Cond.methodLink RX6 215 yX2_withNumber ∈ GG := gg_in (List.mem_of_getElem? (i := 590) (by decide +kernel)) rfl
theorem wd_591 : Cond.instanceMethod yX2_withNumber ∈ GG := gg_in (List.mem_of_getElem? (i := 591) (by decide +kernel)) rfl
theorem wd_592 : Cond.selects RX2 yX2_withNumber yX2_withNumber ∈ GG := gg_in (List.mem_of_getElem? (i := 592) (by decide +kernel)) rfl
theorem wd_593 : Cond.code yX2_withNumber cX2_withNumber 3 (some .int) ∈ GG := gg_in (List.mem_of_getElem? (i := 593) (by decide +kernel)) rfl
theorem wd_594 : Cond.methodLink RX6 219 yX2_gust ∈ GG := gg_in (List.mem_of_getElem? (i := 594) (by decide +kernel)) rfl
theorem wd_595 : Cond.methodLink RL 82 yX6_ahead ∈ GG := gg_in (List.mem_of_getElem? (i := 595) (by decide +kernel)) rfl
theorem wd_596 : Cond.instanceMethod yX6_ahead ∈ GG := gg_in (List.mem_of_getElem? (i := 596) (by decide +kernel)) rfl
theorem wd_597 : Cond.selects RX6 yX6_ahead yX6_ahead ∈ GG := gg_in (List.mem_of_getElem? (i := 597) (by decide +kernel)) rfl
theorem wd_598 : Cond.code yX6_ahead cX6_ahead 5 (some .int) ∈ GG := gg_in (List.mem_of_getElem? (i := 598) (by decide +kernel)) rfl
theorem wd_599 : Cond.methodLink RX6 222 yX6_isFar ∈ GG := gg_in (List.mem_of_getElem? (i := 599) (by decide +kernel)) rfl
theorem wd_600 : Cond.static yX6_isFar ∈ GG := gg_in (List.mem_of_getElem? (i := 600) (by decide +kernel)) rfl
theorem wd_601 : Cond.code yX6_isFar cX6_isFar 1 (some .boolean) ∈ GG := gg_in (List.mem_of_getElem? (i := 601) (by decide +kernel)) rfl
theorem wd_602 : Cond.methodLink RX6 225 yX3_behind ∈ GG := gg_in (List.mem_of_getElem? (i := 602) (by decide +kernel)) rfl
theorem wd_603 : Cond.instanceMethod yX3_behind ∈ GG := gg_in (List.mem_of_getElem? (i := 603) (by decide +kernel)) rfl
theorem wd_604 : Cond.selects RX3 yX3_behind yX3_behind ∈ GG := gg_in (List.mem_of_getElem? (i := 604) (by decide +kernel)) rfl
theorem wd_605 : Cond.code yX3_behind cX3_behind 4 (some (.object "FogSheets$Estuary")) ∈ GG := gg_in (List.mem_of_getElem? (i := 605) (by decide +kernel)) rfl
theorem wd_606 : Cond.methodLink RX3 33 yX2_become ∈ GG := gg_in (List.mem_of_getElem? (i := 606) (by decide +kernel)) rfl
theorem wd_607 : Cond.methodLink RX3 37 yX2_passHour ∈ GG := gg_in (List.mem_of_getElem? (i := 607) (by decide +kernel)) rfl
theorem wd_608 : Cond.methodLink RL 86 yX6_over ∈ GG := gg_in (List.mem_of_getElem? (i := 608) (by decide +kernel)) rfl
theorem wd_609 : Cond.instanceMethod yX6_over ∈ GG := gg_in (List.mem_of_getElem? (i := 609) (by decide +kernel)) rfl
theorem wd_610 : Cond.selects RX6 yX6_over yX6_over ∈ GG := gg_in (List.mem_of_getElem? (i := 610) (by decide +kernel)) rfl
theorem wd_611 : Cond.code yX6_over cX6_over 3 (some .int) ∈ GG := gg_in (List.mem_of_getElem? (i := 611) (by decide +kernel)) rfl
theorem wd_612 : Cond.methodLink RL 90 yX6_when ∈ GG := gg_in (List.mem_of_getElem? (i := 612) (by decide +kernel)) rfl
theorem wd_613 : Cond.instanceMethod yX6_when ∈ GG := gg_in (List.mem_of_getElem? (i := 613) (by decide +kernel)) rfl
theorem wd_614 : Cond.selects RX6 yX6_when yX6_when ∈ GG := gg_in (List.mem_of_getElem? (i := 614) (by decide +kernel)) rfl
theorem wd_615 : Cond.code yX6_when cX6_when 3 (some .int) ∈ GG := gg_in (List.mem_of_getElem? (i := 615) (by decide +kernel)) rfl
theorem wd_616 : Cond.methodLink RX6 229 yX3_firstGone ∈ GG := gg_in (List.mem_of_getElem? (i := 616) (by decide +kernel)) rfl
theorem wd_617 : Cond.instanceMethod yX3_firstGone ∈ GG := gg_in (List.mem_of_getElem? (i := 617) (by decide +kernel)) rfl
theorem wd_618 : Cond.selects RX3 yX3_firstGone yX3_firstGone ∈ GG := gg_in (List.mem_of_getElem? (i := 618) (by decide +kernel)) rfl
theorem wd_619 : Cond.code yX3_firstGone cX3_firstGone 4 (some .int) ∈ GG := gg_in (List.mem_of_getElem? (i := 619) (by decide +kernel)) rfl
theorem wd_620 : Cond.methodLink RX3 40 yX2_isIn ∈ GG := gg_in (List.mem_of_getElem? (i := 620) (by decide +kernel)) rfl
theorem wd_621 : Cond.constant RX3 44 (-1000000) ∈ GG := gg_in (List.mem_of_getElem? (i := 621) (by decide +kernel)) rfl
theorem wd_622 : Cond.methodLink RX6 233 yX3_firstNumbered ∈ GG := gg_in (List.mem_of_getElem? (i := 622) (by decide +kernel)) rfl
theorem wd_623 : Cond.instanceMethod yX3_firstNumbered ∈ GG := gg_in (List.mem_of_getElem? (i := 623) (by decide +kernel)) rfl
theorem wd_624 : Cond.selects RX3 yX3_firstNumbered yX3_firstNumbered ∈ GG := gg_in (List.mem_of_getElem? (i := 624) (by decide +kernel)) rfl
theorem wd_625 : Cond.code yX3_firstNumbered cX3_firstNumbered 4 (some .int) ∈ GG := gg_in (List.mem_of_getElem? (i := 625) (by decide +kernel)) rfl
theorem wd_626 : Cond.methodLink RL 94 yX6_overlap ∈ GG := gg_in (List.mem_of_getElem? (i := 626) (by decide +kernel)) rfl
theorem wd_627 : Cond.instanceMethod yX6_overlap ∈ GG := gg_in (List.mem_of_getElem? (i := 627) (by decide +kernel)) rfl
theorem wd_628 : Cond.selects RX6 yX6_overlap yX6_overlap ∈ GG := gg_in (List.mem_of_getElem? (i := 628) (by decide +kernel)) rfl
theorem wd_629 : Cond.code yX6_overlap cX6_overlap 2 (some .int) ∈ GG := gg_in (List.mem_of_getElem? (i := 629) (by decide +kernel)) rfl
theorem wd_630 : Cond.methodLink RX6 236 yX3_firstOverlap ∈ GG := gg_in (List.mem_of_getElem? (i := 630) (by decide +kernel)) rfl
theorem wd_631 : Cond.instanceMethod yX3_firstOverlap ∈ GG := gg_in (List.mem_of_getElem? (i := 631) (by decide +kernel)) rfl
theorem wd_632 : Cond.selects RX3 yX3_firstOverlap yX3_firstOverlap ∈ GG := gg_in (List.mem_of_getElem? (i := 632) (by decide +kernel)) rfl
theorem wd_633 : Cond.code yX3_firstOverlap cX3_firstOverlap 5 (some .int) ∈ GG := gg_in (List.mem_of_getElem? (i := 633) (by decide +kernel)) rfl
theorem wd_634 : Cond.methodLink RX3 48 yX2_overlappingPair ∈ GG := gg_in (List.mem_of_getElem? (i := 634) (by decide +kernel)) rfl
theorem wd_635 : Cond.instanceMethod yX2_overlappingPair ∈ GG := gg_in (List.mem_of_getElem? (i := 635) (by decide +kernel)) rfl
theorem wd_636 : Cond.selects RX2 yX2_overlappingPair yX2_overlappingPair ∈ GG := gg_in (List.mem_of_getElem? (i := 636) (by decide +kernel)) rfl
theorem wd_637 : Cond.code yX2_overlappingPair cX2_overlappingPair 4 (some .int) ∈ GG := gg_in (List.mem_of_getElem? (i := 637) (by decide +kernel)) rfl
theorem wd_638 : Cond.methodLink RX2 118 yX2_cellsUnder ∈ GG := gg_in (List.mem_of_getElem? (i := 638) (by decide +kernel)) rfl
theorem wd_639 : Cond.methodLink RL 98 yX6_walk ∈ GG := gg_in (List.mem_of_getElem? (i := 639) (by decide +kernel)) rfl
theorem wd_640 : Cond.instanceMethod yX6_walk ∈ GG := gg_in (List.mem_of_getElem? (i := 640) (by decide +kernel)) rfl
theorem wd_641 : Cond.selects RX6 yX6_walk yX6_walk ∈ GG := gg_in (List.mem_of_getElem? (i := 641) (by decide +kernel)) rfl
theorem wd_642 : Cond.code yX6_walk cX6_walk 3 (some .int) ∈ GG := gg_in (List.mem_of_getElem? (i := 642) (by decide +kernel)) rfl
theorem wd_643 : Cond.constant RX6 239 (-1000000) ∈ GG := gg_in (List.mem_of_getElem? (i := 643) (by decide +kernel)) rfl
theorem wd_644 : Cond.methodLink RX6 240 yX3_leastSeen ∈ GG := gg_in (List.mem_of_getElem? (i := 644) (by decide +kernel)) rfl
theorem wd_645 : Cond.instanceMethod yX3_leastSeen ∈ GG := gg_in (List.mem_of_getElem? (i := 645) (by decide +kernel)) rfl
theorem wd_646 : Cond.selects RX3 yX3_leastSeen yX3_leastSeen ∈ GG := gg_in (List.mem_of_getElem? (i := 646) (by decide +kernel)) rfl
theorem wd_647 : Cond.code yX3_leastSeen cX3_leastSeen 3 (some .int) ∈ GG := gg_in (List.mem_of_getElem? (i := 647) (by decide +kernel)) rfl
theorem wd_648 : Cond.methodLink RX3 52 yX3_weighWalks ∈ GG := gg_in (List.mem_of_getElem? (i := 648) (by decide +kernel)) rfl
theorem wd_650 : Cond.instanceMethod yX3_weighWalks ∈ GG := gg_in (List.mem_of_getElem? (i := 650) (by decide +kernel)) rfl
theorem wd_651 : Cond.code yX3_weighWalks cX3_weighWalks 5 none ∈ GG := gg_in (List.mem_of_getElem? (i := 651) (by decide +kernel)) rfl
theorem wd_652 : Cond.methodLink RX3 64 yX3_noteOver ∈ GG := gg_in (List.mem_of_getElem? (i := 652) (by decide +kernel)) rfl
theorem wd_654 : Cond.instanceMethod yX3_noteOver ∈ GG := gg_in (List.mem_of_getElem? (i := 654) (by decide +kernel)) rfl
theorem wd_655 : Cond.code yX3_noteOver cX3_noteOver 3 none ∈ GG := gg_in (List.mem_of_getElem? (i := 655) (by decide +kernel)) rfl
theorem wd_656 : Cond.methodLink RX3 80 yX2_thicknessOver ∈ GG := gg_in (List.mem_of_getElem? (i := 656) (by decide +kernel)) rfl
theorem wd_657 : Cond.methodLink RX3 68 yJ7_fill_53178 ∈ GG := gg_in (List.mem_of_getElem? (i := 657) (by decide +kernel)) rfl
theorem wd_658 : Cond.methodLink RX3 60 yX3_bestNext ∈ GG := gg_in (List.mem_of_getElem? (i := 658) (by decide +kernel)) rfl
theorem wd_660 : Cond.instanceMethod yX3_bestNext ∈ GG := gg_in (List.mem_of_getElem? (i := 660) (by decide +kernel)) rfl
theorem wd_661 : Cond.code yX3_bestNext cX3_bestNext 6 (some .int) ∈ GG := gg_in (List.mem_of_getElem? (i := 661) (by decide +kernel)) rfl
theorem wd_662 : Cond.methodLink RX3 84 Lib.Math.max.name ∈ GG := gg_in (List.mem_of_getElem? (i := 662) (by decide +kernel)) rfl
theorem wd_663 : Cond.static Lib.Math.max.name ∈ GG := gg_in (List.mem_of_getElem? (i := 663) (by decide +kernel)) rfl
theorem wd_664 : Cond.code Lib.Math.max.name Lib.Math.max.code 2 (some .int) ∈ GG := gg_in (List.mem_of_getElem? (i := 664) (by decide +kernel)) rfl
theorem wd_665 : Cond.methodLink RX3 89 Lib.Math.min.name ∈ GG := gg_in (List.mem_of_getElem? (i := 665) (by decide +kernel)) rfl
theorem wd_666 : Cond.methodLink RX3 77 yX3_weightOf ∈ GG := gg_in (List.mem_of_getElem? (i := 666) (by decide +kernel)) rfl
theorem wd_668 : Cond.instanceMethod yX3_weightOf ∈ GG := gg_in (List.mem_of_getElem? (i := 668) (by decide +kernel)) rfl
theorem wd_669 : Cond.code yX3_weightOf cX3_weightOf 3 (some .int) ∈ GG := gg_in (List.mem_of_getElem? (i := 669) (by decide +kernel)) rfl
theorem wd_670 : Cond.methodLink RX6 243 yX3_leastSeenCell ∈ GG := gg_in (List.mem_of_getElem? (i := 670) (by decide +kernel)) rfl
theorem wd_671 : Cond.instanceMethod yX3_leastSeenCell ∈ GG := gg_in (List.mem_of_getElem? (i := 671) (by decide +kernel)) rfl
theorem wd_672 : Cond.selects RX3 yX3_leastSeenCell yX3_leastSeenCell ∈ GG := gg_in (List.mem_of_getElem? (i := 672) (by decide +kernel)) rfl
theorem wd_673 : Cond.code yX3_leastSeenCell cX3_leastSeenCell 6 (some .int) ∈ GG := gg_in (List.mem_of_getElem? (i := 673) (by decide +kernel)) rfl
theorem wd_674 : Cond.methodLink RL 102 yX6_meet ∈ GG := gg_in (List.mem_of_getElem? (i := 674) (by decide +kernel)) rfl
theorem wd_675 : Cond.instanceMethod yX6_meet ∈ GG := gg_in (List.mem_of_getElem? (i := 675) (by decide +kernel)) rfl
theorem wd_676 : Cond.selects RX6 yX6_meet yX6_meet ∈ GG := gg_in (List.mem_of_getElem? (i := 676) (by decide +kernel)) rfl
theorem wd_677 : Cond.code yX6_meet cX6_meet 2 (some .int) ∈ GG := gg_in (List.mem_of_getElem? (i := 677) (by decide +kernel)) rfl
theorem wd_678 : Cond.methodLink RX6 247 yX3_firstMeeting ∈ GG := gg_in (List.mem_of_getElem? (i := 678) (by decide +kernel)) rfl
theorem wd_679 : Cond.instanceMethod yX3_firstMeeting ∈ GG := gg_in (List.mem_of_getElem? (i := 679) (by decide +kernel)) rfl
theorem wd_680 : Cond.selects RX3 yX3_firstMeeting yX3_firstMeeting ∈ GG := gg_in (List.mem_of_getElem? (i := 680) (by decide +kernel)) rfl
theorem wd_681 : Cond.code yX3_firstMeeting cX3_firstMeeting 5 (some .int) ∈ GG := gg_in (List.mem_of_getElem? (i := 681) (by decide +kernel)) rfl
theorem wd_682 : Cond.methodLink RX3 92 yX2_cellsUnder ∈ GG := gg_in (List.mem_of_getElem? (i := 682) (by decide +kernel)) rfl
theorem wd_683 : Cond.methodLink RL 106 yX6_site ∈ GG := gg_in (List.mem_of_getElem? (i := 683) (by decide +kernel)) rfl
theorem wd_684 : Cond.instanceMethod yX6_site ∈ GG := gg_in (List.mem_of_getElem? (i := 684) (by decide +kernel)) rfl
theorem wd_685 : Cond.selects RX6 yX6_site yX6_site ∈ GG := gg_in (List.mem_of_getElem? (i := 685) (by decide +kernel)) rfl
theorem wd_686 : Cond.code yX6_site cX6_site 3 (some .int) ∈ GG := gg_in (List.mem_of_getElem? (i := 686) (by decide +kernel)) rfl
theorem wd_687 : Cond.methodLink RX6 250 yX3_bestStand ∈ GG := gg_in (List.mem_of_getElem? (i := 687) (by decide +kernel)) rfl
theorem wd_688 : Cond.instanceMethod yX3_bestStand ∈ GG := gg_in (List.mem_of_getElem? (i := 688) (by decide +kernel)) rfl
theorem wd_689 : Cond.selects RX3 yX3_bestStand yX3_bestStand ∈ GG := gg_in (List.mem_of_getElem? (i := 689) (by decide +kernel)) rfl
theorem wd_690 : Cond.code yX3_bestStand cX3_bestStand 7 (some .int) ∈ GG := gg_in (List.mem_of_getElem? (i := 690) (by decide +kernel)) rfl
theorem wd_691 : Cond.methodLink RX3 95 yX2_withNumber ∈ GG := gg_in (List.mem_of_getElem? (i := 691) (by decide +kernel)) rfl
theorem wd_692 : Cond.methodLink RX3 98 yX2_clerkIsAwake ∈ GG := gg_in (List.mem_of_getElem? (i := 692) (by decide +kernel)) rfl
theorem wd_693 : Cond.methodLink RX3 102 yX2_sheetsOn ∈ GG := gg_in (List.mem_of_getElem? (i := 693) (by decide +kernel)) rfl
theorem wd_694 : Cond.methodLink RX3 105 yJ6_bitCount_0f7a4 ∈ GG := gg_in (List.mem_of_getElem? (i := 694) (by decide +kernel)) rfl
theorem wd_695 : Cond.static yJ6_bitCount_0f7a4 ∈ GG := gg_in (List.mem_of_getElem? (i := 695) (by decide +kernel)) rfl
theorem wd_696 : Cond.code yJ6_bitCount_0f7a4 cJ6_bitCount_0f7a4 1 (some .int) ∈ GG := gg_in (List.mem_of_getElem? (i := 696) (by decide +kernel)) rfl
theorem wd_697 : Cond.constant RJ6 265 (1431655765) ∈ GG := gg_in (List.mem_of_getElem? (i := 697) (by decide +kernel)) rfl
theorem wd_698 : Cond.constant RJ6 266 (858993459) ∈ GG := gg_in (List.mem_of_getElem? (i := 698) (by decide +kernel)) rfl
theorem wd_699 : Cond.constant RJ6 267 (252645135) ∈ GG := gg_in (List.mem_of_getElem? (i := 699) (by decide +kernel)) rfl
theorem wd_700 : Cond.methodLink RL 110 yX6_waking ∈ GG := gg_in (List.mem_of_getElem? (i := 700) (by decide +kernel)) rfl
theorem wd_701 : Cond.instanceMethod yX6_waking ∈ GG := gg_in (List.mem_of_getElem? (i := 701) (by decide +kernel)) rfl
theorem wd_702 : Cond.selects RX6 yX6_waking yX6_waking ∈ GG := gg_in (List.mem_of_getElem? (i := 702) (by decide +kernel)) rfl
theorem wd_703 : Cond.code yX6_waking cX6_waking 4 (some .int) ∈ GG := gg_in (List.mem_of_getElem? (i := 703) (by decide +kernel)) rfl
theorem wd_704 : Cond.methodLink RX6 253 yX3_leastAwake ∈ GG := gg_in (List.mem_of_getElem? (i := 704) (by decide +kernel)) rfl
theorem wd_705 : Cond.instanceMethod yX3_leastAwake ∈ GG := gg_in (List.mem_of_getElem? (i := 705) (by decide +kernel)) rfl
theorem wd_706 : Cond.selects RX3 yX3_leastAwake yX3_leastAwake ∈ GG := gg_in (List.mem_of_getElem? (i := 706) (by decide +kernel)) rfl
theorem wd_707 : Cond.code yX3_leastAwake cX3_leastAwake 7 (some .int) ∈ GG := gg_in (List.mem_of_getElem? (i := 707) (by decide +kernel)) rfl
theorem wd_708 : Cond.methodLink RX3 116 yX3_numberedBy ∈ GG := gg_in (List.mem_of_getElem? (i := 708) (by decide +kernel)) rfl
theorem wd_710 : Cond.instanceMethod yX3_numberedBy ∈ GG := gg_in (List.mem_of_getElem? (i := 710) (by decide +kernel)) rfl
theorem wd_711 : Cond.code yX3_numberedBy cX3_numberedBy 5 (some .int) ∈ GG := gg_in (List.mem_of_getElem? (i := 711) (by decide +kernel)) rfl
theorem wd_712 : Cond.methodLink RX6 256 yJ6_bitCount_0f7a4 ∈ GG := gg_in (List.mem_of_getElem? (i := 712) (by decide +kernel)) rfl
theorem wd_713 : Cond.methodLink RL 114 yX6_meant ∈ GG := gg_in (List.mem_of_getElem? (i := 713) (by decide +kernel)) rfl
theorem wd_714 : Cond.instanceMethod yX6_meant ∈ GG := gg_in (List.mem_of_getElem? (i := 714) (by decide +kernel)) rfl
theorem wd_715 : Cond.selects RX6 yX6_meant yX6_meant ∈ GG := gg_in (List.mem_of_getElem? (i := 715) (by decide +kernel)) rfl
theorem wd_716 : Cond.code yX6_meant cX6_meant 3 (some .int) ∈ GG := gg_in (List.mem_of_getElem? (i := 716) (by decide +kernel)) rfl
theorem wd_717 : Cond.methodLink RX6 261 yX2_setsAsThick ∈ GG := gg_in (List.mem_of_getElem? (i := 717) (by decide +kernel)) rfl
theorem wd_718 : Cond.instanceMethod yX2_setsAsThick ∈ GG := gg_in (List.mem_of_getElem? (i := 718) (by decide +kernel)) rfl
theorem wd_719 : Cond.selects RX2 yX2_setsAsThick yX2_setsAsThick ∈ GG := gg_in (List.mem_of_getElem? (i := 719) (by decide +kernel)) rfl
theorem wd_720 : Cond.code yX2_setsAsThick cX2_setsAsThick 7 (some .int) ∈ GG := gg_in (List.mem_of_getElem? (i := 720) (by decide +kernel)) rfl
theorem wd_721 : Cond.methodLink RX2 122 yX2_thicknessOfSet ∈ GG := gg_in (List.mem_of_getElem? (i := 721) (by decide +kernel)) rfl
theorem wd_723 : Cond.instanceMethod yX2_thicknessOfSet ∈ GG := gg_in (List.mem_of_getElem? (i := 723) (by decide +kernel)) rfl
theorem wd_724 : Cond.code yX2_thicknessOfSet cX2_thicknessOfSet 4 (some .int) ∈ GG := gg_in (List.mem_of_getElem? (i := 724) (by decide +kernel)) rfl
theorem wd_725 : Cond.methodLink RL 118 yX6_share ∈ GG := gg_in (List.mem_of_getElem? (i := 725) (by decide +kernel)) rfl
theorem wd_726 : Cond.instanceMethod yX6_share ∈ GG := gg_in (List.mem_of_getElem? (i := 726) (by decide +kernel)) rfl
theorem wd_727 : Cond.selects RX6 yX6_share yX6_share ∈ GG := gg_in (List.mem_of_getElem? (i := 727) (by decide +kernel)) rfl
theorem wd_728 : Cond.code yX6_share cX6_share 3 (some .int) ∈ GG := gg_in (List.mem_of_getElem? (i := 728) (by decide +kernel)) rfl
theorem wd_729 : Cond.methodLink RX6 264 yX2_pailsOf ∈ GG := gg_in (List.mem_of_getElem? (i := 729) (by decide +kernel)) rfl
theorem wd_730 : Cond.instanceMethod yX2_pailsOf ∈ GG := gg_in (List.mem_of_getElem? (i := 730) (by decide +kernel)) rfl
theorem wd_731 : Cond.selects RX2 yX2_pailsOf yX2_pailsOf ∈ GG := gg_in (List.mem_of_getElem? (i := 731) (by decide +kernel)) rfl
theorem wd_732 : Cond.code yX2_pailsOf cX2_pailsOf 7 (some .int) ∈ GG := gg_in (List.mem_of_getElem? (i := 732) (by decide +kernel)) rfl
theorem wd_733 : Cond.methodLink RX2 125 yX2_thicknessOf ∈ GG := gg_in (List.mem_of_getElem? (i := 733) (by decide +kernel)) rfl
theorem wd_734 : Cond.methodLink RL 122 yX6_byTurns ∈ GG := gg_in (List.mem_of_getElem? (i := 734) (by decide +kernel)) rfl
theorem wd_735 : Cond.instanceMethod yX6_byTurns ∈ GG := gg_in (List.mem_of_getElem? (i := 735) (by decide +kernel)) rfl
theorem wd_736 : Cond.selects RX6 yX6_byTurns yX6_byTurns ∈ GG := gg_in (List.mem_of_getElem? (i := 736) (by decide +kernel)) rfl
theorem wd_737 : Cond.code yX6_byTurns cX6_byTurns 3 (some .int) ∈ GG := gg_in (List.mem_of_getElem? (i := 737) (by decide +kernel)) rfl
theorem wd_738 : Cond.methodLink RX6 267 yX3_outcomeOfTurns ∈ GG := gg_in (List.mem_of_getElem? (i := 738) (by decide +kernel)) rfl
theorem wd_739 : Cond.instanceMethod yX3_outcomeOfTurns ∈ GG := gg_in (List.mem_of_getElem? (i := 739) (by decide +kernel)) rfl
theorem wd_740 : Cond.selects RX3 yX3_outcomeOfTurns yX3_outcomeOfTurns ∈ GG := gg_in (List.mem_of_getElem? (i := 740) (by decide +kernel)) rfl
theorem wd_741 : Cond.code yX3_outcomeOfTurns cX3_outcomeOfTurns 6 (some .int) ∈ GG := gg_in (List.mem_of_getElem? (i := 741) (by decide +kernel)) rfl
theorem wd_742 : Cond.methodLink RX3 119 yX3_behind ∈ GG := gg_in (List.mem_of_getElem? (i := 742) (by decide +kernel)) rfl
theorem wd_743 : Cond.methodLink RX3 123 yX2_windOfHour ∈ GG := gg_in (List.mem_of_getElem? (i := 743) (by decide +kernel)) rfl
theorem wd_744 : Cond.methodLink RX3 129 yX3_walkersTurn ∈ GG := gg_in (List.mem_of_getElem? (i := 744) (by decide +kernel)) rfl
theorem wd_746 : Cond.instanceMethod yX3_walkersTurn ∈ GG := gg_in (List.mem_of_getElem? (i := 746) (by decide +kernel)) rfl
theorem wd_747 : Cond.code yX3_walkersTurn cX3_walkersTurn 5 (some .int) ∈ GG := gg_in (List.mem_of_getElem? (i := 747) (by decide +kernel)) rfl
theorem wd_748 : Cond.methodLink RX3 133 yX3_courtsTurn ∈ GG := gg_in (List.mem_of_getElem? (i := 748) (by decide +kernel)) rfl
theorem wd_750 : Cond.instanceMethod yX3_courtsTurn ∈ GG := gg_in (List.mem_of_getElem? (i := 750) (by decide +kernel)) rfl
theorem wd_751 : Cond.code yX3_courtsTurn cX3_courtsTurn 4 (some .int) ∈ GG := gg_in (List.mem_of_getElem? (i := 751) (by decide +kernel)) rfl
theorem wd_752 : Cond.methodLink RL 126 yX6_who ∈ GG := gg_in (List.mem_of_getElem? (i := 752) (by decide +kernel)) rfl
theorem wd_753 : Cond.instanceMethod yX6_who ∈ GG := gg_in (List.mem_of_getElem? (i := 753) (by decide +kernel)) rfl
theorem wd_754 : Cond.selects RX6 yX6_who yX6_who ∈ GG := gg_in (List.mem_of_getElem? (i := 754) (by decide +kernel)) rfl
theorem wd_755 : Cond.code yX6_who cX6_who 6 (some .int) ∈ GG := gg_in (List.mem_of_getElem? (i := 755) (by decide +kernel)) rfl
theorem wd_756 : Cond.methodLink RX6 270 yX6_allThatFits ∈ GG := gg_in (List.mem_of_getElem? (i := 756) (by decide +kernel)) rfl
theorem wd_758 : Cond.instanceMethod yX6_allThatFits ∈ GG := gg_in (List.mem_of_getElem? (i := 758) (by decide +kernel)) rfl
theorem wd_759 : Cond.code yX6_allThatFits cX6_allThatFits 7 (some .int) ∈ GG := gg_in (List.mem_of_getElem? (i := 759) (by decide +kernel)) rfl
theorem wd_760 : Cond.methodLink RX6 313 yX3_hear ∈ GG := gg_in (List.mem_of_getElem? (i := 760) (by decide +kernel)) rfl
theorem wd_761 : Cond.instanceMethod yX3_hear ∈ GG := gg_in (List.mem_of_getElem? (i := 761) (by decide +kernel)) rfl
theorem wd_762 : Cond.selects RX3 yX3_hear yX3_hear ∈ GG := gg_in (List.mem_of_getElem? (i := 762) (by decide +kernel)) rfl
theorem wd_763 : Cond.code yX3_hear cX3_hear 4 none ∈ GG := gg_in (List.mem_of_getElem? (i := 763) (by decide +kernel)) rfl
theorem wd_764 : Cond.methodLink RX3 144 arraycopyName ∈ GG := gg_in (List.mem_of_getElem? (i := 764) (by decide +kernel)) rfl
theorem wd_765 : Cond.methodLink RX6 317 yX3_fitting ∈ GG := gg_in (List.mem_of_getElem? (i := 765) (by decide +kernel)) rfl
theorem wd_766 : Cond.instanceMethod yX3_fitting ∈ GG := gg_in (List.mem_of_getElem? (i := 766) (by decide +kernel)) rfl
theorem wd_767 : Cond.selects RX3 yX3_fitting yX3_fitting ∈ GG := gg_in (List.mem_of_getElem? (i := 767) (by decide +kernel)) rfl
theorem wd_768 : Cond.code yX3_fitting cX3_fitting 8 (some .int) ∈ GG := gg_in (List.mem_of_getElem? (i := 768) (by decide +kernel)) rfl
theorem wd_769 : Cond.methodLink RX3 150 yX3_mostOf ∈ GG := gg_in (List.mem_of_getElem? (i := 769) (by decide +kernel)) rfl
theorem wd_770 : Cond.static yX3_mostOf ∈ GG := gg_in (List.mem_of_getElem? (i := 770) (by decide +kernel)) rfl
theorem wd_771 : Cond.code yX3_mostOf cX3_mostOf 2 (some .int) ∈ GG := gg_in (List.mem_of_getElem? (i := 771) (by decide +kernel)) rfl
theorem wd_772 : Cond.methodLink RX3 154 yX3_suppose ∈ GG := gg_in (List.mem_of_getElem? (i := 772) (by decide +kernel)) rfl
theorem wd_774 : Cond.instanceMethod yX3_suppose ∈ GG := gg_in (List.mem_of_getElem? (i := 774) (by decide +kernel)) rfl
theorem wd_775 : Cond.code yX3_suppose cX3_suppose 4 none ∈ GG := gg_in (List.mem_of_getElem? (i := 775) (by decide +kernel)) rfl
theorem wd_776 : Cond.methodLink RX3 158 yX3_isAsTold ∈ GG := gg_in (List.mem_of_getElem? (i := 776) (by decide +kernel)) rfl
theorem wd_778 : Cond.instanceMethod yX3_isAsTold ∈ GG := gg_in (List.mem_of_getElem? (i := 778) (by decide +kernel)) rfl
theorem wd_779 : Cond.code yX3_isAsTold cX3_isAsTold 2 (some .boolean) ∈ GG := gg_in (List.mem_of_getElem? (i := 779) (by decide +kernel)) rfl
theorem wd_780 : Cond.methodLink RL 130 yX6_gusts ∈ GG := gg_in (List.mem_of_getElem? (i := 780) (by decide +kernel)) rfl
theorem wd_781 : Cond.instanceMethod yX6_gusts ∈ GG := gg_in (List.mem_of_getElem? (i := 781) (by decide +kernel)) rfl
theorem wd_782 : Cond.selects RX6 yX6_gusts yX6_gusts ∈ GG := gg_in (List.mem_of_getElem? (i := 782) (by decide +kernel)) rfl
theorem wd_783 : Cond.code yX6_gusts cX6_gusts 5 (some .int) ∈ GG := gg_in (List.mem_of_getElem? (i := 783) (by decide +kernel)) rfl
theorem wd_784 : Cond.methodLink RL 135 yX6_lift ∈ GG := gg_in (List.mem_of_getElem? (i := 784) (by decide +kernel)) rfl
theorem wd_785 : Cond.instanceMethod yX6_lift ∈ GG := gg_in (List.mem_of_getElem? (i := 785) (by decide +kernel)) rfl
theorem wd_786 : Cond.selects RX6 yX6_lift yX6_lift ∈ GG := gg_in (List.mem_of_getElem? (i := 786) (by decide +kernel)) rfl
theorem wd_787 : Cond.code yX6_lift cX6_lift 7 (some .long) ∈ GG := gg_in (List.mem_of_getElem? (i := 787) (by decide +kernel)) rfl
theorem wd_788 : Cond.constantLong RX6 274 (-1000001) ∈ GG := gg_in (List.mem_of_getElem? (i := 788) (by decide +kernel)) rfl
theorem wd_789 : Cond.methodLink RX6 276 yX6_commonDivisor ∈ GG := gg_in (List.mem_of_getElem? (i := 789) (by decide +kernel)) rfl
theorem wd_790 : Cond.static yX6_commonDivisor ∈ GG := gg_in (List.mem_of_getElem? (i := 790) (by decide +kernel)) rfl
theorem wd_791 : Cond.code yX6_commonDivisor cX6_commonDivisor 4 (some .int) ∈ GG := gg_in (List.mem_of_getElem? (i := 791) (by decide +kernel)) rfl
theorem wd_792 : Cond.methodLink RX6 279 yX6_power ∈ GG := gg_in (List.mem_of_getElem? (i := 792) (by decide +kernel)) rfl
theorem wd_793 : Cond.static yX6_power ∈ GG := gg_in (List.mem_of_getElem? (i := 793) (by decide +kernel)) rfl
theorem wd_794 : Cond.code yX6_power cX6_power 5 (some .long) ∈ GG := gg_in (List.mem_of_getElem? (i := 794) (by decide +kernel)) rfl
theorem wd_795 : Cond.methodLink RL 140 yX6_drawn ∈ GG := gg_in (List.mem_of_getElem? (i := 795) (by decide +kernel)) rfl
theorem wd_796 : Cond.instanceMethod yX6_drawn ∈ GG := gg_in (List.mem_of_getElem? (i := 796) (by decide +kernel)) rfl
theorem wd_797 : Cond.selects RX6 yX6_drawn yX6_drawn ∈ GG := gg_in (List.mem_of_getElem? (i := 797) (by decide +kernel)) rfl
theorem wd_798 : Cond.code yX6_drawn cX6_drawn 4 (some .int) ∈ GG := gg_in (List.mem_of_getElem? (i := 798) (by decide +kernel)) rfl
theorem wd_799 : Cond.constant RX6 283 (999999) ∈ GG := gg_in (List.mem_of_getElem? (i := 799) (by decide +kernel)) rfl
theorem wd_800 : Cond.methodLink RX6 284 yX3_drawYears ∈ GG := gg_in (List.mem_of_getElem? (i := 800) (by decide +kernel)) rfl
theorem wd_801 : Cond.instanceMethod yX3_drawYears ∈ GG := gg_in (List.mem_of_getElem? (i := 801) (by decide +kernel)) rfl
theorem wd_802 : Cond.selects RX3 yX3_drawYears yX3_drawYears ∈ GG := gg_in (List.mem_of_getElem? (i := 802) (by decide +kernel)) rfl
theorem wd_803 : Cond.code yX3_drawYears cX3_drawYears 9 (some .int) ∈ GG := gg_in (List.mem_of_getElem? (i := 803) (by decide +kernel)) rfl
theorem wd_804 : Cond.constantLong RX3 170 (16807) ∈ GG := gg_in (List.mem_of_getElem? (i := 804) (by decide +kernel)) rfl
theorem wd_805 : Cond.constantLong RX3 172 (2147483647) ∈ GG := gg_in (List.mem_of_getElem? (i := 805) (by decide +kernel)) rfl
theorem wd_806 : Cond.methodLink RX3 174 yX3_drawOne ∈ GG := gg_in (List.mem_of_getElem? (i := 806) (by decide +kernel)) rfl
theorem wd_808 : Cond.instanceMethod yX3_drawOne ∈ GG := gg_in (List.mem_of_getElem? (i := 808) (by decide +kernel)) rfl
theorem wd_809 : Cond.code yX3_drawOne cX3_drawOne 3 none ∈ GG := gg_in (List.mem_of_getElem? (i := 809) (by decide +kernel)) rfl
theorem wd_810 : Cond.methodLink RX3 187 yX2_admit ∈ GG := gg_in (List.mem_of_getElem? (i := 810) (by decide +kernel)) rfl
theorem wd_811 : Cond.methodLink RL 144 yX6_image ∈ GG := gg_in (List.mem_of_getElem? (i := 811) (by decide +kernel)) rfl
theorem wd_812 : Cond.instanceMethod yX6_image ∈ GG := gg_in (List.mem_of_getElem? (i := 812) (by decide +kernel)) rfl
theorem wd_813 : Cond.selects RX6 yX6_image yX6_image ∈ GG := gg_in (List.mem_of_getElem? (i := 813) (by decide +kernel)) rfl
theorem wd_814 : Cond.code yX6_image cX6_image 2 (some .int) ∈ GG := gg_in (List.mem_of_getElem? (i := 814) (by decide +kernel)) rfl
theorem wd_815 : Cond.methodLink RL 148 yX6_restore ∈ GG := gg_in (List.mem_of_getElem? (i := 815) (by decide +kernel)) rfl
theorem wd_816 : Cond.instanceMethod yX6_restore ∈ GG := gg_in (List.mem_of_getElem? (i := 816) (by decide +kernel)) rfl
theorem wd_817 : Cond.selects RX6 yX6_restore yX6_restore ∈ GG := gg_in (List.mem_of_getElem? (i := 817) (by decide +kernel)) rfl
theorem wd_818 : Cond.code yX6_restore cX6_restore 2 (some .int) ∈ GG := gg_in (List.mem_of_getElem? (i := 818) (by decide +kernel)) rfl
theorem wd_819 : Cond.methodLink RL 152 yX6_kind ∈ GG := gg_in (List.mem_of_getElem? (i := 819) (by decide +kernel)) rfl
theorem wd_820 : Cond.instanceMethod yX6_kind ∈ GG := gg_in (List.mem_of_getElem? (i := 820) (by decide +kernel)) rfl
theorem wd_821 : Cond.selects RX6 yX6_kind yX6_kind ∈ GG := gg_in (List.mem_of_getElem? (i := 821) (by decide +kernel)) rfl
theorem wd_822 : Cond.code yX6_kind cX6_kind 2 (some .int) ∈ GG := gg_in (List.mem_of_getElem? (i := 822) (by decide +kernel)) rfl
theorem wd_823 : Cond.methodLink RL 156 yX6_as ∈ GG := gg_in (List.mem_of_getElem? (i := 823) (by decide +kernel)) rfl
theorem wd_824 : Cond.instanceMethod yX6_as ∈ GG := gg_in (List.mem_of_getElem? (i := 824) (by decide +kernel)) rfl
theorem wd_825 : Cond.selects RX6 yX6_as yX6_as ∈ GG := gg_in (List.mem_of_getElem? (i := 825) (by decide +kernel)) rfl
theorem wd_826 : Cond.code yX6_as cX6_as 3 (some .int) ∈ GG := gg_in (List.mem_of_getElem? (i := 826) (by decide +kernel)) rfl
theorem wd_827 : Cond.methodLink RX6 291 yX6_isA ∈ GG := gg_in (List.mem_of_getElem? (i := 827) (by decide +kernel)) rfl
theorem wd_828 : Cond.static yX6_isA ∈ GG := gg_in (List.mem_of_getElem? (i := 828) (by decide +kernel)) rfl
theorem wd_829 : Cond.code yX6_isA cX6_isA 2 (some .boolean) ∈ GG := gg_in (List.mem_of_getElem? (i := 829) (by decide +kernel)) rfl
theorem wd_830 : Cond.methodLink RX6 320 yX6_widerKind ∈ GG := gg_in (List.mem_of_getElem? (i := 830) (by decide +kernel)) rfl
theorem wd_831 : Cond.static yX6_widerKind ∈ GG := gg_in (List.mem_of_getElem? (i := 831) (by decide +kernel)) rfl
theorem wd_832 : Cond.code yX6_widerKind cX6_widerKind 1 (some .int) ∈ GG := gg_in (List.mem_of_getElem? (i := 832) (by decide +kernel)) rfl
theorem wd_833 : Cond.methodLink RL 160 yX6_ask ∈ GG := gg_in (List.mem_of_getElem? (i := 833) (by decide +kernel)) rfl
theorem wd_834 : Cond.instanceMethod yX6_ask ∈ GG := gg_in (List.mem_of_getElem? (i := 834) (by decide +kernel)) rfl
theorem wd_835 : Cond.selects RX6 yX6_ask yX6_ask ∈ GG := gg_in (List.mem_of_getElem? (i := 835) (by decide +kernel)) rfl
theorem wd_836 : Cond.code yX6_ask cX6_ask 3 (some .int) ∈ GG := gg_in (List.mem_of_getElem? (i := 836) (by decide +kernel)) rfl
theorem wd_837 : Cond.methodLink RX6 294 yX1_askOf ∈ GG := gg_in (List.mem_of_getElem? (i := 837) (by decide +kernel)) rfl
theorem wd_838 : Cond.instanceMethod yX1_askOf ∈ GG := gg_in (List.mem_of_getElem? (i := 838) (by decide +kernel)) rfl
theorem wd_839 : Cond.selects RX1 yX1_askOf yX1_askOf ∈ GG := gg_in (List.mem_of_getElem? (i := 839) (by decide +kernel)) rfl
theorem wd_840 : Cond.code yX1_askOf cX1_askOf 4 (some .int) ∈ GG := gg_in (List.mem_of_getElem? (i := 840) (by decide +kernel)) rfl
theorem wd_841 : Cond.methodLink RX1 17 yX1_answer ∈ GG := gg_in (List.mem_of_getElem? (i := 841) (by decide +kernel)) rfl
theorem wd_843 : Cond.instanceMethod yX1_answer ∈ GG := gg_in (List.mem_of_getElem? (i := 843) (by decide +kernel)) rfl
theorem wd_844 : Cond.code yX1_answer cX1_answer 5 (some .int) ∈ GG := gg_in (List.mem_of_getElem? (i := 844) (by decide +kernel)) rfl
theorem wd_845 : Cond.methodLink RX1 26 yX1_nearestBody ∈ GG := gg_in (List.mem_of_getElem? (i := 845) (by decide +kernel)) rfl
theorem wd_846 : Cond.static yX1_nearestBody ∈ GG := gg_in (List.mem_of_getElem? (i := 846) (by decide +kernel)) rfl
theorem wd_847 : Cond.code yX1_nearestBody cX1_nearestBody 3 (some .int) ∈ GG := gg_in (List.mem_of_getElem? (i := 847) (by decide +kernel)) rfl
theorem wd_848 : Cond.fieldLink RX1 34 RX1 "SIZE_BODIES" "[I" ∈ GG := gg_in (List.mem_of_getElem? (i := 848) (by decide +kernel)) rfl
theorem wd_850 : Cond.fieldLink RX1 37 RX1 "MARK_BODIES" "[I" ∈ GG := gg_in (List.mem_of_getElem? (i := 850) (by decide +kernel)) rfl
theorem wd_853 : Cond.methodLink RX1 30 yX1_begin ∈ GG := gg_in (List.mem_of_getElem? (i := 853) (by decide +kernel)) rfl
theorem wd_855 : Cond.instanceMethod yX1_begin ∈ GG := gg_in (List.mem_of_getElem? (i := 855) (by decide +kernel)) rfl
theorem wd_856 : Cond.code yX1_begin cX1_begin 6 (some .int) ∈ GG := gg_in (List.mem_of_getElem? (i := 856) (by decide +kernel)) rfl
theorem wd_857 : Cond.methodLink RX1 46 yX1_leave ∈ GG := gg_in (List.mem_of_getElem? (i := 857) (by decide +kernel)) rfl
theorem wd_859 : Cond.instanceMethod yX1_leave ∈ GG := gg_in (List.mem_of_getElem? (i := 859) (by decide +kernel)) rfl
theorem wd_860 : Cond.code yX1_leave cX1_leave 2 none ∈ GG := gg_in (List.mem_of_getElem? (i := 860) (by decide +kernel)) rfl
theorem wd_861 : Cond.methodLink RL 164 yX6_trace ∈ GG := gg_in (List.mem_of_getElem? (i := 861) (by decide +kernel)) rfl
theorem wd_862 : Cond.instanceMethod yX6_trace ∈ GG := gg_in (List.mem_of_getElem? (i := 862) (by decide +kernel)) rfl
theorem wd_863 : Cond.selects RX6 yX6_trace yX6_trace ∈ GG := gg_in (List.mem_of_getElem? (i := 863) (by decide +kernel)) rfl
theorem wd_864 : Cond.code yX6_trace cX6_trace 2 (some .int) ∈ GG := gg_in (List.mem_of_getElem? (i := 864) (by decide +kernel)) rfl
theorem wd_865 : Cond.methodLink RL 168 yX6_count ∈ GG := gg_in (List.mem_of_getElem? (i := 865) (by decide +kernel)) rfl
theorem wd_866 : Cond.instanceMethod yX6_count ∈ GG := gg_in (List.mem_of_getElem? (i := 866) (by decide +kernel)) rfl
theorem wd_867 : Cond.selects RX6 yX6_count yX6_count ∈ GG := gg_in (List.mem_of_getElem? (i := 867) (by decide +kernel)) rfl
theorem wd_868 : Cond.code yX6_count cX6_count 2 (some .int) ∈ GG := gg_in (List.mem_of_getElem? (i := 868) (by decide +kernel)) rfl
theorem wd_869 : Cond.methodLink RX6 303 yX6_rowsThere ∈ GG := gg_in (List.mem_of_getElem? (i := 869) (by decide +kernel)) rfl
theorem wd_871 : Cond.instanceMethod yX6_rowsThere ∈ GG := gg_in (List.mem_of_getElem? (i := 871) (by decide +kernel)) rfl
theorem wd_872 : Cond.code yX6_rowsThere cX6_rowsThere 3 (some .int) ∈ GG := gg_in (List.mem_of_getElem? (i := 872) (by decide +kernel)) rfl
theorem wd_873 : Cond.methodLink RL 172 yX6_status ∈ GG := gg_in (List.mem_of_getElem? (i := 873) (by decide +kernel)) rfl
theorem wd_874 : Cond.instanceMethod yX6_status ∈ GG := gg_in (List.mem_of_getElem? (i := 874) (by decide +kernel)) rfl
theorem wd_875 : Cond.selects RX6 yX6_status yX6_status ∈ GG := gg_in (List.mem_of_getElem? (i := 875) (by decide +kernel)) rfl
theorem wd_876 : Cond.code yX6_status cX6_status 1 (some .int) ∈ GG := gg_in (List.mem_of_getElem? (i := 876) (by decide +kernel)) rfl
theorem wd_883 : Cond.fieldLink RX7 47 RX7 "thrown" "I" ∈ GG := gg_in (List.mem_of_getElem? (i := 883) (by decide +kernel)) rfl
theorem wd_884 : Cond.fieldLink RX7 51 RX7 "status" "I" ∈ GG := gg_in (List.mem_of_getElem? (i := 884) (by decide +kernel)) rfl
theorem wd_885 : Cond.fieldLink RX7 7 RX7 "lane" "[I" ∈ GG := gg_in (List.mem_of_getElem? (i := 885) (by decide +kernel)) rfl
theorem wd_886 : Cond.fieldLink RX7 13 RX7 "many" "[I" ∈ GG := gg_in (List.mem_of_getElem? (i := 886) (by decide +kernel)) rfl
theorem wd_887 : Cond.fieldLink RX7 16 RX7 "item" "[I" ∈ GG := gg_in (List.mem_of_getElem? (i := 887) (by decide +kernel)) rfl
theorem wd_888 : Cond.fieldLink RX7 19 RX7 "estuary" "[I" ∈ GG := gg_in (List.mem_of_getElem? (i := 888) (by decide +kernel)) rfl
theorem wd_889 : Cond.fieldLink RX7 22 RX7 "fresh" "[I" ∈ GG := gg_in (List.mem_of_getElem? (i := 889) (by decide +kernel)) rfl
theorem wd_890 : Cond.fieldLink RX7 25 RX7 "then" "[I" ∈ GG := gg_in (List.mem_of_getElem? (i := 890) (by decide +kernel)) rfl
theorem wd_891 : Cond.fieldLink RX7 28 RX7 "was" "[I" ∈ GG := gg_in (List.mem_of_getElem? (i := 891) (by decide +kernel)) rfl
theorem wd_892 : Cond.fieldLink RX7 149 RX7 "acts" "I" ∈ GG := gg_in (List.mem_of_getElem? (i := 892) (by decide +kernel)) rfl
theorem wd_893 : Cond.fieldLink RX7 31 RX7 "tape" "[I" ∈ GG := gg_in (List.mem_of_getElem? (i := 893) (by decide +kernel)) rfl
theorem wd_894 : Cond.fieldLink RX7 74 RX7 "taped" "I" ∈ GG := gg_in (List.mem_of_getElem? (i := 894) (by decide +kernel)) rfl
theorem wd_895 : Cond.fieldLink RX7 87 RX7 "cursor" "I" ∈ GG := gg_in (List.mem_of_getElem? (i := 895) (by decide +kernel)) rfl
theorem wd_896 : Cond.fieldLink RX7 81 RX7 "start" "I" ∈ GG := gg_in (List.mem_of_getElem? (i := 896) (by decide +kernel)) rfl
theorem wd_897 : Cond.fieldLink RX7 102 RX7 "token" "I" ∈ GG := gg_in (List.mem_of_getElem? (i := 897) (by decide +kernel)) rfl
theorem wd_898 : Cond.fieldLink RX7 91 RX7 "value" "I" ∈ GG := gg_in (List.mem_of_getElem? (i := 898) (by decide +kernel)) rfl
theorem wd_899 : Cond.fieldLink RX7 78 RX7 "fault" "I" ∈ GG := gg_in (List.mem_of_getElem? (i := 899) (by decide +kernel)) rfl
theorem wd_900 : Cond.fieldLink RX7 84 RX7 "faultAt" "I" ∈ GG := gg_in (List.mem_of_getElem? (i := 900) (by decide +kernel)) rfl
theorem wd_901 : Cond.fieldLink RX7 116 RX7 "latest" "I" ∈ GG := gg_in (List.mem_of_getElem? (i := 901) (by decide +kernel)) rfl
theorem wd_902 : Cond.fieldLink RX7 34 RX7 "overs" "[I" ∈ GG := gg_in (List.mem_of_getElem? (i := 902) (by decide +kernel)) rfl
theorem wd_903 : Cond.fieldLink RX7 37 RX7 "isKept" "[Z" ∈ GG := gg_in (List.mem_of_getElem? (i := 903) (by decide +kernel)) rfl
theorem wd_904 : Cond.fieldLink RX7 41 RX7 "kept" "[I" ∈ GG := gg_in (List.mem_of_getElem? (i := 904) (by decide +kernel)) rfl
theorem wd_905 : Cond.fieldLink RX7 44 RX7 "trace" "[I" ∈ GG := gg_in (List.mem_of_getElem? (i := 905) (by decide +kernel)) rfl
theorem wd_906 : Cond.fieldLink RX7 290 RX7 "traced" "I" ∈ GG := gg_in (List.mem_of_getElem? (i := 906) (by decide +kernel)) rfl
theorem wd_957 : Cond.methodLink RL 17 yX7_row ∈ GG := gg_in (List.mem_of_getElem? (i := 957) (by decide +kernel)) rfl
theorem wd_958 : Cond.instanceMethod yX7_row ∈ GG := gg_in (List.mem_of_getElem? (i := 958) (by decide +kernel)) rfl
theorem wd_959 : Cond.selects RX7 yX7_row yX7_row ∈ GG := gg_in (List.mem_of_getElem? (i := 959) (by decide +kernel)) rfl
theorem wd_960 : Cond.code yX7_row cX7_row 5 (some .int) ∈ GG := gg_in (List.mem_of_getElem? (i := 960) (by decide +kernel)) rfl
theorem wd_961 : Cond.methodLink RX7 61 yX7_isRow ∈ GG := gg_in (List.mem_of_getElem? (i := 961) (by decide +kernel)) rfl
theorem wd_962 : Cond.static yX7_isRow ∈ GG := gg_in (List.mem_of_getElem? (i := 962) (by decide +kernel)) rfl
theorem wd_963 : Cond.code yX7_isRow cX7_isRow 1 (some .boolean) ∈ GG := gg_in (List.mem_of_getElem? (i := 963) (by decide +kernel)) rfl
theorem wd_964 : Cond.constantLong RX7 55 (7) ∈ GG := gg_in (List.mem_of_getElem? (i := 964) (by decide +kernel)) rfl
theorem wd_965 : Cond.methodLink RX7 57 yX7_in ∈ GG := gg_in (List.mem_of_getElem? (i := 965) (by decide +kernel)) rfl
theorem wd_966 : Cond.static yX7_in ∈ GG := gg_in (List.mem_of_getElem? (i := 966) (by decide +kernel)) rfl
theorem wd_967 : Cond.code yX7_in cX7_in 6 (some .boolean) ∈ GG := gg_in (List.mem_of_getElem? (i := 967) (by decide +kernel)) rfl
theorem wd_968 : Cond.constantLong RX7 65 (2) ∈ GG := gg_in (List.mem_of_getElem? (i := 968) (by decide +kernel)) rfl
theorem wd_969 : Cond.constant RX7 67 (-1000001) ∈ GG := gg_in (List.mem_of_getElem? (i := 969) (by decide +kernel)) rfl
theorem wd_970 : Cond.methodLink RX7 68 yX7_finding ∈ GG := gg_in (List.mem_of_getElem? (i := 970) (by decide +kernel)) rfl
theorem wd_972 : Cond.instanceMethod yX7_finding ∈ GG := gg_in (List.mem_of_getElem? (i := 972) (by decide +kernel)) rfl
theorem wd_973 : Cond.code yX7_finding cX7_finding 2 (some .int) ∈ GG := gg_in (List.mem_of_getElem? (i := 973) (by decide +kernel)) rfl
theorem wd_974 : Cond.constant RX7 54 (-1000010) ∈ GG := gg_in (List.mem_of_getElem? (i := 974) (by decide +kernel)) rfl
theorem wd_975 : Cond.methodLink RL 21 yX7_set ∈ GG := gg_in (List.mem_of_getElem? (i := 975) (by decide +kernel)) rfl
theorem wd_976 : Cond.instanceMethod yX7_set ∈ GG := gg_in (List.mem_of_getElem? (i := 976) (by decide +kernel)) rfl
theorem wd_977 : Cond.selects RX7 yX7_set yX7_set ∈ GG := gg_in (List.mem_of_getElem? (i := 977) (by decide +kernel)) rfl
theorem wd_978 : Cond.code yX7_set cX7_set 4 (some .int) ∈ GG := gg_in (List.mem_of_getElem? (i := 978) (by decide +kernel)) rfl
theorem wd_979 : Cond.methodLink RL 26 yX7_copy ∈ GG := gg_in (List.mem_of_getElem? (i := 979) (by decide +kernel)) rfl
theorem wd_980 : Cond.instanceMethod yX7_copy ∈ GG := gg_in (List.mem_of_getElem? (i := 980) (by decide +kernel)) rfl
theorem wd_981 : Cond.selects RX7 yX7_copy yX7_copy ∈ GG := gg_in (List.mem_of_getElem? (i := 981) (by decide +kernel)) rfl
theorem wd_982 : Cond.code yX7_copy cX7_copy 9 (some .int) ∈ GG := gg_in (List.mem_of_getElem? (i := 982) (by decide +kernel)) rfl
theorem wd_983 : Cond.methodLink RL 31 yX7_drop ∈ GG := gg_in (List.mem_of_getElem? (i := 983) (by decide +kernel)) rfl
theorem wd_984 : Cond.instanceMethod yX7_drop ∈ GG := gg_in (List.mem_of_getElem? (i := 984) (by decide +kernel)) rfl
theorem wd_985 : Cond.selects RX7 yX7_drop yX7_drop ∈ GG := gg_in (List.mem_of_getElem? (i := 985) (by decide +kernel)) rfl
theorem wd_986 : Cond.code yX7_drop cX7_drop 2 (some .int) ∈ GG := gg_in (List.mem_of_getElem? (i := 986) (by decide +kernel)) rfl
theorem wd_987 : Cond.methodLink RL 35 yX7_feed ∈ GG := gg_in (List.mem_of_getElem? (i := 987) (by decide +kernel)) rfl
theorem wd_988 : Cond.instanceMethod yX7_feed ∈ GG := gg_in (List.mem_of_getElem? (i := 988) (by decide +kernel)) rfl
theorem wd_989 : Cond.selects RX7 yX7_feed yX7_feed ∈ GG := gg_in (List.mem_of_getElem? (i := 989) (by decide +kernel)) rfl
theorem wd_990 : Cond.code yX7_feed cX7_feed 2 (some .int) ∈ GG := gg_in (List.mem_of_getElem? (i := 990) (by decide +kernel)) rfl
theorem wd_991 : Cond.constantLong RX7 72 (255) ∈ GG := gg_in (List.mem_of_getElem? (i := 991) (by decide +kernel)) rfl
theorem wd_992 : Cond.constant RX7 77 (-1000003) ∈ GG := gg_in (List.mem_of_getElem? (i := 992) (by decide +kernel)) rfl
theorem wd_993 : Cond.methodLink RL 44 yX7_fault ∈ GG := gg_in (List.mem_of_getElem? (i := 993) (by decide +kernel)) rfl
theorem wd_994 : Cond.instanceMethod yX7_fault ∈ GG := gg_in (List.mem_of_getElem? (i := 994) (by decide +kernel)) rfl
theorem wd_995 : Cond.selects RX7 yX7_fault yX7_fault ∈ GG := gg_in (List.mem_of_getElem? (i := 995) (by decide +kernel)) rfl
theorem wd_996 : Cond.code yX7_fault cX7_fault 1 (some .int) ∈ GG := gg_in (List.mem_of_getElem? (i := 996) (by decide +kernel)) rfl
theorem wd_997 : Cond.methodLink RL 40 yX7_estuary ∈ GG := gg_in (List.mem_of_getElem? (i := 997) (by decide +kernel)) rfl
theorem wd_998 : Cond.instanceMethod yX7_estuary ∈ GG := gg_in (List.mem_of_getElem? (i := 998) (by decide +kernel)) rfl
theorem wd_999 : Cond.selects RX7 yX7_estuary yX7_estuary ∈ GG := gg_in (List.mem_of_getElem? (i := 999) (by decide +kernel)) rfl
theorem wd_1000 : Cond.code yX7_estuary cX7_estuary 2 (some .int) ∈ GG := gg_in (List.mem_of_getElem? (i := 1000) (by decide +kernel)) rfl
theorem wd_1001 : Cond.methodLink RX7 132 yX7_begin ∈ GG := gg_in (List.mem_of_getElem? (i := 1001) (by decide +kernel)) rfl
theorem wd_1003 : Cond.instanceMethod yX7_begin ∈ GG := gg_in (List.mem_of_getElem? (i := 1003) (by decide +kernel)) rfl
theorem wd_1004 : Cond.code yX7_begin cX7_begin 1 none ∈ GG := gg_in (List.mem_of_getElem? (i := 1004) (by decide +kernel)) rfl
theorem wd_1005 : Cond.methodLink RX7 109 yX7_nextToken ∈ GG := gg_in (List.mem_of_getElem? (i := 1005) (by decide +kernel)) rfl
theorem wd_1007 : Cond.instanceMethod yX7_nextToken ∈ GG := gg_in (List.mem_of_getElem? (i := 1007) (by decide +kernel)) rfl
theorem wd_1008 : Cond.code yX7_nextToken cX7_nextToken 1 none ∈ GG := gg_in (List.mem_of_getElem? (i := 1008) (by decide +kernel)) rfl
theorem wd_1009 : Cond.constant RX7 90 (-1000000) ∈ GG := gg_in (List.mem_of_getElem? (i := 1009) (by decide +kernel)) rfl
theorem wd_1010 : Cond.constantLong RX7 94 (97) ∈ GG := gg_in (List.mem_of_getElem? (i := 1010) (by decide +kernel)) rfl
theorem wd_1011 : Cond.constantLong RX7 96 (122) ∈ GG := gg_in (List.mem_of_getElem? (i := 1011) (by decide +kernel)) rfl
theorem wd_1012 : Cond.constantLong RX7 98 (48) ∈ GG := gg_in (List.mem_of_getElem? (i := 1012) (by decide +kernel)) rfl
theorem wd_1013 : Cond.constantLong RX7 100 (57) ∈ GG := gg_in (List.mem_of_getElem? (i := 1013) (by decide +kernel)) rfl
theorem wd_1014 : Cond.methodLink RX7 122 yX7_isLetter ∈ GG := gg_in (List.mem_of_getElem? (i := 1014) (by decide +kernel)) rfl
theorem wd_1016 : Cond.instanceMethod yX7_isLetter ∈ GG := gg_in (List.mem_of_getElem? (i := 1016) (by decide +kernel)) rfl
theorem wd_1017 : Cond.code yX7_isLetter cX7_isLetter 2 (some .boolean) ∈ GG := gg_in (List.mem_of_getElem? (i := 1017) (by decide +kernel)) rfl
theorem wd_1018 : Cond.methodLink RX7 112 yX7_must ∈ GG := gg_in (List.mem_of_getElem? (i := 1018) (by decide +kernel)) rfl
theorem wd_1020 : Cond.instanceMethod yX7_must ∈ GG := gg_in (List.mem_of_getElem? (i := 1020) (by decide +kernel)) rfl
theorem wd_1021 : Cond.code yX7_must cX7_must 2 none ∈ GG := gg_in (List.mem_of_getElem? (i := 1021) (by decide +kernel)) rfl
theorem wd_1022 : Cond.methodLink RX7 105 yX7_bad ∈ GG := gg_in (List.mem_of_getElem? (i := 1022) (by decide +kernel)) rfl
theorem wd_1024 : Cond.instanceMethod yX7_bad ∈ GG := gg_in (List.mem_of_getElem? (i := 1024) (by decide +kernel)) rfl
theorem wd_1025 : Cond.code yX7_bad cX7_bad 2 none ∈ GG := gg_in (List.mem_of_getElem? (i := 1025) (by decide +kernel)) rfl
theorem wd_1026 : Cond.methodLink RX7 125 yX7_number ∈ GG := gg_in (List.mem_of_getElem? (i := 1026) (by decide +kernel)) rfl
theorem wd_1028 : Cond.instanceMethod yX7_number ∈ GG := gg_in (List.mem_of_getElem? (i := 1028) (by decide +kernel)) rfl
theorem wd_1029 : Cond.code yX7_number cX7_number 4 (some .int) ∈ GG := gg_in (List.mem_of_getElem? (i := 1029) (by decide +kernel)) rfl
theorem wd_1030 : Cond.methodLink RX7 129 yX7_mustSign ∈ GG := gg_in (List.mem_of_getElem? (i := 1030) (by decide +kernel)) rfl
theorem wd_1032 : Cond.instanceMethod yX7_mustSign ∈ GG := gg_in (List.mem_of_getElem? (i := 1032) (by decide +kernel)) rfl
theorem wd_1033 : Cond.code yX7_mustSign cX7_mustSign 2 none ∈ GG := gg_in (List.mem_of_getElem? (i := 1033) (by decide +kernel)) rfl
theorem wd_1034 : Cond.methodLink RX7 135 yX7_readWind ∈ GG := gg_in (List.mem_of_getElem? (i := 1034) (by decide +kernel)) rfl
theorem wd_1036 : Cond.instanceMethod yX7_readWind ∈ GG := gg_in (List.mem_of_getElem? (i := 1036) (by decide +kernel)) rfl
theorem wd_1037 : Cond.code yX7_readWind cX7_readWind 2 none ∈ GG := gg_in (List.mem_of_getElem? (i := 1037) (by decide +kernel)) rfl
theorem wd_1038 : Cond.methodLink RX7 138 yX7_isSort ∈ GG := gg_in (List.mem_of_getElem? (i := 1038) (by decide +kernel)) rfl
theorem wd_1040 : Cond.instanceMethod yX7_isSort ∈ GG := gg_in (List.mem_of_getElem? (i := 1040) (by decide +kernel)) rfl
theorem wd_1041 : Cond.code yX7_isSort cX7_isSort 1 (some .boolean) ∈ GG := gg_in (List.mem_of_getElem? (i := 1041) (by decide +kernel)) rfl
theorem wd_1042 : Cond.methodLink RX7 119 yX7_kindBy ∈ GG := gg_in (List.mem_of_getElem? (i := 1042) (by decide +kernel)) rfl
theorem wd_1043 : Cond.static yX7_kindBy ∈ GG := gg_in (List.mem_of_getElem? (i := 1043) (by decide +kernel)) rfl
theorem wd_1044 : Cond.code yX7_kindBy cX7_kindBy 1 (some .int) ∈ GG := gg_in (List.mem_of_getElem? (i := 1044) (by decide +kernel)) rfl
theorem wd_1045 : Cond.methodLink RX7 142 yX7_readSheet ∈ GG := gg_in (List.mem_of_getElem? (i := 1045) (by decide +kernel)) rfl
theorem wd_1047 : Cond.instanceMethod yX7_readSheet ∈ GG := gg_in (List.mem_of_getElem? (i := 1047) (by decide +kernel)) rfl
theorem wd_1048 : Cond.code yX7_readSheet cX7_readSheet 6 none ∈ GG := gg_in (List.mem_of_getElem? (i := 1048) (by decide +kernel)) rfl
theorem wd_1049 : Cond.methodLink RX7 145 yX7_failed ∈ GG := gg_in (List.mem_of_getElem? (i := 1049) (by decide +kernel)) rfl
theorem wd_1051 : Cond.instanceMethod yX7_failed ∈ GG := gg_in (List.mem_of_getElem? (i := 1051) (by decide +kernel)) rfl
theorem wd_1052 : Cond.code yX7_failed cX7_failed 1 (some .boolean) ∈ GG := gg_in (List.mem_of_getElem? (i := 1052) (by decide +kernel)) rfl
theorem wd_1053 : Cond.constant RX7 148 (-1000100) ∈ GG := gg_in (List.mem_of_getElem? (i := 1053) (by decide +kernel)) rfl
theorem wd_1054 : Cond.methodLink RL 52 yX7_hours ∈ GG := gg_in (List.mem_of_getElem? (i := 1054) (by decide +kernel)) rfl
theorem wd_1055 : Cond.instanceMethod yX7_hours ∈ GG := gg_in (List.mem_of_getElem? (i := 1055) (by decide +kernel)) rfl
theorem wd_1056 : Cond.selects RX7 yX7_hours yX7_hours ∈ GG := gg_in (List.mem_of_getElem? (i := 1056) (by decide +kernel)) rfl
theorem wd_1057 : Cond.code yX7_hours cX7_hours 3 (some .int) ∈ GG := gg_in (List.mem_of_getElem? (i := 1057) (by decide +kernel)) rfl
theorem wd_1058 : Cond.methodLink RX7 187 yX7_isThere ∈ GG := gg_in (List.mem_of_getElem? (i := 1058) (by decide +kernel)) rfl
theorem wd_1060 : Cond.instanceMethod yX7_isThere ∈ GG := gg_in (List.mem_of_getElem? (i := 1060) (by decide +kernel)) rfl
theorem wd_1061 : Cond.code yX7_isThere cX7_isThere 1 (some .boolean) ∈ GG := gg_in (List.mem_of_getElem? (i := 1061) (by decide +kernel)) rfl
theorem wd_1062 : Cond.constant RX7 190 (-1000002) ∈ GG := gg_in (List.mem_of_getElem? (i := 1062) (by decide +kernel)) rfl
theorem wd_1063 : Cond.constantLong RX7 191 (24) ∈ GG := gg_in (List.mem_of_getElem? (i := 1063) (by decide +kernel)) rfl
theorem wd_1064 : Cond.methodLink RX7 193 yX7_keep ∈ GG := gg_in (List.mem_of_getElem? (i := 1064) (by decide +kernel)) rfl
theorem wd_1066 : Cond.instanceMethod yX7_keep ∈ GG := gg_in (List.mem_of_getElem? (i := 1066) (by decide +kernel)) rfl
theorem wd_1067 : Cond.code yX7_keep cX7_keep 2 none ∈ GG := gg_in (List.mem_of_getElem? (i := 1067) (by decide +kernel)) rfl
theorem wd_1068 : Cond.methodLink RX7 183 yX7_hourOf ∈ GG := gg_in (List.mem_of_getElem? (i := 1068) (by decide +kernel)) rfl
theorem wd_1069 : Cond.static yX7_hourOf ∈ GG := gg_in (List.mem_of_getElem? (i := 1069) (by decide +kernel)) rfl
theorem wd_1070 : Cond.code yX7_hourOf cX7_hourOf 3 none ∈ GG := gg_in (List.mem_of_getElem? (i := 1070) (by decide +kernel)) rfl
theorem wd_1071 : Cond.methodLink RX7 167 yX7_windOf ∈ GG := gg_in (List.mem_of_getElem? (i := 1071) (by decide +kernel)) rfl
theorem wd_1072 : Cond.static yX7_windOf ∈ GG := gg_in (List.mem_of_getElem? (i := 1072) (by decide +kernel)) rfl
theorem wd_1073 : Cond.code yX7_windOf cX7_windOf 1 (some .int) ∈ GG := gg_in (List.mem_of_getElem? (i := 1073) (by decide +kernel)) rfl
theorem wd_1074 : Cond.methodLink RX7 156 yX7_isIn ∈ GG := gg_in (List.mem_of_getElem? (i := 1074) (by decide +kernel)) rfl
theorem wd_1075 : Cond.static yX7_isIn ∈ GG := gg_in (List.mem_of_getElem? (i := 1075) (by decide +kernel)) rfl
theorem wd_1076 : Cond.code yX7_isIn cX7_isIn 2 (some .boolean) ∈ GG := gg_in (List.mem_of_getElem? (i := 1076) (by decide +kernel)) rfl
theorem wd_1077 : Cond.methodLink RX7 152 yX7_of ∈ GG := gg_in (List.mem_of_getElem? (i := 1077) (by decide +kernel)) rfl
theorem wd_1078 : Cond.static yX7_of ∈ GG := gg_in (List.mem_of_getElem? (i := 1078) (by decide +kernel)) rfl
theorem wd_1079 : Cond.code yX7_of cX7_of 3 (some .int) ∈ GG := gg_in (List.mem_of_getElem? (i := 1079) (by decide +kernel)) rfl
theorem wd_1080 : Cond.methodLink RX7 171 yX7_drift ∈ GG := gg_in (List.mem_of_getElem? (i := 1080) (by decide +kernel)) rfl
theorem wd_1081 : Cond.static yX7_drift ∈ GG := gg_in (List.mem_of_getElem? (i := 1081) (by decide +kernel)) rfl
theorem wd_1082 : Cond.code yX7_drift cX7_drift 7 none ∈ GG := gg_in (List.mem_of_getElem? (i := 1082) (by decide +kernel)) rfl
theorem wd_1083 : Cond.methodLink RX7 160 yX7_cellsOf ∈ GG := gg_in (List.mem_of_getElem? (i := 1083) (by decide +kernel)) rfl
theorem wd_1084 : Cond.static yX7_cellsOf ∈ GG := gg_in (List.mem_of_getElem? (i := 1084) (by decide +kernel)) rfl
theorem wd_1085 : Cond.code yX7_cellsOf cX7_cellsOf 5 (some .int) ∈ GG := gg_in (List.mem_of_getElem? (i := 1085) (by decide +kernel)) rfl
theorem wd_1086 : Cond.methodLink RX7 163 yX7_be ∈ GG := gg_in (List.mem_of_getElem? (i := 1086) (by decide +kernel)) rfl
theorem wd_1087 : Cond.static yX7_be ∈ GG := gg_in (List.mem_of_getElem? (i := 1087) (by decide +kernel)) rfl
theorem wd_1088 : Cond.code yX7_be cX7_be 4 none ∈ GG := gg_in (List.mem_of_getElem? (i := 1088) (by decide +kernel)) rfl
theorem wd_1089 : Cond.methodLink RX7 175 yX7_has ∈ GG := gg_in (List.mem_of_getElem? (i := 1089) (by decide +kernel)) rfl
theorem wd_1090 : Cond.static yX7_has ∈ GG := gg_in (List.mem_of_getElem? (i := 1090) (by decide +kernel)) rfl
theorem wd_1091 : Cond.code yX7_has cX7_has 2 (some .boolean) ∈ GG := gg_in (List.mem_of_getElem? (i := 1091) (by decide +kernel)) rfl
theorem wd_1092 : Cond.methodLink RX7 179 yX7_liesOn ∈ GG := gg_in (List.mem_of_getElem? (i := 1092) (by decide +kernel)) rfl
theorem wd_1093 : Cond.static yX7_liesOn ∈ GG := gg_in (List.mem_of_getElem? (i := 1093) (by decide +kernel)) rfl
theorem wd_1094 : Cond.code yX7_liesOn cX7_liesOn 2 (some .int) ∈ GG := gg_in (List.mem_of_getElem? (i := 1094) (by decide +kernel)) rfl
theorem wd_1095 : Cond.methodLink RX7 196 yX7_numbered ∈ GG := gg_in (List.mem_of_getElem? (i := 1095) (by decide +kernel)) rfl
theorem wd_1096 : Cond.static yX7_numbered ∈ GG := gg_in (List.mem_of_getElem? (i := 1096) (by decide +kernel)) rfl
theorem wd_1097 : Cond.code yX7_numbered cX7_numbered 3 (some .int) ∈ GG := gg_in (List.mem_of_getElem? (i := 1097) (by decide +kernel)) rfl
theorem wd_1098 : Cond.methodLink RX7 199 yX7_bits ∈ GG := gg_in (List.mem_of_getElem? (i := 1098) (by decide +kernel)) rfl
theorem wd_1099 : Cond.static yX7_bits ∈ GG := gg_in (List.mem_of_getElem? (i := 1099) (by decide +kernel)) rfl
theorem wd_1100 : Cond.code yX7_bits cX7_bits 3 (some .int) ∈ GG := gg_in (List.mem_of_getElem? (i := 1100) (by decide +kernel)) rfl
theorem wd_1101 : Cond.methodLink RL 56 yX7_step ∈ GG := gg_in (List.mem_of_getElem? (i := 1101) (by decide +kernel)) rfl
theorem wd_1102 : Cond.instanceMethod yX7_step ∈ GG := gg_in (List.mem_of_getElem? (i := 1102) (by decide +kernel)) rfl
theorem wd_1103 : Cond.selects RX7 yX7_step yX7_step ∈ GG := gg_in (List.mem_of_getElem? (i := 1103) (by decide +kernel)) rfl
theorem wd_1104 : Cond.code yX7_step cX7_step 3 (some .int) ∈ GG := gg_in (List.mem_of_getElem? (i := 1104) (by decide +kernel)) rfl
theorem wd_1105 : Cond.methodLink RX7 202 yX7_isCell ∈ GG := gg_in (List.mem_of_getElem? (i := 1105) (by decide +kernel)) rfl
theorem wd_1107 : Cond.instanceMethod yX7_isCell ∈ GG := gg_in (List.mem_of_getElem? (i := 1107) (by decide +kernel)) rfl
theorem wd_1108 : Cond.code yX7_isCell cX7_isCell 2 (some .boolean) ∈ GG := gg_in (List.mem_of_getElem? (i := 1108) (by decide +kernel)) rfl
theorem wd_1109 : Cond.methodLink RL 61 yX7_wind ∈ GG := gg_in (List.mem_of_getElem? (i := 1109) (by decide +kernel)) rfl
theorem wd_1110 : Cond.instanceMethod yX7_wind ∈ GG := gg_in (List.mem_of_getElem? (i := 1110) (by decide +kernel)) rfl
theorem wd_1111 : Cond.selects RX7 yX7_wind yX7_wind ∈ GG := gg_in (List.mem_of_getElem? (i := 1111) (by decide +kernel)) rfl
theorem wd_1112 : Cond.code yX7_wind cX7_wind 4 (some .int) ∈ GG := gg_in (List.mem_of_getElem? (i := 1112) (by decide +kernel)) rfl
theorem wd_1113 : Cond.methodLink RX7 205 yX7_isWind ∈ GG := gg_in (List.mem_of_getElem? (i := 1113) (by decide +kernel)) rfl
theorem wd_1115 : Cond.instanceMethod yX7_isWind ∈ GG := gg_in (List.mem_of_getElem? (i := 1115) (by decide +kernel)) rfl
theorem wd_1116 : Cond.code yX7_isWind cX7_isWind 2 (some .boolean) ∈ GG := gg_in (List.mem_of_getElem? (i := 1116) (by decide +kernel)) rfl
theorem wd_1117 : Cond.constantLong RX7 208 (4) ∈ GG := gg_in (List.mem_of_getElem? (i := 1117) (by decide +kernel)) rfl
theorem wd_1118 : Cond.methodLink RL 65 yX7_wake ∈ GG := gg_in (List.mem_of_getElem? (i := 1118) (by decide +kernel)) rfl
theorem wd_1119 : Cond.instanceMethod yX7_wake ∈ GG := gg_in (List.mem_of_getElem? (i := 1119) (by decide +kernel)) rfl
theorem wd_1120 : Cond.selects RX7 yX7_wake yX7_wake ∈ GG := gg_in (List.mem_of_getElem? (i := 1120) (by decide +kernel)) rfl
theorem wd_1121 : Cond.code yX7_wake cX7_wake 3 (some .int) ∈ GG := gg_in (List.mem_of_getElem? (i := 1121) (by decide +kernel)) rfl
theorem wd_1122 : Cond.constantLong RX7 210 (15) ∈ GG := gg_in (List.mem_of_getElem? (i := 1122) (by decide +kernel)) rfl
theorem wd_1123 : Cond.methodLink RL 69 yX7_let ∈ GG := gg_in (List.mem_of_getElem? (i := 1123) (by decide +kernel)) rfl
theorem wd_1124 : Cond.instanceMethod yX7_let ∈ GG := gg_in (List.mem_of_getElem? (i := 1124) (by decide +kernel)) rfl
theorem wd_1125 : Cond.selects RX7 yX7_let yX7_let ∈ GG := gg_in (List.mem_of_getElem? (i := 1125) (by decide +kernel)) rfl
theorem wd_1126 : Cond.code yX7_let cX7_let 4 (some .int) ∈ GG := gg_in (List.mem_of_getElem? (i := 1126) (by decide +kernel)) rfl
theorem wd_1127 : Cond.methodLink RX7 212 yX7_isSheet ∈ GG := gg_in (List.mem_of_getElem? (i := 1127) (by decide +kernel)) rfl
theorem wd_1129 : Cond.instanceMethod yX7_isSheet ∈ GG := gg_in (List.mem_of_getElem? (i := 1129) (by decide +kernel)) rfl
theorem wd_1130 : Cond.code yX7_isSheet cX7_isSheet 2 (some .boolean) ∈ GG := gg_in (List.mem_of_getElem? (i := 1130) (by decide +kernel)) rfl
theorem wd_1131 : Cond.constantLong RX7 215 (9) ∈ GG := gg_in (List.mem_of_getElem? (i := 1131) (by decide +kernel)) rfl
theorem wd_1132 : Cond.methodLink RX7 217 yX7_letIn ∈ GG := gg_in (List.mem_of_getElem? (i := 1132) (by decide +kernel)) rfl
theorem wd_1133 : Cond.static yX7_letIn ∈ GG := gg_in (List.mem_of_getElem? (i := 1133) (by decide +kernel)) rfl
theorem wd_1134 : Cond.code yX7_letIn cX7_letIn 4 none ∈ GG := gg_in (List.mem_of_getElem? (i := 1134) (by decide +kernel)) rfl
theorem wd_1135 : Cond.methodLink RX7 220 yX7_ins ∈ GG := gg_in (List.mem_of_getElem? (i := 1135) (by decide +kernel)) rfl
theorem wd_1136 : Cond.static yX7_ins ∈ GG := gg_in (List.mem_of_getElem? (i := 1136) (by decide +kernel)) rfl
theorem wd_1137 : Cond.code yX7_ins cX7_ins 3 (some .int) ∈ GG := gg_in (List.mem_of_getElem? (i := 1137) (by decide +kernel)) rfl
theorem wd_1138 : Cond.methodLink RL 48 yX7_undo ∈ GG := gg_in (List.mem_of_getElem? (i := 1138) (by decide +kernel)) rfl
theorem wd_1139 : Cond.instanceMethod yX7_undo ∈ GG := gg_in (List.mem_of_getElem? (i := 1139) (by decide +kernel)) rfl
theorem wd_1140 : Cond.selects RX7 yX7_undo yX7_undo ∈ GG := gg_in (List.mem_of_getElem? (i := 1140) (by decide +kernel)) rfl
theorem wd_1141 : Cond.code yX7_undo cX7_undo 2 (some .int) ∈ GG := gg_in (List.mem_of_getElem? (i := 1141) (by decide +kernel)) rfl
theorem wd_1142 : Cond.methodLink RL 73 yX7_sheet ∈ GG := gg_in (List.mem_of_getElem? (i := 1142) (by decide +kernel)) rfl
theorem wd_1143 : Cond.instanceMethod yX7_sheet ∈ GG := gg_in (List.mem_of_getElem? (i := 1143) (by decide +kernel)) rfl
theorem wd_1144 : Cond.selects RX7 yX7_sheet yX7_sheet ∈ GG := gg_in (List.mem_of_getElem? (i := 1144) (by decide +kernel)) rfl
theorem wd_1145 : Cond.code yX7_sheet cX7_sheet 3 (some .int) ∈ GG := gg_in (List.mem_of_getElem? (i := 1145) (by decide +kernel)) rfl
theorem wd_1146 : Cond.methodLink RX7 223 yX7_told ∈ GG := gg_in (List.mem_of_getElem? (i := 1146) (by decide +kernel)) rfl
theorem wd_1147 : Cond.static yX7_told ∈ GG := gg_in (List.mem_of_getElem? (i := 1147) (by decide +kernel)) rfl
theorem wd_1148 : Cond.code yX7_told cX7_told 3 (some .int) ∈ GG := gg_in (List.mem_of_getElem? (i := 1148) (by decide +kernel)) rfl
theorem wd_1149 : Cond.methodLink RL 77 yX7_cell ∈ GG := gg_in (List.mem_of_getElem? (i := 1149) (by decide +kernel)) rfl
theorem wd_1150 : Cond.instanceMethod yX7_cell ∈ GG := gg_in (List.mem_of_getElem? (i := 1150) (by decide +kernel)) rfl
theorem wd_1151 : Cond.selects RX7 yX7_cell yX7_cell ∈ GG := gg_in (List.mem_of_getElem? (i := 1151) (by decide +kernel)) rfl
theorem wd_1152 : Cond.code yX7_cell cX7_cell 5 (some .int) ∈ GG := gg_in (List.mem_of_getElem? (i := 1152) (by decide +kernel)) rfl
theorem wd_1153 : Cond.methodLink RX7 226 yX7_overOf ∈ GG := gg_in (List.mem_of_getElem? (i := 1153) (by decide +kernel)) rfl
theorem wd_1154 : Cond.static yX7_overOf ∈ GG := gg_in (List.mem_of_getElem? (i := 1154) (by decide +kernel)) rfl
theorem wd_1155 : Cond.code yX7_overOf cX7_overOf 4 (some .int) ∈ GG := gg_in (List.mem_of_getElem? (i := 1155) (by decide +kernel)) rfl
theorem wd_1156 : Cond.methodLink RL 81 yX7_stand ∈ GG := gg_in (List.mem_of_getElem? (i := 1156) (by decide +kernel)) rfl
theorem wd_1157 : Cond.instanceMethod yX7_stand ∈ GG := gg_in (List.mem_of_getElem? (i := 1157) (by decide +kernel)) rfl
theorem wd_1158 : Cond.selects RX7 yX7_stand yX7_stand ∈ GG := gg_in (List.mem_of_getElem? (i := 1158) (by decide +kernel)) rfl
theorem wd_1159 : Cond.code yX7_stand cX7_stand 2 (some .int) ∈ GG := gg_in (List.mem_of_getElem? (i := 1159) (by decide +kernel)) rfl
theorem wd_1160 : Cond.methodLink RL 85 yX7_ahead ∈ GG := gg_in (List.mem_of_getElem? (i := 1160) (by decide +kernel)) rfl
theorem wd_1161 : Cond.instanceMethod yX7_ahead ∈ GG := gg_in (List.mem_of_getElem? (i := 1161) (by decide +kernel)) rfl
theorem wd_1162 : Cond.selects RX7 yX7_ahead yX7_ahead ∈ GG := gg_in (List.mem_of_getElem? (i := 1162) (by decide +kernel)) rfl
theorem wd_1163 : Cond.code yX7_ahead cX7_ahead 4 (some .int) ∈ GG := gg_in (List.mem_of_getElem? (i := 1163) (by decide +kernel)) rfl
theorem wd_1164 : Cond.constantLong RX7 229 (60) ∈ GG := gg_in (List.mem_of_getElem? (i := 1164) (by decide +kernel)) rfl
theorem wd_1165 : Cond.methodLink RX7 231 yX7_layThen ∈ GG := gg_in (List.mem_of_getElem? (i := 1165) (by decide +kernel)) rfl
theorem wd_1167 : Cond.instanceMethod yX7_layThen ∈ GG := gg_in (List.mem_of_getElem? (i := 1167) (by decide +kernel)) rfl
theorem wd_1168 : Cond.code yX7_layThen cX7_layThen 2 none ∈ GG := gg_in (List.mem_of_getElem? (i := 1168) (by decide +kernel)) rfl
theorem wd_1169 : Cond.methodLink RX7 234 yX7_hoursOf ∈ GG := gg_in (List.mem_of_getElem? (i := 1169) (by decide +kernel)) rfl
theorem wd_1170 : Cond.static yX7_hoursOf ∈ GG := gg_in (List.mem_of_getElem? (i := 1170) (by decide +kernel)) rfl
theorem wd_1171 : Cond.code yX7_hoursOf cX7_hoursOf 3 none ∈ GG := gg_in (List.mem_of_getElem? (i := 1171) (by decide +kernel)) rfl
theorem wd_1172 : Cond.methodLink RL 89 yX7_over ∈ GG := gg_in (List.mem_of_getElem? (i := 1172) (by decide +kernel)) rfl
theorem wd_1173 : Cond.instanceMethod yX7_over ∈ GG := gg_in (List.mem_of_getElem? (i := 1173) (by decide +kernel)) rfl
theorem wd_1174 : Cond.selects RX7 yX7_over yX7_over ∈ GG := gg_in (List.mem_of_getElem? (i := 1174) (by decide +kernel)) rfl
theorem wd_1175 : Cond.code yX7_over cX7_over 3 (some .int) ∈ GG := gg_in (List.mem_of_getElem? (i := 1175) (by decide +kernel)) rfl
theorem wd_1176 : Cond.methodLink RL 93 yX7_when ∈ GG := gg_in (List.mem_of_getElem? (i := 1176) (by decide +kernel)) rfl
theorem wd_1177 : Cond.instanceMethod yX7_when ∈ GG := gg_in (List.mem_of_getElem? (i := 1177) (by decide +kernel)) rfl
theorem wd_1178 : Cond.selects RX7 yX7_when yX7_when ∈ GG := gg_in (List.mem_of_getElem? (i := 1178) (by decide +kernel)) rfl
theorem wd_1179 : Cond.code yX7_when cX7_when 4 (some .int) ∈ GG := gg_in (List.mem_of_getElem? (i := 1179) (by decide +kernel)) rfl
theorem wd_1180 : Cond.methodLink RL 97 yX7_overlap ∈ GG := gg_in (List.mem_of_getElem? (i := 1180) (by decide +kernel)) rfl
theorem wd_1181 : Cond.instanceMethod yX7_overlap ∈ GG := gg_in (List.mem_of_getElem? (i := 1181) (by decide +kernel)) rfl
theorem wd_1182 : Cond.selects RX7 yX7_overlap yX7_overlap ∈ GG := gg_in (List.mem_of_getElem? (i := 1182) (by decide +kernel)) rfl
theorem wd_1183 : Cond.code yX7_overlap cX7_overlap 5 (some .int) ∈ GG := gg_in (List.mem_of_getElem? (i := 1183) (by decide +kernel)) rfl
theorem wd_1184 : Cond.methodLink RL 101 yX7_walk ∈ GG := gg_in (List.mem_of_getElem? (i := 1184) (by decide +kernel)) rfl
theorem wd_1185 : Cond.instanceMethod yX7_walk ∈ GG := gg_in (List.mem_of_getElem? (i := 1185) (by decide +kernel)) rfl
theorem wd_1186 : Cond.selects RX7 yX7_walk yX7_walk ∈ GG := gg_in (List.mem_of_getElem? (i := 1186) (by decide +kernel)) rfl
theorem wd_1187 : Cond.code yX7_walk cX7_walk 12 (some .int) ∈ GG := gg_in (List.mem_of_getElem? (i := 1187) (by decide +kernel)) rfl
theorem wd_1188 : Cond.constantLong RX7 238 (6) ∈ GG := gg_in (List.mem_of_getElem? (i := 1188) (by decide +kernel)) rfl
theorem wd_1189 : Cond.methodLink RL 105 yX7_meet ∈ GG := gg_in (List.mem_of_getElem? (i := 1189) (by decide +kernel)) rfl
theorem wd_1190 : Cond.instanceMethod yX7_meet ∈ GG := gg_in (List.mem_of_getElem? (i := 1190) (by decide +kernel)) rfl
theorem wd_1191 : Cond.selects RX7 yX7_meet yX7_meet ∈ GG := gg_in (List.mem_of_getElem? (i := 1191) (by decide +kernel)) rfl
theorem wd_1192 : Cond.code yX7_meet cX7_meet 4 (some .int) ∈ GG := gg_in (List.mem_of_getElem? (i := 1192) (by decide +kernel)) rfl
theorem wd_1193 : Cond.methodLink RL 109 yX7_site ∈ GG := gg_in (List.mem_of_getElem? (i := 1193) (by decide +kernel)) rfl
theorem wd_1194 : Cond.instanceMethod yX7_site ∈ GG := gg_in (List.mem_of_getElem? (i := 1194) (by decide +kernel)) rfl
theorem wd_1195 : Cond.selects RX7 yX7_site yX7_site ∈ GG := gg_in (List.mem_of_getElem? (i := 1195) (by decide +kernel)) rfl
theorem wd_1196 : Cond.code yX7_site cX7_site 7 (some .int) ∈ GG := gg_in (List.mem_of_getElem? (i := 1196) (by decide +kernel)) rfl
theorem wd_1197 : Cond.constantLong RX7 240 (30) ∈ GG := gg_in (List.mem_of_getElem? (i := 1197) (by decide +kernel)) rfl
theorem wd_1198 : Cond.methodLink RL 113 yX7_waking ∈ GG := gg_in (List.mem_of_getElem? (i := 1198) (by decide +kernel)) rfl
theorem wd_1199 : Cond.instanceMethod yX7_waking ∈ GG := gg_in (List.mem_of_getElem? (i := 1199) (by decide +kernel)) rfl
theorem wd_1200 : Cond.selects RX7 yX7_waking yX7_waking ∈ GG := gg_in (List.mem_of_getElem? (i := 1200) (by decide +kernel)) rfl
theorem wd_1201 : Cond.code yX7_waking cX7_waking 6 (some .int) ∈ GG := gg_in (List.mem_of_getElem? (i := 1201) (by decide +kernel)) rfl
theorem wd_1202 : Cond.methodLink RX7 242 yX7_numberedBy ∈ GG := gg_in (List.mem_of_getElem? (i := 1202) (by decide +kernel)) rfl
theorem wd_1204 : Cond.instanceMethod yX7_numberedBy ∈ GG := gg_in (List.mem_of_getElem? (i := 1204) (by decide +kernel)) rfl
theorem wd_1205 : Cond.code yX7_numberedBy cX7_numberedBy 3 (some .int) ∈ GG := gg_in (List.mem_of_getElem? (i := 1205) (by decide +kernel)) rfl
theorem wd_1206 : Cond.methodLink RL 117 yX7_meant ∈ GG := gg_in (List.mem_of_getElem? (i := 1206) (by decide +kernel)) rfl
theorem wd_1207 : Cond.instanceMethod yX7_meant ∈ GG := gg_in (List.mem_of_getElem? (i := 1207) (by decide +kernel)) rfl
theorem wd_1208 : Cond.selects RX7 yX7_meant yX7_meant ∈ GG := gg_in (List.mem_of_getElem? (i := 1208) (by decide +kernel)) rfl
theorem wd_1209 : Cond.code yX7_meant cX7_meant 9 (some .int) ∈ GG := gg_in (List.mem_of_getElem? (i := 1209) (by decide +kernel)) rfl
theorem wd_1210 : Cond.constantLong RX7 245 (54) ∈ GG := gg_in (List.mem_of_getElem? (i := 1210) (by decide +kernel)) rfl
theorem wd_1211 : Cond.methodLink RL 121 yX7_share ∈ GG := gg_in (List.mem_of_getElem? (i := 1211) (by decide +kernel)) rfl
theorem wd_1212 : Cond.instanceMethod yX7_share ∈ GG := gg_in (List.mem_of_getElem? (i := 1212) (by decide +kernel)) rfl
theorem wd_1213 : Cond.selects RX7 yX7_share yX7_share ∈ GG := gg_in (List.mem_of_getElem? (i := 1213) (by decide +kernel)) rfl
theorem wd_1214 : Cond.code yX7_share cX7_share 7 (some .int) ∈ GG := gg_in (List.mem_of_getElem? (i := 1214) (by decide +kernel)) rfl
theorem wd_1215 : Cond.constantLong RX7 247 (999) ∈ GG := gg_in (List.mem_of_getElem? (i := 1215) (by decide +kernel)) rfl
theorem wd_1216 : Cond.methodLink RX7 249 yX7_pailsOf ∈ GG := gg_in (List.mem_of_getElem? (i := 1216) (by decide +kernel)) rfl
theorem wd_1218 : Cond.instanceMethod yX7_pailsOf ∈ GG := gg_in (List.mem_of_getElem? (i := 1218) (by decide +kernel)) rfl
theorem wd_1219 : Cond.code yX7_pailsOf cX7_pailsOf 2 (some .int) ∈ GG := gg_in (List.mem_of_getElem? (i := 1219) (by decide +kernel)) rfl
theorem wd_1220 : Cond.methodLink RL 125 yX7_byTurns ∈ GG := gg_in (List.mem_of_getElem? (i := 1220) (by decide +kernel)) rfl
theorem wd_1221 : Cond.instanceMethod yX7_byTurns ∈ GG := gg_in (List.mem_of_getElem? (i := 1221) (by decide +kernel)) rfl
theorem wd_1222 : Cond.selects RX7 yX7_byTurns yX7_byTurns ∈ GG := gg_in (List.mem_of_getElem? (i := 1222) (by decide +kernel)) rfl
theorem wd_1223 : Cond.code yX7_byTurns cX7_byTurns 12 (some .int) ∈ GG := gg_in (List.mem_of_getElem? (i := 1223) (by decide +kernel)) rfl
theorem wd_1224 : Cond.constantLong RX7 255 (20) ∈ GG := gg_in (List.mem_of_getElem? (i := 1224) (by decide +kernel)) rfl
theorem wd_1225 : Cond.methodLink RX7 257 yX7_afterTurns ∈ GG := gg_in (List.mem_of_getElem? (i := 1225) (by decide +kernel)) rfl
theorem wd_1227 : Cond.instanceMethod yX7_afterTurns ∈ GG := gg_in (List.mem_of_getElem? (i := 1227) (by decide +kernel)) rfl
theorem wd_1228 : Cond.code yX7_afterTurns cX7_afterTurns 8 (some .int) ∈ GG := gg_in (List.mem_of_getElem? (i := 1228) (by decide +kernel)) rfl
theorem wd_1229 : Cond.methodLink RX7 252 yX7_turnWind ∈ GG := gg_in (List.mem_of_getElem? (i := 1229) (by decide +kernel)) rfl
theorem wd_1230 : Cond.static yX7_turnWind ∈ GG := gg_in (List.mem_of_getElem? (i := 1230) (by decide +kernel)) rfl
theorem wd_1231 : Cond.code yX7_turnWind cX7_turnWind 1 none ∈ GG := gg_in (List.mem_of_getElem? (i := 1231) (by decide +kernel)) rfl
theorem wd_1232 : Cond.methodLink RL 129 yX7_who ∈ GG := gg_in (List.mem_of_getElem? (i := 1232) (by decide +kernel)) rfl
theorem wd_1233 : Cond.instanceMethod yX7_who ∈ GG := gg_in (List.mem_of_getElem? (i := 1233) (by decide +kernel)) rfl
theorem wd_1234 : Cond.selects RX7 yX7_who yX7_who ∈ GG := gg_in (List.mem_of_getElem? (i := 1234) (by decide +kernel)) rfl
theorem wd_1235 : Cond.code yX7_who cX7_who 8 (some .int) ∈ GG := gg_in (List.mem_of_getElem? (i := 1235) (by decide +kernel)) rfl
theorem wd_1236 : Cond.methodLink RX7 263 yX7_isMany ∈ GG := gg_in (List.mem_of_getElem? (i := 1236) (by decide +kernel)) rfl
theorem wd_1237 : Cond.static yX7_isMany ∈ GG := gg_in (List.mem_of_getElem? (i := 1237) (by decide +kernel)) rfl
theorem wd_1238 : Cond.code yX7_isMany cX7_isMany 2 (some .boolean) ∈ GG := gg_in (List.mem_of_getElem? (i := 1238) (by decide +kernel)) rfl
theorem wd_1239 : Cond.constantLong RX7 261 (12) ∈ GG := gg_in (List.mem_of_getElem? (i := 1239) (by decide +kernel)) rfl
theorem wd_1240 : Cond.methodLink RX7 266 yX7_rowFound ∈ GG := gg_in (List.mem_of_getElem? (i := 1240) (by decide +kernel)) rfl
theorem wd_1242 : Cond.instanceMethod yX7_rowFound ∈ GG := gg_in (List.mem_of_getElem? (i := 1242) (by decide +kernel)) rfl
theorem wd_1243 : Cond.code yX7_rowFound cX7_rowFound 4 (some .int) ∈ GG := gg_in (List.mem_of_getElem? (i := 1243) (by decide +kernel)) rfl
theorem wd_1244 : Cond.methodLink RX7 270 yX7_allSo ∈ GG := gg_in (List.mem_of_getElem? (i := 1244) (by decide +kernel)) rfl
theorem wd_1246 : Cond.instanceMethod yX7_allSo ∈ GG := gg_in (List.mem_of_getElem? (i := 1246) (by decide +kernel)) rfl
theorem wd_1247 : Cond.code yX7_allSo cX7_allSo 10 (some .int) ∈ GG := gg_in (List.mem_of_getElem? (i := 1247) (by decide +kernel)) rfl
theorem wd_1248 : Cond.methodLink RL 134 yX7_gusts ∈ GG := gg_in (List.mem_of_getElem? (i := 1248) (by decide +kernel)) rfl
theorem wd_1249 : Cond.instanceMethod yX7_gusts ∈ GG := gg_in (List.mem_of_getElem? (i := 1249) (by decide +kernel)) rfl
theorem wd_1250 : Cond.selects RX7 yX7_gusts yX7_gusts ∈ GG := gg_in (List.mem_of_getElem? (i := 1250) (by decide +kernel)) rfl
theorem wd_1251 : Cond.code yX7_gusts cX7_gusts 6 (some .int) ∈ GG := gg_in (List.mem_of_getElem? (i := 1251) (by decide +kernel)) rfl
theorem wd_1252 : Cond.methodLink RL 139 yX7_lift ∈ GG := gg_in (List.mem_of_getElem? (i := 1252) (by decide +kernel)) rfl
theorem wd_1253 : Cond.instanceMethod yX7_lift ∈ GG := gg_in (List.mem_of_getElem? (i := 1253) (by decide +kernel)) rfl
theorem wd_1254 : Cond.selects RX7 yX7_lift yX7_lift ∈ GG := gg_in (List.mem_of_getElem? (i := 1254) (by decide +kernel)) rfl
theorem wd_1255 : Cond.code yX7_lift cX7_lift 15 (some .long) ∈ GG := gg_in (List.mem_of_getElem? (i := 1255) (by decide +kernel)) rfl
theorem wd_1256 : Cond.constantLong RX7 273 (10) ∈ GG := gg_in (List.mem_of_getElem? (i := 1256) (by decide +kernel)) rfl
theorem wd_1257 : Cond.constantLong RX7 275 (-1000001) ∈ GG := gg_in (List.mem_of_getElem? (i := 1257) (by decide +kernel)) rfl
theorem wd_1258 : Cond.methodLink RL 143 yX7_drawn ∈ GG := gg_in (List.mem_of_getElem? (i := 1258) (by decide +kernel)) rfl
theorem wd_1259 : Cond.instanceMethod yX7_drawn ∈ GG := gg_in (List.mem_of_getElem? (i := 1259) (by decide +kernel)) rfl
theorem wd_1260 : Cond.selects RX7 yX7_drawn yX7_drawn ∈ GG := gg_in (List.mem_of_getElem? (i := 1260) (by decide +kernel)) rfl
theorem wd_1261 : Cond.code yX7_drawn cX7_drawn 9 (some .int) ∈ GG := gg_in (List.mem_of_getElem? (i := 1261) (by decide +kernel)) rfl
theorem wd_1262 : Cond.constantLong RX7 277 (999999) ∈ GG := gg_in (List.mem_of_getElem? (i := 1262) (by decide +kernel)) rfl
theorem wd_1263 : Cond.constantLong RX7 279 (16807) ∈ GG := gg_in (List.mem_of_getElem? (i := 1263) (by decide +kernel)) rfl
theorem wd_1264 : Cond.constantLong RX7 281 (2147483647) ∈ GG := gg_in (List.mem_of_getElem? (i := 1264) (by decide +kernel)) rfl
theorem wd_1265 : Cond.constantLong RX7 283 (3) ∈ GG := gg_in (List.mem_of_getElem? (i := 1265) (by decide +kernel)) rfl
theorem wd_1266 : Cond.constantLong RX7 285 (5) ∈ GG := gg_in (List.mem_of_getElem? (i := 1266) (by decide +kernel)) rfl
theorem wd_1267 : Cond.methodLink RL 147 yX7_image ∈ GG := gg_in (List.mem_of_getElem? (i := 1267) (by decide +kernel)) rfl
theorem wd_1268 : Cond.instanceMethod yX7_image ∈ GG := gg_in (List.mem_of_getElem? (i := 1268) (by decide +kernel)) rfl
theorem wd_1269 : Cond.selects RX7 yX7_image yX7_image ∈ GG := gg_in (List.mem_of_getElem? (i := 1269) (by decide +kernel)) rfl
theorem wd_1270 : Cond.code yX7_image cX7_image 3 (some .int) ∈ GG := gg_in (List.mem_of_getElem? (i := 1270) (by decide +kernel)) rfl
theorem wd_1271 : Cond.methodLink RL 151 yX7_restore ∈ GG := gg_in (List.mem_of_getElem? (i := 1271) (by decide +kernel)) rfl
theorem wd_1272 : Cond.instanceMethod yX7_restore ∈ GG := gg_in (List.mem_of_getElem? (i := 1272) (by decide +kernel)) rfl
theorem wd_1273 : Cond.selects RX7 yX7_restore yX7_restore ∈ GG := gg_in (List.mem_of_getElem? (i := 1273) (by decide +kernel)) rfl
theorem wd_1274 : Cond.code yX7_restore cX7_restore 3 (some .int) ∈ GG := gg_in (List.mem_of_getElem? (i := 1274) (by decide +kernel)) rfl
theorem wd_1275 : Cond.methodLink RL 155 yX7_kind ∈ GG := gg_in (List.mem_of_getElem? (i := 1275) (by decide +kernel)) rfl
theorem wd_1276 : Cond.instanceMethod yX7_kind ∈ GG := gg_in (List.mem_of_getElem? (i := 1276) (by decide +kernel)) rfl
theorem wd_1277 : Cond.selects RX7 yX7_kind yX7_kind ∈ GG := gg_in (List.mem_of_getElem? (i := 1277) (by decide +kernel)) rfl
theorem wd_1278 : Cond.code yX7_kind cX7_kind 2 (some .int) ∈ GG := gg_in (List.mem_of_getElem? (i := 1278) (by decide +kernel)) rfl
theorem wd_1279 : Cond.methodLink RL 159 yX7_as ∈ GG := gg_in (List.mem_of_getElem? (i := 1279) (by decide +kernel)) rfl
theorem wd_1280 : Cond.instanceMethod yX7_as ∈ GG := gg_in (List.mem_of_getElem? (i := 1280) (by decide +kernel)) rfl
theorem wd_1281 : Cond.selects RX7 yX7_as yX7_as ∈ GG := gg_in (List.mem_of_getElem? (i := 1281) (by decide +kernel)) rfl
theorem wd_1282 : Cond.code yX7_as cX7_as 3 (some .int) ∈ GG := gg_in (List.mem_of_getElem? (i := 1282) (by decide +kernel)) rfl
theorem wd_1283 : Cond.methodLink RX7 287 yX7_isOf ∈ GG := gg_in (List.mem_of_getElem? (i := 1283) (by decide +kernel)) rfl
theorem wd_1284 : Cond.static yX7_isOf ∈ GG := gg_in (List.mem_of_getElem? (i := 1284) (by decide +kernel)) rfl
theorem wd_1285 : Cond.code yX7_isOf cX7_isOf 2 (some .boolean) ∈ GG := gg_in (List.mem_of_getElem? (i := 1285) (by decide +kernel)) rfl
theorem wd_1286 : Cond.methodLink RL 163 yX7_ask ∈ GG := gg_in (List.mem_of_getElem? (i := 1286) (by decide +kernel)) rfl
theorem wd_1287 : Cond.instanceMethod yX7_ask ∈ GG := gg_in (List.mem_of_getElem? (i := 1287) (by decide +kernel)) rfl
theorem wd_1288 : Cond.selects RX7 yX7_ask yX7_ask ∈ GG := gg_in (List.mem_of_getElem? (i := 1288) (by decide +kernel)) rfl
theorem wd_1289 : Cond.code yX7_ask cX7_ask 3 (some .int) ∈ GG := gg_in (List.mem_of_getElem? (i := 1289) (by decide +kernel)) rfl
theorem wd_1290 : Cond.methodLink RX7 305 yX7_sizeOf ∈ GG := gg_in (List.mem_of_getElem? (i := 1290) (by decide +kernel)) rfl
theorem wd_1292 : Cond.instanceMethod yX7_sizeOf ∈ GG := gg_in (List.mem_of_getElem? (i := 1292) (by decide +kernel)) rfl
theorem wd_1293 : Cond.code yX7_sizeOf cX7_sizeOf 4 (some .int) ∈ GG := gg_in (List.mem_of_getElem? (i := 1293) (by decide +kernel)) rfl
theorem wd_1294 : Cond.methodLink RX7 299 yX7_haarSize ∈ GG := gg_in (List.mem_of_getElem? (i := 1294) (by decide +kernel)) rfl
theorem wd_1296 : Cond.instanceMethod yX7_haarSize ∈ GG := gg_in (List.mem_of_getElem? (i := 1296) (by decide +kernel)) rfl
theorem wd_1297 : Cond.code yX7_haarSize cX7_haarSize 4 (some .int) ∈ GG := gg_in (List.mem_of_getElem? (i := 1297) (by decide +kernel)) rfl
theorem wd_1298 : Cond.methodLink RX7 293 yX7_began ∈ GG := gg_in (List.mem_of_getElem? (i := 1298) (by decide +kernel)) rfl
theorem wd_1300 : Cond.instanceMethod yX7_began ∈ GG := gg_in (List.mem_of_getElem? (i := 1300) (by decide +kernel)) rfl
theorem wd_1301 : Cond.code yX7_began cX7_began 2 none ∈ GG := gg_in (List.mem_of_getElem? (i := 1301) (by decide +kernel)) rfl
theorem wd_1302 : Cond.methodLink RX7 296 yX7_plainSize ∈ GG := gg_in (List.mem_of_getElem? (i := 1302) (by decide +kernel)) rfl
theorem wd_1304 : Cond.instanceMethod yX7_plainSize ∈ GG := gg_in (List.mem_of_getElem? (i := 1304) (by decide +kernel)) rfl
theorem wd_1305 : Cond.code yX7_plainSize cX7_plainSize 2 (some .int) ∈ GG := gg_in (List.mem_of_getElem? (i := 1305) (by decide +kernel)) rfl
theorem wd_1306 : Cond.methodLink RX7 302 yX7_markOf ∈ GG := gg_in (List.mem_of_getElem? (i := 1306) (by decide +kernel)) rfl
theorem wd_1308 : Cond.instanceMethod yX7_markOf ∈ GG := gg_in (List.mem_of_getElem? (i := 1308) (by decide +kernel)) rfl
theorem wd_1309 : Cond.code yX7_markOf cX7_markOf 4 (some .int) ∈ GG := gg_in (List.mem_of_getElem? (i := 1309) (by decide +kernel)) rfl
theorem wd_1310 : Cond.methodLink RL 167 yX7_trace ∈ GG := gg_in (List.mem_of_getElem? (i := 1310) (by decide +kernel)) rfl
theorem wd_1311 : Cond.instanceMethod yX7_trace ∈ GG := gg_in (List.mem_of_getElem? (i := 1311) (by decide +kernel)) rfl
theorem wd_1312 : Cond.selects RX7 yX7_trace yX7_trace ∈ GG := gg_in (List.mem_of_getElem? (i := 1312) (by decide +kernel)) rfl
theorem wd_1313 : Cond.code yX7_trace cX7_trace 2 (some .int) ∈ GG := gg_in (List.mem_of_getElem? (i := 1313) (by decide +kernel)) rfl
theorem wd_1314 : Cond.methodLink RL 171 yX7_count ∈ GG := gg_in (List.mem_of_getElem? (i := 1314) (by decide +kernel)) rfl
theorem wd_1315 : Cond.instanceMethod yX7_count ∈ GG := gg_in (List.mem_of_getElem? (i := 1315) (by decide +kernel)) rfl
theorem wd_1316 : Cond.selects RX7 yX7_count yX7_count ∈ GG := gg_in (List.mem_of_getElem? (i := 1316) (by decide +kernel)) rfl
theorem wd_1317 : Cond.code yX7_count cX7_count 4 (some .int) ∈ GG := gg_in (List.mem_of_getElem? (i := 1317) (by decide +kernel)) rfl
theorem wd_1318 : Cond.methodLink RL 175 yX7_status ∈ GG := gg_in (List.mem_of_getElem? (i := 1318) (by decide +kernel)) rfl
theorem wd_1319 : Cond.instanceMethod yX7_status ∈ GG := gg_in (List.mem_of_getElem? (i := 1319) (by decide +kernel)) rfl
theorem wd_1320 : Cond.selects RX7 yX7_status yX7_status ∈ GG := gg_in (List.mem_of_getElem? (i := 1320) (by decide +kernel)) rfl
theorem wd_1321 : Cond.code yX7_status cX7_status 1 (some .int) ∈ GG := gg_in (List.mem_of_getElem? (i := 1321) (by decide +kernel)) rfl
theorem mi_L_101 : MV RL RX7 101 yX7_walk cX7_walk 12 (some .int) 2 := ⟨⟨wd_1187, wd_66, wd_1184, by decide +kernel, by decide +kernel, by decide +kernel⟩, wd_1185, wd_1186⟩
theorem mi_L_102 : MV RL RX6 102 yX6_meet cX6_meet 2 (some .int) 1 := ⟨⟨wd_677, wd_59, wd_674, by decide +kernel, by decide +kernel, by decide +kernel⟩, wd_675, wd_676⟩
theorem mi_L_105 : MV RL RX7 105 yX7_meet cX7_meet 4 (some .int) 1 := ⟨⟨wd_1192, wd_66, wd_1189, by decide +kernel, by decide +kernel, by decide +kernel⟩, wd_1190, wd_1191⟩
theorem mi_L_106 : MV RL RX6 106 yX6_site cX6_site 3 (some .int) 2 := ⟨⟨wd_686, wd_59, wd_683, by decide +kernel, by decide +kernel, by decide +kernel⟩, wd_684, wd_685⟩
theorem mi_L_109 : MV RL RX7 109 yX7_site cX7_site 7 (some .int) 2 := ⟨⟨wd_1196, wd_66, wd_1193, by decide +kernel, by decide +kernel, by decide +kernel⟩, wd_1194, wd_1195⟩
theorem mi_L_110 : MV RL RX6 110 yX6_waking cX6_waking 4 (some .int) 2 := ⟨⟨wd_703, wd_59, wd_700, by decide +kernel, by decide +kernel, by decide +kernel⟩, wd_701, wd_702⟩
theorem mi_L_113 : MV RL RX7 113 yX7_waking cX7_waking 6 (some .int) 2 := ⟨⟨wd_1201, wd_66, wd_1198, by decide +kernel, by decide +kernel, by decide +kernel⟩, wd_1199, wd_1200⟩
theorem mi_L_114 : MV RL RX6 114 yX6_meant cX6_meant 3 (some .int) 2 := ⟨⟨wd_716, wd_59, wd_713, by decide +kernel, by decide +kernel, by decide +kernel⟩, wd_714, wd_715⟩
theorem mi_L_117 : MV RL RX7 117 yX7_meant cX7_meant 9 (some .int) 2 := ⟨⟨wd_1209, wd_66, wd_1206, by decide +kernel, by decide +kernel, by decide +kernel⟩, wd_1207, wd_1208⟩
theorem mi_L_118 : MV RL RX6 118 yX6_share cX6_share 3 (some .int) 2 := ⟨⟨wd_728, wd_59, wd_725, by decide +kernel, by decide +kernel, by decide +kernel⟩, wd_726, wd_727⟩
theorem mi_L_121 : MV RL RX7 121 yX7_share cX7_share 7 (some .int) 2 := ⟨⟨wd_1214, wd_66, wd_1211, by decide +kernel, by decide +kernel, by decide +kernel⟩, wd_1212, wd_1213⟩
theorem mi_L_122 : MV RL RX6 122 yX6_byTurns cX6_byTurns 3 (some .int) 2 := ⟨⟨wd_737, wd_59, wd_734, by decide +kernel, by decide +kernel, by decide +kernel⟩, wd_735, wd_736⟩
theorem mi_L_125 : MV RL RX7 125 yX7_byTurns cX7_byTurns 12 (some .int) 2 := ⟨⟨wd_1223, wd_66, wd_1220, by decide +kernel, by decide +kernel, by decide +kernel⟩, wd_1221, wd_1222⟩
theorem mi_L_126 : MV RL RX6 126 yX6_who cX6_who 6 (some .int) 5 := ⟨⟨wd_755, wd_59, wd_752, by decide +kernel, by decide +kernel, by decide +kernel⟩, wd_753, wd_754⟩
theorem mi_L_129 : MV RL RX7 129 yX7_who cX7_who 8 (some .int) 5 := ⟨⟨wd_1235, wd_66, wd_1232, by decide +kernel, by decide +kernel, by decide +kernel⟩, wd_1233, wd_1234⟩
theorem mi_L_13 : MV RL RX6 13 yX6_row cX6_row 4 (some .int) 3 := ⟨⟨wd_328, wd_59, wd_325, by decide +kernel, by decide +kernel, by decide +kernel⟩, wd_326, wd_327⟩
theorem mi_L_130 : MV RL RX6 130 yX6_gusts cX6_gusts 5 (some .int) 4 := ⟨⟨wd_783, wd_59, wd_780, by decide +kernel, by decide +kernel, by decide +kernel⟩, wd_781, wd_782⟩
theorem mi_L_134 : MV RL RX7 134 yX7_gusts cX7_gusts 6 (some .int) 4 := ⟨⟨wd_1251, wd_66, wd_1248, by decide +kernel, by decide +kernel, by decide +kernel⟩, wd_1249, wd_1250⟩
theorem mi_L_135 : MV RL RX6 135 yX6_lift cX6_lift 7 (some .long) 4 := ⟨⟨wd_787, wd_59, wd_784, by decide +kernel, by decide +kernel, by decide +kernel⟩, wd_785, wd_786⟩
theorem mi_L_139 : MV RL RX7 139 yX7_lift cX7_lift 15 (some .long) 4 := ⟨⟨wd_1255, wd_66, wd_1252, by decide +kernel, by decide +kernel, by decide +kernel⟩, wd_1253, wd_1254⟩
theorem mi_L_140 : MV RL RX6 140 yX6_drawn cX6_drawn 4 (some .int) 3 := ⟨⟨wd_798, wd_59, wd_795, by decide +kernel, by decide +kernel, by decide +kernel⟩, wd_796, wd_797⟩
theorem mi_L_143 : MV RL RX7 143 yX7_drawn cX7_drawn 9 (some .int) 3 := ⟨⟨wd_1261, wd_66, wd_1258, by decide +kernel, by decide +kernel, by decide +kernel⟩, wd_1259, wd_1260⟩
theorem mi_L_144 : MV RL RX6 144 yX6_image cX6_image 2 (some .int) 1 := ⟨⟨wd_814, wd_59, wd_811, by decide +kernel, by decide +kernel, by decide +kernel⟩, wd_812, wd_813⟩
theorem mi_L_147 : MV RL RX7 147 yX7_image cX7_image 3 (some .int) 1 := ⟨⟨wd_1270, wd_66, wd_1267, by decide +kernel, by decide +kernel, by decide +kernel⟩, wd_1268, wd_1269⟩
theorem mi_L_148 : MV RL RX6 148 yX6_restore cX6_restore 2 (some .int) 1 := ⟨⟨wd_818, wd_59, wd_815, by decide +kernel, by decide +kernel, by decide +kernel⟩, wd_816, wd_817⟩
theorem mi_L_151 : MV RL RX7 151 yX7_restore cX7_restore 3 (some .int) 1 := ⟨⟨wd_1274, wd_66, wd_1271, by decide +kernel, by decide +kernel, by decide +kernel⟩, wd_1272, wd_1273⟩
theorem mi_L_152 : MV RL RX6 152 yX6_kind cX6_kind 2 (some .int) 1 := ⟨⟨wd_822, wd_59, wd_819, by decide +kernel, by decide +kernel, by decide +kernel⟩, wd_820, wd_821⟩
theorem mi_L_155 : MV RL RX7 155 yX7_kind cX7_kind 2 (some .int) 1 := ⟨⟨wd_1278, wd_66, wd_1275, by decide +kernel, by decide +kernel, by decide +kernel⟩, wd_1276, wd_1277⟩
theorem mi_L_156 : MV RL RX6 156 yX6_as cX6_as 3 (some .int) 2 := ⟨⟨wd_826, wd_59, wd_823, by decide +kernel, by decide +kernel, by decide +kernel⟩, wd_824, wd_825⟩
theorem mi_L_159 : MV RL RX7 159 yX7_as cX7_as 3 (some .int) 2 := ⟨⟨wd_1282, wd_66, wd_1279, by decide +kernel, by decide +kernel, by decide +kernel⟩, wd_1280, wd_1281⟩
theorem mi_L_160 : MV RL RX6 160 yX6_ask cX6_ask 3 (some .int) 2 := ⟨⟨wd_836, wd_59, wd_833, by decide +kernel, by decide +kernel, by decide +kernel⟩, wd_834, wd_835⟩
theorem mi_L_163 : MV RL RX7 163 yX7_ask cX7_ask 3 (some .int) 2 := ⟨⟨wd_1289, wd_66, wd_1286, by decide +kernel, by decide +kernel, by decide +kernel⟩, wd_1287, wd_1288⟩
theorem mi_L_164 : MV RL RX6 164 yX6_trace cX6_trace 2 (some .int) 1 := ⟨⟨wd_864, wd_59, wd_861, by decide +kernel, by decide +kernel, by decide +kernel⟩, wd_862, wd_863⟩
theorem mi_L_167 : MV RL RX7 167 yX7_trace cX7_trace 2 (some .int) 1 := ⟨⟨wd_1313, wd_66, wd_1310, by decide +kernel, by decide +kernel, by decide +kernel⟩, wd_1311, wd_1312⟩
theorem mi_L_168 : MV RL RX6 168 yX6_count cX6_count 2 (some .int) 1 := ⟨⟨wd_868, wd_59, wd_865, by decide +kernel, by decide +kernel, by decide +kernel⟩, wd_866, wd_867⟩
theorem mi_L_17 : MV RL RX7 17 yX7_row cX7_row 5 (some .int) 3 := ⟨⟨wd_960, wd_66, wd_957, by decide +kernel, by decide +kernel, by decide +kernel⟩, wd_958, wd_959⟩
theorem mi_L_171 : MV RL RX7 171 yX7_count cX7_count 4 (some .int) 1 := ⟨⟨wd_1317, wd_66, wd_1314, by decide +kernel, by decide +kernel, by decide +kernel⟩, wd_1315, wd_1316⟩
theorem mi_L_172 : MV RL RX6 172 yX6_status cX6_status 1 (some .int) 0 := ⟨⟨wd_876, wd_59, wd_873, by decide +kernel, by decide +kernel, by decide +kernel⟩, wd_874, wd_875⟩
theorem mi_L_175 : MV RL RX7 175 yX7_status cX7_status 1 (some .int) 0 := ⟨⟨wd_1321, wd_66, wd_1318, by decide +kernel, by decide +kernel, by decide +kernel⟩, wd_1319, wd_1320⟩
theorem mi_L_18 : MV RL RX6 18 yX6_set cX6_set 5 (some .int) 3 := ⟨⟨wd_355, wd_59, wd_352, by decide +kernel, by decide +kernel, by decide +kernel⟩, wd_353, wd_354⟩
theorem mi_L_21 : MV RL RX7 21 yX7_set cX7_set 4 (some .int) 3 := ⟨⟨wd_978, wd_66, wd_975, by decide +kernel, by decide +kernel, by decide +kernel⟩, wd_976, wd_977⟩
theorem mi_L_22 : MV RL RX6 22 yX6_copy cX6_copy 8 (some .int) 5 := ⟨⟨wd_371, wd_59, wd_368, by decide +kernel, by decide +kernel, by decide +kernel⟩, wd_369, wd_370⟩
theorem mi_L_26 : MV RL RX7 26 yX7_copy cX7_copy 9 (some .int) 5 := ⟨⟨wd_982, wd_66, wd_979, by decide +kernel, by decide +kernel, by decide +kernel⟩, wd_980, wd_981⟩
theorem mi_L_27 : MV RL RX6 27 yX6_drop cX6_drop 3 (some .int) 1 := ⟨⟨wd_378, wd_59, wd_375, by decide +kernel, by decide +kernel, by decide +kernel⟩, wd_376, wd_377⟩
theorem mi_L_31 : MV RL RX7 31 yX7_drop cX7_drop 2 (some .int) 1 := ⟨⟨wd_986, wd_66, wd_983, by decide +kernel, by decide +kernel, by decide +kernel⟩, wd_984, wd_985⟩
theorem mi_L_32 : MV RL RX6 32 yX6_feed cX6_feed 2 (some .int) 1 := ⟨⟨wd_382, wd_59, wd_379, by decide +kernel, by decide +kernel, by decide +kernel⟩, wd_380, wd_381⟩
theorem mi_L_35 : MV RL RX7 35 yX7_feed cX7_feed 2 (some .int) 1 := ⟨⟨wd_990, wd_66, wd_987, by decide +kernel, by decide +kernel, by decide +kernel⟩, wd_988, wd_989⟩
theorem mi_L_36 : MV RL RX6 36 yX6_estuary cX6_estuary 1 (some .int) 0 := ⟨⟨wd_391, wd_59, wd_388, by decide +kernel, by decide +kernel, by decide +kernel⟩, wd_389, wd_390⟩
theorem mi_L_40 : MV RL RX7 40 yX7_estuary cX7_estuary 2 (some .int) 0 := ⟨⟨wd_1000, wd_66, wd_997, by decide +kernel, by decide +kernel, by decide +kernel⟩, wd_998, wd_999⟩
theorem mi_L_41 : MV RL RX6 41 yX6_fault cX6_fault 1 (some .int) 0 := ⟨⟨wd_465, wd_59, wd_462, by decide +kernel, by decide +kernel, by decide +kernel⟩, wd_463, wd_464⟩
theorem mi_L_44 : MV RL RX7 44 yX7_fault cX7_fault 1 (some .int) 0 := ⟨⟨wd_996, wd_66, wd_993, by decide +kernel, by decide +kernel, by decide +kernel⟩, wd_994, wd_995⟩
theorem mi_L_45 : MV RL RX6 45 yX6_undo cX6_undo 1 (some .int) 0 := ⟨⟨wd_469, wd_59, wd_466, by decide +kernel, by decide +kernel, by decide +kernel⟩, wd_467, wd_468⟩
theorem mi_L_48 : MV RL RX7 48 yX7_undo cX7_undo 2 (some .int) 0 := ⟨⟨wd_1141, wd_66, wd_1138, by decide +kernel, by decide +kernel, by decide +kernel⟩, wd_1139, wd_1140⟩
theorem mi_L_49 : MV RL RX6 49 yX6_hours cX6_hours 3 (some .int) 1 := ⟨⟨wd_479, wd_59, wd_476, by decide +kernel, by decide +kernel, by decide +kernel⟩, wd_477, wd_478⟩
theorem mi_L_52 : MV RL RX7 52 yX7_hours cX7_hours 3 (some .int) 1 := ⟨⟨wd_1057, wd_66, wd_1054, by decide +kernel, by decide +kernel, by decide +kernel⟩, wd_1055, wd_1056⟩
theorem mi_L_53 : MV RL RX6 53 yX6_step cX6_step 3 (some .int) 1 := ⟨⟨wd_530, wd_59, wd_527, by decide +kernel, by decide +kernel, by decide +kernel⟩, wd_528, wd_529⟩
theorem mi_L_56 : MV RL RX7 56 yX7_step cX7_step 3 (some .int) 1 := ⟨⟨wd_1104, wd_66, wd_1101, by decide +kernel, by decide +kernel, by decide +kernel⟩, wd_1102, wd_1103⟩
theorem mi_L_57 : MV RL RX6 57 yX6_wind cX6_wind 4 (some .int) 2 := ⟨⟨wd_538, wd_59, wd_535, by decide +kernel, by decide +kernel, by decide +kernel⟩, wd_536, wd_537⟩
theorem mi_L_61 : MV RL RX7 61 yX7_wind cX7_wind 4 (some .int) 2 := ⟨⟨wd_1112, wd_66, wd_1109, by decide +kernel, by decide +kernel, by decide +kernel⟩, wd_1110, wd_1111⟩
theorem mi_L_62 : MV RL RX6 62 yX6_wake cX6_wake 3 (some .int) 1 := ⟨⟨wd_546, wd_59, wd_543, by decide +kernel, by decide +kernel, by decide +kernel⟩, wd_544, wd_545⟩
theorem mi_L_65 : MV RL RX7 65 yX7_wake cX7_wake 3 (some .int) 1 := ⟨⟨wd_1121, wd_66, wd_1118, by decide +kernel, by decide +kernel, by decide +kernel⟩, wd_1119, wd_1120⟩
theorem mi_L_66 : MV RL RX6 66 yX6_let cX6_let 4 (some .int) 3 := ⟨⟨wd_550, wd_59, wd_547, by decide +kernel, by decide +kernel, by decide +kernel⟩, wd_548, wd_549⟩
theorem mi_L_69 : MV RL RX7 69 yX7_let cX7_let 4 (some .int) 3 := ⟨⟨wd_1126, wd_66, wd_1123, by decide +kernel, by decide +kernel, by decide +kernel⟩, wd_1124, wd_1125⟩
theorem mi_L_70 : MV RL RX6 70 yX6_sheet cX6_sheet 3 (some .int) 2 := ⟨⟨wd_560, wd_59, wd_557, by decide +kernel, by decide +kernel, by decide +kernel⟩, wd_558, wd_559⟩
theorem mi_L_73 : MV RL RX7 73 yX7_sheet cX7_sheet 3 (some .int) 2 := ⟨⟨wd_1145, wd_66, wd_1142, by decide +kernel, by decide +kernel, by decide +kernel⟩, wd_1143, wd_1144⟩
theorem mi_L_74 : MV RL RX6 74 yX6_cell cX6_cell 3 (some .int) 2 := ⟨⟨wd_577, wd_59, wd_574, by decide +kernel, by decide +kernel, by decide +kernel⟩, wd_575, wd_576⟩
theorem mi_L_77 : MV RL RX7 77 yX7_cell cX7_cell 5 (some .int) 2 := ⟨⟨wd_1152, wd_66, wd_1149, by decide +kernel, by decide +kernel, by decide +kernel⟩, wd_1150, wd_1151⟩
theorem mi_L_78 : MV RL RX6 78 yX6_stand cX6_stand 2 (some .int) 1 := ⟨⟨wd_589, wd_59, wd_586, by decide +kernel, by decide +kernel, by decide +kernel⟩, wd_587, wd_588⟩
theorem mi_L_81 : MV RL RX7 81 yX7_stand cX7_stand 2 (some .int) 1 := ⟨⟨wd_1159, wd_66, wd_1156, by decide +kernel, by decide +kernel, by decide +kernel⟩, wd_1157, wd_1158⟩
theorem mi_L_82 : MV RL RX6 82 yX6_ahead cX6_ahead 5 (some .int) 3 := ⟨⟨wd_598, wd_59, wd_595, by decide +kernel, by decide +kernel, by decide +kernel⟩, wd_596, wd_597⟩
theorem mi_L_85 : MV RL RX7 85 yX7_ahead cX7_ahead 4 (some .int) 3 := ⟨⟨wd_1163, wd_66, wd_1160, by decide +kernel, by decide +kernel, by decide +kernel⟩, wd_1161, wd_1162⟩
theorem mi_L_86 : MV RL RX6 86 yX6_over cX6_over 3 (some .int) 2 := ⟨⟨wd_611, wd_59, wd_608, by decide +kernel, by decide +kernel, by decide +kernel⟩, wd_609, wd_610⟩
theorem mi_L_89 : MV RL RX7 89 yX7_over cX7_over 3 (some .int) 2 := ⟨⟨wd_1175, wd_66, wd_1172, by decide +kernel, by decide +kernel, by decide +kernel⟩, wd_1173, wd_1174⟩
theorem mi_L_90 : MV RL RX6 90 yX6_when cX6_when 3 (some .int) 2 := ⟨⟨wd_615, wd_59, wd_612, by decide +kernel, by decide +kernel, by decide +kernel⟩, wd_613, wd_614⟩
theorem mi_L_93 : MV RL RX7 93 yX7_when cX7_when 4 (some .int) 2 := ⟨⟨wd_1179, wd_66, wd_1176, by decide +kernel, by decide +kernel, by decide +kernel⟩, wd_1177, wd_1178⟩
theorem mi_L_94 : MV RL RX6 94 yX6_overlap cX6_overlap 2 (some .int) 1 := ⟨⟨wd_629, wd_59, wd_626, by decide +kernel, by decide +kernel, by decide +kernel⟩, wd_627, wd_628⟩
theorem mi_L_97 : MV RL RX7 97 yX7_overlap cX7_overlap 5 (some .int) 1 := ⟨⟨wd_1183, wd_66, wd_1180, by decide +kernel, by decide +kernel, by decide +kernel⟩, wd_1181, wd_1182⟩
theorem mi_L_98 : MV RL RX6 98 yX6_walk cX6_walk 3 (some .int) 2 := ⟨⟨wd_642, wd_59, wd_639, by decide +kernel, by decide +kernel, by decide +kernel⟩, wd_640, wd_641⟩
theorem mi_X0_22 : MV RX0 RX2 22 yX2_become cX2_become 2 none 1 := ⟨⟨wd_456, wd_61, wd_475, by decide +kernel, by decide +kernel, by decide +kernel⟩, wd_454, wd_455⟩
theorem mi_X1_17 : MV RX1 RX1 17 yX1_answer cX1_answer 5 (some .int) 4 := ⟨⟨wd_844, wd_64, wd_841, by decide +kernel, by decide +kernel, by decide +kernel⟩, wd_843, wd_26⟩
theorem mi_X1_26 : MS RX1 26 yX1_nearestBody cX1_nearestBody 3 (some .int) 2 := ⟨⟨wd_847, wd_64, wd_845, by decide +kernel, by decide +kernel, by decide +kernel⟩, wd_846⟩
theorem mi_X1_30 : MV RX1 RX1 30 yX1_begin cX1_begin 6 (some .int) 4 := ⟨⟨wd_856, wd_64, wd_853, by decide +kernel, by decide +kernel, by decide +kernel⟩, wd_855, wd_27⟩
theorem mi_X1_40 : MN yX6_widerKind cX6_widerKind 1 (some .int) 1 := ⟨wd_832, wd_59, wd_831, by decide +kernel, by decide +kernel, by decide +kernel⟩
theorem mi_X1_46 : MV RX1 RX1 46 yX1_leave cX1_leave 2 none 1 := ⟨⟨wd_860, wd_64, wd_857, by decide +kernel, by decide +kernel, by decide +kernel⟩, wd_859, wd_28⟩
theorem mi_X2_100 : MS RX2 100 yX2_cellsDrifted cX2_cellsDrifted 2 (some .int) 2 := ⟨⟨wd_509, wd_61, wd_507, by decide +kernel, by decide +kernel, by decide +kernel⟩, wd_508⟩
theorem mi_X2_104 : MV RX2 RX2 104 yX2_thickened cX2_thickened 4 (some .int) 2 := ⟨⟨wd_513, wd_61, wd_510, by decide +kernel, by decide +kernel, by decide +kernel⟩, wd_512, wd_12⟩
theorem mi_X2_113 : MV RX2 RX2 113 yX2_liesOn cX2_liesOn 3 (some .boolean) 2 := ⟨⟨wd_526, wd_61, wd_523, by decide +kernel, by decide +kernel, by decide +kernel⟩, wd_524, wd_525⟩
theorem mi_X2_118 : MV RX2 RX2 118 yX2_cellsUnder cX2_cellsUnder 4 (some .int) 1 := ⟨⟨wd_573, wd_61, wd_638, by decide +kernel, by decide +kernel, by decide +kernel⟩, wd_571, wd_572⟩
theorem mi_X2_122 : MV RX2 RX2 122 yX2_thicknessOfSet cX2_thicknessOfSet 4 (some .int) 1 := ⟨⟨wd_724, wd_61, wd_721, by decide +kernel, by decide +kernel, by decide +kernel⟩, wd_723, wd_19⟩
theorem mi_X2_125 : MV RX2 RX2 125 yX2_thicknessOf cX2_thicknessOf 2 (some .int) 1 := ⟨⟨wd_569, wd_61, wd_733, by decide +kernel, by decide +kernel, by decide +kernel⟩, wd_567, wd_568⟩
theorem mi_X2_68 : MS RX2 68 yJ7_fill_53178 cJ7_fill_53178 4 none 2 := ⟨⟨wd_347, wd_67, wd_400, by decide +kernel, by decide +kernel, by decide +kernel⟩, wd_346⟩
theorem mi_X2_74 : MV RX2 RX2 74 yX2_admit cX2_admit 4 none 3 := ⟨⟨wd_451, wd_61, wd_448, by decide +kernel, by decide +kernel, by decide +kernel⟩, wd_449, wd_450⟩
theorem mi_X2_78 : MV RX2 RX2 78 yX2_windOfHour cX2_windOfHour 1 (some .int) 0 := ⟨⟨wd_498, wd_61, wd_495, by decide +kernel, by decide +kernel, by decide +kernel⟩, wd_496, wd_497⟩
theorem mi_X2_82 : MV RX2 RX2 82 yX2_gust cX2_gust 1 (some .int) 0 := ⟨⟨wd_494, wd_61, wd_491, by decide +kernel, by decide +kernel, by decide +kernel⟩, wd_492, wd_493⟩
theorem mi_X2_85 : MV RX2 RX2 85 yX2_isIn cX2_isIn 2 (some .boolean) 1 := ⟨⟨wd_502, wd_61, wd_499, by decide +kernel, by decide +kernel, by decide +kernel⟩, wd_500, wd_501⟩
theorem mi_X2_89 : MV RX2 RX2 89 yX2_drift cX2_drift 5 none 2 := ⟨⟨wd_506, wd_61, wd_503, by decide +kernel, by decide +kernel, by decide +kernel⟩, wd_505, wd_11⟩
theorem mi_X2_93 : MV RX2 RX2 93 yX2_clerkIsAwake cX2_clerkIsAwake 1 (some .boolean) 0 := ⟨⟨wd_518, wd_61, wd_515, by decide +kernel, by decide +kernel, by decide +kernel⟩, wd_516, wd_517⟩
theorem mi_X2_97 : MV RX2 RX2 97 yX2_giveNumbers cX2_giveNumbers 2 none 0 := ⟨⟨wd_522, wd_61, wd_519, by decide +kernel, by decide +kernel, by decide +kernel⟩, wd_521, wd_13⟩
theorem mi_X3_102 : MV RX3 RX2 102 yX2_sheetsOn cX2_sheetsOn 4 (some .int) 1 := ⟨⟨wd_585, wd_61, wd_693, by decide +kernel, by decide +kernel, by decide +kernel⟩, wd_583, wd_584⟩
theorem mi_X3_105 : MS RX3 105 yJ6_bitCount_0f7a4 cJ6_bitCount_0f7a4 1 (some .int) 1 := ⟨⟨wd_696, wd_70, wd_694, by decide +kernel, by decide +kernel, by decide +kernel⟩, wd_695⟩
theorem mi_X3_116 : MV RX3 RX3 116 yX3_numberedBy cX3_numberedBy 5 (some .int) 2 := ⟨⟨wd_711, wd_63, wd_708, by decide +kernel, by decide +kernel, by decide +kernel⟩, wd_710, wd_18⟩
theorem mi_X3_119 : MV RX3 RX3 119 yX3_behind cX3_behind 4 (some (.object "FogSheets$Estuary")) 2 := ⟨⟨wd_605, wd_63, wd_742, by decide +kernel, by decide +kernel, by decide +kernel⟩, wd_603, wd_604⟩
theorem mi_X3_123 : MV RX3 RX2 123 yX2_windOfHour cX2_windOfHour 1 (some .int) 0 := ⟨⟨wd_498, wd_61, wd_743, by decide +kernel, by decide +kernel, by decide +kernel⟩, wd_496, wd_497⟩
theorem mi_X3_129 : MV RX3 RX3 129 yX3_walkersTurn cX3_walkersTurn 5 (some .int) 3 := ⟨⟨wd_747, wd_63, wd_744, by decide +kernel, by decide +kernel, by decide +kernel⟩, wd_746, wd_20⟩
theorem mi_X3_133 : MV RX3 RX3 133 yX3_courtsTurn cX3_courtsTurn 4 (some .int) 3 := ⟨⟨wd_751, wd_63, wd_748, by decide +kernel, by decide +kernel, by decide +kernel⟩, wd_750, wd_21⟩
theorem mi_X3_150 : MS RX3 150 yX3_mostOf cX3_mostOf 2 (some .int) 2 := ⟨⟨wd_771, wd_63, wd_769, by decide +kernel, by decide +kernel, by decide +kernel⟩, wd_770⟩
theorem mi_X3_154 : MV RX3 RX3 154 yX3_suppose cX3_suppose 4 none 3 := ⟨⟨wd_775, wd_63, wd_772, by decide +kernel, by decide +kernel, by decide +kernel⟩, wd_774, wd_23⟩
theorem mi_X3_158 : MV RX3 RX3 158 yX3_isAsTold cX3_isAsTold 2 (some .boolean) 0 := ⟨⟨wd_779, wd_63, wd_776, by decide +kernel, by decide +kernel, by decide +kernel⟩, wd_778, wd_24⟩
theorem mi_X3_174 : MV RX3 RX3 174 yX3_drawOne cX3_drawOne 3 none 1 := ⟨⟨wd_809, wd_63, wd_806, by decide +kernel, by decide +kernel, by decide +kernel⟩, wd_808, wd_25⟩
theorem mi_X3_187 : MV RX3 RX2 187 yX2_admit cX2_admit 4 none 3 := ⟨⟨wd_451, wd_61, wd_810, by decide +kernel, by decide +kernel, by decide +kernel⟩, wd_449, wd_450⟩
theorem mi_X3_33 : MV RX3 RX2 33 yX2_become cX2_become 2 none 1 := ⟨⟨wd_456, wd_61, wd_606, by decide +kernel, by decide +kernel, by decide +kernel⟩, wd_454, wd_455⟩
theorem mi_X3_37 : MV RX3 RX2 37 yX2_passHour cX2_passHour 3 none 0 := ⟨⟨wd_490, wd_61, wd_607, by decide +kernel, by decide +kernel, by decide +kernel⟩, wd_488, wd_489⟩
theorem mi_X3_40 : MV RX3 RX2 40 yX2_isIn cX2_isIn 2 (some .boolean) 1 := ⟨⟨wd_502, wd_61, wd_620, by decide +kernel, by decide +kernel, by decide +kernel⟩, wd_500, wd_501⟩
theorem mi_X3_48 : MV RX3 RX2 48 yX2_overlappingPair cX2_overlappingPair 4 (some .int) 0 := ⟨⟨wd_637, wd_61, wd_634, by decide +kernel, by decide +kernel, by decide +kernel⟩, wd_635, wd_636⟩
theorem mi_X3_52 : MV RX3 RX3 52 yX3_weighWalks cX3_weighWalks 5 none 2 := ⟨⟨wd_651, wd_63, wd_648, by decide +kernel, by decide +kernel, by decide +kernel⟩, wd_650, wd_14⟩
theorem mi_X3_60 : MV RX3 RX3 60 yX3_bestNext cX3_bestNext 6 (some .int) 2 := ⟨⟨wd_661, wd_63, wd_658, by decide +kernel, by decide +kernel, by decide +kernel⟩, wd_660, wd_16⟩
theorem mi_X3_64 : MV RX3 RX3 64 yX3_noteOver cX3_noteOver 3 none 1 := ⟨⟨wd_655, wd_63, wd_652, by decide +kernel, by decide +kernel, by decide +kernel⟩, wd_654, wd_15⟩
theorem mi_X3_68 : MS RX3 68 yJ7_fill_53178 cJ7_fill_53178 4 none 2 := ⟨⟨wd_347, wd_67, wd_657, by decide +kernel, by decide +kernel, by decide +kernel⟩, wd_346⟩
theorem mi_X3_77 : MV RX3 RX3 77 yX3_weightOf cX3_weightOf 3 (some .int) 2 := ⟨⟨wd_669, wd_63, wd_666, by decide +kernel, by decide +kernel, by decide +kernel⟩, wd_668, wd_17⟩
theorem mi_X3_80 : MV RX3 RX2 80 yX2_thicknessOver cX2_thicknessOver 4 (some .int) 1 := ⟨⟨wd_581, wd_61, wd_656, by decide +kernel, by decide +kernel, by decide +kernel⟩, wd_579, wd_580⟩
theorem mi_X3_92 : MV RX3 RX2 92 yX2_cellsUnder cX2_cellsUnder 4 (some .int) 1 := ⟨⟨wd_573, wd_61, wd_682, by decide +kernel, by decide +kernel, by decide +kernel⟩, wd_571, wd_572⟩
theorem mi_X3_95 : MV RX3 RX2 95 yX2_withNumber cX2_withNumber 3 (some .int) 0 := ⟨⟨wd_593, wd_61, wd_691, by decide +kernel, by decide +kernel, by decide +kernel⟩, wd_591, wd_592⟩
theorem mi_X3_98 : MV RX3 RX2 98 yX2_clerkIsAwake cX2_clerkIsAwake 1 (some .boolean) 0 := ⟨⟨wd_518, wd_61, wd_692, by decide +kernel, by decide +kernel, by decide +kernel⟩, wd_516, wd_517⟩
theorem mi_X4_104 : MS RX4 104 yX4_isFigure cX4_isFigure 1 (some .boolean) 1 := ⟨⟨wd_407, wd_60, wd_405, by decide +kernel, by decide +kernel, by decide +kernel⟩, wd_406⟩
theorem mi_X4_108 : MV RX4 RX4 108 yX4_readFigures cX4_readFigures 2 none 0 := ⟨⟨wd_412, wd_60, wd_409, by decide +kernel, by decide +kernel, by decide +kernel⟩, wd_411, wd_4⟩
theorem mi_X4_32 : MV RX4 RX2 32 yX2_clear cX2_clear 1 none 0 := ⟨⟨wd_399, wd_61, wd_396, by decide +kernel, by decide +kernel, by decide +kernel⟩, wd_397, wd_398⟩
theorem mi_X4_35 : MV RX4 RX4 35 yX4_nextToken cX4_nextToken 2 none 0 := ⟨⟨wd_404, wd_60, wd_401, by decide +kernel, by decide +kernel, by decide +kernel⟩, wd_403, wd_3⟩
theorem mi_X4_38 : MV RX4 RX4 38 yX4_readLaw cX4_readLaw 1 none 0 := ⟨⟨wd_416, wd_60, wd_413, by decide +kernel, by decide +kernel, by decide +kernel⟩, wd_415, wd_5⟩
theorem mi_X4_41 : MV RX4 RX4 41 yX4_readWind cX4_readWind 1 none 0 := ⟨⟨wd_432, wd_60, wd_429, by decide +kernel, by decide +kernel, by decide +kernel⟩, wd_431, wd_9⟩
theorem mi_X4_47 : MV RX4 RX4 47 yX4_readSheet cX4_readSheet 5 none 0 := ⟨⟨wd_440, wd_60, wd_437, by decide +kernel, by decide +kernel, by decide +kernel⟩, wd_439, wd_10⟩
theorem mi_X4_54 : MV RX4 RX4 54 yX4_take cX4_take 2 none 1 := ⟨⟨wd_420, wd_60, wd_417, by decide +kernel, by decide +kernel, by decide +kernel⟩, wd_419, wd_6⟩
theorem mi_X4_58 : MV RX4 RX4 58 yX4_takeNumber cX4_takeNumber 4 (some .int) 2 := ⟨⟨wd_428, wd_60, wd_425, by decide +kernel, by decide +kernel, by decide +kernel⟩, wd_427, wd_8⟩
theorem mi_X4_77 : MV RX4 RX4 77 yX4_fail cX4_fail 2 none 1 := ⟨⟨wd_424, wd_60, wd_421, by decide +kernel, by decide +kernel, by decide +kernel⟩, wd_423, wd_7⟩
theorem mi_X4_80 : MV RX4 RX2 80 yX2_addWind cX2_addWind 2 none 1 := ⟨⟨wd_436, wd_61, wd_433, by decide +kernel, by decide +kernel, by decide +kernel⟩, wd_434, wd_435⟩
theorem mi_X4_83 : MS RX4 83 yX4_kindOfSort cX4_kindOfSort 1 (some .int) 1 := ⟨⟨wd_443, wd_60, wd_441, by decide +kernel, by decide +kernel, by decide +kernel⟩, wd_442⟩
theorem mi_X4_90 : MV RX4 RX2 90 yX2_addSheet cX2_addSheet 5 none 4 := ⟨⟨wd_447, wd_61, wd_444, by decide +kernel, by decide +kernel, by decide +kernel⟩, wd_445, wd_446⟩
theorem mi_X4_97 : MN yX6_isWithin cX6_isWithin 3 (some .boolean) 3 := ⟨wd_334, wd_59, wd_333, by decide +kernel, by decide +kernel, by decide +kernel⟩
theorem mi_X5_26 : MS RX5 26 yJ7_fill_53178 cJ7_fill_53178 4 none 2 := ⟨⟨wd_347, wd_67, wd_345, by decide +kernel, by decide +kernel, by decide +kernel⟩, wd_346⟩
theorem mi_X5_32 : MV RX5 RX5 32 yX5_lowestBits cX5_lowestBits 2 (some .int) 1 := ⟨⟨wd_367, wd_65, wd_364, by decide +kernel, by decide +kernel, by decide +kernel⟩, wd_366, wd_2⟩
theorem mi_X6_108 : MV RX6 RX4 108 yX4_append cX4_append 2 none 1 := ⟨⟨wd_387, wd_60, wd_384, by decide +kernel, by decide +kernel, by decide +kernel⟩, wd_385, wd_386⟩
theorem mi_X6_112 : MV RX6 RX4 112 yX4_read cX4_read 2 none 0 := ⟨⟨wd_395, wd_60, wd_392, by decide +kernel, by decide +kernel, by decide +kernel⟩, wd_393, wd_394⟩
theorem mi_X6_128 : MV RX6 RX2 128 yX2_become cX2_become 2 none 1 := ⟨⟨wd_456, wd_61, wd_453, by decide +kernel, by decide +kernel, by decide +kernel⟩, wd_454, wd_455⟩
theorem mi_X6_132 : MV RX6 RX0 132 yX0_forget cX0_forget 1 none 0 := ⟨⟨wd_461, wd_62, wd_458, by decide +kernel, by decide +kernel, by decide +kernel⟩, wd_459, wd_460⟩
theorem mi_X6_142 : MV RX6 RX0 142 yX0_takeBack cX0_takeBack 2 none 1 := ⟨⟨wd_474, wd_62, wd_471, by decide +kernel, by decide +kernel, by decide +kernel⟩, wd_472, wd_473⟩
theorem mi_X6_151 : MV RX6 RX0 151 yX0_keep cX0_keep 2 none 1 := ⟨⟨wd_483, wd_62, wd_480, by decide +kernel, by decide +kernel, by decide +kernel⟩, wd_481, wd_482⟩
theorem mi_X6_154 : MV RX6 RX2 154 yX2_passHour cX2_passHour 3 none 0 := ⟨⟨wd_490, wd_61, wd_487, by decide +kernel, by decide +kernel, by decide +kernel⟩, wd_488, wd_489⟩
theorem mi_X6_163 : MV RX6 RX2 163 yX2_isCell cX2_isCell 2 (some .boolean) 1 := ⟨⟨wd_534, wd_61, wd_531, by decide +kernel, by decide +kernel, by decide +kernel⟩, wd_532, wd_533⟩
theorem mi_X6_166 : MV RX6 RX2 166 yX2_isWind cX2_isWind 2 (some .boolean) 1 := ⟨⟨wd_542, wd_61, wd_539, by decide +kernel, by decide +kernel, by decide +kernel⟩, wd_540, wd_541⟩
theorem mi_X6_175 : MV RX6 RX2 175 yX2_isSheet cX2_isSheet 2 (some .boolean) 1 := ⟨⟨wd_554, wd_61, wd_551, by decide +kernel, by decide +kernel, by decide +kernel⟩, wd_552, wd_553⟩
theorem mi_X6_178 : MV RX6 RX2 178 yX2_isIn cX2_isIn 2 (some .boolean) 1 := ⟨⟨wd_502, wd_61, wd_555, by decide +kernel, by decide +kernel, by decide +kernel⟩, wd_500, wd_501⟩
theorem mi_X6_181 : MV RX6 RX2 181 yX2_admit cX2_admit 4 none 3 := ⟨⟨wd_451, wd_61, wd_556, by decide +kernel, by decide +kernel, by decide +kernel⟩, wd_449, wd_450⟩
theorem mi_X6_188 : MV RX6 RX2 188 yX2_placeOf cX2_placeOf 2 (some .int) 1 := ⟨⟨wd_564, wd_61, wd_561, by decide +kernel, by decide +kernel, by decide +kernel⟩, wd_562, wd_563⟩
theorem mi_X6_194 : MV RX6 RX2 194 yX2_thicknessOf cX2_thicknessOf 2 (some .int) 1 := ⟨⟨wd_569, wd_61, wd_566, by decide +kernel, by decide +kernel, by decide +kernel⟩, wd_567, wd_568⟩
theorem mi_X6_200 : MV RX6 RX2 200 yX2_cellsUnder cX2_cellsUnder 4 (some .int) 1 := ⟨⟨wd_573, wd_61, wd_570, by decide +kernel, by decide +kernel, by decide +kernel⟩, wd_571, wd_572⟩
theorem mi_X6_203 : MV RX6 RX2 203 yX2_thicknessOver cX2_thicknessOver 4 (some .int) 1 := ⟨⟨wd_581, wd_61, wd_578, by decide +kernel, by decide +kernel, by decide +kernel⟩, wd_579, wd_580⟩
theorem mi_X6_206 : MV RX6 RX2 206 yX2_sheetsOn cX2_sheetsOn 4 (some .int) 1 := ⟨⟨wd_585, wd_61, wd_582, by decide +kernel, by decide +kernel, by decide +kernel⟩, wd_583, wd_584⟩
theorem mi_X6_215 : MV RX6 RX2 215 yX2_withNumber cX2_withNumber 3 (some .int) 0 := ⟨⟨wd_593, wd_61, wd_590, by decide +kernel, by decide +kernel, by decide +kernel⟩, wd_591, wd_592⟩
theorem mi_X6_219 : MV RX6 RX2 219 yX2_gust cX2_gust 1 (some .int) 0 := ⟨⟨wd_494, wd_61, wd_594, by decide +kernel, by decide +kernel, by decide +kernel⟩, wd_492, wd_493⟩
theorem mi_X6_222 : MS RX6 222 yX6_isFar cX6_isFar 1 (some .boolean) 1 := ⟨⟨wd_601, wd_59, wd_599, by decide +kernel, by decide +kernel, by decide +kernel⟩, wd_600⟩
theorem mi_X6_225 : MV RX6 RX3 225 yX3_behind cX3_behind 4 (some (.object "FogSheets$Estuary")) 2 := ⟨⟨wd_605, wd_63, wd_602, by decide +kernel, by decide +kernel, by decide +kernel⟩, wd_603, wd_604⟩
theorem mi_X6_229 : MV RX6 RX3 229 yX3_firstGone cX3_firstGone 4 (some .int) 2 := ⟨⟨wd_619, wd_63, wd_616, by decide +kernel, by decide +kernel, by decide +kernel⟩, wd_617, wd_618⟩
theorem mi_X6_233 : MV RX6 RX3 233 yX3_firstNumbered cX3_firstNumbered 4 (some .int) 2 := ⟨⟨wd_625, wd_63, wd_622, by decide +kernel, by decide +kernel, by decide +kernel⟩, wd_623, wd_624⟩
theorem mi_X6_236 : MV RX6 RX3 236 yX3_firstOverlap cX3_firstOverlap 5 (some .int) 2 := ⟨⟨wd_633, wd_63, wd_630, by decide +kernel, by decide +kernel, by decide +kernel⟩, wd_631, wd_632⟩
theorem mi_X6_240 : MV RX6 RX3 240 yX3_leastSeen cX3_leastSeen 3 (some .int) 2 := ⟨⟨wd_647, wd_63, wd_644, by decide +kernel, by decide +kernel, by decide +kernel⟩, wd_645, wd_646⟩
theorem mi_X6_243 : MV RX6 RX3 243 yX3_leastSeenCell cX3_leastSeenCell 6 (some .int) 3 := ⟨⟨wd_673, wd_63, wd_670, by decide +kernel, by decide +kernel, by decide +kernel⟩, wd_671, wd_672⟩
theorem mi_X6_247 : MV RX6 RX3 247 yX3_firstMeeting cX3_firstMeeting 5 (some .int) 2 := ⟨⟨wd_681, wd_63, wd_678, by decide +kernel, by decide +kernel, by decide +kernel⟩, wd_679, wd_680⟩
theorem mi_X6_250 : MV RX6 RX3 250 yX3_bestStand cX3_bestStand 7 (some .int) 3 := ⟨⟨wd_690, wd_63, wd_687, by decide +kernel, by decide +kernel, by decide +kernel⟩, wd_688, wd_689⟩
theorem mi_X6_253 : MV RX6 RX3 253 yX3_leastAwake cX3_leastAwake 7 (some .int) 2 := ⟨⟨wd_707, wd_63, wd_704, by decide +kernel, by decide +kernel, by decide +kernel⟩, wd_705, wd_706⟩
theorem mi_X6_256 : MS RX6 256 yJ6_bitCount_0f7a4 cJ6_bitCount_0f7a4 1 (some .int) 1 := ⟨⟨wd_696, wd_70, wd_712, by decide +kernel, by decide +kernel, by decide +kernel⟩, wd_695⟩
theorem mi_X6_261 : MV RX6 RX2 261 yX2_setsAsThick cX2_setsAsThick 7 (some .int) 2 := ⟨⟨wd_720, wd_61, wd_717, by decide +kernel, by decide +kernel, by decide +kernel⟩, wd_718, wd_719⟩
theorem mi_X6_264 : MV RX6 RX2 264 yX2_pailsOf cX2_pailsOf 7 (some .int) 2 := ⟨⟨wd_732, wd_61, wd_729, by decide +kernel, by decide +kernel, by decide +kernel⟩, wd_730, wd_731⟩
theorem mi_X6_267 : MV RX6 RX3 267 yX3_outcomeOfTurns cX3_outcomeOfTurns 6 (some .int) 3 := ⟨⟨wd_741, wd_63, wd_738, by decide +kernel, by decide +kernel, by decide +kernel⟩, wd_739, wd_740⟩
theorem mi_X6_270 : MV RX6 RX6 270 yX6_allThatFits cX6_allThatFits 7 (some .int) 5 := ⟨⟨wd_759, wd_59, wd_756, by decide +kernel, by decide +kernel, by decide +kernel⟩, wd_758, wd_22⟩
theorem mi_X6_276 : MS RX6 276 yX6_commonDivisor cX6_commonDivisor 4 (some .int) 2 := ⟨⟨wd_791, wd_59, wd_789, by decide +kernel, by decide +kernel, by decide +kernel⟩, wd_790⟩
theorem mi_X6_279 : MS RX6 279 yX6_power cX6_power 5 (some .long) 2 := ⟨⟨wd_794, wd_59, wd_792, by decide +kernel, by decide +kernel, by decide +kernel⟩, wd_793⟩
theorem mi_X6_284 : MV RX6 RX3 284 yX3_drawYears cX3_drawYears 9 (some .int) 4 := ⟨⟨wd_803, wd_63, wd_800, by decide +kernel, by decide +kernel, by decide +kernel⟩, wd_801, wd_802⟩
theorem mi_X6_291 : MS RX6 291 yX6_isA cX6_isA 2 (some .boolean) 2 := ⟨⟨wd_829, wd_59, wd_827, by decide +kernel, by decide +kernel, by decide +kernel⟩, wd_828⟩
theorem mi_X6_294 : MV RX6 RX1 294 yX1_askOf cX1_askOf 4 (some .int) 3 := ⟨⟨wd_840, wd_64, wd_837, by decide +kernel, by decide +kernel, by decide +kernel⟩, wd_838, wd_839⟩
theorem mi_X6_303 : MV RX6 RX6 303 yX6_rowsThere cX6_rowsThere 3 (some .int) 0 := ⟨⟨wd_872, wd_59, wd_869, by decide +kernel, by decide +kernel, by decide +kernel⟩, wd_871, wd_29⟩
theorem mi_X6_313 : MV RX6 RX3 313 yX3_hear cX3_hear 4 none 3 := ⟨⟨wd_763, wd_63, wd_760, by decide +kernel, by decide +kernel, by decide +kernel⟩, wd_761, wd_762⟩
theorem mi_X6_317 : MV RX6 RX3 317 yX3_fitting cX3_fitting 8 (some .int) 3 := ⟨⟨wd_768, wd_63, wd_765, by decide +kernel, by decide +kernel, by decide +kernel⟩, wd_766, wd_767⟩
theorem mi_X6_320 : MS RX6 320 yX6_widerKind cX6_widerKind 1 (some .int) 1 := ⟨⟨wd_832, wd_59, wd_830, by decide +kernel, by decide +kernel, by decide +kernel⟩, wd_831⟩
theorem mi_X6_55 : MS RX6 55 yX6_isRow cX6_isRow 1 (some .boolean) 1 := ⟨⟨wd_331, wd_59, wd_329, by decide +kernel, by decide +kernel, by decide +kernel⟩, wd_330⟩
theorem mi_X6_59 : MS RX6 59 yX6_isWithin cX6_isWithin 3 (some .boolean) 3 := ⟨⟨wd_334, wd_59, wd_332, by decide +kernel, by decide +kernel, by decide +kernel⟩, wd_333⟩
theorem mi_X6_64 : MV RX6 RX6 64 yX6_found cX6_found 2 (some .int) 1 := ⟨⟨wd_339, wd_59, wd_336, by decide +kernel, by decide +kernel, by decide +kernel⟩, wd_338, wd_0⟩
theorem mi_X6_68 : MV RX6 RX5 68 yX5_make cX5_make 3 none 2 := ⟨⟨wd_344, wd_65, wd_341, by decide +kernel, by decide +kernel, by decide +kernel⟩, wd_342, wd_343⟩
theorem mi_X6_72 : MV RX6 RX6 72 yX6_well cX6_well 2 (some .int) 1 := ⟨⟨wd_351, wd_59, wd_348, by decide +kernel, by decide +kernel, by decide +kernel⟩, wd_350, wd_1⟩
theorem mi_X6_79 : MV RX6 RX5 79 yX5_holds cX5_holds 3 (some .boolean) 2 := ⟨⟨wd_359, wd_65, wd_356, by decide +kernel, by decide +kernel, by decide +kernel⟩, wd_357, wd_358⟩
theorem mi_X6_83 : MV RX6 RX5 83 yX5_put cX5_put 3 (some .int) 2 := ⟨⟨wd_363, wd_65, wd_360, by decide +kernel, by decide +kernel, by decide +kernel⟩, wd_361, wd_362⟩
theorem mi_X7_105 : MV RX7 RX7 105 yX7_bad cX7_bad 2 none 1 := ⟨⟨wd_1025, wd_66, wd_1022, by decide +kernel, by decide +kernel, by decide +kernel⟩, wd_1024, wd_35⟩
theorem mi_X7_109 : MV RX7 RX7 109 yX7_nextToken cX7_nextToken 1 none 0 := ⟨⟨wd_1008, wd_66, wd_1005, by decide +kernel, by decide +kernel, by decide +kernel⟩, wd_1007, wd_32⟩
theorem mi_X7_112 : MV RX7 RX7 112 yX7_must cX7_must 2 none 1 := ⟨⟨wd_1021, wd_66, wd_1018, by decide +kernel, by decide +kernel, by decide +kernel⟩, wd_1020, wd_34⟩
theorem mi_X7_119 : MS RX7 119 yX7_kindBy cX7_kindBy 1 (some .int) 1 := ⟨⟨wd_1044, wd_66, wd_1042, by decide +kernel, by decide +kernel, by decide +kernel⟩, wd_1043⟩
theorem mi_X7_122 : MV RX7 RX7 122 yX7_isLetter cX7_isLetter 2 (some .boolean) 1 := ⟨⟨wd_1017, wd_66, wd_1014, by decide +kernel, by decide +kernel, by decide +kernel⟩, wd_1016, wd_33⟩
theorem mi_X7_125 : MV RX7 RX7 125 yX7_number cX7_number 4 (some .int) 2 := ⟨⟨wd_1029, wd_66, wd_1026, by decide +kernel, by decide +kernel, by decide +kernel⟩, wd_1028, wd_36⟩
theorem mi_X7_129 : MV RX7 RX7 129 yX7_mustSign cX7_mustSign 2 none 1 := ⟨⟨wd_1033, wd_66, wd_1030, by decide +kernel, by decide +kernel, by decide +kernel⟩, wd_1032, wd_37⟩
theorem mi_X7_132 : MV RX7 RX7 132 yX7_begin cX7_begin 1 none 0 := ⟨⟨wd_1004, wd_66, wd_1001, by decide +kernel, by decide +kernel, by decide +kernel⟩, wd_1003, wd_31⟩
theorem mi_X7_135 : MV RX7 RX7 135 yX7_readWind cX7_readWind 2 none 0 := ⟨⟨wd_1037, wd_66, wd_1034, by decide +kernel, by decide +kernel, by decide +kernel⟩, wd_1036, wd_38⟩
theorem mi_X7_138 : MV RX7 RX7 138 yX7_isSort cX7_isSort 1 (some .boolean) 0 := ⟨⟨wd_1041, wd_66, wd_1038, by decide +kernel, by decide +kernel, by decide +kernel⟩, wd_1040, wd_39⟩
theorem mi_X7_142 : MV RX7 RX7 142 yX7_readSheet cX7_readSheet 6 none 0 := ⟨⟨wd_1048, wd_66, wd_1045, by decide +kernel, by decide +kernel, by decide +kernel⟩, wd_1047, wd_40⟩
theorem mi_X7_145 : MV RX7 RX7 145 yX7_failed cX7_failed 1 (some .boolean) 0 := ⟨⟨wd_1052, wd_66, wd_1049, by decide +kernel, by decide +kernel, by decide +kernel⟩, wd_1051, wd_41⟩
theorem mi_X7_152 : MS RX7 152 yX7_of cX7_of 3 (some .int) 3 := ⟨⟨wd_1079, wd_66, wd_1077, by decide +kernel, by decide +kernel, by decide +kernel⟩, wd_1078⟩
theorem mi_X7_156 : MS RX7 156 yX7_isIn cX7_isIn 2 (some .boolean) 2 := ⟨⟨wd_1076, wd_66, wd_1074, by decide +kernel, by decide +kernel, by decide +kernel⟩, wd_1075⟩
theorem mi_X7_160 : MS RX7 160 yX7_cellsOf cX7_cellsOf 5 (some .int) 3 := ⟨⟨wd_1085, wd_66, wd_1083, by decide +kernel, by decide +kernel, by decide +kernel⟩, wd_1084⟩
theorem mi_X7_163 : MS RX7 163 yX7_be cX7_be 4 none 4 := ⟨⟨wd_1088, wd_66, wd_1086, by decide +kernel, by decide +kernel, by decide +kernel⟩, wd_1087⟩
theorem mi_X7_167 : MS RX7 167 yX7_windOf cX7_windOf 1 (some .int) 1 := ⟨⟨wd_1073, wd_66, wd_1071, by decide +kernel, by decide +kernel, by decide +kernel⟩, wd_1072⟩
theorem mi_X7_171 : MS RX7 171 yX7_drift cX7_drift 7 none 3 := ⟨⟨wd_1082, wd_66, wd_1080, by decide +kernel, by decide +kernel, by decide +kernel⟩, wd_1081⟩
theorem mi_X7_175 : MS RX7 175 yX7_has cX7_has 2 (some .boolean) 2 := ⟨⟨wd_1091, wd_66, wd_1089, by decide +kernel, by decide +kernel, by decide +kernel⟩, wd_1090⟩
theorem mi_X7_179 : MS RX7 179 yX7_liesOn cX7_liesOn 2 (some .int) 2 := ⟨⟨wd_1094, wd_66, wd_1092, by decide +kernel, by decide +kernel, by decide +kernel⟩, wd_1093⟩
theorem mi_X7_183 : MS RX7 183 yX7_hourOf cX7_hourOf 3 none 1 := ⟨⟨wd_1070, wd_66, wd_1068, by decide +kernel, by decide +kernel, by decide +kernel⟩, wd_1069⟩
theorem mi_X7_187 : MV RX7 RX7 187 yX7_isThere cX7_isThere 1 (some .boolean) 0 := ⟨⟨wd_1061, wd_66, wd_1058, by decide +kernel, by decide +kernel, by decide +kernel⟩, wd_1060, wd_42⟩
theorem mi_X7_193 : MV RX7 RX7 193 yX7_keep cX7_keep 2 none 0 := ⟨⟨wd_1067, wd_66, wd_1064, by decide +kernel, by decide +kernel, by decide +kernel⟩, wd_1066, wd_43⟩
theorem mi_X7_196 : MS RX7 196 yX7_numbered cX7_numbered 3 (some .int) 1 := ⟨⟨wd_1097, wd_66, wd_1095, by decide +kernel, by decide +kernel, by decide +kernel⟩, wd_1096⟩
theorem mi_X7_199 : MS RX7 199 yX7_bits cX7_bits 3 (some .int) 1 := ⟨⟨wd_1100, wd_66, wd_1098, by decide +kernel, by decide +kernel, by decide +kernel⟩, wd_1099⟩
theorem mi_X7_202 : MV RX7 RX7 202 yX7_isCell cX7_isCell 2 (some .boolean) 1 := ⟨⟨wd_1108, wd_66, wd_1105, by decide +kernel, by decide +kernel, by decide +kernel⟩, wd_1107, wd_44⟩
theorem mi_X7_205 : MV RX7 RX7 205 yX7_isWind cX7_isWind 2 (some .boolean) 1 := ⟨⟨wd_1116, wd_66, wd_1113, by decide +kernel, by decide +kernel, by decide +kernel⟩, wd_1115, wd_45⟩
theorem mi_X7_212 : MV RX7 RX7 212 yX7_isSheet cX7_isSheet 2 (some .boolean) 1 := ⟨⟨wd_1130, wd_66, wd_1127, by decide +kernel, by decide +kernel, by decide +kernel⟩, wd_1129, wd_46⟩
theorem mi_X7_217 : MS RX7 217 yX7_letIn cX7_letIn 4 none 4 := ⟨⟨wd_1134, wd_66, wd_1132, by decide +kernel, by decide +kernel, by decide +kernel⟩, wd_1133⟩
theorem mi_X7_220 : MS RX7 220 yX7_ins cX7_ins 3 (some .int) 1 := ⟨⟨wd_1137, wd_66, wd_1135, by decide +kernel, by decide +kernel, by decide +kernel⟩, wd_1136⟩
theorem mi_X7_223 : MS RX7 223 yX7_told cX7_told 3 (some .int) 3 := ⟨⟨wd_1148, wd_66, wd_1146, by decide +kernel, by decide +kernel, by decide +kernel⟩, wd_1147⟩
theorem mi_X7_226 : MS RX7 226 yX7_overOf cX7_overOf 4 (some .int) 2 := ⟨⟨wd_1155, wd_66, wd_1153, by decide +kernel, by decide +kernel, by decide +kernel⟩, wd_1154⟩
theorem mi_X7_231 : MV RX7 RX7 231 yX7_layThen cX7_layThen 2 none 0 := ⟨⟨wd_1168, wd_66, wd_1165, by decide +kernel, by decide +kernel, by decide +kernel⟩, wd_1167, wd_47⟩
theorem mi_X7_234 : MS RX7 234 yX7_hoursOf cX7_hoursOf 3 none 2 := ⟨⟨wd_1171, wd_66, wd_1169, by decide +kernel, by decide +kernel, by decide +kernel⟩, wd_1170⟩
theorem mi_X7_242 : MV RX7 RX7 242 yX7_numberedBy cX7_numberedBy 3 (some .int) 2 := ⟨⟨wd_1205, wd_66, wd_1202, by decide +kernel, by decide +kernel, by decide +kernel⟩, wd_1204, wd_48⟩
theorem mi_X7_249 : MV RX7 RX7 249 yX7_pailsOf cX7_pailsOf 2 (some .int) 1 := ⟨⟨wd_1219, wd_66, wd_1216, by decide +kernel, by decide +kernel, by decide +kernel⟩, wd_1218, wd_49⟩
theorem mi_X7_252 : MS RX7 252 yX7_turnWind cX7_turnWind 1 none 1 := ⟨⟨wd_1231, wd_66, wd_1229, by decide +kernel, by decide +kernel, by decide +kernel⟩, wd_1230⟩
theorem mi_X7_257 : MV RX7 RX7 257 yX7_afterTurns cX7_afterTurns 8 (some .int) 5 := ⟨⟨wd_1228, wd_66, wd_1225, by decide +kernel, by decide +kernel, by decide +kernel⟩, wd_1227, wd_50⟩
theorem mi_X7_263 : MS RX7 263 yX7_isMany cX7_isMany 2 (some .boolean) 2 := ⟨⟨wd_1238, wd_66, wd_1236, by decide +kernel, by decide +kernel, by decide +kernel⟩, wd_1237⟩
theorem mi_X7_266 : MV RX7 RX7 266 yX7_rowFound cX7_rowFound 4 (some .int) 3 := ⟨⟨wd_1243, wd_66, wd_1240, by decide +kernel, by decide +kernel, by decide +kernel⟩, wd_1242, wd_51⟩
theorem mi_X7_270 : MV RX7 RX7 270 yX7_allSo cX7_allSo 10 (some .int) 5 := ⟨⟨wd_1247, wd_66, wd_1244, by decide +kernel, by decide +kernel, by decide +kernel⟩, wd_1246, wd_52⟩
theorem mi_X7_287 : MS RX7 287 yX7_isOf cX7_isOf 2 (some .boolean) 2 := ⟨⟨wd_1285, wd_66, wd_1283, by decide +kernel, by decide +kernel, by decide +kernel⟩, wd_1284⟩
theorem mi_X7_293 : MV RX7 RX7 293 yX7_began cX7_began 2 none 1 := ⟨⟨wd_1301, wd_66, wd_1298, by decide +kernel, by decide +kernel, by decide +kernel⟩, wd_1300, wd_55⟩
theorem mi_X7_296 : MV RX7 RX7 296 yX7_plainSize cX7_plainSize 2 (some .int) 1 := ⟨⟨wd_1305, wd_66, wd_1302, by decide +kernel, by decide +kernel, by decide +kernel⟩, wd_1304, wd_56⟩
theorem mi_X7_299 : MV RX7 RX7 299 yX7_haarSize cX7_haarSize 4 (some .int) 1 := ⟨⟨wd_1297, wd_66, wd_1294, by decide +kernel, by decide +kernel, by decide +kernel⟩, wd_1296, wd_54⟩
theorem mi_X7_302 : MV RX7 RX7 302 yX7_markOf cX7_markOf 4 (some .int) 1 := ⟨⟨wd_1309, wd_66, wd_1306, by decide +kernel, by decide +kernel, by decide +kernel⟩, wd_1308, wd_57⟩
theorem mi_X7_305 : MV RX7 RX7 305 yX7_sizeOf cX7_sizeOf 4 (some .int) 1 := ⟨⟨wd_1293, wd_66, wd_1290, by decide +kernel, by decide +kernel, by decide +kernel⟩, wd_1292, wd_53⟩
theorem mi_X7_57 : MS RX7 57 yX7_in cX7_in 6 (some .boolean) 3 := ⟨⟨wd_967, wd_66, wd_965, by decide +kernel, by decide +kernel, by decide +kernel⟩, wd_966⟩
theorem mi_X7_61 : MS RX7 61 yX7_isRow cX7_isRow 1 (some .boolean) 1 := ⟨⟨wd_963, wd_66, wd_961, by decide +kernel, by decide +kernel, by decide +kernel⟩, wd_962⟩
theorem mi_X7_68 : MV RX7 RX7 68 yX7_finding cX7_finding 2 (some .int) 1 := ⟨⟨wd_973, wd_66, wd_970, by decide +kernel, by decide +kernel, by decide +kernel⟩, wd_972, wd_30⟩
