theorem at_0 : (.selects RX7 yX7_faulted yX7_faulted : Cond) ∈ lw_tbl := List.mem_of_getElem? (i := 0) (by decide +kernel)
theorem at_1 : (.selects RX7 yX7_refusalOfPairs yX7_refusalOfPairs : Cond) ∈ lw_tbl := List.mem_of_getElem? (i := 1) (by decide +kernel)
theorem at_2 : (.selects RX6 yX6_happens yX6_happens : Cond) ∈ lw_tbl := List.mem_of_getElem? (i := 2) (by decide +kernel)
theorem at_3 : (.selects RX6 yX6_leadsSomewhere yX6_leadsSomewhere : Cond) ∈ lw_tbl := List.mem_of_getElem? (i := 3) (by decide +kernel)
theorem at_4 : (.selects RX4 yX4_leastRoundFrom yX4_leastRoundFrom : Cond) ∈ lw_tbl := List.mem_of_getElem? (i := 4) (by decide +kernel)
theorem at_5 : (.selects RX3 yX3_chooseRoot yX3_chooseRoot : Cond) ∈ lw_tbl := List.mem_of_getElem? (i := 5) (by decide +kernel)
theorem at_6 : (.selects RX0 yX0_waysTo yX0_waysTo : Cond) ∈ lw_tbl := List.mem_of_getElem? (i := 6) (by decide +kernel)
theorem at_7 : (.selects RX0 yX0_mayFollow yX0_mayFollow : Cond) ∈ lw_tbl := List.mem_of_getElem? (i := 7) (by decide +kernel)
theorem at_8 : (.selects RX0 yX0_leastThatMayFollow yX0_leastThatMayFollow : Cond) ∈ lw_tbl := List.mem_of_getElem? (i := 8) (by decide +kernel)
theorem at_9 : (.selects RX1 yX1_allAreSo yX1_allAreSo : Cond) ∈ lw_tbl := List.mem_of_getElem? (i := 9) (by decide +kernel)
theorem at_10 : (.selects RX7 yX7_dashBody yX7_dashBody : Cond) ∈ lw_tbl := List.mem_of_getElem? (i := 10) (by decide +kernel)
theorem at_11 : (.selects RX7 yX7_leaveInTrace yX7_leaveInTrace : Cond) ∈ lw_tbl := List.mem_of_getElem? (i := 11) (by decide +kernel)
theorem at_12 : (.selects RX7 yX7_lineBody yX7_lineBody : Cond) ∈ lw_tbl := List.mem_of_getElem? (i := 12) (by decide +kernel)
theorem at_13 : (.selects RX7 yX7_boldBody yX7_boldBody : Cond) ∈ lw_tbl := List.mem_of_getElem? (i := 13) (by decide +kernel)
theorem at_14 : (.selects RX8 yX8_against yX8_against : Cond) ∈ lw_tbl := List.mem_of_getElem? (i := 14) (by decide +kernel)
theorem at_15 : (.selects RX8 yX8_fails yX8_fails : Cond) ∈ lw_tbl := List.mem_of_getElem? (i := 15) (by decide +kernel)
theorem at_16 : (.selects RX8 yX8_readBook yX8_readBook : Cond) ∈ lw_tbl := List.mem_of_getElem? (i := 16) (by decide +kernel)
theorem at_17 : (.selects RX8 yX8_isSign yX8_isSign : Cond) ∈ lw_tbl := List.mem_of_getElem? (i := 17) (by decide +kernel)
theorem at_18 : (.selects RX8 yX8_readSlip yX8_readSlip : Cond) ∈ lw_tbl := List.mem_of_getElem? (i := 18) (by decide +kernel)
theorem at_19 : (.selects RX8 yX8_digit yX8_digit : Cond) ∈ lw_tbl := List.mem_of_getElem? (i := 19) (by decide +kernel)
theorem at_20 : (.selects RX8 yX8_takeBook yX8_takeBook : Cond) ∈ lw_tbl := List.mem_of_getElem? (i := 20) (by decide +kernel)
theorem at_21 : (.selects RX8 yX8_isSlip yX8_isSlip : Cond) ∈ lw_tbl := List.mem_of_getElem? (i := 21) (by decide +kernel)
theorem at_22 : (.selects RX8 yX8_leafOf yX8_leafOf : Cond) ∈ lw_tbl := List.mem_of_getElem? (i := 22) (by decide +kernel)
theorem at_23 : (.selects RX8 yX8_pointsOf yX8_pointsOf : Cond) ∈ lw_tbl := List.mem_of_getElem? (i := 23) (by decide +kernel)
theorem at_24 : (.selects RX8 yX8_looksOf yX8_looksOf : Cond) ∈ lw_tbl := List.mem_of_getElem? (i := 24) (by decide +kernel)
theorem at_25 : (.selects RX8 yX8_refusesPair yX8_refusesPair : Cond) ∈ lw_tbl := List.mem_of_getElem? (i := 25) (by decide +kernel)
theorem at_26 : (.selects RX8 yX8_goYears yX8_goYears : Cond) ∈ lw_tbl := List.mem_of_getElem? (i := 26) (by decide +kernel)
theorem at_27 : (.selects RX8 yX8_does yX8_does : Cond) ∈ lw_tbl := List.mem_of_getElem? (i := 27) (by decide +kernel)
theorem at_28 : (.selects RX8 yX8_tellYears yX8_tellYears : Cond) ∈ lw_tbl := List.mem_of_getElem? (i := 28) (by decide +kernel)
theorem at_29 : (.selects RX8 yX8_ringOf yX8_ringOf : Cond) ∈ lw_tbl := List.mem_of_getElem? (i := 29) (by decide +kernel)
theorem at_30 : (.selects RX8 yX8_findCosts yX8_findCosts : Cond) ∈ lw_tbl := List.mem_of_getElem? (i := 30) (by decide +kernel)
theorem at_31 : (.selects RX8 yX8_findRoot yX8_findRoot : Cond) ∈ lw_tbl := List.mem_of_getElem? (i := 31) (by decide +kernel)
theorem at_32 : (.selects RX8 yX8_findDepths yX8_findDepths : Cond) ∈ lw_tbl := List.mem_of_getElem? (i := 32) (by decide +kernel)
theorem at_33 : (.selects RX8 yX8_rowOf yX8_rowOf : Cond) ∈ lw_tbl := List.mem_of_getElem? (i := 33) (by decide +kernel)
theorem at_34 : (.selects RX8 yX8_areAhead yX8_areAhead : Cond) ∈ lw_tbl := List.mem_of_getElem? (i := 34) (by decide +kernel)
theorem at_35 : (.selects RX8 yX8_areSo yX8_areSo : Cond) ∈ lw_tbl := List.mem_of_getElem? (i := 35) (by decide +kernel)
theorem at_36 : (.selects RX8 yX8_lost yX8_lost : Cond) ∈ lw_tbl := List.mem_of_getElem? (i := 36) (by decide +kernel)
theorem at_37 : (.selects RX8 yX8_begins yX8_begins : Cond) ∈ lw_tbl := List.mem_of_getElem? (i := 37) (by decide +kernel)
theorem at_39 : (.initialized RX7 : Cond) ∈ lw_tbl := List.mem_of_getElem? (i := 39) (by decide +kernel)
theorem at_40 : (.initialized RX2 : Cond) ∈ lw_tbl := List.mem_of_getElem? (i := 40) (by decide +kernel)
theorem at_41 : (.initialized RX4 : Cond) ∈ lw_tbl := List.mem_of_getElem? (i := 41) (by decide +kernel)
theorem at_42 : (.initialized RX1 : Cond) ∈ lw_tbl := List.mem_of_getElem? (i := 42) (by decide +kernel)
theorem at_43 : (.initialized RX6 : Cond) ∈ lw_tbl := List.mem_of_getElem? (i := 43) (by decide +kernel)
theorem at_44 : (.initialized RX3 : Cond) ∈ lw_tbl := List.mem_of_getElem? (i := 44) (by decide +kernel)
theorem at_45 : (.initialized RX0 : Cond) ∈ lw_tbl := List.mem_of_getElem? (i := 45) (by decide +kernel)
theorem at_46 : (.initialized RX8 : Cond) ∈ lw_tbl := List.mem_of_getElem? (i := 46) (by decide +kernel)
theorem at_47 : (.initialized RX5 : Cond) ∈ lw_tbl := List.mem_of_getElem? (i := 47) (by decide +kernel)
theorem at_48 : (.initialized RJ6 : Cond) ∈ lw_tbl := List.mem_of_getElem? (i := 48) (by decide +kernel)
theorem at_49 : (.initialized "java/lang/Math" : Cond) ∈ lw_tbl := List.mem_of_getElem? (i := 49) (by decide +kernel)
theorem at_50 : (.initialized "java/lang/System" : Cond) ∈ lw_tbl := List.mem_of_getElem? (i := 50) (by decide +kernel)
theorem at_51 : (.classLink RL 7 RX7 : Cond) ∈ lw_tbl := List.mem_of_getElem? (i := 51) (by decide +kernel)
theorem at_52 : (.instantiable RX7 9 : Cond) ∈ lw_tbl := List.mem_of_getElem? (i := 52) (by decide +kernel)
theorem at_53 : (.methodLink RL 9 yX7_init : Cond) ∈ lw_tbl := List.mem_of_getElem? (i := 53) (by decide +kernel)
theorem at_54 : (.instanceMethod yX7_init : Cond) ∈ lw_tbl := List.mem_of_getElem? (i := 54) (by decide +kernel)
theorem at_55 : (.code yX7_init cX7_init 2 none : Cond) ∈ lw_tbl := List.mem_of_getElem? (i := 55) (by decide +kernel)
theorem at_56 : (.methodLink RX7 3 objectInit : Cond) ∈ lw_tbl := List.mem_of_getElem? (i := 56) (by decide +kernel)
theorem at_57 : (.instanceMethod objectInit : Cond) ∈ lw_tbl := List.mem_of_getElem? (i := 57) (by decide +kernel)
theorem at_58 : (.code objectInit ⟨#[0xb1]⟩ 1 none : Cond) ∈ lw_tbl := List.mem_of_getElem? (i := 58) (by decide +kernel)
theorem at_59 : (.classLink RX7 11 RX2 : Cond) ∈ lw_tbl := List.mem_of_getElem? (i := 59) (by decide +kernel)
theorem at_61 : (.instantiable RX2 4 : Cond) ∈ lw_tbl := List.mem_of_getElem? (i := 61) (by decide +kernel)
theorem at_63 : (.instanceMethod yX2_init : Cond) ∈ lw_tbl := List.mem_of_getElem? (i := 63) (by decide +kernel)
theorem at_64 : (.code yX2_init cX2_init 1 none : Cond) ∈ lw_tbl := List.mem_of_getElem? (i := 64) (by decide +kernel)
theorem at_65 : (.methodLink RX2 3 objectInit : Cond) ∈ lw_tbl := List.mem_of_getElem? (i := 65) (by decide +kernel)
theorem at_66 : (.fieldLink RX2 9 "WorldIndex$Row" "cells" "[I" : Cond) ∈ lw_tbl := List.mem_of_getElem? (i := 66) (by decide +kernel)
theorem at_71 : (.fieldLink RX2 15 "WorldIndex$Row" "there" "Z" : Cond) ∈ lw_tbl := List.mem_of_getElem? (i := 71) (by decide +kernel)
theorem at_73 : (.fieldLink RX2 19 "WorldIndex$Row" "lane" "I" : Cond) ∈ lw_tbl := List.mem_of_getElem? (i := 73) (by decide +kernel)
theorem at_75 : (.fieldLink RX2 23 "WorldIndex$Row" "length" "I" : Cond) ∈ lw_tbl := List.mem_of_getElem? (i := 75) (by decide +kernel)
theorem at_86 : (.arrayClass .int : Cond) ∈ lw_tbl := List.mem_of_getElem? (i := 86) (by decide +kernel)
theorem at_87 : (.classLink RX7 18 RX4 : Cond) ∈ lw_tbl := List.mem_of_getElem? (i := 87) (by decide +kernel)
theorem at_88 : (.instantiable RX4 6 : Cond) ∈ lw_tbl := List.mem_of_getElem? (i := 88) (by decide +kernel)
theorem at_90 : (.instanceMethod yX4_init : Cond) ∈ lw_tbl := List.mem_of_getElem? (i := 90) (by decide +kernel)
theorem at_91 : (.code yX4_init cX4_init 1 none : Cond) ∈ lw_tbl := List.mem_of_getElem? (i := 91) (by decide +kernel)
theorem at_92 : (.methodLink RX4 3 objectInit : Cond) ∈ lw_tbl := List.mem_of_getElem? (i := 92) (by decide +kernel)
theorem at_93 : (.fieldLink RX4 9 "WorldIndex$Slips" "kind" "[I" : Cond) ∈ lw_tbl := List.mem_of_getElem? (i := 93) (by decide +kernel)
theorem at_96 : (.fieldLink RX4 15 "WorldIndex$Slips" "page" "[I" : Cond) ∈ lw_tbl := List.mem_of_getElem? (i := 96) (by decide +kernel)
theorem at_99 : (.fieldLink RX4 18 "WorldIndex$Slips" "asked" "[I" : Cond) ∈ lw_tbl := List.mem_of_getElem? (i := 99) (by decide +kernel)
theorem at_102 : (.fieldLink RX4 21 "WorldIndex$Slips" "sent" "[I" : Cond) ∈ lw_tbl := List.mem_of_getElem? (i := 102) (by decide +kernel)
theorem at_105 : (.fieldLink RX4 24 "WorldIndex$Slips" "count" "I" : Cond) ∈ lw_tbl := List.mem_of_getElem? (i := 105) (by decide +kernel)
theorem at_109 : (.fieldLink RX4 34 "WorldIndex$Slips" "wetSet" "I" : Cond) ∈ lw_tbl := List.mem_of_getElem? (i := 109) (by decide +kernel)
theorem at_124 : (.classLink RX7 25 RX1 : Cond) ∈ lw_tbl := List.mem_of_getElem? (i := 124) (by decide +kernel)
theorem at_125 : (.instantiable RX1 7 : Cond) ∈ lw_tbl := List.mem_of_getElem? (i := 125) (by decide +kernel)
theorem at_127 : (.instanceMethod yX1_init : Cond) ∈ lw_tbl := List.mem_of_getElem? (i := 127) (by decide +kernel)
theorem at_128 : (.code yX1_init cX1_init 1 none : Cond) ∈ lw_tbl := List.mem_of_getElem? (i := 128) (by decide +kernel)
theorem at_129 : (.methodLink RX1 3 objectInit : Cond) ∈ lw_tbl := List.mem_of_getElem? (i := 129) (by decide +kernel)
theorem at_130 : (.classLink RX1 18 RX4 : Cond) ∈ lw_tbl := List.mem_of_getElem? (i := 130) (by decide +kernel)
theorem at_132 : (.fieldLink RX1 9 "WorldIndex$Readings" "slip" "[I" : Cond) ∈ lw_tbl := List.mem_of_getElem? (i := 132) (by decide +kernel)
theorem at_133 : (.fieldLink RX1 15 "WorldIndex$Readings" "leaf" "[I" : Cond) ∈ lw_tbl := List.mem_of_getElem? (i := 133) (by decide +kernel)
theorem at_134 : (.fieldLink RX1 21 "WorldIndex$Readings" "tried" "LWorldIndex$Slips;" : Cond) ∈ lw_tbl := List.mem_of_getElem? (i := 134) (by decide +kernel)
theorem at_135 : (.fieldLink RX1 25 "WorldIndex$Readings" "count" "I" : Cond) ∈ lw_tbl := List.mem_of_getElem? (i := 135) (by decide +kernel)
theorem at_137 : (.fieldLink RX1 37 "WorldIndex$Readings" "fittingPages" "I" : Cond) ∈ lw_tbl := List.mem_of_getElem? (i := 137) (by decide +kernel)
theorem at_139 : (.fieldLink RX1 40 "WorldIndex$Readings" "leastPage" "I" : Cond) ∈ lw_tbl := List.mem_of_getElem? (i := 139) (by decide +kernel)
theorem at_141 : (.fieldLink RX1 43 "WorldIndex$Readings" "greatestPage" "I" : Cond) ∈ lw_tbl := List.mem_of_getElem? (i := 141) (by decide +kernel)
theorem at_158 : (.classLink RX7 32 RX6 : Cond) ∈ lw_tbl := List.mem_of_getElem? (i := 158) (by decide +kernel)
theorem at_159 : (.instantiable RX6 4 : Cond) ∈ lw_tbl := List.mem_of_getElem? (i := 159) (by decide +kernel)
theorem at_161 : (.instanceMethod yX6_init : Cond) ∈ lw_tbl := List.mem_of_getElem? (i := 161) (by decide +kernel)
theorem at_162 : (.code yX6_init cX6_init 1 none : Cond) ∈ lw_tbl := List.mem_of_getElem? (i := 162) (by decide +kernel)
theorem at_163 : (.methodLink RX6 3 objectInit : Cond) ∈ lw_tbl := List.mem_of_getElem? (i := 163) (by decide +kernel)
theorem at_164 : (.classLink RX6 9 RX4 : Cond) ∈ lw_tbl := List.mem_of_getElem? (i := 164) (by decide +kernel)
theorem at_166 : (.fieldLink RX6 12 "WorldIndex$Years" "then" "LWorldIndex$Slips;" : Cond) ∈ lw_tbl := List.mem_of_getElem? (i := 166) (by decide +kernel)
theorem at_167 : (.fieldLink RX6 22 "WorldIndex$Years" "leaves" "I" : Cond) ∈ lw_tbl := List.mem_of_getElem? (i := 167) (by decide +kernel)
theorem at_168 : (.fieldLink RX6 26 "WorldIndex$Years" "led" "I" : Cond) ∈ lw_tbl := List.mem_of_getElem? (i := 168) (by decide +kernel)
theorem at_169 : (.fieldLink RX6 29 "WorldIndex$Years" "firstWrong" "I" : Cond) ∈ lw_tbl := List.mem_of_getElem? (i := 169) (by decide +kernel)
theorem at_179 : (.classLink RX7 39 RX3 : Cond) ∈ lw_tbl := List.mem_of_getElem? (i := 179) (by decide +kernel)
theorem at_180 : (.instantiable RX3 5 : Cond) ∈ lw_tbl := List.mem_of_getElem? (i := 180) (by decide +kernel)
theorem at_182 : (.instanceMethod yX3_init : Cond) ∈ lw_tbl := List.mem_of_getElem? (i := 182) (by decide +kernel)
theorem at_183 : (.code yX3_init cX3_init 1 none : Cond) ∈ lw_tbl := List.mem_of_getElem? (i := 183) (by decide +kernel)
theorem at_184 : (.methodLink RX3 3 objectInit : Cond) ∈ lw_tbl := List.mem_of_getElem? (i := 184) (by decide +kernel)
theorem at_185 : (.fieldLink RX3 9 "WorldIndex$SearchTree" "dry" "[I" : Cond) ∈ lw_tbl := List.mem_of_getElem? (i := 185) (by decide +kernel)
theorem at_186 : (.fieldLink RX3 15 "WorldIndex$SearchTree" "askedUpTo" "[I" : Cond) ∈ lw_tbl := List.mem_of_getElem? (i := 186) (by decide +kernel)
theorem at_187 : (.fieldLink RX3 18 "WorldIndex$SearchTree" "costs" "[I" : Cond) ∈ lw_tbl := List.mem_of_getElem? (i := 187) (by decide +kernel)
theorem at_188 : (.fieldLink RX3 21 "WorldIndex$SearchTree" "roots" "[I" : Cond) ∈ lw_tbl := List.mem_of_getElem? (i := 188) (by decide +kernel)
theorem at_189 : (.fieldLink RX3 24 "WorldIndex$SearchTree" "size" "I" : Cond) ∈ lw_tbl := List.mem_of_getElem? (i := 189) (by decide +kernel)
theorem at_201 : (.classLink RX7 46 RX0 : Cond) ∈ lw_tbl := List.mem_of_getElem? (i := 201) (by decide +kernel)
theorem at_202 : (.instantiable RX0 3 : Cond) ∈ lw_tbl := List.mem_of_getElem? (i := 202) (by decide +kernel)
theorem at_204 : (.instanceMethod yX0_init : Cond) ∈ lw_tbl := List.mem_of_getElem? (i := 204) (by decide +kernel)
theorem at_205 : (.code yX0_init cX0_init 1 none : Cond) ∈ lw_tbl := List.mem_of_getElem? (i := 205) (by decide +kernel)
theorem at_206 : (.methodLink RX0 3 objectInit : Cond) ∈ lw_tbl := List.mem_of_getElem? (i := 206) (by decide +kernel)
theorem at_207 : (.fieldLink RX0 9 "WorldIndex$Orderings" "aheadOf" "[I" : Cond) ∈ lw_tbl := List.mem_of_getElem? (i := 207) (by decide +kernel)
theorem at_208 : (.fieldLink RX0 15 "WorldIndex$Orderings" "ways" "[I" : Cond) ∈ lw_tbl := List.mem_of_getElem? (i := 208) (by decide +kernel)
theorem at_209 : (.fieldLink RX0 18 "WorldIndex$Orderings" "count" "I" : Cond) ∈ lw_tbl := List.mem_of_getElem? (i := 209) (by decide +kernel)
theorem at_217 : (.fieldLink RX7 13 "WorldIndex" "rows" "[LWorldIndex$Row;" : Cond) ∈ lw_tbl := List.mem_of_getElem? (i := 217) (by decide +kernel)
theorem at_218 : (.fieldLink RX7 21 "WorldIndex" "slips" "LWorldIndex$Slips;" : Cond) ∈ lw_tbl := List.mem_of_getElem? (i := 218) (by decide +kernel)
theorem at_219 : (.fieldLink RX7 28 "WorldIndex" "readings" "LWorldIndex$Readings;" : Cond) ∈ lw_tbl := List.mem_of_getElem? (i := 219) (by decide +kernel)
theorem at_220 : (.fieldLink RX7 35 "WorldIndex" "told" "LWorldIndex$Years;" : Cond) ∈ lw_tbl := List.mem_of_getElem? (i := 220) (by decide +kernel)
theorem at_221 : (.fieldLink RX7 42 "WorldIndex" "searchTree" "LWorldIndex$SearchTree;" : Cond) ∈ lw_tbl := List.mem_of_getElem? (i := 221) (by decide +kernel)
theorem at_222 : (.fieldLink RX7 49 "WorldIndex" "orderings" "LWorldIndex$Orderings;" : Cond) ∈ lw_tbl := List.mem_of_getElem? (i := 222) (by decide +kernel)
theorem at_223 : (.fieldLink RX7 85 "WorldIndex" "questions" "I" : Cond) ∈ lw_tbl := List.mem_of_getElem? (i := 223) (by decide +kernel)
theorem at_224 : (.fieldLink RX7 254 "WorldIndex" "traced" "I" : Cond) ∈ lw_tbl := List.mem_of_getElem? (i := 224) (by decide +kernel)
theorem at_225 : (.fieldLink RX7 53 "WorldIndex" "latestFault" "I" : Cond) ∈ lw_tbl := List.mem_of_getElem? (i := 225) (by decide +kernel)
theorem at_245 : (.methodLink RL 13 yX7_book : Cond) ∈ lw_tbl := List.mem_of_getElem? (i := 245) (by decide +kernel)
theorem at_246 : (.instanceMethod yX7_book : Cond) ∈ lw_tbl := List.mem_of_getElem? (i := 246) (by decide +kernel)
theorem at_247 : (.selects RX7 yX7_book yX7_book : Cond) ∈ lw_tbl := List.mem_of_getElem? (i := 247) (by decide +kernel)
theorem at_248 : (.code yX7_book cX7_book 8 (some .int) : Cond) ∈ lw_tbl := List.mem_of_getElem? (i := 248) (by decide +kernel)
theorem at_249 : (.methodLink RX7 57 yX7_isSheet : Cond) ∈ lw_tbl := List.mem_of_getElem? (i := 249) (by decide +kernel)
theorem at_250 : (.static yX7_isSheet : Cond) ∈ lw_tbl := List.mem_of_getElem? (i := 250) (by decide +kernel)
theorem at_251 : (.code yX7_isSheet cX7_isSheet 1 (some .boolean) : Cond) ∈ lw_tbl := List.mem_of_getElem? (i := 251) (by decide +kernel)
theorem at_252 : (.methodLink RX7 61 yX7_isLane : Cond) ∈ lw_tbl := List.mem_of_getElem? (i := 252) (by decide +kernel)
theorem at_253 : (.static yX7_isLane : Cond) ∈ lw_tbl := List.mem_of_getElem? (i := 253) (by decide +kernel)
theorem at_254 : (.code yX7_isLane cX7_isLane 1 (some .boolean) : Cond) ∈ lw_tbl := List.mem_of_getElem? (i := 254) (by decide +kernel)
theorem at_255 : (.methodLink RX7 64 yX2_faultAsLane : Cond) ∈ lw_tbl := List.mem_of_getElem? (i := 255) (by decide +kernel)
theorem at_256 : (.instanceMethod yX2_faultAsLane : Cond) ∈ lw_tbl := List.mem_of_getElem? (i := 256) (by decide +kernel)
theorem at_257 : (.selects RX2 yX2_faultAsLane yX2_faultAsLane : Cond) ∈ lw_tbl := List.mem_of_getElem? (i := 257) (by decide +kernel)
theorem at_258 : (.code yX2_faultAsLane cX2_faultAsLane 4 (some .int) : Cond) ∈ lw_tbl := List.mem_of_getElem? (i := 258) (by decide +kernel)
theorem at_259 : (.methodLink RX2 26 yX2_holds : Cond) ∈ lw_tbl := List.mem_of_getElem? (i := 259) (by decide +kernel)
theorem at_260 : (.instanceMethod yX2_holds : Cond) ∈ lw_tbl := List.mem_of_getElem? (i := 260) (by decide +kernel)
theorem at_261 : (.selects RX2 yX2_holds yX2_holds : Cond) ∈ lw_tbl := List.mem_of_getElem? (i := 261) (by decide +kernel)
theorem at_262 : (.code yX2_holds cX2_holds 3 (some .boolean) : Cond) ∈ lw_tbl := List.mem_of_getElem? (i := 262) (by decide +kernel)
theorem at_263 : (.methodLink RX7 68 yX7_faulted : Cond) ∈ lw_tbl := List.mem_of_getElem? (i := 263) (by decide +kernel)
theorem at_265 : (.instanceMethod yX7_faulted : Cond) ∈ lw_tbl := List.mem_of_getElem? (i := 265) (by decide +kernel)
theorem at_266 : (.code yX7_faulted cX7_faulted 2 (some .int) : Cond) ∈ lw_tbl := List.mem_of_getElem? (i := 266) (by decide +kernel)
theorem at_267 : (.methodLink RX7 72 yX5_firstFault : Cond) ∈ lw_tbl := List.mem_of_getElem? (i := 267) (by decide +kernel)
theorem at_268 : (.static yX5_firstFault : Cond) ∈ lw_tbl := List.mem_of_getElem? (i := 268) (by decide +kernel)
theorem at_269 : (.code yX5_firstFault cX5_firstFault 4 (some .int) : Cond) ∈ lw_tbl := List.mem_of_getElem? (i := 269) (by decide +kernel)
theorem at_270 : (.methodLink RX5 15 yX5_goesOn : Cond) ∈ lw_tbl := List.mem_of_getElem? (i := 270) (by decide +kernel)
theorem at_271 : (.static yX5_goesOn : Cond) ∈ lw_tbl := List.mem_of_getElem? (i := 271) (by decide +kernel)
theorem at_272 : (.code yX5_goesOn cX5_goesOn 2 (some .boolean) : Cond) ∈ lw_tbl := List.mem_of_getElem? (i := 272) (by decide +kernel)
theorem at_273 : (.methodLink RX5 21 yX5_mayEnd : Cond) ∈ lw_tbl := List.mem_of_getElem? (i := 273) (by decide +kernel)
theorem at_274 : (.static yX5_mayEnd : Cond) ∈ lw_tbl := List.mem_of_getElem? (i := 274) (by decide +kernel)
theorem at_275 : (.code yX5_mayEnd cX5_mayEnd 1 (some .boolean) : Cond) ∈ lw_tbl := List.mem_of_getElem? (i := 275) (by decide +kernel)
theorem at_276 : (.methodLink RX5 25 yX5_slipsIn : Cond) ∈ lw_tbl := List.mem_of_getElem? (i := 276) (by decide +kernel)
theorem at_277 : (.static yX5_slipsIn : Cond) ∈ lw_tbl := List.mem_of_getElem? (i := 277) (by decide +kernel)
theorem at_278 : (.code yX5_slipsIn cX5_slipsIn 1 (some .int) : Cond) ∈ lw_tbl := List.mem_of_getElem? (i := 278) (by decide +kernel)
theorem at_279 : (.methodLink RX7 78 yX4_fill : Cond) ∈ lw_tbl := List.mem_of_getElem? (i := 279) (by decide +kernel)
theorem at_280 : (.instanceMethod yX4_fill : Cond) ∈ lw_tbl := List.mem_of_getElem? (i := 280) (by decide +kernel)
theorem at_281 : (.selects RX4 yX4_fill yX4_fill : Cond) ∈ lw_tbl := List.mem_of_getElem? (i := 281) (by decide +kernel)
theorem at_282 : (.code yX4_fill cX4_fill 6 none : Cond) ∈ lw_tbl := List.mem_of_getElem? (i := 282) (by decide +kernel)
theorem at_283 : (.methodLink RX4 28 yX5_slipsIn : Cond) ∈ lw_tbl := List.mem_of_getElem? (i := 283) (by decide +kernel)
theorem at_284 : (.methodLink RX4 42 yX5_kindOf : Cond) ∈ lw_tbl := List.mem_of_getElem? (i := 284) (by decide +kernel)
theorem at_285 : (.static yX5_kindOf : Cond) ∈ lw_tbl := List.mem_of_getElem? (i := 285) (by decide +kernel)
theorem at_286 : (.code yX5_kindOf cX5_kindOf 1 (some .int) : Cond) ∈ lw_tbl := List.mem_of_getElem? (i := 286) (by decide +kernel)
theorem at_287 : (.methodLink RX4 45 yX4_send : Cond) ∈ lw_tbl := List.mem_of_getElem? (i := 287) (by decide +kernel)
theorem at_288 : (.instanceMethod yX4_send : Cond) ∈ lw_tbl := List.mem_of_getElem? (i := 288) (by decide +kernel)
theorem at_289 : (.selects RX4 yX4_send yX4_send : Cond) ∈ lw_tbl := List.mem_of_getElem? (i := 289) (by decide +kernel)
theorem at_290 : (.code yX4_send cX4_send 3 none : Cond) ∈ lw_tbl := List.mem_of_getElem? (i := 290) (by decide +kernel)
theorem at_291 : (.methodLink RX4 49 yX4_has : Cond) ∈ lw_tbl := List.mem_of_getElem? (i := 291) (by decide +kernel)
theorem at_292 : (.instanceMethod yX4_has : Cond) ∈ lw_tbl := List.mem_of_getElem? (i := 292) (by decide +kernel)
theorem at_293 : (.selects RX4 yX4_has yX4_has : Cond) ∈ lw_tbl := List.mem_of_getElem? (i := 293) (by decide +kernel)
theorem at_294 : (.code yX4_has cX4_has 2 (some .boolean) : Cond) ∈ lw_tbl := List.mem_of_getElem? (i := 294) (by decide +kernel)
theorem at_295 : (.methodLink RL 18 yX7_ofSlip : Cond) ∈ lw_tbl := List.mem_of_getElem? (i := 295) (by decide +kernel)
theorem at_296 : (.instanceMethod yX7_ofSlip : Cond) ∈ lw_tbl := List.mem_of_getElem? (i := 296) (by decide +kernel)
theorem at_297 : (.selects RX7 yX7_ofSlip yX7_ofSlip : Cond) ∈ lw_tbl := List.mem_of_getElem? (i := 297) (by decide +kernel)
theorem at_298 : (.code yX7_ofSlip cX7_ofSlip 3 (some .int) : Cond) ∈ lw_tbl := List.mem_of_getElem? (i := 298) (by decide +kernel)
theorem at_299 : (.methodLink RX7 89 yX4_has : Cond) ∈ lw_tbl := List.mem_of_getElem? (i := 299) (by decide +kernel)
theorem at_300 : (.methodLink RX7 105 yX4_leafOf : Cond) ∈ lw_tbl := List.mem_of_getElem? (i := 300) (by decide +kernel)
theorem at_301 : (.instanceMethod yX4_leafOf : Cond) ∈ lw_tbl := List.mem_of_getElem? (i := 301) (by decide +kernel)
theorem at_302 : (.selects RX4 yX4_leafOf yX4_leafOf : Cond) ∈ lw_tbl := List.mem_of_getElem? (i := 302) (by decide +kernel)
theorem at_303 : (.code yX4_leafOf cX4_leafOf 5 (some .int) : Cond) ∈ lw_tbl := List.mem_of_getElem? (i := 303) (by decide +kernel)
theorem at_304 : (.methodLink RX4 61 yX4_looksOf : Cond) ∈ lw_tbl := List.mem_of_getElem? (i := 304) (by decide +kernel)
theorem at_305 : (.instanceMethod yX4_looksOf : Cond) ∈ lw_tbl := List.mem_of_getElem? (i := 305) (by decide +kernel)
theorem at_306 : (.selects RX4 yX4_looksOf yX4_looksOf : Cond) ∈ lw_tbl := List.mem_of_getElem? (i := 306) (by decide +kernel)
theorem at_307 : (.code yX4_looksOf cX4_looksOf 4 (some .int) : Cond) ∈ lw_tbl := List.mem_of_getElem? (i := 307) (by decide +kernel)
theorem at_308 : (.methodLink RX4 58 yX4_isWet : Cond) ∈ lw_tbl := List.mem_of_getElem? (i := 308) (by decide +kernel)
theorem at_309 : (.instanceMethod yX4_isWet : Cond) ∈ lw_tbl := List.mem_of_getElem? (i := 309) (by decide +kernel)
theorem at_310 : (.selects RX4 yX4_isWet yX4_isWet : Cond) ∈ lw_tbl := List.mem_of_getElem? (i := 310) (by decide +kernel)
theorem at_311 : (.code yX4_isWet cX4_isWet 2 (some .boolean) : Cond) ∈ lw_tbl := List.mem_of_getElem? (i := 311) (by decide +kernel)
theorem at_312 : (.methodLink RX4 64 yX4_pointsTo : Cond) ∈ lw_tbl := List.mem_of_getElem? (i := 312) (by decide +kernel)
theorem at_313 : (.instanceMethod yX4_pointsTo : Cond) ∈ lw_tbl := List.mem_of_getElem? (i := 313) (by decide +kernel)
theorem at_314 : (.selects RX4 yX4_pointsTo yX4_pointsTo : Cond) ∈ lw_tbl := List.mem_of_getElem? (i := 314) (by decide +kernel)
theorem at_315 : (.code yX4_pointsTo cX4_pointsTo 2 (some .int) : Cond) ∈ lw_tbl := List.mem_of_getElem? (i := 315) (by decide +kernel)
theorem at_316 : (.methodLink RX7 108 yX4_looksOf : Cond) ∈ lw_tbl := List.mem_of_getElem? (i := 316) (by decide +kernel)
theorem at_317 : (.methodLink RX7 111 yX4_isWet : Cond) ∈ lw_tbl := List.mem_of_getElem? (i := 317) (by decide +kernel)
theorem at_318 : (.methodLink RX7 114 yX4_pointsTo : Cond) ∈ lw_tbl := List.mem_of_getElem? (i := 318) (by decide +kernel)
theorem at_319 : (.methodLink RL 23 yX7_want : Cond) ∈ lw_tbl := List.mem_of_getElem? (i := 319) (by decide +kernel)
theorem at_320 : (.instanceMethod yX7_want : Cond) ∈ lw_tbl := List.mem_of_getElem? (i := 320) (by decide +kernel)
theorem at_321 : (.selects RX7 yX7_want yX7_want : Cond) ∈ lw_tbl := List.mem_of_getElem? (i := 321) (by decide +kernel)
theorem at_322 : (.code yX7_want cX7_want 4 (some .int) : Cond) ∈ lw_tbl := List.mem_of_getElem? (i := 322) (by decide +kernel)
theorem at_323 : (.methodLink RL 27 yX7_see : Cond) ∈ lw_tbl := List.mem_of_getElem? (i := 323) (by decide +kernel)
theorem at_324 : (.instanceMethod yX7_see : Cond) ∈ lw_tbl := List.mem_of_getElem? (i := 324) (by decide +kernel)
theorem at_325 : (.selects RX7 yX7_see yX7_see : Cond) ∈ lw_tbl := List.mem_of_getElem? (i := 325) (by decide +kernel)
theorem at_326 : (.code yX7_see cX7_see 4 (some .int) : Cond) ∈ lw_tbl := List.mem_of_getElem? (i := 326) (by decide +kernel)
theorem at_327 : (.methodLink RL 31 yX7_ask : Cond) ∈ lw_tbl := List.mem_of_getElem? (i := 327) (by decide +kernel)
theorem at_328 : (.instanceMethod yX7_ask : Cond) ∈ lw_tbl := List.mem_of_getElem? (i := 328) (by decide +kernel)
theorem at_329 : (.selects RX7 yX7_ask yX7_ask : Cond) ∈ lw_tbl := List.mem_of_getElem? (i := 329) (by decide +kernel)
theorem at_330 : (.code yX7_ask cX7_ask 2 (some .int) : Cond) ∈ lw_tbl := List.mem_of_getElem? (i := 330) (by decide +kernel)
theorem at_331 : (.methodLink RL 36 yX7_wet : Cond) ∈ lw_tbl := List.mem_of_getElem? (i := 331) (by decide +kernel)
theorem at_332 : (.instanceMethod yX7_wet : Cond) ∈ lw_tbl := List.mem_of_getElem? (i := 332) (by decide +kernel)
theorem at_333 : (.selects RX7 yX7_wet yX7_wet : Cond) ∈ lw_tbl := List.mem_of_getElem? (i := 333) (by decide +kernel)
theorem at_334 : (.code yX7_wet cX7_wet 2 (some .int) : Cond) ∈ lw_tbl := List.mem_of_getElem? (i := 334) (by decide +kernel)
theorem at_335 : (.methodLink RX7 117 yX4_soak : Cond) ∈ lw_tbl := List.mem_of_getElem? (i := 335) (by decide +kernel)
theorem at_336 : (.instanceMethod yX4_soak : Cond) ∈ lw_tbl := List.mem_of_getElem? (i := 336) (by decide +kernel)
theorem at_337 : (.selects RX4 yX4_soak yX4_soak : Cond) ∈ lw_tbl := List.mem_of_getElem? (i := 337) (by decide +kernel)
theorem at_338 : (.code yX4_soak cX4_soak 2 (some .boolean) : Cond) ∈ lw_tbl := List.mem_of_getElem? (i := 338) (by decide +kernel)
theorem at_339 : (.methodLink RX7 120 yX4_howManyWet : Cond) ∈ lw_tbl := List.mem_of_getElem? (i := 339) (by decide +kernel)
theorem at_340 : (.instanceMethod yX4_howManyWet : Cond) ∈ lw_tbl := List.mem_of_getElem? (i := 340) (by decide +kernel)
theorem at_341 : (.selects RX4 yX4_howManyWet yX4_howManyWet : Cond) ∈ lw_tbl := List.mem_of_getElem? (i := 341) (by decide +kernel)
theorem at_342 : (.code yX4_howManyWet cX4_howManyWet 1 (some .int) : Cond) ∈ lw_tbl := List.mem_of_getElem? (i := 342) (by decide +kernel)
theorem at_343 : (.methodLink RX4 53 yJ6_bitCount_0f7a4 : Cond) ∈ lw_tbl := List.mem_of_getElem? (i := 343) (by decide +kernel)
theorem at_344 : (.static yJ6_bitCount_0f7a4 : Cond) ∈ lw_tbl := List.mem_of_getElem? (i := 344) (by decide +kernel)
theorem at_345 : (.code yJ6_bitCount_0f7a4 cJ6_bitCount_0f7a4 1 (some .int) : Cond) ∈ lw_tbl := List.mem_of_getElem? (i := 345) (by decide +kernel)
theorem at_346 : (.constant RJ6 265 (1431655765) : Cond) ∈ lw_tbl := List.mem_of_getElem? (i := 346) (by decide +kernel)
theorem at_347 : (.constant RJ6 266 (858993459) : Cond) ∈ lw_tbl := List.mem_of_getElem? (i := 347) (by decide +kernel)
theorem at_348 : (.constant RJ6 267 (252645135) : Cond) ∈ lw_tbl := List.mem_of_getElem? (i := 348) (by decide +kernel)
theorem at_349 : (.methodLink RL 40 yX7_dry : Cond) ∈ lw_tbl := List.mem_of_getElem? (i := 349) (by decide +kernel)
theorem at_350 : (.instanceMethod yX7_dry : Cond) ∈ lw_tbl := List.mem_of_getElem? (i := 350) (by decide +kernel)
theorem at_351 : (.selects RX7 yX7_dry yX7_dry : Cond) ∈ lw_tbl := List.mem_of_getElem? (i := 351) (by decide +kernel)
theorem at_352 : (.code yX7_dry cX7_dry 2 (some .int) : Cond) ∈ lw_tbl := List.mem_of_getElem? (i := 352) (by decide +kernel)
theorem at_353 : (.methodLink RX7 124 yX4_air : Cond) ∈ lw_tbl := List.mem_of_getElem? (i := 353) (by decide +kernel)
theorem at_354 : (.instanceMethod yX4_air : Cond) ∈ lw_tbl := List.mem_of_getElem? (i := 354) (by decide +kernel)
theorem at_355 : (.selects RX4 yX4_air yX4_air : Cond) ∈ lw_tbl := List.mem_of_getElem? (i := 355) (by decide +kernel)
theorem at_356 : (.code yX4_air cX4_air 2 (some .boolean) : Cond) ∈ lw_tbl := List.mem_of_getElem? (i := 356) (by decide +kernel)
theorem at_357 : (.methodLink RL 44 yX7_leads : Cond) ∈ lw_tbl := List.mem_of_getElem? (i := 357) (by decide +kernel)
theorem at_358 : (.instanceMethod yX7_leads : Cond) ∈ lw_tbl := List.mem_of_getElem? (i := 358) (by decide +kernel)
theorem at_359 : (.selects RX7 yX7_leads yX7_leads : Cond) ∈ lw_tbl := List.mem_of_getElem? (i := 359) (by decide +kernel)
theorem at_360 : (.code yX7_leads cX7_leads 4 (some .int) : Cond) ∈ lw_tbl := List.mem_of_getElem? (i := 360) (by decide +kernel)
theorem at_361 : (.methodLink RX7 127 yX7_isLeaf : Cond) ∈ lw_tbl := List.mem_of_getElem? (i := 361) (by decide +kernel)
theorem at_362 : (.static yX7_isLeaf : Cond) ∈ lw_tbl := List.mem_of_getElem? (i := 362) (by decide +kernel)
theorem at_363 : (.code yX7_isLeaf cX7_isLeaf 1 (some .boolean) : Cond) ∈ lw_tbl := List.mem_of_getElem? (i := 363) (by decide +kernel)
theorem at_364 : (.methodLink RL 48 yX7_years : Cond) ∈ lw_tbl := List.mem_of_getElem? (i := 364) (by decide +kernel)
theorem at_365 : (.instanceMethod yX7_years : Cond) ∈ lw_tbl := List.mem_of_getElem? (i := 365) (by decide +kernel)
theorem at_366 : (.selects RX7 yX7_years yX7_years : Cond) ∈ lw_tbl := List.mem_of_getElem? (i := 366) (by decide +kernel)
theorem at_367 : (.code yX7_years cX7_years 9 (some .int) : Cond) ∈ lw_tbl := List.mem_of_getElem? (i := 367) (by decide +kernel)
theorem at_368 : (.methodLink RX7 130 yX6_answers : Cond) ∈ lw_tbl := List.mem_of_getElem? (i := 368) (by decide +kernel)
theorem at_369 : (.static yX6_answers : Cond) ∈ lw_tbl := List.mem_of_getElem? (i := 369) (by decide +kernel)
theorem at_370 : (.code yX6_answers cX6_answers 1 (some .boolean) : Cond) ∈ lw_tbl := List.mem_of_getElem? (i := 370) (by decide +kernel)
theorem at_371 : (.methodLink RX7 133 yX7_refusalOfPairs : Cond) ∈ lw_tbl := List.mem_of_getElem? (i := 371) (by decide +kernel)
theorem at_373 : (.instanceMethod yX7_refusalOfPairs : Cond) ∈ lw_tbl := List.mem_of_getElem? (i := 373) (by decide +kernel)
theorem at_374 : (.code yX7_refusalOfPairs cX7_refusalOfPairs 5 (some .int) : Cond) ∈ lw_tbl := List.mem_of_getElem? (i := 374) (by decide +kernel)
theorem at_375 : (.methodLink RX7 146 yX6_isDeed : Cond) ∈ lw_tbl := List.mem_of_getElem? (i := 375) (by decide +kernel)
theorem at_376 : (.static yX6_isDeed : Cond) ∈ lw_tbl := List.mem_of_getElem? (i := 376) (by decide +kernel)
theorem at_377 : (.code yX6_isDeed cX6_isDeed 1 (some .boolean) : Cond) ∈ lw_tbl := List.mem_of_getElem? (i := 377) (by decide +kernel)
theorem at_378 : (.methodLink RX7 136 yX6_goThrough : Cond) ∈ lw_tbl := List.mem_of_getElem? (i := 378) (by decide +kernel)
theorem at_379 : (.instanceMethod yX6_goThrough : Cond) ∈ lw_tbl := List.mem_of_getElem? (i := 379) (by decide +kernel)
theorem at_380 : (.selects RX6 yX6_goThrough yX6_goThrough : Cond) ∈ lw_tbl := List.mem_of_getElem? (i := 380) (by decide +kernel)
theorem at_381 : (.code yX6_goThrough cX6_goThrough 7 none : Cond) ∈ lw_tbl := List.mem_of_getElem? (i := 381) (by decide +kernel)
theorem at_382 : (.methodLink RX6 18 yX4_becomeLike : Cond) ∈ lw_tbl := List.mem_of_getElem? (i := 382) (by decide +kernel)
theorem at_383 : (.instanceMethod yX4_becomeLike : Cond) ∈ lw_tbl := List.mem_of_getElem? (i := 383) (by decide +kernel)
theorem at_384 : (.selects RX4 yX4_becomeLike yX4_becomeLike : Cond) ∈ lw_tbl := List.mem_of_getElem? (i := 384) (by decide +kernel)
theorem at_385 : (.code yX4_becomeLike cX4_becomeLike 3 none : Cond) ∈ lw_tbl := List.mem_of_getElem? (i := 385) (by decide +kernel)
theorem at_386 : (.methodLink RX6 38 yX6_happens : Cond) ∈ lw_tbl := List.mem_of_getElem? (i := 386) (by decide +kernel)
theorem at_388 : (.instanceMethod yX6_happens : Cond) ∈ lw_tbl := List.mem_of_getElem? (i := 388) (by decide +kernel)
theorem at_389 : (.code yX6_happens cX6_happens 3 (some .boolean) : Cond) ∈ lw_tbl := List.mem_of_getElem? (i := 389) (by decide +kernel)
theorem at_390 : (.methodLink RX6 42 yX6_leadsSomewhere : Cond) ∈ lw_tbl := List.mem_of_getElem? (i := 390) (by decide +kernel)
theorem at_392 : (.instanceMethod yX6_leadsSomewhere : Cond) ∈ lw_tbl := List.mem_of_getElem? (i := 392) (by decide +kernel)
theorem at_393 : (.code yX6_leadsSomewhere cX6_leadsSomewhere 3 (some .boolean) : Cond) ∈ lw_tbl := List.mem_of_getElem? (i := 393) (by decide +kernel)
theorem at_394 : (.methodLink RX6 56 yX4_leafOf : Cond) ∈ lw_tbl := List.mem_of_getElem? (i := 394) (by decide +kernel)
theorem at_395 : (.methodLink RX6 46 yX4_soak : Cond) ∈ lw_tbl := List.mem_of_getElem? (i := 395) (by decide +kernel)
theorem at_396 : (.methodLink RX6 49 yX4_air : Cond) ∈ lw_tbl := List.mem_of_getElem? (i := 396) (by decide +kernel)
theorem at_397 : (.methodLink RX6 52 yX4_send : Cond) ∈ lw_tbl := List.mem_of_getElem? (i := 397) (by decide +kernel)
theorem at_398 : (.methodLink RX7 140 yX6_answer : Cond) ∈ lw_tbl := List.mem_of_getElem? (i := 398) (by decide +kernel)
theorem at_399 : (.instanceMethod yX6_answer : Cond) ∈ lw_tbl := List.mem_of_getElem? (i := 399) (by decide +kernel)
theorem at_400 : (.selects RX6 yX6_answer yX6_answer : Cond) ∈ lw_tbl := List.mem_of_getElem? (i := 400) (by decide +kernel)
theorem at_401 : (.code yX6_answer cX6_answer 2 (some .int) : Cond) ∈ lw_tbl := List.mem_of_getElem? (i := 401) (by decide +kernel)
theorem at_402 : (.methodLink RX6 63 yX4_has : Cond) ∈ lw_tbl := List.mem_of_getElem? (i := 402) (by decide +kernel)
theorem at_403 : (.methodLink RL 53 yX7_rings : Cond) ∈ lw_tbl := List.mem_of_getElem? (i := 403) (by decide +kernel)
theorem at_404 : (.instanceMethod yX7_rings : Cond) ∈ lw_tbl := List.mem_of_getElem? (i := 404) (by decide +kernel)
theorem at_405 : (.selects RX7 yX7_rings yX7_rings : Cond) ∈ lw_tbl := List.mem_of_getElem? (i := 405) (by decide +kernel)
theorem at_406 : (.code yX7_rings cX7_rings 2 (some .int) : Cond) ∈ lw_tbl := List.mem_of_getElem? (i := 406) (by decide +kernel)
theorem at_407 : (.methodLink RX7 149 yX4_inRings : Cond) ∈ lw_tbl := List.mem_of_getElem? (i := 407) (by decide +kernel)
theorem at_408 : (.instanceMethod yX4_inRings : Cond) ∈ lw_tbl := List.mem_of_getElem? (i := 408) (by decide +kernel)
theorem at_409 : (.selects RX4 yX4_inRings yX4_inRings : Cond) ∈ lw_tbl := List.mem_of_getElem? (i := 409) (by decide +kernel)
theorem at_410 : (.code yX4_inRings cX4_inRings 3 (some .int) : Cond) ∈ lw_tbl := List.mem_of_getElem? (i := 410) (by decide +kernel)
theorem at_411 : (.methodLink RX4 67 yX4_leastRoundFrom : Cond) ∈ lw_tbl := List.mem_of_getElem? (i := 411) (by decide +kernel)
theorem at_413 : (.instanceMethod yX4_leastRoundFrom : Cond) ∈ lw_tbl := List.mem_of_getElem? (i := 413) (by decide +kernel)
theorem at_414 : (.code yX4_leastRoundFrom cX4_leastRoundFrom 5 (some .int) : Cond) ∈ lw_tbl := List.mem_of_getElem? (i := 414) (by decide +kernel)
theorem at_415 : (.methodLink RX4 70 Lib.Math.min.name : Cond) ∈ lw_tbl := List.mem_of_getElem? (i := 415) (by decide +kernel)
theorem at_416 : (.static Lib.Math.min.name : Cond) ∈ lw_tbl := List.mem_of_getElem? (i := 416) (by decide +kernel)
theorem at_417 : (.code Lib.Math.min.name Lib.Math.min.code 2 (some .int) : Cond) ∈ lw_tbl := List.mem_of_getElem? (i := 417) (by decide +kernel)
theorem at_418 : (.methodLink RX7 152 yX4_leastOfRings : Cond) ∈ lw_tbl := List.mem_of_getElem? (i := 418) (by decide +kernel)
theorem at_419 : (.instanceMethod yX4_leastOfRings : Cond) ∈ lw_tbl := List.mem_of_getElem? (i := 419) (by decide +kernel)
theorem at_420 : (.selects RX4 yX4_leastOfRings yX4_leastOfRings : Cond) ∈ lw_tbl := List.mem_of_getElem? (i := 420) (by decide +kernel)
theorem at_421 : (.code yX4_leastOfRings cX4_leastOfRings 3 (some .int) : Cond) ∈ lw_tbl := List.mem_of_getElem? (i := 421) (by decide +kernel)
theorem at_422 : (.methodLink RX7 155 yJ6_bitCount_0f7a4 : Cond) ∈ lw_tbl := List.mem_of_getElem? (i := 422) (by decide +kernel)
theorem at_423 : (.methodLink RL 57 yX7_cuts : Cond) ∈ lw_tbl := List.mem_of_getElem? (i := 423) (by decide +kernel)
theorem at_424 : (.instanceMethod yX7_cuts : Cond) ∈ lw_tbl := List.mem_of_getElem? (i := 424) (by decide +kernel)
theorem at_425 : (.selects RX7 yX7_cuts yX7_cuts : Cond) ∈ lw_tbl := List.mem_of_getElem? (i := 425) (by decide +kernel)
theorem at_426 : (.code yX7_cuts cX7_cuts 1 (some .int) : Cond) ∈ lw_tbl := List.mem_of_getElem? (i := 426) (by decide +kernel)
theorem at_427 : (.methodLink RL 62 yX7_tree : Cond) ∈ lw_tbl := List.mem_of_getElem? (i := 427) (by decide +kernel)
theorem at_428 : (.instanceMethod yX7_tree : Cond) ∈ lw_tbl := List.mem_of_getElem? (i := 428) (by decide +kernel)
theorem at_429 : (.selects RX7 yX7_tree yX7_tree : Cond) ∈ lw_tbl := List.mem_of_getElem? (i := 429) (by decide +kernel)
theorem at_430 : (.code yX7_tree cX7_tree 2 (some .int) : Cond) ∈ lw_tbl := List.mem_of_getElem? (i := 430) (by decide +kernel)
theorem at_431 : (.methodLink RX7 160 yX3_grow : Cond) ∈ lw_tbl := List.mem_of_getElem? (i := 431) (by decide +kernel)
theorem at_432 : (.instanceMethod yX3_grow : Cond) ∈ lw_tbl := List.mem_of_getElem? (i := 432) (by decide +kernel)
theorem at_433 : (.selects RX3 yX3_grow yX3_grow : Cond) ∈ lw_tbl := List.mem_of_getElem? (i := 433) (by decide +kernel)
theorem at_434 : (.code yX3_grow cX3_grow 4 none : Cond) ∈ lw_tbl := List.mem_of_getElem? (i := 434) (by decide +kernel)
theorem at_435 : (.methodLink RX3 33 yX4_isWet : Cond) ∈ lw_tbl := List.mem_of_getElem? (i := 435) (by decide +kernel)
theorem at_436 : (.methodLink RX3 40 yX3_chooseRoot : Cond) ∈ lw_tbl := List.mem_of_getElem? (i := 436) (by decide +kernel)
theorem at_438 : (.instanceMethod yX3_chooseRoot : Cond) ∈ lw_tbl := List.mem_of_getElem? (i := 438) (by decide +kernel)
theorem at_439 : (.code yX3_chooseRoot cX3_chooseRoot 7 none : Cond) ∈ lw_tbl := List.mem_of_getElem? (i := 439) (by decide +kernel)
theorem at_440 : (.constant RX3 46 (2147483647) : Cond) ∈ lw_tbl := List.mem_of_getElem? (i := 440) (by decide +kernel)
theorem at_441 : (.methodLink RX3 47 yX3_partOf : Cond) ∈ lw_tbl := List.mem_of_getElem? (i := 441) (by decide +kernel)
theorem at_442 : (.static yX3_partOf : Cond) ∈ lw_tbl := List.mem_of_getElem? (i := 442) (by decide +kernel)
theorem at_443 : (.code yX3_partOf cX3_partOf 2 (some .int) : Cond) ∈ lw_tbl := List.mem_of_getElem? (i := 443) (by decide +kernel)
theorem at_444 : (.methodLink RX7 164 yX3_leastCost : Cond) ∈ lw_tbl := List.mem_of_getElem? (i := 444) (by decide +kernel)
theorem at_445 : (.instanceMethod yX3_leastCost : Cond) ∈ lw_tbl := List.mem_of_getElem? (i := 445) (by decide +kernel)
theorem at_446 : (.selects RX3 yX3_leastCost yX3_leastCost : Cond) ∈ lw_tbl := List.mem_of_getElem? (i := 446) (by decide +kernel)
theorem at_447 : (.code yX3_leastCost cX3_leastCost 1 (some .int) : Cond) ∈ lw_tbl := List.mem_of_getElem? (i := 447) (by decide +kernel)
theorem at_448 : (.methodLink RX7 167 yX3_depthOf : Cond) ∈ lw_tbl := List.mem_of_getElem? (i := 448) (by decide +kernel)
theorem at_449 : (.instanceMethod yX3_depthOf : Cond) ∈ lw_tbl := List.mem_of_getElem? (i := 449) (by decide +kernel)
theorem at_450 : (.selects RX3 yX3_depthOf yX3_depthOf : Cond) ∈ lw_tbl := List.mem_of_getElem? (i := 450) (by decide +kernel)
theorem at_451 : (.code yX3_depthOf cX3_depthOf 6 (some .int) : Cond) ∈ lw_tbl := List.mem_of_getElem? (i := 451) (by decide +kernel)
theorem at_452 : (.methodLink RL 66 yX7_orders : Cond) ∈ lw_tbl := List.mem_of_getElem? (i := 452) (by decide +kernel)
theorem at_453 : (.instanceMethod yX7_orders : Cond) ∈ lw_tbl := List.mem_of_getElem? (i := 453) (by decide +kernel)
theorem at_454 : (.selects RX7 yX7_orders yX7_orders : Cond) ∈ lw_tbl := List.mem_of_getElem? (i := 454) (by decide +kernel)
theorem at_455 : (.code yX7_orders cX7_orders 11 (some .int) : Cond) ∈ lw_tbl := List.mem_of_getElem? (i := 455) (by decide +kernel)
theorem at_456 : (.methodLink RX7 170 yX0_begin : Cond) ∈ lw_tbl := List.mem_of_getElem? (i := 456) (by decide +kernel)
theorem at_457 : (.instanceMethod yX0_begin : Cond) ∈ lw_tbl := List.mem_of_getElem? (i := 457) (by decide +kernel)
theorem at_458 : (.selects RX0 yX0_begin yX0_begin : Cond) ∈ lw_tbl := List.mem_of_getElem? (i := 458) (by decide +kernel)
theorem at_459 : (.code yX0_begin cX0_begin 3 none : Cond) ∈ lw_tbl := List.mem_of_getElem? (i := 459) (by decide +kernel)
theorem at_460 : (.methodLink RX7 174 yX0_putAhead : Cond) ∈ lw_tbl := List.mem_of_getElem? (i := 460) (by decide +kernel)
theorem at_461 : (.instanceMethod yX0_putAhead : Cond) ∈ lw_tbl := List.mem_of_getElem? (i := 461) (by decide +kernel)
theorem at_462 : (.selects RX0 yX0_putAhead yX0_putAhead : Cond) ∈ lw_tbl := List.mem_of_getElem? (i := 462) (by decide +kernel)
theorem at_463 : (.code yX0_putAhead cX0_putAhead 3 none : Cond) ∈ lw_tbl := List.mem_of_getElem? (i := 463) (by decide +kernel)
theorem at_464 : (.methodLink RX7 178 yX0_howMany : Cond) ∈ lw_tbl := List.mem_of_getElem? (i := 464) (by decide +kernel)
theorem at_465 : (.instanceMethod yX0_howMany : Cond) ∈ lw_tbl := List.mem_of_getElem? (i := 465) (by decide +kernel)
theorem at_466 : (.selects RX0 yX0_howMany yX0_howMany : Cond) ∈ lw_tbl := List.mem_of_getElem? (i := 466) (by decide +kernel)
theorem at_467 : (.code yX0_howMany cX0_howMany 3 (some .int) : Cond) ∈ lw_tbl := List.mem_of_getElem? (i := 467) (by decide +kernel)
theorem at_468 : (.methodLink RX0 22 yX0_waysTo : Cond) ∈ lw_tbl := List.mem_of_getElem? (i := 468) (by decide +kernel)
theorem at_470 : (.instanceMethod yX0_waysTo : Cond) ∈ lw_tbl := List.mem_of_getElem? (i := 470) (by decide +kernel)
theorem at_471 : (.code yX0_waysTo cX0_waysTo 5 (some .int) : Cond) ∈ lw_tbl := List.mem_of_getElem? (i := 471) (by decide +kernel)
theorem at_472 : (.methodLink RX0 26 yX0_mayFollow : Cond) ∈ lw_tbl := List.mem_of_getElem? (i := 472) (by decide +kernel)
theorem at_474 : (.instanceMethod yX0_mayFollow : Cond) ∈ lw_tbl := List.mem_of_getElem? (i := 474) (by decide +kernel)
theorem at_475 : (.code yX0_mayFollow cX0_mayFollow 3 (some .boolean) : Cond) ∈ lw_tbl := List.mem_of_getElem? (i := 475) (by decide +kernel)
theorem at_476 : (.methodLink RX7 181 yX0_firstAt : Cond) ∈ lw_tbl := List.mem_of_getElem? (i := 476) (by decide +kernel)
theorem at_477 : (.instanceMethod yX0_firstAt : Cond) ∈ lw_tbl := List.mem_of_getElem? (i := 477) (by decide +kernel)
theorem at_478 : (.selects RX0 yX0_firstAt yX0_firstAt : Cond) ∈ lw_tbl := List.mem_of_getElem? (i := 478) (by decide +kernel)
theorem at_479 : (.code yX0_firstAt cX0_firstAt 5 (some .int) : Cond) ∈ lw_tbl := List.mem_of_getElem? (i := 479) (by decide +kernel)
theorem at_480 : (.methodLink RX0 30 yX0_howMany : Cond) ∈ lw_tbl := List.mem_of_getElem? (i := 480) (by decide +kernel)
theorem at_481 : (.methodLink RX0 34 yX0_leastThatMayFollow : Cond) ∈ lw_tbl := List.mem_of_getElem? (i := 481) (by decide +kernel)
theorem at_483 : (.instanceMethod yX0_leastThatMayFollow : Cond) ∈ lw_tbl := List.mem_of_getElem? (i := 483) (by decide +kernel)
theorem at_484 : (.code yX0_leastThatMayFollow cX0_leastThatMayFollow 3 (some .int) : Cond) ∈ lw_tbl := List.mem_of_getElem? (i := 484) (by decide +kernel)
theorem at_485 : (.methodLink RL 70 yX7_reading : Cond) ∈ lw_tbl := List.mem_of_getElem? (i := 485) (by decide +kernel)
theorem at_486 : (.instanceMethod yX7_reading : Cond) ∈ lw_tbl := List.mem_of_getElem? (i := 486) (by decide +kernel)
theorem at_487 : (.selects RX7 yX7_reading yX7_reading : Cond) ∈ lw_tbl := List.mem_of_getElem? (i := 487) (by decide +kernel)
theorem at_488 : (.code yX7_reading cX7_reading 3 (some .int) : Cond) ∈ lw_tbl := List.mem_of_getElem? (i := 488) (by decide +kernel)
theorem at_489 : (.methodLink RX7 184 yX1_note : Cond) ∈ lw_tbl := List.mem_of_getElem? (i := 489) (by decide +kernel)
theorem at_490 : (.instanceMethod yX1_note : Cond) ∈ lw_tbl := List.mem_of_getElem? (i := 490) (by decide +kernel)
theorem at_491 : (.selects RX1 yX1_note yX1_note : Cond) ∈ lw_tbl := List.mem_of_getElem? (i := 491) (by decide +kernel)
theorem at_492 : (.code yX1_note cX1_note 3 (some .int) : Cond) ∈ lw_tbl := List.mem_of_getElem? (i := 492) (by decide +kernel)
theorem at_493 : (.methodLink RL 74 yX7_back : Cond) ∈ lw_tbl := List.mem_of_getElem? (i := 493) (by decide +kernel)
theorem at_494 : (.instanceMethod yX7_back : Cond) ∈ lw_tbl := List.mem_of_getElem? (i := 494) (by decide +kernel)
theorem at_495 : (.selects RX7 yX7_back yX7_back : Cond) ∈ lw_tbl := List.mem_of_getElem? (i := 495) (by decide +kernel)
theorem at_496 : (.code yX7_back cX7_back 2 (some .int) : Cond) ∈ lw_tbl := List.mem_of_getElem? (i := 496) (by decide +kernel)
theorem at_497 : (.methodLink RL 78 yX7_pages : Cond) ∈ lw_tbl := List.mem_of_getElem? (i := 497) (by decide +kernel)
theorem at_498 : (.instanceMethod yX7_pages : Cond) ∈ lw_tbl := List.mem_of_getElem? (i := 498) (by decide +kernel)
theorem at_499 : (.selects RX7 yX7_pages yX7_pages : Cond) ∈ lw_tbl := List.mem_of_getElem? (i := 499) (by decide +kernel)
theorem at_500 : (.code yX7_pages cX7_pages 3 (some .int) : Cond) ∈ lw_tbl := List.mem_of_getElem? (i := 500) (by decide +kernel)
theorem at_501 : (.methodLink RX7 188 yX1_tryPages : Cond) ∈ lw_tbl := List.mem_of_getElem? (i := 501) (by decide +kernel)
theorem at_502 : (.instanceMethod yX1_tryPages : Cond) ∈ lw_tbl := List.mem_of_getElem? (i := 502) (by decide +kernel)
theorem at_503 : (.selects RX1 yX1_tryPages yX1_tryPages : Cond) ∈ lw_tbl := List.mem_of_getElem? (i := 503) (by decide +kernel)
theorem at_504 : (.code yX1_tryPages cX1_tryPages 4 none : Cond) ∈ lw_tbl := List.mem_of_getElem? (i := 504) (by decide +kernel)
theorem at_505 : (.methodLink RX1 33 yX4_becomeLike : Cond) ∈ lw_tbl := List.mem_of_getElem? (i := 505) (by decide +kernel)
theorem at_506 : (.methodLink RX1 49 yX1_allAreSo : Cond) ∈ lw_tbl := List.mem_of_getElem? (i := 506) (by decide +kernel)
theorem at_508 : (.instanceMethod yX1_allAreSo : Cond) ∈ lw_tbl := List.mem_of_getElem? (i := 508) (by decide +kernel)
theorem at_509 : (.code yX1_allAreSo cX1_allAreSo 2 (some .boolean) : Cond) ∈ lw_tbl := List.mem_of_getElem? (i := 509) (by decide +kernel)
theorem at_510 : (.methodLink RX1 29 yX4_leafOf : Cond) ∈ lw_tbl := List.mem_of_getElem? (i := 510) (by decide +kernel)
theorem at_511 : (.methodLink RL 82 yX7_kinds : Cond) ∈ lw_tbl := List.mem_of_getElem? (i := 511) (by decide +kernel)
theorem at_512 : (.instanceMethod yX7_kinds : Cond) ∈ lw_tbl := List.mem_of_getElem? (i := 512) (by decide +kernel)
theorem at_513 : (.selects RX7 yX7_kinds yX7_kinds : Cond) ∈ lw_tbl := List.mem_of_getElem? (i := 513) (by decide +kernel)
theorem at_514 : (.code yX7_kinds cX7_kinds 2 (some .int) : Cond) ∈ lw_tbl := List.mem_of_getElem? (i := 514) (by decide +kernel)
theorem at_515 : (.methodLink RX7 201 yX1_kindsOf : Cond) ∈ lw_tbl := List.mem_of_getElem? (i := 515) (by decide +kernel)
theorem at_516 : (.instanceMethod yX1_kindsOf : Cond) ∈ lw_tbl := List.mem_of_getElem? (i := 516) (by decide +kernel)
theorem at_517 : (.selects RX1 yX1_kindsOf yX1_kindsOf : Cond) ∈ lw_tbl := List.mem_of_getElem? (i := 517) (by decide +kernel)
theorem at_518 : (.code yX1_kindsOf cX1_kindsOf 5 (some .int) : Cond) ∈ lw_tbl := List.mem_of_getElem? (i := 518) (by decide +kernel)
theorem at_519 : (.methodLink RL 86 yX7_seen : Cond) ∈ lw_tbl := List.mem_of_getElem? (i := 519) (by decide +kernel)
theorem at_520 : (.instanceMethod yX7_seen : Cond) ∈ lw_tbl := List.mem_of_getElem? (i := 520) (by decide +kernel)
theorem at_521 : (.selects RX7 yX7_seen yX7_seen : Cond) ∈ lw_tbl := List.mem_of_getElem? (i := 521) (by decide +kernel)
theorem at_522 : (.code yX7_seen cX7_seen 2 (some .int) : Cond) ∈ lw_tbl := List.mem_of_getElem? (i := 522) (by decide +kernel)
theorem at_523 : (.methodLink RX7 205 yX1_seenOf : Cond) ∈ lw_tbl := List.mem_of_getElem? (i := 523) (by decide +kernel)
theorem at_524 : (.instanceMethod yX1_seenOf : Cond) ∈ lw_tbl := List.mem_of_getElem? (i := 524) (by decide +kernel)
theorem at_525 : (.selects RX1 yX1_seenOf yX1_seenOf : Cond) ∈ lw_tbl := List.mem_of_getElem? (i := 525) (by decide +kernel)
theorem at_526 : (.code yX1_seenOf cX1_seenOf 5 (some .int) : Cond) ∈ lw_tbl := List.mem_of_getElem? (i := 526) (by decide +kernel)
theorem at_527 : (.methodLink RL 90 yX7_odds : Cond) ∈ lw_tbl := List.mem_of_getElem? (i := 527) (by decide +kernel)
theorem at_528 : (.instanceMethod yX7_odds : Cond) ∈ lw_tbl := List.mem_of_getElem? (i := 528) (by decide +kernel)
theorem at_529 : (.selects RX7 yX7_odds yX7_odds : Cond) ∈ lw_tbl := List.mem_of_getElem? (i := 529) (by decide +kernel)
theorem at_530 : (.code yX7_odds cX7_odds 6 (some .long) : Cond) ∈ lw_tbl := List.mem_of_getElem? (i := 530) (by decide +kernel)
theorem at_531 : (.constantLong RX7 208 (-9223372036854775808) : Cond) ∈ lw_tbl := List.mem_of_getElem? (i := 531) (by decide +kernel)
theorem at_532 : (.methodLink RX7 210 yX7_greatestCommon : Cond) ∈ lw_tbl := List.mem_of_getElem? (i := 532) (by decide +kernel)
theorem at_533 : (.static yX7_greatestCommon : Cond) ∈ lw_tbl := List.mem_of_getElem? (i := 533) (by decide +kernel)
theorem at_534 : (.code yX7_greatestCommon cX7_greatestCommon 6 (some .int) : Cond) ∈ lw_tbl := List.mem_of_getElem? (i := 534) (by decide +kernel)
theorem at_535 : (.methodLink RL 95 yX7_sheet : Cond) ∈ lw_tbl := List.mem_of_getElem? (i := 535) (by decide +kernel)
theorem at_536 : (.instanceMethod yX7_sheet : Cond) ∈ lw_tbl := List.mem_of_getElem? (i := 536) (by decide +kernel)
theorem at_537 : (.selects RX7 yX7_sheet yX7_sheet : Cond) ∈ lw_tbl := List.mem_of_getElem? (i := 537) (by decide +kernel)
theorem at_538 : (.code yX7_sheet cX7_sheet 4 (some .int) : Cond) ∈ lw_tbl := List.mem_of_getElem? (i := 538) (by decide +kernel)
theorem at_539 : (.methodLink RX7 213 yX2_renew : Cond) ∈ lw_tbl := List.mem_of_getElem? (i := 539) (by decide +kernel)
theorem at_540 : (.instanceMethod yX2_renew : Cond) ∈ lw_tbl := List.mem_of_getElem? (i := 540) (by decide +kernel)
theorem at_541 : (.selects RX2 yX2_renew yX2_renew : Cond) ∈ lw_tbl := List.mem_of_getElem? (i := 541) (by decide +kernel)
theorem at_542 : (.code yX2_renew cX2_renew 4 none : Cond) ∈ lw_tbl := List.mem_of_getElem? (i := 542) (by decide +kernel)
theorem at_543 : (.methodLink RL 100 yX7_lose : Cond) ∈ lw_tbl := List.mem_of_getElem? (i := 543) (by decide +kernel)
theorem at_544 : (.instanceMethod yX7_lose : Cond) ∈ lw_tbl := List.mem_of_getElem? (i := 544) (by decide +kernel)
theorem at_545 : (.selects RX7 yX7_lose yX7_lose : Cond) ∈ lw_tbl := List.mem_of_getElem? (i := 545) (by decide +kernel)
theorem at_546 : (.code yX7_lose cX7_lose 2 (some .int) : Cond) ∈ lw_tbl := List.mem_of_getElem? (i := 546) (by decide +kernel)
theorem at_547 : (.methodLink RL 104 yX7_put : Cond) ∈ lw_tbl := List.mem_of_getElem? (i := 547) (by decide +kernel)
theorem at_548 : (.instanceMethod yX7_put : Cond) ∈ lw_tbl := List.mem_of_getElem? (i := 548) (by decide +kernel)
theorem at_549 : (.selects RX7 yX7_put yX7_put : Cond) ∈ lw_tbl := List.mem_of_getElem? (i := 549) (by decide +kernel)
theorem at_550 : (.code yX7_put cX7_put 5 (some .int) : Cond) ∈ lw_tbl := List.mem_of_getElem? (i := 550) (by decide +kernel)
theorem at_551 : (.methodLink RX7 226 yX7_cutTo : Cond) ∈ lw_tbl := List.mem_of_getElem? (i := 551) (by decide +kernel)
theorem at_552 : (.static yX7_cutTo : Cond) ∈ lw_tbl := List.mem_of_getElem? (i := 552) (by decide +kernel)
theorem at_553 : (.code yX7_cutTo cX7_cutTo 2 (some .int) : Cond) ∈ lw_tbl := List.mem_of_getElem? (i := 553) (by decide +kernel)
theorem at_554 : (.methodLink RL 108 yX7_cell : Cond) ∈ lw_tbl := List.mem_of_getElem? (i := 554) (by decide +kernel)
theorem at_555 : (.instanceMethod yX7_cell : Cond) ∈ lw_tbl := List.mem_of_getElem? (i := 555) (by decide +kernel)
theorem at_556 : (.selects RX7 yX7_cell yX7_cell : Cond) ∈ lw_tbl := List.mem_of_getElem? (i := 556) (by decide +kernel)
theorem at_557 : (.code yX7_cell cX7_cell 6 (some .long) : Cond) ∈ lw_tbl := List.mem_of_getElem? (i := 557) (by decide +kernel)
theorem at_558 : (.methodLink RL 113 yX7_copy : Cond) ∈ lw_tbl := List.mem_of_getElem? (i := 558) (by decide +kernel)
theorem at_559 : (.instanceMethod yX7_copy : Cond) ∈ lw_tbl := List.mem_of_getElem? (i := 559) (by decide +kernel)
theorem at_560 : (.selects RX7 yX7_copy yX7_copy : Cond) ∈ lw_tbl := List.mem_of_getElem? (i := 560) (by decide +kernel)
theorem at_561 : (.code yX7_copy cX7_copy 8 (some .int) : Cond) ∈ lw_tbl := List.mem_of_getElem? (i := 561) (by decide +kernel)
theorem at_562 : (.methodLink RX7 229 yX2_holds : Cond) ∈ lw_tbl := List.mem_of_getElem? (i := 562) (by decide +kernel)
theorem at_563 : (.methodLink RX7 233 arraycopyName : Cond) ∈ lw_tbl := List.mem_of_getElem? (i := 563) (by decide +kernel)
theorem at_564 : (.static arraycopyName : Cond) ∈ lw_tbl := List.mem_of_getElem? (i := 564) (by decide +kernel)
theorem at_565 : (.native arraycopyName : Cond) ∈ lw_tbl := List.mem_of_getElem? (i := 565) (by decide +kernel)
theorem at_566 : (.methodLink RL 117 yX7_tell : Cond) ∈ lw_tbl := List.mem_of_getElem? (i := 566) (by decide +kernel)
theorem at_567 : (.instanceMethod yX7_tell : Cond) ∈ lw_tbl := List.mem_of_getElem? (i := 567) (by decide +kernel)
theorem at_568 : (.selects RX7 yX7_tell yX7_tell : Cond) ∈ lw_tbl := List.mem_of_getElem? (i := 568) (by decide +kernel)
theorem at_569 : (.code yX7_tell cX7_tell 2 (some .int) : Cond) ∈ lw_tbl := List.mem_of_getElem? (i := 569) (by decide +kernel)
theorem at_570 : (.methodLink RX7 239 yX7_dashBody : Cond) ∈ lw_tbl := List.mem_of_getElem? (i := 570) (by decide +kernel)
theorem at_572 : (.instanceMethod yX7_dashBody : Cond) ∈ lw_tbl := List.mem_of_getElem? (i := 572) (by decide +kernel)
theorem at_573 : (.code yX7_dashBody cX7_dashBody 2 (some .int) : Cond) ∈ lw_tbl := List.mem_of_getElem? (i := 573) (by decide +kernel)
theorem at_574 : (.methodLink RX7 248 yX7_leaveInTrace : Cond) ∈ lw_tbl := List.mem_of_getElem? (i := 574) (by decide +kernel)
theorem at_576 : (.instanceMethod yX7_leaveInTrace : Cond) ∈ lw_tbl := List.mem_of_getElem? (i := 576) (by decide +kernel)
theorem at_577 : (.code yX7_leaveInTrace cX7_leaveInTrace 2 none : Cond) ∈ lw_tbl := List.mem_of_getElem? (i := 577) (by decide +kernel)
theorem at_578 : (.methodLink RX7 245 yX7_lineBody : Cond) ∈ lw_tbl := List.mem_of_getElem? (i := 578) (by decide +kernel)
theorem at_580 : (.instanceMethod yX7_lineBody : Cond) ∈ lw_tbl := List.mem_of_getElem? (i := 580) (by decide +kernel)
theorem at_581 : (.code yX7_lineBody cX7_lineBody 2 (some .int) : Cond) ∈ lw_tbl := List.mem_of_getElem? (i := 581) (by decide +kernel)
theorem at_582 : (.methodLink RX7 242 yX7_boldBody : Cond) ∈ lw_tbl := List.mem_of_getElem? (i := 582) (by decide +kernel)
theorem at_584 : (.instanceMethod yX7_boldBody : Cond) ∈ lw_tbl := List.mem_of_getElem? (i := 584) (by decide +kernel)
theorem at_585 : (.code yX7_boldBody cX7_boldBody 3 (some .int) : Cond) ∈ lw_tbl := List.mem_of_getElem? (i := 585) (by decide +kernel)
theorem at_586 : (.methodLink RL 121 yX7_quote : Cond) ∈ lw_tbl := List.mem_of_getElem? (i := 586) (by decide +kernel)
theorem at_587 : (.instanceMethod yX7_quote : Cond) ∈ lw_tbl := List.mem_of_getElem? (i := 587) (by decide +kernel)
theorem at_588 : (.selects RX7 yX7_quote yX7_quote : Cond) ∈ lw_tbl := List.mem_of_getElem? (i := 588) (by decide +kernel)
theorem at_589 : (.code yX7_quote cX7_quote 2 (some .int) : Cond) ∈ lw_tbl := List.mem_of_getElem? (i := 589) (by decide +kernel)
theorem at_590 : (.methodLink RL 125 yX7_as : Cond) ∈ lw_tbl := List.mem_of_getElem? (i := 590) (by decide +kernel)
theorem at_591 : (.instanceMethod yX7_as : Cond) ∈ lw_tbl := List.mem_of_getElem? (i := 591) (by decide +kernel)
theorem at_592 : (.selects RX7 yX7_as yX7_as : Cond) ∈ lw_tbl := List.mem_of_getElem? (i := 592) (by decide +kernel)
theorem at_593 : (.code yX7_as cX7_as 3 (some .int) : Cond) ∈ lw_tbl := List.mem_of_getElem? (i := 593) (by decide +kernel)
theorem at_594 : (.methodLink RX7 251 yX7_isKind : Cond) ∈ lw_tbl := List.mem_of_getElem? (i := 594) (by decide +kernel)
theorem at_595 : (.static yX7_isKind : Cond) ∈ lw_tbl := List.mem_of_getElem? (i := 595) (by decide +kernel)
theorem at_596 : (.code yX7_isKind cX7_isKind 1 (some .boolean) : Cond) ∈ lw_tbl := List.mem_of_getElem? (i := 596) (by decide +kernel)
theorem at_597 : (.methodLink RL 129 yX7_trace : Cond) ∈ lw_tbl := List.mem_of_getElem? (i := 597) (by decide +kernel)
theorem at_598 : (.instanceMethod yX7_trace : Cond) ∈ lw_tbl := List.mem_of_getElem? (i := 598) (by decide +kernel)
theorem at_599 : (.selects RX7 yX7_trace yX7_trace : Cond) ∈ lw_tbl := List.mem_of_getElem? (i := 599) (by decide +kernel)
theorem at_600 : (.code yX7_trace cX7_trace 1 (some .int) : Cond) ∈ lw_tbl := List.mem_of_getElem? (i := 600) (by decide +kernel)
theorem at_601 : (.methodLink RL 133 yX7_fault : Cond) ∈ lw_tbl := List.mem_of_getElem? (i := 601) (by decide +kernel)
theorem at_602 : (.instanceMethod yX7_fault : Cond) ∈ lw_tbl := List.mem_of_getElem? (i := 602) (by decide +kernel)
theorem at_603 : (.selects RX7 yX7_fault yX7_fault : Cond) ∈ lw_tbl := List.mem_of_getElem? (i := 603) (by decide +kernel)
theorem at_604 : (.code yX7_fault cX7_fault 1 (some .int) : Cond) ∈ lw_tbl := List.mem_of_getElem? (i := 604) (by decide +kernel)
theorem at_605 : (.methodLink RL 137 yX7_many : Cond) ∈ lw_tbl := List.mem_of_getElem? (i := 605) (by decide +kernel)
theorem at_606 : (.instanceMethod yX7_many : Cond) ∈ lw_tbl := List.mem_of_getElem? (i := 606) (by decide +kernel)
theorem at_607 : (.selects RX7 yX7_many yX7_many : Cond) ∈ lw_tbl := List.mem_of_getElem? (i := 607) (by decide +kernel)
theorem at_608 : (.code yX7_many cX7_many 2 (some .int) : Cond) ∈ lw_tbl := List.mem_of_getElem? (i := 608) (by decide +kernel)
theorem at_609 : (.classLink RL 10 RX8 : Cond) ∈ lw_tbl := List.mem_of_getElem? (i := 609) (by decide +kernel)
theorem at_610 : (.instantiable RX8 30 : Cond) ∈ lw_tbl := List.mem_of_getElem? (i := 610) (by decide +kernel)
theorem at_611 : (.methodLink RL 12 yX8_init : Cond) ∈ lw_tbl := List.mem_of_getElem? (i := 611) (by decide +kernel)
theorem at_612 : (.instanceMethod yX8_init : Cond) ∈ lw_tbl := List.mem_of_getElem? (i := 612) (by decide +kernel)
theorem at_613 : (.code yX8_init cX8_init 1 none : Cond) ∈ lw_tbl := List.mem_of_getElem? (i := 613) (by decide +kernel)
theorem at_614 : (.methodLink RX8 1 objectInit : Cond) ∈ lw_tbl := List.mem_of_getElem? (i := 614) (by decide +kernel)
theorem at_615 : (.fieldLink RX8 61 "WorldIndexModel" "fault" "I" : Cond) ∈ lw_tbl := List.mem_of_getElem? (i := 615) (by decide +kernel)
theorem at_616 : (.fieldLink RX8 204 "WorldIndexModel" "trace" "I" : Cond) ∈ lw_tbl := List.mem_of_getElem? (i := 616) (by decide +kernel)
theorem at_617 : (.fieldLink RX8 9 "WorldIndexModel" "sorts" "[I" : Cond) ∈ lw_tbl := List.mem_of_getElem? (i := 617) (by decide +kernel)
theorem at_618 : (.fieldLink RX8 13 "WorldIndexModel" "sheetLong" "[I" : Cond) ∈ lw_tbl := List.mem_of_getElem? (i := 618) (by decide +kernel)
theorem at_619 : (.fieldLink RX8 16 "WorldIndexModel" "cells" "[I" : Cond) ∈ lw_tbl := List.mem_of_getElem? (i := 619) (by decide +kernel)
theorem at_620 : (.fieldLink RX8 71 "WorldIndexModel" "slips" "I" : Cond) ∈ lw_tbl := List.mem_of_getElem? (i := 620) (by decide +kernel)
theorem at_621 : (.fieldLink RX8 101 "WorldIndexModel" "questions" "I" : Cond) ∈ lw_tbl := List.mem_of_getElem? (i := 621) (by decide +kernel)
theorem at_622 : (.fieldLink RX8 104 "WorldIndexModel" "wetOnes" "I" : Cond) ∈ lw_tbl := List.mem_of_getElem? (i := 622) (by decide +kernel)
theorem at_623 : (.fieldLink RX8 19 "WorldIndexModel" "kind" "[I" : Cond) ∈ lw_tbl := List.mem_of_getElem? (i := 623) (by decide +kernel)
theorem at_624 : (.fieldLink RX8 22 "WorldIndexModel" "page" "[I" : Cond) ∈ lw_tbl := List.mem_of_getElem? (i := 624) (by decide +kernel)
theorem at_625 : (.fieldLink RX8 25 "WorldIndexModel" "asked" "[I" : Cond) ∈ lw_tbl := List.mem_of_getElem? (i := 625) (by decide +kernel)
theorem at_626 : (.fieldLink RX8 28 "WorldIndexModel" "sees" "[I" : Cond) ∈ lw_tbl := List.mem_of_getElem? (i := 626) (by decide +kernel)
theorem at_627 : (.fieldLink RX8 74 "WorldIndexModel" "at" "I" : Cond) ∈ lw_tbl := List.mem_of_getElem? (i := 627) (by decide +kernel)
theorem at_628 : (.fieldLink RX8 98 "WorldIndexModel" "readSlips" "I" : Cond) ∈ lw_tbl := List.mem_of_getElem? (i := 628) (by decide +kernel)
theorem at_629 : (.fieldLink RX8 31 "WorldIndexModel" "read" "[I" : Cond) ∈ lw_tbl := List.mem_of_getElem? (i := 629) (by decide +kernel)
theorem at_630 : (.fieldLink RX8 121 "WorldIndexModel" "looked" "I" : Cond) ∈ lw_tbl := List.mem_of_getElem? (i := 630) (by decide +kernel)
theorem at_631 : (.fieldLink RX8 34 "WorldIndexModel" "keptSees" "[I" : Cond) ∈ lw_tbl := List.mem_of_getElem? (i := 631) (by decide +kernel)
theorem at_632 : (.fieldLink RX8 145 "WorldIndexModel" "sumOfLeaves" "I" : Cond) ∈ lw_tbl := List.mem_of_getElem? (i := 632) (by decide +kernel)
theorem at_633 : (.fieldLink RX8 142 "WorldIndexModel" "ledTo" "I" : Cond) ∈ lw_tbl := List.mem_of_getElem? (i := 633) (by decide +kernel)
theorem at_634 : (.fieldLink RX8 148 "WorldIndexModel" "firstWrong" "I" : Cond) ∈ lw_tbl := List.mem_of_getElem? (i := 634) (by decide +kernel)
theorem at_635 : (.fieldLink RX8 37 "WorldIndexModel" "dryOnes" "[I" : Cond) ∈ lw_tbl := List.mem_of_getElem? (i := 635) (by decide +kernel)
theorem at_636 : (.fieldLink RX8 170 "WorldIndexModel" "dryMany" "I" : Cond) ∈ lw_tbl := List.mem_of_getElem? (i := 636) (by decide +kernel)
theorem at_637 : (.fieldLink RX8 40 "WorldIndexModel" "costs" "[I" : Cond) ∈ lw_tbl := List.mem_of_getElem? (i := 637) (by decide +kernel)
theorem at_638 : (.fieldLink RX8 43 "WorldIndexModel" "roots" "[I" : Cond) ∈ lw_tbl := List.mem_of_getElem? (i := 638) (by decide +kernel)
theorem at_639 : (.fieldLink RX8 46 "WorldIndexModel" "depth" "[I" : Cond) ∈ lw_tbl := List.mem_of_getElem? (i := 639) (by decide +kernel)
theorem at_640 : (.fieldLink RX8 49 "WorldIndexModel" "row" "[I" : Cond) ∈ lw_tbl := List.mem_of_getElem? (i := 640) (by decide +kernel)
theorem at_641 : (.fieldLink RX8 52 "WorldIndexModel" "placeOf" "[I" : Cond) ∈ lw_tbl := List.mem_of_getElem? (i := 641) (by decide +kernel)
theorem at_642 : (.fieldLink RX8 107 "WorldIndexModel" "readings" "I" : Cond) ∈ lw_tbl := List.mem_of_getElem? (i := 642) (by decide +kernel)
theorem at_643 : (.fieldLink RX8 55 "WorldIndexModel" "readWhich" "[I" : Cond) ∈ lw_tbl := List.mem_of_getElem? (i := 643) (by decide +kernel)
theorem at_644 : (.fieldLink RX8 58 "WorldIndexModel" "readLeaf" "[I" : Cond) ∈ lw_tbl := List.mem_of_getElem? (i := 644) (by decide +kernel)
theorem at_706 : (.methodLink RL 17 yX8_book : Cond) ∈ lw_tbl := List.mem_of_getElem? (i := 706) (by decide +kernel)
theorem at_707 : (.instanceMethod yX8_book : Cond) ∈ lw_tbl := List.mem_of_getElem? (i := 707) (by decide +kernel)
theorem at_708 : (.selects RX8 yX8_book yX8_book : Cond) ∈ lw_tbl := List.mem_of_getElem? (i := 708) (by decide +kernel)
theorem at_709 : (.code yX8_book cX8_book 7 (some .int) : Cond) ∈ lw_tbl := List.mem_of_getElem? (i := 709) (by decide +kernel)
theorem at_710 : (.methodLink RX8 77 yX8_isSheet : Cond) ∈ lw_tbl := List.mem_of_getElem? (i := 710) (by decide +kernel)
theorem at_711 : (.static yX8_isSheet : Cond) ∈ lw_tbl := List.mem_of_getElem? (i := 711) (by decide +kernel)
theorem at_712 : (.code yX8_isSheet cX8_isSheet 1 (some .boolean) : Cond) ∈ lw_tbl := List.mem_of_getElem? (i := 712) (by decide +kernel)
theorem at_713 : (.methodLink RX8 67 yX8_within : Cond) ∈ lw_tbl := List.mem_of_getElem? (i := 713) (by decide +kernel)
theorem at_714 : (.static yX8_within : Cond) ∈ lw_tbl := List.mem_of_getElem? (i := 714) (by decide +kernel)
theorem at_715 : (.code yX8_within cX8_within 3 (some .boolean) : Cond) ∈ lw_tbl := List.mem_of_getElem? (i := 715) (by decide +kernel)
theorem at_716 : (.methodLink RX8 81 yX8_isSort : Cond) ∈ lw_tbl := List.mem_of_getElem? (i := 716) (by decide +kernel)
theorem at_717 : (.static yX8_isSort : Cond) ∈ lw_tbl := List.mem_of_getElem? (i := 717) (by decide +kernel)
theorem at_718 : (.code yX8_isSort cX8_isSort 1 (some .boolean) : Cond) ∈ lw_tbl := List.mem_of_getElem? (i := 718) (by decide +kernel)
theorem at_719 : (.methodLink RX8 84 yX8_against : Cond) ∈ lw_tbl := List.mem_of_getElem? (i := 719) (by decide +kernel)
theorem at_721 : (.instanceMethod yX8_against : Cond) ∈ lw_tbl := List.mem_of_getElem? (i := 721) (by decide +kernel)
theorem at_722 : (.code yX8_against cX8_against 5 (some .int) : Cond) ∈ lw_tbl := List.mem_of_getElem? (i := 722) (by decide +kernel)
theorem at_723 : (.methodLink RX8 88 yX8_fails : Cond) ∈ lw_tbl := List.mem_of_getElem? (i := 723) (by decide +kernel)
theorem at_725 : (.instanceMethod yX8_fails : Cond) ∈ lw_tbl := List.mem_of_getElem? (i := 725) (by decide +kernel)
theorem at_726 : (.code yX8_fails cX8_fails 2 (some .int) : Cond) ∈ lw_tbl := List.mem_of_getElem? (i := 726) (by decide +kernel)
theorem at_727 : (.methodLink RX8 92 yX8_readBook : Cond) ∈ lw_tbl := List.mem_of_getElem? (i := 727) (by decide +kernel)
theorem at_729 : (.instanceMethod yX8_readBook : Cond) ∈ lw_tbl := List.mem_of_getElem? (i := 729) (by decide +kernel)
theorem at_730 : (.code yX8_readBook cX8_readBook 2 (some .boolean) : Cond) ∈ lw_tbl := List.mem_of_getElem? (i := 730) (by decide +kernel)
theorem at_731 : (.methodLink RX8 110 yX8_isSign : Cond) ∈ lw_tbl := List.mem_of_getElem? (i := 731) (by decide +kernel)
theorem at_733 : (.instanceMethod yX8_isSign : Cond) ∈ lw_tbl := List.mem_of_getElem? (i := 733) (by decide +kernel)
theorem at_734 : (.code yX8_isSign cX8_isSign 3 (some .boolean) : Cond) ∈ lw_tbl := List.mem_of_getElem? (i := 734) (by decide +kernel)
theorem at_735 : (.methodLink RX8 114 yX8_readSlip : Cond) ∈ lw_tbl := List.mem_of_getElem? (i := 735) (by decide +kernel)
theorem at_737 : (.instanceMethod yX8_readSlip : Cond) ∈ lw_tbl := List.mem_of_getElem? (i := 737) (by decide +kernel)
theorem at_738 : (.code yX8_readSlip cX8_readSlip 6 (some .boolean) : Cond) ∈ lw_tbl := List.mem_of_getElem? (i := 738) (by decide +kernel)
theorem at_739 : (.methodLink RX8 117 yX8_digit : Cond) ∈ lw_tbl := List.mem_of_getElem? (i := 739) (by decide +kernel)
theorem at_741 : (.instanceMethod yX8_digit : Cond) ∈ lw_tbl := List.mem_of_getElem? (i := 741) (by decide +kernel)
theorem at_742 : (.code yX8_digit cX8_digit 3 (some .int) : Cond) ∈ lw_tbl := List.mem_of_getElem? (i := 742) (by decide +kernel)
theorem at_743 : (.methodLink RX8 95 yX8_takeBook : Cond) ∈ lw_tbl := List.mem_of_getElem? (i := 743) (by decide +kernel)
theorem at_745 : (.instanceMethod yX8_takeBook : Cond) ∈ lw_tbl := List.mem_of_getElem? (i := 745) (by decide +kernel)
theorem at_746 : (.code yX8_takeBook cX8_takeBook 2 none : Cond) ∈ lw_tbl := List.mem_of_getElem? (i := 746) (by decide +kernel)
theorem at_747 : (.methodLink RL 22 yX8_ofSlip : Cond) ∈ lw_tbl := List.mem_of_getElem? (i := 747) (by decide +kernel)
theorem at_748 : (.instanceMethod yX8_ofSlip : Cond) ∈ lw_tbl := List.mem_of_getElem? (i := 748) (by decide +kernel)
theorem at_749 : (.selects RX8 yX8_ofSlip yX8_ofSlip : Cond) ∈ lw_tbl := List.mem_of_getElem? (i := 749) (by decide +kernel)
theorem at_750 : (.code yX8_ofSlip cX8_ofSlip 3 (some .int) : Cond) ∈ lw_tbl := List.mem_of_getElem? (i := 750) (by decide +kernel)
theorem at_751 : (.methodLink RX8 133 yX8_isSlip : Cond) ∈ lw_tbl := List.mem_of_getElem? (i := 751) (by decide +kernel)
theorem at_753 : (.instanceMethod yX8_isSlip : Cond) ∈ lw_tbl := List.mem_of_getElem? (i := 753) (by decide +kernel)
theorem at_754 : (.code yX8_isSlip cX8_isSlip 2 (some .boolean) : Cond) ∈ lw_tbl := List.mem_of_getElem? (i := 754) (by decide +kernel)
theorem at_755 : (.methodLink RX8 130 yX8_leafOf : Cond) ∈ lw_tbl := List.mem_of_getElem? (i := 755) (by decide +kernel)
theorem at_757 : (.instanceMethod yX8_leafOf : Cond) ∈ lw_tbl := List.mem_of_getElem? (i := 757) (by decide +kernel)
theorem at_758 : (.code yX8_leafOf cX8_leafOf 3 (some .int) : Cond) ∈ lw_tbl := List.mem_of_getElem? (i := 758) (by decide +kernel)
theorem at_759 : (.methodLink RX8 124 yX8_isOf : Cond) ∈ lw_tbl := List.mem_of_getElem? (i := 759) (by decide +kernel)
theorem at_760 : (.static yX8_isOf : Cond) ∈ lw_tbl := List.mem_of_getElem? (i := 760) (by decide +kernel)
theorem at_761 : (.code yX8_isOf cX8_isOf 2 (some .boolean) : Cond) ∈ lw_tbl := List.mem_of_getElem? (i := 761) (by decide +kernel)
theorem at_762 : (.methodLink RX8 127 yX8_pointsOf : Cond) ∈ lw_tbl := List.mem_of_getElem? (i := 762) (by decide +kernel)
theorem at_764 : (.instanceMethod yX8_pointsOf : Cond) ∈ lw_tbl := List.mem_of_getElem? (i := 764) (by decide +kernel)
theorem at_765 : (.code yX8_pointsOf cX8_pointsOf 2 (some .int) : Cond) ∈ lw_tbl := List.mem_of_getElem? (i := 765) (by decide +kernel)
theorem at_766 : (.methodLink RX8 136 yX8_looksOf : Cond) ∈ lw_tbl := List.mem_of_getElem? (i := 766) (by decide +kernel)
theorem at_768 : (.instanceMethod yX8_looksOf : Cond) ∈ lw_tbl := List.mem_of_getElem? (i := 768) (by decide +kernel)
theorem at_769 : (.code yX8_looksOf cX8_looksOf 2 (some .int) : Cond) ∈ lw_tbl := List.mem_of_getElem? (i := 769) (by decide +kernel)
theorem at_770 : (.methodLink RL 26 yX8_want : Cond) ∈ lw_tbl := List.mem_of_getElem? (i := 770) (by decide +kernel)
theorem at_771 : (.instanceMethod yX8_want : Cond) ∈ lw_tbl := List.mem_of_getElem? (i := 771) (by decide +kernel)
theorem at_772 : (.selects RX8 yX8_want yX8_want : Cond) ∈ lw_tbl := List.mem_of_getElem? (i := 772) (by decide +kernel)
theorem at_773 : (.code yX8_want cX8_want 4 (some .int) : Cond) ∈ lw_tbl := List.mem_of_getElem? (i := 773) (by decide +kernel)
theorem at_774 : (.methodLink RL 30 yX8_see : Cond) ∈ lw_tbl := List.mem_of_getElem? (i := 774) (by decide +kernel)
theorem at_775 : (.instanceMethod yX8_see : Cond) ∈ lw_tbl := List.mem_of_getElem? (i := 775) (by decide +kernel)
theorem at_776 : (.selects RX8 yX8_see yX8_see : Cond) ∈ lw_tbl := List.mem_of_getElem? (i := 776) (by decide +kernel)
theorem at_777 : (.code yX8_see cX8_see 4 (some .int) : Cond) ∈ lw_tbl := List.mem_of_getElem? (i := 777) (by decide +kernel)
theorem at_778 : (.methodLink RL 35 yX8_ask : Cond) ∈ lw_tbl := List.mem_of_getElem? (i := 778) (by decide +kernel)
theorem at_779 : (.instanceMethod yX8_ask : Cond) ∈ lw_tbl := List.mem_of_getElem? (i := 779) (by decide +kernel)
theorem at_780 : (.selects RX8 yX8_ask yX8_ask : Cond) ∈ lw_tbl := List.mem_of_getElem? (i := 780) (by decide +kernel)
theorem at_781 : (.code yX8_ask cX8_ask 2 (some .int) : Cond) ∈ lw_tbl := List.mem_of_getElem? (i := 781) (by decide +kernel)
theorem at_782 : (.methodLink RL 39 yX8_wet : Cond) ∈ lw_tbl := List.mem_of_getElem? (i := 782) (by decide +kernel)
theorem at_783 : (.instanceMethod yX8_wet : Cond) ∈ lw_tbl := List.mem_of_getElem? (i := 783) (by decide +kernel)
theorem at_784 : (.selects RX8 yX8_wet yX8_wet : Cond) ∈ lw_tbl := List.mem_of_getElem? (i := 784) (by decide +kernel)
theorem at_785 : (.code yX8_wet cX8_wet 2 (some .int) : Cond) ∈ lw_tbl := List.mem_of_getElem? (i := 785) (by decide +kernel)
theorem at_786 : (.methodLink RX8 139 yX8_size : Cond) ∈ lw_tbl := List.mem_of_getElem? (i := 786) (by decide +kernel)
theorem at_787 : (.static yX8_size : Cond) ∈ lw_tbl := List.mem_of_getElem? (i := 787) (by decide +kernel)
theorem at_788 : (.code yX8_size cX8_size 3 (some .int) : Cond) ∈ lw_tbl := List.mem_of_getElem? (i := 788) (by decide +kernel)
theorem at_789 : (.methodLink RL 43 yX8_dry : Cond) ∈ lw_tbl := List.mem_of_getElem? (i := 789) (by decide +kernel)
theorem at_790 : (.instanceMethod yX8_dry : Cond) ∈ lw_tbl := List.mem_of_getElem? (i := 790) (by decide +kernel)
theorem at_791 : (.selects RX8 yX8_dry yX8_dry : Cond) ∈ lw_tbl := List.mem_of_getElem? (i := 791) (by decide +kernel)
theorem at_792 : (.code yX8_dry cX8_dry 2 (some .int) : Cond) ∈ lw_tbl := List.mem_of_getElem? (i := 792) (by decide +kernel)
theorem at_793 : (.methodLink RL 47 yX8_leads : Cond) ∈ lw_tbl := List.mem_of_getElem? (i := 793) (by decide +kernel)
theorem at_794 : (.instanceMethod yX8_leads : Cond) ∈ lw_tbl := List.mem_of_getElem? (i := 794) (by decide +kernel)
theorem at_795 : (.selects RX8 yX8_leads yX8_leads : Cond) ∈ lw_tbl := List.mem_of_getElem? (i := 795) (by decide +kernel)
theorem at_796 : (.code yX8_leads cX8_leads 4 (some .int) : Cond) ∈ lw_tbl := List.mem_of_getElem? (i := 796) (by decide +kernel)
theorem at_797 : (.methodLink RL 52 yX8_years : Cond) ∈ lw_tbl := List.mem_of_getElem? (i := 797) (by decide +kernel)
theorem at_798 : (.instanceMethod yX8_years : Cond) ∈ lw_tbl := List.mem_of_getElem? (i := 798) (by decide +kernel)
theorem at_799 : (.selects RX8 yX8_years yX8_years : Cond) ∈ lw_tbl := List.mem_of_getElem? (i := 799) (by decide +kernel)
theorem at_800 : (.code yX8_years cX8_years 11 (some .int) : Cond) ∈ lw_tbl := List.mem_of_getElem? (i := 800) (by decide +kernel)
theorem at_801 : (.methodLink RX8 154 yX8_refusesPair : Cond) ∈ lw_tbl := List.mem_of_getElem? (i := 801) (by decide +kernel)
theorem at_803 : (.instanceMethod yX8_refusesPair : Cond) ∈ lw_tbl := List.mem_of_getElem? (i := 803) (by decide +kernel)
theorem at_804 : (.code yX8_refusesPair cX8_refusesPair 3 (some .int) : Cond) ∈ lw_tbl := List.mem_of_getElem? (i := 804) (by decide +kernel)
theorem at_805 : (.methodLink RX8 157 yX8_goYears : Cond) ∈ lw_tbl := List.mem_of_getElem? (i := 805) (by decide +kernel)
theorem at_807 : (.instanceMethod yX8_goYears : Cond) ∈ lw_tbl := List.mem_of_getElem? (i := 807) (by decide +kernel)
theorem at_808 : (.code yX8_goYears cX8_goYears 5 none : Cond) ∈ lw_tbl := List.mem_of_getElem? (i := 808) (by decide +kernel)
theorem at_809 : (.methodLink RX8 151 yX8_does : Cond) ∈ lw_tbl := List.mem_of_getElem? (i := 809) (by decide +kernel)
theorem at_811 : (.instanceMethod yX8_does : Cond) ∈ lw_tbl := List.mem_of_getElem? (i := 811) (by decide +kernel)
theorem at_812 : (.code yX8_does cX8_does 4 (some .boolean) : Cond) ∈ lw_tbl := List.mem_of_getElem? (i := 812) (by decide +kernel)
theorem at_813 : (.methodLink RX8 161 yX8_tellYears : Cond) ∈ lw_tbl := List.mem_of_getElem? (i := 813) (by decide +kernel)
theorem at_815 : (.instanceMethod yX8_tellYears : Cond) ∈ lw_tbl := List.mem_of_getElem? (i := 815) (by decide +kernel)
theorem at_816 : (.code yX8_tellYears cX8_tellYears 2 (some .int) : Cond) ∈ lw_tbl := List.mem_of_getElem? (i := 816) (by decide +kernel)
theorem at_817 : (.methodLink RL 56 yX8_rings : Cond) ∈ lw_tbl := List.mem_of_getElem? (i := 817) (by decide +kernel)
theorem at_818 : (.instanceMethod yX8_rings : Cond) ∈ lw_tbl := List.mem_of_getElem? (i := 818) (by decide +kernel)
theorem at_819 : (.selects RX8 yX8_rings yX8_rings : Cond) ∈ lw_tbl := List.mem_of_getElem? (i := 819) (by decide +kernel)
theorem at_820 : (.code yX8_rings cX8_rings 5 (some .int) : Cond) ∈ lw_tbl := List.mem_of_getElem? (i := 820) (by decide +kernel)
theorem at_821 : (.methodLink RX8 164 yX8_ringOf : Cond) ∈ lw_tbl := List.mem_of_getElem? (i := 821) (by decide +kernel)
theorem at_823 : (.instanceMethod yX8_ringOf : Cond) ∈ lw_tbl := List.mem_of_getElem? (i := 823) (by decide +kernel)
theorem at_824 : (.code yX8_ringOf cX8_ringOf 5 (some .int) : Cond) ∈ lw_tbl := List.mem_of_getElem? (i := 824) (by decide +kernel)
theorem at_825 : (.methodLink RX8 167 yX8_isLeastOf : Cond) ∈ lw_tbl := List.mem_of_getElem? (i := 825) (by decide +kernel)
theorem at_826 : (.static yX8_isLeastOf : Cond) ∈ lw_tbl := List.mem_of_getElem? (i := 826) (by decide +kernel)
theorem at_827 : (.code yX8_isLeastOf cX8_isLeastOf 2 (some .boolean) : Cond) ∈ lw_tbl := List.mem_of_getElem? (i := 827) (by decide +kernel)
theorem at_828 : (.methodLink RL 61 yX8_cuts : Cond) ∈ lw_tbl := List.mem_of_getElem? (i := 828) (by decide +kernel)
theorem at_829 : (.instanceMethod yX8_cuts : Cond) ∈ lw_tbl := List.mem_of_getElem? (i := 829) (by decide +kernel)
theorem at_830 : (.selects RX8 yX8_cuts yX8_cuts : Cond) ∈ lw_tbl := List.mem_of_getElem? (i := 830) (by decide +kernel)
theorem at_831 : (.code yX8_cuts cX8_cuts 3 (some .int) : Cond) ∈ lw_tbl := List.mem_of_getElem? (i := 831) (by decide +kernel)
theorem at_832 : (.methodLink RL 65 yX8_tree : Cond) ∈ lw_tbl := List.mem_of_getElem? (i := 832) (by decide +kernel)
theorem at_833 : (.instanceMethod yX8_tree : Cond) ∈ lw_tbl := List.mem_of_getElem? (i := 833) (by decide +kernel)
theorem at_834 : (.selects RX8 yX8_tree yX8_tree : Cond) ∈ lw_tbl := List.mem_of_getElem? (i := 834) (by decide +kernel)
theorem at_835 : (.code yX8_tree cX8_tree 3 (some .int) : Cond) ∈ lw_tbl := List.mem_of_getElem? (i := 835) (by decide +kernel)
theorem at_836 : (.methodLink RX8 176 yX8_findCosts : Cond) ∈ lw_tbl := List.mem_of_getElem? (i := 836) (by decide +kernel)
theorem at_838 : (.instanceMethod yX8_findCosts : Cond) ∈ lw_tbl := List.mem_of_getElem? (i := 838) (by decide +kernel)
theorem at_839 : (.code yX8_findCosts cX8_findCosts 3 none : Cond) ∈ lw_tbl := List.mem_of_getElem? (i := 839) (by decide +kernel)
theorem at_840 : (.methodLink RX8 173 yX8_findRoot : Cond) ∈ lw_tbl := List.mem_of_getElem? (i := 840) (by decide +kernel)
theorem at_842 : (.instanceMethod yX8_findRoot : Cond) ∈ lw_tbl := List.mem_of_getElem? (i := 842) (by decide +kernel)
theorem at_843 : (.code yX8_findRoot cX8_findRoot 8 none : Cond) ∈ lw_tbl := List.mem_of_getElem? (i := 843) (by decide +kernel)
theorem at_844 : (.methodLink RX8 179 yX8_findDepths : Cond) ∈ lw_tbl := List.mem_of_getElem? (i := 844) (by decide +kernel)
theorem at_846 : (.instanceMethod yX8_findDepths : Cond) ∈ lw_tbl := List.mem_of_getElem? (i := 846) (by decide +kernel)
theorem at_847 : (.code yX8_findDepths cX8_findDepths 6 none : Cond) ∈ lw_tbl := List.mem_of_getElem? (i := 847) (by decide +kernel)
theorem at_848 : (.methodLink RL 69 yX8_orders : Cond) ∈ lw_tbl := List.mem_of_getElem? (i := 848) (by decide +kernel)
theorem at_849 : (.instanceMethod yX8_orders : Cond) ∈ lw_tbl := List.mem_of_getElem? (i := 849) (by decide +kernel)
theorem at_850 : (.selects RX8 yX8_orders yX8_orders : Cond) ∈ lw_tbl := List.mem_of_getElem? (i := 850) (by decide +kernel)
theorem at_851 : (.code yX8_orders cX8_orders 11 (some .int) : Cond) ∈ lw_tbl := List.mem_of_getElem? (i := 851) (by decide +kernel)
theorem at_852 : (.methodLink RX8 182 yX8_ordersOf : Cond) ∈ lw_tbl := List.mem_of_getElem? (i := 852) (by decide +kernel)
theorem at_853 : (.static yX8_ordersOf : Cond) ∈ lw_tbl := List.mem_of_getElem? (i := 853) (by decide +kernel)
theorem at_854 : (.code yX8_ordersOf cX8_ordersOf 3 (some .int) : Cond) ∈ lw_tbl := List.mem_of_getElem? (i := 854) (by decide +kernel)
theorem at_855 : (.methodLink RX8 185 yX8_rowOf : Cond) ∈ lw_tbl := List.mem_of_getElem? (i := 855) (by decide +kernel)
theorem at_857 : (.instanceMethod yX8_rowOf : Cond) ∈ lw_tbl := List.mem_of_getElem? (i := 857) (by decide +kernel)
theorem at_858 : (.code yX8_rowOf cX8_rowOf 8 none : Cond) ∈ lw_tbl := List.mem_of_getElem? (i := 858) (by decide +kernel)
theorem at_859 : (.methodLink RX8 189 yX8_areAhead : Cond) ∈ lw_tbl := List.mem_of_getElem? (i := 859) (by decide +kernel)
theorem at_861 : (.instanceMethod yX8_areAhead : Cond) ∈ lw_tbl := List.mem_of_getElem? (i := 861) (by decide +kernel)
theorem at_862 : (.code yX8_areAhead cX8_areAhead 4 (some .boolean) : Cond) ∈ lw_tbl := List.mem_of_getElem? (i := 862) (by decide +kernel)
theorem at_863 : (.methodLink RL 73 yX8_reading : Cond) ∈ lw_tbl := List.mem_of_getElem? (i := 863) (by decide +kernel)
theorem at_864 : (.instanceMethod yX8_reading : Cond) ∈ lw_tbl := List.mem_of_getElem? (i := 864) (by decide +kernel)
theorem at_865 : (.selects RX8 yX8_reading yX8_reading : Cond) ∈ lw_tbl := List.mem_of_getElem? (i := 865) (by decide +kernel)
theorem at_866 : (.code yX8_reading cX8_reading 3 (some .int) : Cond) ∈ lw_tbl := List.mem_of_getElem? (i := 866) (by decide +kernel)
theorem at_867 : (.methodLink RL 77 yX8_back : Cond) ∈ lw_tbl := List.mem_of_getElem? (i := 867) (by decide +kernel)
theorem at_868 : (.instanceMethod yX8_back : Cond) ∈ lw_tbl := List.mem_of_getElem? (i := 868) (by decide +kernel)
theorem at_869 : (.selects RX8 yX8_back yX8_back : Cond) ∈ lw_tbl := List.mem_of_getElem? (i := 869) (by decide +kernel)
theorem at_870 : (.code yX8_back cX8_back 2 (some .int) : Cond) ∈ lw_tbl := List.mem_of_getElem? (i := 870) (by decide +kernel)
theorem at_871 : (.methodLink RL 81 yX8_pages : Cond) ∈ lw_tbl := List.mem_of_getElem? (i := 871) (by decide +kernel)
theorem at_872 : (.instanceMethod yX8_pages : Cond) ∈ lw_tbl := List.mem_of_getElem? (i := 872) (by decide +kernel)
theorem at_873 : (.selects RX8 yX8_pages yX8_pages : Cond) ∈ lw_tbl := List.mem_of_getElem? (i := 873) (by decide +kernel)
theorem at_874 : (.code yX8_pages cX8_pages 8 (some .int) : Cond) ∈ lw_tbl := List.mem_of_getElem? (i := 874) (by decide +kernel)
theorem at_875 : (.methodLink RX8 192 yX8_areSo : Cond) ∈ lw_tbl := List.mem_of_getElem? (i := 875) (by decide +kernel)
theorem at_877 : (.instanceMethod yX8_areSo : Cond) ∈ lw_tbl := List.mem_of_getElem? (i := 877) (by decide +kernel)
theorem at_878 : (.code yX8_areSo cX8_areSo 2 (some .boolean) : Cond) ∈ lw_tbl := List.mem_of_getElem? (i := 878) (by decide +kernel)
theorem at_879 : (.methodLink RL 85 yX8_kinds : Cond) ∈ lw_tbl := List.mem_of_getElem? (i := 879) (by decide +kernel)
theorem at_880 : (.instanceMethod yX8_kinds : Cond) ∈ lw_tbl := List.mem_of_getElem? (i := 880) (by decide +kernel)
theorem at_881 : (.selects RX8 yX8_kinds yX8_kinds : Cond) ∈ lw_tbl := List.mem_of_getElem? (i := 881) (by decide +kernel)
theorem at_882 : (.code yX8_kinds cX8_kinds 5 (some .int) : Cond) ∈ lw_tbl := List.mem_of_getElem? (i := 882) (by decide +kernel)
theorem at_883 : (.methodLink RL 89 yX8_seen : Cond) ∈ lw_tbl := List.mem_of_getElem? (i := 883) (by decide +kernel)
theorem at_884 : (.instanceMethod yX8_seen : Cond) ∈ lw_tbl := List.mem_of_getElem? (i := 884) (by decide +kernel)
theorem at_885 : (.selects RX8 yX8_seen yX8_seen : Cond) ∈ lw_tbl := List.mem_of_getElem? (i := 885) (by decide +kernel)
theorem at_886 : (.code yX8_seen cX8_seen 5 (some .int) : Cond) ∈ lw_tbl := List.mem_of_getElem? (i := 886) (by decide +kernel)
theorem at_887 : (.methodLink RL 94 yX8_odds : Cond) ∈ lw_tbl := List.mem_of_getElem? (i := 887) (by decide +kernel)
theorem at_888 : (.instanceMethod yX8_odds : Cond) ∈ lw_tbl := List.mem_of_getElem? (i := 888) (by decide +kernel)
theorem at_889 : (.selects RX8 yX8_odds yX8_odds : Cond) ∈ lw_tbl := List.mem_of_getElem? (i := 889) (by decide +kernel)
theorem at_890 : (.code yX8_odds cX8_odds 6 (some .long) : Cond) ∈ lw_tbl := List.mem_of_getElem? (i := 890) (by decide +kernel)
theorem at_891 : (.constantLong RX8 65 (-9223372036854775808) : Cond) ∈ lw_tbl := List.mem_of_getElem? (i := 891) (by decide +kernel)
theorem at_892 : (.methodLink RX8 196 yX8_inLeastTerms : Cond) ∈ lw_tbl := List.mem_of_getElem? (i := 892) (by decide +kernel)
theorem at_893 : (.static yX8_inLeastTerms : Cond) ∈ lw_tbl := List.mem_of_getElem? (i := 893) (by decide +kernel)
theorem at_894 : (.code yX8_inLeastTerms cX8_inLeastTerms 11 (some .long) : Cond) ∈ lw_tbl := List.mem_of_getElem? (i := 894) (by decide +kernel)
theorem at_895 : (.methodLink RL 99 yX8_sheet : Cond) ∈ lw_tbl := List.mem_of_getElem? (i := 895) (by decide +kernel)
theorem at_896 : (.instanceMethod yX8_sheet : Cond) ∈ lw_tbl := List.mem_of_getElem? (i := 896) (by decide +kernel)
theorem at_897 : (.selects RX8 yX8_sheet yX8_sheet : Cond) ∈ lw_tbl := List.mem_of_getElem? (i := 897) (by decide +kernel)
theorem at_898 : (.code yX8_sheet cX8_sheet 5 (some .int) : Cond) ∈ lw_tbl := List.mem_of_getElem? (i := 898) (by decide +kernel)
theorem at_899 : (.methodLink RL 103 yX8_lose : Cond) ∈ lw_tbl := List.mem_of_getElem? (i := 899) (by decide +kernel)
theorem at_900 : (.instanceMethod yX8_lose : Cond) ∈ lw_tbl := List.mem_of_getElem? (i := 900) (by decide +kernel)
theorem at_901 : (.selects RX8 yX8_lose yX8_lose : Cond) ∈ lw_tbl := List.mem_of_getElem? (i := 901) (by decide +kernel)
theorem at_902 : (.code yX8_lose cX8_lose 3 (some .int) : Cond) ∈ lw_tbl := List.mem_of_getElem? (i := 902) (by decide +kernel)
theorem at_903 : (.methodLink RL 107 yX8_put : Cond) ∈ lw_tbl := List.mem_of_getElem? (i := 903) (by decide +kernel)
theorem at_904 : (.instanceMethod yX8_put : Cond) ∈ lw_tbl := List.mem_of_getElem? (i := 904) (by decide +kernel)
theorem at_905 : (.selects RX8 yX8_put yX8_put : Cond) ∈ lw_tbl := List.mem_of_getElem? (i := 905) (by decide +kernel)
theorem at_906 : (.code yX8_put cX8_put 4 (some .int) : Cond) ∈ lw_tbl := List.mem_of_getElem? (i := 906) (by decide +kernel)
theorem at_907 : (.methodLink RL 112 yX8_cell : Cond) ∈ lw_tbl := List.mem_of_getElem? (i := 907) (by decide +kernel)
theorem at_908 : (.instanceMethod yX8_cell : Cond) ∈ lw_tbl := List.mem_of_getElem? (i := 908) (by decide +kernel)
theorem at_909 : (.selects RX8 yX8_cell yX8_cell : Cond) ∈ lw_tbl := List.mem_of_getElem? (i := 909) (by decide +kernel)
theorem at_910 : (.code yX8_cell cX8_cell 4 (some .long) : Cond) ∈ lw_tbl := List.mem_of_getElem? (i := 910) (by decide +kernel)
theorem at_911 : (.methodLink RX8 200 yX8_lost : Cond) ∈ lw_tbl := List.mem_of_getElem? (i := 911) (by decide +kernel)
theorem at_913 : (.instanceMethod yX8_lost : Cond) ∈ lw_tbl := List.mem_of_getElem? (i := 913) (by decide +kernel)
theorem at_914 : (.code yX8_lost cX8_lost 2 (some .long) : Cond) ∈ lw_tbl := List.mem_of_getElem? (i := 914) (by decide +kernel)
theorem at_915 : (.methodLink RL 116 yX8_copy : Cond) ∈ lw_tbl := List.mem_of_getElem? (i := 915) (by decide +kernel)
theorem at_916 : (.instanceMethod yX8_copy : Cond) ∈ lw_tbl := List.mem_of_getElem? (i := 916) (by decide +kernel)
theorem at_917 : (.selects RX8 yX8_copy yX8_copy : Cond) ∈ lw_tbl := List.mem_of_getElem? (i := 917) (by decide +kernel)
theorem at_918 : (.code yX8_copy cX8_copy 10 (some .int) : Cond) ∈ lw_tbl := List.mem_of_getElem? (i := 918) (by decide +kernel)
theorem at_919 : (.methodLink RL 120 yX8_tell : Cond) ∈ lw_tbl := List.mem_of_getElem? (i := 919) (by decide +kernel)
theorem at_920 : (.instanceMethod yX8_tell : Cond) ∈ lw_tbl := List.mem_of_getElem? (i := 920) (by decide +kernel)
theorem at_921 : (.selects RX8 yX8_tell yX8_tell : Cond) ∈ lw_tbl := List.mem_of_getElem? (i := 921) (by decide +kernel)
theorem at_922 : (.code yX8_tell cX8_tell 3 (some .int) : Cond) ∈ lw_tbl := List.mem_of_getElem? (i := 922) (by decide +kernel)
theorem at_923 : (.methodLink RX8 207 yX8_begins : Cond) ∈ lw_tbl := List.mem_of_getElem? (i := 923) (by decide +kernel)
theorem at_925 : (.instanceMethod yX8_begins : Cond) ∈ lw_tbl := List.mem_of_getElem? (i := 925) (by decide +kernel)
theorem at_926 : (.code yX8_begins cX8_begins 2 none : Cond) ∈ lw_tbl := List.mem_of_getElem? (i := 926) (by decide +kernel)
theorem at_927 : (.methodLink RL 124 yX8_quote : Cond) ∈ lw_tbl := List.mem_of_getElem? (i := 927) (by decide +kernel)
theorem at_928 : (.instanceMethod yX8_quote : Cond) ∈ lw_tbl := List.mem_of_getElem? (i := 928) (by decide +kernel)
theorem at_929 : (.selects RX8 yX8_quote yX8_quote : Cond) ∈ lw_tbl := List.mem_of_getElem? (i := 929) (by decide +kernel)
theorem at_930 : (.code yX8_quote cX8_quote 2 (some .int) : Cond) ∈ lw_tbl := List.mem_of_getElem? (i := 930) (by decide +kernel)
theorem at_931 : (.methodLink RL 128 yX8_as : Cond) ∈ lw_tbl := List.mem_of_getElem? (i := 931) (by decide +kernel)
theorem at_932 : (.instanceMethod yX8_as : Cond) ∈ lw_tbl := List.mem_of_getElem? (i := 932) (by decide +kernel)
theorem at_933 : (.selects RX8 yX8_as yX8_as : Cond) ∈ lw_tbl := List.mem_of_getElem? (i := 933) (by decide +kernel)
theorem at_934 : (.code yX8_as cX8_as 3 (some .int) : Cond) ∈ lw_tbl := List.mem_of_getElem? (i := 934) (by decide +kernel)
theorem at_935 : (.methodLink RL 132 yX8_trace : Cond) ∈ lw_tbl := List.mem_of_getElem? (i := 935) (by decide +kernel)
theorem at_936 : (.instanceMethod yX8_trace : Cond) ∈ lw_tbl := List.mem_of_getElem? (i := 936) (by decide +kernel)
theorem at_937 : (.selects RX8 yX8_trace yX8_trace : Cond) ∈ lw_tbl := List.mem_of_getElem? (i := 937) (by decide +kernel)
theorem at_938 : (.code yX8_trace cX8_trace 1 (some .int) : Cond) ∈ lw_tbl := List.mem_of_getElem? (i := 938) (by decide +kernel)
theorem at_939 : (.methodLink RL 136 yX8_fault : Cond) ∈ lw_tbl := List.mem_of_getElem? (i := 939) (by decide +kernel)
theorem at_940 : (.instanceMethod yX8_fault : Cond) ∈ lw_tbl := List.mem_of_getElem? (i := 940) (by decide +kernel)
theorem at_941 : (.selects RX8 yX8_fault yX8_fault : Cond) ∈ lw_tbl := List.mem_of_getElem? (i := 941) (by decide +kernel)
theorem at_942 : (.code yX8_fault cX8_fault 1 (some .int) : Cond) ∈ lw_tbl := List.mem_of_getElem? (i := 942) (by decide +kernel)
theorem at_943 : (.methodLink RL 140 yX8_many : Cond) ∈ lw_tbl := List.mem_of_getElem? (i := 943) (by decide +kernel)
theorem at_944 : (.instanceMethod yX8_many : Cond) ∈ lw_tbl := List.mem_of_getElem? (i := 944) (by decide +kernel)
theorem at_945 : (.selects RX8 yX8_many yX8_many : Cond) ∈ lw_tbl := List.mem_of_getElem? (i := 945) (by decide +kernel)
theorem at_946 : (.code yX8_many cX8_many 2 (some .int) : Cond) ∈ lw_tbl := List.mem_of_getElem? (i := 946) (by decide +kernel)
theorem at_X0_0 : u_lay RX0 TX0 0 ∈ lw_tbl := List.mem_of_getElem? (i := 210) (by decide +kernel)
theorem at_X0_1 : u_lay RX0 TX0 1 ∈ lw_tbl := List.mem_of_getElem? (i := 212) (by decide +kernel)
theorem at_X0_2 : u_lay RX0 TX0 2 ∈ lw_tbl := List.mem_of_getElem? (i := 214) (by decide +kernel)
theorem inX0 : ∀ w ∈ wsX00, w ∈ lw_tbl := by
  intro w h
  obtain ⟨j, hj, rfl⟩ := List.mem_map.mp h
  have hj := List.mem_range.mp hj
  rcases (show j = 0 ∨ j = 1 ∨ j = 2 by omega) with rfl | rfl | rfl
  · exact at_X0_0
  · exact at_X0_1
  · exact at_X0_2
theorem at_X1_0 : u_lay RX1 TX1 0 ∈ lw_tbl := List.mem_of_getElem? (i := 143) (by decide +kernel)
theorem at_X1_1 : u_lay RX1 TX1 1 ∈ lw_tbl := List.mem_of_getElem? (i := 145) (by decide +kernel)
theorem at_X1_2 : u_lay RX1 TX1 2 ∈ lw_tbl := List.mem_of_getElem? (i := 147) (by decide +kernel)
theorem at_X1_3 : u_lay RX1 TX1 3 ∈ lw_tbl := List.mem_of_getElem? (i := 149) (by decide +kernel)
theorem at_X1_4 : u_lay RX1 TX1 4 ∈ lw_tbl := List.mem_of_getElem? (i := 151) (by decide +kernel)
theorem at_X1_5 : u_lay RX1 TX1 5 ∈ lw_tbl := List.mem_of_getElem? (i := 153) (by decide +kernel)
theorem at_X1_6 : u_lay RX1 TX1 6 ∈ lw_tbl := List.mem_of_getElem? (i := 155) (by decide +kernel)
theorem inX1 : ∀ w ∈ wsX10, w ∈ lw_tbl := by
  intro w h
  obtain ⟨j, hj, rfl⟩ := List.mem_map.mp h
  have hj := List.mem_range.mp hj
  rcases (show j = 0 ∨ j = 1 ∨ j = 2 ∨ j = 3 ∨ j = 4 ∨ j = 5 ∨ j = 6 by omega) with rfl | rfl | rfl | rfl | rfl | rfl | rfl
  · exact at_X1_0
  · exact at_X1_1
  · exact at_X1_2
  · exact at_X1_3
  · exact at_X1_4
  · exact at_X1_5
  · exact at_X1_6
theorem at_X2_0 : u_lay RX2 TX2 0 ∈ lw_tbl := List.mem_of_getElem? (i := 77) (by decide +kernel)
theorem at_X2_1 : u_lay RX2 TX2 1 ∈ lw_tbl := List.mem_of_getElem? (i := 79) (by decide +kernel)
theorem at_X2_2 : u_lay RX2 TX2 2 ∈ lw_tbl := List.mem_of_getElem? (i := 81) (by decide +kernel)
theorem at_X2_3 : u_lay RX2 TX2 3 ∈ lw_tbl := List.mem_of_getElem? (i := 83) (by decide +kernel)
theorem inX2 : ∀ w ∈ wsX20, w ∈ lw_tbl := by
  intro w h
  obtain ⟨j, hj, rfl⟩ := List.mem_map.mp h
  have hj := List.mem_range.mp hj
  rcases (show j = 0 ∨ j = 1 ∨ j = 2 ∨ j = 3 by omega) with rfl | rfl | rfl | rfl
  · exact at_X2_0
  · exact at_X2_1
  · exact at_X2_2
  · exact at_X2_3
theorem at_X3_0 : u_lay RX3 TX3 0 ∈ lw_tbl := List.mem_of_getElem? (i := 190) (by decide +kernel)
theorem at_X3_1 : u_lay RX3 TX3 1 ∈ lw_tbl := List.mem_of_getElem? (i := 192) (by decide +kernel)
theorem at_X3_2 : u_lay RX3 TX3 2 ∈ lw_tbl := List.mem_of_getElem? (i := 194) (by decide +kernel)
theorem at_X3_3 : u_lay RX3 TX3 3 ∈ lw_tbl := List.mem_of_getElem? (i := 196) (by decide +kernel)
theorem at_X3_4 : u_lay RX3 TX3 4 ∈ lw_tbl := List.mem_of_getElem? (i := 198) (by decide +kernel)
theorem inX3 : ∀ w ∈ wsX30, w ∈ lw_tbl := by
  intro w h
  obtain ⟨j, hj, rfl⟩ := List.mem_map.mp h
  have hj := List.mem_range.mp hj
  rcases (show j = 0 ∨ j = 1 ∨ j = 2 ∨ j = 3 ∨ j = 4 by omega) with rfl | rfl | rfl | rfl | rfl
  · exact at_X3_0
  · exact at_X3_1
  · exact at_X3_2
  · exact at_X3_3
  · exact at_X3_4
theorem at_X4_0 : u_lay RX4 TX4 0 ∈ lw_tbl := List.mem_of_getElem? (i := 111) (by decide +kernel)
theorem at_X4_1 : u_lay RX4 TX4 1 ∈ lw_tbl := List.mem_of_getElem? (i := 113) (by decide +kernel)
theorem at_X4_2 : u_lay RX4 TX4 2 ∈ lw_tbl := List.mem_of_getElem? (i := 115) (by decide +kernel)
theorem at_X4_3 : u_lay RX4 TX4 3 ∈ lw_tbl := List.mem_of_getElem? (i := 117) (by decide +kernel)
theorem at_X4_4 : u_lay RX4 TX4 4 ∈ lw_tbl := List.mem_of_getElem? (i := 119) (by decide +kernel)
theorem at_X4_5 : u_lay RX4 TX4 5 ∈ lw_tbl := List.mem_of_getElem? (i := 121) (by decide +kernel)
theorem inX4 : ∀ w ∈ wsX40, w ∈ lw_tbl := by
  intro w h
  obtain ⟨j, hj, rfl⟩ := List.mem_map.mp h
  have hj := List.mem_range.mp hj
  rcases (show j = 0 ∨ j = 1 ∨ j = 2 ∨ j = 3 ∨ j = 4 ∨ j = 5 by omega) with rfl | rfl | rfl | rfl | rfl | rfl
  · exact at_X4_0
  · exact at_X4_1
  · exact at_X4_2
  · exact at_X4_3
  · exact at_X4_4
  · exact at_X4_5
theorem at_X6_0 : u_lay RX6 TX6 0 ∈ lw_tbl := List.mem_of_getElem? (i := 170) (by decide +kernel)
theorem at_X6_1 : u_lay RX6 TX6 1 ∈ lw_tbl := List.mem_of_getElem? (i := 172) (by decide +kernel)
theorem at_X6_2 : u_lay RX6 TX6 2 ∈ lw_tbl := List.mem_of_getElem? (i := 174) (by decide +kernel)
theorem at_X6_3 : u_lay RX6 TX6 3 ∈ lw_tbl := List.mem_of_getElem? (i := 176) (by decide +kernel)
theorem inX6 : ∀ w ∈ wsX60, w ∈ lw_tbl := by
  intro w h
  obtain ⟨j, hj, rfl⟩ := List.mem_map.mp h
  have hj := List.mem_range.mp hj
  rcases (show j = 0 ∨ j = 1 ∨ j = 2 ∨ j = 3 by omega) with rfl | rfl | rfl | rfl
  · exact at_X6_0
  · exact at_X6_1
  · exact at_X6_2
  · exact at_X6_3
theorem at_X7_0 : u_lay RX7 TX7 0 ∈ lw_tbl := List.mem_of_getElem? (i := 226) (by decide +kernel)
theorem at_X7_1 : u_lay RX7 TX7 1 ∈ lw_tbl := List.mem_of_getElem? (i := 228) (by decide +kernel)
theorem at_X7_2 : u_lay RX7 TX7 2 ∈ lw_tbl := List.mem_of_getElem? (i := 230) (by decide +kernel)
theorem at_X7_3 : u_lay RX7 TX7 3 ∈ lw_tbl := List.mem_of_getElem? (i := 232) (by decide +kernel)
theorem at_X7_4 : u_lay RX7 TX7 4 ∈ lw_tbl := List.mem_of_getElem? (i := 234) (by decide +kernel)
theorem at_X7_5 : u_lay RX7 TX7 5 ∈ lw_tbl := List.mem_of_getElem? (i := 236) (by decide +kernel)
theorem at_X7_6 : u_lay RX7 TX7 6 ∈ lw_tbl := List.mem_of_getElem? (i := 238) (by decide +kernel)
theorem at_X7_7 : u_lay RX7 TX7 7 ∈ lw_tbl := List.mem_of_getElem? (i := 240) (by decide +kernel)
theorem at_X7_8 : u_lay RX7 TX7 8 ∈ lw_tbl := List.mem_of_getElem? (i := 242) (by decide +kernel)
theorem inX7 : ∀ w ∈ wsX70, w ∈ lw_tbl := by
  intro w h
  obtain ⟨j, hj, rfl⟩ := List.mem_map.mp h
  have hj := List.mem_range.mp hj
  rcases (show j = 0 ∨ j = 1 ∨ j = 2 ∨ j = 3 ∨ j = 4 ∨ j = 5 ∨ j = 6 ∨ j = 7 ∨ j = 8 by omega) with rfl | rfl | rfl | rfl | rfl | rfl | rfl | rfl | rfl
  · exact at_X7_0
  · exact at_X7_1
  · exact at_X7_2
  · exact at_X7_3
  · exact at_X7_4
  · exact at_X7_5
  · exact at_X7_6
  · exact at_X7_7
  · exact at_X7_8
theorem at_X8_0 : u_lay RX8 TX8 0 ∈ lw_tbl := List.mem_of_getElem? (i := 645) (by decide +kernel)
theorem at_X8_1 : u_lay RX8 TX8 1 ∈ lw_tbl := List.mem_of_getElem? (i := 647) (by decide +kernel)
theorem at_X8_2 : u_lay RX8 TX8 2 ∈ lw_tbl := List.mem_of_getElem? (i := 649) (by decide +kernel)
theorem at_X8_3 : u_lay RX8 TX8 3 ∈ lw_tbl := List.mem_of_getElem? (i := 651) (by decide +kernel)
theorem at_X8_4 : u_lay RX8 TX8 4 ∈ lw_tbl := List.mem_of_getElem? (i := 653) (by decide +kernel)
theorem at_X8_5 : u_lay RX8 TX8 5 ∈ lw_tbl := List.mem_of_getElem? (i := 655) (by decide +kernel)
theorem at_X8_6 : u_lay RX8 TX8 6 ∈ lw_tbl := List.mem_of_getElem? (i := 657) (by decide +kernel)
theorem at_X8_7 : u_lay RX8 TX8 7 ∈ lw_tbl := List.mem_of_getElem? (i := 659) (by decide +kernel)
theorem at_X8_8 : u_lay RX8 TX8 8 ∈ lw_tbl := List.mem_of_getElem? (i := 661) (by decide +kernel)
theorem at_X8_9 : u_lay RX8 TX8 9 ∈ lw_tbl := List.mem_of_getElem? (i := 663) (by decide +kernel)
theorem at_X8_10 : u_lay RX8 TX8 10 ∈ lw_tbl := List.mem_of_getElem? (i := 665) (by decide +kernel)
theorem at_X8_11 : u_lay RX8 TX8 11 ∈ lw_tbl := List.mem_of_getElem? (i := 667) (by decide +kernel)
theorem at_X8_12 : u_lay RX8 TX8 12 ∈ lw_tbl := List.mem_of_getElem? (i := 669) (by decide +kernel)
theorem at_X8_13 : u_lay RX8 TX8 13 ∈ lw_tbl := List.mem_of_getElem? (i := 671) (by decide +kernel)
theorem at_X8_14 : u_lay RX8 TX8 14 ∈ lw_tbl := List.mem_of_getElem? (i := 673) (by decide +kernel)
theorem at_X8_15 : u_lay RX8 TX8 15 ∈ lw_tbl := List.mem_of_getElem? (i := 675) (by decide +kernel)
theorem at_X8_16 : u_lay RX8 TX8 16 ∈ lw_tbl := List.mem_of_getElem? (i := 677) (by decide +kernel)
theorem at_X8_17 : u_lay RX8 TX8 17 ∈ lw_tbl := List.mem_of_getElem? (i := 679) (by decide +kernel)
theorem at_X8_18 : u_lay RX8 TX8 18 ∈ lw_tbl := List.mem_of_getElem? (i := 681) (by decide +kernel)
theorem at_X8_19 : u_lay RX8 TX8 19 ∈ lw_tbl := List.mem_of_getElem? (i := 683) (by decide +kernel)
theorem at_X8_20 : u_lay RX8 TX8 20 ∈ lw_tbl := List.mem_of_getElem? (i := 685) (by decide +kernel)
theorem at_X8_21 : u_lay RX8 TX8 21 ∈ lw_tbl := List.mem_of_getElem? (i := 687) (by decide +kernel)
theorem at_X8_22 : u_lay RX8 TX8 22 ∈ lw_tbl := List.mem_of_getElem? (i := 689) (by decide +kernel)
theorem at_X8_23 : u_lay RX8 TX8 23 ∈ lw_tbl := List.mem_of_getElem? (i := 691) (by decide +kernel)
theorem at_X8_24 : u_lay RX8 TX8 24 ∈ lw_tbl := List.mem_of_getElem? (i := 693) (by decide +kernel)
theorem at_X8_25 : u_lay RX8 TX8 25 ∈ lw_tbl := List.mem_of_getElem? (i := 695) (by decide +kernel)
theorem at_X8_26 : u_lay RX8 TX8 26 ∈ lw_tbl := List.mem_of_getElem? (i := 697) (by decide +kernel)
theorem at_X8_27 : u_lay RX8 TX8 27 ∈ lw_tbl := List.mem_of_getElem? (i := 699) (by decide +kernel)
theorem at_X8_28 : u_lay RX8 TX8 28 ∈ lw_tbl := List.mem_of_getElem? (i := 701) (by decide +kernel)
theorem at_X8_29 : u_lay RX8 TX8 29 ∈ lw_tbl := List.mem_of_getElem? (i := 703) (by decide +kernel)
theorem inX8 : ∀ w ∈ wsX80, w ∈ lw_tbl := by
  intro w h
  obtain ⟨j, hj, rfl⟩ := List.mem_map.mp h
  have hj := List.mem_range.mp hj
  rcases (show j = 0 ∨ j = 1 ∨ j = 2 ∨ j = 3 ∨ j = 4 ∨ j = 5 ∨ j = 6 ∨ j = 7 ∨ j = 8 ∨ j = 9 ∨ j = 10 ∨ j = 11 ∨ j = 12 ∨ j = 13 ∨ j = 14 ∨ j = 15 ∨ j = 16 ∨ j = 17 ∨ j = 18 ∨ j = 19 ∨ j = 20 ∨ j = 21 ∨ j = 22 ∨ j = 23 ∨ j = 24 ∨ j = 25 ∨ j = 26 ∨ j = 27 ∨ j = 28 ∨ j = 29 by omega) with rfl | rfl | rfl | rfl | rfl | rfl | rfl | rfl | rfl | rfl | rfl | rfl | rfl | rfl | rfl | rfl | rfl | rfl | rfl | rfl | rfl | rfl | rfl | rfl | rfl | rfl | rfl | rfl | rfl | rfl
  · exact at_X8_0
  · exact at_X8_1
  · exact at_X8_2
  · exact at_X8_3
  · exact at_X8_4
  · exact at_X8_5
  · exact at_X8_6
  · exact at_X8_7
  · exact at_X8_8
  · exact at_X8_9
  · exact at_X8_10
  · exact at_X8_11
  · exact at_X8_12
  · exact at_X8_13
  · exact at_X8_14
  · exact at_X8_15
  · exact at_X8_16
  · exact at_X8_17
  · exact at_X8_18
  · exact at_X8_19
  · exact at_X8_20
  · exact at_X8_21
  · exact at_X8_22
  · exact at_X8_23
  · exact at_X8_24
  · exact at_X8_25
  · exact at_X8_26
  · exact at_X8_27
  · exact at_X8_28
  · exact at_X8_29
theorem inT_wsX7_init_r1 : ∀ w ∈ wsX7_init_r1, w ∈ lw_tbl := List.forall_mem_cons.mpr ⟨at_56, List.forall_mem_cons.mpr ⟨at_57, List.forall_mem_cons.mpr ⟨at_58, List.forall_mem_cons.mpr ⟨at_59, List.forall_mem_cons.mpr ⟨at_217, List.forall_mem_cons.mpr ⟨at_61, List.forall_mem_cons.mpr ⟨at_40, List.forall_mem_cons.mpr ⟨at_87, List.forall_mem_cons.mpr ⟨at_88, List.forall_mem_cons.mpr ⟨at_41, List.forall_mem_cons.mpr ⟨at_218, List.forall_mem_cons.mpr ⟨at_124, List.forall_mem_cons.mpr ⟨at_125, List.forall_mem_cons.mpr ⟨at_42, List.forall_mem_cons.mpr ⟨at_219, List.forall_mem_cons.mpr ⟨at_158, List.forall_mem_cons.mpr ⟨at_159, List.forall_mem_cons.mpr ⟨at_43, List.forall_mem_cons.mpr ⟨at_220, List.forall_mem_cons.mpr ⟨at_179, List.forall_mem_cons.mpr ⟨at_180, List.forall_mem_cons.mpr ⟨at_44, List.forall_mem_cons.mpr ⟨at_221, List.forall_mem_cons.mpr ⟨at_201, fun _ h => absurd h List.not_mem_nil⟩⟩⟩⟩⟩⟩⟩⟩⟩⟩⟩⟩⟩⟩⟩⟩⟩⟩⟩⟩⟩⟩⟩⟩
theorem inT_wsX7_init_r2 : ∀ w ∈ wsX7_init_r2, w ∈ lw_tbl := List.forall_mem_cons.mpr ⟨at_202, List.forall_mem_cons.mpr ⟨at_45, List.forall_mem_cons.mpr ⟨at_222, List.forall_mem_cons.mpr ⟨at_63, List.forall_mem_cons.mpr ⟨at_64, List.forall_mem_cons.mpr ⟨at_65, List.forall_mem_cons.mpr ⟨at_86, List.forall_mem_cons.mpr ⟨at_66, List.forall_mem_cons.mpr ⟨at_90, List.forall_mem_cons.mpr ⟨at_91, List.forall_mem_cons.mpr ⟨at_92, List.forall_mem_cons.mpr ⟨at_93, List.forall_mem_cons.mpr ⟨at_96, List.forall_mem_cons.mpr ⟨at_99, List.forall_mem_cons.mpr ⟨at_102, List.forall_mem_cons.mpr ⟨at_127, List.forall_mem_cons.mpr ⟨at_128, List.forall_mem_cons.mpr ⟨at_129, List.forall_mem_cons.mpr ⟨at_132, List.forall_mem_cons.mpr ⟨at_133, List.forall_mem_cons.mpr ⟨at_130, List.forall_mem_cons.mpr ⟨at_134, List.forall_mem_cons.mpr ⟨at_161, List.forall_mem_cons.mpr ⟨at_162, fun _ h => absurd h List.not_mem_nil⟩⟩⟩⟩⟩⟩⟩⟩⟩⟩⟩⟩⟩⟩⟩⟩⟩⟩⟩⟩⟩⟩⟩⟩
theorem inT_wsX7_init_r3 : ∀ w ∈ wsX7_init_r3, w ∈ lw_tbl := List.forall_mem_cons.mpr ⟨at_163, List.forall_mem_cons.mpr ⟨at_164, List.forall_mem_cons.mpr ⟨at_166, List.forall_mem_cons.mpr ⟨at_182, List.forall_mem_cons.mpr ⟨at_183, List.forall_mem_cons.mpr ⟨at_184, List.forall_mem_cons.mpr ⟨at_185, List.forall_mem_cons.mpr ⟨at_186, List.forall_mem_cons.mpr ⟨at_187, List.forall_mem_cons.mpr ⟨at_188, List.forall_mem_cons.mpr ⟨at_204, List.forall_mem_cons.mpr ⟨at_205, List.forall_mem_cons.mpr ⟨at_206, List.forall_mem_cons.mpr ⟨at_207, List.forall_mem_cons.mpr ⟨at_208, fun _ h => absurd h List.not_mem_nil⟩⟩⟩⟩⟩⟩⟩⟩⟩⟩⟩⟩⟩⟩⟩
set_option maxRecDepth 20000 in
theorem inT_X7_init : ∀ w ∈ wsX7_init, w ∈ lw_tbl := List.forall_mem_cons.mpr ⟨at_55, List.forall_mem_append.mpr ⟨List.forall_mem_append.mpr ⟨List.forall_mem_append.mpr ⟨List.forall_mem_append.mpr ⟨List.forall_mem_append.mpr ⟨List.forall_mem_append.mpr ⟨List.forall_mem_append.mpr ⟨List.forall_mem_append.mpr ⟨inT_wsX7_init_r1, List.forall_mem_append.mpr ⟨inT_wsX7_init_r2, inT_wsX7_init_r3⟩⟩, inX7⟩, inX2⟩, inX4⟩, inX1⟩, inX6⟩, inX3⟩, inX0⟩⟩
set_option maxRecDepth 20000 in
theorem gaT_X7_init : wsX7_init.all goodWord = true := by decide +kernel
theorem gT_X7_init : GoodIn lw_tbl wsX7_init := goodIn_sub inT_X7_init gaT_X7_init
set_option maxRecDepth 20000 in
theorem inT_X8_init : ∀ w ∈ wsX8_init, w ∈ lw_tbl := List.forall_mem_cons.mpr ⟨at_613, List.forall_mem_append.mpr ⟨List.forall_mem_cons.mpr ⟨at_614, List.forall_mem_cons.mpr ⟨at_57, List.forall_mem_cons.mpr ⟨at_58, List.forall_mem_cons.mpr ⟨at_86, List.forall_mem_cons.mpr ⟨at_617, List.forall_mem_cons.mpr ⟨at_618, List.forall_mem_cons.mpr ⟨at_619, List.forall_mem_cons.mpr ⟨at_623, List.forall_mem_cons.mpr ⟨at_624, List.forall_mem_cons.mpr ⟨at_625, List.forall_mem_cons.mpr ⟨at_626, List.forall_mem_cons.mpr ⟨at_629, List.forall_mem_cons.mpr ⟨at_631, List.forall_mem_cons.mpr ⟨at_635, List.forall_mem_cons.mpr ⟨at_637, List.forall_mem_cons.mpr ⟨at_638, List.forall_mem_cons.mpr ⟨at_639, List.forall_mem_cons.mpr ⟨at_640, List.forall_mem_cons.mpr ⟨at_641, List.forall_mem_cons.mpr ⟨at_643, List.forall_mem_cons.mpr ⟨at_644, fun _ h => absurd h List.not_mem_nil⟩⟩⟩⟩⟩⟩⟩⟩⟩⟩⟩⟩⟩⟩⟩⟩⟩⟩⟩⟩⟩, inX8⟩⟩
set_option maxRecDepth 20000 in
theorem gaT_X8_init : wsX8_init.all goodWord = true := by decide +kernel
theorem gT_X8_init : GoodIn lw_tbl wsX8_init := goodIn_sub inT_X8_init gaT_X8_init
theorem inT_wsX7_book_r1 : ∀ w ∈ wsX7_book_r1, w ∈ lw_tbl := List.forall_mem_cons.mpr ⟨at_225, List.forall_mem_cons.mpr ⟨at_217, List.forall_mem_cons.mpr ⟨at_218, List.forall_mem_cons.mpr ⟨at_219, List.forall_mem_cons.mpr ⟨at_223, List.forall_mem_cons.mpr ⟨at_249, List.forall_mem_cons.mpr ⟨at_250, List.forall_mem_cons.mpr ⟨at_39, List.forall_mem_cons.mpr ⟨at_251, List.forall_mem_cons.mpr ⟨at_252, List.forall_mem_cons.mpr ⟨at_253, List.forall_mem_cons.mpr ⟨at_254, List.forall_mem_cons.mpr ⟨at_255, List.forall_mem_cons.mpr ⟨at_256, List.forall_mem_cons.mpr ⟨at_257, List.forall_mem_cons.mpr ⟨at_40, List.forall_mem_cons.mpr ⟨at_258, List.forall_mem_cons.mpr ⟨at_71, List.forall_mem_cons.mpr ⟨at_73, List.forall_mem_cons.mpr ⟨at_259, List.forall_mem_cons.mpr ⟨at_260, List.forall_mem_cons.mpr ⟨at_261, List.forall_mem_cons.mpr ⟨at_262, List.forall_mem_cons.mpr ⟨at_75, fun _ h => absurd h List.not_mem_nil⟩⟩⟩⟩⟩⟩⟩⟩⟩⟩⟩⟩⟩⟩⟩⟩⟩⟩⟩⟩⟩⟩⟩⟩
theorem inT_wsX7_book_r2 : ∀ w ∈ wsX7_book_r2, w ∈ lw_tbl := List.forall_mem_cons.mpr ⟨at_263, List.forall_mem_cons.mpr ⟨at_265, List.forall_mem_cons.mpr ⟨at_0, List.forall_mem_cons.mpr ⟨at_266, List.forall_mem_cons.mpr ⟨at_267, List.forall_mem_cons.mpr ⟨at_268, List.forall_mem_cons.mpr ⟨at_47, List.forall_mem_cons.mpr ⟨at_269, List.forall_mem_cons.mpr ⟨at_270, List.forall_mem_cons.mpr ⟨at_271, List.forall_mem_cons.mpr ⟨at_272, List.forall_mem_cons.mpr ⟨at_273, List.forall_mem_cons.mpr ⟨at_274, List.forall_mem_cons.mpr ⟨at_275, List.forall_mem_cons.mpr ⟨at_276, List.forall_mem_cons.mpr ⟨at_277, List.forall_mem_cons.mpr ⟨at_278, List.forall_mem_cons.mpr ⟨at_279, List.forall_mem_cons.mpr ⟨at_280, List.forall_mem_cons.mpr ⟨at_281, List.forall_mem_cons.mpr ⟨at_41, List.forall_mem_cons.mpr ⟨at_282, List.forall_mem_cons.mpr ⟨at_105, List.forall_mem_cons.mpr ⟨at_109, fun _ h => absurd h List.not_mem_nil⟩⟩⟩⟩⟩⟩⟩⟩⟩⟩⟩⟩⟩⟩⟩⟩⟩⟩⟩⟩⟩⟩⟩⟩
theorem inT_wsX7_book_r3 : ∀ w ∈ wsX7_book_r3, w ∈ lw_tbl := List.forall_mem_cons.mpr ⟨at_93, List.forall_mem_cons.mpr ⟨at_96, List.forall_mem_cons.mpr ⟨at_99, List.forall_mem_cons.mpr ⟨at_283, List.forall_mem_cons.mpr ⟨at_284, List.forall_mem_cons.mpr ⟨at_285, List.forall_mem_cons.mpr ⟨at_286, List.forall_mem_cons.mpr ⟨at_287, List.forall_mem_cons.mpr ⟨at_288, List.forall_mem_cons.mpr ⟨at_289, List.forall_mem_cons.mpr ⟨at_290, List.forall_mem_cons.mpr ⟨at_102, List.forall_mem_cons.mpr ⟨at_291, List.forall_mem_cons.mpr ⟨at_292, List.forall_mem_cons.mpr ⟨at_293, List.forall_mem_cons.mpr ⟨at_294, fun _ h => absurd h List.not_mem_nil⟩⟩⟩⟩⟩⟩⟩⟩⟩⟩⟩⟩⟩⟩⟩⟩
set_option maxRecDepth 20000 in
theorem inT_X7_book : ∀ w ∈ wsX7_book, w ∈ lw_tbl := List.forall_mem_cons.mpr ⟨at_248, List.forall_mem_append.mpr ⟨List.forall_mem_append.mpr ⟨List.forall_mem_append.mpr ⟨List.forall_mem_append.mpr ⟨List.forall_mem_append.mpr ⟨inT_wsX7_book_r1, List.forall_mem_append.mpr ⟨inT_wsX7_book_r2, inT_wsX7_book_r3⟩⟩, inX7⟩, inX1⟩, inX4⟩, inX2⟩⟩
set_option maxRecDepth 20000 in
theorem gaT_X7_book : wsX7_book.all goodWord = true := by decide +kernel
theorem gT_X7_book : GoodIn lw_tbl (wsV RL 13 RX7 yX7_book wsX7_book) := goodIn_app (goodIn_sub (List.forall_mem_cons.mpr ⟨at_245, List.forall_mem_cons.mpr ⟨at_246, List.forall_mem_cons.mpr ⟨at_247, List.forall_mem_cons.mpr ⟨at_39, fun _ h => absurd h List.not_mem_nil⟩⟩⟩⟩) (by decide +kernel)) (goodIn_sub inT_X7_book gaT_X7_book)
theorem inT_wsX8_book_r1 : ∀ w ∈ wsX8_book_r1, w ∈ lw_tbl := List.forall_mem_cons.mpr ⟨at_615, List.forall_mem_cons.mpr ⟨at_627, List.forall_mem_cons.mpr ⟨at_620, List.forall_mem_cons.mpr ⟨at_710, List.forall_mem_cons.mpr ⟨at_711, List.forall_mem_cons.mpr ⟨at_46, List.forall_mem_cons.mpr ⟨at_712, List.forall_mem_cons.mpr ⟨at_713, List.forall_mem_cons.mpr ⟨at_714, List.forall_mem_cons.mpr ⟨at_715, List.forall_mem_cons.mpr ⟨at_716, List.forall_mem_cons.mpr ⟨at_717, List.forall_mem_cons.mpr ⟨at_718, List.forall_mem_cons.mpr ⟨at_719, List.forall_mem_cons.mpr ⟨at_721, List.forall_mem_cons.mpr ⟨at_14, List.forall_mem_cons.mpr ⟨at_722, List.forall_mem_cons.mpr ⟨at_617, List.forall_mem_cons.mpr ⟨at_618, List.forall_mem_cons.mpr ⟨at_723, List.forall_mem_cons.mpr ⟨at_725, List.forall_mem_cons.mpr ⟨at_15, List.forall_mem_cons.mpr ⟨at_726, List.forall_mem_cons.mpr ⟨at_727, fun _ h => absurd h List.not_mem_nil⟩⟩⟩⟩⟩⟩⟩⟩⟩⟩⟩⟩⟩⟩⟩⟩⟩⟩⟩⟩⟩⟩⟩⟩
theorem inT_wsX8_book_r2 : ∀ w ∈ wsX8_book_r2, w ∈ lw_tbl := List.forall_mem_cons.mpr ⟨at_729, List.forall_mem_cons.mpr ⟨at_16, List.forall_mem_cons.mpr ⟨at_730, List.forall_mem_cons.mpr ⟨at_628, List.forall_mem_cons.mpr ⟨at_731, List.forall_mem_cons.mpr ⟨at_733, List.forall_mem_cons.mpr ⟨at_17, List.forall_mem_cons.mpr ⟨at_734, List.forall_mem_cons.mpr ⟨at_619, List.forall_mem_cons.mpr ⟨at_735, List.forall_mem_cons.mpr ⟨at_737, List.forall_mem_cons.mpr ⟨at_18, List.forall_mem_cons.mpr ⟨at_738, List.forall_mem_cons.mpr ⟨at_629, List.forall_mem_cons.mpr ⟨at_739, List.forall_mem_cons.mpr ⟨at_741, List.forall_mem_cons.mpr ⟨at_19, List.forall_mem_cons.mpr ⟨at_742, List.forall_mem_cons.mpr ⟨at_743, List.forall_mem_cons.mpr ⟨at_745, List.forall_mem_cons.mpr ⟨at_20, List.forall_mem_cons.mpr ⟨at_746, List.forall_mem_cons.mpr ⟨at_623, List.forall_mem_cons.mpr ⟨at_624, fun _ h => absurd h List.not_mem_nil⟩⟩⟩⟩⟩⟩⟩⟩⟩⟩⟩⟩⟩⟩⟩⟩⟩⟩⟩⟩⟩⟩⟩⟩
theorem inT_wsX8_book_r3 : ∀ w ∈ wsX8_book_r3, w ∈ lw_tbl := List.forall_mem_cons.mpr ⟨at_625, List.forall_mem_cons.mpr ⟨at_626, List.forall_mem_cons.mpr ⟨at_621, List.forall_mem_cons.mpr ⟨at_622, List.forall_mem_cons.mpr ⟨at_642, fun _ h => absurd h List.not_mem_nil⟩⟩⟩⟩⟩
set_option maxRecDepth 20000 in
theorem inT_X8_book : ∀ w ∈ wsX8_book, w ∈ lw_tbl := List.forall_mem_cons.mpr ⟨at_709, List.forall_mem_append.mpr ⟨List.forall_mem_append.mpr ⟨inT_wsX8_book_r1, List.forall_mem_append.mpr ⟨inT_wsX8_book_r2, inT_wsX8_book_r3⟩⟩, inX8⟩⟩
set_option maxRecDepth 20000 in
theorem gaT_X8_book : wsX8_book.all goodWord = true := by decide +kernel
theorem gT_X8_book : GoodIn lw_tbl (wsV RL 17 RX8 yX8_book wsX8_book) := goodIn_app (goodIn_sub (List.forall_mem_cons.mpr ⟨at_706, List.forall_mem_cons.mpr ⟨at_707, List.forall_mem_cons.mpr ⟨at_708, List.forall_mem_cons.mpr ⟨at_46, fun _ h => absurd h List.not_mem_nil⟩⟩⟩⟩) (by decide +kernel)) (goodIn_sub inT_X8_book gaT_X8_book)
theorem inT_wsX7_ofSlip_r1 : ∀ w ∈ wsX7_ofSlip_r1, w ∈ lw_tbl := List.forall_mem_cons.mpr ⟨at_218, List.forall_mem_cons.mpr ⟨at_299, List.forall_mem_cons.mpr ⟨at_292, List.forall_mem_cons.mpr ⟨at_293, List.forall_mem_cons.mpr ⟨at_41, List.forall_mem_cons.mpr ⟨at_294, List.forall_mem_cons.mpr ⟨at_105, List.forall_mem_cons.mpr ⟨at_300, List.forall_mem_cons.mpr ⟨at_301, List.forall_mem_cons.mpr ⟨at_302, List.forall_mem_cons.mpr ⟨at_303, List.forall_mem_cons.mpr ⟨at_102, List.forall_mem_cons.mpr ⟨at_304, List.forall_mem_cons.mpr ⟨at_305, List.forall_mem_cons.mpr ⟨at_306, List.forall_mem_cons.mpr ⟨at_307, List.forall_mem_cons.mpr ⟨at_308, List.forall_mem_cons.mpr ⟨at_309, List.forall_mem_cons.mpr ⟨at_310, List.forall_mem_cons.mpr ⟨at_311, List.forall_mem_cons.mpr ⟨at_109, List.forall_mem_cons.mpr ⟨at_312, List.forall_mem_cons.mpr ⟨at_313, List.forall_mem_cons.mpr ⟨at_314, fun _ h => absurd h List.not_mem_nil⟩⟩⟩⟩⟩⟩⟩⟩⟩⟩⟩⟩⟩⟩⟩⟩⟩⟩⟩⟩⟩⟩⟩⟩
theorem inT_wsX7_ofSlip_r2 : ∀ w ∈ wsX7_ofSlip_r2, w ∈ lw_tbl := List.forall_mem_cons.mpr ⟨at_315, List.forall_mem_cons.mpr ⟨at_93, List.forall_mem_cons.mpr ⟨at_96, List.forall_mem_cons.mpr ⟨at_316, List.forall_mem_cons.mpr ⟨at_317, List.forall_mem_cons.mpr ⟨at_318, fun _ h => absurd h List.not_mem_nil⟩⟩⟩⟩⟩⟩
set_option maxRecDepth 20000 in
theorem inT_X7_ofSlip : ∀ w ∈ wsX7_ofSlip, w ∈ lw_tbl := List.forall_mem_cons.mpr ⟨at_298, List.forall_mem_append.mpr ⟨List.forall_mem_append.mpr ⟨List.forall_mem_append.mpr ⟨inT_wsX7_ofSlip_r1, inT_wsX7_ofSlip_r2⟩, inX7⟩, inX4⟩⟩
set_option maxRecDepth 20000 in
theorem gaT_X7_ofSlip : wsX7_ofSlip.all goodWord = true := by decide +kernel
theorem gT_X7_ofSlip : GoodIn lw_tbl (wsV RL 18 RX7 yX7_ofSlip wsX7_ofSlip) := goodIn_app (goodIn_sub (List.forall_mem_cons.mpr ⟨at_295, List.forall_mem_cons.mpr ⟨at_296, List.forall_mem_cons.mpr ⟨at_297, List.forall_mem_cons.mpr ⟨at_39, fun _ h => absurd h List.not_mem_nil⟩⟩⟩⟩) (by decide +kernel)) (goodIn_sub inT_X7_ofSlip gaT_X7_ofSlip)
theorem inT_wsX8_ofSlip_r1 : ∀ w ∈ wsX8_ofSlip_r1, w ∈ lw_tbl := List.forall_mem_cons.mpr ⟨at_623, List.forall_mem_cons.mpr ⟨at_624, List.forall_mem_cons.mpr ⟨at_625, List.forall_mem_cons.mpr ⟨at_626, List.forall_mem_cons.mpr ⟨at_622, List.forall_mem_cons.mpr ⟨at_751, List.forall_mem_cons.mpr ⟨at_753, List.forall_mem_cons.mpr ⟨at_21, List.forall_mem_cons.mpr ⟨at_46, List.forall_mem_cons.mpr ⟨at_754, List.forall_mem_cons.mpr ⟨at_620, List.forall_mem_cons.mpr ⟨at_755, List.forall_mem_cons.mpr ⟨at_757, List.forall_mem_cons.mpr ⟨at_22, List.forall_mem_cons.mpr ⟨at_758, List.forall_mem_cons.mpr ⟨at_630, List.forall_mem_cons.mpr ⟨at_759, List.forall_mem_cons.mpr ⟨at_760, List.forall_mem_cons.mpr ⟨at_761, List.forall_mem_cons.mpr ⟨at_762, List.forall_mem_cons.mpr ⟨at_764, List.forall_mem_cons.mpr ⟨at_23, List.forall_mem_cons.mpr ⟨at_765, List.forall_mem_cons.mpr ⟨at_766, fun _ h => absurd h List.not_mem_nil⟩⟩⟩⟩⟩⟩⟩⟩⟩⟩⟩⟩⟩⟩⟩⟩⟩⟩⟩⟩⟩⟩⟩⟩
theorem inT_wsX8_ofSlip_r2 : ∀ w ∈ wsX8_ofSlip_r2, w ∈ lw_tbl := List.forall_mem_cons.mpr ⟨at_768, List.forall_mem_cons.mpr ⟨at_24, List.forall_mem_cons.mpr ⟨at_769, fun _ h => absurd h List.not_mem_nil⟩⟩⟩
set_option maxRecDepth 20000 in
theorem inT_X8_ofSlip : ∀ w ∈ wsX8_ofSlip, w ∈ lw_tbl := List.forall_mem_cons.mpr ⟨at_750, List.forall_mem_append.mpr ⟨List.forall_mem_append.mpr ⟨inT_wsX8_ofSlip_r1, inT_wsX8_ofSlip_r2⟩, inX8⟩⟩
set_option maxRecDepth 20000 in
theorem gaT_X8_ofSlip : wsX8_ofSlip.all goodWord = true := by decide +kernel
theorem gT_X8_ofSlip : GoodIn lw_tbl (wsV RL 22 RX8 yX8_ofSlip wsX8_ofSlip) := goodIn_app (goodIn_sub (List.forall_mem_cons.mpr ⟨at_747, List.forall_mem_cons.mpr ⟨at_748, List.forall_mem_cons.mpr ⟨at_749, List.forall_mem_cons.mpr ⟨at_46, fun _ h => absurd h List.not_mem_nil⟩⟩⟩⟩) (by decide +kernel)) (goodIn_sub inT_X8_ofSlip gaT_X8_ofSlip)
set_option maxRecDepth 20000 in
theorem inT_X7_want : ∀ w ∈ wsX7_want, w ∈ lw_tbl := List.forall_mem_cons.mpr ⟨at_322, List.forall_mem_append.mpr ⟨List.forall_mem_append.mpr ⟨List.forall_mem_cons.mpr ⟨at_218, List.forall_mem_cons.mpr ⟨at_299, List.forall_mem_cons.mpr ⟨at_292, List.forall_mem_cons.mpr ⟨at_293, List.forall_mem_cons.mpr ⟨at_41, List.forall_mem_cons.mpr ⟨at_294, List.forall_mem_cons.mpr ⟨at_105, fun _ h => absurd h List.not_mem_nil⟩⟩⟩⟩⟩⟩⟩, inX7⟩, inX4⟩⟩
set_option maxRecDepth 20000 in
theorem gaT_X7_want : wsX7_want.all goodWord = true := by decide +kernel
theorem gT_X7_want : GoodIn lw_tbl (wsV RL 23 RX7 yX7_want wsX7_want) := goodIn_app (goodIn_sub (List.forall_mem_cons.mpr ⟨at_319, List.forall_mem_cons.mpr ⟨at_320, List.forall_mem_cons.mpr ⟨at_321, List.forall_mem_cons.mpr ⟨at_39, fun _ h => absurd h List.not_mem_nil⟩⟩⟩⟩) (by decide +kernel)) (goodIn_sub inT_X7_want gaT_X7_want)
set_option maxRecDepth 20000 in
theorem inT_X8_want : ∀ w ∈ wsX8_want, w ∈ lw_tbl := List.forall_mem_cons.mpr ⟨at_773, List.forall_mem_append.mpr ⟨List.forall_mem_cons.mpr ⟨at_625, List.forall_mem_cons.mpr ⟨at_751, List.forall_mem_cons.mpr ⟨at_753, List.forall_mem_cons.mpr ⟨at_21, List.forall_mem_cons.mpr ⟨at_46, List.forall_mem_cons.mpr ⟨at_754, List.forall_mem_cons.mpr ⟨at_620, List.forall_mem_cons.mpr ⟨at_713, List.forall_mem_cons.mpr ⟨at_714, List.forall_mem_cons.mpr ⟨at_715, fun _ h => absurd h List.not_mem_nil⟩⟩⟩⟩⟩⟩⟩⟩⟩⟩, inX8⟩⟩
set_option maxRecDepth 20000 in
theorem gaT_X8_want : wsX8_want.all goodWord = true := by decide +kernel
theorem gT_X8_want : GoodIn lw_tbl (wsV RL 26 RX8 yX8_want wsX8_want) := goodIn_app (goodIn_sub (List.forall_mem_cons.mpr ⟨at_770, List.forall_mem_cons.mpr ⟨at_771, List.forall_mem_cons.mpr ⟨at_772, List.forall_mem_cons.mpr ⟨at_46, fun _ h => absurd h List.not_mem_nil⟩⟩⟩⟩) (by decide +kernel)) (goodIn_sub inT_X8_want gaT_X8_want)
set_option maxRecDepth 20000 in
theorem inT_X7_see : ∀ w ∈ wsX7_see, w ∈ lw_tbl := List.forall_mem_cons.mpr ⟨at_326, List.forall_mem_append.mpr ⟨List.forall_mem_append.mpr ⟨List.forall_mem_cons.mpr ⟨at_218, List.forall_mem_cons.mpr ⟨at_299, List.forall_mem_cons.mpr ⟨at_292, List.forall_mem_cons.mpr ⟨at_293, List.forall_mem_cons.mpr ⟨at_41, List.forall_mem_cons.mpr ⟨at_294, List.forall_mem_cons.mpr ⟨at_105, fun _ h => absurd h List.not_mem_nil⟩⟩⟩⟩⟩⟩⟩, inX7⟩, inX4⟩⟩
set_option maxRecDepth 20000 in
theorem gaT_X7_see : wsX7_see.all goodWord = true := by decide +kernel
theorem gT_X7_see : GoodIn lw_tbl (wsV RL 27 RX7 yX7_see wsX7_see) := goodIn_app (goodIn_sub (List.forall_mem_cons.mpr ⟨at_323, List.forall_mem_cons.mpr ⟨at_324, List.forall_mem_cons.mpr ⟨at_325, List.forall_mem_cons.mpr ⟨at_39, fun _ h => absurd h List.not_mem_nil⟩⟩⟩⟩) (by decide +kernel)) (goodIn_sub inT_X7_see gaT_X7_see)
set_option maxRecDepth 20000 in
theorem inT_X8_see : ∀ w ∈ wsX8_see, w ∈ lw_tbl := List.forall_mem_cons.mpr ⟨at_777, List.forall_mem_append.mpr ⟨List.forall_mem_cons.mpr ⟨at_626, List.forall_mem_cons.mpr ⟨at_751, List.forall_mem_cons.mpr ⟨at_753, List.forall_mem_cons.mpr ⟨at_21, List.forall_mem_cons.mpr ⟨at_46, List.forall_mem_cons.mpr ⟨at_754, List.forall_mem_cons.mpr ⟨at_620, fun _ h => absurd h List.not_mem_nil⟩⟩⟩⟩⟩⟩⟩, inX8⟩⟩
set_option maxRecDepth 20000 in
theorem gaT_X8_see : wsX8_see.all goodWord = true := by decide +kernel
theorem gT_X8_see : GoodIn lw_tbl (wsV RL 30 RX8 yX8_see wsX8_see) := goodIn_app (goodIn_sub (List.forall_mem_cons.mpr ⟨at_774, List.forall_mem_cons.mpr ⟨at_775, List.forall_mem_cons.mpr ⟨at_776, List.forall_mem_cons.mpr ⟨at_46, fun _ h => absurd h List.not_mem_nil⟩⟩⟩⟩) (by decide +kernel)) (goodIn_sub inT_X8_see gaT_X8_see)
theorem inT_wsX7_ask_r1 : ∀ w ∈ wsX7_ask_r1, w ∈ lw_tbl := List.forall_mem_cons.mpr ⟨at_218, List.forall_mem_cons.mpr ⟨at_223, List.forall_mem_cons.mpr ⟨at_299, List.forall_mem_cons.mpr ⟨at_292, List.forall_mem_cons.mpr ⟨at_293, List.forall_mem_cons.mpr ⟨at_41, List.forall_mem_cons.mpr ⟨at_294, List.forall_mem_cons.mpr ⟨at_105, List.forall_mem_cons.mpr ⟨at_300, List.forall_mem_cons.mpr ⟨at_301, List.forall_mem_cons.mpr ⟨at_302, List.forall_mem_cons.mpr ⟨at_303, List.forall_mem_cons.mpr ⟨at_102, List.forall_mem_cons.mpr ⟨at_304, List.forall_mem_cons.mpr ⟨at_305, List.forall_mem_cons.mpr ⟨at_306, List.forall_mem_cons.mpr ⟨at_307, List.forall_mem_cons.mpr ⟨at_308, List.forall_mem_cons.mpr ⟨at_309, List.forall_mem_cons.mpr ⟨at_310, List.forall_mem_cons.mpr ⟨at_311, List.forall_mem_cons.mpr ⟨at_109, List.forall_mem_cons.mpr ⟨at_312, List.forall_mem_cons.mpr ⟨at_313, fun _ h => absurd h List.not_mem_nil⟩⟩⟩⟩⟩⟩⟩⟩⟩⟩⟩⟩⟩⟩⟩⟩⟩⟩⟩⟩⟩⟩⟩⟩
theorem inT_wsX7_ask_r2 : ∀ w ∈ wsX7_ask_r2, w ∈ lw_tbl := List.forall_mem_cons.mpr ⟨at_314, List.forall_mem_cons.mpr ⟨at_315, List.forall_mem_cons.mpr ⟨at_93, List.forall_mem_cons.mpr ⟨at_96, fun _ h => absurd h List.not_mem_nil⟩⟩⟩⟩
set_option maxRecDepth 20000 in
theorem inT_X7_ask : ∀ w ∈ wsX7_ask, w ∈ lw_tbl := List.forall_mem_cons.mpr ⟨at_330, List.forall_mem_append.mpr ⟨List.forall_mem_append.mpr ⟨List.forall_mem_append.mpr ⟨inT_wsX7_ask_r1, inT_wsX7_ask_r2⟩, inX7⟩, inX4⟩⟩
set_option maxRecDepth 20000 in
theorem gaT_X7_ask : wsX7_ask.all goodWord = true := by decide +kernel
theorem gT_X7_ask : GoodIn lw_tbl (wsV RL 31 RX7 yX7_ask wsX7_ask) := goodIn_app (goodIn_sub (List.forall_mem_cons.mpr ⟨at_327, List.forall_mem_cons.mpr ⟨at_328, List.forall_mem_cons.mpr ⟨at_329, List.forall_mem_cons.mpr ⟨at_39, fun _ h => absurd h List.not_mem_nil⟩⟩⟩⟩) (by decide +kernel)) (goodIn_sub inT_X7_ask gaT_X7_ask)
set_option maxRecDepth 20000 in
theorem inT_X8_ask : ∀ w ∈ wsX8_ask, w ∈ lw_tbl := List.forall_mem_cons.mpr ⟨at_781, List.forall_mem_append.mpr ⟨List.forall_mem_cons.mpr ⟨at_621, List.forall_mem_cons.mpr ⟨at_751, List.forall_mem_cons.mpr ⟨at_753, List.forall_mem_cons.mpr ⟨at_21, List.forall_mem_cons.mpr ⟨at_46, List.forall_mem_cons.mpr ⟨at_754, List.forall_mem_cons.mpr ⟨at_620, List.forall_mem_cons.mpr ⟨at_755, List.forall_mem_cons.mpr ⟨at_757, List.forall_mem_cons.mpr ⟨at_22, List.forall_mem_cons.mpr ⟨at_758, List.forall_mem_cons.mpr ⟨at_630, List.forall_mem_cons.mpr ⟨at_622, List.forall_mem_cons.mpr ⟨at_626, List.forall_mem_cons.mpr ⟨at_759, List.forall_mem_cons.mpr ⟨at_760, List.forall_mem_cons.mpr ⟨at_761, List.forall_mem_cons.mpr ⟨at_762, List.forall_mem_cons.mpr ⟨at_764, List.forall_mem_cons.mpr ⟨at_23, List.forall_mem_cons.mpr ⟨at_765, List.forall_mem_cons.mpr ⟨at_623, List.forall_mem_cons.mpr ⟨at_624, fun _ h => absurd h List.not_mem_nil⟩⟩⟩⟩⟩⟩⟩⟩⟩⟩⟩⟩⟩⟩⟩⟩⟩⟩⟩⟩⟩⟩⟩, inX8⟩⟩
set_option maxRecDepth 20000 in
theorem gaT_X8_ask : wsX8_ask.all goodWord = true := by decide +kernel
theorem gT_X8_ask : GoodIn lw_tbl (wsV RL 35 RX8 yX8_ask wsX8_ask) := goodIn_app (goodIn_sub (List.forall_mem_cons.mpr ⟨at_778, List.forall_mem_cons.mpr ⟨at_779, List.forall_mem_cons.mpr ⟨at_780, List.forall_mem_cons.mpr ⟨at_46, fun _ h => absurd h List.not_mem_nil⟩⟩⟩⟩) (by decide +kernel)) (goodIn_sub inT_X8_ask gaT_X8_ask)
theorem inT_wsX7_wet_r1 : ∀ w ∈ wsX7_wet_r1, w ∈ lw_tbl := List.forall_mem_cons.mpr ⟨at_218, List.forall_mem_cons.mpr ⟨at_299, List.forall_mem_cons.mpr ⟨at_292, List.forall_mem_cons.mpr ⟨at_293, List.forall_mem_cons.mpr ⟨at_41, List.forall_mem_cons.mpr ⟨at_294, List.forall_mem_cons.mpr ⟨at_105, List.forall_mem_cons.mpr ⟨at_335, List.forall_mem_cons.mpr ⟨at_336, List.forall_mem_cons.mpr ⟨at_337, List.forall_mem_cons.mpr ⟨at_338, List.forall_mem_cons.mpr ⟨at_109, List.forall_mem_cons.mpr ⟨at_308, List.forall_mem_cons.mpr ⟨at_309, List.forall_mem_cons.mpr ⟨at_310, List.forall_mem_cons.mpr ⟨at_311, List.forall_mem_cons.mpr ⟨at_339, List.forall_mem_cons.mpr ⟨at_340, List.forall_mem_cons.mpr ⟨at_341, List.forall_mem_cons.mpr ⟨at_342, List.forall_mem_cons.mpr ⟨at_343, List.forall_mem_cons.mpr ⟨at_344, List.forall_mem_cons.mpr ⟨at_48, List.forall_mem_cons.mpr ⟨at_345, fun _ h => absurd h List.not_mem_nil⟩⟩⟩⟩⟩⟩⟩⟩⟩⟩⟩⟩⟩⟩⟩⟩⟩⟩⟩⟩⟩⟩⟩⟩
theorem inT_wsX7_wet_r2 : ∀ w ∈ wsX7_wet_r2, w ∈ lw_tbl := List.forall_mem_cons.mpr ⟨at_346, List.forall_mem_cons.mpr ⟨at_347, List.forall_mem_cons.mpr ⟨at_348, fun _ h => absurd h List.not_mem_nil⟩⟩⟩
set_option maxRecDepth 20000 in
theorem inT_X7_wet : ∀ w ∈ wsX7_wet, w ∈ lw_tbl := List.forall_mem_cons.mpr ⟨at_334, List.forall_mem_append.mpr ⟨List.forall_mem_append.mpr ⟨List.forall_mem_append.mpr ⟨inT_wsX7_wet_r1, inT_wsX7_wet_r2⟩, inX7⟩, inX4⟩⟩
set_option maxRecDepth 20000 in
theorem gaT_X7_wet : wsX7_wet.all goodWord = true := by decide +kernel
theorem gT_X7_wet : GoodIn lw_tbl (wsV RL 36 RX7 yX7_wet wsX7_wet) := goodIn_app (goodIn_sub (List.forall_mem_cons.mpr ⟨at_331, List.forall_mem_cons.mpr ⟨at_332, List.forall_mem_cons.mpr ⟨at_333, List.forall_mem_cons.mpr ⟨at_39, fun _ h => absurd h List.not_mem_nil⟩⟩⟩⟩) (by decide +kernel)) (goodIn_sub inT_X7_wet gaT_X7_wet)
set_option maxRecDepth 20000 in
theorem inT_X8_wet : ∀ w ∈ wsX8_wet, w ∈ lw_tbl := List.forall_mem_cons.mpr ⟨at_785, List.forall_mem_append.mpr ⟨List.forall_mem_cons.mpr ⟨at_622, List.forall_mem_cons.mpr ⟨at_751, List.forall_mem_cons.mpr ⟨at_753, List.forall_mem_cons.mpr ⟨at_21, List.forall_mem_cons.mpr ⟨at_46, List.forall_mem_cons.mpr ⟨at_754, List.forall_mem_cons.mpr ⟨at_620, List.forall_mem_cons.mpr ⟨at_759, List.forall_mem_cons.mpr ⟨at_760, List.forall_mem_cons.mpr ⟨at_761, List.forall_mem_cons.mpr ⟨at_786, List.forall_mem_cons.mpr ⟨at_787, List.forall_mem_cons.mpr ⟨at_788, fun _ h => absurd h List.not_mem_nil⟩⟩⟩⟩⟩⟩⟩⟩⟩⟩⟩⟩⟩, inX8⟩⟩
set_option maxRecDepth 20000 in
theorem gaT_X8_wet : wsX8_wet.all goodWord = true := by decide +kernel
theorem gT_X8_wet : GoodIn lw_tbl (wsV RL 39 RX8 yX8_wet wsX8_wet) := goodIn_app (goodIn_sub (List.forall_mem_cons.mpr ⟨at_782, List.forall_mem_cons.mpr ⟨at_783, List.forall_mem_cons.mpr ⟨at_784, List.forall_mem_cons.mpr ⟨at_46, fun _ h => absurd h List.not_mem_nil⟩⟩⟩⟩) (by decide +kernel)) (goodIn_sub inT_X8_wet gaT_X8_wet)
theorem inT_wsX7_dry_r1 : ∀ w ∈ wsX7_dry_r1, w ∈ lw_tbl := List.forall_mem_cons.mpr ⟨at_218, List.forall_mem_cons.mpr ⟨at_299, List.forall_mem_cons.mpr ⟨at_292, List.forall_mem_cons.mpr ⟨at_293, List.forall_mem_cons.mpr ⟨at_41, List.forall_mem_cons.mpr ⟨at_294, List.forall_mem_cons.mpr ⟨at_105, List.forall_mem_cons.mpr ⟨at_353, List.forall_mem_cons.mpr ⟨at_354, List.forall_mem_cons.mpr ⟨at_355, List.forall_mem_cons.mpr ⟨at_356, List.forall_mem_cons.mpr ⟨at_109, List.forall_mem_cons.mpr ⟨at_308, List.forall_mem_cons.mpr ⟨at_309, List.forall_mem_cons.mpr ⟨at_310, List.forall_mem_cons.mpr ⟨at_311, List.forall_mem_cons.mpr ⟨at_339, List.forall_mem_cons.mpr ⟨at_340, List.forall_mem_cons.mpr ⟨at_341, List.forall_mem_cons.mpr ⟨at_342, List.forall_mem_cons.mpr ⟨at_343, List.forall_mem_cons.mpr ⟨at_344, List.forall_mem_cons.mpr ⟨at_48, List.forall_mem_cons.mpr ⟨at_345, fun _ h => absurd h List.not_mem_nil⟩⟩⟩⟩⟩⟩⟩⟩⟩⟩⟩⟩⟩⟩⟩⟩⟩⟩⟩⟩⟩⟩⟩⟩
theorem inT_wsX7_dry_r2 : ∀ w ∈ wsX7_dry_r2, w ∈ lw_tbl := List.forall_mem_cons.mpr ⟨at_346, List.forall_mem_cons.mpr ⟨at_347, List.forall_mem_cons.mpr ⟨at_348, fun _ h => absurd h List.not_mem_nil⟩⟩⟩
set_option maxRecDepth 20000 in
theorem inT_X7_dry : ∀ w ∈ wsX7_dry, w ∈ lw_tbl := List.forall_mem_cons.mpr ⟨at_352, List.forall_mem_append.mpr ⟨List.forall_mem_append.mpr ⟨List.forall_mem_append.mpr ⟨inT_wsX7_dry_r1, inT_wsX7_dry_r2⟩, inX7⟩, inX4⟩⟩
set_option maxRecDepth 20000 in
theorem gaT_X7_dry : wsX7_dry.all goodWord = true := by decide +kernel
theorem gT_X7_dry : GoodIn lw_tbl (wsV RL 40 RX7 yX7_dry wsX7_dry) := goodIn_app (goodIn_sub (List.forall_mem_cons.mpr ⟨at_349, List.forall_mem_cons.mpr ⟨at_350, List.forall_mem_cons.mpr ⟨at_351, List.forall_mem_cons.mpr ⟨at_39, fun _ h => absurd h List.not_mem_nil⟩⟩⟩⟩) (by decide +kernel)) (goodIn_sub inT_X7_dry gaT_X7_dry)
set_option maxRecDepth 20000 in
theorem inT_X8_dry : ∀ w ∈ wsX8_dry, w ∈ lw_tbl := List.forall_mem_cons.mpr ⟨at_792, List.forall_mem_append.mpr ⟨List.forall_mem_cons.mpr ⟨at_622, List.forall_mem_cons.mpr ⟨at_751, List.forall_mem_cons.mpr ⟨at_753, List.forall_mem_cons.mpr ⟨at_21, List.forall_mem_cons.mpr ⟨at_46, List.forall_mem_cons.mpr ⟨at_754, List.forall_mem_cons.mpr ⟨at_620, List.forall_mem_cons.mpr ⟨at_759, List.forall_mem_cons.mpr ⟨at_760, List.forall_mem_cons.mpr ⟨at_761, List.forall_mem_cons.mpr ⟨at_786, List.forall_mem_cons.mpr ⟨at_787, List.forall_mem_cons.mpr ⟨at_788, fun _ h => absurd h List.not_mem_nil⟩⟩⟩⟩⟩⟩⟩⟩⟩⟩⟩⟩⟩, inX8⟩⟩
set_option maxRecDepth 20000 in
theorem gaT_X8_dry : wsX8_dry.all goodWord = true := by decide +kernel
theorem gT_X8_dry : GoodIn lw_tbl (wsV RL 43 RX8 yX8_dry wsX8_dry) := goodIn_app (goodIn_sub (List.forall_mem_cons.mpr ⟨at_789, List.forall_mem_cons.mpr ⟨at_790, List.forall_mem_cons.mpr ⟨at_791, List.forall_mem_cons.mpr ⟨at_46, fun _ h => absurd h List.not_mem_nil⟩⟩⟩⟩) (by decide +kernel)) (goodIn_sub inT_X8_dry gaT_X8_dry)
theorem inT_wsX7_leads_r1 : ∀ w ∈ wsX7_leads_r1, w ∈ lw_tbl := List.forall_mem_cons.mpr ⟨at_218, List.forall_mem_cons.mpr ⟨at_361, List.forall_mem_cons.mpr ⟨at_362, List.forall_mem_cons.mpr ⟨at_39, List.forall_mem_cons.mpr ⟨at_363, List.forall_mem_cons.mpr ⟨at_300, List.forall_mem_cons.mpr ⟨at_301, List.forall_mem_cons.mpr ⟨at_302, List.forall_mem_cons.mpr ⟨at_41, List.forall_mem_cons.mpr ⟨at_303, List.forall_mem_cons.mpr ⟨at_102, List.forall_mem_cons.mpr ⟨at_304, List.forall_mem_cons.mpr ⟨at_305, List.forall_mem_cons.mpr ⟨at_306, List.forall_mem_cons.mpr ⟨at_307, List.forall_mem_cons.mpr ⟨at_105, List.forall_mem_cons.mpr ⟨at_308, List.forall_mem_cons.mpr ⟨at_309, List.forall_mem_cons.mpr ⟨at_310, List.forall_mem_cons.mpr ⟨at_311, List.forall_mem_cons.mpr ⟨at_109, List.forall_mem_cons.mpr ⟨at_312, List.forall_mem_cons.mpr ⟨at_313, List.forall_mem_cons.mpr ⟨at_314, fun _ h => absurd h List.not_mem_nil⟩⟩⟩⟩⟩⟩⟩⟩⟩⟩⟩⟩⟩⟩⟩⟩⟩⟩⟩⟩⟩⟩⟩⟩
theorem inT_wsX7_leads_r2 : ∀ w ∈ wsX7_leads_r2, w ∈ lw_tbl := List.forall_mem_cons.mpr ⟨at_315, List.forall_mem_cons.mpr ⟨at_93, List.forall_mem_cons.mpr ⟨at_96, fun _ h => absurd h List.not_mem_nil⟩⟩⟩
set_option maxRecDepth 20000 in
theorem inT_X7_leads : ∀ w ∈ wsX7_leads, w ∈ lw_tbl := List.forall_mem_cons.mpr ⟨at_360, List.forall_mem_append.mpr ⟨List.forall_mem_append.mpr ⟨List.forall_mem_append.mpr ⟨inT_wsX7_leads_r1, inT_wsX7_leads_r2⟩, inX7⟩, inX4⟩⟩
set_option maxRecDepth 20000 in
theorem gaT_X7_leads : wsX7_leads.all goodWord = true := by decide +kernel
theorem gT_X7_leads : GoodIn lw_tbl (wsV RL 44 RX7 yX7_leads wsX7_leads) := goodIn_app (goodIn_sub (List.forall_mem_cons.mpr ⟨at_357, List.forall_mem_cons.mpr ⟨at_358, List.forall_mem_cons.mpr ⟨at_359, List.forall_mem_cons.mpr ⟨at_39, fun _ h => absurd h List.not_mem_nil⟩⟩⟩⟩) (by decide +kernel)) (goodIn_sub inT_X7_leads gaT_X7_leads)
set_option maxRecDepth 20000 in
theorem inT_X8_leads : ∀ w ∈ wsX8_leads, w ∈ lw_tbl := List.forall_mem_cons.mpr ⟨at_796, List.forall_mem_append.mpr ⟨List.forall_mem_cons.mpr ⟨at_620, List.forall_mem_cons.mpr ⟨at_713, List.forall_mem_cons.mpr ⟨at_714, List.forall_mem_cons.mpr ⟨at_46, List.forall_mem_cons.mpr ⟨at_715, List.forall_mem_cons.mpr ⟨at_755, List.forall_mem_cons.mpr ⟨at_757, List.forall_mem_cons.mpr ⟨at_22, List.forall_mem_cons.mpr ⟨at_758, List.forall_mem_cons.mpr ⟨at_630, List.forall_mem_cons.mpr ⟨at_622, List.forall_mem_cons.mpr ⟨at_626, List.forall_mem_cons.mpr ⟨at_759, List.forall_mem_cons.mpr ⟨at_760, List.forall_mem_cons.mpr ⟨at_761, List.forall_mem_cons.mpr ⟨at_762, List.forall_mem_cons.mpr ⟨at_764, List.forall_mem_cons.mpr ⟨at_23, List.forall_mem_cons.mpr ⟨at_765, List.forall_mem_cons.mpr ⟨at_623, List.forall_mem_cons.mpr ⟨at_624, fun _ h => absurd h List.not_mem_nil⟩⟩⟩⟩⟩⟩⟩⟩⟩⟩⟩⟩⟩⟩⟩⟩⟩⟩⟩⟩⟩, inX8⟩⟩
set_option maxRecDepth 20000 in
theorem gaT_X8_leads : wsX8_leads.all goodWord = true := by decide +kernel
theorem gT_X8_leads : GoodIn lw_tbl (wsV RL 47 RX8 yX8_leads wsX8_leads) := goodIn_app (goodIn_sub (List.forall_mem_cons.mpr ⟨at_793, List.forall_mem_cons.mpr ⟨at_794, List.forall_mem_cons.mpr ⟨at_795, List.forall_mem_cons.mpr ⟨at_46, fun _ h => absurd h List.not_mem_nil⟩⟩⟩⟩) (by decide +kernel)) (goodIn_sub inT_X8_leads gaT_X8_leads)
theorem inT_wsX7_years_r1 : ∀ w ∈ wsX7_years_r1, w ∈ lw_tbl := List.forall_mem_cons.mpr ⟨at_225, List.forall_mem_cons.mpr ⟨at_217, List.forall_mem_cons.mpr ⟨at_218, List.forall_mem_cons.mpr ⟨at_220, List.forall_mem_cons.mpr ⟨at_249, List.forall_mem_cons.mpr ⟨at_250, List.forall_mem_cons.mpr ⟨at_39, List.forall_mem_cons.mpr ⟨at_251, List.forall_mem_cons.mpr ⟨at_252, List.forall_mem_cons.mpr ⟨at_253, List.forall_mem_cons.mpr ⟨at_254, List.forall_mem_cons.mpr ⟨at_368, List.forall_mem_cons.mpr ⟨at_369, List.forall_mem_cons.mpr ⟨at_43, List.forall_mem_cons.mpr ⟨at_370, List.forall_mem_cons.mpr ⟨at_255, List.forall_mem_cons.mpr ⟨at_256, List.forall_mem_cons.mpr ⟨at_257, List.forall_mem_cons.mpr ⟨at_40, List.forall_mem_cons.mpr ⟨at_258, List.forall_mem_cons.mpr ⟨at_71, List.forall_mem_cons.mpr ⟨at_73, List.forall_mem_cons.mpr ⟨at_259, List.forall_mem_cons.mpr ⟨at_260, fun _ h => absurd h List.not_mem_nil⟩⟩⟩⟩⟩⟩⟩⟩⟩⟩⟩⟩⟩⟩⟩⟩⟩⟩⟩⟩⟩⟩⟩⟩
theorem inT_wsX7_years_r2 : ∀ w ∈ wsX7_years_r2, w ∈ lw_tbl := List.forall_mem_cons.mpr ⟨at_261, List.forall_mem_cons.mpr ⟨at_262, List.forall_mem_cons.mpr ⟨at_75, List.forall_mem_cons.mpr ⟨at_263, List.forall_mem_cons.mpr ⟨at_265, List.forall_mem_cons.mpr ⟨at_0, List.forall_mem_cons.mpr ⟨at_266, List.forall_mem_cons.mpr ⟨at_371, List.forall_mem_cons.mpr ⟨at_373, List.forall_mem_cons.mpr ⟨at_1, List.forall_mem_cons.mpr ⟨at_374, List.forall_mem_cons.mpr ⟨at_375, List.forall_mem_cons.mpr ⟨at_376, List.forall_mem_cons.mpr ⟨at_377, List.forall_mem_cons.mpr ⟨at_299, List.forall_mem_cons.mpr ⟨at_292, List.forall_mem_cons.mpr ⟨at_293, List.forall_mem_cons.mpr ⟨at_41, List.forall_mem_cons.mpr ⟨at_294, List.forall_mem_cons.mpr ⟨at_105, List.forall_mem_cons.mpr ⟨at_378, List.forall_mem_cons.mpr ⟨at_379, List.forall_mem_cons.mpr ⟨at_380, List.forall_mem_cons.mpr ⟨at_381, fun _ h => absurd h List.not_mem_nil⟩⟩⟩⟩⟩⟩⟩⟩⟩⟩⟩⟩⟩⟩⟩⟩⟩⟩⟩⟩⟩⟩⟩⟩
theorem inT_wsX7_years_r3 : ∀ w ∈ wsX7_years_r3, w ∈ lw_tbl := List.forall_mem_cons.mpr ⟨at_166, List.forall_mem_cons.mpr ⟨at_167, List.forall_mem_cons.mpr ⟨at_168, List.forall_mem_cons.mpr ⟨at_169, List.forall_mem_cons.mpr ⟨at_382, List.forall_mem_cons.mpr ⟨at_383, List.forall_mem_cons.mpr ⟨at_384, List.forall_mem_cons.mpr ⟨at_385, List.forall_mem_cons.mpr ⟨at_109, List.forall_mem_cons.mpr ⟨at_93, List.forall_mem_cons.mpr ⟨at_96, List.forall_mem_cons.mpr ⟨at_99, List.forall_mem_cons.mpr ⟨at_102, List.forall_mem_cons.mpr ⟨at_386, List.forall_mem_cons.mpr ⟨at_388, List.forall_mem_cons.mpr ⟨at_2, List.forall_mem_cons.mpr ⟨at_389, List.forall_mem_cons.mpr ⟨at_390, List.forall_mem_cons.mpr ⟨at_392, List.forall_mem_cons.mpr ⟨at_3, List.forall_mem_cons.mpr ⟨at_393, List.forall_mem_cons.mpr ⟨at_394, List.forall_mem_cons.mpr ⟨at_301, List.forall_mem_cons.mpr ⟨at_302, fun _ h => absurd h List.not_mem_nil⟩⟩⟩⟩⟩⟩⟩⟩⟩⟩⟩⟩⟩⟩⟩⟩⟩⟩⟩⟩⟩⟩⟩⟩
theorem inT_wsX7_years_r4 : ∀ w ∈ wsX7_years_r4, w ∈ lw_tbl := List.forall_mem_cons.mpr ⟨at_303, List.forall_mem_cons.mpr ⟨at_304, List.forall_mem_cons.mpr ⟨at_305, List.forall_mem_cons.mpr ⟨at_306, List.forall_mem_cons.mpr ⟨at_307, List.forall_mem_cons.mpr ⟨at_308, List.forall_mem_cons.mpr ⟨at_309, List.forall_mem_cons.mpr ⟨at_310, List.forall_mem_cons.mpr ⟨at_311, List.forall_mem_cons.mpr ⟨at_312, List.forall_mem_cons.mpr ⟨at_313, List.forall_mem_cons.mpr ⟨at_314, List.forall_mem_cons.mpr ⟨at_315, List.forall_mem_cons.mpr ⟨at_395, List.forall_mem_cons.mpr ⟨at_336, List.forall_mem_cons.mpr ⟨at_337, List.forall_mem_cons.mpr ⟨at_338, List.forall_mem_cons.mpr ⟨at_396, List.forall_mem_cons.mpr ⟨at_354, List.forall_mem_cons.mpr ⟨at_355, List.forall_mem_cons.mpr ⟨at_356, List.forall_mem_cons.mpr ⟨at_397, List.forall_mem_cons.mpr ⟨at_288, List.forall_mem_cons.mpr ⟨at_289, fun _ h => absurd h List.not_mem_nil⟩⟩⟩⟩⟩⟩⟩⟩⟩⟩⟩⟩⟩⟩⟩⟩⟩⟩⟩⟩⟩⟩⟩⟩
theorem inT_wsX7_years_r5 : ∀ w ∈ wsX7_years_r5, w ∈ lw_tbl := List.forall_mem_cons.mpr ⟨at_290, List.forall_mem_cons.mpr ⟨at_291, List.forall_mem_cons.mpr ⟨at_398, List.forall_mem_cons.mpr ⟨at_399, List.forall_mem_cons.mpr ⟨at_400, List.forall_mem_cons.mpr ⟨at_401, List.forall_mem_cons.mpr ⟨at_402, fun _ h => absurd h List.not_mem_nil⟩⟩⟩⟩⟩⟩⟩
set_option maxRecDepth 20000 in
theorem inT_X7_years : ∀ w ∈ wsX7_years, w ∈ lw_tbl := List.forall_mem_cons.mpr ⟨at_367, List.forall_mem_append.mpr ⟨List.forall_mem_append.mpr ⟨List.forall_mem_append.mpr ⟨List.forall_mem_append.mpr ⟨List.forall_mem_append.mpr ⟨inT_wsX7_years_r1, List.forall_mem_append.mpr ⟨inT_wsX7_years_r2, List.forall_mem_append.mpr ⟨inT_wsX7_years_r3, List.forall_mem_append.mpr ⟨inT_wsX7_years_r4, inT_wsX7_years_r5⟩⟩⟩⟩, inX7⟩, inX4⟩, inX2⟩, inX6⟩⟩
set_option maxRecDepth 20000 in
theorem gaT_X7_years : wsX7_years.all goodWord = true := by decide +kernel
theorem gT_X7_years : GoodIn lw_tbl (wsV RL 48 RX7 yX7_years wsX7_years) := goodIn_app (goodIn_sub (List.forall_mem_cons.mpr ⟨at_364, List.forall_mem_cons.mpr ⟨at_365, List.forall_mem_cons.mpr ⟨at_366, List.forall_mem_cons.mpr ⟨at_39, fun _ h => absurd h List.not_mem_nil⟩⟩⟩⟩) (by decide +kernel)) (goodIn_sub inT_X7_years gaT_X7_years)
theorem inT_wsX8_years_r1 : ∀ w ∈ wsX8_years_r1, w ∈ lw_tbl := List.forall_mem_cons.mpr ⟨at_615, List.forall_mem_cons.mpr ⟨at_620, List.forall_mem_cons.mpr ⟨at_619, List.forall_mem_cons.mpr ⟨at_622, List.forall_mem_cons.mpr ⟨at_631, List.forall_mem_cons.mpr ⟨at_626, List.forall_mem_cons.mpr ⟨at_710, List.forall_mem_cons.mpr ⟨at_711, List.forall_mem_cons.mpr ⟨at_46, List.forall_mem_cons.mpr ⟨at_712, List.forall_mem_cons.mpr ⟨at_713, List.forall_mem_cons.mpr ⟨at_714, List.forall_mem_cons.mpr ⟨at_715, List.forall_mem_cons.mpr ⟨at_716, List.forall_mem_cons.mpr ⟨at_717, List.forall_mem_cons.mpr ⟨at_718, List.forall_mem_cons.mpr ⟨at_719, List.forall_mem_cons.mpr ⟨at_721, List.forall_mem_cons.mpr ⟨at_14, List.forall_mem_cons.mpr ⟨at_722, List.forall_mem_cons.mpr ⟨at_617, List.forall_mem_cons.mpr ⟨at_618, List.forall_mem_cons.mpr ⟨at_723, List.forall_mem_cons.mpr ⟨at_725, fun _ h => absurd h List.not_mem_nil⟩⟩⟩⟩⟩⟩⟩⟩⟩⟩⟩⟩⟩⟩⟩⟩⟩⟩⟩⟩⟩⟩⟩⟩
theorem inT_wsX8_years_r2 : ∀ w ∈ wsX8_years_r2, w ∈ lw_tbl := List.forall_mem_cons.mpr ⟨at_15, List.forall_mem_cons.mpr ⟨at_726, List.forall_mem_cons.mpr ⟨at_801, List.forall_mem_cons.mpr ⟨at_803, List.forall_mem_cons.mpr ⟨at_25, List.forall_mem_cons.mpr ⟨at_804, List.forall_mem_cons.mpr ⟨at_751, List.forall_mem_cons.mpr ⟨at_753, List.forall_mem_cons.mpr ⟨at_21, List.forall_mem_cons.mpr ⟨at_754, List.forall_mem_cons.mpr ⟨at_805, List.forall_mem_cons.mpr ⟨at_807, List.forall_mem_cons.mpr ⟨at_26, List.forall_mem_cons.mpr ⟨at_808, List.forall_mem_cons.mpr ⟨at_632, List.forall_mem_cons.mpr ⟨at_633, List.forall_mem_cons.mpr ⟨at_634, List.forall_mem_cons.mpr ⟨at_809, List.forall_mem_cons.mpr ⟨at_811, List.forall_mem_cons.mpr ⟨at_27, List.forall_mem_cons.mpr ⟨at_812, List.forall_mem_cons.mpr ⟨at_755, List.forall_mem_cons.mpr ⟨at_757, List.forall_mem_cons.mpr ⟨at_22, fun _ h => absurd h List.not_mem_nil⟩⟩⟩⟩⟩⟩⟩⟩⟩⟩⟩⟩⟩⟩⟩⟩⟩⟩⟩⟩⟩⟩⟩⟩
theorem inT_wsX8_years_r3 : ∀ w ∈ wsX8_years_r3, w ∈ lw_tbl := List.forall_mem_cons.mpr ⟨at_758, List.forall_mem_cons.mpr ⟨at_630, List.forall_mem_cons.mpr ⟨at_759, List.forall_mem_cons.mpr ⟨at_760, List.forall_mem_cons.mpr ⟨at_761, List.forall_mem_cons.mpr ⟨at_762, List.forall_mem_cons.mpr ⟨at_764, List.forall_mem_cons.mpr ⟨at_23, List.forall_mem_cons.mpr ⟨at_765, List.forall_mem_cons.mpr ⟨at_623, List.forall_mem_cons.mpr ⟨at_624, List.forall_mem_cons.mpr ⟨at_813, List.forall_mem_cons.mpr ⟨at_815, List.forall_mem_cons.mpr ⟨at_28, List.forall_mem_cons.mpr ⟨at_816, fun _ h => absurd h List.not_mem_nil⟩⟩⟩⟩⟩⟩⟩⟩⟩⟩⟩⟩⟩⟩⟩
set_option maxRecDepth 20000 in
theorem inT_X8_years : ∀ w ∈ wsX8_years, w ∈ lw_tbl := List.forall_mem_cons.mpr ⟨at_800, List.forall_mem_append.mpr ⟨List.forall_mem_append.mpr ⟨inT_wsX8_years_r1, List.forall_mem_append.mpr ⟨inT_wsX8_years_r2, inT_wsX8_years_r3⟩⟩, inX8⟩⟩
set_option maxRecDepth 20000 in
theorem gaT_X8_years : wsX8_years.all goodWord = true := by decide +kernel
theorem gT_X8_years : GoodIn lw_tbl (wsV RL 52 RX8 yX8_years wsX8_years) := goodIn_app (goodIn_sub (List.forall_mem_cons.mpr ⟨at_797, List.forall_mem_cons.mpr ⟨at_798, List.forall_mem_cons.mpr ⟨at_799, List.forall_mem_cons.mpr ⟨at_46, fun _ h => absurd h List.not_mem_nil⟩⟩⟩⟩) (by decide +kernel)) (goodIn_sub inT_X8_years gaT_X8_years)
theorem inT_wsX7_rings_r1 : ∀ w ∈ wsX7_rings_r1, w ∈ lw_tbl := List.forall_mem_cons.mpr ⟨at_218, List.forall_mem_cons.mpr ⟨at_407, List.forall_mem_cons.mpr ⟨at_408, List.forall_mem_cons.mpr ⟨at_409, List.forall_mem_cons.mpr ⟨at_41, List.forall_mem_cons.mpr ⟨at_410, List.forall_mem_cons.mpr ⟨at_105, List.forall_mem_cons.mpr ⟨at_411, List.forall_mem_cons.mpr ⟨at_413, List.forall_mem_cons.mpr ⟨at_4, List.forall_mem_cons.mpr ⟨at_414, List.forall_mem_cons.mpr ⟨at_102, List.forall_mem_cons.mpr ⟨at_415, List.forall_mem_cons.mpr ⟨at_416, List.forall_mem_cons.mpr ⟨at_49, List.forall_mem_cons.mpr ⟨at_417, List.forall_mem_cons.mpr ⟨at_418, List.forall_mem_cons.mpr ⟨at_419, List.forall_mem_cons.mpr ⟨at_420, List.forall_mem_cons.mpr ⟨at_421, List.forall_mem_cons.mpr ⟨at_422, List.forall_mem_cons.mpr ⟨at_344, List.forall_mem_cons.mpr ⟨at_48, List.forall_mem_cons.mpr ⟨at_345, fun _ h => absurd h List.not_mem_nil⟩⟩⟩⟩⟩⟩⟩⟩⟩⟩⟩⟩⟩⟩⟩⟩⟩⟩⟩⟩⟩⟩⟩⟩
theorem inT_wsX7_rings_r2 : ∀ w ∈ wsX7_rings_r2, w ∈ lw_tbl := List.forall_mem_cons.mpr ⟨at_346, List.forall_mem_cons.mpr ⟨at_347, List.forall_mem_cons.mpr ⟨at_348, fun _ h => absurd h List.not_mem_nil⟩⟩⟩
set_option maxRecDepth 20000 in
theorem inT_X7_rings : ∀ w ∈ wsX7_rings, w ∈ lw_tbl := List.forall_mem_cons.mpr ⟨at_406, List.forall_mem_append.mpr ⟨List.forall_mem_append.mpr ⟨List.forall_mem_append.mpr ⟨inT_wsX7_rings_r1, inT_wsX7_rings_r2⟩, inX7⟩, inX4⟩⟩
set_option maxRecDepth 20000 in
theorem gaT_X7_rings : wsX7_rings.all goodWord = true := by decide +kernel
theorem gT_X7_rings : GoodIn lw_tbl (wsV RL 53 RX7 yX7_rings wsX7_rings) := goodIn_app (goodIn_sub (List.forall_mem_cons.mpr ⟨at_403, List.forall_mem_cons.mpr ⟨at_404, List.forall_mem_cons.mpr ⟨at_405, List.forall_mem_cons.mpr ⟨at_39, fun _ h => absurd h List.not_mem_nil⟩⟩⟩⟩) (by decide +kernel)) (goodIn_sub inT_X7_rings gaT_X7_rings)
set_option maxRecDepth 20000 in
theorem inT_X8_rings : ∀ w ∈ wsX8_rings, w ∈ lw_tbl := List.forall_mem_cons.mpr ⟨at_820, List.forall_mem_append.mpr ⟨List.forall_mem_cons.mpr ⟨at_620, List.forall_mem_cons.mpr ⟨at_713, List.forall_mem_cons.mpr ⟨at_714, List.forall_mem_cons.mpr ⟨at_46, List.forall_mem_cons.mpr ⟨at_715, List.forall_mem_cons.mpr ⟨at_821, List.forall_mem_cons.mpr ⟨at_823, List.forall_mem_cons.mpr ⟨at_29, List.forall_mem_cons.mpr ⟨at_824, List.forall_mem_cons.mpr ⟨at_626, List.forall_mem_cons.mpr ⟨at_825, List.forall_mem_cons.mpr ⟨at_826, List.forall_mem_cons.mpr ⟨at_827, List.forall_mem_cons.mpr ⟨at_759, List.forall_mem_cons.mpr ⟨at_760, List.forall_mem_cons.mpr ⟨at_761, fun _ h => absurd h List.not_mem_nil⟩⟩⟩⟩⟩⟩⟩⟩⟩⟩⟩⟩⟩⟩⟩⟩, inX8⟩⟩
set_option maxRecDepth 20000 in
theorem gaT_X8_rings : wsX8_rings.all goodWord = true := by decide +kernel
theorem gT_X8_rings : GoodIn lw_tbl (wsV RL 56 RX8 yX8_rings wsX8_rings) := goodIn_app (goodIn_sub (List.forall_mem_cons.mpr ⟨at_817, List.forall_mem_cons.mpr ⟨at_818, List.forall_mem_cons.mpr ⟨at_819, List.forall_mem_cons.mpr ⟨at_46, fun _ h => absurd h List.not_mem_nil⟩⟩⟩⟩) (by decide +kernel)) (goodIn_sub inT_X8_rings gaT_X8_rings)
set_option maxRecDepth 20000 in
theorem inT_X7_cuts : ∀ w ∈ wsX7_cuts, w ∈ lw_tbl := List.forall_mem_cons.mpr ⟨at_426, List.forall_mem_append.mpr ⟨List.forall_mem_append.mpr ⟨List.forall_mem_cons.mpr ⟨at_218, List.forall_mem_cons.mpr ⟨at_418, List.forall_mem_cons.mpr ⟨at_419, List.forall_mem_cons.mpr ⟨at_420, List.forall_mem_cons.mpr ⟨at_41, List.forall_mem_cons.mpr ⟨at_421, List.forall_mem_cons.mpr ⟨at_105, List.forall_mem_cons.mpr ⟨at_411, List.forall_mem_cons.mpr ⟨at_413, List.forall_mem_cons.mpr ⟨at_4, List.forall_mem_cons.mpr ⟨at_414, List.forall_mem_cons.mpr ⟨at_102, List.forall_mem_cons.mpr ⟨at_415, List.forall_mem_cons.mpr ⟨at_416, List.forall_mem_cons.mpr ⟨at_49, List.forall_mem_cons.mpr ⟨at_417, fun _ h => absurd h List.not_mem_nil⟩⟩⟩⟩⟩⟩⟩⟩⟩⟩⟩⟩⟩⟩⟩⟩, inX7⟩, inX4⟩⟩
set_option maxRecDepth 20000 in
theorem gaT_X7_cuts : wsX7_cuts.all goodWord = true := by decide +kernel
theorem gT_X7_cuts : GoodIn lw_tbl (wsV RL 57 RX7 yX7_cuts wsX7_cuts) := goodIn_app (goodIn_sub (List.forall_mem_cons.mpr ⟨at_423, List.forall_mem_cons.mpr ⟨at_424, List.forall_mem_cons.mpr ⟨at_425, List.forall_mem_cons.mpr ⟨at_39, fun _ h => absurd h List.not_mem_nil⟩⟩⟩⟩) (by decide +kernel)) (goodIn_sub inT_X7_cuts gaT_X7_cuts)
set_option maxRecDepth 20000 in
theorem inT_X8_cuts : ∀ w ∈ wsX8_cuts, w ∈ lw_tbl := List.forall_mem_cons.mpr ⟨at_831, List.forall_mem_append.mpr ⟨List.forall_mem_cons.mpr ⟨at_620, List.forall_mem_cons.mpr ⟨at_821, List.forall_mem_cons.mpr ⟨at_823, List.forall_mem_cons.mpr ⟨at_29, List.forall_mem_cons.mpr ⟨at_46, List.forall_mem_cons.mpr ⟨at_824, List.forall_mem_cons.mpr ⟨at_626, List.forall_mem_cons.mpr ⟨at_825, List.forall_mem_cons.mpr ⟨at_826, List.forall_mem_cons.mpr ⟨at_827, List.forall_mem_cons.mpr ⟨at_759, List.forall_mem_cons.mpr ⟨at_760, List.forall_mem_cons.mpr ⟨at_761, fun _ h => absurd h List.not_mem_nil⟩⟩⟩⟩⟩⟩⟩⟩⟩⟩⟩⟩⟩, inX8⟩⟩
set_option maxRecDepth 20000 in
theorem gaT_X8_cuts : wsX8_cuts.all goodWord = true := by decide +kernel
theorem gT_X8_cuts : GoodIn lw_tbl (wsV RL 61 RX8 yX8_cuts wsX8_cuts) := goodIn_app (goodIn_sub (List.forall_mem_cons.mpr ⟨at_828, List.forall_mem_cons.mpr ⟨at_829, List.forall_mem_cons.mpr ⟨at_830, List.forall_mem_cons.mpr ⟨at_46, fun _ h => absurd h List.not_mem_nil⟩⟩⟩⟩) (by decide +kernel)) (goodIn_sub inT_X8_cuts gaT_X8_cuts)
theorem inT_wsX7_tree_r1 : ∀ w ∈ wsX7_tree_r1, w ∈ lw_tbl := List.forall_mem_cons.mpr ⟨at_218, List.forall_mem_cons.mpr ⟨at_221, List.forall_mem_cons.mpr ⟨at_431, List.forall_mem_cons.mpr ⟨at_432, List.forall_mem_cons.mpr ⟨at_433, List.forall_mem_cons.mpr ⟨at_44, List.forall_mem_cons.mpr ⟨at_434, List.forall_mem_cons.mpr ⟨at_189, List.forall_mem_cons.mpr ⟨at_185, List.forall_mem_cons.mpr ⟨at_186, List.forall_mem_cons.mpr ⟨at_435, List.forall_mem_cons.mpr ⟨at_309, List.forall_mem_cons.mpr ⟨at_310, List.forall_mem_cons.mpr ⟨at_41, List.forall_mem_cons.mpr ⟨at_311, List.forall_mem_cons.mpr ⟨at_109, List.forall_mem_cons.mpr ⟨at_436, List.forall_mem_cons.mpr ⟨at_438, List.forall_mem_cons.mpr ⟨at_5, List.forall_mem_cons.mpr ⟨at_439, List.forall_mem_cons.mpr ⟨at_440, List.forall_mem_cons.mpr ⟨at_187, List.forall_mem_cons.mpr ⟨at_188, List.forall_mem_cons.mpr ⟨at_441, fun _ h => absurd h List.not_mem_nil⟩⟩⟩⟩⟩⟩⟩⟩⟩⟩⟩⟩⟩⟩⟩⟩⟩⟩⟩⟩⟩⟩⟩⟩
theorem inT_wsX7_tree_r2 : ∀ w ∈ wsX7_tree_r2, w ∈ lw_tbl := List.forall_mem_cons.mpr ⟨at_442, List.forall_mem_cons.mpr ⟨at_443, List.forall_mem_cons.mpr ⟨at_444, List.forall_mem_cons.mpr ⟨at_445, List.forall_mem_cons.mpr ⟨at_446, List.forall_mem_cons.mpr ⟨at_447, List.forall_mem_cons.mpr ⟨at_448, List.forall_mem_cons.mpr ⟨at_449, List.forall_mem_cons.mpr ⟨at_450, List.forall_mem_cons.mpr ⟨at_451, fun _ h => absurd h List.not_mem_nil⟩⟩⟩⟩⟩⟩⟩⟩⟩⟩
set_option maxRecDepth 20000 in
theorem inT_X7_tree : ∀ w ∈ wsX7_tree, w ∈ lw_tbl := List.forall_mem_cons.mpr ⟨at_430, List.forall_mem_append.mpr ⟨List.forall_mem_append.mpr ⟨List.forall_mem_append.mpr ⟨List.forall_mem_append.mpr ⟨inT_wsX7_tree_r1, inT_wsX7_tree_r2⟩, inX7⟩, inX4⟩, inX3⟩⟩
set_option maxRecDepth 20000 in
theorem gaT_X7_tree : wsX7_tree.all goodWord = true := by decide +kernel
theorem gT_X7_tree : GoodIn lw_tbl (wsV RL 62 RX7 yX7_tree wsX7_tree) := goodIn_app (goodIn_sub (List.forall_mem_cons.mpr ⟨at_427, List.forall_mem_cons.mpr ⟨at_428, List.forall_mem_cons.mpr ⟨at_429, List.forall_mem_cons.mpr ⟨at_39, fun _ h => absurd h List.not_mem_nil⟩⟩⟩⟩) (by decide +kernel)) (goodIn_sub inT_X7_tree gaT_X7_tree)
theorem inT_wsX8_tree_r1 : ∀ w ∈ wsX8_tree_r1, w ∈ lw_tbl := List.forall_mem_cons.mpr ⟨at_620, List.forall_mem_cons.mpr ⟨at_636, List.forall_mem_cons.mpr ⟨at_622, List.forall_mem_cons.mpr ⟨at_635, List.forall_mem_cons.mpr ⟨at_637, List.forall_mem_cons.mpr ⟨at_639, List.forall_mem_cons.mpr ⟨at_713, List.forall_mem_cons.mpr ⟨at_714, List.forall_mem_cons.mpr ⟨at_46, List.forall_mem_cons.mpr ⟨at_715, List.forall_mem_cons.mpr ⟨at_759, List.forall_mem_cons.mpr ⟨at_760, List.forall_mem_cons.mpr ⟨at_761, List.forall_mem_cons.mpr ⟨at_836, List.forall_mem_cons.mpr ⟨at_838, List.forall_mem_cons.mpr ⟨at_30, List.forall_mem_cons.mpr ⟨at_839, List.forall_mem_cons.mpr ⟨at_840, List.forall_mem_cons.mpr ⟨at_842, List.forall_mem_cons.mpr ⟨at_31, List.forall_mem_cons.mpr ⟨at_843, List.forall_mem_cons.mpr ⟨at_625, List.forall_mem_cons.mpr ⟨at_638, List.forall_mem_cons.mpr ⟨at_844, fun _ h => absurd h List.not_mem_nil⟩⟩⟩⟩⟩⟩⟩⟩⟩⟩⟩⟩⟩⟩⟩⟩⟩⟩⟩⟩⟩⟩⟩⟩
theorem inT_wsX8_tree_r2 : ∀ w ∈ wsX8_tree_r2, w ∈ lw_tbl := List.forall_mem_cons.mpr ⟨at_846, List.forall_mem_cons.mpr ⟨at_32, List.forall_mem_cons.mpr ⟨at_847, List.forall_mem_cons.mpr ⟨at_751, List.forall_mem_cons.mpr ⟨at_753, List.forall_mem_cons.mpr ⟨at_21, List.forall_mem_cons.mpr ⟨at_754, fun _ h => absurd h List.not_mem_nil⟩⟩⟩⟩⟩⟩⟩
set_option maxRecDepth 20000 in
theorem inT_X8_tree : ∀ w ∈ wsX8_tree, w ∈ lw_tbl := List.forall_mem_cons.mpr ⟨at_835, List.forall_mem_append.mpr ⟨List.forall_mem_append.mpr ⟨inT_wsX8_tree_r1, inT_wsX8_tree_r2⟩, inX8⟩⟩
set_option maxRecDepth 20000 in
theorem gaT_X8_tree : wsX8_tree.all goodWord = true := by decide +kernel
theorem gT_X8_tree : GoodIn lw_tbl (wsV RL 65 RX8 yX8_tree wsX8_tree) := goodIn_app (goodIn_sub (List.forall_mem_cons.mpr ⟨at_832, List.forall_mem_cons.mpr ⟨at_833, List.forall_mem_cons.mpr ⟨at_834, List.forall_mem_cons.mpr ⟨at_46, fun _ h => absurd h List.not_mem_nil⟩⟩⟩⟩) (by decide +kernel)) (goodIn_sub inT_X8_tree gaT_X8_tree)
theorem inT_wsX7_orders_r1 : ∀ w ∈ wsX7_orders_r1, w ∈ lw_tbl := List.forall_mem_cons.mpr ⟨at_225, List.forall_mem_cons.mpr ⟨at_217, List.forall_mem_cons.mpr ⟨at_218, List.forall_mem_cons.mpr ⟨at_222, List.forall_mem_cons.mpr ⟨at_249, List.forall_mem_cons.mpr ⟨at_250, List.forall_mem_cons.mpr ⟨at_39, List.forall_mem_cons.mpr ⟨at_251, List.forall_mem_cons.mpr ⟨at_252, List.forall_mem_cons.mpr ⟨at_253, List.forall_mem_cons.mpr ⟨at_254, List.forall_mem_cons.mpr ⟨at_255, List.forall_mem_cons.mpr ⟨at_256, List.forall_mem_cons.mpr ⟨at_257, List.forall_mem_cons.mpr ⟨at_40, List.forall_mem_cons.mpr ⟨at_258, List.forall_mem_cons.mpr ⟨at_71, List.forall_mem_cons.mpr ⟨at_73, List.forall_mem_cons.mpr ⟨at_259, List.forall_mem_cons.mpr ⟨at_260, List.forall_mem_cons.mpr ⟨at_261, List.forall_mem_cons.mpr ⟨at_262, List.forall_mem_cons.mpr ⟨at_75, List.forall_mem_cons.mpr ⟨at_263, fun _ h => absurd h List.not_mem_nil⟩⟩⟩⟩⟩⟩⟩⟩⟩⟩⟩⟩⟩⟩⟩⟩⟩⟩⟩⟩⟩⟩⟩⟩
theorem inT_wsX7_orders_r2 : ∀ w ∈ wsX7_orders_r2, w ∈ lw_tbl := List.forall_mem_cons.mpr ⟨at_265, List.forall_mem_cons.mpr ⟨at_0, List.forall_mem_cons.mpr ⟨at_266, List.forall_mem_cons.mpr ⟨at_456, List.forall_mem_cons.mpr ⟨at_457, List.forall_mem_cons.mpr ⟨at_458, List.forall_mem_cons.mpr ⟨at_45, List.forall_mem_cons.mpr ⟨at_459, List.forall_mem_cons.mpr ⟨at_209, List.forall_mem_cons.mpr ⟨at_207, List.forall_mem_cons.mpr ⟨at_299, List.forall_mem_cons.mpr ⟨at_292, List.forall_mem_cons.mpr ⟨at_293, List.forall_mem_cons.mpr ⟨at_41, List.forall_mem_cons.mpr ⟨at_294, List.forall_mem_cons.mpr ⟨at_105, List.forall_mem_cons.mpr ⟨at_460, List.forall_mem_cons.mpr ⟨at_461, List.forall_mem_cons.mpr ⟨at_462, List.forall_mem_cons.mpr ⟨at_463, List.forall_mem_cons.mpr ⟨at_464, List.forall_mem_cons.mpr ⟨at_465, List.forall_mem_cons.mpr ⟨at_466, List.forall_mem_cons.mpr ⟨at_467, fun _ h => absurd h List.not_mem_nil⟩⟩⟩⟩⟩⟩⟩⟩⟩⟩⟩⟩⟩⟩⟩⟩⟩⟩⟩⟩⟩⟩⟩⟩
theorem inT_wsX7_orders_r3 : ∀ w ∈ wsX7_orders_r3, w ∈ lw_tbl := List.forall_mem_cons.mpr ⟨at_208, List.forall_mem_cons.mpr ⟨at_468, List.forall_mem_cons.mpr ⟨at_470, List.forall_mem_cons.mpr ⟨at_6, List.forall_mem_cons.mpr ⟨at_471, List.forall_mem_cons.mpr ⟨at_472, List.forall_mem_cons.mpr ⟨at_474, List.forall_mem_cons.mpr ⟨at_7, List.forall_mem_cons.mpr ⟨at_475, List.forall_mem_cons.mpr ⟨at_476, List.forall_mem_cons.mpr ⟨at_477, List.forall_mem_cons.mpr ⟨at_478, List.forall_mem_cons.mpr ⟨at_479, List.forall_mem_cons.mpr ⟨at_480, List.forall_mem_cons.mpr ⟨at_481, List.forall_mem_cons.mpr ⟨at_483, List.forall_mem_cons.mpr ⟨at_8, List.forall_mem_cons.mpr ⟨at_484, fun _ h => absurd h List.not_mem_nil⟩⟩⟩⟩⟩⟩⟩⟩⟩⟩⟩⟩⟩⟩⟩⟩⟩⟩
set_option maxRecDepth 20000 in
theorem inT_X7_orders : ∀ w ∈ wsX7_orders, w ∈ lw_tbl := List.forall_mem_cons.mpr ⟨at_455, List.forall_mem_append.mpr ⟨List.forall_mem_append.mpr ⟨List.forall_mem_append.mpr ⟨List.forall_mem_append.mpr ⟨List.forall_mem_append.mpr ⟨inT_wsX7_orders_r1, List.forall_mem_append.mpr ⟨inT_wsX7_orders_r2, inT_wsX7_orders_r3⟩⟩, inX7⟩, inX4⟩, inX2⟩, inX0⟩⟩
set_option maxRecDepth 20000 in
theorem gaT_X7_orders : wsX7_orders.all goodWord = true := by decide +kernel
theorem gT_X7_orders : GoodIn lw_tbl (wsV RL 66 RX7 yX7_orders wsX7_orders) := goodIn_app (goodIn_sub (List.forall_mem_cons.mpr ⟨at_452, List.forall_mem_cons.mpr ⟨at_453, List.forall_mem_cons.mpr ⟨at_454, List.forall_mem_cons.mpr ⟨at_39, fun _ h => absurd h List.not_mem_nil⟩⟩⟩⟩) (by decide +kernel)) (goodIn_sub inT_X7_orders gaT_X7_orders)
theorem inT_wsX8_orders_r1 : ∀ w ∈ wsX8_orders_r1, w ∈ lw_tbl := List.forall_mem_cons.mpr ⟨at_615, List.forall_mem_cons.mpr ⟨at_620, List.forall_mem_cons.mpr ⟨at_619, List.forall_mem_cons.mpr ⟨at_640, List.forall_mem_cons.mpr ⟨at_710, List.forall_mem_cons.mpr ⟨at_711, List.forall_mem_cons.mpr ⟨at_46, List.forall_mem_cons.mpr ⟨at_712, List.forall_mem_cons.mpr ⟨at_713, List.forall_mem_cons.mpr ⟨at_714, List.forall_mem_cons.mpr ⟨at_715, List.forall_mem_cons.mpr ⟨at_716, List.forall_mem_cons.mpr ⟨at_717, List.forall_mem_cons.mpr ⟨at_718, List.forall_mem_cons.mpr ⟨at_719, List.forall_mem_cons.mpr ⟨at_721, List.forall_mem_cons.mpr ⟨at_14, List.forall_mem_cons.mpr ⟨at_722, List.forall_mem_cons.mpr ⟨at_617, List.forall_mem_cons.mpr ⟨at_618, List.forall_mem_cons.mpr ⟨at_723, List.forall_mem_cons.mpr ⟨at_725, List.forall_mem_cons.mpr ⟨at_15, List.forall_mem_cons.mpr ⟨at_726, fun _ h => absurd h List.not_mem_nil⟩⟩⟩⟩⟩⟩⟩⟩⟩⟩⟩⟩⟩⟩⟩⟩⟩⟩⟩⟩⟩⟩⟩⟩
theorem inT_wsX8_orders_r2 : ∀ w ∈ wsX8_orders_r2, w ∈ lw_tbl := List.forall_mem_cons.mpr ⟨at_751, List.forall_mem_cons.mpr ⟨at_753, List.forall_mem_cons.mpr ⟨at_21, List.forall_mem_cons.mpr ⟨at_754, List.forall_mem_cons.mpr ⟨at_852, List.forall_mem_cons.mpr ⟨at_853, List.forall_mem_cons.mpr ⟨at_854, List.forall_mem_cons.mpr ⟨at_855, List.forall_mem_cons.mpr ⟨at_857, List.forall_mem_cons.mpr ⟨at_33, List.forall_mem_cons.mpr ⟨at_858, List.forall_mem_cons.mpr ⟨at_641, List.forall_mem_cons.mpr ⟨at_759, List.forall_mem_cons.mpr ⟨at_760, List.forall_mem_cons.mpr ⟨at_761, List.forall_mem_cons.mpr ⟨at_859, List.forall_mem_cons.mpr ⟨at_861, List.forall_mem_cons.mpr ⟨at_34, List.forall_mem_cons.mpr ⟨at_862, fun _ h => absurd h List.not_mem_nil⟩⟩⟩⟩⟩⟩⟩⟩⟩⟩⟩⟩⟩⟩⟩⟩⟩⟩⟩
set_option maxRecDepth 20000 in
theorem inT_X8_orders : ∀ w ∈ wsX8_orders, w ∈ lw_tbl := List.forall_mem_cons.mpr ⟨at_851, List.forall_mem_append.mpr ⟨List.forall_mem_append.mpr ⟨inT_wsX8_orders_r1, inT_wsX8_orders_r2⟩, inX8⟩⟩
set_option maxRecDepth 20000 in
theorem gaT_X8_orders : wsX8_orders.all goodWord = true := by decide +kernel
theorem gT_X8_orders : GoodIn lw_tbl (wsV RL 69 RX8 yX8_orders wsX8_orders) := goodIn_app (goodIn_sub (List.forall_mem_cons.mpr ⟨at_848, List.forall_mem_cons.mpr ⟨at_849, List.forall_mem_cons.mpr ⟨at_850, List.forall_mem_cons.mpr ⟨at_46, fun _ h => absurd h List.not_mem_nil⟩⟩⟩⟩) (by decide +kernel)) (goodIn_sub inT_X8_orders gaT_X8_orders)
set_option maxRecDepth 20000 in
theorem inT_X7_reading : ∀ w ∈ wsX7_reading, w ∈ lw_tbl := List.forall_mem_cons.mpr ⟨at_488, List.forall_mem_append.mpr ⟨List.forall_mem_append.mpr ⟨List.forall_mem_append.mpr ⟨List.forall_mem_cons.mpr ⟨at_218, List.forall_mem_cons.mpr ⟨at_219, List.forall_mem_cons.mpr ⟨at_299, List.forall_mem_cons.mpr ⟨at_292, List.forall_mem_cons.mpr ⟨at_293, List.forall_mem_cons.mpr ⟨at_41, List.forall_mem_cons.mpr ⟨at_294, List.forall_mem_cons.mpr ⟨at_105, List.forall_mem_cons.mpr ⟨at_361, List.forall_mem_cons.mpr ⟨at_362, List.forall_mem_cons.mpr ⟨at_39, List.forall_mem_cons.mpr ⟨at_363, List.forall_mem_cons.mpr ⟨at_489, List.forall_mem_cons.mpr ⟨at_490, List.forall_mem_cons.mpr ⟨at_491, List.forall_mem_cons.mpr ⟨at_42, List.forall_mem_cons.mpr ⟨at_492, List.forall_mem_cons.mpr ⟨at_132, List.forall_mem_cons.mpr ⟨at_135, List.forall_mem_cons.mpr ⟨at_133, fun _ h => absurd h List.not_mem_nil⟩⟩⟩⟩⟩⟩⟩⟩⟩⟩⟩⟩⟩⟩⟩⟩⟩⟩⟩⟩, inX7⟩, inX1⟩, inX4⟩⟩
set_option maxRecDepth 20000 in
theorem gaT_X7_reading : wsX7_reading.all goodWord = true := by decide +kernel
theorem gT_X7_reading : GoodIn lw_tbl (wsV RL 70 RX7 yX7_reading wsX7_reading) := goodIn_app (goodIn_sub (List.forall_mem_cons.mpr ⟨at_485, List.forall_mem_cons.mpr ⟨at_486, List.forall_mem_cons.mpr ⟨at_487, List.forall_mem_cons.mpr ⟨at_39, fun _ h => absurd h List.not_mem_nil⟩⟩⟩⟩) (by decide +kernel)) (goodIn_sub inT_X7_reading gaT_X7_reading)
set_option maxRecDepth 20000 in
theorem inT_X8_reading : ∀ w ∈ wsX8_reading, w ∈ lw_tbl := List.forall_mem_cons.mpr ⟨at_866, List.forall_mem_append.mpr ⟨List.forall_mem_cons.mpr ⟨at_642, List.forall_mem_cons.mpr ⟨at_643, List.forall_mem_cons.mpr ⟨at_644, List.forall_mem_cons.mpr ⟨at_751, List.forall_mem_cons.mpr ⟨at_753, List.forall_mem_cons.mpr ⟨at_21, List.forall_mem_cons.mpr ⟨at_46, List.forall_mem_cons.mpr ⟨at_754, List.forall_mem_cons.mpr ⟨at_620, List.forall_mem_cons.mpr ⟨at_713, List.forall_mem_cons.mpr ⟨at_714, List.forall_mem_cons.mpr ⟨at_715, fun _ h => absurd h List.not_mem_nil⟩⟩⟩⟩⟩⟩⟩⟩⟩⟩⟩⟩, inX8⟩⟩
set_option maxRecDepth 20000 in
theorem gaT_X8_reading : wsX8_reading.all goodWord = true := by decide +kernel
theorem gT_X8_reading : GoodIn lw_tbl (wsV RL 73 RX8 yX8_reading wsX8_reading) := goodIn_app (goodIn_sub (List.forall_mem_cons.mpr ⟨at_863, List.forall_mem_cons.mpr ⟨at_864, List.forall_mem_cons.mpr ⟨at_865, List.forall_mem_cons.mpr ⟨at_46, fun _ h => absurd h List.not_mem_nil⟩⟩⟩⟩) (by decide +kernel)) (goodIn_sub inT_X8_reading gaT_X8_reading)
set_option maxRecDepth 20000 in
theorem inT_X7_back : ∀ w ∈ wsX7_back, w ∈ lw_tbl := List.forall_mem_cons.mpr ⟨at_496, List.forall_mem_append.mpr ⟨List.forall_mem_append.mpr ⟨List.forall_mem_cons.mpr ⟨at_219, fun _ h => absurd h List.not_mem_nil⟩, inX7⟩, inX1⟩⟩
set_option maxRecDepth 20000 in
theorem gaT_X7_back : wsX7_back.all goodWord = true := by decide +kernel
theorem gT_X7_back : GoodIn lw_tbl (wsV RL 74 RX7 yX7_back wsX7_back) := goodIn_app (goodIn_sub (List.forall_mem_cons.mpr ⟨at_493, List.forall_mem_cons.mpr ⟨at_494, List.forall_mem_cons.mpr ⟨at_495, List.forall_mem_cons.mpr ⟨at_39, fun _ h => absurd h List.not_mem_nil⟩⟩⟩⟩) (by decide +kernel)) (goodIn_sub inT_X7_back gaT_X7_back)
set_option maxRecDepth 20000 in
theorem inT_X8_back : ∀ w ∈ wsX8_back, w ∈ lw_tbl := List.forall_mem_cons.mpr ⟨at_870, List.forall_mem_append.mpr ⟨List.forall_mem_cons.mpr ⟨at_642, List.forall_mem_cons.mpr ⟨at_713, List.forall_mem_cons.mpr ⟨at_714, List.forall_mem_cons.mpr ⟨at_46, List.forall_mem_cons.mpr ⟨at_715, fun _ h => absurd h List.not_mem_nil⟩⟩⟩⟩⟩, inX8⟩⟩
set_option maxRecDepth 20000 in
theorem gaT_X8_back : wsX8_back.all goodWord = true := by decide +kernel
theorem gT_X8_back : GoodIn lw_tbl (wsV RL 77 RX8 yX8_back wsX8_back) := goodIn_app (goodIn_sub (List.forall_mem_cons.mpr ⟨at_867, List.forall_mem_cons.mpr ⟨at_868, List.forall_mem_cons.mpr ⟨at_869, List.forall_mem_cons.mpr ⟨at_46, fun _ h => absurd h List.not_mem_nil⟩⟩⟩⟩) (by decide +kernel)) (goodIn_sub inT_X8_back gaT_X8_back)
theorem inT_wsX7_pages_r1 : ∀ w ∈ wsX7_pages_r1, w ∈ lw_tbl := List.forall_mem_cons.mpr ⟨at_218, List.forall_mem_cons.mpr ⟨at_219, List.forall_mem_cons.mpr ⟨at_299, List.forall_mem_cons.mpr ⟨at_292, List.forall_mem_cons.mpr ⟨at_293, List.forall_mem_cons.mpr ⟨at_41, List.forall_mem_cons.mpr ⟨at_294, List.forall_mem_cons.mpr ⟨at_105, List.forall_mem_cons.mpr ⟨at_501, List.forall_mem_cons.mpr ⟨at_502, List.forall_mem_cons.mpr ⟨at_503, List.forall_mem_cons.mpr ⟨at_42, List.forall_mem_cons.mpr ⟨at_504, List.forall_mem_cons.mpr ⟨at_134, List.forall_mem_cons.mpr ⟨at_137, List.forall_mem_cons.mpr ⟨at_139, List.forall_mem_cons.mpr ⟨at_141, List.forall_mem_cons.mpr ⟨at_505, List.forall_mem_cons.mpr ⟨at_383, List.forall_mem_cons.mpr ⟨at_384, List.forall_mem_cons.mpr ⟨at_385, List.forall_mem_cons.mpr ⟨at_109, List.forall_mem_cons.mpr ⟨at_93, List.forall_mem_cons.mpr ⟨at_96, fun _ h => absurd h List.not_mem_nil⟩⟩⟩⟩⟩⟩⟩⟩⟩⟩⟩⟩⟩⟩⟩⟩⟩⟩⟩⟩⟩⟩⟩⟩
theorem inT_wsX7_pages_r2 : ∀ w ∈ wsX7_pages_r2, w ∈ lw_tbl := List.forall_mem_cons.mpr ⟨at_99, List.forall_mem_cons.mpr ⟨at_102, List.forall_mem_cons.mpr ⟨at_506, List.forall_mem_cons.mpr ⟨at_508, List.forall_mem_cons.mpr ⟨at_9, List.forall_mem_cons.mpr ⟨at_509, List.forall_mem_cons.mpr ⟨at_135, List.forall_mem_cons.mpr ⟨at_132, List.forall_mem_cons.mpr ⟨at_133, List.forall_mem_cons.mpr ⟨at_510, List.forall_mem_cons.mpr ⟨at_301, List.forall_mem_cons.mpr ⟨at_302, List.forall_mem_cons.mpr ⟨at_303, List.forall_mem_cons.mpr ⟨at_304, List.forall_mem_cons.mpr ⟨at_305, List.forall_mem_cons.mpr ⟨at_306, List.forall_mem_cons.mpr ⟨at_307, List.forall_mem_cons.mpr ⟨at_308, List.forall_mem_cons.mpr ⟨at_309, List.forall_mem_cons.mpr ⟨at_310, List.forall_mem_cons.mpr ⟨at_311, List.forall_mem_cons.mpr ⟨at_312, List.forall_mem_cons.mpr ⟨at_313, List.forall_mem_cons.mpr ⟨at_314, fun _ h => absurd h List.not_mem_nil⟩⟩⟩⟩⟩⟩⟩⟩⟩⟩⟩⟩⟩⟩⟩⟩⟩⟩⟩⟩⟩⟩⟩⟩
theorem inT_wsX7_pages_r3 : ∀ w ∈ wsX7_pages_r3, w ∈ lw_tbl := List.forall_mem_cons.mpr ⟨at_315, fun _ h => absurd h List.not_mem_nil⟩
set_option maxRecDepth 20000 in
theorem inT_X7_pages : ∀ w ∈ wsX7_pages, w ∈ lw_tbl := List.forall_mem_cons.mpr ⟨at_500, List.forall_mem_append.mpr ⟨List.forall_mem_append.mpr ⟨List.forall_mem_append.mpr ⟨List.forall_mem_append.mpr ⟨inT_wsX7_pages_r1, List.forall_mem_append.mpr ⟨inT_wsX7_pages_r2, inT_wsX7_pages_r3⟩⟩, inX7⟩, inX1⟩, inX4⟩⟩
set_option maxRecDepth 20000 in
theorem gaT_X7_pages : wsX7_pages.all goodWord = true := by decide +kernel
theorem gT_X7_pages : GoodIn lw_tbl (wsV RL 78 RX7 yX7_pages wsX7_pages) := goodIn_app (goodIn_sub (List.forall_mem_cons.mpr ⟨at_497, List.forall_mem_cons.mpr ⟨at_498, List.forall_mem_cons.mpr ⟨at_499, List.forall_mem_cons.mpr ⟨at_39, fun _ h => absurd h List.not_mem_nil⟩⟩⟩⟩) (by decide +kernel)) (goodIn_sub inT_X7_pages gaT_X7_pages)
theorem inT_wsX8_pages_r1 : ∀ w ∈ wsX8_pages_r1, w ∈ lw_tbl := List.forall_mem_cons.mpr ⟨at_624, List.forall_mem_cons.mpr ⟨at_751, List.forall_mem_cons.mpr ⟨at_753, List.forall_mem_cons.mpr ⟨at_21, List.forall_mem_cons.mpr ⟨at_46, List.forall_mem_cons.mpr ⟨at_754, List.forall_mem_cons.mpr ⟨at_620, List.forall_mem_cons.mpr ⟨at_713, List.forall_mem_cons.mpr ⟨at_714, List.forall_mem_cons.mpr ⟨at_715, List.forall_mem_cons.mpr ⟨at_875, List.forall_mem_cons.mpr ⟨at_877, List.forall_mem_cons.mpr ⟨at_35, List.forall_mem_cons.mpr ⟨at_878, List.forall_mem_cons.mpr ⟨at_642, List.forall_mem_cons.mpr ⟨at_643, List.forall_mem_cons.mpr ⟨at_644, List.forall_mem_cons.mpr ⟨at_755, List.forall_mem_cons.mpr ⟨at_757, List.forall_mem_cons.mpr ⟨at_22, List.forall_mem_cons.mpr ⟨at_758, List.forall_mem_cons.mpr ⟨at_630, List.forall_mem_cons.mpr ⟨at_622, List.forall_mem_cons.mpr ⟨at_626, fun _ h => absurd h List.not_mem_nil⟩⟩⟩⟩⟩⟩⟩⟩⟩⟩⟩⟩⟩⟩⟩⟩⟩⟩⟩⟩⟩⟩⟩⟩
theorem inT_wsX8_pages_r2 : ∀ w ∈ wsX8_pages_r2, w ∈ lw_tbl := List.forall_mem_cons.mpr ⟨at_759, List.forall_mem_cons.mpr ⟨at_760, List.forall_mem_cons.mpr ⟨at_761, List.forall_mem_cons.mpr ⟨at_762, List.forall_mem_cons.mpr ⟨at_764, List.forall_mem_cons.mpr ⟨at_23, List.forall_mem_cons.mpr ⟨at_765, List.forall_mem_cons.mpr ⟨at_623, fun _ h => absurd h List.not_mem_nil⟩⟩⟩⟩⟩⟩⟩⟩
set_option maxRecDepth 20000 in
theorem inT_X8_pages : ∀ w ∈ wsX8_pages, w ∈ lw_tbl := List.forall_mem_cons.mpr ⟨at_874, List.forall_mem_append.mpr ⟨List.forall_mem_append.mpr ⟨inT_wsX8_pages_r1, inT_wsX8_pages_r2⟩, inX8⟩⟩
set_option maxRecDepth 20000 in
theorem gaT_X8_pages : wsX8_pages.all goodWord = true := by decide +kernel
theorem gT_X8_pages : GoodIn lw_tbl (wsV RL 81 RX8 yX8_pages wsX8_pages) := goodIn_app (goodIn_sub (List.forall_mem_cons.mpr ⟨at_871, List.forall_mem_cons.mpr ⟨at_872, List.forall_mem_cons.mpr ⟨at_873, List.forall_mem_cons.mpr ⟨at_46, fun _ h => absurd h List.not_mem_nil⟩⟩⟩⟩) (by decide +kernel)) (goodIn_sub inT_X8_pages gaT_X8_pages)
theorem inT_wsX7_kinds_r1 : ∀ w ∈ wsX7_kinds_r1, w ∈ lw_tbl := List.forall_mem_cons.mpr ⟨at_218, List.forall_mem_cons.mpr ⟨at_219, List.forall_mem_cons.mpr ⟨at_299, List.forall_mem_cons.mpr ⟨at_292, List.forall_mem_cons.mpr ⟨at_293, List.forall_mem_cons.mpr ⟨at_41, List.forall_mem_cons.mpr ⟨at_294, List.forall_mem_cons.mpr ⟨at_105, List.forall_mem_cons.mpr ⟨at_515, List.forall_mem_cons.mpr ⟨at_516, List.forall_mem_cons.mpr ⟨at_517, List.forall_mem_cons.mpr ⟨at_42, List.forall_mem_cons.mpr ⟨at_518, List.forall_mem_cons.mpr ⟨at_134, List.forall_mem_cons.mpr ⟨at_505, List.forall_mem_cons.mpr ⟨at_383, List.forall_mem_cons.mpr ⟨at_384, List.forall_mem_cons.mpr ⟨at_385, List.forall_mem_cons.mpr ⟨at_109, List.forall_mem_cons.mpr ⟨at_93, List.forall_mem_cons.mpr ⟨at_96, List.forall_mem_cons.mpr ⟨at_99, List.forall_mem_cons.mpr ⟨at_102, List.forall_mem_cons.mpr ⟨at_506, fun _ h => absurd h List.not_mem_nil⟩⟩⟩⟩⟩⟩⟩⟩⟩⟩⟩⟩⟩⟩⟩⟩⟩⟩⟩⟩⟩⟩⟩⟩
theorem inT_wsX7_kinds_r2 : ∀ w ∈ wsX7_kinds_r2, w ∈ lw_tbl := List.forall_mem_cons.mpr ⟨at_508, List.forall_mem_cons.mpr ⟨at_9, List.forall_mem_cons.mpr ⟨at_509, List.forall_mem_cons.mpr ⟨at_135, List.forall_mem_cons.mpr ⟨at_132, List.forall_mem_cons.mpr ⟨at_133, List.forall_mem_cons.mpr ⟨at_510, List.forall_mem_cons.mpr ⟨at_301, List.forall_mem_cons.mpr ⟨at_302, List.forall_mem_cons.mpr ⟨at_303, List.forall_mem_cons.mpr ⟨at_304, List.forall_mem_cons.mpr ⟨at_305, List.forall_mem_cons.mpr ⟨at_306, List.forall_mem_cons.mpr ⟨at_307, List.forall_mem_cons.mpr ⟨at_308, List.forall_mem_cons.mpr ⟨at_309, List.forall_mem_cons.mpr ⟨at_310, List.forall_mem_cons.mpr ⟨at_311, List.forall_mem_cons.mpr ⟨at_312, List.forall_mem_cons.mpr ⟨at_313, List.forall_mem_cons.mpr ⟨at_314, List.forall_mem_cons.mpr ⟨at_315, fun _ h => absurd h List.not_mem_nil⟩⟩⟩⟩⟩⟩⟩⟩⟩⟩⟩⟩⟩⟩⟩⟩⟩⟩⟩⟩⟩⟩
set_option maxRecDepth 20000 in
theorem inT_X7_kinds : ∀ w ∈ wsX7_kinds, w ∈ lw_tbl := List.forall_mem_cons.mpr ⟨at_514, List.forall_mem_append.mpr ⟨List.forall_mem_append.mpr ⟨List.forall_mem_append.mpr ⟨List.forall_mem_append.mpr ⟨inT_wsX7_kinds_r1, inT_wsX7_kinds_r2⟩, inX7⟩, inX4⟩, inX1⟩⟩
set_option maxRecDepth 20000 in
theorem gaT_X7_kinds : wsX7_kinds.all goodWord = true := by decide +kernel
theorem gT_X7_kinds : GoodIn lw_tbl (wsV RL 82 RX7 yX7_kinds wsX7_kinds) := goodIn_app (goodIn_sub (List.forall_mem_cons.mpr ⟨at_511, List.forall_mem_cons.mpr ⟨at_512, List.forall_mem_cons.mpr ⟨at_513, List.forall_mem_cons.mpr ⟨at_39, fun _ h => absurd h List.not_mem_nil⟩⟩⟩⟩) (by decide +kernel)) (goodIn_sub inT_X7_kinds gaT_X7_kinds)
theorem inT_wsX8_kinds_r1 : ∀ w ∈ wsX8_kinds_r1, w ∈ lw_tbl := List.forall_mem_cons.mpr ⟨at_623, List.forall_mem_cons.mpr ⟨at_751, List.forall_mem_cons.mpr ⟨at_753, List.forall_mem_cons.mpr ⟨at_21, List.forall_mem_cons.mpr ⟨at_46, List.forall_mem_cons.mpr ⟨at_754, List.forall_mem_cons.mpr ⟨at_620, List.forall_mem_cons.mpr ⟨at_875, List.forall_mem_cons.mpr ⟨at_877, List.forall_mem_cons.mpr ⟨at_35, List.forall_mem_cons.mpr ⟨at_878, List.forall_mem_cons.mpr ⟨at_642, List.forall_mem_cons.mpr ⟨at_643, List.forall_mem_cons.mpr ⟨at_644, List.forall_mem_cons.mpr ⟨at_755, List.forall_mem_cons.mpr ⟨at_757, List.forall_mem_cons.mpr ⟨at_22, List.forall_mem_cons.mpr ⟨at_758, List.forall_mem_cons.mpr ⟨at_630, List.forall_mem_cons.mpr ⟨at_622, List.forall_mem_cons.mpr ⟨at_626, List.forall_mem_cons.mpr ⟨at_759, List.forall_mem_cons.mpr ⟨at_760, List.forall_mem_cons.mpr ⟨at_761, fun _ h => absurd h List.not_mem_nil⟩⟩⟩⟩⟩⟩⟩⟩⟩⟩⟩⟩⟩⟩⟩⟩⟩⟩⟩⟩⟩⟩⟩⟩
theorem inT_wsX8_kinds_r2 : ∀ w ∈ wsX8_kinds_r2, w ∈ lw_tbl := List.forall_mem_cons.mpr ⟨at_762, List.forall_mem_cons.mpr ⟨at_764, List.forall_mem_cons.mpr ⟨at_23, List.forall_mem_cons.mpr ⟨at_765, List.forall_mem_cons.mpr ⟨at_624, fun _ h => absurd h List.not_mem_nil⟩⟩⟩⟩⟩
set_option maxRecDepth 20000 in
theorem inT_X8_kinds : ∀ w ∈ wsX8_kinds, w ∈ lw_tbl := List.forall_mem_cons.mpr ⟨at_882, List.forall_mem_append.mpr ⟨List.forall_mem_append.mpr ⟨inT_wsX8_kinds_r1, inT_wsX8_kinds_r2⟩, inX8⟩⟩
set_option maxRecDepth 20000 in
theorem gaT_X8_kinds : wsX8_kinds.all goodWord = true := by decide +kernel
theorem gT_X8_kinds : GoodIn lw_tbl (wsV RL 85 RX8 yX8_kinds wsX8_kinds) := goodIn_app (goodIn_sub (List.forall_mem_cons.mpr ⟨at_879, List.forall_mem_cons.mpr ⟨at_880, List.forall_mem_cons.mpr ⟨at_881, List.forall_mem_cons.mpr ⟨at_46, fun _ h => absurd h List.not_mem_nil⟩⟩⟩⟩) (by decide +kernel)) (goodIn_sub inT_X8_kinds gaT_X8_kinds)
theorem inT_wsX7_seen_r1 : ∀ w ∈ wsX7_seen_r1, w ∈ lw_tbl := List.forall_mem_cons.mpr ⟨at_218, List.forall_mem_cons.mpr ⟨at_219, List.forall_mem_cons.mpr ⟨at_299, List.forall_mem_cons.mpr ⟨at_292, List.forall_mem_cons.mpr ⟨at_293, List.forall_mem_cons.mpr ⟨at_41, List.forall_mem_cons.mpr ⟨at_294, List.forall_mem_cons.mpr ⟨at_105, List.forall_mem_cons.mpr ⟨at_523, List.forall_mem_cons.mpr ⟨at_524, List.forall_mem_cons.mpr ⟨at_525, List.forall_mem_cons.mpr ⟨at_42, List.forall_mem_cons.mpr ⟨at_526, List.forall_mem_cons.mpr ⟨at_134, List.forall_mem_cons.mpr ⟨at_505, List.forall_mem_cons.mpr ⟨at_383, List.forall_mem_cons.mpr ⟨at_384, List.forall_mem_cons.mpr ⟨at_385, List.forall_mem_cons.mpr ⟨at_109, List.forall_mem_cons.mpr ⟨at_93, List.forall_mem_cons.mpr ⟨at_96, List.forall_mem_cons.mpr ⟨at_99, List.forall_mem_cons.mpr ⟨at_102, List.forall_mem_cons.mpr ⟨at_506, fun _ h => absurd h List.not_mem_nil⟩⟩⟩⟩⟩⟩⟩⟩⟩⟩⟩⟩⟩⟩⟩⟩⟩⟩⟩⟩⟩⟩⟩⟩
theorem inT_wsX7_seen_r2 : ∀ w ∈ wsX7_seen_r2, w ∈ lw_tbl := List.forall_mem_cons.mpr ⟨at_508, List.forall_mem_cons.mpr ⟨at_9, List.forall_mem_cons.mpr ⟨at_509, List.forall_mem_cons.mpr ⟨at_135, List.forall_mem_cons.mpr ⟨at_132, List.forall_mem_cons.mpr ⟨at_133, List.forall_mem_cons.mpr ⟨at_510, List.forall_mem_cons.mpr ⟨at_301, List.forall_mem_cons.mpr ⟨at_302, List.forall_mem_cons.mpr ⟨at_303, List.forall_mem_cons.mpr ⟨at_304, List.forall_mem_cons.mpr ⟨at_305, List.forall_mem_cons.mpr ⟨at_306, List.forall_mem_cons.mpr ⟨at_307, List.forall_mem_cons.mpr ⟨at_308, List.forall_mem_cons.mpr ⟨at_309, List.forall_mem_cons.mpr ⟨at_310, List.forall_mem_cons.mpr ⟨at_311, List.forall_mem_cons.mpr ⟨at_312, List.forall_mem_cons.mpr ⟨at_313, List.forall_mem_cons.mpr ⟨at_314, List.forall_mem_cons.mpr ⟨at_315, fun _ h => absurd h List.not_mem_nil⟩⟩⟩⟩⟩⟩⟩⟩⟩⟩⟩⟩⟩⟩⟩⟩⟩⟩⟩⟩⟩⟩
set_option maxRecDepth 20000 in
theorem inT_X7_seen : ∀ w ∈ wsX7_seen, w ∈ lw_tbl := List.forall_mem_cons.mpr ⟨at_522, List.forall_mem_append.mpr ⟨List.forall_mem_append.mpr ⟨List.forall_mem_append.mpr ⟨List.forall_mem_append.mpr ⟨inT_wsX7_seen_r1, inT_wsX7_seen_r2⟩, inX7⟩, inX4⟩, inX1⟩⟩
set_option maxRecDepth 20000 in
theorem gaT_X7_seen : wsX7_seen.all goodWord = true := by decide +kernel
theorem gT_X7_seen : GoodIn lw_tbl (wsV RL 86 RX7 yX7_seen wsX7_seen) := goodIn_app (goodIn_sub (List.forall_mem_cons.mpr ⟨at_519, List.forall_mem_cons.mpr ⟨at_520, List.forall_mem_cons.mpr ⟨at_521, List.forall_mem_cons.mpr ⟨at_39, fun _ h => absurd h List.not_mem_nil⟩⟩⟩⟩) (by decide +kernel)) (goodIn_sub inT_X7_seen gaT_X7_seen)
theorem inT_wsX8_seen_r1 : ∀ w ∈ wsX8_seen_r1, w ∈ lw_tbl := List.forall_mem_cons.mpr ⟨at_626, List.forall_mem_cons.mpr ⟨at_620, List.forall_mem_cons.mpr ⟨at_751, List.forall_mem_cons.mpr ⟨at_753, List.forall_mem_cons.mpr ⟨at_21, List.forall_mem_cons.mpr ⟨at_46, List.forall_mem_cons.mpr ⟨at_754, List.forall_mem_cons.mpr ⟨at_875, List.forall_mem_cons.mpr ⟨at_877, List.forall_mem_cons.mpr ⟨at_35, List.forall_mem_cons.mpr ⟨at_878, List.forall_mem_cons.mpr ⟨at_642, List.forall_mem_cons.mpr ⟨at_643, List.forall_mem_cons.mpr ⟨at_644, List.forall_mem_cons.mpr ⟨at_755, List.forall_mem_cons.mpr ⟨at_757, List.forall_mem_cons.mpr ⟨at_22, List.forall_mem_cons.mpr ⟨at_758, List.forall_mem_cons.mpr ⟨at_630, List.forall_mem_cons.mpr ⟨at_622, List.forall_mem_cons.mpr ⟨at_759, List.forall_mem_cons.mpr ⟨at_760, List.forall_mem_cons.mpr ⟨at_761, List.forall_mem_cons.mpr ⟨at_762, fun _ h => absurd h List.not_mem_nil⟩⟩⟩⟩⟩⟩⟩⟩⟩⟩⟩⟩⟩⟩⟩⟩⟩⟩⟩⟩⟩⟩⟩⟩
theorem inT_wsX8_seen_r2 : ∀ w ∈ wsX8_seen_r2, w ∈ lw_tbl := List.forall_mem_cons.mpr ⟨at_764, List.forall_mem_cons.mpr ⟨at_23, List.forall_mem_cons.mpr ⟨at_765, List.forall_mem_cons.mpr ⟨at_623, List.forall_mem_cons.mpr ⟨at_624, fun _ h => absurd h List.not_mem_nil⟩⟩⟩⟩⟩
set_option maxRecDepth 20000 in
theorem inT_X8_seen : ∀ w ∈ wsX8_seen, w ∈ lw_tbl := List.forall_mem_cons.mpr ⟨at_886, List.forall_mem_append.mpr ⟨List.forall_mem_append.mpr ⟨inT_wsX8_seen_r1, inT_wsX8_seen_r2⟩, inX8⟩⟩
set_option maxRecDepth 20000 in
theorem gaT_X8_seen : wsX8_seen.all goodWord = true := by decide +kernel
theorem gT_X8_seen : GoodIn lw_tbl (wsV RL 89 RX8 yX8_seen wsX8_seen) := goodIn_app (goodIn_sub (List.forall_mem_cons.mpr ⟨at_883, List.forall_mem_cons.mpr ⟨at_884, List.forall_mem_cons.mpr ⟨at_885, List.forall_mem_cons.mpr ⟨at_46, fun _ h => absurd h List.not_mem_nil⟩⟩⟩⟩) (by decide +kernel)) (goodIn_sub inT_X8_seen gaT_X8_seen)
theorem inT_wsX7_odds_r1 : ∀ w ∈ wsX7_odds_r1, w ∈ lw_tbl := List.forall_mem_cons.mpr ⟨at_531, List.forall_mem_cons.mpr ⟨at_218, List.forall_mem_cons.mpr ⟨at_361, List.forall_mem_cons.mpr ⟨at_362, List.forall_mem_cons.mpr ⟨at_39, List.forall_mem_cons.mpr ⟨at_363, List.forall_mem_cons.mpr ⟨at_300, List.forall_mem_cons.mpr ⟨at_301, List.forall_mem_cons.mpr ⟨at_302, List.forall_mem_cons.mpr ⟨at_41, List.forall_mem_cons.mpr ⟨at_303, List.forall_mem_cons.mpr ⟨at_102, List.forall_mem_cons.mpr ⟨at_304, List.forall_mem_cons.mpr ⟨at_305, List.forall_mem_cons.mpr ⟨at_306, List.forall_mem_cons.mpr ⟨at_307, List.forall_mem_cons.mpr ⟨at_105, List.forall_mem_cons.mpr ⟨at_308, List.forall_mem_cons.mpr ⟨at_309, List.forall_mem_cons.mpr ⟨at_310, List.forall_mem_cons.mpr ⟨at_311, List.forall_mem_cons.mpr ⟨at_109, List.forall_mem_cons.mpr ⟨at_312, List.forall_mem_cons.mpr ⟨at_313, fun _ h => absurd h List.not_mem_nil⟩⟩⟩⟩⟩⟩⟩⟩⟩⟩⟩⟩⟩⟩⟩⟩⟩⟩⟩⟩⟩⟩⟩⟩
theorem inT_wsX7_odds_r2 : ∀ w ∈ wsX7_odds_r2, w ∈ lw_tbl := List.forall_mem_cons.mpr ⟨at_314, List.forall_mem_cons.mpr ⟨at_315, List.forall_mem_cons.mpr ⟨at_93, List.forall_mem_cons.mpr ⟨at_96, List.forall_mem_cons.mpr ⟨at_532, List.forall_mem_cons.mpr ⟨at_533, List.forall_mem_cons.mpr ⟨at_534, fun _ h => absurd h List.not_mem_nil⟩⟩⟩⟩⟩⟩⟩
set_option maxRecDepth 20000 in
theorem inT_X7_odds : ∀ w ∈ wsX7_odds, w ∈ lw_tbl := List.forall_mem_cons.mpr ⟨at_530, List.forall_mem_append.mpr ⟨List.forall_mem_append.mpr ⟨List.forall_mem_append.mpr ⟨inT_wsX7_odds_r1, inT_wsX7_odds_r2⟩, inX7⟩, inX4⟩⟩
set_option maxRecDepth 20000 in
theorem gaT_X7_odds : wsX7_odds.all goodWord = true := by decide +kernel
theorem gT_X7_odds : GoodIn lw_tbl (wsV RL 90 RX7 yX7_odds wsX7_odds) := goodIn_app (goodIn_sub (List.forall_mem_cons.mpr ⟨at_527, List.forall_mem_cons.mpr ⟨at_528, List.forall_mem_cons.mpr ⟨at_529, List.forall_mem_cons.mpr ⟨at_39, fun _ h => absurd h List.not_mem_nil⟩⟩⟩⟩) (by decide +kernel)) (goodIn_sub inT_X7_odds gaT_X7_odds)
theorem inT_wsX8_odds_r1 : ∀ w ∈ wsX8_odds_r1, w ∈ lw_tbl := List.forall_mem_cons.mpr ⟨at_891, List.forall_mem_cons.mpr ⟨at_620, List.forall_mem_cons.mpr ⟨at_625, List.forall_mem_cons.mpr ⟨at_713, List.forall_mem_cons.mpr ⟨at_714, List.forall_mem_cons.mpr ⟨at_46, List.forall_mem_cons.mpr ⟨at_715, List.forall_mem_cons.mpr ⟨at_755, List.forall_mem_cons.mpr ⟨at_757, List.forall_mem_cons.mpr ⟨at_22, List.forall_mem_cons.mpr ⟨at_758, List.forall_mem_cons.mpr ⟨at_630, List.forall_mem_cons.mpr ⟨at_622, List.forall_mem_cons.mpr ⟨at_626, List.forall_mem_cons.mpr ⟨at_759, List.forall_mem_cons.mpr ⟨at_760, List.forall_mem_cons.mpr ⟨at_761, List.forall_mem_cons.mpr ⟨at_762, List.forall_mem_cons.mpr ⟨at_764, List.forall_mem_cons.mpr ⟨at_23, List.forall_mem_cons.mpr ⟨at_765, List.forall_mem_cons.mpr ⟨at_623, List.forall_mem_cons.mpr ⟨at_624, List.forall_mem_cons.mpr ⟨at_892, fun _ h => absurd h List.not_mem_nil⟩⟩⟩⟩⟩⟩⟩⟩⟩⟩⟩⟩⟩⟩⟩⟩⟩⟩⟩⟩⟩⟩⟩⟩
theorem inT_wsX8_odds_r2 : ∀ w ∈ wsX8_odds_r2, w ∈ lw_tbl := List.forall_mem_cons.mpr ⟨at_893, List.forall_mem_cons.mpr ⟨at_894, fun _ h => absurd h List.not_mem_nil⟩⟩
set_option maxRecDepth 20000 in
theorem inT_X8_odds : ∀ w ∈ wsX8_odds, w ∈ lw_tbl := List.forall_mem_cons.mpr ⟨at_890, List.forall_mem_append.mpr ⟨List.forall_mem_append.mpr ⟨inT_wsX8_odds_r1, inT_wsX8_odds_r2⟩, inX8⟩⟩
set_option maxRecDepth 20000 in
theorem gaT_X8_odds : wsX8_odds.all goodWord = true := by decide +kernel
theorem gT_X8_odds : GoodIn lw_tbl (wsV RL 94 RX8 yX8_odds wsX8_odds) := goodIn_app (goodIn_sub (List.forall_mem_cons.mpr ⟨at_887, List.forall_mem_cons.mpr ⟨at_888, List.forall_mem_cons.mpr ⟨at_889, List.forall_mem_cons.mpr ⟨at_46, fun _ h => absurd h List.not_mem_nil⟩⟩⟩⟩) (by decide +kernel)) (goodIn_sub inT_X8_odds gaT_X8_odds)
set_option maxRecDepth 20000 in
theorem inT_X7_sheet : ∀ w ∈ wsX7_sheet, w ∈ lw_tbl := List.forall_mem_cons.mpr ⟨at_538, List.forall_mem_append.mpr ⟨List.forall_mem_append.mpr ⟨List.forall_mem_cons.mpr ⟨at_225, List.forall_mem_cons.mpr ⟨at_217, List.forall_mem_cons.mpr ⟨at_249, List.forall_mem_cons.mpr ⟨at_250, List.forall_mem_cons.mpr ⟨at_39, List.forall_mem_cons.mpr ⟨at_251, List.forall_mem_cons.mpr ⟨at_252, List.forall_mem_cons.mpr ⟨at_253, List.forall_mem_cons.mpr ⟨at_254, List.forall_mem_cons.mpr ⟨at_263, List.forall_mem_cons.mpr ⟨at_265, List.forall_mem_cons.mpr ⟨at_0, List.forall_mem_cons.mpr ⟨at_266, List.forall_mem_cons.mpr ⟨at_539, List.forall_mem_cons.mpr ⟨at_540, List.forall_mem_cons.mpr ⟨at_541, List.forall_mem_cons.mpr ⟨at_40, List.forall_mem_cons.mpr ⟨at_542, List.forall_mem_cons.mpr ⟨at_66, List.forall_mem_cons.mpr ⟨at_71, List.forall_mem_cons.mpr ⟨at_73, List.forall_mem_cons.mpr ⟨at_75, fun _ h => absurd h List.not_mem_nil⟩⟩⟩⟩⟩⟩⟩⟩⟩⟩⟩⟩⟩⟩⟩⟩⟩⟩⟩⟩⟩⟩, inX7⟩, inX2⟩⟩
set_option maxRecDepth 20000 in
theorem gaT_X7_sheet : wsX7_sheet.all goodWord = true := by decide +kernel
theorem gT_X7_sheet : GoodIn lw_tbl (wsV RL 95 RX7 yX7_sheet wsX7_sheet) := goodIn_app (goodIn_sub (List.forall_mem_cons.mpr ⟨at_535, List.forall_mem_cons.mpr ⟨at_536, List.forall_mem_cons.mpr ⟨at_537, List.forall_mem_cons.mpr ⟨at_39, fun _ h => absurd h List.not_mem_nil⟩⟩⟩⟩) (by decide +kernel)) (goodIn_sub inT_X7_sheet gaT_X7_sheet)
set_option maxRecDepth 20000 in
theorem inT_X8_sheet : ∀ w ∈ wsX8_sheet, w ∈ lw_tbl := List.forall_mem_cons.mpr ⟨at_898, List.forall_mem_append.mpr ⟨List.forall_mem_cons.mpr ⟨at_615, List.forall_mem_cons.mpr ⟨at_617, List.forall_mem_cons.mpr ⟨at_618, List.forall_mem_cons.mpr ⟨at_619, List.forall_mem_cons.mpr ⟨at_710, List.forall_mem_cons.mpr ⟨at_711, List.forall_mem_cons.mpr ⟨at_46, List.forall_mem_cons.mpr ⟨at_712, List.forall_mem_cons.mpr ⟨at_713, List.forall_mem_cons.mpr ⟨at_714, List.forall_mem_cons.mpr ⟨at_715, List.forall_mem_cons.mpr ⟨at_716, List.forall_mem_cons.mpr ⟨at_717, List.forall_mem_cons.mpr ⟨at_718, List.forall_mem_cons.mpr ⟨at_723, List.forall_mem_cons.mpr ⟨at_725, List.forall_mem_cons.mpr ⟨at_15, List.forall_mem_cons.mpr ⟨at_726, fun _ h => absurd h List.not_mem_nil⟩⟩⟩⟩⟩⟩⟩⟩⟩⟩⟩⟩⟩⟩⟩⟩⟩⟩, inX8⟩⟩
set_option maxRecDepth 20000 in
theorem gaT_X8_sheet : wsX8_sheet.all goodWord = true := by decide +kernel
theorem gT_X8_sheet : GoodIn lw_tbl (wsV RL 99 RX8 yX8_sheet wsX8_sheet) := goodIn_app (goodIn_sub (List.forall_mem_cons.mpr ⟨at_895, List.forall_mem_cons.mpr ⟨at_896, List.forall_mem_cons.mpr ⟨at_897, List.forall_mem_cons.mpr ⟨at_46, fun _ h => absurd h List.not_mem_nil⟩⟩⟩⟩) (by decide +kernel)) (goodIn_sub inT_X8_sheet gaT_X8_sheet)
set_option maxRecDepth 20000 in
theorem inT_X7_lose : ∀ w ∈ wsX7_lose, w ∈ lw_tbl := List.forall_mem_cons.mpr ⟨at_546, List.forall_mem_append.mpr ⟨List.forall_mem_append.mpr ⟨List.forall_mem_cons.mpr ⟨at_217, List.forall_mem_cons.mpr ⟨at_249, List.forall_mem_cons.mpr ⟨at_250, List.forall_mem_cons.mpr ⟨at_39, List.forall_mem_cons.mpr ⟨at_251, fun _ h => absurd h List.not_mem_nil⟩⟩⟩⟩⟩, inX7⟩, inX2⟩⟩
set_option maxRecDepth 20000 in
theorem gaT_X7_lose : wsX7_lose.all goodWord = true := by decide +kernel
theorem gT_X7_lose : GoodIn lw_tbl (wsV RL 100 RX7 yX7_lose wsX7_lose) := goodIn_app (goodIn_sub (List.forall_mem_cons.mpr ⟨at_543, List.forall_mem_cons.mpr ⟨at_544, List.forall_mem_cons.mpr ⟨at_545, List.forall_mem_cons.mpr ⟨at_39, fun _ h => absurd h List.not_mem_nil⟩⟩⟩⟩) (by decide +kernel)) (goodIn_sub inT_X7_lose gaT_X7_lose)
set_option maxRecDepth 20000 in
theorem inT_X8_lose : ∀ w ∈ wsX8_lose, w ∈ lw_tbl := List.forall_mem_cons.mpr ⟨at_902, List.forall_mem_append.mpr ⟨List.forall_mem_cons.mpr ⟨at_617, List.forall_mem_cons.mpr ⟨at_710, List.forall_mem_cons.mpr ⟨at_711, List.forall_mem_cons.mpr ⟨at_46, List.forall_mem_cons.mpr ⟨at_712, List.forall_mem_cons.mpr ⟨at_713, List.forall_mem_cons.mpr ⟨at_714, List.forall_mem_cons.mpr ⟨at_715, fun _ h => absurd h List.not_mem_nil⟩⟩⟩⟩⟩⟩⟩⟩, inX8⟩⟩
set_option maxRecDepth 20000 in
theorem gaT_X8_lose : wsX8_lose.all goodWord = true := by decide +kernel
theorem gT_X8_lose : GoodIn lw_tbl (wsV RL 103 RX8 yX8_lose wsX8_lose) := goodIn_app (goodIn_sub (List.forall_mem_cons.mpr ⟨at_899, List.forall_mem_cons.mpr ⟨at_900, List.forall_mem_cons.mpr ⟨at_901, List.forall_mem_cons.mpr ⟨at_46, fun _ h => absurd h List.not_mem_nil⟩⟩⟩⟩) (by decide +kernel)) (goodIn_sub inT_X8_lose gaT_X8_lose)
set_option maxRecDepth 20000 in
theorem inT_X7_put : ∀ w ∈ wsX7_put, w ∈ lw_tbl := List.forall_mem_cons.mpr ⟨at_550, List.forall_mem_append.mpr ⟨List.forall_mem_append.mpr ⟨List.forall_mem_cons.mpr ⟨at_225, List.forall_mem_cons.mpr ⟨at_217, List.forall_mem_cons.mpr ⟨at_249, List.forall_mem_cons.mpr ⟨at_250, List.forall_mem_cons.mpr ⟨at_39, List.forall_mem_cons.mpr ⟨at_251, List.forall_mem_cons.mpr ⟨at_263, List.forall_mem_cons.mpr ⟨at_265, List.forall_mem_cons.mpr ⟨at_0, List.forall_mem_cons.mpr ⟨at_266, List.forall_mem_cons.mpr ⟨at_551, List.forall_mem_cons.mpr ⟨at_552, List.forall_mem_cons.mpr ⟨at_553, fun _ h => absurd h List.not_mem_nil⟩⟩⟩⟩⟩⟩⟩⟩⟩⟩⟩⟩⟩, inX7⟩, inX2⟩⟩
set_option maxRecDepth 20000 in
theorem gaT_X7_put : wsX7_put.all goodWord = true := by decide +kernel
theorem gT_X7_put : GoodIn lw_tbl (wsV RL 104 RX7 yX7_put wsX7_put) := goodIn_app (goodIn_sub (List.forall_mem_cons.mpr ⟨at_547, List.forall_mem_cons.mpr ⟨at_548, List.forall_mem_cons.mpr ⟨at_549, List.forall_mem_cons.mpr ⟨at_39, fun _ h => absurd h List.not_mem_nil⟩⟩⟩⟩) (by decide +kernel)) (goodIn_sub inT_X7_put gaT_X7_put)
set_option maxRecDepth 20000 in
theorem inT_X8_put : ∀ w ∈ wsX8_put, w ∈ lw_tbl := List.forall_mem_cons.mpr ⟨at_906, List.forall_mem_append.mpr ⟨List.forall_mem_cons.mpr ⟨at_615, List.forall_mem_cons.mpr ⟨at_617, List.forall_mem_cons.mpr ⟨at_618, List.forall_mem_cons.mpr ⟨at_619, List.forall_mem_cons.mpr ⟨at_710, List.forall_mem_cons.mpr ⟨at_711, List.forall_mem_cons.mpr ⟨at_46, List.forall_mem_cons.mpr ⟨at_712, List.forall_mem_cons.mpr ⟨at_713, List.forall_mem_cons.mpr ⟨at_714, List.forall_mem_cons.mpr ⟨at_715, List.forall_mem_cons.mpr ⟨at_723, List.forall_mem_cons.mpr ⟨at_725, List.forall_mem_cons.mpr ⟨at_15, List.forall_mem_cons.mpr ⟨at_726, fun _ h => absurd h List.not_mem_nil⟩⟩⟩⟩⟩⟩⟩⟩⟩⟩⟩⟩⟩⟩⟩, inX8⟩⟩
set_option maxRecDepth 20000 in
theorem gaT_X8_put : wsX8_put.all goodWord = true := by decide +kernel
theorem gT_X8_put : GoodIn lw_tbl (wsV RL 107 RX8 yX8_put wsX8_put) := goodIn_app (goodIn_sub (List.forall_mem_cons.mpr ⟨at_903, List.forall_mem_cons.mpr ⟨at_904, List.forall_mem_cons.mpr ⟨at_905, List.forall_mem_cons.mpr ⟨at_46, fun _ h => absurd h List.not_mem_nil⟩⟩⟩⟩) (by decide +kernel)) (goodIn_sub inT_X8_put gaT_X8_put)
set_option maxRecDepth 20000 in
theorem inT_X7_cell : ∀ w ∈ wsX7_cell, w ∈ lw_tbl := List.forall_mem_cons.mpr ⟨at_557, List.forall_mem_append.mpr ⟨List.forall_mem_append.mpr ⟨List.forall_mem_cons.mpr ⟨at_225, List.forall_mem_cons.mpr ⟨at_531, List.forall_mem_cons.mpr ⟨at_217, List.forall_mem_cons.mpr ⟨at_249, List.forall_mem_cons.mpr ⟨at_250, List.forall_mem_cons.mpr ⟨at_39, List.forall_mem_cons.mpr ⟨at_251, List.forall_mem_cons.mpr ⟨at_252, List.forall_mem_cons.mpr ⟨at_253, List.forall_mem_cons.mpr ⟨at_254, List.forall_mem_cons.mpr ⟨at_255, List.forall_mem_cons.mpr ⟨at_256, List.forall_mem_cons.mpr ⟨at_257, List.forall_mem_cons.mpr ⟨at_40, List.forall_mem_cons.mpr ⟨at_258, List.forall_mem_cons.mpr ⟨at_71, List.forall_mem_cons.mpr ⟨at_73, List.forall_mem_cons.mpr ⟨at_259, List.forall_mem_cons.mpr ⟨at_260, List.forall_mem_cons.mpr ⟨at_261, List.forall_mem_cons.mpr ⟨at_262, List.forall_mem_cons.mpr ⟨at_75, fun _ h => absurd h List.not_mem_nil⟩⟩⟩⟩⟩⟩⟩⟩⟩⟩⟩⟩⟩⟩⟩⟩⟩⟩⟩⟩⟩⟩, inX7⟩, inX2⟩⟩
set_option maxRecDepth 20000 in
theorem gaT_X7_cell : wsX7_cell.all goodWord = true := by decide +kernel
theorem gT_X7_cell : GoodIn lw_tbl (wsV RL 108 RX7 yX7_cell wsX7_cell) := goodIn_app (goodIn_sub (List.forall_mem_cons.mpr ⟨at_554, List.forall_mem_cons.mpr ⟨at_555, List.forall_mem_cons.mpr ⟨at_556, List.forall_mem_cons.mpr ⟨at_39, fun _ h => absurd h List.not_mem_nil⟩⟩⟩⟩) (by decide +kernel)) (goodIn_sub inT_X7_cell gaT_X7_cell)
set_option maxRecDepth 20000 in
theorem inT_X8_cell : ∀ w ∈ wsX8_cell, w ∈ lw_tbl := List.forall_mem_cons.mpr ⟨at_910, List.forall_mem_append.mpr ⟨List.forall_mem_cons.mpr ⟨at_615, List.forall_mem_cons.mpr ⟨at_891, List.forall_mem_cons.mpr ⟨at_617, List.forall_mem_cons.mpr ⟨at_618, List.forall_mem_cons.mpr ⟨at_619, List.forall_mem_cons.mpr ⟨at_710, List.forall_mem_cons.mpr ⟨at_711, List.forall_mem_cons.mpr ⟨at_46, List.forall_mem_cons.mpr ⟨at_712, List.forall_mem_cons.mpr ⟨at_713, List.forall_mem_cons.mpr ⟨at_714, List.forall_mem_cons.mpr ⟨at_715, List.forall_mem_cons.mpr ⟨at_716, List.forall_mem_cons.mpr ⟨at_717, List.forall_mem_cons.mpr ⟨at_718, List.forall_mem_cons.mpr ⟨at_911, List.forall_mem_cons.mpr ⟨at_913, List.forall_mem_cons.mpr ⟨at_36, List.forall_mem_cons.mpr ⟨at_914, fun _ h => absurd h List.not_mem_nil⟩⟩⟩⟩⟩⟩⟩⟩⟩⟩⟩⟩⟩⟩⟩⟩⟩⟩⟩, inX8⟩⟩
set_option maxRecDepth 20000 in
theorem gaT_X8_cell : wsX8_cell.all goodWord = true := by decide +kernel
theorem gT_X8_cell : GoodIn lw_tbl (wsV RL 112 RX8 yX8_cell wsX8_cell) := goodIn_app (goodIn_sub (List.forall_mem_cons.mpr ⟨at_907, List.forall_mem_cons.mpr ⟨at_908, List.forall_mem_cons.mpr ⟨at_909, List.forall_mem_cons.mpr ⟨at_46, fun _ h => absurd h List.not_mem_nil⟩⟩⟩⟩) (by decide +kernel)) (goodIn_sub inT_X8_cell gaT_X8_cell)
set_option maxRecDepth 20000 in
theorem inT_X7_copy : ∀ w ∈ wsX7_copy, w ∈ lw_tbl := List.forall_mem_cons.mpr ⟨at_561, List.forall_mem_append.mpr ⟨List.forall_mem_append.mpr ⟨List.forall_mem_cons.mpr ⟨at_225, List.forall_mem_cons.mpr ⟨at_217, List.forall_mem_cons.mpr ⟨at_563, List.forall_mem_cons.mpr ⟨at_565, List.forall_mem_cons.mpr ⟨at_564, List.forall_mem_cons.mpr ⟨at_50, List.forall_mem_cons.mpr ⟨at_249, List.forall_mem_cons.mpr ⟨at_250, List.forall_mem_cons.mpr ⟨at_39, List.forall_mem_cons.mpr ⟨at_251, List.forall_mem_cons.mpr ⟨at_263, List.forall_mem_cons.mpr ⟨at_265, List.forall_mem_cons.mpr ⟨at_0, List.forall_mem_cons.mpr ⟨at_266, List.forall_mem_cons.mpr ⟨at_562, List.forall_mem_cons.mpr ⟨at_260, List.forall_mem_cons.mpr ⟨at_261, List.forall_mem_cons.mpr ⟨at_40, List.forall_mem_cons.mpr ⟨at_262, List.forall_mem_cons.mpr ⟨at_75, fun _ h => absurd h List.not_mem_nil⟩⟩⟩⟩⟩⟩⟩⟩⟩⟩⟩⟩⟩⟩⟩⟩⟩⟩⟩⟩, inX7⟩, inX2⟩⟩
set_option maxRecDepth 20000 in
theorem gaT_X7_copy : wsX7_copy.all goodWord = true := by decide +kernel
theorem gT_X7_copy : GoodIn lw_tbl (wsV RL 113 RX7 yX7_copy wsX7_copy) := goodIn_app (goodIn_sub (List.forall_mem_cons.mpr ⟨at_558, List.forall_mem_cons.mpr ⟨at_559, List.forall_mem_cons.mpr ⟨at_560, List.forall_mem_cons.mpr ⟨at_39, fun _ h => absurd h List.not_mem_nil⟩⟩⟩⟩) (by decide +kernel)) (goodIn_sub inT_X7_copy gaT_X7_copy)
set_option maxRecDepth 20000 in
theorem inT_X8_copy : ∀ w ∈ wsX8_copy, w ∈ lw_tbl := List.forall_mem_cons.mpr ⟨at_918, List.forall_mem_append.mpr ⟨List.forall_mem_cons.mpr ⟨at_615, List.forall_mem_cons.mpr ⟨at_617, List.forall_mem_cons.mpr ⟨at_618, List.forall_mem_cons.mpr ⟨at_619, List.forall_mem_cons.mpr ⟨at_710, List.forall_mem_cons.mpr ⟨at_711, List.forall_mem_cons.mpr ⟨at_46, List.forall_mem_cons.mpr ⟨at_712, List.forall_mem_cons.mpr ⟨at_713, List.forall_mem_cons.mpr ⟨at_714, List.forall_mem_cons.mpr ⟨at_715, List.forall_mem_cons.mpr ⟨at_723, List.forall_mem_cons.mpr ⟨at_725, List.forall_mem_cons.mpr ⟨at_15, List.forall_mem_cons.mpr ⟨at_726, fun _ h => absurd h List.not_mem_nil⟩⟩⟩⟩⟩⟩⟩⟩⟩⟩⟩⟩⟩⟩⟩, inX8⟩⟩
set_option maxRecDepth 20000 in
theorem gaT_X8_copy : wsX8_copy.all goodWord = true := by decide +kernel
theorem gT_X8_copy : GoodIn lw_tbl (wsV RL 116 RX8 yX8_copy wsX8_copy) := goodIn_app (goodIn_sub (List.forall_mem_cons.mpr ⟨at_915, List.forall_mem_cons.mpr ⟨at_916, List.forall_mem_cons.mpr ⟨at_917, List.forall_mem_cons.mpr ⟨at_46, fun _ h => absurd h List.not_mem_nil⟩⟩⟩⟩) (by decide +kernel)) (goodIn_sub inT_X8_copy gaT_X8_copy)
theorem inT_wsX7_tell_r1 : ∀ w ∈ wsX7_tell_r1, w ∈ lw_tbl := List.forall_mem_cons.mpr ⟨at_218, List.forall_mem_cons.mpr ⟨at_299, List.forall_mem_cons.mpr ⟨at_292, List.forall_mem_cons.mpr ⟨at_293, List.forall_mem_cons.mpr ⟨at_41, List.forall_mem_cons.mpr ⟨at_294, List.forall_mem_cons.mpr ⟨at_105, List.forall_mem_cons.mpr ⟨at_570, List.forall_mem_cons.mpr ⟨at_572, List.forall_mem_cons.mpr ⟨at_10, List.forall_mem_cons.mpr ⟨at_39, List.forall_mem_cons.mpr ⟨at_573, List.forall_mem_cons.mpr ⟨at_574, List.forall_mem_cons.mpr ⟨at_576, List.forall_mem_cons.mpr ⟨at_11, List.forall_mem_cons.mpr ⟨at_577, List.forall_mem_cons.mpr ⟨at_224, List.forall_mem_cons.mpr ⟨at_578, List.forall_mem_cons.mpr ⟨at_580, List.forall_mem_cons.mpr ⟨at_12, List.forall_mem_cons.mpr ⟨at_581, List.forall_mem_cons.mpr ⟨at_582, List.forall_mem_cons.mpr ⟨at_584, List.forall_mem_cons.mpr ⟨at_13, fun _ h => absurd h List.not_mem_nil⟩⟩⟩⟩⟩⟩⟩⟩⟩⟩⟩⟩⟩⟩⟩⟩⟩⟩⟩⟩⟩⟩⟩⟩
theorem inT_wsX7_tell_r2 : ∀ w ∈ wsX7_tell_r2, w ∈ lw_tbl := List.forall_mem_cons.mpr ⟨at_585, fun _ h => absurd h List.not_mem_nil⟩
set_option maxRecDepth 20000 in
theorem inT_X7_tell : ∀ w ∈ wsX7_tell, w ∈ lw_tbl := List.forall_mem_cons.mpr ⟨at_569, List.forall_mem_append.mpr ⟨List.forall_mem_append.mpr ⟨List.forall_mem_append.mpr ⟨inT_wsX7_tell_r1, inT_wsX7_tell_r2⟩, inX7⟩, inX4⟩⟩
set_option maxRecDepth 20000 in
theorem gaT_X7_tell : wsX7_tell.all goodWord = true := by decide +kernel
theorem gT_X7_tell : GoodIn lw_tbl (wsV RL 117 RX7 yX7_tell wsX7_tell) := goodIn_app (goodIn_sub (List.forall_mem_cons.mpr ⟨at_566, List.forall_mem_cons.mpr ⟨at_567, List.forall_mem_cons.mpr ⟨at_568, List.forall_mem_cons.mpr ⟨at_39, fun _ h => absurd h List.not_mem_nil⟩⟩⟩⟩) (by decide +kernel)) (goodIn_sub inT_X7_tell gaT_X7_tell)
set_option maxRecDepth 20000 in
theorem inT_X8_tell : ∀ w ∈ wsX8_tell, w ∈ lw_tbl := List.forall_mem_cons.mpr ⟨at_922, List.forall_mem_append.mpr ⟨List.forall_mem_cons.mpr ⟨at_624, List.forall_mem_cons.mpr ⟨at_623, List.forall_mem_cons.mpr ⟨at_751, List.forall_mem_cons.mpr ⟨at_753, List.forall_mem_cons.mpr ⟨at_21, List.forall_mem_cons.mpr ⟨at_46, List.forall_mem_cons.mpr ⟨at_754, List.forall_mem_cons.mpr ⟨at_620, List.forall_mem_cons.mpr ⟨at_923, List.forall_mem_cons.mpr ⟨at_925, List.forall_mem_cons.mpr ⟨at_37, List.forall_mem_cons.mpr ⟨at_926, List.forall_mem_cons.mpr ⟨at_616, fun _ h => absurd h List.not_mem_nil⟩⟩⟩⟩⟩⟩⟩⟩⟩⟩⟩⟩⟩, inX8⟩⟩
set_option maxRecDepth 20000 in
theorem gaT_X8_tell : wsX8_tell.all goodWord = true := by decide +kernel
theorem gT_X8_tell : GoodIn lw_tbl (wsV RL 120 RX8 yX8_tell wsX8_tell) := goodIn_app (goodIn_sub (List.forall_mem_cons.mpr ⟨at_919, List.forall_mem_cons.mpr ⟨at_920, List.forall_mem_cons.mpr ⟨at_921, List.forall_mem_cons.mpr ⟨at_46, fun _ h => absurd h List.not_mem_nil⟩⟩⟩⟩) (by decide +kernel)) (goodIn_sub inT_X8_tell gaT_X8_tell)
set_option maxRecDepth 20000 in
theorem inT_X7_quote : ∀ w ∈ wsX7_quote, w ∈ lw_tbl := List.forall_mem_cons.mpr ⟨at_589, List.forall_mem_append.mpr ⟨List.forall_mem_append.mpr ⟨List.forall_mem_cons.mpr ⟨at_218, List.forall_mem_cons.mpr ⟨at_299, List.forall_mem_cons.mpr ⟨at_292, List.forall_mem_cons.mpr ⟨at_293, List.forall_mem_cons.mpr ⟨at_41, List.forall_mem_cons.mpr ⟨at_294, List.forall_mem_cons.mpr ⟨at_105, List.forall_mem_cons.mpr ⟨at_574, List.forall_mem_cons.mpr ⟨at_576, List.forall_mem_cons.mpr ⟨at_11, List.forall_mem_cons.mpr ⟨at_39, List.forall_mem_cons.mpr ⟨at_577, List.forall_mem_cons.mpr ⟨at_224, fun _ h => absurd h List.not_mem_nil⟩⟩⟩⟩⟩⟩⟩⟩⟩⟩⟩⟩⟩, inX7⟩, inX4⟩⟩
set_option maxRecDepth 20000 in
theorem gaT_X7_quote : wsX7_quote.all goodWord = true := by decide +kernel
theorem gT_X7_quote : GoodIn lw_tbl (wsV RL 121 RX7 yX7_quote wsX7_quote) := goodIn_app (goodIn_sub (List.forall_mem_cons.mpr ⟨at_586, List.forall_mem_cons.mpr ⟨at_587, List.forall_mem_cons.mpr ⟨at_588, List.forall_mem_cons.mpr ⟨at_39, fun _ h => absurd h List.not_mem_nil⟩⟩⟩⟩) (by decide +kernel)) (goodIn_sub inT_X7_quote gaT_X7_quote)
set_option maxRecDepth 20000 in
theorem inT_X8_quote : ∀ w ∈ wsX8_quote, w ∈ lw_tbl := List.forall_mem_cons.mpr ⟨at_930, List.forall_mem_append.mpr ⟨List.forall_mem_cons.mpr ⟨at_623, List.forall_mem_cons.mpr ⟨at_751, List.forall_mem_cons.mpr ⟨at_753, List.forall_mem_cons.mpr ⟨at_21, List.forall_mem_cons.mpr ⟨at_46, List.forall_mem_cons.mpr ⟨at_754, List.forall_mem_cons.mpr ⟨at_620, List.forall_mem_cons.mpr ⟨at_923, List.forall_mem_cons.mpr ⟨at_925, List.forall_mem_cons.mpr ⟨at_37, List.forall_mem_cons.mpr ⟨at_926, List.forall_mem_cons.mpr ⟨at_616, fun _ h => absurd h List.not_mem_nil⟩⟩⟩⟩⟩⟩⟩⟩⟩⟩⟩⟩, inX8⟩⟩
set_option maxRecDepth 20000 in
theorem gaT_X8_quote : wsX8_quote.all goodWord = true := by decide +kernel
theorem gT_X8_quote : GoodIn lw_tbl (wsV RL 124 RX8 yX8_quote wsX8_quote) := goodIn_app (goodIn_sub (List.forall_mem_cons.mpr ⟨at_927, List.forall_mem_cons.mpr ⟨at_928, List.forall_mem_cons.mpr ⟨at_929, List.forall_mem_cons.mpr ⟨at_46, fun _ h => absurd h List.not_mem_nil⟩⟩⟩⟩) (by decide +kernel)) (goodIn_sub inT_X8_quote gaT_X8_quote)
set_option maxRecDepth 20000 in
theorem inT_X7_as : ∀ w ∈ wsX7_as, w ∈ lw_tbl := List.forall_mem_cons.mpr ⟨at_593, List.forall_mem_append.mpr ⟨List.forall_mem_append.mpr ⟨List.forall_mem_cons.mpr ⟨at_225, List.forall_mem_cons.mpr ⟨at_218, List.forall_mem_cons.mpr ⟨at_299, List.forall_mem_cons.mpr ⟨at_292, List.forall_mem_cons.mpr ⟨at_293, List.forall_mem_cons.mpr ⟨at_41, List.forall_mem_cons.mpr ⟨at_294, List.forall_mem_cons.mpr ⟨at_105, List.forall_mem_cons.mpr ⟨at_594, List.forall_mem_cons.mpr ⟨at_595, List.forall_mem_cons.mpr ⟨at_39, List.forall_mem_cons.mpr ⟨at_596, List.forall_mem_cons.mpr ⟨at_263, List.forall_mem_cons.mpr ⟨at_265, List.forall_mem_cons.mpr ⟨at_0, List.forall_mem_cons.mpr ⟨at_266, fun _ h => absurd h List.not_mem_nil⟩⟩⟩⟩⟩⟩⟩⟩⟩⟩⟩⟩⟩⟩⟩⟩, inX7⟩, inX4⟩⟩
set_option maxRecDepth 20000 in
theorem gaT_X7_as : wsX7_as.all goodWord = true := by decide +kernel
theorem gT_X7_as : GoodIn lw_tbl (wsV RL 125 RX7 yX7_as wsX7_as) := goodIn_app (goodIn_sub (List.forall_mem_cons.mpr ⟨at_590, List.forall_mem_cons.mpr ⟨at_591, List.forall_mem_cons.mpr ⟨at_592, List.forall_mem_cons.mpr ⟨at_39, fun _ h => absurd h List.not_mem_nil⟩⟩⟩⟩) (by decide +kernel)) (goodIn_sub inT_X7_as gaT_X7_as)
set_option maxRecDepth 20000 in
theorem inT_X8_as : ∀ w ∈ wsX8_as, w ∈ lw_tbl := List.forall_mem_cons.mpr ⟨at_934, List.forall_mem_append.mpr ⟨List.forall_mem_cons.mpr ⟨at_615, List.forall_mem_cons.mpr ⟨at_623, List.forall_mem_cons.mpr ⟨at_751, List.forall_mem_cons.mpr ⟨at_753, List.forall_mem_cons.mpr ⟨at_21, List.forall_mem_cons.mpr ⟨at_46, List.forall_mem_cons.mpr ⟨at_754, List.forall_mem_cons.mpr ⟨at_620, List.forall_mem_cons.mpr ⟨at_713, List.forall_mem_cons.mpr ⟨at_714, List.forall_mem_cons.mpr ⟨at_715, List.forall_mem_cons.mpr ⟨at_723, List.forall_mem_cons.mpr ⟨at_725, List.forall_mem_cons.mpr ⟨at_15, List.forall_mem_cons.mpr ⟨at_726, fun _ h => absurd h List.not_mem_nil⟩⟩⟩⟩⟩⟩⟩⟩⟩⟩⟩⟩⟩⟩⟩, inX8⟩⟩
set_option maxRecDepth 20000 in
theorem gaT_X8_as : wsX8_as.all goodWord = true := by decide +kernel
theorem gT_X8_as : GoodIn lw_tbl (wsV RL 128 RX8 yX8_as wsX8_as) := goodIn_app (goodIn_sub (List.forall_mem_cons.mpr ⟨at_931, List.forall_mem_cons.mpr ⟨at_932, List.forall_mem_cons.mpr ⟨at_933, List.forall_mem_cons.mpr ⟨at_46, fun _ h => absurd h List.not_mem_nil⟩⟩⟩⟩) (by decide +kernel)) (goodIn_sub inT_X8_as gaT_X8_as)
set_option maxRecDepth 20000 in
theorem inT_X7_trace : ∀ w ∈ wsX7_trace, w ∈ lw_tbl := List.forall_mem_cons.mpr ⟨at_600, List.forall_mem_append.mpr ⟨List.forall_mem_cons.mpr ⟨at_224, fun _ h => absurd h List.not_mem_nil⟩, inX7⟩⟩
set_option maxRecDepth 20000 in
theorem gaT_X7_trace : wsX7_trace.all goodWord = true := by decide +kernel
theorem gT_X7_trace : GoodIn lw_tbl (wsV RL 129 RX7 yX7_trace wsX7_trace) := goodIn_app (goodIn_sub (List.forall_mem_cons.mpr ⟨at_597, List.forall_mem_cons.mpr ⟨at_598, List.forall_mem_cons.mpr ⟨at_599, List.forall_mem_cons.mpr ⟨at_39, fun _ h => absurd h List.not_mem_nil⟩⟩⟩⟩) (by decide +kernel)) (goodIn_sub inT_X7_trace gaT_X7_trace)
set_option maxRecDepth 20000 in
theorem inT_X8_trace : ∀ w ∈ wsX8_trace, w ∈ lw_tbl := List.forall_mem_cons.mpr ⟨at_938, List.forall_mem_append.mpr ⟨List.forall_mem_cons.mpr ⟨at_616, fun _ h => absurd h List.not_mem_nil⟩, inX8⟩⟩
set_option maxRecDepth 20000 in
theorem gaT_X8_trace : wsX8_trace.all goodWord = true := by decide +kernel
theorem gT_X8_trace : GoodIn lw_tbl (wsV RL 132 RX8 yX8_trace wsX8_trace) := goodIn_app (goodIn_sub (List.forall_mem_cons.mpr ⟨at_935, List.forall_mem_cons.mpr ⟨at_936, List.forall_mem_cons.mpr ⟨at_937, List.forall_mem_cons.mpr ⟨at_46, fun _ h => absurd h List.not_mem_nil⟩⟩⟩⟩) (by decide +kernel)) (goodIn_sub inT_X8_trace gaT_X8_trace)
set_option maxRecDepth 20000 in
theorem inT_X7_fault : ∀ w ∈ wsX7_fault, w ∈ lw_tbl := List.forall_mem_cons.mpr ⟨at_604, List.forall_mem_append.mpr ⟨List.forall_mem_cons.mpr ⟨at_225, fun _ h => absurd h List.not_mem_nil⟩, inX7⟩⟩
set_option maxRecDepth 20000 in
theorem gaT_X7_fault : wsX7_fault.all goodWord = true := by decide +kernel
theorem gT_X7_fault : GoodIn lw_tbl (wsV RL 133 RX7 yX7_fault wsX7_fault) := goodIn_app (goodIn_sub (List.forall_mem_cons.mpr ⟨at_601, List.forall_mem_cons.mpr ⟨at_602, List.forall_mem_cons.mpr ⟨at_603, List.forall_mem_cons.mpr ⟨at_39, fun _ h => absurd h List.not_mem_nil⟩⟩⟩⟩) (by decide +kernel)) (goodIn_sub inT_X7_fault gaT_X7_fault)
set_option maxRecDepth 20000 in
theorem inT_X8_fault : ∀ w ∈ wsX8_fault, w ∈ lw_tbl := List.forall_mem_cons.mpr ⟨at_942, List.forall_mem_append.mpr ⟨List.forall_mem_cons.mpr ⟨at_615, fun _ h => absurd h List.not_mem_nil⟩, inX8⟩⟩
set_option maxRecDepth 20000 in
theorem gaT_X8_fault : wsX8_fault.all goodWord = true := by decide +kernel
theorem gT_X8_fault : GoodIn lw_tbl (wsV RL 136 RX8 yX8_fault wsX8_fault) := goodIn_app (goodIn_sub (List.forall_mem_cons.mpr ⟨at_939, List.forall_mem_cons.mpr ⟨at_940, List.forall_mem_cons.mpr ⟨at_941, List.forall_mem_cons.mpr ⟨at_46, fun _ h => absurd h List.not_mem_nil⟩⟩⟩⟩) (by decide +kernel)) (goodIn_sub inT_X8_fault gaT_X8_fault)
set_option maxRecDepth 20000 in
theorem inT_X7_many : ∀ w ∈ wsX7_many, w ∈ lw_tbl := List.forall_mem_cons.mpr ⟨at_608, List.forall_mem_append.mpr ⟨List.forall_mem_append.mpr ⟨List.forall_mem_append.mpr ⟨List.forall_mem_cons.mpr ⟨at_218, List.forall_mem_cons.mpr ⟨at_223, List.forall_mem_cons.mpr ⟨at_219, List.forall_mem_cons.mpr ⟨at_339, List.forall_mem_cons.mpr ⟨at_340, List.forall_mem_cons.mpr ⟨at_341, List.forall_mem_cons.mpr ⟨at_41, List.forall_mem_cons.mpr ⟨at_342, List.forall_mem_cons.mpr ⟨at_109, List.forall_mem_cons.mpr ⟨at_343, List.forall_mem_cons.mpr ⟨at_344, List.forall_mem_cons.mpr ⟨at_48, List.forall_mem_cons.mpr ⟨at_345, List.forall_mem_cons.mpr ⟨at_346, List.forall_mem_cons.mpr ⟨at_347, List.forall_mem_cons.mpr ⟨at_348, fun _ h => absurd h List.not_mem_nil⟩⟩⟩⟩⟩⟩⟩⟩⟩⟩⟩⟩⟩⟩⟩⟩, inX7⟩, inX4⟩, inX1⟩⟩
set_option maxRecDepth 20000 in
theorem gaT_X7_many : wsX7_many.all goodWord = true := by decide +kernel
theorem gT_X7_many : GoodIn lw_tbl (wsV RL 137 RX7 yX7_many wsX7_many) := goodIn_app (goodIn_sub (List.forall_mem_cons.mpr ⟨at_605, List.forall_mem_cons.mpr ⟨at_606, List.forall_mem_cons.mpr ⟨at_607, List.forall_mem_cons.mpr ⟨at_39, fun _ h => absurd h List.not_mem_nil⟩⟩⟩⟩) (by decide +kernel)) (goodIn_sub inT_X7_many gaT_X7_many)
set_option maxRecDepth 20000 in
theorem inT_X8_many : ∀ w ∈ wsX8_many, w ∈ lw_tbl := List.forall_mem_cons.mpr ⟨at_946, List.forall_mem_append.mpr ⟨List.forall_mem_cons.mpr ⟨at_620, List.forall_mem_cons.mpr ⟨at_621, List.forall_mem_cons.mpr ⟨at_622, List.forall_mem_cons.mpr ⟨at_642, List.forall_mem_cons.mpr ⟨at_786, List.forall_mem_cons.mpr ⟨at_787, List.forall_mem_cons.mpr ⟨at_46, List.forall_mem_cons.mpr ⟨at_788, fun _ h => absurd h List.not_mem_nil⟩⟩⟩⟩⟩⟩⟩⟩, inX8⟩⟩
set_option maxRecDepth 20000 in
theorem gaT_X8_many : wsX8_many.all goodWord = true := by decide +kernel
theorem gT_X8_many : GoodIn lw_tbl (wsV RL 140 RX8 yX8_many wsX8_many) := goodIn_app (goodIn_sub (List.forall_mem_cons.mpr ⟨at_943, List.forall_mem_cons.mpr ⟨at_944, List.forall_mem_cons.mpr ⟨at_945, List.forall_mem_cons.mpr ⟨at_46, fun _ h => absurd h List.not_mem_nil⟩⟩⟩⟩) (by decide +kernel)) (goodIn_sub inT_X8_many gaT_X8_many)
