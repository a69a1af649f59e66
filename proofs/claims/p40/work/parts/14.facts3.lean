theorem l_X7_76 : Cond.methodLink RX7 76 yX7_termOf ∈ jm_tbl := jm_tb (List.mem_of_getElem? (i := 791) (by decide +kernel)) rfl
theorem l_X5_95 : Cond.methodLink RX5 95 yX5_readLine ∈ jm_tbl := jm_tb (List.mem_of_getElem? (i := 796) (by decide +kernel)) rfl
theorem l_X5_113 : Cond.methodLink RX5 113 yX7_isTerm ∈ jm_tbl := jm_tb (List.mem_of_getElem? (i := 802) (by decide +kernel)) rfl
theorem l_X5_117 : Cond.methodLink RX5 117 yX5_readWho ∈ jm_tbl := jm_tb (List.mem_of_getElem? (i := 806) (by decide +kernel)) rfl
theorem l_X5_144 : Cond.methodLink RX5 144 yX7_fails ∈ jm_tbl := jm_tb (List.mem_of_getElem? (i := 810) (by decide +kernel)) rfl
theorem l_X5_148 : Cond.methodLink RX5 148 yX7_advance ∈ jm_tbl := jm_tb (List.mem_of_getElem? (i := 814) (by decide +kernel)) rfl
theorem l_X5_168 : Cond.methodLink RX5 168 yX5_isNewName ∈ jm_tbl := jm_tb (List.mem_of_getElem? (i := 815) (by decide +kernel)) rfl
theorem l_X5_154 : Cond.methodLink RX5 154 yX7_isName ∈ jm_tbl := jm_tb (List.mem_of_getElem? (i := 819) (by decide +kernel)) rfl
theorem l_X5_161 : Cond.methodLink RX5 161 yX5_whoNamed ∈ jm_tbl := jm_tb (List.mem_of_getElem? (i := 823) (by decide +kernel)) rfl
theorem l_X5_165 : Cond.methodLink RX5 165 yX5_kindNamed ∈ jm_tbl := jm_tb (List.mem_of_getElem? (i := 827) (by decide +kernel)) rfl
theorem l_X5_171 : Cond.methodLink RX5 171 yX7_isNumber ∈ jm_tbl := jm_tb (List.mem_of_getElem? (i := 831) (by decide +kernel)) rfl
theorem l_X7_89 : Cond.methodLink RX7 89 yX7_fails ∈ jm_tbl := jm_tb (List.mem_of_getElem? (i := 835) (by decide +kernel)) rfl
theorem l_X5_123 : Cond.methodLink RX5 123 yX5_readKind ∈ jm_tbl := jm_tb (List.mem_of_getElem? (i := 838) (by decide +kernel)) rfl
theorem l_X5_129 : Cond.methodLink RX5 129 yX5_readMay ∈ jm_tbl := jm_tb (List.mem_of_getElem? (i := 848) (by decide +kernel)) rfl
theorem l_X5_188 : Cond.methodLink RX5 188 yX7_kindHere ∈ jm_tbl := jm_tb (List.mem_of_getElem? (i := 852) (by decide +kernel)) rfl
theorem l_X7_93 : Cond.methodLink RX7 93 yX7_isName ∈ jm_tbl := jm_tb (List.mem_of_getElem? (i := 856) (by decide +kernel)) rfl
theorem l_X7_103 : Cond.methodLink RX7 103 yX5_kindNamed ∈ jm_tbl := jm_tb (List.mem_of_getElem? (i := 857) (by decide +kernel)) rfl
theorem l_X5_192 : Cond.methodLink RX5 192 yX5_mayAnswer ∈ jm_tbl := jm_tb (List.mem_of_getElem? (i := 858) (by decide +kernel)) rfl
theorem l_X5_135 : Cond.methodLink RX5 135 yX5_readComb ∈ jm_tbl := jm_tb (List.mem_of_getElem? (i := 861) (by decide +kernel)) rfl
theorem l_X5_99 : Cond.methodLink RX5 99 yX7_takes ∈ jm_tbl := jm_tb (List.mem_of_getElem? (i := 869) (by decide +kernel)) rfl
theorem l_X7_85 : Cond.methodLink RX7 85 yX7_isSign ∈ jm_tbl := jm_tb (List.mem_of_getElem? (i := 873) (by decide +kernel)) rfl
theorem l_X5_103 : Cond.methodLink RX5 103 yX7_closes ∈ jm_tbl := jm_tb (List.mem_of_getElem? (i := 877) (by decide +kernel)) rfl
theorem l_X10_103 : Cond.methodLink RX10 103 yX5_copy ∈ jm_tbl := jm_tb (List.mem_of_getElem? (i := 881) (by decide +kernel)) rfl
theorem l_X5_63 : Cond.methodLink RX5 63 arraycopyName ∈ jm_tbl := jm_tb (List.mem_of_getElem? (i := 885) (by decide +kernel)) rfl
theorem l_X10_110 : Cond.methodLink RX10 110 yX1_clear ∈ jm_tbl := jm_tb (List.mem_of_getElem? (i := 886) (by decide +kernel)) rfl
theorem l_X10_113 : Cond.methodLink RX10 113 yX4_clear ∈ jm_tbl := jm_tb (List.mem_of_getElem? (i := 890) (by decide +kernel)) rfl
theorem l_X10_117 : Cond.methodLink RX10 117 yX10_afterReading ∈ jm_tbl := jm_tb (List.mem_of_getElem? (i := 894) (by decide +kernel)) rfl
theorem l_L_87 : Cond.methodLink RL 87 yX10_fault ∈ jm_tbl := jm_tb (List.mem_of_getElem? (i := 898) (by decide +kernel)) rfl
theorem l_L_93 : Cond.methodLink RL 93 yL_live ∈ jm_tbl := jm_tb (List.mem_of_getElem? (i := 902) (by decide +kernel)) rfl
theorem l_L_155 : Cond.methodLink RL 155 yL_state ∈ jm_tbl := jm_tb (List.mem_of_getElem? (i := 905) (by decide +kernel)) rfl
theorem l_L_148 : Cond.methodLink RL 148 yL_speak ∈ jm_tbl := jm_tb (List.mem_of_getElem? (i := 908) (by decide +kernel)) rfl
theorem l_L_143 : Cond.methodLink RL 143 yL_kind ∈ jm_tbl := jm_tb (List.mem_of_getElem? (i := 911) (by decide +kernel)) rfl
theorem l_L_159 : Cond.methodLink RL 159 yX10_kind ∈ jm_tbl := jm_tb (List.mem_of_getElem? (i := 915) (by decide +kernel)) rfl
-- link ('methodLink', 'CombTable', 137, 'java/util/NoSuchElementException', '<init>', '()V')
theorem l_X10_138 : Cond.methodLink RX10 138 yX5_tell ∈ jm_tbl := jm_tb (List.mem_of_getElem? (i := 980) (by decide +kernel)) rfl
theorem l_X5_73 : Cond.methodLink RX5 73 yX5_openingOf ∈ jm_tbl := jm_tb (List.mem_of_getElem? (i := 984) (by decide +kernel)) rfl
theorem l_X5_77 : Cond.methodLink RX5 77 yX5_doingOf ∈ jm_tbl := jm_tb (List.mem_of_getElem? (i := 985) (by decide +kernel)) rfl
theorem l_X5_80 : Cond.methodLink RX5 80 yX5_spanOf ∈ jm_tbl := jm_tb (List.mem_of_getElem? (i := 986) (by decide +kernel)) rfl
theorem l_L_152 : Cond.methodLink RL 152 yL_word ∈ jm_tbl := jm_tb (List.mem_of_getElem? (i := 987) (by decide +kernel)) rfl
theorem l_L_163 : Cond.methodLink RL 163 yX10_word ∈ jm_tbl := jm_tb (List.mem_of_getElem? (i := 990) (by decide +kernel)) rfl
theorem l_X10_168 : Cond.methodLink RX10 168 yX6_has ∈ jm_tbl := jm_tb (List.mem_of_getElem? (i := 994) (by decide +kernel)) rfl
theorem f_X7_15 : Cond.fieldLink RX7 15 "CombTable$Term" "NAME" "LCombTable$Term;" ∈ jm_tbl := jm_tb (List.mem_of_getElem? (i := 58) (by decide +kernel)) rfl
theorem f_X7_11 : Cond.fieldLink RX7 11 "CombTable$Tape" "bytes" "[B" ∈ jm_tbl := jm_tb (List.mem_of_getElem? (i := 60) (by decide +kernel)) rfl
theorem f_X10_92 : Cond.fieldLink RX10 92 "CombTable$Tape" "length" "I" ∈ jm_tbl := jm_tb (List.mem_of_getElem? (i := 61) (by decide +kernel)) rfl
theorem f_X7_24 : Cond.fieldLink RX7 24 "CombTable$Tape" "length" "I" ∈ jm_tbl := jm_tb (List.mem_of_getElem? (i := 62) (by decide +kernel)) rfl
theorem f_X7_28 : Cond.fieldLink RX7 28 "CombTable$Tape" "most" "I" ∈ jm_tbl := jm_tb (List.mem_of_getElem? (i := 63) (by decide +kernel)) rfl
theorem f_X7_31 : Cond.fieldLink RX7 31 "CombTable$Tape" "next" "I" ∈ jm_tbl := jm_tb (List.mem_of_getElem? (i := 64) (by decide +kernel)) rfl
theorem f_X7_49 : Cond.fieldLink RX7 49 "CombTable$Tape" "sort" "I" ∈ jm_tbl := jm_tb (List.mem_of_getElem? (i := 65) (by decide +kernel)) rfl
theorem f_X5_92 : Cond.fieldLink RX5 92 "CombTable$Tape" "sort" "I" ∈ jm_tbl := jm_tb (List.mem_of_getElem? (i := 66) (by decide +kernel)) rfl
theorem f_X7_52 : Cond.fieldLink RX7 52 "CombTable$Tape" "place" "I" ∈ jm_tbl := jm_tb (List.mem_of_getElem? (i := 67) (by decide +kernel)) rfl
theorem f_X5_141 : Cond.fieldLink RX5 141 "CombTable$Tape" "place" "I" ∈ jm_tbl := jm_tb (List.mem_of_getElem? (i := 68) (by decide +kernel)) rfl
theorem f_X7_68 : Cond.fieldLink RX7 68 "CombTable$Tape" "letters" "J" ∈ jm_tbl := jm_tb (List.mem_of_getElem? (i := 69) (by decide +kernel)) rfl
theorem f_X5_157 : Cond.fieldLink RX5 157 "CombTable$Tape" "letters" "J" ∈ jm_tbl := jm_tb (List.mem_of_getElem? (i := 70) (by decide +kernel)) rfl
theorem f_X7_21 : Cond.fieldLink RX7 21 "CombTable$Tape" "term" "LCombTable$Term;" ∈ jm_tbl := jm_tb (List.mem_of_getElem? (i := 71) (by decide +kernel)) rfl
theorem f_X5_183 : Cond.fieldLink RX5 183 "CombTable$Tape" "term" "LCombTable$Term;" ∈ jm_tbl := jm_tb (List.mem_of_getElem? (i := 72) (by decide +kernel)) rfl
theorem f_X7_65 : Cond.fieldLink RX7 65 "CombTable$Tape" "value" "I" ∈ jm_tbl := jm_tb (List.mem_of_getElem? (i := 73) (by decide +kernel)) rfl
theorem f_X5_174 : Cond.fieldLink RX5 174 "CombTable$Tape" "value" "I" ∈ jm_tbl := jm_tb (List.mem_of_getElem? (i := 74) (by decide +kernel)) rfl
theorem f_X7_34 : Cond.fieldLink RX7 34 "CombTable$Tape" "fault" "I" ∈ jm_tbl := jm_tb (List.mem_of_getElem? (i := 75) (by decide +kernel)) rfl
theorem f_X10_121 : Cond.fieldLink RX10 121 "CombTable$Tape" "fault" "I" ∈ jm_tbl := jm_tb (List.mem_of_getElem? (i := 76) (by decide +kernel)) rfl
theorem f_X7_37 : Cond.fieldLink RX7 37 "CombTable$Tape" "faultPlace" "I" ∈ jm_tbl := jm_tb (List.mem_of_getElem? (i := 77) (by decide +kernel)) rfl
theorem f_X10_307 : Cond.fieldLink RX10 307 "CombTable$Tape" "faultPlace" "I" ∈ jm_tbl := jm_tb (List.mem_of_getElem? (i := 78) (by decide +kernel)) rfl
theorem f_X5_41 : Cond.fieldLink RX5 41 "CombTable$Table" "lines" "I" ∈ jm_tbl := jm_tb (List.mem_of_getElem? (i := 109) (by decide +kernel)) rfl
theorem f_X10_114 : Cond.fieldLink RX10 114 "CombTable$Table" "lines" "I" ∈ jm_tbl := jm_tb (List.mem_of_getElem? (i := 110) (by decide +kernel)) rfl
theorem f_X5_44 : Cond.fieldLink RX5 44 "CombTable$Table" "people" "I" ∈ jm_tbl := jm_tb (List.mem_of_getElem? (i := 111) (by decide +kernel)) rfl
theorem f_X1_31 : Cond.fieldLink RX1 31 "CombTable$Table" "people" "I" ∈ jm_tbl := jm_tb (List.mem_of_getElem? (i := 112) (by decide +kernel)) rfl
theorem f_X9_85 : Cond.fieldLink RX9 85 "CombTable$Table" "people" "I" ∈ jm_tbl := jm_tb (List.mem_of_getElem? (i := 113) (by decide +kernel)) rfl
theorem f_X6_104 : Cond.fieldLink RX6 104 "CombTable$Table" "people" "I" ∈ jm_tbl := jm_tb (List.mem_of_getElem? (i := 114) (by decide +kernel)) rfl
theorem f_X10_199 : Cond.fieldLink RX10 199 "CombTable$Table" "people" "I" ∈ jm_tbl := jm_tb (List.mem_of_getElem? (i := 115) (by decide +kernel)) rfl
theorem f_X5_11 : Cond.fieldLink RX5 11 "CombTable$Table" "whoNames" "[J" ∈ jm_tbl := jm_tb (List.mem_of_getElem? (i := 116) (by decide +kernel)) rfl
theorem f_X5_15 : Cond.fieldLink RX5 15 "CombTable$Table" "ranks" "[I" ∈ jm_tbl := jm_tb (List.mem_of_getElem? (i := 117) (by decide +kernel)) rfl
theorem f_X10_128 : Cond.fieldLink RX10 128 "CombTable$Table" "ranks" "[I" ∈ jm_tbl := jm_tb (List.mem_of_getElem? (i := 118) (by decide +kernel)) rfl
theorem f_X5_47 : Cond.fieldLink RX5 47 "CombTable$Table" "kinds" "I" ∈ jm_tbl := jm_tb (List.mem_of_getElem? (i := 119) (by decide +kernel)) rfl
theorem f_X1_36 : Cond.fieldLink RX1 36 "CombTable$Table" "kinds" "I" ∈ jm_tbl := jm_tb (List.mem_of_getElem? (i := 120) (by decide +kernel)) rfl
theorem f_X6_98 : Cond.fieldLink RX6 98 "CombTable$Table" "kinds" "I" ∈ jm_tbl := jm_tb (List.mem_of_getElem? (i := 121) (by decide +kernel)) rfl
theorem f_X9_90 : Cond.fieldLink RX9 90 "CombTable$Table" "kinds" "I" ∈ jm_tbl := jm_tb (List.mem_of_getElem? (i := 122) (by decide +kernel)) rfl
theorem f_X10_202 : Cond.fieldLink RX10 202 "CombTable$Table" "kinds" "I" ∈ jm_tbl := jm_tb (List.mem_of_getElem? (i := 123) (by decide +kernel)) rfl
theorem f_X5_19 : Cond.fieldLink RX5 19 "CombTable$Table" "kindNames" "[J" ∈ jm_tbl := jm_tb (List.mem_of_getElem? (i := 124) (by decide +kernel)) rfl
theorem f_X5_22 : Cond.fieldLink RX5 22 "CombTable$Table" "opening" "[I" ∈ jm_tbl := jm_tb (List.mem_of_getElem? (i := 125) (by decide +kernel)) rfl
theorem f_X5_25 : Cond.fieldLink RX5 25 "CombTable$Table" "does" "[I" ∈ jm_tbl := jm_tb (List.mem_of_getElem? (i := 126) (by decide +kernel)) rfl
theorem f_X5_28 : Cond.fieldLink RX5 28 "CombTable$Table" "spans" "[I" ∈ jm_tbl := jm_tb (List.mem_of_getElem? (i := 127) (by decide +kernel)) rfl
theorem f_X5_31 : Cond.fieldLink RX5 31 "CombTable$Table" "answered" "[I" ∈ jm_tbl := jm_tb (List.mem_of_getElem? (i := 128) (by decide +kernel)) rfl
theorem f_X5_50 : Cond.fieldLink RX5 50 "CombTable$Table" "mays" "I" ∈ jm_tbl := jm_tb (List.mem_of_getElem? (i := 129) (by decide +kernel)) rfl
theorem f_X10_295 : Cond.fieldLink RX10 295 "CombTable$Table" "mays" "I" ∈ jm_tbl := jm_tb (List.mem_of_getElem? (i := 130) (by decide +kernel)) rfl
theorem f_X5_37 : Cond.fieldLink RX5 37 "CombTable$Table" "combs" "I" ∈ jm_tbl := jm_tb (List.mem_of_getElem? (i := 131) (by decide +kernel)) rfl
theorem f_X10_298 : Cond.fieldLink RX10 298 "CombTable$Table" "combs" "I" ∈ jm_tbl := jm_tb (List.mem_of_getElem? (i := 132) (by decide +kernel)) rfl
theorem f_X5_34 : Cond.fieldLink RX5 34 "CombTable$Table" "comb" "[I" ∈ jm_tbl := jm_tb (List.mem_of_getElem? (i := 133) (by decide +kernel)) rfl
theorem f_X5_53 : Cond.fieldLink RX5 53 "CombTable$Table" "combTold" "Z" ∈ jm_tbl := jm_tb (List.mem_of_getElem? (i := 134) (by decide +kernel)) rfl
theorem f_X5_57 : Cond.fieldLink RX5 57 "CombTable$Table" "byRanks" "Z" ∈ jm_tbl := jm_tb (List.mem_of_getElem? (i := 135) (by decide +kernel)) rfl
theorem f_X10_301 : Cond.fieldLink RX10 301 "CombTable$Table" "byRanks" "Z" ∈ jm_tbl := jm_tb (List.mem_of_getElem? (i := 136) (by decide +kernel)) rfl
theorem f_X5_60 : Cond.fieldLink RX5 60 "CombTable$Table" "twice" "Z" ∈ jm_tbl := jm_tb (List.mem_of_getElem? (i := 137) (by decide +kernel)) rfl
theorem f_X6_69 : Cond.fieldLink RX6 69 "CombTable$Table" "twice" "Z" ∈ jm_tbl := jm_tb (List.mem_of_getElem? (i := 138) (by decide +kernel)) rfl
theorem f_X10_304 : Cond.fieldLink RX10 304 "CombTable$Table" "twice" "Z" ∈ jm_tbl := jm_tb (List.mem_of_getElem? (i := 139) (by decide +kernel)) rfl
theorem f_X6_18 : Cond.fieldLink RX6 18 "CombTable$Talk" "table" "LCombTable$Table;" ∈ jm_tbl := jm_tb (List.mem_of_getElem? (i := 186) (by decide +kernel)) rfl
theorem f_X9_79 : Cond.fieldLink RX9 79 "CombTable$Talk" "table" "LCombTable$Table;" ∈ jm_tbl := jm_tb (List.mem_of_getElem? (i := 187) (by decide +kernel)) rfl
theorem f_X6_43 : Cond.fieldLink RX6 43 "CombTable$Talk" "size" "I" ∈ jm_tbl := jm_tb (List.mem_of_getElem? (i := 188) (by decide +kernel)) rfl
theorem f_X9_104 : Cond.fieldLink RX9 104 "CombTable$Talk" "size" "I" ∈ jm_tbl := jm_tb (List.mem_of_getElem? (i := 189) (by decide +kernel)) rfl
theorem f_X10_153 : Cond.fieldLink RX10 153 "CombTable$Talk" "size" "I" ∈ jm_tbl := jm_tb (List.mem_of_getElem? (i := 190) (by decide +kernel)) rfl
theorem f_X6_47 : Cond.fieldLink RX6 47 "CombTable$Talk" "begun" "I" ∈ jm_tbl := jm_tb (List.mem_of_getElem? (i := 191) (by decide +kernel)) rfl
theorem f_X10_172 : Cond.fieldLink RX10 172 "CombTable$Talk" "begun" "I" ∈ jm_tbl := jm_tb (List.mem_of_getElem? (i := 192) (by decide +kernel)) rfl
theorem f_X10_165 : Cond.fieldLink RX10 165 "CombTable$Talk" "why" "I" ∈ jm_tbl := jm_tb (List.mem_of_getElem? (i := 193) (by decide +kernel)) rfl
theorem f_X6_24 : Cond.fieldLink RX6 24 "CombTable$Talk" "speakers" "[I" ∈ jm_tbl := jm_tb (List.mem_of_getElem? (i := 194) (by decide +kernel)) rfl
theorem f_X6_28 : Cond.fieldLink RX6 28 "CombTable$Talk" "sorts" "[I" ∈ jm_tbl := jm_tb (List.mem_of_getElem? (i := 195) (by decide +kernel)) rfl
theorem f_X6_31 : Cond.fieldLink RX6 31 "CombTable$Talk" "heard" "[I" ∈ jm_tbl := jm_tb (List.mem_of_getElem? (i := 196) (by decide +kernel)) rfl
theorem f_X6_34 : Cond.fieldLink RX6 34 "CombTable$Talk" "lines" "[I" ∈ jm_tbl := jm_tb (List.mem_of_getElem? (i := 197) (by decide +kernel)) rfl
theorem f_X6_37 : Cond.fieldLink RX6 37 "CombTable$Talk" "depths" "[I" ∈ jm_tbl := jm_tb (List.mem_of_getElem? (i := 198) (by decide +kernel)) rfl
theorem f_X6_40 : Cond.fieldLink RX6 40 "CombTable$Talk" "states" "[I" ∈ jm_tbl := jm_tb (List.mem_of_getElem? (i := 199) (by decide +kernel)) rfl
theorem f_X1_18 : Cond.fieldLink RX1 18 "CombTable$Minutes" "size" "I" ∈ jm_tbl := jm_tb (List.mem_of_getElem? (i := 227) (by decide +kernel)) rfl
theorem f_X9_33 : Cond.fieldLink RX9 33 "CombTable$Minutes" "size" "I" ∈ jm_tbl := jm_tb (List.mem_of_getElem? (i := 228) (by decide +kernel)) rfl
theorem f_X2_32 : Cond.fieldLink RX2 32 "CombTable$Minutes" "size" "I" ∈ jm_tbl := jm_tb (List.mem_of_getElem? (i := 229) (by decide +kernel)) rfl
theorem f_X10_185 : Cond.fieldLink RX10 185 "CombTable$Minutes" "size" "I" ∈ jm_tbl := jm_tb (List.mem_of_getElem? (i := 230) (by decide +kernel)) rfl
theorem f_X1_22 : Cond.fieldLink RX1 22 "CombTable$Minutes" "torn" "I" ∈ jm_tbl := jm_tb (List.mem_of_getElem? (i := 231) (by decide +kernel)) rfl
theorem f_X10_211 : Cond.fieldLink RX10 211 "CombTable$Minutes" "torn" "I" ∈ jm_tbl := jm_tb (List.mem_of_getElem? (i := 232) (by decide +kernel)) rfl
theorem f_X1_11 : Cond.fieldLink RX1 11 "CombTable$Minutes" "whos" "[I" ∈ jm_tbl := jm_tb (List.mem_of_getElem? (i := 233) (by decide +kernel)) rfl
theorem f_X1_15 : Cond.fieldLink RX1 15 "CombTable$Minutes" "sorts" "[I" ∈ jm_tbl := jm_tb (List.mem_of_getElem? (i := 234) (by decide +kernel)) rfl
theorem f_X4_21 : Cond.fieldLink RX4 21 "CombTable$Sentence" "ones" "I" ∈ jm_tbl := jm_tb (List.mem_of_getElem? (i := 250) (by decide +kernel)) rfl
theorem f_X4_25 : Cond.fieldLink RX4 25 "CombTable$Sentence" "length" "I" ∈ jm_tbl := jm_tb (List.mem_of_getElem? (i := 251) (by decide +kernel)) rfl
theorem f_X10_283 : Cond.fieldLink RX10 283 "CombTable$Sentence" "length" "I" ∈ jm_tbl := jm_tb (List.mem_of_getElem? (i := 252) (by decide +kernel)) rfl
theorem f_X4_11 : Cond.fieldLink RX4 11 "CombTable$Sentence" "steps" "[I" ∈ jm_tbl := jm_tb (List.mem_of_getElem? (i := 253) (by decide +kernel)) rfl
theorem f_X4_15 : Cond.fieldLink RX4 15 "CombTable$Sentence" "signs" "[I" ∈ jm_tbl := jm_tb (List.mem_of_getElem? (i := 254) (by decide +kernel)) rfl
theorem f_X4_18 : Cond.fieldLink RX4 18 "CombTable$Sentence" "values" "[I" ∈ jm_tbl := jm_tb (List.mem_of_getElem? (i := 255) (by decide +kernel)) rfl
theorem f_X0_10 : Cond.fieldLink RX0 10 "CombTable$Image" "table" "LCombTable$Table;" ∈ jm_tbl := jm_tb (List.mem_of_getElem? (i := 279) (by decide +kernel)) rfl
theorem f_X0_18 : Cond.fieldLink RX0 18 "CombTable$Image" "whos" "[I" ∈ jm_tbl := jm_tb (List.mem_of_getElem? (i := 280) (by decide +kernel)) rfl
theorem f_X0_22 : Cond.fieldLink RX0 22 "CombTable$Image" "sorts" "[I" ∈ jm_tbl := jm_tb (List.mem_of_getElem? (i := 281) (by decide +kernel)) rfl
theorem f_X0_28 : Cond.fieldLink RX0 28 "CombTable$Image" "minutes" "LCombTable$Minutes;" ∈ jm_tbl := jm_tb (List.mem_of_getElem? (i := 282) (by decide +kernel)) rfl
theorem f_X0_35 : Cond.fieldLink RX0 35 "CombTable$Image" "sentence" "LCombTable$Sentence;" ∈ jm_tbl := jm_tb (List.mem_of_getElem? (i := 283) (by decide +kernel)) rfl
theorem f_X3_9 : Cond.fieldLink RX3 9 "CombTable$Search" "path" "[I" ∈ jm_tbl := jm_tb (List.mem_of_getElem? (i := 305) (by decide +kernel)) rfl
theorem f_X3_15 : Cond.fieldLink RX3 15 "CombTable$Search" "found" "[I" ∈ jm_tbl := jm_tb (List.mem_of_getElem? (i := 306) (by decide +kernel)) rfl
theorem f_X9_52 : Cond.fieldLink RX9 52 "CombTable$Wholes" "size" "I" ∈ jm_tbl := jm_tb (List.mem_of_getElem? (i := 328) (by decide +kernel)) rfl
theorem f_X9_11 : Cond.fieldLink RX9 11 "CombTable$Wholes" "whos" "[I" ∈ jm_tbl := jm_tb (List.mem_of_getElem? (i := 329) (by decide +kernel)) rfl
theorem f_X9_17 : Cond.fieldLink RX9 17 "CombTable$Wholes" "sorts" "[I" ∈ jm_tbl := jm_tb (List.mem_of_getElem? (i := 330) (by decide +kernel)) rfl
theorem f_X9_49 : Cond.fieldLink RX9 49 "CombTable$Wholes" "filled" "I" ∈ jm_tbl := jm_tb (List.mem_of_getElem? (i := 331) (by decide +kernel)) rfl
theorem f_X9_67 : Cond.fieldLink RX9 67 "CombTable$Wholes" "enough" "I" ∈ jm_tbl := jm_tb (List.mem_of_getElem? (i := 332) (by decide +kernel)) rfl
theorem f_X9_70 : Cond.fieldLink RX9 70 "CombTable$Wholes" "telling" "Z" ∈ jm_tbl := jm_tb (List.mem_of_getElem? (i := 333) (by decide +kernel)) rfl
theorem f_X9_53 : Cond.fieldLink RX9 53 "CombTable$Wholes" "sureSize" "I" ∈ jm_tbl := jm_tb (List.mem_of_getElem? (i := 334) (by decide +kernel)) rfl
theorem f_X9_20 : Cond.fieldLink RX9 20 "CombTable$Wholes" "sureWhos" "[I" ∈ jm_tbl := jm_tb (List.mem_of_getElem? (i := 335) (by decide +kernel)) rfl
theorem f_X9_23 : Cond.fieldLink RX9 23 "CombTable$Wholes" "sureKinds" "[I" ∈ jm_tbl := jm_tb (List.mem_of_getElem? (i := 336) (by decide +kernel)) rfl
theorem f_X9_26 : Cond.fieldLink RX9 26 "CombTable$Wholes" "sureStates" "[I" ∈ jm_tbl := jm_tb (List.mem_of_getElem? (i := 337) (by decide +kernel)) rfl
theorem f_X2_9 : Cond.fieldLink RX2 9 "CombTable$Repair" "leftOut" "I" ∈ jm_tbl := jm_tb (List.mem_of_getElem? (i := 365) (by decide +kernel)) rfl
theorem f_X10_217 : Cond.fieldLink RX10 217 "CombTable$Repair" "leftOut" "I" ∈ jm_tbl := jm_tb (List.mem_of_getElem? (i := 366) (by decide +kernel)) rfl
theorem f_X2_57 : Cond.fieldLink RX2 57 "CombTable$Repair" "orders" "I" ∈ jm_tbl := jm_tb (List.mem_of_getElem? (i := 367) (by decide +kernel)) rfl
theorem f_X2_15 : Cond.fieldLink RX2 15 "CombTable$Repair" "row" "[I" ∈ jm_tbl := jm_tb (List.mem_of_getElem? (i := 368) (by decide +kernel)) rfl
theorem f_X2_19 : Cond.fieldLink RX2 19 "CombTable$Repair" "first" "[I" ∈ jm_tbl := jm_tb (List.mem_of_getElem? (i := 369) (by decide +kernel)) rfl
theorem f_X2_70 : Cond.fieldLink RX2 70 "CombTable$Repair" "firstSize" "I" ∈ jm_tbl := jm_tb (List.mem_of_getElem? (i := 370) (by decide +kernel)) rfl
theorem f_X10_10 : Cond.fieldLink RX10 10 "CombTable" "tape" "LCombTable$Tape;" ∈ jm_tbl := jm_tb (List.mem_of_getElem? (i := 386) (by decide +kernel)) rfl
theorem f_X10_19 : Cond.fieldLink RX10 19 "CombTable" "table" "LCombTable$Table;" ∈ jm_tbl := jm_tb (List.mem_of_getElem? (i := 387) (by decide +kernel)) rfl
theorem f_X10_23 : Cond.fieldLink RX10 23 "CombTable" "spareTable" "LCombTable$Table;" ∈ jm_tbl := jm_tb (List.mem_of_getElem? (i := 388) (by decide +kernel)) rfl
theorem f_X10_31 : Cond.fieldLink RX10 31 "CombTable" "talk" "LCombTable$Talk;" ∈ jm_tbl := jm_tb (List.mem_of_getElem? (i := 389) (by decide +kernel)) rfl
theorem f_X10_35 : Cond.fieldLink RX10 35 "CombTable" "trial" "LCombTable$Talk;" ∈ jm_tbl := jm_tb (List.mem_of_getElem? (i := 390) (by decide +kernel)) rfl
theorem f_X10_38 : Cond.fieldLink RX10 38 "CombTable" "otherTrial" "LCombTable$Talk;" ∈ jm_tbl := jm_tb (List.mem_of_getElem? (i := 391) (by decide +kernel)) rfl
theorem f_X10_44 : Cond.fieldLink RX10 44 "CombTable" "minutes" "LCombTable$Minutes;" ∈ jm_tbl := jm_tb (List.mem_of_getElem? (i := 392) (by decide +kernel)) rfl
theorem f_X10_48 : Cond.fieldLink RX10 48 "CombTable" "spareMinutes" "LCombTable$Minutes;" ∈ jm_tbl := jm_tb (List.mem_of_getElem? (i := 393) (by decide +kernel)) rfl
theorem f_X10_54 : Cond.fieldLink RX10 54 "CombTable" "sentence" "LCombTable$Sentence;" ∈ jm_tbl := jm_tb (List.mem_of_getElem? (i := 394) (by decide +kernel)) rfl
theorem f_X10_58 : Cond.fieldLink RX10 58 "CombTable" "spareSentence" "LCombTable$Sentence;" ∈ jm_tbl := jm_tb (List.mem_of_getElem? (i := 395) (by decide +kernel)) rfl
theorem f_X10_64 : Cond.fieldLink RX10 64 "CombTable" "firstImage" "LCombTable$Image;" ∈ jm_tbl := jm_tb (List.mem_of_getElem? (i := 396) (by decide +kernel)) rfl
theorem f_X10_68 : Cond.fieldLink RX10 68 "CombTable" "secondImage" "LCombTable$Image;" ∈ jm_tbl := jm_tb (List.mem_of_getElem? (i := 397) (by decide +kernel)) rfl
theorem f_X10_74 : Cond.fieldLink RX10 74 "CombTable" "search" "LCombTable$Search;" ∈ jm_tbl := jm_tb (List.mem_of_getElem? (i := 398) (by decide +kernel)) rfl
theorem f_X10_81 : Cond.fieldLink RX10 81 "CombTable" "wholes" "LCombTable$Wholes;" ∈ jm_tbl := jm_tb (List.mem_of_getElem? (i := 399) (by decide +kernel)) rfl
theorem f_X10_88 : Cond.fieldLink RX10 88 "CombTable" "repair" "LCombTable$Repair;" ∈ jm_tbl := jm_tb (List.mem_of_getElem? (i := 400) (by decide +kernel)) rfl
theorem f_J0_38 : Cond.fieldLink RJ0 38 "java/lang/String" "COMPACT_STRINGS" "Z" ∈ jm_tbl := jm_tb (List.mem_of_getElem? (i := 671) (by decide +kernel)) rfl
theorem f_J0_1053 : Cond.fieldLink RJ0 1053 "jdk/internal/util/Preconditions" "SIOOBE_FORMATTER" "Ljava/util/function/BiFunction;" ∈ jm_tbl := jm_tb (List.mem_of_getElem? (i := 687) (by decide +kernel)) rfl
theorem f_J2_44 : Cond.fieldLink RJ2 44 "java/lang/StringUTF16" "$assertionsDisabled" "Z" ∈ jm_tbl := jm_tb (List.mem_of_getElem? (i := 705) (by decide +kernel)) rfl
theorem f_J2_59 : Cond.fieldLink RJ2 59 "java/lang/StringUTF16" "HI_BYTE_SHIFT" "I" ∈ jm_tbl := jm_tb (List.mem_of_getElem? (i := 707) (by decide +kernel)) rfl
theorem f_J2_63 : Cond.fieldLink RJ2 63 "java/lang/StringUTF16" "LO_BYTE_SHIFT" "I" ∈ jm_tbl := jm_tb (List.mem_of_getElem? (i := 709) (by decide +kernel)) rfl
theorem f_X7_80 : Cond.fieldLink RX7 80 "CombTable$Tape" "TERMS" "[LCombTable$Term;" ∈ jm_tbl := jm_tb (List.mem_of_getElem? (i := 794) (by decide +kernel)) rfl
theorem f_X5_107 : Cond.fieldLink RX5 107 "CombTable$Term" "WHO" "LCombTable$Term;" ∈ jm_tbl := jm_tb (List.mem_of_getElem? (i := 800) (by decide +kernel)) rfl
theorem f_X5_120 : Cond.fieldLink RX5 120 "CombTable$Term" "KIND" "LCombTable$Term;" ∈ jm_tbl := jm_tb (List.mem_of_getElem? (i := 836) (by decide +kernel)) rfl
theorem f_X5_177 : Cond.fieldLink RX5 177 "CombTable$Term" "OPENS" "LCombTable$Term;" ∈ jm_tbl := jm_tb (List.mem_of_getElem? (i := 842) (by decide +kernel)) rfl
theorem f_X5_180 : Cond.fieldLink RX5 180 "CombTable$Term" "BEGINS" "LCombTable$Term;" ∈ jm_tbl := jm_tb (List.mem_of_getElem? (i := 844) (by decide +kernel)) rfl
theorem f_X5_126 : Cond.fieldLink RX5 126 "CombTable$Term" "MAY" "LCombTable$Term;" ∈ jm_tbl := jm_tb (List.mem_of_getElem? (i := 846) (by decide +kernel)) rfl
theorem f_X5_132 : Cond.fieldLink RX5 132 "CombTable$Term" "COMB" "LCombTable$Term;" ∈ jm_tbl := jm_tb (List.mem_of_getElem? (i := 859) (by decide +kernel)) rfl
theorem f_X5_138 : Cond.fieldLink RX5 138 "CombTable$Term" "RANKS" "LCombTable$Term;" ∈ jm_tbl := jm_tb (List.mem_of_getElem? (i := 865) (by decide +kernel)) rfl
theorem f_X5_151 : Cond.fieldLink RX5 151 "CombTable$Term" "TWICE" "LCombTable$Term;" ∈ jm_tbl := jm_tb (List.mem_of_getElem? (i := 867) (by decide +kernel)) rfl
theorem f_J0_9 : Cond.fieldLink RJ0 9 "java/lang/String" "value" "[B" ∈ jm_tbl := jm_tb (List.mem_of_getElem? (i := 1012) (by decide +kernel)) rfl
theorem f_J0_15 : Cond.fieldLink RJ0 15 "java/lang/String" "coder" "B" ∈ jm_tbl := jm_tb (List.mem_of_getElem? (i := 1013) (by decide +kernel)) rfl
theorem f_X7_84 : Cond.fieldLink RX7 84 "CombTable$Term" "letters" "J" ∈ jm_tbl := jm_tb (List.mem_of_getElem? (i := 1014) (by decide +kernel)) rfl
theorem f_X5_186 : Cond.fieldLink RX5 186 "CombTable$Term" "does" "I" ∈ jm_tbl := jm_tb (List.mem_of_getElem? (i := 1015) (by decide +kernel)) rfl
theorem k_X10_190 : Cond.constantLong RX10 190 (Int64.ofInt 20000) ∈ jm_tbl := jm_tb (List.mem_of_getElem? (i := 535) (by decide +kernel)) rfl
theorem k_X8_123 : Cond.constantLong RX8 123 (Int64.ofInt 32) ∈ jm_tbl := jm_tb (List.mem_of_getElem? (i := 790) (by decide +kernel)) rfl
theorem k_X9_74 : Cond.constant RX9 74 (Int32.ofInt 1000000) ∈ jm_tbl := jm_tb (List.mem_of_getElem? (i := 548) (by decide +kernel)) rfl
theorem k_J6_265 : Cond.constant RJ6 265 (Int32.ofInt 1431655765) ∈ jm_tbl := jm_tb (List.mem_of_getElem? (i := 616) (by decide +kernel)) rfl
theorem k_J6_266 : Cond.constant RJ6 266 (Int32.ofInt 858993459) ∈ jm_tbl := jm_tb (List.mem_of_getElem? (i := 617) (by decide +kernel)) rfl
theorem k_J6_267 : Cond.constant RJ6 267 (Int32.ofInt 252645135) ∈ jm_tbl := jm_tb (List.mem_of_getElem? (i := 618) (by decide +kernel)) rfl
theorem k_X10_230 : Cond.constant RX10 230 (Int32.ofInt 1103515245) ∈ jm_tbl := jm_tb (List.mem_of_getElem? (i := 619) (by decide +kernel)) rfl
theorem k_L_135 : Cond.constant RL 135 (Int32.ofInt 19088743) ∈ jm_tbl := jm_tb (List.mem_of_getElem? (i := 995) (by decide +kernel)) rfl
theorem k_L_147 : Cond.constant RL 147 (Int32.ofInt 65536) ∈ jm_tbl := jm_tb (List.mem_of_getElem? (i := 996) (by decide +kernel)) rfl
