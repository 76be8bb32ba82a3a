/-! words of the tables, by their places -/
theorem wcode_X10_refuse : Cond.code yX10_refuse cX10_refuse 3 (some .int) ∈ gw := gw_in (tin2 (List.mem_of_getElem? (i := 195) rfl)) rfl
theorem wini_SplitProgram : Cond.initialized "SplitProgram" ∈ gw := gw_in (tin1 (List.mem_of_getElem? (i := 1) rfl)) rfl
theorem win_10 : ∀ w ∈ u_ws RX10 TX10 14, w ∈ gw := (List.forall_mem_cons.mpr ⟨gw_in (tin2 (List.mem_of_getElem? (i := 159) rfl)) rfl, (List.forall_mem_cons.mpr ⟨gw_in (tin2 (List.mem_of_getElem? (i := 161) rfl)) rfl, (List.forall_mem_cons.mpr ⟨gw_in (tin2 (List.mem_of_getElem? (i := 163) rfl)) rfl, (List.forall_mem_cons.mpr ⟨gw_in (tin2 (List.mem_of_getElem? (i := 165) rfl)) rfl, (List.forall_mem_cons.mpr ⟨gw_in (tin2 (List.mem_of_getElem? (i := 167) rfl)) rfl, (List.forall_mem_cons.mpr ⟨gw_in (tin2 (List.mem_of_getElem? (i := 169) rfl)) rfl, (List.forall_mem_cons.mpr ⟨gw_in (tin2 (List.mem_of_getElem? (i := 171) rfl)) rfl, (List.forall_mem_cons.mpr ⟨gw_in (tin2 (List.mem_of_getElem? (i := 173) rfl)) rfl, (List.forall_mem_cons.mpr ⟨gw_in (tin2 (List.mem_of_getElem? (i := 175) rfl)) rfl, (List.forall_mem_cons.mpr ⟨gw_in (tin2 (List.mem_of_getElem? (i := 177) rfl)) rfl, (List.forall_mem_cons.mpr ⟨gw_in (tin2 (List.mem_of_getElem? (i := 179) rfl)) rfl, (List.forall_mem_cons.mpr ⟨gw_in (tin2 (List.mem_of_getElem? (i := 181) rfl)) rfl, (List.forall_mem_cons.mpr ⟨gw_in (tin2 (List.mem_of_getElem? (i := 183) rfl)) rfl, (List.forall_mem_cons.mpr ⟨gw_in (tin2 (List.mem_of_getElem? (i := 185) rfl)) rfl, (fun _ h => by cases h)⟩)⟩)⟩)⟩)⟩)⟩)⟩)⟩)⟩)⟩)⟩)⟩)⟩)⟩)
theorem wfl_X10_351 : Cond.fieldLink RX10 351 "SplitProgram" "latestRefusal" "I" ∈ gw := gw_in (tin2 (List.mem_of_getElem? (i := 158) rfl)) rfl
theorem wfl_X10_78 : Cond.fieldLink RX10 78 "SplitProgram" "refusals" "[I" ∈ gw := gw_in (tin2 (List.mem_of_getElem? (i := 157) rfl)) rfl
theorem wcode_X10_accept : Cond.code yX10_accept cX10_accept 2 (some .int) ∈ gw := gw_in (tin2 (List.mem_of_getElem? (i := 203) rfl)) rfl
theorem wcode_X10_terms : Cond.code yX10_terms cX10_terms 4 (some .int) ∈ gw := gw_in (tin2 (List.mem_of_getElem? (i := 191) rfl)) rfl
theorem wml_X10_81 : Cond.methodLink RX10 81 yX10_refuse ∈ gw := gw_in (tin2 (List.mem_of_getElem? (i := 192) rfl)) rfl
theorem winst_X10_refuse : Cond.instanceMethod yX10_refuse ∈ gw := gw_in (tin2 (List.mem_of_getElem? (i := 194) rfl)) rfl
theorem wsel_X10_refuse : Cond.selects RX10 yX10_refuse yX10_refuse ∈ gw := gw_sel (y := yX10_refuse) (n := 14) 0 rfl
theorem wfl_X10_85 : Cond.fieldLink RX10 85 "SplitProgram" "TERM_LOWEST" "[I" ∈ gw := gw_in (tin2 (List.mem_of_getElem? (i := 196) rfl)) rfl
theorem wfl_X10_88 : Cond.fieldLink RX10 88 "SplitProgram" "TERM_HIGHEST" "[I" ∈ gw := gw_in (tin2 (List.mem_of_getElem? (i := 198) rfl)) rfl
theorem wfl_X10_16 : Cond.fieldLink RX10 16 "SplitProgram" "termValues" "[I" ∈ gw := gw_in (tin2 (List.mem_of_getElem? (i := 146) rfl)) rfl
theorem wml_X10_91 : Cond.methodLink RX10 91 yX10_accept ∈ gw := gw_in (tin2 (List.mem_of_getElem? (i := 200) rfl)) rfl
theorem winst_X10_accept : Cond.instanceMethod yX10_accept ∈ gw := gw_in (tin2 (List.mem_of_getElem? (i := 202) rfl)) rfl
theorem wsel_X10_accept : Cond.selects RX10 yX10_accept yX10_accept ∈ gw := gw_sel (y := yX10_accept) (n := 14) 1 rfl
theorem wcode_X9_hasRoomForFive : Cond.code yX9_hasRoomForFive cX9_hasRoomForFive 1 (some .boolean) ∈ gw := gw_in (tin2 (List.mem_of_getElem? (i := 211) rfl)) rfl
theorem wini_SplitProgram_Tape : Cond.initialized "SplitProgram$Tape" ∈ gw := gw_in (tin1 (List.mem_of_getElem? (i := 11) rfl)) rfl
theorem win_9 : ∀ w ∈ u_ws RX9 TX9 6, w ∈ gw := (List.forall_mem_cons.mpr ⟨gw_in (tin2 (List.mem_of_getElem? (i := 102) rfl)) rfl, (List.forall_mem_cons.mpr ⟨gw_in (tin2 (List.mem_of_getElem? (i := 104) rfl)) rfl, (List.forall_mem_cons.mpr ⟨gw_in (tin2 (List.mem_of_getElem? (i := 106) rfl)) rfl, (List.forall_mem_cons.mpr ⟨gw_in (tin2 (List.mem_of_getElem? (i := 108) rfl)) rfl, (List.forall_mem_cons.mpr ⟨gw_in (tin2 (List.mem_of_getElem? (i := 110) rfl)) rfl, (List.forall_mem_cons.mpr ⟨gw_in (tin2 (List.mem_of_getElem? (i := 112) rfl)) rfl, (fun _ h => by cases h)⟩)⟩)⟩)⟩)⟩)⟩)
theorem wfl_X9_19 : Cond.fieldLink RX9 19 "SplitProgram$Tape" "length" "I" ∈ gw := gw_in (tin2 (List.mem_of_getElem? (i := 95) rfl)) rfl
theorem wcode_X9_append : Cond.code yX9_append cX9_append 3 none ∈ gw := gw_in (tin2 (List.mem_of_getElem? (i := 215) rfl)) rfl
theorem wfl_X9_11 : Cond.fieldLink RX9 11 "SplitProgram$Tape" "bytes" "[B" ∈ gw := gw_in (tin2 (List.mem_of_getElem? (i := 94) rfl)) rfl
theorem wcode_X10_feed : Cond.code yX10_feed cX10_feed 6 (some .int) ∈ gw := gw_in (tin2 (List.mem_of_getElem? (i := 207) rfl)) rfl
theorem wfl_X10_30 : Cond.fieldLink RX10 30 "SplitProgram" "tape" "LSplitProgram$Tape;" ∈ gw := gw_in (tin2 (List.mem_of_getElem? (i := 148) rfl)) rfl
theorem wml_X10_94 : Cond.methodLink RX10 94 yX9_hasRoomForFive ∈ gw := gw_in (tin2 (List.mem_of_getElem? (i := 208) rfl)) rfl
theorem winst_X9_hasRoomForFive : Cond.instanceMethod yX9_hasRoomForFive ∈ gw := gw_in (tin2 (List.mem_of_getElem? (i := 209) rfl)) rfl
theorem wsel_X9_hasRoomForFive : Cond.selects RX9 yX9_hasRoomForFive yX9_hasRoomForFive ∈ gw := gw_in (tin2 (List.mem_of_getElem? (i := 210) rfl)) rfl
theorem wml_X10_98 : Cond.methodLink RX10 98 yX9_append ∈ gw := gw_in (tin2 (List.mem_of_getElem? (i := 212) rfl)) rfl
theorem winst_X9_append : Cond.instanceMethod yX9_append ∈ gw := gw_in (tin2 (List.mem_of_getElem? (i := 213) rfl)) rfl
theorem wsel_X9_append : Cond.selects RX9 yX9_append yX9_append ∈ gw := gw_in (tin2 (List.mem_of_getElem? (i := 214) rfl)) rfl
theorem wfl_X10_101 : Cond.fieldLink RX10 101 "SplitProgram$Tape" "length" "I" ∈ gw := gw_in (tin2 (List.mem_of_getElem? (i := 96) rfl)) rfl
theorem wcode_X10_end : Cond.code yX10_end cX10_end 2 (some .int) ∈ gw := gw_in (tin2 (List.mem_of_getElem? (i := 219) rfl)) rfl
theorem wcode_J7_fill_53178 : Cond.code yJ7_fill_53178 cJ7_fill_53178 4 none ∈ gw := gw_in (tin1 (List.mem_of_getElem? (i := 45) rfl)) rfl
theorem wini_java_util_Arrays : Cond.initialized "java/util/Arrays" ∈ gw := gw_in (tin1 (List.mem_of_getElem? (i := 4) rfl)) rfl
theorem wcode_X6_wipe : Cond.code yX6_wipe cX6_wipe 1 none ∈ gw := gw_in (tin2 (List.mem_of_getElem? (i := 231) rfl)) rfl
theorem wini_SplitProgram_Program : Cond.initialized "SplitProgram$Program" ∈ gw := gw_in (tin1 (List.mem_of_getElem? (i := 3) rfl)) rfl
theorem win_6 : ∀ w ∈ u_ws RX6 TX6 9, w ∈ gw := (List.forall_mem_cons.mpr ⟨gw_in (tin1 (List.mem_of_getElem? (i := 83) rfl)) rfl, (List.forall_mem_cons.mpr ⟨gw_in (tin1 (List.mem_of_getElem? (i := 85) rfl)) rfl, (List.forall_mem_cons.mpr ⟨gw_in (tin1 (List.mem_of_getElem? (i := 87) rfl)) rfl, (List.forall_mem_cons.mpr ⟨gw_in (tin1 (List.mem_of_getElem? (i := 89) rfl)) rfl, (List.forall_mem_cons.mpr ⟨gw_in (tin1 (List.mem_of_getElem? (i := 91) rfl)) rfl, (List.forall_mem_cons.mpr ⟨gw_in (tin1 (List.mem_of_getElem? (i := 93) rfl)) rfl, (List.forall_mem_cons.mpr ⟨gw_in (tin1 (List.mem_of_getElem? (i := 95) rfl)) rfl, (List.forall_mem_cons.mpr ⟨gw_in (tin1 (List.mem_of_getElem? (i := 97) rfl)) rfl, (List.forall_mem_cons.mpr ⟨gw_in (tin1 (List.mem_of_getElem? (i := 99) rfl)) rfl, (fun _ h => by cases h)⟩)⟩)⟩)⟩)⟩)⟩)⟩)⟩)⟩)
theorem wfl_X6_36 : Cond.fieldLink RX6 36 "SplitProgram$Program" "plants" "I" ∈ gw := gw_in (tin1 (List.mem_of_getElem? (i := 46) rfl)) rfl
theorem wfl_X6_40 : Cond.fieldLink RX6 40 "SplitProgram$Program" "sites" "I" ∈ gw := gw_in (tin1 (List.mem_of_getElem? (i := 51) rfl)) rfl
theorem wfl_X6_43 : Cond.fieldLink RX6 43 "SplitProgram$Program" "cases" "I" ∈ gw := gw_in (tin1 (List.mem_of_getElem? (i := 56) rfl)) rfl
theorem wfl_X6_9 : Cond.fieldLink RX6 9 "SplitProgram$Program" "fees" "[I" ∈ gw := gw_in (tin1 (List.mem_of_getElem? (i := 62) rfl)) rfl
theorem wml_X6_30 : Cond.methodLink RX6 30 yJ7_fill_53178 ∈ gw := gw_in (tin1 (List.mem_of_getElem? (i := 43) rfl)) rfl
theorem wstat_J7_fill_53178 : Cond.static yJ7_fill_53178 ∈ gw := gw_in (tin1 (List.mem_of_getElem? (i := 44) rfl)) rfl
theorem wfl_X6_15 : Cond.fieldLink RX6 15 "SplitProgram$Program" "sizes" "[I" ∈ gw := gw_in (tin1 (List.mem_of_getElem? (i := 63) rfl)) rfl
theorem wfl_X6_18 : Cond.fieldLink RX6 18 "SplitProgram$Program" "mosts" "[I" ∈ gw := gw_in (tin1 (List.mem_of_getElem? (i := 66) rfl)) rfl
theorem wfl_X6_21 : Cond.fieldLink RX6 21 "SplitProgram$Program" "tolls" "[I" ∈ gw := gw_in (tin1 (List.mem_of_getElem? (i := 68) rfl)) rfl
theorem wfl_X6_24 : Cond.fieldLink RX6 24 "SplitProgram$Program" "weights" "[I" ∈ gw := gw_in (tin1 (List.mem_of_getElem? (i := 73) rfl)) rfl
theorem wfl_X6_27 : Cond.fieldLink RX6 27 "SplitProgram$Program" "needs" "[I" ∈ gw := gw_in (tin1 (List.mem_of_getElem? (i := 78) rfl)) rfl
theorem wcode_X9_kindOf : Cond.code yX9_kindOf cX9_kindOf 1 (some .int) ∈ gw := gw_in (tin2 (List.mem_of_getElem? (i := 238) rfl)) rfl
theorem wcode_X9_step : Cond.code yX9_step cX9_step 1 none ∈ gw := gw_in (tin2 (List.mem_of_getElem? (i := 235) rfl)) rfl
theorem wfl_X9_27 : Cond.fieldLink RX9 27 "SplitProgram$Tape" "stop" "I" ∈ gw := gw_in (tin2 (List.mem_of_getElem? (i := 100) rfl)) rfl
theorem wfl_X9_37 : Cond.fieldLink RX9 37 "SplitProgram$Tape" "start" "I" ∈ gw := gw_in (tin2 (List.mem_of_getElem? (i := 99) rfl)) rfl
theorem wfl_X9_40 : Cond.fieldLink RX9 40 "SplitProgram$Tape" "kind" "I" ∈ gw := gw_in (tin2 (List.mem_of_getElem? (i := 101) rfl)) rfl
theorem wml_X9_43 : Cond.methodLink RX9 43 yX9_kindOf ∈ gw := gw_in (tin2 (List.mem_of_getElem? (i := 236) rfl)) rfl
theorem wstat_X9_kindOf : Cond.static yX9_kindOf ∈ gw := gw_in (tin2 (List.mem_of_getElem? (i := 237) rfl)) rfl
theorem wcode_J0_coder_7d493 : Cond.code yJ0_coder_7d493 cJ0_coder_7d493 1 (some .byte) ∈ gw := gw_in (tin3 (List.mem_of_getElem? (i := 15) rfl)) rfl
theorem wini_java_lang_String : Cond.initialized "java/lang/String" ∈ gw := gw_in (tin1 (List.mem_of_getElem? (i := 14) rfl)) rfl
theorem wfl_J0_38 : Cond.fieldLink RJ0 38 "java/lang/String" "COMPACT_STRINGS" "Z" ∈ gw := gw_in (tin3 (List.mem_of_getElem? (i := 16) rfl)) rfl
theorem wfl_J0_15 : Cond.fieldLink RJ0 15 "java/lang/String" "coder" "B" ∈ gw := gw_in (tin7 (List.mem_of_getElem? (i := 98) rfl)) rfl
theorem wcode_J0_length_8abf5 : Cond.code yJ0_length_8abf5 cJ0_length_8abf5 1 (some .int) ∈ gw := gw_in (tin3 (List.mem_of_getElem? (i := 11) rfl)) rfl
theorem wfl_J0_9 : Cond.fieldLink RJ0 9 "java/lang/String" "value" "[B" ∈ gw := gw_in (tin7 (List.mem_of_getElem? (i := 97) rfl)) rfl
theorem wml_J0_335 : Cond.methodLink RJ0 335 yJ0_coder_7d493 ∈ gw := gw_in (tin3 (List.mem_of_getElem? (i := 12) rfl)) rfl
theorem winst_J0_coder_7d493 : Cond.instanceMethod yJ0_coder_7d493 ∈ gw := gw_in (tin3 (List.mem_of_getElem? (i := 13) rfl)) rfl
theorem wsel_J0_coder_7d493 : Cond.selects RJ0 yJ0_coder_7d493 yJ0_coder_7d493 ∈ gw := gw_in (tin3 (List.mem_of_getElem? (i := 14) rfl)) rfl
theorem wcode_J0_isLatin1_aae02 : Cond.code yJ0_isLatin1_aae02 cJ0_isLatin1_aae02 1 (some .boolean) ∈ gw := gw_in (tin3 (List.mem_of_getElem? (i := 25) rfl)) rfl
theorem wcode_J3_checkIndex_8e157 : Cond.code yJ3_checkIndex_8e157 cJ3_checkIndex_8e157 3 (some .int) ∈ gw := gw_in (tin3 (List.mem_of_getElem? (i := 36) rfl)) rfl
theorem wini_jdk_internal_util_Preconditions : Cond.initialized "jdk/internal/util/Preconditions" ∈ gw := gw_in (tin1 (List.mem_of_getElem? (i := 16) rfl)) rfl
theorem wcode_J0_checkIndex_df160 : Cond.code yJ0_checkIndex_df160 cJ0_checkIndex_df160 2 none ∈ gw := gw_in (tin3 (List.mem_of_getElem? (i := 31) rfl)) rfl
theorem wfl_J0_1053 : Cond.fieldLink RJ0 1053 "jdk/internal/util/Preconditions" "SIOOBE_FORMATTER" "Ljava/util/function/BiFunction;" ∈ gw := gw_in (tin3 (List.mem_of_getElem? (i := 32) rfl)) rfl
theorem wml_J0_1059 : Cond.methodLink RJ0 1059 yJ3_checkIndex_8e157 ∈ gw := gw_in (tin3 (List.mem_of_getElem? (i := 34) rfl)) rfl
theorem wstat_J3_checkIndex_8e157 : Cond.static yJ3_checkIndex_8e157 ∈ gw := gw_in (tin3 (List.mem_of_getElem? (i := 35) rfl)) rfl
theorem wcode_J1_charAt_3b067 : Cond.code yJ1_charAt_3b067 cJ1_charAt_3b067 2 (some .char) ∈ gw := gw_in (tin3 (List.mem_of_getElem? (i := 28) rfl)) rfl
theorem wini_java_lang_StringLatin1 : Cond.initialized "java/lang/StringLatin1" ∈ gw := gw_in (tin1 (List.mem_of_getElem? (i := 15) rfl)) rfl
theorem wml_J1_9 : Cond.methodLink RJ1 9 yJ0_checkIndex_df160 ∈ gw := gw_in (tin3 (List.mem_of_getElem? (i := 29) rfl)) rfl
theorem wstat_J0_checkIndex_df160 : Cond.static yJ0_checkIndex_df160 ∈ gw := gw_in (tin3 (List.mem_of_getElem? (i := 30) rfl)) rfl
theorem wcode_J0_charAt_5068e : Cond.code yJ0_charAt_5068e cJ0_charAt_5068e 2 (some .char) ∈ gw := gw_in (tin3 (List.mem_of_getElem? (i := 21) rfl)) rfl
theorem wml_J0_492 : Cond.methodLink RJ0 492 yJ0_isLatin1_aae02 ∈ gw := gw_in (tin3 (List.mem_of_getElem? (i := 22) rfl)) rfl
theorem winst_J0_isLatin1_aae02 : Cond.instanceMethod yJ0_isLatin1_aae02 ∈ gw := gw_in (tin3 (List.mem_of_getElem? (i := 23) rfl)) rfl
theorem wsel_J0_isLatin1_aae02 : Cond.selects RJ0 yJ0_isLatin1_aae02 yJ0_isLatin1_aae02 ∈ gw := gw_in (tin3 (List.mem_of_getElem? (i := 24) rfl)) rfl
theorem wml_J0_495 : Cond.methodLink RJ0 495 yJ1_charAt_3b067 ∈ gw := gw_in (tin3 (List.mem_of_getElem? (i := 26) rfl)) rfl
theorem wstat_J1_charAt_3b067 : Cond.static yJ1_charAt_3b067 ∈ gw := gw_in (tin3 (List.mem_of_getElem? (i := 27) rfl)) rfl
theorem wcode_X9_isWord : Cond.code yX9_isWord cX9_isWord 3 (some .boolean) ∈ gw := gw_in (tin3 (List.mem_of_getElem? (i := 7) rfl)) rfl
theorem wml_X9_47 : Cond.methodLink RX9 47 yJ0_length_8abf5 ∈ gw := gw_in (tin3 (List.mem_of_getElem? (i := 8) rfl)) rfl
theorem winst_J0_length_8abf5 : Cond.instanceMethod yJ0_length_8abf5 ∈ gw := gw_in (tin3 (List.mem_of_getElem? (i := 9) rfl)) rfl
theorem wsel_J0_length_8abf5 : Cond.selects RJ0 yJ0_length_8abf5 yJ0_length_8abf5 ∈ gw := gw_in (tin3 (List.mem_of_getElem? (i := 10) rfl)) rfl
theorem wml_X9_52 : Cond.methodLink RX9 52 yJ0_charAt_5068e ∈ gw := gw_in (tin3 (List.mem_of_getElem? (i := 18) rfl)) rfl
theorem winst_J0_charAt_5068e : Cond.instanceMethod yJ0_charAt_5068e ∈ gw := gw_in (tin3 (List.mem_of_getElem? (i := 19) rfl)) rfl
theorem wsel_J0_charAt_5068e : Cond.selects RJ0 yJ0_charAt_5068e yJ0_charAt_5068e ∈ gw := gw_in (tin3 (List.mem_of_getElem? (i := 20) rfl)) rfl
theorem wcode_X9_peekNumber : Cond.code yX9_peekNumber cX9_peekNumber 5 (some .int) ∈ gw := gw_in (tin3 (List.mem_of_getElem? (i := 67) rfl)) rfl
theorem wcon_X9_56 : Cond.constant RX9 56 (1000000) ∈ gw := gw_in (tin3 (List.mem_of_getElem? (i := 68) rfl)) rfl
theorem wml_X9_57 : Cond.methodLink RX9 57 yJ9_min_7cf53 ∈ gw := gw_in (tin3 (List.mem_of_getElem? (i := 69) rfl)) rfl
theorem wstat_J9_min_7cf53 : Cond.static yJ9_min_7cf53 ∈ gw := gw_in (tin3 (List.mem_of_getElem? (i := 70) rfl)) rfl
theorem wini_java_lang_Math : Cond.initialized "java/lang/Math" ∈ gw := gw_in (tin1 (List.mem_of_getElem? (i := 18) rfl)) rfl
theorem wcode_J9_min_7cf53 : Cond.code yJ9_min_7cf53 cJ9_min_7cf53 2 (some .int) ∈ gw := gw_in (tin3 (List.mem_of_getElem? (i := 71) rfl)) rfl
theorem wcode_X9_takeNumber : Cond.code yX9_takeNumber cX9_takeNumber 4 (some .int) ∈ gw := gw_in (tin3 (List.mem_of_getElem? (i := 63) rfl)) rfl
theorem wml_X9_63 : Cond.methodLink RX9 63 yX9_peekNumber ∈ gw := gw_in (tin3 (List.mem_of_getElem? (i := 64) rfl)) rfl
theorem winst_X9_peekNumber : Cond.instanceMethod yX9_peekNumber ∈ gw := gw_in (tin3 (List.mem_of_getElem? (i := 66) rfl)) rfl
theorem wsel_X9_peekNumber : Cond.selects RX9 yX9_peekNumber yX9_peekNumber ∈ gw := gw_sel (y := yX9_peekNumber) (n := 6) 7 rfl
theorem wml_X9_30 : Cond.methodLink RX9 30 yX9_step ∈ gw := gw_in (tin2 (List.mem_of_getElem? (i := 232) rfl)) rfl
theorem winst_X9_step : Cond.instanceMethod yX9_step ∈ gw := gw_in (tin2 (List.mem_of_getElem? (i := 234) rfl)) rfl
theorem wsel_X9_step : Cond.selects RX9 yX9_step yX9_step ∈ gw := gw_sel (y := yX9_step) (n := 6) 2 rfl
theorem wcode_X6_addPlant : Cond.code yX6_addPlant cX6_addPlant 4 none ∈ gw := gw_in (tin3 (List.mem_of_getElem? (i := 75) rfl)) rfl
theorem wcode_X9_takePlant : Cond.code yX9_takePlant cX9_takePlant 5 (some .boolean) ∈ gw := gw_in (tin3 (List.mem_of_getElem? (i := 59) rfl)) rfl
theorem wfl_X9_90 : Cond.fieldLink RX9 90 "SplitProgram$Program" "plants" "I" ∈ gw := gw_in (tin1 (List.mem_of_getElem? (i := 50) rfl)) rfl
theorem wml_X9_93 : Cond.methodLink RX9 93 yX9_takeNumber ∈ gw := gw_in (tin3 (List.mem_of_getElem? (i := 60) rfl)) rfl
theorem winst_X9_takeNumber : Cond.instanceMethod yX9_takeNumber ∈ gw := gw_in (tin3 (List.mem_of_getElem? (i := 62) rfl)) rfl
theorem wsel_X9_takeNumber : Cond.selects RX9 yX9_takeNumber yX9_takeNumber ∈ gw := gw_sel (y := yX9_takeNumber) (n := 6) 6 rfl
theorem wml_X9_96 : Cond.methodLink RX9 96 yX6_addPlant ∈ gw := gw_in (tin3 (List.mem_of_getElem? (i := 72) rfl)) rfl
theorem winst_X6_addPlant : Cond.instanceMethod yX6_addPlant ∈ gw := gw_in (tin3 (List.mem_of_getElem? (i := 73) rfl)) rfl
theorem wsel_X6_addPlant : Cond.selects RX6 yX6_addPlant yX6_addPlant ∈ gw := gw_in (tin3 (List.mem_of_getElem? (i := 74) rfl)) rfl
theorem wcode_X9_takeSite : Cond.code yX9_takeSite cX9_takeSite 2 (some .boolean) ∈ gw := gw_in (tin3 (List.mem_of_getElem? (i := 80) rfl)) rfl
theorem wfl_X9_100 : Cond.fieldLink RX9 100 "SplitProgram$Program" "sites" "I" ∈ gw := gw_in (tin1 (List.mem_of_getElem? (i := 55) rfl)) rfl
theorem wcode_X9_takeRoad : Cond.code yX9_takeRoad cX9_takeRoad 5 (some .boolean) ∈ gw := gw_in (tin3 (List.mem_of_getElem? (i := 85) rfl)) rfl
theorem wfl_X9_103 : Cond.fieldLink RX9 103 "SplitProgram$Program" "tolls" "[I" ∈ gw := gw_in (tin1 (List.mem_of_getElem? (i := 72) rfl)) rfl
theorem wcode_X6_addCase : Cond.code yX6_addCase cX6_addCase 2 none ∈ gw := gw_in (tin3 (List.mem_of_getElem? (i := 94) rfl)) rfl
theorem wcode_X9_takeCase : Cond.code yX9_takeCase cX9_takeCase 5 (some .boolean) ∈ gw := gw_in (tin3 (List.mem_of_getElem? (i := 90) rfl)) rfl
theorem wfl_X9_107 : Cond.fieldLink RX9 107 "SplitProgram$Program" "cases" "I" ∈ gw := gw_in (tin1 (List.mem_of_getElem? (i := 61) rfl)) rfl
theorem wml_X9_110 : Cond.methodLink RX9 110 yX6_addCase ∈ gw := gw_in (tin3 (List.mem_of_getElem? (i := 91) rfl)) rfl
theorem winst_X6_addCase : Cond.instanceMethod yX6_addCase ∈ gw := gw_in (tin3 (List.mem_of_getElem? (i := 92) rfl)) rfl
theorem wsel_X6_addCase : Cond.selects RX6 yX6_addCase yX6_addCase ∈ gw := gw_in (tin3 (List.mem_of_getElem? (i := 93) rfl)) rfl
theorem wfl_X9_114 : Cond.fieldLink RX9 114 "SplitProgram$Program" "needs" "[I" ∈ gw := gw_in (tin1 (List.mem_of_getElem? (i := 82) rfl)) rfl
theorem wcode_X9_takeLine : Cond.code yX9_takeLine cX9_takeLine 2 (some .boolean) ∈ gw := gw_in (tin3 (List.mem_of_getElem? (i := 2) rfl)) rfl
theorem wml_X9_68 : Cond.methodLink RX9 68 yX9_isWord ∈ gw := gw_in (tin3 (List.mem_of_getElem? (i := 4) rfl)) rfl
theorem winst_X9_isWord : Cond.instanceMethod yX9_isWord ∈ gw := gw_in (tin3 (List.mem_of_getElem? (i := 6) rfl)) rfl
theorem wsel_X9_isWord : Cond.selects RX9 yX9_isWord yX9_isWord ∈ gw := gw_sel (y := yX9_isWord) (n := 6) 4 rfl
theorem wml_X9_87 : Cond.methodLink RX9 87 yX9_takeCase ∈ gw := gw_in (tin3 (List.mem_of_getElem? (i := 87) rfl)) rfl
theorem winst_X9_takeCase : Cond.instanceMethod yX9_takeCase ∈ gw := gw_in (tin3 (List.mem_of_getElem? (i := 89) rfl)) rfl
theorem wsel_X9_takeCase : Cond.selects RX9 yX9_takeCase yX9_takeCase ∈ gw := gw_sel (y := yX9_takeCase) (n := 6) 10 rfl
theorem wml_X9_82 : Cond.methodLink RX9 82 yX9_takeRoad ∈ gw := gw_in (tin3 (List.mem_of_getElem? (i := 82) rfl)) rfl
theorem winst_X9_takeRoad : Cond.instanceMethod yX9_takeRoad ∈ gw := gw_in (tin3 (List.mem_of_getElem? (i := 84) rfl)) rfl
theorem wsel_X9_takeRoad : Cond.selects RX9 yX9_takeRoad yX9_takeRoad ∈ gw := gw_sel (y := yX9_takeRoad) (n := 6) 9 rfl
theorem wml_X9_77 : Cond.methodLink RX9 77 yX9_takeSite ∈ gw := gw_in (tin3 (List.mem_of_getElem? (i := 77) rfl)) rfl
theorem winst_X9_takeSite : Cond.instanceMethod yX9_takeSite ∈ gw := gw_in (tin3 (List.mem_of_getElem? (i := 79) rfl)) rfl
theorem wsel_X9_takeSite : Cond.selects RX9 yX9_takeSite yX9_takeSite ∈ gw := gw_sel (y := yX9_takeSite) (n := 6) 8 rfl
theorem wml_X9_72 : Cond.methodLink RX9 72 yX9_takePlant ∈ gw := gw_in (tin3 (List.mem_of_getElem? (i := 56) rfl)) rfl
theorem winst_X9_takePlant : Cond.instanceMethod yX9_takePlant ∈ gw := gw_in (tin3 (List.mem_of_getElem? (i := 58) rfl)) rfl
theorem wsel_X9_takePlant : Cond.selects RX9 yX9_takePlant yX9_takePlant ∈ gw := gw_sel (y := yX9_takePlant) (n := 6) 5 rfl
theorem wcode_X9_parse : Cond.code yX9_parse cX9_parse 4 (some .int) ∈ gw := gw_in (tin2 (List.mem_of_getElem? (i := 227) rfl)) rfl
theorem wml_X9_22 : Cond.methodLink RX9 22 yX6_wipe ∈ gw := gw_in (tin2 (List.mem_of_getElem? (i := 228) rfl)) rfl
theorem winst_X6_wipe : Cond.instanceMethod yX6_wipe ∈ gw := gw_in (tin2 (List.mem_of_getElem? (i := 229) rfl)) rfl
theorem wsel_X6_wipe : Cond.selects RX6 yX6_wipe yX6_wipe ∈ gw := gw_in (tin2 (List.mem_of_getElem? (i := 230) rfl)) rfl
theorem wfl_X9_15 : Cond.fieldLink RX9 15 "SplitProgram$Tape" "fault" "I" ∈ gw := gw_in (tin2 (List.mem_of_getElem? (i := 97) rfl)) rfl
theorem wml_X9_33 : Cond.methodLink RX9 33 yX9_takeLine ∈ gw := gw_in (tin2 (List.mem_of_getElem? (i := 239) rfl)) rfl
theorem winst_X9_takeLine : Cond.instanceMethod yX9_takeLine ∈ gw := gw_in (tin3 (List.mem_of_getElem? (i := 1) rfl)) rfl
theorem wsel_X9_takeLine : Cond.selects RX9 yX9_takeLine yX9_takeLine ∈ gw := gw_sel (y := yX9_takeLine) (n := 6) 3 rfl
theorem wcode_X6_copyFrom : Cond.code yX6_copyFrom cX6_copyFrom 2 none ∈ gw := gw_in (tin3 (List.mem_of_getElem? (i := 106) rfl)) rfl
theorem wml_X6_46 : Cond.methodLink RX6 46 arraycopyName ∈ gw := gw_in (tin3 (List.mem_of_getElem? (i := 107) rfl)) rfl
theorem wnat_java_lang_System_arraycopy : Cond.native arraycopyName ∈ gw := gw_in (tin3 (List.mem_of_getElem? (i := 109) rfl)) rfl
theorem wstat_java_lang_System_arraycopy : Cond.static arraycopyName ∈ gw := gw_in (tin3 (List.mem_of_getElem? (i := 108) rfl)) rfl
theorem wini_java_lang_System : Cond.initialized "java/lang/System" ∈ gw := gw_in (tin1 (List.mem_of_getElem? (i := 19) rfl)) rfl
theorem wcode_X2_copyFrom : Cond.code yX2_copyFrom cX2_copyFrom 2 none ∈ gw := gw_in (tin3 (List.mem_of_getElem? (i := 113) rfl)) rfl
theorem wini_SplitProgram_Cuts : Cond.initialized "SplitProgram$Cuts" ∈ gw := gw_in (tin1 (List.mem_of_getElem? (i := 5) rfl)) rfl
theorem win_2 : ∀ w ∈ u_ws RX2 TX2 7, w ∈ gw := (List.forall_mem_cons.mpr ⟨gw_in (tin1 (List.mem_of_getElem? (i := 129) rfl)) rfl, (List.forall_mem_cons.mpr ⟨gw_in (tin1 (List.mem_of_getElem? (i := 131) rfl)) rfl, (List.forall_mem_cons.mpr ⟨gw_in (tin1 (List.mem_of_getElem? (i := 133) rfl)) rfl, (List.forall_mem_cons.mpr ⟨gw_in (tin1 (List.mem_of_getElem? (i := 135) rfl)) rfl, (List.forall_mem_cons.mpr ⟨gw_in (tin1 (List.mem_of_getElem? (i := 137) rfl)) rfl, (List.forall_mem_cons.mpr ⟨gw_in (tin1 (List.mem_of_getElem? (i := 139) rfl)) rfl, (List.forall_mem_cons.mpr ⟨gw_in (tin1 (List.mem_of_getElem? (i := 141) rfl)) rfl, (fun _ h => by cases h)⟩)⟩)⟩)⟩)⟩)⟩)⟩)
theorem wfl_X2_31 : Cond.fieldLink RX2 31 "SplitProgram$Cuts" "size" "I" ∈ gw := gw_in (tin1 (List.mem_of_getElem? (i := 110) rfl)) rfl
theorem wfl_X2_9 : Cond.fieldLink RX2 9 "SplitProgram$Cuts" "most" "I" ∈ gw := gw_in (tin1 (List.mem_of_getElem? (i := 109) rfl)) rfl
theorem wml_X2_34 : Cond.methodLink RX2 34 yJ9_min_7cf53 ∈ gw := gw_in (tin3 (List.mem_of_getElem? (i := 114) rfl)) rfl
theorem wfl_X2_15 : Cond.fieldLink RX2 15 "SplitProgram$Cuts" "cases" "[I" ∈ gw := gw_in (tin1 (List.mem_of_getElem? (i := 114) rfl)) rfl
theorem wml_X2_40 : Cond.methodLink RX2 40 arraycopyName ∈ gw := gw_in (tin3 (List.mem_of_getElem? (i := 115) rfl)) rfl
theorem wfl_X2_19 : Cond.fieldLink RX2 19 "SplitProgram$Cuts" "rays" "[I" ∈ gw := gw_in (tin1 (List.mem_of_getElem? (i := 118) rfl)) rfl
theorem wfl_X2_22 : Cond.fieldLink RX2 22 "SplitProgram$Cuts" "ages" "[I" ∈ gw := gw_in (tin1 (List.mem_of_getElem? (i := 122) rfl)) rfl
theorem wfl_X2_25 : Cond.fieldLink RX2 25 "SplitProgram$Cuts" "u" "[I" ∈ gw := gw_in (tin1 (List.mem_of_getElem? (i := 125) rfl)) rfl
theorem wfl_X2_28 : Cond.fieldLink RX2 28 "SplitProgram$Cuts" "v" "[I" ∈ gw := gw_in (tin1 (List.mem_of_getElem? (i := 127) rfl)) rfl
theorem wcode_X7_copyFrom : Cond.code yX7_copyFrom cX7_copyFrom 2 none ∈ gw := gw_in (tin3 (List.mem_of_getElem? (i := 119) rfl)) rfl
theorem wini_SplitProgram_Search : Cond.initialized "SplitProgram$Search" ∈ gw := gw_in (tin1 (List.mem_of_getElem? (i := 6) rfl)) rfl
theorem win_7 : ∀ w ∈ u_ws RX7 TX7 7, w ∈ gw := (List.forall_mem_cons.mpr ⟨gw_in (tin1 (List.mem_of_getElem? (i := 171) rfl)) rfl, (List.forall_mem_cons.mpr ⟨gw_in (tin1 (List.mem_of_getElem? (i := 173) rfl)) rfl, (List.forall_mem_cons.mpr ⟨gw_in (tin1 (List.mem_of_getElem? (i := 175) rfl)) rfl, (List.forall_mem_cons.mpr ⟨gw_in (tin1 (List.mem_of_getElem? (i := 177) rfl)) rfl, (List.forall_mem_cons.mpr ⟨gw_in (tin1 (List.mem_of_getElem? (i := 179) rfl)) rfl, (List.forall_mem_cons.mpr ⟨gw_in (tin1 (List.mem_of_getElem? (i := 181) rfl)) rfl, (List.forall_mem_cons.mpr ⟨gw_in (tin1 (List.mem_of_getElem? (i := 183) rfl)) rfl, (fun _ h => by cases h)⟩)⟩)⟩)⟩)⟩)⟩)⟩)
theorem wfl_X7_24 : Cond.fieldLink RX7 24 "SplitProgram$Search" "over" "I" ∈ gw := gw_in (tin1 (List.mem_of_getElem? (i := 150) rfl)) rfl
theorem wfl_X7_9 : Cond.fieldLink RX7 9 "SplitProgram$Search" "lower" "I" ∈ gw := gw_in (tin1 (List.mem_of_getElem? (i := 153) rfl)) rfl
theorem wfl_X7_15 : Cond.fieldLink RX7 15 "SplitProgram$Search" "upper" "I" ∈ gw := gw_in (tin1 (List.mem_of_getElem? (i := 156) rfl)) rfl
theorem wfl_X7_18 : Cond.fieldLink RX7 18 "SplitProgram$Search" "best" "I" ∈ gw := gw_in (tin1 (List.mem_of_getElem? (i := 159) rfl)) rfl
theorem wfl_X7_21 : Cond.fieldLink RX7 21 "SplitProgram$Search" "master" "I" ∈ gw := gw_in (tin1 (List.mem_of_getElem? (i := 162) rfl)) rfl
theorem wfl_X7_27 : Cond.fieldLink RX7 27 "SplitProgram$Search" "rounds" "I" ∈ gw := gw_in (tin1 (List.mem_of_getElem? (i := 165) rfl)) rfl
theorem wfl_X7_30 : Cond.fieldLink RX7 30 "SplitProgram$Search" "gone" "I" ∈ gw := gw_in (tin1 (List.mem_of_getElem? (i := 168) rfl)) rfl
theorem wcode_X8_copyFrom : Cond.code yX8_copyFrom cX8_copyFrom 2 none ∈ gw := gw_in (tin3 (List.mem_of_getElem? (i := 102) rfl)) rfl
theorem wini_SplitProgram_State : Cond.initialized "SplitProgram$State" ∈ gw := gw_in (tin1 (List.mem_of_getElem? (i := 2) rfl)) rfl
theorem win_8 : ∀ w ∈ u_ws RX8 TX8 3, w ∈ gw := (List.forall_mem_cons.mpr ⟨gw_in (tin1 (List.mem_of_getElem? (i := 192) rfl)) rfl, (List.forall_mem_cons.mpr ⟨gw_in (tin1 (List.mem_of_getElem? (i := 194) rfl)) rfl, (List.forall_mem_cons.mpr ⟨gw_in (tin1 (List.mem_of_getElem? (i := 196) rfl)) rfl, (fun _ h => by cases h)⟩)⟩)⟩)
theorem wfl_X8_12 : Cond.fieldLink RX8 12 "SplitProgram$State" "program" "LSplitProgram$Program;" ∈ gw := gw_in (tin1 (List.mem_of_getElem? (i := 186) rfl)) rfl
theorem wml_X8_34 : Cond.methodLink RX8 34 yX6_copyFrom ∈ gw := gw_in (tin3 (List.mem_of_getElem? (i := 103) rfl)) rfl
theorem winst_X6_copyFrom : Cond.instanceMethod yX6_copyFrom ∈ gw := gw_in (tin3 (List.mem_of_getElem? (i := 104) rfl)) rfl
theorem wsel_X6_copyFrom : Cond.selects RX6 yX6_copyFrom yX6_copyFrom ∈ gw := gw_in (tin3 (List.mem_of_getElem? (i := 105) rfl)) rfl
theorem wfl_X8_23 : Cond.fieldLink RX8 23 "SplitProgram$State" "cuts" "LSplitProgram$Cuts;" ∈ gw := gw_in (tin1 (List.mem_of_getElem? (i := 188) rfl)) rfl
theorem wml_X8_38 : Cond.methodLink RX8 38 yX2_copyFrom ∈ gw := gw_in (tin3 (List.mem_of_getElem? (i := 110) rfl)) rfl
theorem winst_X2_copyFrom : Cond.instanceMethod yX2_copyFrom ∈ gw := gw_in (tin3 (List.mem_of_getElem? (i := 111) rfl)) rfl
theorem wsel_X2_copyFrom : Cond.selects RX2 yX2_copyFrom yX2_copyFrom ∈ gw := gw_in (tin3 (List.mem_of_getElem? (i := 112) rfl)) rfl
theorem wfl_X8_30 : Cond.fieldLink RX8 30 "SplitProgram$State" "search" "LSplitProgram$Search;" ∈ gw := gw_in (tin1 (List.mem_of_getElem? (i := 190) rfl)) rfl
theorem wml_X8_41 : Cond.methodLink RX8 41 yX7_copyFrom ∈ gw := gw_in (tin3 (List.mem_of_getElem? (i := 116) rfl)) rfl
theorem winst_X7_copyFrom : Cond.instanceMethod yX7_copyFrom ∈ gw := gw_in (tin3 (List.mem_of_getElem? (i := 117) rfl)) rfl
theorem wsel_X7_copyFrom : Cond.selects RX7 yX7_copyFrom yX7_copyFrom ∈ gw := gw_in (tin3 (List.mem_of_getElem? (i := 118) rfl)) rfl
theorem wcode_X5_keep : Cond.code yX5_keep cX5_keep 3 none ∈ gw := gw_in (tin3 (List.mem_of_getElem? (i := 98) rfl)) rfl
theorem wini_SplitProgram_History : Cond.initialized "SplitProgram$History" ∈ gw := gw_in (tin1 (List.mem_of_getElem? (i := 12) rfl)) rfl
theorem win_5 : ∀ w ∈ u_ws RX5 TX5 4, w ∈ gw := (List.forall_mem_cons.mpr ⟨gw_in (tin2 (List.mem_of_getElem? (i := 132) rfl)) rfl, (List.forall_mem_cons.mpr ⟨gw_in (tin2 (List.mem_of_getElem? (i := 134) rfl)) rfl, (List.forall_mem_cons.mpr ⟨gw_in (tin2 (List.mem_of_getElem? (i := 136) rfl)) rfl, (List.forall_mem_cons.mpr ⟨gw_in (tin2 (List.mem_of_getElem? (i := 138) rfl)) rfl, (fun _ h => by cases h)⟩)⟩)⟩)⟩)
theorem wfl_X5_11 : Cond.fieldLink RX5 11 "SplitProgram$History" "states" "[LSplitProgram$State;" ∈ gw := gw_in (tin2 (List.mem_of_getElem? (i := 127) rfl)) rfl
theorem wfl_X5_22 : Cond.fieldLink RX5 22 "SplitProgram$History" "next" "I" ∈ gw := gw_in (tin2 (List.mem_of_getElem? (i := 131) rfl)) rfl
theorem wml_X5_26 : Cond.methodLink RX5 26 yX8_copyFrom ∈ gw := gw_in (tin3 (List.mem_of_getElem? (i := 99) rfl)) rfl
theorem winst_X8_copyFrom : Cond.instanceMethod yX8_copyFrom ∈ gw := gw_in (tin3 (List.mem_of_getElem? (i := 100) rfl)) rfl
theorem wsel_X8_copyFrom : Cond.selects RX8 yX8_copyFrom yX8_copyFrom ∈ gw := gw_in (tin3 (List.mem_of_getElem? (i := 101) rfl)) rfl
theorem wfl_X5_17 : Cond.fieldLink RX5 17 "SplitProgram$History" "acts" "[I" ∈ gw := gw_in (tin2 (List.mem_of_getElem? (i := 128) rfl)) rfl
theorem wfl_X5_30 : Cond.fieldLink RX5 30 "SplitProgram$History" "size" "I" ∈ gw := gw_in (tin2 (List.mem_of_getElem? (i := 129) rfl)) rfl
theorem wml_X5_33 : Cond.methodLink RX5 33 yJ9_min_7cf53 ∈ gw := gw_in (tin3 (List.mem_of_getElem? (i := 120) rfl)) rfl
theorem wcode_X0_forgetAll : Cond.code yX0_forgetAll cX0_forgetAll 2 none ∈ gw := gw_in (tin3 (List.mem_of_getElem? (i := 125) rfl)) rfl
theorem wini_SplitProgram_Book : Cond.initialized "SplitProgram$Book" ∈ gw := gw_in (tin1 (List.mem_of_getElem? (i := 8) rfl)) rfl
theorem win_0 : ∀ w ∈ u_ws RX0 TX0 2, w ∈ gw := (List.forall_mem_cons.mpr ⟨gw_in (tin2 (List.mem_of_getElem? (i := 25) rfl)) rfl, (List.forall_mem_cons.mpr ⟨gw_in (tin2 (List.mem_of_getElem? (i := 27) rfl)) rfl, (fun _ h => by cases h)⟩)⟩)
theorem wfl_X0_18 : Cond.fieldLink RX0 18 "SplitProgram$Book" "prices" "[I" ∈ gw := gw_in (tin2 (List.mem_of_getElem? (i := 24) rfl)) rfl
theorem wml_X0_22 : Cond.methodLink RX0 22 yJ7_fill_53178 ∈ gw := gw_in (tin2 (List.mem_of_getElem? (i := 20) rfl)) rfl
theorem wfl_X0_12 : Cond.fieldLink RX0 12 "SplitProgram$Book" "freight" "LSplitProgram$Freight;" ∈ gw := gw_in (tin2 (List.mem_of_getElem? (i := 21) rfl)) rfl
theorem win_4 : ∀ w ∈ u_ws RX4 TX4 12, w ∈ gw := (List.forall_mem_cons.mpr ⟨gw_in (tin1 (List.mem_of_getElem? (i := 234) rfl)) rfl, (List.forall_mem_cons.mpr ⟨gw_in (tin1 (List.mem_of_getElem? (i := 236) rfl)) rfl, (List.forall_mem_cons.mpr ⟨gw_in (tin1 (List.mem_of_getElem? (i := 238) rfl)) rfl, (List.forall_mem_cons.mpr ⟨gw_in (tin2 (List.mem_of_getElem? (i := 0) rfl)) rfl, (List.forall_mem_cons.mpr ⟨gw_in (tin2 (List.mem_of_getElem? (i := 2) rfl)) rfl, (List.forall_mem_cons.mpr ⟨gw_in (tin2 (List.mem_of_getElem? (i := 4) rfl)) rfl, (List.forall_mem_cons.mpr ⟨gw_in (tin2 (List.mem_of_getElem? (i := 6) rfl)) rfl, (List.forall_mem_cons.mpr ⟨gw_in (tin2 (List.mem_of_getElem? (i := 8) rfl)) rfl, (List.forall_mem_cons.mpr ⟨gw_in (tin2 (List.mem_of_getElem? (i := 10) rfl)) rfl, (List.forall_mem_cons.mpr ⟨gw_in (tin2 (List.mem_of_getElem? (i := 12) rfl)) rfl, (List.forall_mem_cons.mpr ⟨gw_in (tin2 (List.mem_of_getElem? (i := 14) rfl)) rfl, (List.forall_mem_cons.mpr ⟨gw_in (tin2 (List.mem_of_getElem? (i := 16) rfl)) rfl, (fun _ h => by cases h)⟩)⟩)⟩)⟩)⟩)⟩)⟩)⟩)⟩)⟩)⟩)⟩)
theorem wfl_X0_28 : Cond.fieldLink RX0 28 "SplitProgram$Freight" "loadsKnown" "[Z" ∈ gw := gw_in (tin1 (List.mem_of_getElem? (i := 221) rfl)) rfl
theorem wcode_X7_reset : Cond.code yX7_reset cX7_reset 1 none ∈ gw := gw_in (tin3 (List.mem_of_getElem? (i := 133) rfl)) rfl
theorem wcode_X2_holds : Cond.code yX2_holds cX2_holds 7 (some .boolean) ∈ gw := gw_in (tin3 (List.mem_of_getElem? (i := 141) rfl)) rfl
theorem wfl_X2_54 : Cond.fieldLink RX2 54 "SplitProgram$Program" "plants" "I" ∈ gw := gw_in (tin1 (List.mem_of_getElem? (i := 47) rfl)) rfl
theorem wfl_X2_59 : Cond.fieldLink RX2 59 "SplitProgram$Program" "sites" "I" ∈ gw := gw_in (tin1 (List.mem_of_getElem? (i := 53) rfl)) rfl
theorem wfl_X2_62 : Cond.fieldLink RX2 62 "SplitProgram$Program" "tolls" "[I" ∈ gw := gw_in (tin1 (List.mem_of_getElem? (i := 70) rfl)) rfl
theorem wcode_X2_move : Cond.code yX2_move cX2_move 3 none ∈ gw := gw_in (tin3 (List.mem_of_getElem? (i := 145) rfl)) rfl
theorem wcode_X2_keepHolding : Cond.code yX2_keepHolding cX2_keepHolding 4 none ∈ gw := gw_in (tin3 (List.mem_of_getElem? (i := 137) rfl)) rfl
theorem wml_X2_46 : Cond.methodLink RX2 46 yX2_holds ∈ gw := gw_in (tin3 (List.mem_of_getElem? (i := 138) rfl)) rfl
theorem winst_X2_holds : Cond.instanceMethod yX2_holds ∈ gw := gw_in (tin3 (List.mem_of_getElem? (i := 140) rfl)) rfl
theorem wsel_X2_holds : Cond.selects RX2 yX2_holds yX2_holds ∈ gw := gw_sel (y := yX2_holds) (n := 7) 12 rfl
theorem wml_X2_50 : Cond.methodLink RX2 50 yX2_move ∈ gw := gw_in (tin3 (List.mem_of_getElem? (i := 142) rfl)) rfl
theorem winst_X2_move : Cond.instanceMethod yX2_move ∈ gw := gw_in (tin3 (List.mem_of_getElem? (i := 144) rfl)) rfl
theorem wsel_X2_move : Cond.selects RX2 yX2_move yX2_move ∈ gw := gw_sel (y := yX2_move) (n := 7) 13 rfl
theorem wcode_X10_afterChange : Cond.code yX10_afterChange cX10_afterChange 1 none ∈ gw := gw_in (tin3 (List.mem_of_getElem? (i := 129) rfl)) rfl
theorem wfl_X10_10 : Cond.fieldLink RX10 10 "SplitProgram" "state" "LSplitProgram$State;" ∈ gw := gw_in (tin2 (List.mem_of_getElem? (i := 145) rfl)) rfl
theorem wfl_X10_187 : Cond.fieldLink RX10 187 "SplitProgram$State" "search" "LSplitProgram$Search;" ∈ gw := gw_in (tin1 (List.mem_of_getElem? (i := 191) rfl)) rfl
theorem wml_X10_205 : Cond.methodLink RX10 205 yX7_reset ∈ gw := gw_in (tin3 (List.mem_of_getElem? (i := 130) rfl)) rfl
theorem winst_X7_reset : Cond.instanceMethod yX7_reset ∈ gw := gw_in (tin3 (List.mem_of_getElem? (i := 131) rfl)) rfl
theorem wsel_X7_reset : Cond.selects RX7 yX7_reset yX7_reset ∈ gw := gw_in (tin3 (List.mem_of_getElem? (i := 132) rfl)) rfl
theorem wfl_X10_120 : Cond.fieldLink RX10 120 "SplitProgram$State" "cuts" "LSplitProgram$Cuts;" ∈ gw := gw_in (tin1 (List.mem_of_getElem? (i := 189) rfl)) rfl
theorem wfl_X10_113 : Cond.fieldLink RX10 113 "SplitProgram$State" "program" "LSplitProgram$Program;" ∈ gw := gw_in (tin1 (List.mem_of_getElem? (i := 187) rfl)) rfl
theorem wml_X10_354 : Cond.methodLink RX10 354 yX2_keepHolding ∈ gw := gw_in (tin3 (List.mem_of_getElem? (i := 134) rfl)) rfl
theorem winst_X2_keepHolding : Cond.instanceMethod yX2_keepHolding ∈ gw := gw_in (tin3 (List.mem_of_getElem? (i := 135) rfl)) rfl
theorem wsel_X2_keepHolding : Cond.selects RX2 yX2_keepHolding yX2_keepHolding ∈ gw := gw_in (tin3 (List.mem_of_getElem? (i := 136) rfl)) rfl
theorem wfl_X10_23 : Cond.fieldLink RX10 23 "SplitProgram" "engine" "LSplitProgram$Engine;" ∈ gw := gw_in (tin2 (List.mem_of_getElem? (i := 147) rfl)) rfl
theorem win_3 : ∀ w ∈ u_ws RX3 TX3 12, w ∈ gw := (List.forall_mem_cons.mpr ⟨gw_in (tin2 (List.mem_of_getElem? (i := 63) rfl)) rfl, (List.forall_mem_cons.mpr ⟨gw_in (tin2 (List.mem_of_getElem? (i := 65) rfl)) rfl, (List.forall_mem_cons.mpr ⟨gw_in (tin2 (List.mem_of_getElem? (i := 67) rfl)) rfl, (List.forall_mem_cons.mpr ⟨gw_in (tin2 (List.mem_of_getElem? (i := 69) rfl)) rfl, (List.forall_mem_cons.mpr ⟨gw_in (tin2 (List.mem_of_getElem? (i := 71) rfl)) rfl, (List.forall_mem_cons.mpr ⟨gw_in (tin2 (List.mem_of_getElem? (i := 73) rfl)) rfl, (List.forall_mem_cons.mpr ⟨gw_in (tin2 (List.mem_of_getElem? (i := 75) rfl)) rfl, (List.forall_mem_cons.mpr ⟨gw_in (tin2 (List.mem_of_getElem? (i := 77) rfl)) rfl, (List.forall_mem_cons.mpr ⟨gw_in (tin2 (List.mem_of_getElem? (i := 79) rfl)) rfl, (List.forall_mem_cons.mpr ⟨gw_in (tin2 (List.mem_of_getElem? (i := 81) rfl)) rfl, (List.forall_mem_cons.mpr ⟨gw_in (tin2 (List.mem_of_getElem? (i := 83) rfl)) rfl, (List.forall_mem_cons.mpr ⟨gw_in (tin2 (List.mem_of_getElem? (i := 85) rfl)) rfl, (fun _ h => by cases h)⟩)⟩)⟩)⟩)⟩)⟩)⟩)⟩)⟩)⟩)⟩)⟩)
theorem wfl_X10_208 : Cond.fieldLink RX10 208 "SplitProgram$Engine" "bounds" "LSplitProgram$Bounds;" ∈ gw := gw_in (tin2 (List.mem_of_getElem? (i := 52) rfl)) rfl
theorem win_1 : ∀ w ∈ u_ws RX1 TX1 3, w ∈ gw := (List.forall_mem_cons.mpr ⟨gw_in (tin2 (List.mem_of_getElem? (i := 42) rfl)) rfl, (List.forall_mem_cons.mpr ⟨gw_in (tin2 (List.mem_of_getElem? (i := 44) rfl)) rfl, (List.forall_mem_cons.mpr ⟨gw_in (tin2 (List.mem_of_getElem? (i := 46) rfl)) rfl, (fun _ h => by cases h)⟩)⟩)⟩)
theorem wfl_X10_212 : Cond.fieldLink RX10 212 "SplitProgram$Bounds" "stale" "Z" ∈ gw := gw_in (tin2 (List.mem_of_getElem? (i := 38) rfl)) rfl
theorem wcode_X10_read : Cond.code yX10_read cX10_read 2 (some .int) ∈ gw := gw_in (tin2 (List.mem_of_getElem? (i := 223) rfl)) rfl
theorem wfl_X10_37 : Cond.fieldLink RX10 37 "SplitProgram" "draft" "LSplitProgram$Program;" ∈ gw := gw_in (tin2 (List.mem_of_getElem? (i := 149) rfl)) rfl
theorem wml_X10_105 : Cond.methodLink RX10 105 yX9_parse ∈ gw := gw_in (tin2 (List.mem_of_getElem? (i := 224) rfl)) rfl
theorem winst_X9_parse : Cond.instanceMethod yX9_parse ∈ gw := gw_in (tin2 (List.mem_of_getElem? (i := 225) rfl)) rfl
theorem wsel_X9_parse : Cond.selects RX9 yX9_parse yX9_parse ∈ gw := gw_in (tin2 (List.mem_of_getElem? (i := 226) rfl)) rfl
theorem wfl_X10_44 : Cond.fieldLink RX10 44 "SplitProgram" "history" "LSplitProgram$History;" ∈ gw := gw_in (tin2 (List.mem_of_getElem? (i := 150) rfl)) rfl
theorem wml_X10_109 : Cond.methodLink RX10 109 yX5_keep ∈ gw := gw_in (tin3 (List.mem_of_getElem? (i := 95) rfl)) rfl
theorem winst_X5_keep : Cond.instanceMethod yX5_keep ∈ gw := gw_in (tin3 (List.mem_of_getElem? (i := 96) rfl)) rfl
theorem wsel_X5_keep : Cond.selects RX5 yX5_keep yX5_keep ∈ gw := gw_in (tin3 (List.mem_of_getElem? (i := 97) rfl)) rfl
theorem wml_X10_116 : Cond.methodLink RX10 116 yX6_copyFrom ∈ gw := gw_in (tin3 (List.mem_of_getElem? (i := 121) rfl)) rfl
theorem wfl_X10_123 : Cond.fieldLink RX10 123 "SplitProgram$Cuts" "size" "I" ∈ gw := gw_in (tin1 (List.mem_of_getElem? (i := 113) rfl)) rfl
theorem wfl_X10_126 : Cond.fieldLink RX10 126 "SplitProgram$Engine" "book" "LSplitProgram$Book;" ∈ gw := gw_in (tin2 (List.mem_of_getElem? (i := 50) rfl)) rfl
theorem wml_X10_130 : Cond.methodLink RX10 130 yX0_forgetAll ∈ gw := gw_in (tin3 (List.mem_of_getElem? (i := 122) rfl)) rfl
theorem winst_X0_forgetAll : Cond.instanceMethod yX0_forgetAll ∈ gw := gw_in (tin3 (List.mem_of_getElem? (i := 123) rfl)) rfl
theorem wsel_X0_forgetAll : Cond.selects RX0 yX0_forgetAll yX0_forgetAll ∈ gw := gw_in (tin3 (List.mem_of_getElem? (i := 124) rfl)) rfl
theorem wml_X10_135 : Cond.methodLink RX10 135 yX10_afterChange ∈ gw := gw_in (tin3 (List.mem_of_getElem? (i := 126) rfl)) rfl
theorem winst_X10_afterChange : Cond.instanceMethod yX10_afterChange ∈ gw := gw_in (tin3 (List.mem_of_getElem? (i := 128) rfl)) rfl
theorem wsel_X10_afterChange : Cond.selects RX10 yX10_afterChange yX10_afterChange ∈ gw := gw_sel (y := yX10_afterChange) (n := 14) 11 rfl
theorem wcode_X10_fault : Cond.code yX10_fault cX10_fault 1 (some .int) ∈ gw := gw_in (tin3 (List.mem_of_getElem? (i := 149) rfl)) rfl
theorem wfl_X10_138 : Cond.fieldLink RX10 138 "SplitProgram$Tape" "fault" "I" ∈ gw := gw_in (tin2 (List.mem_of_getElem? (i := 98) rfl)) rfl
theorem wcode_X10_canBe : Cond.code yX10_canBe cX10_canBe 2 (some .boolean) ∈ gw := gw_in (tin3 (List.mem_of_getElem? (i := 156) rfl)) rfl
theorem wcode_X10_plant : Cond.code yX10_plant cX10_plant 5 (some .int) ∈ gw := gw_in (tin3 (List.mem_of_getElem? (i := 153) rfl)) rfl
theorem wml_X10_141 : Cond.methodLink RX10 141 yX10_canBe ∈ gw := gw_in (tin3 (List.mem_of_getElem? (i := 154) rfl)) rfl
theorem wstat_X10_canBe : Cond.static yX10_canBe ∈ gw := gw_in (tin3 (List.mem_of_getElem? (i := 155) rfl)) rfl
theorem wfl_X10_145 : Cond.fieldLink RX10 145 "SplitProgram$Program" "plants" "I" ∈ gw := gw_in (tin1 (List.mem_of_getElem? (i := 49) rfl)) rfl
theorem wml_X10_148 : Cond.methodLink RX10 148 yX6_addPlant ∈ gw := gw_in (tin3 (List.mem_of_getElem? (i := 157) rfl)) rfl
theorem wcode_X10_site : Cond.code yX10_site cX10_site 2 (some .int) ∈ gw := gw_in (tin3 (List.mem_of_getElem? (i := 161) rfl)) rfl
theorem wfl_X10_152 : Cond.fieldLink RX10 152 "SplitProgram$Program" "sites" "I" ∈ gw := gw_in (tin1 (List.mem_of_getElem? (i := 54) rfl)) rfl
theorem wcode_X6_hasPlant : Cond.code yX6_hasPlant cX6_hasPlant 2 (some .boolean) ∈ gw := gw_in (tin3 (List.mem_of_getElem? (i := 169) rfl)) rfl
theorem wcode_X6_hasSite : Cond.code yX6_hasSite cX6_hasSite 2 (some .boolean) ∈ gw := gw_in (tin3 (List.mem_of_getElem? (i := 173) rfl)) rfl
theorem wcode_X10_road : Cond.code yX10_road cX10_road 7 (some .int) ∈ gw := gw_in (tin3 (List.mem_of_getElem? (i := 165) rfl)) rfl
theorem wml_X10_155 : Cond.methodLink RX10 155 yX6_hasPlant ∈ gw := gw_in (tin3 (List.mem_of_getElem? (i := 166) rfl)) rfl
theorem winst_X6_hasPlant : Cond.instanceMethod yX6_hasPlant ∈ gw := gw_in (tin3 (List.mem_of_getElem? (i := 167) rfl)) rfl
theorem wsel_X6_hasPlant : Cond.selects RX6 yX6_hasPlant yX6_hasPlant ∈ gw := gw_in (tin3 (List.mem_of_getElem? (i := 168) rfl)) rfl
theorem wml_X10_159 : Cond.methodLink RX10 159 yX6_hasSite ∈ gw := gw_in (tin3 (List.mem_of_getElem? (i := 170) rfl)) rfl
theorem winst_X6_hasSite : Cond.instanceMethod yX6_hasSite ∈ gw := gw_in (tin3 (List.mem_of_getElem? (i := 171) rfl)) rfl
theorem wsel_X6_hasSite : Cond.selects RX6 yX6_hasSite yX6_hasSite ∈ gw := gw_in (tin3 (List.mem_of_getElem? (i := 172) rfl)) rfl
theorem wfl_X10_162 : Cond.fieldLink RX10 162 "SplitProgram$Program" "tolls" "[I" ∈ gw := gw_in (tin1 (List.mem_of_getElem? (i := 71) rfl)) rfl
theorem wcode_X10_scene : Cond.code yX10_scene cX10_scene 3 (some .int) ∈ gw := gw_in (tin3 (List.mem_of_getElem? (i := 177) rfl)) rfl
theorem wfl_X10_165 : Cond.fieldLink RX10 165 "SplitProgram$Program" "cases" "I" ∈ gw := gw_in (tin1 (List.mem_of_getElem? (i := 60) rfl)) rfl
theorem wml_X10_168 : Cond.methodLink RX10 168 yX6_addCase ∈ gw := gw_in (tin3 (List.mem_of_getElem? (i := 178) rfl)) rfl
theorem wcode_X6_hasCase : Cond.code yX6_hasCase cX6_hasCase 2 (some .boolean) ∈ gw := gw_in (tin3 (List.mem_of_getElem? (i := 186) rfl)) rfl
theorem wcode_X0_forgetCase : Cond.code yX0_forgetCase cX0_forgetCase 3 none ∈ gw := gw_in (tin3 (List.mem_of_getElem? (i := 190) rfl)) rfl
theorem wcode_X10_need : Cond.code yX10_need cX10_need 7 (some .int) ∈ gw := gw_in (tin3 (List.mem_of_getElem? (i := 182) rfl)) rfl
theorem wml_X10_171 : Cond.methodLink RX10 171 yX6_hasCase ∈ gw := gw_in (tin3 (List.mem_of_getElem? (i := 183) rfl)) rfl
theorem winst_X6_hasCase : Cond.instanceMethod yX6_hasCase ∈ gw := gw_in (tin3 (List.mem_of_getElem? (i := 184) rfl)) rfl
theorem wsel_X6_hasCase : Cond.selects RX6 yX6_hasCase yX6_hasCase ∈ gw := gw_in (tin3 (List.mem_of_getElem? (i := 185) rfl)) rfl
theorem wfl_X10_174 : Cond.fieldLink RX10 174 "SplitProgram$Program" "needs" "[I" ∈ gw := gw_in (tin1 (List.mem_of_getElem? (i := 81) rfl)) rfl
theorem wml_X10_177 : Cond.methodLink RX10 177 yX0_forgetCase ∈ gw := gw_in (tin3 (List.mem_of_getElem? (i := 187) rfl)) rfl
theorem winst_X0_forgetCase : Cond.instanceMethod yX0_forgetCase ∈ gw := gw_in (tin3 (List.mem_of_getElem? (i := 188) rfl)) rfl
theorem wsel_X0_forgetCase : Cond.selects RX0 yX0_forgetCase yX0_forgetCase ∈ gw := gw_in (tin3 (List.mem_of_getElem? (i := 189) rfl)) rfl
theorem wcode_X6_plantValue : Cond.code yX6_plantValue cX6_plantValue 3 (some .int) ∈ gw := gw_in (tin3 (List.mem_of_getElem? (i := 198) rfl)) rfl
theorem wcode_X6_setPlantValue : Cond.code yX6_setPlantValue cX6_setPlantValue 4 none ∈ gw := gw_in (tin3 (List.mem_of_getElem? (i := 202) rfl)) rfl
theorem wcode_X10_change : Cond.code yX10_change cX10_change 6 (some .int) ∈ gw := gw_in (tin3 (List.mem_of_getElem? (i := 194) rfl)) rfl
theorem wml_X10_180 : Cond.methodLink RX10 180 yX6_plantValue ∈ gw := gw_in (tin3 (List.mem_of_getElem? (i := 195) rfl)) rfl
theorem winst_X6_plantValue : Cond.instanceMethod yX6_plantValue ∈ gw := gw_in (tin3 (List.mem_of_getElem? (i := 196) rfl)) rfl
theorem wsel_X6_plantValue : Cond.selects RX6 yX6_plantValue yX6_plantValue ∈ gw := gw_in (tin3 (List.mem_of_getElem? (i := 197) rfl)) rfl
theorem wml_X10_184 : Cond.methodLink RX10 184 yX6_setPlantValue ∈ gw := gw_in (tin3 (List.mem_of_getElem? (i := 199) rfl)) rfl
theorem winst_X6_setPlantValue : Cond.instanceMethod yX6_setPlantValue ∈ gw := gw_in (tin3 (List.mem_of_getElem? (i := 200) rfl)) rfl
theorem wsel_X6_setPlantValue : Cond.selects RX6 yX6_setPlantValue yX6_setPlantValue ∈ gw := gw_in (tin3 (List.mem_of_getElem? (i := 201) rfl)) rfl
theorem wcode_X2_baseOf : Cond.code yX2_baseOf cX2_baseOf 5 (some .int) ∈ gw := gw_in (tin3 (List.mem_of_getElem? (i := 223) rfl)) rfl
theorem wfl_X2_65 : Cond.fieldLink RX2 65 "SplitProgram$Program" "needs" "[I" ∈ gw := gw_in (tin1 (List.mem_of_getElem? (i := 80) rfl)) rfl
theorem wcode_X2_slopeOf : Cond.code yX2_slopeOf cX2_slopeOf 4 (some .int) ∈ gw := gw_in (tin3 (List.mem_of_getElem? (i := 227) rfl)) rfl
theorem wfl_X2_68 : Cond.fieldLink RX2 68 "SplitProgram$Program" "sizes" "[I" ∈ gw := gw_in (tin1 (List.mem_of_getElem? (i := 65) rfl)) rfl
theorem wcode_X1_include : Cond.code yX1_include cX1_include 17 none ∈ gw := gw_in (tin3 (List.mem_of_getElem? (i := 219) rfl)) rfl
theorem wini_SplitProgram_Bounds : Cond.initialized "SplitProgram$Bounds" ∈ gw := gw_in (tin1 (List.mem_of_getElem? (i := 10) rfl)) rfl
theorem wml_X1_39 : Cond.methodLink RX1 39 yX2_baseOf ∈ gw := gw_in (tin3 (List.mem_of_getElem? (i := 220) rfl)) rfl
theorem winst_X2_baseOf : Cond.instanceMethod yX2_baseOf ∈ gw := gw_in (tin3 (List.mem_of_getElem? (i := 221) rfl)) rfl
theorem wsel_X2_baseOf : Cond.selects RX2 yX2_baseOf yX2_baseOf ∈ gw := gw_in (tin3 (List.mem_of_getElem? (i := 222) rfl)) rfl
theorem wml_X1_43 : Cond.methodLink RX1 43 yX2_slopeOf ∈ gw := gw_in (tin3 (List.mem_of_getElem? (i := 224) rfl)) rfl
theorem winst_X2_slopeOf : Cond.instanceMethod yX2_slopeOf ∈ gw := gw_in (tin3 (List.mem_of_getElem? (i := 225) rfl)) rfl
theorem wsel_X2_slopeOf : Cond.selects RX2 yX2_slopeOf yX2_slopeOf ∈ gw := gw_in (tin3 (List.mem_of_getElem? (i := 226) rfl)) rfl
theorem wfl_X1_47 : Cond.fieldLink RX1 47 "SplitProgram$Cuts" "rays" "[I" ∈ gw := gw_in (tin1 (List.mem_of_getElem? (i := 119) rfl)) rfl
theorem wfl_X1_50 : Cond.fieldLink RX1 50 "SplitProgram$Cuts" "cases" "[I" ∈ gw := gw_in (tin1 (List.mem_of_getElem? (i := 115) rfl)) rfl
theorem wfl_X1_53 : Cond.fieldLink RX1 53 "SplitProgram$Program" "mosts" "[I" ∈ gw := gw_in (tin1 (List.mem_of_getElem? (i := 67) rfl)) rfl
theorem wfl_X1_15 : Cond.fieldLink RX1 15 "SplitProgram$Bounds" "reaches" "[I" ∈ gw := gw_in (tin2 (List.mem_of_getElem? (i := 39) rfl)) rfl
theorem wfl_X1_19 : Cond.fieldLink RX1 19 "SplitProgram$Bounds" "barred" "[Z" ∈ gw := gw_in (tin2 (List.mem_of_getElem? (i := 41) rfl)) rfl
theorem wcode_X1_freshen : Cond.code yX1_freshen cX1_freshen 4 none ∈ gw := gw_in (tin3 (List.mem_of_getElem? (i := 214) rfl)) rfl
theorem wfl_X1_9 : Cond.fieldLink RX1 9 "SplitProgram$Bounds" "stale" "Z" ∈ gw := gw_in (tin2 (List.mem_of_getElem? (i := 36) rfl)) rfl
theorem wml_X1_23 : Cond.methodLink RX1 23 yJ7_fill_53178 ∈ gw := gw_in (tin3 (List.mem_of_getElem? (i := 215) rfl)) rfl
theorem wfl_X1_29 : Cond.fieldLink RX1 29 "SplitProgram$Cuts" "size" "I" ∈ gw := gw_in (tin1 (List.mem_of_getElem? (i := 111) rfl)) rfl
theorem wml_X1_35 : Cond.methodLink RX1 35 yX1_include ∈ gw := gw_in (tin3 (List.mem_of_getElem? (i := 216) rfl)) rfl
theorem winst_X1_include : Cond.instanceMethod yX1_include ∈ gw := gw_in (tin3 (List.mem_of_getElem? (i := 217) rfl)) rfl
theorem wsel_X1_include : Cond.selects RX1 yX1_include yX1_include ∈ gw := gw_in (tin3 (List.mem_of_getElem? (i := 218) rfl)) rfl
theorem wcode_X10_unitsIn : Cond.code yX10_unitsIn cX10_unitsIn 2 (some .int) ∈ gw := gw_in (tin3 (List.mem_of_getElem? (i := 238) rfl)) rfl
theorem wcode_X6_isPlan : Cond.code yX6_isPlan cX6_isPlan 3 (some .boolean) ∈ gw := gw_in (tin3 (List.mem_of_getElem? (i := 235) rfl)) rfl
theorem wmn_X6_52 : Cond.methodLinkNest RX6 52 yX10_unitsIn "SplitProgram" ∈ nestW := nest_of (tin3 (List.mem_of_getElem? (i := 236) rfl)) rfl
theorem wstat_X10_unitsIn : Cond.static yX10_unitsIn ∈ gw := gw_in (tin3 (List.mem_of_getElem? (i := 237) rfl)) rfl
theorem wcode_X6_feesOf : Cond.code yX6_feesOf cX6_feesOf 4 (some .int) ∈ gw := gw_in (tin4 (List.mem_of_getElem? (i := 6) rfl)) rfl
theorem wcode_X1_floorAt : Cond.code yX1_floorAt cX1_floorAt 5 (some .int) ∈ gw := gw_in (tin4 (List.mem_of_getElem? (i := 2) rfl)) rfl
theorem wml_X1_58 : Cond.methodLink RX1 58 yX6_feesOf ∈ gw := gw_in (tin4 (List.mem_of_getElem? (i := 3) rfl)) rfl
theorem winst_X6_feesOf : Cond.instanceMethod yX6_feesOf ∈ gw := gw_in (tin4 (List.mem_of_getElem? (i := 4) rfl)) rfl
theorem wsel_X6_feesOf : Cond.selects RX6 yX6_feesOf yX6_feesOf ∈ gw := gw_in (tin4 (List.mem_of_getElem? (i := 5) rfl)) rfl
theorem wfl_X1_62 : Cond.fieldLink RX1 62 "SplitProgram$Program" "cases" "I" ∈ gw := gw_in (tin1 (List.mem_of_getElem? (i := 58) rfl)) rfl
theorem wfl_X1_64 : Cond.fieldLink RX1 64 "SplitProgram$Program" "weights" "[I" ∈ gw := gw_in (tin1 (List.mem_of_getElem? (i := 74) rfl)) rfl
theorem wcode_X1_lowestPlan : Cond.code yX1_lowestPlan cX1_lowestPlan 6 (some .int) ∈ gw := gw_in (tin3 (List.mem_of_getElem? (i := 231) rfl)) rfl
theorem wml_X1_67 : Cond.methodLink RX1 67 yX6_isPlan ∈ gw := gw_in (tin3 (List.mem_of_getElem? (i := 232) rfl)) rfl
theorem winst_X6_isPlan : Cond.instanceMethod yX6_isPlan ∈ gw := gw_in (tin3 (List.mem_of_getElem? (i := 233) rfl)) rfl
theorem wsel_X6_isPlan : Cond.selects RX6 yX6_isPlan yX6_isPlan ∈ gw := gw_in (tin3 (List.mem_of_getElem? (i := 234) rfl)) rfl
theorem wml_X1_71 : Cond.methodLink RX1 71 yX1_floorAt ∈ gw := gw_in (tin3 (List.mem_of_getElem? (i := 239) rfl)) rfl
theorem winst_X1_floorAt : Cond.instanceMethod yX1_floorAt ∈ gw := gw_in (tin4 (List.mem_of_getElem? (i := 0) rfl)) rfl
theorem wsel_X1_floorAt : Cond.selects RX1 yX1_floorAt yX1_floorAt ∈ gw := gw_in (tin4 (List.mem_of_getElem? (i := 1) rfl)) rfl
theorem wcode_X6_plantsOf : Cond.code yX6_plantsOf cX6_plantsOf 4 (some .int) ∈ gw := gw_in (tin4 (List.mem_of_getElem? (i := 22) rfl)) rfl
theorem wcode_X4_findLoads : Cond.code yX4_findLoads cX4_findLoads 7 none ∈ gw := gw_in (tin4 (List.mem_of_getElem? (i := 18) rfl)) rfl
theorem wini_SplitProgram_Freight : Cond.initialized "SplitProgram$Freight" ∈ gw := gw_in (tin1 (List.mem_of_getElem? (i := 9) rfl)) rfl
theorem wfl_X4_18 : Cond.fieldLink RX4 18 "SplitProgram$Freight" "loads" "[I" ∈ gw := gw_in (tin1 (List.mem_of_getElem? (i := 219) rfl)) rfl
theorem wfl_X4_49 : Cond.fieldLink RX4 49 "SplitProgram$Program" "sites" "I" ∈ gw := gw_in (tin1 (List.mem_of_getElem? (i := 52) rfl)) rfl
theorem wml_X4_55 : Cond.methodLink RX4 55 yX6_plantsOf ∈ gw := gw_in (tin4 (List.mem_of_getElem? (i := 19) rfl)) rfl
theorem winst_X6_plantsOf : Cond.instanceMethod yX6_plantsOf ∈ gw := gw_in (tin4 (List.mem_of_getElem? (i := 20) rfl)) rfl
theorem wsel_X6_plantsOf : Cond.selects RX6 yX6_plantsOf yX6_plantsOf ∈ gw := gw_in (tin4 (List.mem_of_getElem? (i := 21) rfl)) rfl
theorem wfl_X4_59 : Cond.fieldLink RX4 59 "SplitProgram$Program" "needs" "[I" ∈ gw := gw_in (tin1 (List.mem_of_getElem? (i := 79) rfl)) rfl
theorem wfl_X4_21 : Cond.fieldLink RX4 21 "SplitProgram$Freight" "loadsKnown" "[Z" ∈ gw := gw_in (tin1 (List.mem_of_getElem? (i := 220) rfl)) rfl
theorem wcode_X4_findStocks : Cond.code yX4_findStocks cX4_findStocks 6 none ∈ gw := gw_in (tin4 (List.mem_of_getElem? (i := 26) rfl)) rfl
theorem wfl_X4_15 : Cond.fieldLink RX4 15 "SplitProgram$Freight" "pools" "[I" ∈ gw := gw_in (tin1 (List.mem_of_getElem? (i := 218) rfl)) rfl
theorem wfl_X4_9 : Cond.fieldLink RX4 9 "SplitProgram$Freight" "stocks" "[I" ∈ gw := gw_in (tin1 (List.mem_of_getElem? (i := 217) rfl)) rfl
theorem wmn_X4_62 : Cond.methodLinkNest RX4 62 yX10_unitsIn "SplitProgram" ∈ nestW := nest_of (tin4 (List.mem_of_getElem? (i := 27) rfl)) rfl
theorem wfl_X4_66 : Cond.fieldLink RX4 66 "SplitProgram$Program" "sizes" "[I" ∈ gw := gw_in (tin1 (List.mem_of_getElem? (i := 64) rfl)) rfl
theorem wcode_X4_lackAt : Cond.code yX4_lackAt cX4_lackAt 6 (some .int) ∈ gw := gw_in (tin4 (List.mem_of_getElem? (i := 14) rfl)) rfl
theorem wml_X4_73 : Cond.methodLink RX4 73 yX4_findStocks ∈ gw := gw_in (tin4 (List.mem_of_getElem? (i := 23) rfl)) rfl
theorem winst_X4_findStocks : Cond.instanceMethod yX4_findStocks ∈ gw := gw_in (tin4 (List.mem_of_getElem? (i := 25) rfl)) rfl
theorem wsel_X4_findStocks : Cond.selects RX4 yX4_findStocks yX4_findStocks ∈ gw := gw_sel (y := yX4_findStocks) (n := 12) 15 rfl
theorem wml_X4_76 : Cond.methodLink RX4 76 yJ9_max_7cf53 ∈ gw := gw_in (tin4 (List.mem_of_getElem? (i := 28) rfl)) rfl
theorem wstat_J9_max_7cf53 : Cond.static yJ9_max_7cf53 ∈ gw := gw_in (tin4 (List.mem_of_getElem? (i := 29) rfl)) rfl
theorem wcode_J9_max_7cf53 : Cond.code yJ9_max_7cf53 cJ9_max_7cf53 2 (some .int) ∈ gw := gw_in (tin4 (List.mem_of_getElem? (i := 30) rfl)) rfl
theorem wml_X4_69 : Cond.methodLink RX4 69 yX4_findLoads ∈ gw := gw_in (tin4 (List.mem_of_getElem? (i := 15) rfl)) rfl
theorem winst_X4_findLoads : Cond.instanceMethod yX4_findLoads ∈ gw := gw_in (tin4 (List.mem_of_getElem? (i := 17) rfl)) rfl
theorem wsel_X4_findLoads : Cond.selects RX4 yX4_findLoads yX4_findLoads ∈ gw := gw_sel (y := yX4_findLoads) (n := 12) 14 rfl
theorem wcode_X4_cheapestFor : Cond.code yX4_cheapestFor cX4_cheapestFor 7 (some .int) ∈ gw := gw_in (tin4 (List.mem_of_getElem? (i := 44) rfl)) rfl
theorem wcon_X4_114 : Cond.constant RX4 114 (1000000) ∈ gw := gw_in (tin4 (List.mem_of_getElem? (i := 45) rfl)) rfl
theorem wfl_X4_115 : Cond.fieldLink RX4 115 "SplitProgram$Program" "plants" "I" ∈ gw := gw_in (tin1 (List.mem_of_getElem? (i := 48) rfl)) rfl
theorem wfl_X4_101 : Cond.fieldLink RX4 101 "SplitProgram$Program" "tolls" "[I" ∈ gw := gw_in (tin1 (List.mem_of_getElem? (i := 69) rfl)) rfl
theorem wfl_X4_37 : Cond.fieldLink RX4 37 "SplitProgram$Freight" "dear" "[I" ∈ gw := gw_in (tin1 (List.mem_of_getElem? (i := 226) rfl)) rfl
theorem wcode_X4_findSwaps : Cond.code yX4_findSwaps cX4_findSwaps 8 none ∈ gw := gw_in (tin4 (List.mem_of_getElem? (i := 49) rfl)) rfl
theorem wfl_X4_31 : Cond.fieldLink RX4 31 "SplitProgram$Freight" "swap" "[I" ∈ gw := gw_in (tin1 (List.mem_of_getElem? (i := 224) rfl)) rfl
theorem wml_X4_87 : Cond.methodLink RX4 87 yJ7_fill_53178 ∈ gw := gw_in (tin4 (List.mem_of_getElem? (i := 36) rfl)) rfl
theorem wfl_X4_28 : Cond.fieldLink RX4 28 "SplitProgram$Freight" "flow" "[I" ∈ gw := gw_in (tin1 (List.mem_of_getElem? (i := 223) rfl)) rfl
theorem wfl_X4_34 : Cond.fieldLink RX4 34 "SplitProgram$Freight" "swapSite" "[I" ∈ gw := gw_in (tin1 (List.mem_of_getElem? (i := 225) rfl)) rfl
theorem wcode_X4_findDear : Cond.code yX4_findDear cX4_findDear 6 none ∈ gw := gw_in (tin4 (List.mem_of_getElem? (i := 53) rfl)) rfl
theorem wfl_X4_25 : Cond.fieldLink RX4 25 "SplitProgram$Freight" "left" "[I" ∈ gw := gw_in (tin1 (List.mem_of_getElem? (i := 222) rfl)) rfl
theorem wfl_X4_40 : Cond.fieldLink RX4 40 "SplitProgram$Freight" "helper" "[I" ∈ gw := gw_in (tin1 (List.mem_of_getElem? (i := 227) rfl)) rfl
theorem wcode_X4_chooseGiver : Cond.code yX4_chooseGiver cX4_chooseGiver 4 (some .int) ∈ gw := gw_in (tin4 (List.mem_of_getElem? (i := 40) rfl)) rfl
theorem wml_X4_104 : Cond.methodLink RX4 104 yX4_cheapestFor ∈ gw := gw_in (tin4 (List.mem_of_getElem? (i := 41) rfl)) rfl
theorem winst_X4_cheapestFor : Cond.instanceMethod yX4_cheapestFor ∈ gw := gw_in (tin4 (List.mem_of_getElem? (i := 43) rfl)) rfl
theorem wsel_X4_cheapestFor : Cond.selects RX4 yX4_cheapestFor yX4_cheapestFor ∈ gw := gw_sel (y := yX4_cheapestFor) (n := 12) 17 rfl
theorem wml_X4_107 : Cond.methodLink RX4 107 yX4_findSwaps ∈ gw := gw_in (tin4 (List.mem_of_getElem? (i := 46) rfl)) rfl
theorem winst_X4_findSwaps : Cond.instanceMethod yX4_findSwaps ∈ gw := gw_in (tin4 (List.mem_of_getElem? (i := 48) rfl)) rfl
theorem wsel_X4_findSwaps : Cond.selects RX4 yX4_findSwaps yX4_findSwaps ∈ gw := gw_sel (y := yX4_findSwaps) (n := 12) 18 rfl
theorem wml_X4_111 : Cond.methodLink RX4 111 yX4_findDear ∈ gw := gw_in (tin4 (List.mem_of_getElem? (i := 50) rfl)) rfl
theorem winst_X4_findDear : Cond.instanceMethod yX4_findDear ∈ gw := gw_in (tin4 (List.mem_of_getElem? (i := 52) rfl)) rfl
theorem wsel_X4_findDear : Cond.selects RX4 yX4_findDear yX4_findDear ∈ gw := gw_sel (y := yX4_findDear) (n := 12) 19 rfl
theorem wcode_X4_bring : Cond.code yX4_bring cX4_bring 9 (some .int) ∈ gw := gw_in (tin4 (List.mem_of_getElem? (i := 57) rfl)) rfl
theorem wml_X4_118 : Cond.methodLink RX4 118 yJ9_min_7cf53 ∈ gw := gw_in (tin4 (List.mem_of_getElem? (i := 58) rfl)) rfl
theorem wcode_X4_costAt : Cond.code yX4_costAt cX4_costAt 8 (some .int) ∈ gw := gw_in (tin4 (List.mem_of_getElem? (i := 34) rfl)) rfl
theorem wml_X4_81 : Cond.methodLink RX4 81 arraycopyName ∈ gw := gw_in (tin4 (List.mem_of_getElem? (i := 35) rfl)) rfl
theorem wml_X4_93 : Cond.methodLink RX4 93 yX4_chooseGiver ∈ gw := gw_in (tin4 (List.mem_of_getElem? (i := 37) rfl)) rfl
theorem winst_X4_chooseGiver : Cond.instanceMethod yX4_chooseGiver ∈ gw := gw_in (tin4 (List.mem_of_getElem? (i := 39) rfl)) rfl
theorem wsel_X4_chooseGiver : Cond.selects RX4 yX4_chooseGiver yX4_chooseGiver ∈ gw := gw_sel (y := yX4_chooseGiver) (n := 12) 16 rfl
theorem wml_X4_97 : Cond.methodLink RX4 97 yX4_bring ∈ gw := gw_in (tin4 (List.mem_of_getElem? (i := 54) rfl)) rfl
theorem winst_X4_bring : Cond.instanceMethod yX4_bring ∈ gw := gw_in (tin4 (List.mem_of_getElem? (i := 56) rfl)) rfl
theorem wsel_X4_bring : Cond.selects RX4 yX4_bring yX4_bring ∈ gw := gw_sel (y := yX4_bring) (n := 12) 20 rfl
theorem wcode_X0_priceAt : Cond.code yX0_priceAt cX0_priceAt 5 (some .int) ∈ gw := gw_in (tin4 (List.mem_of_getElem? (i := 10) rfl)) rfl
theorem wml_X0_32 : Cond.methodLink RX0 32 yX4_lackAt ∈ gw := gw_in (tin4 (List.mem_of_getElem? (i := 11) rfl)) rfl
theorem winst_X4_lackAt : Cond.instanceMethod yX4_lackAt ∈ gw := gw_in (tin4 (List.mem_of_getElem? (i := 12) rfl)) rfl
theorem wsel_X4_lackAt : Cond.selects RX4 yX4_lackAt yX4_lackAt ∈ gw := gw_in (tin4 (List.mem_of_getElem? (i := 13) rfl)) rfl
theorem wml_X0_36 : Cond.methodLink RX0 36 yX4_costAt ∈ gw := gw_in (tin4 (List.mem_of_getElem? (i := 31) rfl)) rfl
theorem winst_X4_costAt : Cond.instanceMethod yX4_costAt ∈ gw := gw_in (tin4 (List.mem_of_getElem? (i := 32) rfl)) rfl
theorem wsel_X4_costAt : Cond.selects RX4 yX4_costAt yX4_costAt ∈ gw := gw_in (tin4 (List.mem_of_getElem? (i := 33) rfl)) rfl
theorem wcode_X2_valueAt : Cond.code yX2_valueAt cX2_valueAt 6 (some .int) ∈ gw := gw_in (tin4 (List.mem_of_getElem? (i := 66) rfl)) rfl
theorem wml_X2_71 : Cond.methodLink RX2 71 yX2_baseOf ∈ gw := gw_in (tin4 (List.mem_of_getElem? (i := 67) rfl)) rfl
theorem wmn_X2_75 : Cond.methodLinkNest RX2 75 yX10_unitsIn "SplitProgram" ∈ nestW := nest_of (tin4 (List.mem_of_getElem? (i := 68) rfl)) rfl
theorem wml_X2_78 : Cond.methodLink RX2 78 yX2_slopeOf ∈ gw := gw_in (tin4 (List.mem_of_getElem? (i := 69) rfl)) rfl
theorem wcode_X3_findAges : Cond.code yX3_findAges cX3_findAges 6 none ∈ gw := gw_in (tin4 (List.mem_of_getElem? (i := 62) rfl)) rfl
theorem wini_SplitProgram_Engine : Cond.initialized "SplitProgram$Engine" ∈ gw := gw_in (tin1 (List.mem_of_getElem? (i := 7) rfl)) rfl
theorem wfl_X3_94 : Cond.fieldLink RX3 94 "SplitProgram$Cuts" "size" "I" ∈ gw := gw_in (tin1 (List.mem_of_getElem? (i := 112) rfl)) rfl
theorem wfl_X3_99 : Cond.fieldLink RX3 99 "SplitProgram$Cuts" "rays" "[I" ∈ gw := gw_in (tin1 (List.mem_of_getElem? (i := 120) rfl)) rfl
theorem wfl_X3_29 : Cond.fieldLink RX3 29 "SplitProgram$Engine" "reaches" "[I" ∈ gw := gw_in (tin2 (List.mem_of_getElem? (i := 54) rfl)) rfl
theorem wfl_X3_102 : Cond.fieldLink RX3 102 "SplitProgram$Cuts" "cases" "[I" ∈ gw := gw_in (tin1 (List.mem_of_getElem? (i := 116) rfl)) rfl
theorem wfl_X3_61 : Cond.fieldLink RX3 61 "SplitProgram$Engine" "master" "I" ∈ gw := gw_in (tin2 (List.mem_of_getElem? (i := 57) rfl)) rfl
theorem wml_X3_104 : Cond.methodLink RX3 104 yX2_valueAt ∈ gw := gw_in (tin4 (List.mem_of_getElem? (i := 63) rfl)) rfl
theorem winst_X2_valueAt : Cond.instanceMethod yX2_valueAt ∈ gw := gw_in (tin4 (List.mem_of_getElem? (i := 64) rfl)) rfl
theorem wsel_X2_valueAt : Cond.selects RX2 yX2_valueAt yX2_valueAt ∈ gw := gw_in (tin4 (List.mem_of_getElem? (i := 65) rfl)) rfl
theorem wfl_X3_36 : Cond.fieldLink RX3 36 "SplitProgram$Engine" "ages" "[I" ∈ gw := gw_in (tin2 (List.mem_of_getElem? (i := 56) rfl)) rfl
theorem wfl_X3_107 : Cond.fieldLink RX3 107 "SplitProgram$Cuts" "ages" "[I" ∈ gw := gw_in (tin1 (List.mem_of_getElem? (i := 123) rfl)) rfl
theorem wml_X3_108 : Cond.methodLink RX3 108 yJ9_min_7cf53 ∈ gw := gw_in (tin4 (List.mem_of_getElem? (i := 70) rfl)) rfl
theorem wcode_X3_masterTotal : Cond.code yX3_masterTotal cX3_masterTotal 4 (some .int) ∈ gw := gw_in (tin4 (List.mem_of_getElem? (i := 79) rfl)) rfl
theorem wml_X3_136 : Cond.methodLink RX3 136 yX6_feesOf ∈ gw := gw_in (tin4 (List.mem_of_getElem? (i := 80) rfl)) rfl
theorem wfl_X3_65 : Cond.fieldLink RX3 65 "SplitProgram$Program" "cases" "I" ∈ gw := gw_in (tin1 (List.mem_of_getElem? (i := 57) rfl)) rfl
theorem wfl_X3_25 : Cond.fieldLink RX3 25 "SplitProgram$Engine" "prices" "[I" ∈ gw := gw_in (tin2 (List.mem_of_getElem? (i := 53) rfl)) rfl
theorem wfl_X3_139 : Cond.fieldLink RX3 139 "SplitProgram$Program" "weights" "[I" ∈ gw := gw_in (tin1 (List.mem_of_getElem? (i := 76) rfl)) rfl
theorem wcode_X3_moveBounds : Cond.code yX3_moveBounds cX3_moveBounds 6 none ∈ gw := gw_in (tin4 (List.mem_of_getElem? (i := 74) rfl)) rfl
theorem wfl_X3_21 : Cond.fieldLink RX3 21 "SplitProgram$Engine" "bounds" "LSplitProgram$Bounds;" ∈ gw := gw_in (tin2 (List.mem_of_getElem? (i := 51) rfl)) rfl
theorem wml_X3_114 : Cond.methodLink RX3 114 yX1_floorAt ∈ gw := gw_in (tin4 (List.mem_of_getElem? (i := 75) rfl)) rfl
theorem wfl_X3_117 : Cond.fieldLink RX3 117 "SplitProgram$Search" "lower" "I" ∈ gw := gw_in (tin1 (List.mem_of_getElem? (i := 154) rfl)) rfl
theorem wfl_X3_120 : Cond.fieldLink RX3 120 "SplitProgram$Engine" "rises" "Z" ∈ gw := gw_in (tin2 (List.mem_of_getElem? (i := 62) rfl)) rfl
theorem wfl_X3_124 : Cond.fieldLink RX3 124 "SplitProgram$Engine" "lower" "I" ∈ gw := gw_in (tin2 (List.mem_of_getElem? (i := 59) rfl)) rfl
theorem wml_X3_125 : Cond.methodLink RX3 125 yX3_masterTotal ∈ gw := gw_in (tin4 (List.mem_of_getElem? (i := 76) rfl)) rfl
theorem winst_X3_masterTotal : Cond.instanceMethod yX3_masterTotal ∈ gw := gw_in (tin4 (List.mem_of_getElem? (i := 78) rfl)) rfl
theorem wsel_X3_masterTotal : Cond.selects RX3 yX3_masterTotal yX3_masterTotal ∈ gw := gw_sel (y := yX3_masterTotal) (n := 12) 23 rfl
theorem wfl_X3_128 : Cond.fieldLink RX3 128 "SplitProgram$Search" "upper" "I" ∈ gw := gw_in (tin1 (List.mem_of_getElem? (i := 157) rfl)) rfl
theorem wfl_X3_131 : Cond.fieldLink RX3 131 "SplitProgram$Engine" "upper" "I" ∈ gw := gw_in (tin2 (List.mem_of_getElem? (i := 60) rfl)) rfl
theorem wfl_X3_132 : Cond.fieldLink RX3 132 "SplitProgram$Search" "best" "I" ∈ gw := gw_in (tin1 (List.mem_of_getElem? (i := 160) rfl)) rfl
theorem wfl_X3_135 : Cond.fieldLink RX3 135 "SplitProgram$Engine" "best" "I" ∈ gw := gw_in (tin2 (List.mem_of_getElem? (i := 61) rfl)) rfl
theorem wcode_X10_gapBetween : Cond.code yX10_gapBetween cX10_gapBetween 2 (some .float) ∈ gw := gw_in (tin4 (List.mem_of_getElem? (i := 87) rfl)) rfl
theorem wcode_X3_judge : Cond.code yX3_judge cX3_judge 2 (some .int) ∈ gw := gw_in (tin4 (List.mem_of_getElem? (i := 84) rfl)) rfl
theorem wmn_X3_142 : Cond.methodLinkNest RX3 142 yX10_gapBetween "SplitProgram" ∈ nestW := nest_of (tin4 (List.mem_of_getElem? (i := 85) rfl)) rfl
theorem wstat_X10_gapBetween : Cond.static yX10_gapBetween ∈ gw := gw_in (tin4 (List.mem_of_getElem? (i := 86) rfl)) rfl
theorem wconf_X3_146 : Cond.constantFloat RX3 146 (1148846080) ∈ gw := gw_in (tin4 (List.mem_of_getElem? (i := 88) rfl)) rfl
theorem wcode_X3_worstCase : Cond.code yX3_worstCase cX3_worstCase 6 (some .int) ∈ gw := gw_in (tin4 (List.mem_of_getElem? (i := 96) rfl)) rfl
theorem wfl_X3_12 : Cond.fieldLink RX3 12 "SplitProgram$Engine" "book" "LSplitProgram$Book;" ∈ gw := gw_in (tin2 (List.mem_of_getElem? (i := 49) rfl)) rfl
theorem wfl_X3_150 : Cond.fieldLink RX3 150 "SplitProgram$Book" "freight" "LSplitProgram$Freight;" ∈ gw := gw_in (tin2 (List.mem_of_getElem? (i := 22) rfl)) rfl
theorem wml_X3_154 : Cond.methodLink RX3 154 yX4_lackAt ∈ gw := gw_in (tin4 (List.mem_of_getElem? (i := 97) rfl)) rfl
theorem wcode_X3_pick : Cond.code yX3_pick cX3_pick 6 (some .int) ∈ gw := gw_in (tin4 (List.mem_of_getElem? (i := 92) rfl)) rfl
theorem wfl_X3_32 : Cond.fieldLink RX3 32 "SplitProgram$Engine" "picked" "[Z" ∈ gw := gw_in (tin2 (List.mem_of_getElem? (i := 55) rfl)) rfl
theorem wml_X3_147 : Cond.methodLink RX3 147 yX3_worstCase ∈ gw := gw_in (tin4 (List.mem_of_getElem? (i := 93) rfl)) rfl
theorem winst_X3_worstCase : Cond.instanceMethod yX3_worstCase ∈ gw := gw_in (tin4 (List.mem_of_getElem? (i := 95) rfl)) rfl
theorem wsel_X3_worstCase : Cond.selects RX3 yX3_worstCase yX3_worstCase ∈ gw := gw_sel (y := yX3_worstCase) (n := 12) 26 rfl
theorem wcode_X3_countStaying : Cond.code yX3_countStaying cX3_countStaying 5 (some .int) ∈ gw := gw_in (tin4 (List.mem_of_getElem? (i := 101) rfl)) rfl
theorem wcode_X3_decide : Cond.code yX3_decide cX3_decide 6 (some .boolean) ∈ gw := gw_in (tin3 (List.mem_of_getElem? (i := 210) rfl)) rfl
theorem wml_X3_53 : Cond.methodLink RX3 53 yX1_freshen ∈ gw := gw_in (tin3 (List.mem_of_getElem? (i := 211) rfl)) rfl
theorem winst_X1_freshen : Cond.instanceMethod yX1_freshen ∈ gw := gw_in (tin3 (List.mem_of_getElem? (i := 212) rfl)) rfl
theorem wsel_X1_freshen : Cond.selects RX1 yX1_freshen yX1_freshen ∈ gw := gw_in (tin3 (List.mem_of_getElem? (i := 213) rfl)) rfl
theorem wml_X3_57 : Cond.methodLink RX3 57 yX1_lowestPlan ∈ gw := gw_in (tin3 (List.mem_of_getElem? (i := 228) rfl)) rfl
theorem winst_X1_lowestPlan : Cond.instanceMethod yX1_lowestPlan ∈ gw := gw_in (tin3 (List.mem_of_getElem? (i := 229) rfl)) rfl
theorem wsel_X1_lowestPlan : Cond.selects RX1 yX1_lowestPlan yX1_lowestPlan ∈ gw := gw_in (tin3 (List.mem_of_getElem? (i := 230) rfl)) rfl
theorem wml_X3_70 : Cond.methodLink RX3 70 yX0_priceAt ∈ gw := gw_in (tin4 (List.mem_of_getElem? (i := 7) rfl)) rfl
theorem winst_X0_priceAt : Cond.instanceMethod yX0_priceAt ∈ gw := gw_in (tin4 (List.mem_of_getElem? (i := 8) rfl)) rfl
theorem wsel_X0_priceAt : Cond.selects RX0 yX0_priceAt yX0_priceAt ∈ gw := gw_in (tin4 (List.mem_of_getElem? (i := 9) rfl)) rfl
theorem wfl_X3_74 : Cond.fieldLink RX3 74 "SplitProgram$Bounds" "reaches" "[I" ∈ gw := gw_in (tin2 (List.mem_of_getElem? (i := 40) rfl)) rfl
theorem wml_X3_75 : Cond.methodLink RX3 75 yX3_findAges ∈ gw := gw_in (tin4 (List.mem_of_getElem? (i := 59) rfl)) rfl
theorem winst_X3_findAges : Cond.instanceMethod yX3_findAges ∈ gw := gw_in (tin4 (List.mem_of_getElem? (i := 61) rfl)) rfl
theorem wsel_X3_findAges : Cond.selects RX3 yX3_findAges yX3_findAges ∈ gw := gw_sel (y := yX3_findAges) (n := 12) 21 rfl
theorem wml_X3_78 : Cond.methodLink RX3 78 yX3_moveBounds ∈ gw := gw_in (tin4 (List.mem_of_getElem? (i := 71) rfl)) rfl
theorem winst_X3_moveBounds : Cond.instanceMethod yX3_moveBounds ∈ gw := gw_in (tin4 (List.mem_of_getElem? (i := 73) rfl)) rfl
theorem wsel_X3_moveBounds : Cond.selects RX3 yX3_moveBounds yX3_moveBounds ∈ gw := gw_sel (y := yX3_moveBounds) (n := 12) 22 rfl
theorem wml_X3_82 : Cond.methodLink RX3 82 yX3_judge ∈ gw := gw_in (tin4 (List.mem_of_getElem? (i := 81) rfl)) rfl
theorem winst_X3_judge : Cond.instanceMethod yX3_judge ∈ gw := gw_in (tin4 (List.mem_of_getElem? (i := 83) rfl)) rfl
theorem wsel_X3_judge : Cond.selects RX3 yX3_judge yX3_judge ∈ gw := gw_sel (y := yX3_judge) (n := 12) 24 rfl
theorem wfl_X3_64 : Cond.fieldLink RX3 64 "SplitProgram$Engine" "over" "I" ∈ gw := gw_in (tin2 (List.mem_of_getElem? (i := 58) rfl)) rfl
theorem wml_X3_86 : Cond.methodLink RX3 86 yX3_pick ∈ gw := gw_in (tin4 (List.mem_of_getElem? (i := 89) rfl)) rfl
theorem winst_X3_pick : Cond.instanceMethod yX3_pick ∈ gw := gw_in (tin4 (List.mem_of_getElem? (i := 91) rfl)) rfl
theorem wsel_X3_pick : Cond.selects RX3 yX3_pick yX3_pick ∈ gw := gw_sel (y := yX3_pick) (n := 12) 25 rfl
theorem wml_X3_90 : Cond.methodLink RX3 90 yX3_countStaying ∈ gw := gw_in (tin4 (List.mem_of_getElem? (i := 98) rfl)) rfl
theorem winst_X3_countStaying : Cond.instanceMethod yX3_countStaying ∈ gw := gw_in (tin4 (List.mem_of_getElem? (i := 100) rfl)) rfl
theorem wsel_X3_countStaying : Cond.selects RX3 yX3_countStaying yX3_countStaying ∈ gw := gw_sel (y := yX3_countStaying) (n := 12) 27 rfl
theorem wcode_X2_dropAged : Cond.code yX2_dropAged cX2_dropAged 4 (some .int) ∈ gw := gw_in (tin4 (List.mem_of_getElem? (i := 110) rfl)) rfl
theorem wcode_X4_findRay : Cond.code yX4_findRay cX4_findRay 9 none ∈ gw := gw_in (tin4 (List.mem_of_getElem? (i := 119) rfl)) rfl
theorem wfl_X4_46 : Cond.fieldLink RX4 46 "SplitProgram$Freight" "v" "[I" ∈ gw := gw_in (tin1 (List.mem_of_getElem? (i := 231) rfl)) rfl
theorem wfl_X4_43 : Cond.fieldLink RX4 43 "SplitProgram$Freight" "u" "[I" ∈ gw := gw_in (tin1 (List.mem_of_getElem? (i := 228) rfl)) rfl
theorem wcode_X4_greatestRate : Cond.code yX4_greatestRate cX4_greatestRate 6 (some .int) ∈ gw := gw_in (tin4 (List.mem_of_getElem? (i := 128) rfl)) rfl
theorem wcode_X4_findPoint : Cond.code yX4_findPoint cX4_findPoint 7 none ∈ gw := gw_in (tin4 (List.mem_of_getElem? (i := 124) rfl)) rfl
theorem wml_X4_135 : Cond.methodLink RX4 135 yX4_greatestRate ∈ gw := gw_in (tin4 (List.mem_of_getElem? (i := 125) rfl)) rfl
theorem winst_X4_greatestRate : Cond.instanceMethod yX4_greatestRate ∈ gw := gw_in (tin4 (List.mem_of_getElem? (i := 127) rfl)) rfl
theorem wsel_X4_greatestRate : Cond.selects RX4 yX4_greatestRate yX4_greatestRate ∈ gw := gw_sel (y := yX4_greatestRate) (n := 12) 30 rfl
theorem wcode_X4_findRates : Cond.code yX4_findRates cX4_findRates 5 (some .boolean) ∈ gw := gw_in (tin4 (List.mem_of_getElem? (i := 114) rfl)) rfl
theorem wml_X4_121 : Cond.methodLink RX4 121 yX4_lackAt ∈ gw := gw_in (tin4 (List.mem_of_getElem? (i := 115) rfl)) rfl
theorem wml_X4_129 : Cond.methodLink RX4 129 yX4_costAt ∈ gw := gw_in (tin4 (List.mem_of_getElem? (i := 120) rfl)) rfl
theorem wml_X4_132 : Cond.methodLink RX4 132 yX4_findPoint ∈ gw := gw_in (tin4 (List.mem_of_getElem? (i := 121) rfl)) rfl
theorem winst_X4_findPoint : Cond.instanceMethod yX4_findPoint ∈ gw := gw_in (tin4 (List.mem_of_getElem? (i := 123) rfl)) rfl
theorem wsel_X4_findPoint : Cond.selects RX4 yX4_findPoint yX4_findPoint ∈ gw := gw_sel (y := yX4_findPoint) (n := 12) 29 rfl
theorem wml_X4_125 : Cond.methodLink RX4 125 yX4_findRay ∈ gw := gw_in (tin4 (List.mem_of_getElem? (i := 116) rfl)) rfl
theorem winst_X4_findRay : Cond.instanceMethod yX4_findRay ∈ gw := gw_in (tin4 (List.mem_of_getElem? (i := 118) rfl)) rfl
theorem wsel_X4_findRay : Cond.selects RX4 yX4_findRay yX4_findRay ∈ gw := gw_sel (y := yX4_findRay) (n := 12) 28 rfl
theorem wcode_X2_append : Cond.code yX2_append cX2_append 5 none ∈ gw := gw_in (tin4 (List.mem_of_getElem? (i := 132) rfl)) rfl
theorem wcode_X3_apply : Cond.code yX3_apply cX3_apply 8 (some .int) ∈ gw := gw_in (tin4 (List.mem_of_getElem? (i := 105) rfl)) rfl
theorem wfl_X3_159 : Cond.fieldLink RX3 159 "SplitProgram$Search" "rounds" "I" ∈ gw := gw_in (tin1 (List.mem_of_getElem? (i := 166) rfl)) rfl
theorem wfl_X3_39 : Cond.fieldLink RX3 39 "SplitProgram$Search" "over" "I" ∈ gw := gw_in (tin1 (List.mem_of_getElem? (i := 151) rfl)) rfl
theorem wfl_X3_162 : Cond.fieldLink RX3 162 "SplitProgram$Search" "master" "I" ∈ gw := gw_in (tin1 (List.mem_of_getElem? (i := 163) rfl)) rfl
theorem wml_X3_163 : Cond.methodLink RX3 163 arraycopyName ∈ gw := gw_in (tin4 (List.mem_of_getElem? (i := 106) rfl)) rfl
theorem wml_X3_178 : Cond.methodLink RX3 178 yX4_findRates ∈ gw := gw_in (tin4 (List.mem_of_getElem? (i := 111) rfl)) rfl
theorem winst_X4_findRates : Cond.instanceMethod yX4_findRates ∈ gw := gw_in (tin4 (List.mem_of_getElem? (i := 112) rfl)) rfl
theorem wsel_X4_findRates : Cond.selects RX4 yX4_findRates yX4_findRates ∈ gw := gw_in (tin4 (List.mem_of_getElem? (i := 113) rfl)) rfl
theorem wfl_X3_182 : Cond.fieldLink RX3 182 "SplitProgram$Freight" "u" "[I" ∈ gw := gw_in (tin1 (List.mem_of_getElem? (i := 229) rfl)) rfl
theorem wfl_X3_185 : Cond.fieldLink RX3 185 "SplitProgram$Freight" "v" "[I" ∈ gw := gw_in (tin1 (List.mem_of_getElem? (i := 232) rfl)) rfl
theorem wml_X3_188 : Cond.methodLink RX3 188 yX2_append ∈ gw := gw_in (tin4 (List.mem_of_getElem? (i := 129) rfl)) rfl
theorem winst_X2_append : Cond.instanceMethod yX2_append ∈ gw := gw_in (tin4 (List.mem_of_getElem? (i := 130) rfl)) rfl
theorem wsel_X2_append : Cond.selects RX2 yX2_append yX2_append ∈ gw := gw_in (tin4 (List.mem_of_getElem? (i := 131) rfl)) rfl
theorem wfl_X3_175 : Cond.fieldLink RX3 175 "SplitProgram$Bounds" "stale" "Z" ∈ gw := gw_in (tin2 (List.mem_of_getElem? (i := 37) rfl)) rfl
theorem wml_X3_192 : Cond.methodLink RX3 192 yX1_include ∈ gw := gw_in (tin4 (List.mem_of_getElem? (i := 133) rfl)) rfl
theorem wml_X3_169 : Cond.methodLink RX3 169 yX2_dropAged ∈ gw := gw_in (tin4 (List.mem_of_getElem? (i := 107) rfl)) rfl
theorem winst_X2_dropAged : Cond.instanceMethod yX2_dropAged ∈ gw := gw_in (tin4 (List.mem_of_getElem? (i := 108) rfl)) rfl
theorem wsel_X2_dropAged : Cond.selects RX2 yX2_dropAged yX2_dropAged ∈ gw := gw_in (tin4 (List.mem_of_getElem? (i := 109) rfl)) rfl
theorem wfl_X3_172 : Cond.fieldLink RX3 172 "SplitProgram$Search" "gone" "I" ∈ gw := gw_in (tin1 (List.mem_of_getElem? (i := 169) rfl)) rfl
theorem wcode_X10_round : Cond.code yX10_round cX10_round 1 (some .int) ∈ gw := gw_in (tin3 (List.mem_of_getElem? (i := 206) rfl)) rfl
theorem wfl_X10_190 : Cond.fieldLink RX10 190 "SplitProgram$Search" "over" "I" ∈ gw := gw_in (tin1 (List.mem_of_getElem? (i := 152) rfl)) rfl
theorem wml_X10_193 : Cond.methodLink RX10 193 yX3_decide ∈ gw := gw_in (tin3 (List.mem_of_getElem? (i := 207) rfl)) rfl
theorem winst_X3_decide : Cond.instanceMethod yX3_decide ∈ gw := gw_in (tin3 (List.mem_of_getElem? (i := 208) rfl)) rfl
theorem wsel_X3_decide : Cond.selects RX3 yX3_decide yX3_decide ∈ gw := gw_in (tin3 (List.mem_of_getElem? (i := 209) rfl)) rfl
theorem wml_X10_197 : Cond.methodLink RX10 197 yX3_apply ∈ gw := gw_in (tin4 (List.mem_of_getElem? (i := 102) rfl)) rfl
theorem winst_X3_apply : Cond.instanceMethod yX3_apply ∈ gw := gw_in (tin4 (List.mem_of_getElem? (i := 103) rfl)) rfl
theorem wsel_X3_apply : Cond.selects RX3 yX3_apply yX3_apply ∈ gw := gw_in (tin4 (List.mem_of_getElem? (i := 104) rfl)) rfl
theorem wcode_X3_run : Cond.code yX3_run cX3_run 8 (some .int) ∈ gw := gw_in (tin4 (List.mem_of_getElem? (i := 141) rfl)) rfl
theorem wml_X3_45 : Cond.methodLink RX3 45 yX3_decide ∈ gw := gw_in (tin4 (List.mem_of_getElem? (i := 142) rfl)) rfl
theorem wml_X3_49 : Cond.methodLink RX3 49 yX3_apply ∈ gw := gw_in (tin4 (List.mem_of_getElem? (i := 143) rfl)) rfl
theorem wcode_X10_go : Cond.code yX10_go cX10_go 3 (some .int) ∈ gw := gw_in (tin4 (List.mem_of_getElem? (i := 137) rfl)) rfl
theorem wml_X10_201 : Cond.methodLink RX10 201 yX3_run ∈ gw := gw_in (tin4 (List.mem_of_getElem? (i := 138) rfl)) rfl
theorem winst_X3_run : Cond.instanceMethod yX3_run ∈ gw := gw_in (tin4 (List.mem_of_getElem? (i := 139) rfl)) rfl
theorem wsel_X3_run : Cond.selects RX3 yX3_run yX3_run ∈ gw := gw_in (tin4 (List.mem_of_getElem? (i := 140) rfl)) rfl
theorem wcode_X10_clear : Cond.code yX10_clear cX10_clear 2 (some .int) ∈ gw := gw_in (tin4 (List.mem_of_getElem? (i := 147) rfl)) rfl
theorem wcode_X5_takeBack : Cond.code yX5_takeBack cX5_takeBack 2 (some .int) ∈ gw := gw_in (tin4 (List.mem_of_getElem? (i := 155) rfl)) rfl
theorem wcode_X10_forgetDerived : Cond.code yX10_forgetDerived cX10_forgetDerived 1 none ∈ gw := gw_in (tin4 (List.mem_of_getElem? (i := 159) rfl)) rfl
theorem wcode_X10_undo : Cond.code yX10_undo cX10_undo 2 (some .int) ∈ gw := gw_in (tin4 (List.mem_of_getElem? (i := 151) rfl)) rfl
theorem wml_X10_218 : Cond.methodLink RX10 218 yX5_takeBack ∈ gw := gw_in (tin4 (List.mem_of_getElem? (i := 152) rfl)) rfl
theorem winst_X5_takeBack : Cond.instanceMethod yX5_takeBack ∈ gw := gw_in (tin4 (List.mem_of_getElem? (i := 153) rfl)) rfl
theorem wsel_X5_takeBack : Cond.selects RX5 yX5_takeBack yX5_takeBack ∈ gw := gw_in (tin4 (List.mem_of_getElem? (i := 154) rfl)) rfl
theorem wml_X10_222 : Cond.methodLink RX10 222 yX10_forgetDerived ∈ gw := gw_in (tin4 (List.mem_of_getElem? (i := 156) rfl)) rfl
theorem winst_X10_forgetDerived : Cond.instanceMethod yX10_forgetDerived ∈ gw := gw_in (tin4 (List.mem_of_getElem? (i := 158) rfl)) rfl
theorem wsel_X10_forgetDerived : Cond.selects RX10 yX10_forgetDerived yX10_forgetDerived ∈ gw := gw_sel (y := yX10_forgetDerived) (n := 14) 31 rfl
theorem wcode_X10_of : Cond.code yX10_of cX10_of 4 (some .int) ∈ gw := gw_in (tin4 (List.mem_of_getElem? (i := 163) rfl)) rfl
theorem wcode_X10_told : Cond.code yX10_told cX10_told 4 (some .int) ∈ gw := gw_in (tin4 (List.mem_of_getElem? (i := 167) rfl)) rfl
theorem wfl_X10_225 : Cond.fieldLink RX10 225 "SplitProgram$Program" "weights" "[I" ∈ gw := gw_in (tin1 (List.mem_of_getElem? (i := 77) rfl)) rfl
theorem wcode_X2_countRays : Cond.code yX2_countRays cX2_countRays 3 (some .int) ∈ gw := gw_in (tin4 (List.mem_of_getElem? (i := 175) rfl)) rfl
theorem wcode_X10_now : Cond.code yX10_now cX10_now 3 (some .int) ∈ gw := gw_in (tin4 (List.mem_of_getElem? (i := 171) rfl)) rfl
theorem wfl_X10_228 : Cond.fieldLink RX10 228 "SplitProgram$Search" "lower" "I" ∈ gw := gw_in (tin1 (List.mem_of_getElem? (i := 155) rfl)) rfl
theorem wfl_X10_231 : Cond.fieldLink RX10 231 "SplitProgram$Search" "upper" "I" ∈ gw := gw_in (tin1 (List.mem_of_getElem? (i := 158) rfl)) rfl
theorem wfl_X10_234 : Cond.fieldLink RX10 234 "SplitProgram$Search" "best" "I" ∈ gw := gw_in (tin1 (List.mem_of_getElem? (i := 161) rfl)) rfl
theorem wfl_X10_237 : Cond.fieldLink RX10 237 "SplitProgram$Search" "master" "I" ∈ gw := gw_in (tin1 (List.mem_of_getElem? (i := 164) rfl)) rfl
theorem wfl_X10_240 : Cond.fieldLink RX10 240 "SplitProgram$Search" "rounds" "I" ∈ gw := gw_in (tin1 (List.mem_of_getElem? (i := 167) rfl)) rfl
theorem wml_X10_243 : Cond.methodLink RX10 243 yX2_countRays ∈ gw := gw_in (tin4 (List.mem_of_getElem? (i := 172) rfl)) rfl
theorem winst_X2_countRays : Cond.instanceMethod yX2_countRays ∈ gw := gw_in (tin4 (List.mem_of_getElem? (i := 173) rfl)) rfl
theorem wsel_X2_countRays : Cond.selects RX2 yX2_countRays yX2_countRays ∈ gw := gw_in (tin4 (List.mem_of_getElem? (i := 174) rfl)) rfl
theorem wfl_X10_247 : Cond.fieldLink RX10 247 "SplitProgram$Search" "gone" "I" ∈ gw := gw_in (tin1 (List.mem_of_getElem? (i := 170) rfl)) rfl
theorem wcode_X10_bitsOfFloat : Cond.code yX10_bitsOfFloat cX10_bitsOfFloat 4 (some .int) ∈ gw := gw_in (tin4 (List.mem_of_getElem? (i := 183) rfl)) rfl
theorem wconf_X10_357 : Cond.constantFloat RX10 357 (1258291200) ∈ gw := gw_in (tin4 (List.mem_of_getElem? (i := 184) rfl)) rfl
theorem wcon_X10_358 : Cond.constant RX10 358 (8388607) ∈ gw := gw_in (tin4 (List.mem_of_getElem? (i := 185) rfl)) rfl
theorem wcode_X10_gap : Cond.code yX10_gap cX10_gap 2 (some .int) ∈ gw := gw_in (tin4 (List.mem_of_getElem? (i := 179) rfl)) rfl
theorem wml_X10_250 : Cond.methodLink RX10 250 yX10_gapBetween ∈ gw := gw_in (tin4 (List.mem_of_getElem? (i := 180) rfl)) rfl
theorem wml_X10_254 : Cond.methodLink RX10 254 yX10_bitsOfFloat ∈ gw := gw_in (tin4 (List.mem_of_getElem? (i := 181) rfl)) rfl
theorem wstat_X10_bitsOfFloat : Cond.static yX10_bitsOfFloat ∈ gw := gw_in (tin4 (List.mem_of_getElem? (i := 182) rfl)) rfl
theorem wcode_X10_cut : Cond.code yX10_cut cX10_cut 4 (some .int) ∈ gw := gw_in (tin4 (List.mem_of_getElem? (i := 189) rfl)) rfl
theorem wfl_X10_269 : Cond.fieldLink RX10 269 "SplitProgram$Cuts" "v" "[I" ∈ gw := gw_in (tin1 (List.mem_of_getElem? (i := 128) rfl)) rfl
theorem wfl_X10_266 : Cond.fieldLink RX10 266 "SplitProgram$Cuts" "u" "[I" ∈ gw := gw_in (tin1 (List.mem_of_getElem? (i := 126) rfl)) rfl
theorem wfl_X10_263 : Cond.fieldLink RX10 263 "SplitProgram$Cuts" "ages" "[I" ∈ gw := gw_in (tin1 (List.mem_of_getElem? (i := 124) rfl)) rfl
theorem wfl_X10_260 : Cond.fieldLink RX10 260 "SplitProgram$Cuts" "rays" "[I" ∈ gw := gw_in (tin1 (List.mem_of_getElem? (i := 121) rfl)) rfl
theorem wfl_X10_258 : Cond.fieldLink RX10 258 "SplitProgram$Cuts" "cases" "[I" ∈ gw := gw_in (tin1 (List.mem_of_getElem? (i := 117) rfl)) rfl
theorem wcode_X10_tells : Cond.code yX10_tells cX10_tells 3 (some .int) ∈ gw := gw_in (tin4 (List.mem_of_getElem? (i := 193) rfl)) rfl
theorem wcon_X10_275 : Cond.constant RX10 275 (-2147483648) ∈ gw := gw_in (tin4 (List.mem_of_getElem? (i := 195) rfl)) rfl
theorem wml_X10_272 : Cond.methodLink RX10 272 yX6_isPlan ∈ gw := gw_in (tin4 (List.mem_of_getElem? (i := 194) rfl)) rfl
theorem wml_X10_276 : Cond.methodLink RX10 276 yX2_valueAt ∈ gw := gw_in (tin4 (List.mem_of_getElem? (i := 196) rfl)) rfl
theorem wcode_X10_fitsAt : Cond.code yX10_fitsAt cX10_fitsAt 7 (some .boolean) ∈ gw := gw_in (tin4 (List.mem_of_getElem? (i := 204) rfl)) rfl
theorem wml_X10_283 : Cond.methodLink RX10 283 yX0_priceAt ∈ gw := gw_in (tin4 (List.mem_of_getElem? (i := 206) rfl)) rfl
theorem wfl_X10_286 : Cond.fieldLink RX10 286 "SplitProgram$Book" "freight" "LSplitProgram$Freight;" ∈ gw := gw_in (tin2 (List.mem_of_getElem? (i := 23) rfl)) rfl
theorem wml_X10_290 : Cond.methodLink RX10 290 yX4_lackAt ∈ gw := gw_in (tin4 (List.mem_of_getElem? (i := 205) rfl)) rfl
theorem wcode_X10_exact : Cond.code yX10_exact cX10_exact 4 (some .int) ∈ gw := gw_in (tin4 (List.mem_of_getElem? (i := 200) rfl)) rfl
theorem wml_X10_280 : Cond.methodLink RX10 280 yX10_fitsAt ∈ gw := gw_in (tin4 (List.mem_of_getElem? (i := 201) rfl)) rfl
theorem winst_X10_fitsAt : Cond.instanceMethod yX10_fitsAt ∈ gw := gw_in (tin4 (List.mem_of_getElem? (i := 203) rfl)) rfl
theorem wsel_X10_fitsAt : Cond.selects RX10 yX10_fitsAt yX10_fitsAt ∈ gw := gw_sel (y := yX10_fitsAt) (n := 14) 32 rfl
theorem wcode_X10_price : Cond.code yX10_price cX10_price 3 (some .int) ∈ gw := gw_in (tin4 (List.mem_of_getElem? (i := 210) rfl)) rfl
theorem wcode_X10_lack : Cond.code yX10_lack cX10_lack 3 (some .int) ∈ gw := gw_in (tin4 (List.mem_of_getElem? (i := 214) rfl)) rfl
theorem wcode_X10_rate : Cond.code yX10_rate cX10_rate 6 (some .int) ∈ gw := gw_in (tin4 (List.mem_of_getElem? (i := 218) rfl)) rfl
theorem wml_X10_295 : Cond.methodLink RX10 295 yX4_findRates ∈ gw := gw_in (tin4 (List.mem_of_getElem? (i := 219) rfl)) rfl
theorem wfl_X10_300 : Cond.fieldLink RX10 300 "SplitProgram$Freight" "v" "[I" ∈ gw := gw_in (tin1 (List.mem_of_getElem? (i := 233) rfl)) rfl
theorem wfl_X10_299 : Cond.fieldLink RX10 299 "SplitProgram$Freight" "u" "[I" ∈ gw := gw_in (tin1 (List.mem_of_getElem? (i := 230) rfl)) rfl
theorem wcode_X10_floor : Cond.code yX10_floor cX10_floor 2 (some .int) ∈ gw := gw_in (tin4 (List.mem_of_getElem? (i := 223) rfl)) rfl
theorem wml_X10_301 : Cond.methodLink RX10 301 yX1_freshen ∈ gw := gw_in (tin4 (List.mem_of_getElem? (i := 224) rfl)) rfl
theorem wml_X10_305 : Cond.methodLink RX10 305 yX1_floorAt ∈ gw := gw_in (tin4 (List.mem_of_getElem? (i := 225) rfl)) rfl
theorem wcode_X0_totalAt : Cond.code yX0_totalAt cX0_totalAt 6 (some .int) ∈ gw := gw_in (tin4 (List.mem_of_getElem? (i := 233) rfl)) rfl
theorem wml_X0_39 : Cond.methodLink RX0 39 yX6_feesOf ∈ gw := gw_in (tin4 (List.mem_of_getElem? (i := 234) rfl)) rfl
theorem wfl_X0_45 : Cond.fieldLink RX0 45 "SplitProgram$Program" "cases" "I" ∈ gw := gw_in (tin1 (List.mem_of_getElem? (i := 59) rfl)) rfl
theorem wml_X0_49 : Cond.methodLink RX0 49 yX0_priceAt ∈ gw := gw_in (tin4 (List.mem_of_getElem? (i := 235) rfl)) rfl
theorem wfl_X0_52 : Cond.fieldLink RX0 52 "SplitProgram$Program" "weights" "[I" ∈ gw := gw_in (tin1 (List.mem_of_getElem? (i := 75) rfl)) rfl
theorem wcode_X10_total : Cond.code yX10_total cX10_total 2 (some .int) ∈ gw := gw_in (tin4 (List.mem_of_getElem? (i := 229) rfl)) rfl
theorem wml_X10_309 : Cond.methodLink RX10 309 yX0_totalAt ∈ gw := gw_in (tin4 (List.mem_of_getElem? (i := 230) rfl)) rfl
theorem winst_X0_totalAt : Cond.instanceMethod yX0_totalAt ∈ gw := gw_in (tin4 (List.mem_of_getElem? (i := 231) rfl)) rfl
theorem wsel_X0_totalAt : Cond.selects RX0 yX0_totalAt yX0_totalAt ∈ gw := gw_in (tin4 (List.mem_of_getElem? (i := 232) rfl)) rfl
theorem wcode_X0_cheapestPlan : Cond.code yX0_cheapestPlan cX0_cheapestPlan 6 (some .int) ∈ gw := gw_in (tin5 (List.mem_of_getElem? (i := 3) rfl)) rfl
theorem wml_X0_55 : Cond.methodLink RX0 55 yX6_isPlan ∈ gw := gw_in (tin5 (List.mem_of_getElem? (i := 4) rfl)) rfl
theorem wml_X0_59 : Cond.methodLink RX0 59 yX0_totalAt ∈ gw := gw_in (tin5 (List.mem_of_getElem? (i := 5) rfl)) rfl
theorem wcode_X10_least : Cond.code yX10_least cX10_least 3 (some .int) ∈ gw := gw_in (tin4 (List.mem_of_getElem? (i := 239) rfl)) rfl
theorem wml_X10_312 : Cond.methodLink RX10 312 yX0_cheapestPlan ∈ gw := gw_in (tin5 (List.mem_of_getElem? (i := 0) rfl)) rfl
theorem winst_X0_cheapestPlan : Cond.instanceMethod yX0_cheapestPlan ∈ gw := gw_in (tin5 (List.mem_of_getElem? (i := 1) rfl)) rfl
theorem wsel_X0_cheapestPlan : Cond.selects RX0 yX0_cheapestPlan yX0_cheapestPlan ∈ gw := gw_in (tin5 (List.mem_of_getElem? (i := 2) rfl)) rfl
theorem wcode_X0_leastOfCase : Cond.code yX0_leastOfCase cX0_leastOfCase 7 (some .int) ∈ gw := gw_in (tin5 (List.mem_of_getElem? (i := 14) rfl)) rfl
theorem wml_X0_63 : Cond.methodLink RX0 63 yJ9_min_7cf53 ∈ gw := gw_in (tin5 (List.mem_of_getElem? (i := 15) rfl)) rfl
theorem wcode_X10_regret : Cond.code yX10_regret cX10_regret 7 (some .int) ∈ gw := gw_in (tin5 (List.mem_of_getElem? (i := 9) rfl)) rfl
theorem wml_X10_315 : Cond.methodLink RX10 315 yX6_feesOf ∈ gw := gw_in (tin5 (List.mem_of_getElem? (i := 10) rfl)) rfl
theorem wml_X10_318 : Cond.methodLink RX10 318 yX0_leastOfCase ∈ gw := gw_in (tin5 (List.mem_of_getElem? (i := 11) rfl)) rfl
theorem winst_X0_leastOfCase : Cond.instanceMethod yX0_leastOfCase ∈ gw := gw_in (tin5 (List.mem_of_getElem? (i := 12) rfl)) rfl
theorem wsel_X0_leastOfCase : Cond.selects RX0 yX0_leastOfCase yX0_leastOfCase ∈ gw := gw_in (tin5 (List.mem_of_getElem? (i := 13) rfl)) rfl
theorem wml_X10_321 : Cond.methodLink RX10 321 yJ9_max_7cf53 ∈ gw := gw_in (tin5 (List.mem_of_getElem? (i := 16) rfl)) rfl
theorem wcode_X6_sumOfWeights : Cond.code yX6_sumOfWeights cX6_sumOfWeights 3 (some .int) ∈ gw := gw_in (tin5 (List.mem_of_getElem? (i := 25) rfl)) rfl
theorem wcode_X10_bitsOfDouble : Cond.code yX10_bitsOfDouble cX10_bitsOfDouble 8 (some .long) ∈ gw := gw_in (tin5 (List.mem_of_getElem? (i := 28) rfl)) rfl
theorem wconl_X10_359 : Cond.constantLong RX10 359 (1023) ∈ gw := gw_in (tin5 (List.mem_of_getElem? (i := 29) rfl)) rfl
theorem wcond_X10_361 : Cond.constantDouble RX10 361 (4611686018427387904) ∈ gw := gw_in (tin5 (List.mem_of_getElem? (i := 30) rfl)) rfl
theorem wcond_X10_363 : Cond.constantDouble RX10 363 (4841369599423283200) ∈ gw := gw_in (tin5 (List.mem_of_getElem? (i := 31) rfl)) rfl
theorem wconl_X10_365 : Cond.constantLong RX10 365 (4503599627370495) ∈ gw := gw_in (tin5 (List.mem_of_getElem? (i := 32) rfl)) rfl
theorem wcode_X10_mean : Cond.code yX10_mean cX10_mean 5 (some .long) ∈ gw := gw_in (tin5 (List.mem_of_getElem? (i := 20) rfl)) rfl
theorem wconl_X10_326 : Cond.constantLong RX10 326 (-1) ∈ gw := gw_in (tin5 (List.mem_of_getElem? (i := 21) rfl)) rfl
theorem wml_X10_328 : Cond.methodLink RX10 328 yX6_sumOfWeights ∈ gw := gw_in (tin5 (List.mem_of_getElem? (i := 22) rfl)) rfl
theorem winst_X6_sumOfWeights : Cond.instanceMethod yX6_sumOfWeights ∈ gw := gw_in (tin5 (List.mem_of_getElem? (i := 23) rfl)) rfl
theorem wsel_X6_sumOfWeights : Cond.selects RX6 yX6_sumOfWeights yX6_sumOfWeights ∈ gw := gw_in (tin5 (List.mem_of_getElem? (i := 24) rfl)) rfl
theorem wml_X10_331 : Cond.methodLink RX10 331 yX10_bitsOfDouble ∈ gw := gw_in (tin5 (List.mem_of_getElem? (i := 26) rfl)) rfl
theorem wstat_X10_bitsOfDouble : Cond.static yX10_bitsOfDouble ∈ gw := gw_in (tin5 (List.mem_of_getElem? (i := 27) rfl)) rfl
theorem wcode_X10_would : Cond.code yX10_would cX10_would 4 (some .int) ∈ gw := gw_in (tin5 (List.mem_of_getElem? (i := 36) rfl)) rfl
theorem wfl_X10_75 : Cond.fieldLink RX10 75 "SplitProgram" "paperTerms" "[I" ∈ gw := gw_in (tin2 (List.mem_of_getElem? (i := 156) rfl)) rfl
theorem wfl_X10_64 : Cond.fieldLink RX10 64 "SplitProgram" "paperCuts" "LSplitProgram$Cuts;" ∈ gw := gw_in (tin2 (List.mem_of_getElem? (i := 154) rfl)) rfl
theorem wfl_X10_71 : Cond.fieldLink RX10 71 "SplitProgram" "paperSearch" "LSplitProgram$Search;" ∈ gw := gw_in (tin2 (List.mem_of_getElem? (i := 155) rfl)) rfl
theorem wcode_X10_image : Cond.code yX10_image cX10_image 2 (some .int) ∈ gw := gw_in (tin5 (List.mem_of_getElem? (i := 40) rfl)) rfl
theorem wfl_X10_48 : Cond.fieldLink RX10 48 "SplitProgram" "images" "[LSplitProgram$State;" ∈ gw := gw_in (tin2 (List.mem_of_getElem? (i := 151) rfl)) rfl
theorem wml_X10_335 : Cond.methodLink RX10 335 yX8_copyFrom ∈ gw := gw_in (tin5 (List.mem_of_getElem? (i := 41) rfl)) rfl
theorem wfl_X10_52 : Cond.fieldLink RX10 52 "SplitProgram" "imageTerms" "[I" ∈ gw := gw_in (tin2 (List.mem_of_getElem? (i := 152) rfl)) rfl
theorem wml_X10_338 : Cond.methodLink RX10 338 arraycopyName ∈ gw := gw_in (tin5 (List.mem_of_getElem? (i := 42) rfl)) rfl
theorem wfl_X10_55 : Cond.fieldLink RX10 55 "SplitProgram" "imageKept" "[Z" ∈ gw := gw_in (tin2 (List.mem_of_getElem? (i := 153) rfl)) rfl
theorem wcode_X10_back : Cond.code yX10_back cX10_back 2 (some .int) ∈ gw := gw_in (tin5 (List.mem_of_getElem? (i := 46) rfl)) rfl
theorem wfl_X10_344 : Cond.fieldLink RX10 344 "SplitProgram$History" "size" "I" ∈ gw := gw_in (tin2 (List.mem_of_getElem? (i := 130) rfl)) rfl
theorem wcode_X6_countRoads : Cond.code yX6_countRoads cX6_countRoads 3 (some .int) ∈ gw := gw_in (tin5 (List.mem_of_getElem? (i := 54) rfl)) rfl
theorem wcode_X6_countPlans : Cond.code yX6_countPlans cX6_countPlans 3 (some .int) ∈ gw := gw_in (tin5 (List.mem_of_getElem? (i := 58) rfl)) rfl
theorem wcode_X10_count : Cond.code yX10_count cX10_count 3 (some .int) ∈ gw := gw_in (tin5 (List.mem_of_getElem? (i := 50) rfl)) rfl
theorem wml_X10_345 : Cond.methodLink RX10 345 yX6_countRoads ∈ gw := gw_in (tin5 (List.mem_of_getElem? (i := 51) rfl)) rfl
theorem winst_X6_countRoads : Cond.instanceMethod yX6_countRoads ∈ gw := gw_in (tin5 (List.mem_of_getElem? (i := 52) rfl)) rfl
theorem wsel_X6_countRoads : Cond.selects RX6 yX6_countRoads yX6_countRoads ∈ gw := gw_in (tin5 (List.mem_of_getElem? (i := 53) rfl)) rfl
theorem wml_X10_348 : Cond.methodLink RX10 348 yX6_countPlans ∈ gw := gw_in (tin5 (List.mem_of_getElem? (i := 55) rfl)) rfl
theorem winst_X6_countPlans : Cond.instanceMethod yX6_countPlans ∈ gw := gw_in (tin5 (List.mem_of_getElem? (i := 56) rfl)) rfl
theorem wsel_X6_countPlans : Cond.selects RX6 yX6_countPlans yX6_countPlans ∈ gw := gw_in (tin5 (List.mem_of_getElem? (i := 57) rfl)) rfl
theorem wcode_X10_status : Cond.code yX10_status cX10_status 1 (some .int) ∈ gw := gw_in (tin5 (List.mem_of_getElem? (i := 62) rfl)) rfl
theorem wcode_X6_init : Cond.code yX6_init cX6_init 1 none ∈ gw := gw_in (tin1 (List.mem_of_getElem? (i := 41) rfl)) rfl
theorem wml_X6_3 : Cond.methodLink RX6 3 Lib.objectInit ∈ gw := gw_in (tin1 (List.mem_of_getElem? (i := 42) rfl)) rfl
theorem winst_java_lang_Object__init_ : Cond.instanceMethod Lib.objectInit ∈ gw := gw_in (tin1 (List.mem_of_getElem? (i := 29) rfl)) rfl
theorem wcode_java_lang_Object__init_ : Cond.code Lib.objectInit ⟨#[0xb1]⟩ 1 none ∈ gw := gw_in (tin1 (List.mem_of_getElem? (i := 30) rfl)) rfl
theorem warr_int : Cond.arrayClass .int ∈ gw := gw_in (tin1 (List.mem_of_getElem? (i := 102) rfl)) rfl
theorem wcode_X2_init : Cond.code yX2_init cX2_init 2 none ∈ gw := gw_in (tin1 (List.mem_of_getElem? (i := 107) rfl)) rfl
theorem wml_X2_3 : Cond.methodLink RX2 3 Lib.objectInit ∈ gw := gw_in (tin1 (List.mem_of_getElem? (i := 108) rfl)) rfl
theorem wcode_X7_init : Cond.code yX7_init cX7_init 1 none ∈ gw := gw_in (tin1 (List.mem_of_getElem? (i := 148) rfl)) rfl
theorem wml_X7_3 : Cond.methodLink RX7 3 Lib.objectInit ∈ gw := gw_in (tin1 (List.mem_of_getElem? (i := 149) rfl)) rfl
theorem wcode_X8_init : Cond.code yX8_init cX8_init 1 none ∈ gw := gw_in (tin1 (List.mem_of_getElem? (i := 35) rfl)) rfl
theorem wml_X8_3 : Cond.methodLink RX8 3 Lib.objectInit ∈ gw := gw_in (tin1 (List.mem_of_getElem? (i := 36) rfl)) rfl
theorem wml_X8_11 : Cond.methodLink RX8 11 yX6_init ∈ gw := gw_in (tin1 (List.mem_of_getElem? (i := 39) rfl)) rfl
theorem wml_X8_20 : Cond.methodLink RX8 20 yX2_init ∈ gw := gw_in (tin1 (List.mem_of_getElem? (i := 105) rfl)) rfl
theorem wmn_X8_29 : Cond.methodLinkNest RX8 29 yX7_init "SplitProgram" ∈ nestW := nest_of (tin1 (List.mem_of_getElem? (i := 146) rfl)) rfl
theorem winst_X7_init : Cond.instanceMethod yX7_init ∈ gw := gw_in (tin1 (List.mem_of_getElem? (i := 147) rfl)) rfl
theorem wcl_X8_27 : Cond.classLink RX8 27 RX7 ∈ gw := gw_in (tin1 (List.mem_of_getElem? (i := 144) rfl)) rfl
theorem wins_X7 : Cond.instantiable RX7 7 ∈ gw := gw_in (tin1 (List.mem_of_getElem? (i := 145) rfl)) rfl
theorem winst_X2_init : Cond.instanceMethod yX2_init ∈ gw := gw_in (tin1 (List.mem_of_getElem? (i := 106) rfl)) rfl
theorem wcl_X8_18 : Cond.classLink RX8 18 RX2 ∈ gw := gw_in (tin1 (List.mem_of_getElem? (i := 103) rfl)) rfl
theorem wins_X2 : Cond.instantiable RX2 7 ∈ gw := gw_in (tin1 (List.mem_of_getElem? (i := 104) rfl)) rfl
theorem winst_X6_init : Cond.instanceMethod yX6_init ∈ gw := gw_in (tin1 (List.mem_of_getElem? (i := 40) rfl)) rfl
theorem wcl_X8_9 : Cond.classLink RX8 9 RX6 ∈ gw := gw_in (tin1 (List.mem_of_getElem? (i := 37) rfl)) rfl
theorem wins_X6 : Cond.instantiable RX6 9 ∈ gw := gw_in (tin1 (List.mem_of_getElem? (i := 38) rfl)) rfl
theorem wcode_X4_init : Cond.code yX4_init cX4_init 1 none ∈ gw := gw_in (tin1 (List.mem_of_getElem? (i := 215) rfl)) rfl
theorem wml_X4_3 : Cond.methodLink RX4 3 Lib.objectInit ∈ gw := gw_in (tin1 (List.mem_of_getElem? (i := 216) rfl)) rfl
theorem warr_boolean : Cond.arrayClass .boolean ∈ gw := gw_in (tin2 (List.mem_of_getElem? (i := 19) rfl)) rfl
theorem wcode_X0_init : Cond.code yX0_init cX0_init 1 none ∈ gw := gw_in (tin1 (List.mem_of_getElem? (i := 209) rfl)) rfl
theorem wml_X0_3 : Cond.methodLink RX0 3 Lib.objectInit ∈ gw := gw_in (tin1 (List.mem_of_getElem? (i := 210) rfl)) rfl
theorem wmn_X0_11 : Cond.methodLinkNest RX0 11 yX4_init "SplitProgram" ∈ nestW := nest_of (tin1 (List.mem_of_getElem? (i := 213) rfl)) rfl
theorem winst_X4_init : Cond.instanceMethod yX4_init ∈ gw := gw_in (tin1 (List.mem_of_getElem? (i := 214) rfl)) rfl
theorem wcl_X0_9 : Cond.classLink RX0 9 RX4 ∈ gw := gw_in (tin1 (List.mem_of_getElem? (i := 211) rfl)) rfl
theorem wins_X4 : Cond.instantiable RX4 12 ∈ gw := gw_in (tin1 (List.mem_of_getElem? (i := 212) rfl)) rfl
theorem wcode_X1_init : Cond.code yX1_init cX1_init 1 none ∈ gw := gw_in (tin2 (List.mem_of_getElem? (i := 34) rfl)) rfl
theorem wml_X1_3 : Cond.methodLink RX1 3 Lib.objectInit ∈ gw := gw_in (tin2 (List.mem_of_getElem? (i := 35) rfl)) rfl
theorem wcode_X3_init : Cond.code yX3_init cX3_init 1 none ∈ gw := gw_in (tin1 (List.mem_of_getElem? (i := 203) rfl)) rfl
theorem wml_X3_3 : Cond.methodLink RX3 3 Lib.objectInit ∈ gw := gw_in (tin1 (List.mem_of_getElem? (i := 204) rfl)) rfl
theorem wml_X3_11 : Cond.methodLink RX3 11 yX0_init ∈ gw := gw_in (tin1 (List.mem_of_getElem? (i := 207) rfl)) rfl
theorem wmn_X3_20 : Cond.methodLinkNest RX3 20 yX1_init "SplitProgram" ∈ nestW := nest_of (tin2 (List.mem_of_getElem? (i := 32) rfl)) rfl
theorem winst_X1_init : Cond.instanceMethod yX1_init ∈ gw := gw_in (tin2 (List.mem_of_getElem? (i := 33) rfl)) rfl
theorem wcl_X3_18 : Cond.classLink RX3 18 RX1 ∈ gw := gw_in (tin2 (List.mem_of_getElem? (i := 30) rfl)) rfl
theorem wins_X1 : Cond.instantiable RX1 3 ∈ gw := gw_in (tin2 (List.mem_of_getElem? (i := 31) rfl)) rfl
theorem winst_X0_init : Cond.instanceMethod yX0_init ∈ gw := gw_in (tin1 (List.mem_of_getElem? (i := 208) rfl)) rfl
theorem wcl_X3_9 : Cond.classLink RX3 9 RX0 ∈ gw := gw_in (tin1 (List.mem_of_getElem? (i := 205) rfl)) rfl
theorem wins_X0 : Cond.instantiable RX0 2 ∈ gw := gw_in (tin1 (List.mem_of_getElem? (i := 206) rfl)) rfl
theorem wcode_X9_init : Cond.code yX9_init cX9_init 1 none ∈ gw := gw_in (tin2 (List.mem_of_getElem? (i := 92) rfl)) rfl
theorem wml_X9_3 : Cond.methodLink RX9 3 Lib.objectInit ∈ gw := gw_in (tin2 (List.mem_of_getElem? (i := 93) rfl)) rfl
theorem warr_byte : Cond.arrayClass .byte ∈ gw := gw_in (tin2 (List.mem_of_getElem? (i := 115) rfl)) rfl
theorem wcode_X5_init : Cond.code yX5_init cX5_init 2 none ∈ gw := gw_in (tin2 (List.mem_of_getElem? (i := 122) rfl)) rfl
theorem wml_X5_3 : Cond.methodLink RX5 3 Lib.objectInit ∈ gw := gw_in (tin2 (List.mem_of_getElem? (i := 123) rfl)) rfl
theorem wmn_X5_21 : Cond.methodLinkNest RX5 21 yX8_init "SplitProgram" ∈ nestW := nest_of (tin2 (List.mem_of_getElem? (i := 126) rfl)) rfl
theorem winst_X8_init : Cond.instanceMethod yX8_init ∈ gw := gw_in (tin1 (List.mem_of_getElem? (i := 34) rfl)) rfl
theorem wcl_X5_9 : Cond.classLink RX5 9 RX8 ∈ gw := gw_in (tin2 (List.mem_of_getElem? (i := 124) rfl)) rfl
theorem wins_X8 : Cond.instantiable RX8 3 ∈ gw := gw_in (tin1 (List.mem_of_getElem? (i := 32) rfl)) rfl
theorem wcode_X10_init : Cond.code yX10_init cX10_init 2 none ∈ gw := gw_in (tin1 (List.mem_of_getElem? (i := 27) rfl)) rfl
theorem wml_X10_1 : Cond.methodLink RX10 1 Lib.objectInit ∈ gw := gw_in (tin1 (List.mem_of_getElem? (i := 28) rfl)) rfl
theorem wmn_X10_9 : Cond.methodLinkNest RX10 9 yX8_init "SplitProgram" ∈ nestW := nest_of (tin1 (List.mem_of_getElem? (i := 33) rfl)) rfl
theorem wmn_X10_22 : Cond.methodLinkNest RX10 22 yX3_init "SplitProgram" ∈ nestW := nest_of (tin1 (List.mem_of_getElem? (i := 201) rfl)) rfl
theorem wmn_X10_29 : Cond.methodLinkNest RX10 29 yX9_init "SplitProgram" ∈ nestW := nest_of (tin2 (List.mem_of_getElem? (i := 90) rfl)) rfl
theorem wml_X10_36 : Cond.methodLink RX10 36 yX6_init ∈ gw := gw_in (tin2 (List.mem_of_getElem? (i := 117) rfl)) rfl
theorem wml_X10_43 : Cond.methodLink RX10 43 yX5_init ∈ gw := gw_in (tin2 (List.mem_of_getElem? (i := 120) rfl)) rfl
theorem wml_X10_61 : Cond.methodLink RX10 61 yX2_init ∈ gw := gw_in (tin2 (List.mem_of_getElem? (i := 142) rfl)) rfl
theorem wmn_X10_70 : Cond.methodLinkNest RX10 70 yX7_init "SplitProgram" ∈ nestW := nest_of (tin2 (List.mem_of_getElem? (i := 144) rfl)) rfl
theorem wcl_X10_7 : Cond.classLink RX10 7 RX8 ∈ gw := gw_in (tin1 (List.mem_of_getElem? (i := 31) rfl)) rfl
theorem wcl_X10_68 : Cond.classLink RX10 68 RX7 ∈ gw := gw_in (tin2 (List.mem_of_getElem? (i := 143) rfl)) rfl
theorem wcl_X10_59 : Cond.classLink RX10 59 RX2 ∈ gw := gw_in (tin2 (List.mem_of_getElem? (i := 141) rfl)) rfl
theorem winst_X5_init : Cond.instanceMethod yX5_init ∈ gw := gw_in (tin2 (List.mem_of_getElem? (i := 121) rfl)) rfl
theorem wcl_X10_41 : Cond.classLink RX10 41 RX5 ∈ gw := gw_in (tin2 (List.mem_of_getElem? (i := 118) rfl)) rfl
theorem wins_X5 : Cond.instantiable RX5 4 ∈ gw := gw_in (tin2 (List.mem_of_getElem? (i := 119) rfl)) rfl
theorem wcl_X10_34 : Cond.classLink RX10 34 RX6 ∈ gw := gw_in (tin2 (List.mem_of_getElem? (i := 116) rfl)) rfl
theorem winst_X9_init : Cond.instanceMethod yX9_init ∈ gw := gw_in (tin2 (List.mem_of_getElem? (i := 91) rfl)) rfl
theorem wcl_X10_27 : Cond.classLink RX10 27 RX9 ∈ gw := gw_in (tin2 (List.mem_of_getElem? (i := 88) rfl)) rfl
theorem wins_X9 : Cond.instantiable RX9 6 ∈ gw := gw_in (tin2 (List.mem_of_getElem? (i := 89) rfl)) rfl
theorem winst_X3_init : Cond.instanceMethod yX3_init ∈ gw := gw_in (tin1 (List.mem_of_getElem? (i := 202) rfl)) rfl
theorem wcl_X10_20 : Cond.classLink RX10 20 RX3 ∈ gw := gw_in (tin1 (List.mem_of_getElem? (i := 199) rfl)) rfl
theorem wins_X3 : Cond.instantiable RX3 12 ∈ gw := gw_in (tin1 (List.mem_of_getElem? (i := 200) rfl)) rfl
theorem wcode_X11_forgets : Cond.code yX11_forgets cX11_forgets 1 none ∈ gw := gw_in (tin5 (List.mem_of_getElem? (i := 76) rfl)) rfl
theorem wini_SplitProgramModel : Cond.initialized "SplitProgramModel" ∈ gw := gw_in (tin1 (List.mem_of_getElem? (i := 13) rfl)) rfl
theorem win_11 : ∀ w ∈ u_ws RX11 TX11 29, w ∈ gw := (List.forall_mem_cons.mpr ⟨gw_in (tin5 (List.mem_of_getElem? (i := 106) rfl)) rfl, (List.forall_mem_cons.mpr ⟨gw_in (tin5 (List.mem_of_getElem? (i := 108) rfl)) rfl, (List.forall_mem_cons.mpr ⟨gw_in (tin5 (List.mem_of_getElem? (i := 110) rfl)) rfl, (List.forall_mem_cons.mpr ⟨gw_in (tin5 (List.mem_of_getElem? (i := 112) rfl)) rfl, (List.forall_mem_cons.mpr ⟨gw_in (tin5 (List.mem_of_getElem? (i := 114) rfl)) rfl, (List.forall_mem_cons.mpr ⟨gw_in (tin5 (List.mem_of_getElem? (i := 116) rfl)) rfl, (List.forall_mem_cons.mpr ⟨gw_in (tin5 (List.mem_of_getElem? (i := 118) rfl)) rfl, (List.forall_mem_cons.mpr ⟨gw_in (tin5 (List.mem_of_getElem? (i := 120) rfl)) rfl, (List.forall_mem_cons.mpr ⟨gw_in (tin5 (List.mem_of_getElem? (i := 122) rfl)) rfl, (List.forall_mem_cons.mpr ⟨gw_in (tin5 (List.mem_of_getElem? (i := 124) rfl)) rfl, (List.forall_mem_cons.mpr ⟨gw_in (tin5 (List.mem_of_getElem? (i := 126) rfl)) rfl, (List.forall_mem_cons.mpr ⟨gw_in (tin5 (List.mem_of_getElem? (i := 128) rfl)) rfl, (List.forall_mem_cons.mpr ⟨gw_in (tin5 (List.mem_of_getElem? (i := 130) rfl)) rfl, (List.forall_mem_cons.mpr ⟨gw_in (tin5 (List.mem_of_getElem? (i := 132) rfl)) rfl, (List.forall_mem_cons.mpr ⟨gw_in (tin5 (List.mem_of_getElem? (i := 134) rfl)) rfl, (List.forall_mem_cons.mpr ⟨gw_in (tin5 (List.mem_of_getElem? (i := 136) rfl)) rfl, (List.forall_mem_cons.mpr ⟨gw_in (tin5 (List.mem_of_getElem? (i := 138) rfl)) rfl, (List.forall_mem_cons.mpr ⟨gw_in (tin5 (List.mem_of_getElem? (i := 140) rfl)) rfl, (List.forall_mem_cons.mpr ⟨gw_in (tin5 (List.mem_of_getElem? (i := 142) rfl)) rfl, (List.forall_mem_cons.mpr ⟨gw_in (tin5 (List.mem_of_getElem? (i := 144) rfl)) rfl, (List.forall_mem_cons.mpr ⟨gw_in (tin5 (List.mem_of_getElem? (i := 146) rfl)) rfl, (List.forall_mem_cons.mpr ⟨gw_in (tin5 (List.mem_of_getElem? (i := 148) rfl)) rfl, (List.forall_mem_cons.mpr ⟨gw_in (tin5 (List.mem_of_getElem? (i := 150) rfl)) rfl, (List.forall_mem_cons.mpr ⟨gw_in (tin5 (List.mem_of_getElem? (i := 152) rfl)) rfl, (List.forall_mem_cons.mpr ⟨gw_in (tin5 (List.mem_of_getElem? (i := 154) rfl)) rfl, (List.forall_mem_cons.mpr ⟨gw_in (tin5 (List.mem_of_getElem? (i := 156) rfl)) rfl, (List.forall_mem_cons.mpr ⟨gw_in (tin5 (List.mem_of_getElem? (i := 158) rfl)) rfl, (List.forall_mem_cons.mpr ⟨gw_in (tin5 (List.mem_of_getElem? (i := 160) rfl)) rfl, (List.forall_mem_cons.mpr ⟨gw_in (tin5 (List.mem_of_getElem? (i := 162) rfl)) rfl, (fun _ h => by cases h)⟩)⟩)⟩)⟩)⟩)⟩)⟩)⟩)⟩)⟩)⟩)⟩)⟩)⟩)⟩)⟩)⟩)⟩)⟩)⟩)⟩)⟩)⟩)⟩)⟩)⟩)⟩)⟩)⟩)
theorem wfl_X11_22 : Cond.fieldLink RX11 22 "SplitProgramModel" "now" "[I" ∈ gw := gw_in (tin5 (List.mem_of_getElem? (i := 82) rfl)) rfl
theorem wcode_X11_empties : Cond.code yX11_empties cX11_empties 2 none ∈ gw := gw_in (tin5 (List.mem_of_getElem? (i := 72) rfl)) rfl
theorem wml_X11_69 : Cond.methodLink RX11 69 yX11_forgets ∈ gw := gw_in (tin5 (List.mem_of_getElem? (i := 73) rfl)) rfl
theorem winst_X11_forgets : Cond.instanceMethod yX11_forgets ∈ gw := gw_in (tin5 (List.mem_of_getElem? (i := 75) rfl)) rfl
theorem wsel_X11_forgets : Cond.selects RX11 yX11_forgets yX11_forgets ∈ gw := gw_sel (y := yX11_forgets) (n := 29) 34 rfl
theorem wcode_X11_init : Cond.code yX11_init cX11_init 1 none ∈ gw := gw_in (tin5 (List.mem_of_getElem? (i := 67) rfl)) rfl
theorem wml_X11_1 : Cond.methodLink RX11 1 Lib.objectInit ∈ gw := gw_in (tin5 (List.mem_of_getElem? (i := 68) rfl)) rfl
theorem wfl_X11_7 : Cond.fieldLink RX11 7 "SplitProgramModel" "refusals" "[I" ∈ gw := gw_in (tin5 (List.mem_of_getElem? (i := 78) rfl)) rfl
theorem wfl_X11_13 : Cond.fieldLink RX11 13 "SplitProgramModel" "terms" "[I" ∈ gw := gw_in (tin5 (List.mem_of_getElem? (i := 79) rfl)) rfl
theorem wfl_X11_16 : Cond.fieldLink RX11 16 "SplitProgramModel" "least" "[I" ∈ gw := gw_in (tin5 (List.mem_of_getElem? (i := 80) rfl)) rfl
theorem wfl_X11_19 : Cond.fieldLink RX11 19 "SplitProgramModel" "most" "[I" ∈ gw := gw_in (tin5 (List.mem_of_getElem? (i := 81) rfl)) rfl
theorem wfl_X11_25 : Cond.fieldLink RX11 25 "SplitProgramModel" "ahead" "[I" ∈ gw := gw_in (tin5 (List.mem_of_getElem? (i := 83) rfl)) rfl
theorem wfl_X11_28 : Cond.fieldLink RX11 28 "SplitProgramModel" "aside" "[I" ∈ gw := gw_in (tin5 (List.mem_of_getElem? (i := 84) rfl)) rfl
theorem wfl_X11_31 : Cond.fieldLink RX11 31 "SplitProgramModel" "tape" "[I" ∈ gw := gw_in (tin5 (List.mem_of_getElem? (i := 85) rfl)) rfl
theorem wfl_X11_34 : Cond.fieldLink RX11 34 "SplitProgramModel" "fault" "I" ∈ gw := gw_in (tin5 (List.mem_of_getElem? (i := 87) rfl)) rfl
theorem wfl_X11_38 : Cond.fieldLink RX11 38 "SplitProgramModel" "undone" "[I" ∈ gw := gw_in (tin5 (List.mem_of_getElem? (i := 88) rfl)) rfl
theorem wfl_X11_41 : Cond.fieldLink RX11 41 "SplitProgramModel" "undoneWhat" "[I" ∈ gw := gw_in (tin5 (List.mem_of_getElem? (i := 89) rfl)) rfl
theorem wfl_X11_44 : Cond.fieldLink RX11 44 "SplitProgramModel" "images" "[I" ∈ gw := gw_in (tin5 (List.mem_of_getElem? (i := 92) rfl)) rfl
theorem wfl_X11_47 : Cond.fieldLink RX11 47 "SplitProgramModel" "hasImage" "[Z" ∈ gw := gw_in (tin5 (List.mem_of_getElem? (i := 93) rfl)) rfl
theorem wfl_X11_51 : Cond.fieldLink RX11 51 "SplitProgramModel" "u" "[I" ∈ gw := gw_in (tin5 (List.mem_of_getElem? (i := 100) rfl)) rfl
theorem wfl_X11_54 : Cond.fieldLink RX11 54 "SplitProgramModel" "v" "[I" ∈ gw := gw_in (tin5 (List.mem_of_getElem? (i := 101) rfl)) rfl
theorem wfl_X11_57 : Cond.fieldLink RX11 57 "SplitProgramModel" "nearest" "[I" ∈ gw := gw_in (tin5 (List.mem_of_getElem? (i := 102) rfl)) rfl
theorem wfl_X11_60 : Cond.fieldLink RX11 60 "SplitProgramModel" "comesNew" "[I" ∈ gw := gw_in (tin5 (List.mem_of_getElem? (i := 103) rfl)) rfl
theorem wfl_X11_63 : Cond.fieldLink RX11 63 "SplitProgramModel" "were" "[I" ∈ gw := gw_in (tin5 (List.mem_of_getElem? (i := 105) rfl)) rfl
theorem wml_X11_66 : Cond.methodLink RX11 66 yX11_empties ∈ gw := gw_in (tin5 (List.mem_of_getElem? (i := 69) rfl)) rfl
theorem winst_X11_empties : Cond.instanceMethod yX11_empties ∈ gw := gw_in (tin5 (List.mem_of_getElem? (i := 71) rfl)) rfl
theorem wsel_X11_empties : Cond.selects RX11 yX11_empties yX11_empties ∈ gw := gw_sel (y := yX11_empties) (n := 29) 33 rfl
theorem wcode_X11_isIn : Cond.code yX11_isIn cX11_isIn 3 (some .boolean) ∈ gw := gw_in (tin5 (List.mem_of_getElem? (i := 183) rfl)) rfl
theorem wcode_X11_refuses : Cond.code yX11_refuses cX11_refuses 2 (some .int) ∈ gw := gw_in (tin5 (List.mem_of_getElem? (i := 172) rfl)) rfl
theorem wfl_X11_72 : Cond.fieldLink RX11 72 "SplitProgramModel" "status" "I" ∈ gw := gw_in (tin5 (List.mem_of_getElem? (i := 77) rfl)) rfl
theorem wcode_X11_tells : Cond.code yX11_tells cX11_tells 2 (some .int) ∈ gw := gw_in (tin5 (List.mem_of_getElem? (i := 176) rfl)) rfl
theorem wcode_X11_terms : Cond.code yX11_terms cX11_terms 4 (some .int) ∈ gw := gw_in (tin5 (List.mem_of_getElem? (i := 191) rfl)) rfl
theorem wml_X11_75 : Cond.methodLink RX11 75 yX11_isIn ∈ gw := gw_in (tin5 (List.mem_of_getElem? (i := 181) rfl)) rfl
theorem wstat_X11_isIn : Cond.static yX11_isIn ∈ gw := gw_in (tin5 (List.mem_of_getElem? (i := 182) rfl)) rfl
theorem wml_X11_85 : Cond.methodLink RX11 85 yX11_refuses ∈ gw := gw_in (tin5 (List.mem_of_getElem? (i := 169) rfl)) rfl
theorem winst_X11_refuses : Cond.instanceMethod yX11_refuses ∈ gw := gw_in (tin5 (List.mem_of_getElem? (i := 171) rfl)) rfl
theorem wsel_X11_refuses : Cond.selects RX11 yX11_refuses yX11_refuses ∈ gw := gw_sel (y := yX11_refuses) (n := 29) 35 rfl
theorem wml_X11_89 : Cond.methodLink RX11 89 yX11_tells ∈ gw := gw_in (tin5 (List.mem_of_getElem? (i := 173) rfl)) rfl
theorem winst_X11_tells : Cond.instanceMethod yX11_tells ∈ gw := gw_in (tin5 (List.mem_of_getElem? (i := 175) rfl)) rfl
theorem wsel_X11_tells : Cond.selects RX11 yX11_tells yX11_tells ∈ gw := gw_sel (y := yX11_tells) (n := 29) 36 rfl
theorem wcode_X11_types : Cond.code yX11_types cX11_types 3 none ∈ gw := gw_in (tin5 (List.mem_of_getElem? (i := 199) rfl)) rfl
theorem wfl_X11_92 : Cond.fieldLink RX11 92 "SplitProgramModel" "taped" "I" ∈ gw := gw_in (tin5 (List.mem_of_getElem? (i := 86) rfl)) rfl
theorem wcode_X11_feed : Cond.code yX11_feed cX11_feed 6 (some .int) ∈ gw := gw_in (tin5 (List.mem_of_getElem? (i := 195) rfl)) rfl
theorem wml_X11_95 : Cond.methodLink RX11 95 yX11_types ∈ gw := gw_in (tin5 (List.mem_of_getElem? (i := 196) rfl)) rfl
theorem winst_X11_types : Cond.instanceMethod yX11_types ∈ gw := gw_in (tin5 (List.mem_of_getElem? (i := 198) rfl)) rfl
theorem wsel_X11_types : Cond.selects RX11 yX11_types yX11_types ∈ gw := gw_sel (y := yX11_types) (n := 29) 37 rfl
theorem wcode_X11_end : Cond.code yX11_end cX11_end 2 (some .int) ∈ gw := gw_in (tin5 (List.mem_of_getElem? (i := 203) rfl)) rfl
theorem wcode_X11_keepsAhead : Cond.code yX11_keepsAhead cX11_keepsAhead 2 none ∈ gw := gw_in (tin5 (List.mem_of_getElem? (i := 211) rfl)) rfl
theorem wcode_X11_isLetter : Cond.code yX11_isLetter cX11_isLetter 1 (some .boolean) ∈ gw := gw_in (tin5 (List.mem_of_getElem? (i := 218) rfl)) rfl
theorem wcode_X11_isDigit : Cond.code yX11_isDigit cX11_isDigit 1 (some .boolean) ∈ gw := gw_in (tin5 (List.mem_of_getElem? (i := 221) rfl)) rfl
theorem wcode_X11_reads : Cond.code yX11_reads cX11_reads 1 none ∈ gw := gw_in (tin5 (List.mem_of_getElem? (i := 215) rfl)) rfl
theorem wfl_X11_99 : Cond.fieldLink RX11 99 "SplitProgramModel" "to" "I" ∈ gw := gw_in (tin5 (List.mem_of_getElem? (i := 96) rfl)) rfl
theorem wfl_X11_102 : Cond.fieldLink RX11 102 "SplitProgramModel" "from" "I" ∈ gw := gw_in (tin5 (List.mem_of_getElem? (i := 95) rfl)) rfl
theorem wfl_X11_105 : Cond.fieldLink RX11 105 "SplitProgramModel" "size" "I" ∈ gw := gw_in (tin5 (List.mem_of_getElem? (i := 94) rfl)) rfl
theorem wml_X11_108 : Cond.methodLink RX11 108 yX11_isLetter ∈ gw := gw_in (tin5 (List.mem_of_getElem? (i := 216) rfl)) rfl
theorem wstat_X11_isLetter : Cond.static yX11_isLetter ∈ gw := gw_in (tin5 (List.mem_of_getElem? (i := 217) rfl)) rfl
theorem wml_X11_112 : Cond.methodLink RX11 112 yX11_isDigit ∈ gw := gw_in (tin5 (List.mem_of_getElem? (i := 219) rfl)) rfl
theorem wstat_X11_isDigit : Cond.static yX11_isDigit ∈ gw := gw_in (tin5 (List.mem_of_getElem? (i := 220) rfl)) rfl
theorem wcode_X11_isWord : Cond.code yX11_isWord cX11_isWord 3 (some .boolean) ∈ gw := gw_in (tin5 (List.mem_of_getElem? (i := 230) rfl)) rfl
theorem wml_X11_115 : Cond.methodLink RX11 115 yJ0_length_8abf5 ∈ gw := gw_in (tin5 (List.mem_of_getElem? (i := 231) rfl)) rfl
theorem wml_X11_121 : Cond.methodLink RX11 121 yJ0_charAt_5068e ∈ gw := gw_in (tin5 (List.mem_of_getElem? (i := 232) rfl)) rfl
theorem wcode_X11_wrong : Cond.code yX11_wrong cX11_wrong 1 none ∈ gw := gw_in (tin6 (List.mem_of_getElem? (i := 0) rfl)) rfl
theorem wfl_X11_125 : Cond.fieldLink RX11 125 "SplitProgramModel" "isBad" "Z" ∈ gw := gw_in (tin5 (List.mem_of_getElem? (i := 97) rfl)) rfl
theorem wcode_X11_isNumber : Cond.code yX11_isNumber cX11_isNumber 1 (some .boolean) ∈ gw := gw_in (tin6 (List.mem_of_getElem? (i := 8) rfl)) rfl
theorem wcode_X11_number : Cond.code yX11_number cX11_number 5 (some .int) ∈ gw := gw_in (tin6 (List.mem_of_getElem? (i := 4) rfl)) rfl
theorem wml_X11_129 : Cond.methodLink RX11 129 yX11_isNumber ∈ gw := gw_in (tin6 (List.mem_of_getElem? (i := 5) rfl)) rfl
theorem winst_X11_isNumber : Cond.instanceMethod yX11_isNumber ∈ gw := gw_in (tin6 (List.mem_of_getElem? (i := 7) rfl)) rfl
theorem wsel_X11_isNumber : Cond.selects RX11 yX11_isNumber yX11_isNumber ∈ gw := gw_sel (y := yX11_isNumber) (n := 29) 45 rfl
theorem wml_X11_134 : Cond.methodLink RX11 134 yX11_wrong ∈ gw := gw_in (tin5 (List.mem_of_getElem? (i := 237) rfl)) rfl
theorem winst_X11_wrong : Cond.instanceMethod yX11_wrong ∈ gw := gw_in (tin5 (List.mem_of_getElem? (i := 239) rfl)) rfl
theorem wsel_X11_wrong : Cond.selects RX11 yX11_wrong yX11_wrong ∈ gw := gw_sel (y := yX11_wrong) (n := 29) 43 rfl
theorem wml_X11_137 : Cond.methodLink RX11 137 yX11_reads ∈ gw := gw_in (tin5 (List.mem_of_getElem? (i := 212) rfl)) rfl
theorem winst_X11_reads : Cond.instanceMethod yX11_reads ∈ gw := gw_in (tin5 (List.mem_of_getElem? (i := 214) rfl)) rfl
theorem wsel_X11_reads : Cond.selects RX11 yX11_reads yX11_reads ∈ gw := gw_sel (y := yX11_reads) (n := 29) 39 rfl
theorem wcon_X11_133 : Cond.constant RX11 133 (100000) ∈ gw := gw_in (tin6 (List.mem_of_getElem? (i := 9) rfl)) rfl
theorem wcode_X11_comesPlant : Cond.code yX11_comesPlant cX11_comesPlant 5 none ∈ gw := gw_in (tin6 (List.mem_of_getElem? (i := 13) rfl)) rfl
theorem wcode_X11_plantLine : Cond.code yX11_plantLine cX11_plantLine 4 none ∈ gw := gw_in (tin5 (List.mem_of_getElem? (i := 236) rfl)) rfl
theorem wml_X11_140 : Cond.methodLink RX11 140 yX11_number ∈ gw := gw_in (tin6 (List.mem_of_getElem? (i := 1) rfl)) rfl
theorem winst_X11_number : Cond.instanceMethod yX11_number ∈ gw := gw_in (tin6 (List.mem_of_getElem? (i := 3) rfl)) rfl
theorem wsel_X11_number : Cond.selects RX11 yX11_number yX11_number ∈ gw := gw_sel (y := yX11_number) (n := 29) 44 rfl
theorem wml_X11_144 : Cond.methodLink RX11 144 yX11_comesPlant ∈ gw := gw_in (tin6 (List.mem_of_getElem? (i := 10) rfl)) rfl
theorem winst_X11_comesPlant : Cond.instanceMethod yX11_comesPlant ∈ gw := gw_in (tin6 (List.mem_of_getElem? (i := 12) rfl)) rfl
theorem wsel_X11_comesPlant : Cond.selects RX11 yX11_comesPlant yX11_comesPlant ∈ gw := gw_sel (y := yX11_comesPlant) (n := 29) 46 rfl
theorem wcode_X11_toll : Cond.code yX11_toll cX11_toll 3 (some .int) ∈ gw := gw_in (tin6 (List.mem_of_getElem? (i := 23) rfl)) rfl
theorem wcode_X11_roadLine : Cond.code yX11_roadLine cX11_roadLine 5 none ∈ gw := gw_in (tin6 (List.mem_of_getElem? (i := 19) rfl)) rfl
theorem wml_X11_148 : Cond.methodLink RX11 148 yX11_toll ∈ gw := gw_in (tin6 (List.mem_of_getElem? (i := 20) rfl)) rfl
theorem winst_X11_toll : Cond.instanceMethod yX11_toll ∈ gw := gw_in (tin6 (List.mem_of_getElem? (i := 22) rfl)) rfl
theorem wsel_X11_toll : Cond.selects RX11 yX11_toll yX11_toll ∈ gw := gw_sel (y := yX11_toll) (n := 29) 48 rfl
theorem wcode_X11_caseLine : Cond.code yX11_caseLine cX11_caseLine 3 none ∈ gw := gw_in (tin6 (List.mem_of_getElem? (i := 28) rfl)) rfl
theorem wcode_X11_line : Cond.code yX11_line cX11_line 1 none ∈ gw := gw_in (tin5 (List.mem_of_getElem? (i := 225) rfl)) rfl
theorem wml_X11_153 : Cond.methodLink RX11 153 yX11_isWord ∈ gw := gw_in (tin5 (List.mem_of_getElem? (i := 227) rfl)) rfl
theorem winst_X11_isWord : Cond.instanceMethod yX11_isWord ∈ gw := gw_in (tin5 (List.mem_of_getElem? (i := 229) rfl)) rfl
theorem wsel_X11_isWord : Cond.selects RX11 yX11_isWord yX11_isWord ∈ gw := gw_sel (y := yX11_isWord) (n := 29) 41 rfl
theorem wml_X11_169 : Cond.methodLink RX11 169 yX11_caseLine ∈ gw := gw_in (tin6 (List.mem_of_getElem? (i := 25) rfl)) rfl
theorem winst_X11_caseLine : Cond.instanceMethod yX11_caseLine ∈ gw := gw_in (tin6 (List.mem_of_getElem? (i := 27) rfl)) rfl
theorem wsel_X11_caseLine : Cond.selects RX11 yX11_caseLine yX11_caseLine ∈ gw := gw_sel (y := yX11_caseLine) (n := 29) 49 rfl
theorem wml_X11_164 : Cond.methodLink RX11 164 yX11_roadLine ∈ gw := gw_in (tin6 (List.mem_of_getElem? (i := 16) rfl)) rfl
theorem winst_X11_roadLine : Cond.instanceMethod yX11_roadLine ∈ gw := gw_in (tin6 (List.mem_of_getElem? (i := 18) rfl)) rfl
theorem wsel_X11_roadLine : Cond.selects RX11 yX11_roadLine yX11_roadLine ∈ gw := gw_sel (y := yX11_roadLine) (n := 29) 47 rfl
theorem wml_X11_157 : Cond.methodLink RX11 157 yX11_plantLine ∈ gw := gw_in (tin5 (List.mem_of_getElem? (i := 233) rfl)) rfl
theorem winst_X11_plantLine : Cond.instanceMethod yX11_plantLine ∈ gw := gw_in (tin5 (List.mem_of_getElem? (i := 235) rfl)) rfl
theorem wsel_X11_plantLine : Cond.selects RX11 yX11_plantLine yX11_plantLine ∈ gw := gw_sel (y := yX11_plantLine) (n := 29) 42 rfl
theorem wcode_X11_keeps : Cond.code yX11_keeps cX11_keeps 3 none ∈ gw := gw_in (tin6 (List.mem_of_getElem? (i := 32) rfl)) rfl
theorem wfl_X11_79 : Cond.fieldLink RX11 79 "SplitProgramModel" "newest" "I" ∈ gw := gw_in (tin5 (List.mem_of_getElem? (i := 91) rfl)) rfl
theorem wfl_X11_82 : Cond.fieldLink RX11 82 "SplitProgramModel" "undoMany" "I" ∈ gw := gw_in (tin5 (List.mem_of_getElem? (i := 90) rfl)) rfl
theorem wcode_X11_read : Cond.code yX11_read cX11_read 4 (some .int) ∈ gw := gw_in (tin5 (List.mem_of_getElem? (i := 207) rfl)) rfl
theorem wml_X11_172 : Cond.methodLink RX11 172 yX11_keepsAhead ∈ gw := gw_in (tin5 (List.mem_of_getElem? (i := 208) rfl)) rfl
theorem winst_X11_keepsAhead : Cond.instanceMethod yX11_keepsAhead ∈ gw := gw_in (tin5 (List.mem_of_getElem? (i := 210) rfl)) rfl
theorem wsel_X11_keepsAhead : Cond.selects RX11 yX11_keepsAhead yX11_keepsAhead ∈ gw := gw_sel (y := yX11_keepsAhead) (n := 29) 38 rfl
theorem wml_X11_175 : Cond.methodLink RX11 175 yX11_line ∈ gw := gw_in (tin5 (List.mem_of_getElem? (i := 222) rfl)) rfl
theorem winst_X11_line : Cond.instanceMethod yX11_line ∈ gw := gw_in (tin5 (List.mem_of_getElem? (i := 224) rfl)) rfl
theorem wsel_X11_line : Cond.selects RX11 yX11_line yX11_line ∈ gw := gw_sel (y := yX11_line) (n := 29) 40 rfl
theorem wml_X11_178 : Cond.methodLink RX11 178 yX11_keeps ∈ gw := gw_in (tin6 (List.mem_of_getElem? (i := 29) rfl)) rfl
theorem winst_X11_keeps : Cond.instanceMethod yX11_keeps ∈ gw := gw_in (tin6 (List.mem_of_getElem? (i := 31) rfl)) rfl
theorem wsel_X11_keeps : Cond.selects RX11 yX11_keeps yX11_keeps ∈ gw := gw_sel (y := yX11_keeps) (n := 29) 50 rfl
theorem wcode_X11_fault : Cond.code yX11_fault cX11_fault 1 (some .int) ∈ gw := gw_in (tin6 (List.mem_of_getElem? (i := 36) rfl)) rfl
theorem wcode_X11_holds : Cond.code yX11_holds cX11_holds 5 (some .boolean) ∈ gw := gw_in (tin6 (List.mem_of_getElem? (i := 52) rfl)) rfl
theorem wcode_X11_goes : Cond.code yX11_goes cX11_goes 5 (some .int) ∈ gw := gw_in (tin6 (List.mem_of_getElem? (i := 48) rfl)) rfl
theorem wml_X11_181 : Cond.methodLink RX11 181 yX11_holds ∈ gw := gw_in (tin6 (List.mem_of_getElem? (i := 49) rfl)) rfl
theorem winst_X11_holds : Cond.instanceMethod yX11_holds ∈ gw := gw_in (tin6 (List.mem_of_getElem? (i := 51) rfl)) rfl
theorem wsel_X11_holds : Cond.selects RX11 yX11_holds yX11_holds ∈ gw := gw_sel (y := yX11_holds) (n := 29) 53 rfl
theorem wcode_X11_changed : Cond.code yX11_changed cX11_changed 5 (some .int) ∈ gw := gw_in (tin6 (List.mem_of_getElem? (i := 44) rfl)) rfl
theorem wml_X11_184 : Cond.methodLink RX11 184 yX11_goes ∈ gw := gw_in (tin6 (List.mem_of_getElem? (i := 45) rfl)) rfl
theorem winst_X11_goes : Cond.instanceMethod yX11_goes ∈ gw := gw_in (tin6 (List.mem_of_getElem? (i := 47) rfl)) rfl
theorem wsel_X11_goes : Cond.selects RX11 yX11_goes yX11_goes ∈ gw := gw_sel (y := yX11_goes) (n := 29) 52 rfl
theorem wcode_X11_plant : Cond.code yX11_plant cX11_plant 4 (some .int) ∈ gw := gw_in (tin6 (List.mem_of_getElem? (i := 40) rfl)) rfl
theorem wml_X11_187 : Cond.methodLink RX11 187 yX11_changed ∈ gw := gw_in (tin6 (List.mem_of_getElem? (i := 41) rfl)) rfl
theorem winst_X11_changed : Cond.instanceMethod yX11_changed ∈ gw := gw_in (tin6 (List.mem_of_getElem? (i := 43) rfl)) rfl
theorem wsel_X11_changed : Cond.selects RX11 yX11_changed yX11_changed ∈ gw := gw_sel (y := yX11_changed) (n := 29) 51 rfl
theorem wcode_X11_site : Cond.code yX11_site cX11_site 1 (some .int) ∈ gw := gw_in (tin6 (List.mem_of_getElem? (i := 56) rfl)) rfl
theorem wcode_X11_isPlant : Cond.code yX11_isPlant cX11_isPlant 2 (some .boolean) ∈ gw := gw_in (tin6 (List.mem_of_getElem? (i := 64) rfl)) rfl
theorem wcode_X11_isSite : Cond.code yX11_isSite cX11_isSite 2 (some .boolean) ∈ gw := gw_in (tin6 (List.mem_of_getElem? (i := 68) rfl)) rfl
theorem wcode_X11_road : Cond.code yX11_road cX11_road 5 (some .int) ∈ gw := gw_in (tin6 (List.mem_of_getElem? (i := 60) rfl)) rfl
theorem wml_X11_190 : Cond.methodLink RX11 190 yX11_isPlant ∈ gw := gw_in (tin6 (List.mem_of_getElem? (i := 61) rfl)) rfl
theorem winst_X11_isPlant : Cond.instanceMethod yX11_isPlant ∈ gw := gw_in (tin6 (List.mem_of_getElem? (i := 63) rfl)) rfl
theorem wsel_X11_isPlant : Cond.selects RX11 yX11_isPlant yX11_isPlant ∈ gw := gw_sel (y := yX11_isPlant) (n := 29) 54 rfl
theorem wml_X11_193 : Cond.methodLink RX11 193 yX11_isSite ∈ gw := gw_in (tin6 (List.mem_of_getElem? (i := 65) rfl)) rfl
theorem winst_X11_isSite : Cond.instanceMethod yX11_isSite ∈ gw := gw_in (tin6 (List.mem_of_getElem? (i := 67) rfl)) rfl
theorem wsel_X11_isSite : Cond.selects RX11 yX11_isSite yX11_isSite ∈ gw := gw_sel (y := yX11_isSite) (n := 29) 55 rfl
theorem wcode_X11_scene : Cond.code yX11_scene cX11_scene 4 (some .int) ∈ gw := gw_in (tin6 (List.mem_of_getElem? (i := 72) rfl)) rfl
theorem wcode_X11_isCase : Cond.code yX11_isCase cX11_isCase 2 (some .boolean) ∈ gw := gw_in (tin6 (List.mem_of_getElem? (i := 80) rfl)) rfl
theorem wcode_X11_tellsAt : Cond.code yX11_tellsAt cX11_tellsAt 5 (some .int) ∈ gw := gw_in (tin6 (List.mem_of_getElem? (i := 84) rfl)) rfl
theorem wcode_X11_need : Cond.code yX11_need cX11_need 4 (some .int) ∈ gw := gw_in (tin6 (List.mem_of_getElem? (i := 76) rfl)) rfl
theorem wml_X11_196 : Cond.methodLink RX11 196 yX11_isCase ∈ gw := gw_in (tin6 (List.mem_of_getElem? (i := 77) rfl)) rfl
theorem winst_X11_isCase : Cond.instanceMethod yX11_isCase ∈ gw := gw_in (tin6 (List.mem_of_getElem? (i := 79) rfl)) rfl
theorem wsel_X11_isCase : Cond.selects RX11 yX11_isCase yX11_isCase ∈ gw := gw_sel (y := yX11_isCase) (n := 29) 56 rfl
theorem wml_X11_199 : Cond.methodLink RX11 199 yX11_tellsAt ∈ gw := gw_in (tin6 (List.mem_of_getElem? (i := 81) rfl)) rfl
theorem winst_X11_tellsAt : Cond.instanceMethod yX11_tellsAt ∈ gw := gw_in (tin6 (List.mem_of_getElem? (i := 83) rfl)) rfl
theorem wsel_X11_tellsAt : Cond.selects RX11 yX11_tellsAt yX11_tellsAt ∈ gw := gw_sel (y := yX11_tellsAt) (n := 29) 57 rfl
theorem wcode_X11_change : Cond.code yX11_change cX11_change 4 (some .int) ∈ gw := gw_in (tin6 (List.mem_of_getElem? (i := 88) rfl)) rfl
theorem wcode_X11_unitsOf : Cond.code yX11_unitsOf cX11_unitsOf 2 (some .int) ∈ gw := gw_in (tin6 (List.mem_of_getElem? (i := 108) rfl)) rfl
theorem wcode_X11_isPlan : Cond.code yX11_isPlan cX11_isPlan 3 (some .boolean) ∈ gw := gw_in (tin6 (List.mem_of_getElem? (i := 105) rfl)) rfl
theorem wml_X11_203 : Cond.methodLink RX11 203 yX11_unitsOf ∈ gw := gw_in (tin6 (List.mem_of_getElem? (i := 106) rfl)) rfl
theorem wstat_X11_unitsOf : Cond.static yX11_unitsOf ∈ gw := gw_in (tin6 (List.mem_of_getElem? (i := 107) rfl)) rfl
theorem wcode_X11_ofCut : Cond.code yX11_ofCut cX11_ofCut 3 (some .int) ∈ gw := gw_in (tin6 (List.mem_of_getElem? (i := 116) rfl)) rfl
theorem wcode_X11_needOf : Cond.code yX11_needOf cX11_needOf 3 (some .int) ∈ gw := gw_in (tin6 (List.mem_of_getElem? (i := 124) rfl)) rfl
theorem wcode_X11_stockOf : Cond.code yX11_stockOf cX11_stockOf 3 (some .int) ∈ gw := gw_in (tin6 (List.mem_of_getElem? (i := 128) rfl)) rfl
theorem wcode_X11_toldBy : Cond.code yX11_toldBy cX11_toldBy 5 (some .int) ∈ gw := gw_in (tin6 (List.mem_of_getElem? (i := 120) rfl)) rfl
theorem wml_X11_252 : Cond.methodLink RX11 252 yX11_ofCut ∈ gw := gw_in (tin6 (List.mem_of_getElem? (i := 113) rfl)) rfl
theorem winst_X11_ofCut : Cond.instanceMethod yX11_ofCut ∈ gw := gw_in (tin6 (List.mem_of_getElem? (i := 115) rfl)) rfl
theorem wsel_X11_ofCut : Cond.selects RX11 yX11_ofCut yX11_ofCut ∈ gw := gw_sel (y := yX11_ofCut) (n := 29) 62 rfl
theorem wml_X11_212 : Cond.methodLink RX11 212 yX11_needOf ∈ gw := gw_in (tin6 (List.mem_of_getElem? (i := 121) rfl)) rfl
theorem winst_X11_needOf : Cond.instanceMethod yX11_needOf ∈ gw := gw_in (tin6 (List.mem_of_getElem? (i := 123) rfl)) rfl
theorem wsel_X11_needOf : Cond.selects RX11 yX11_needOf yX11_needOf ∈ gw := gw_sel (y := yX11_needOf) (n := 29) 64 rfl
theorem wml_X11_209 : Cond.methodLink RX11 209 yX11_stockOf ∈ gw := gw_in (tin6 (List.mem_of_getElem? (i := 125) rfl)) rfl
theorem winst_X11_stockOf : Cond.instanceMethod yX11_stockOf ∈ gw := gw_in (tin6 (List.mem_of_getElem? (i := 127) rfl)) rfl
theorem wsel_X11_stockOf : Cond.selects RX11 yX11_stockOf yX11_stockOf ∈ gw := gw_sel (y := yX11_stockOf) (n := 29) 65 rfl
theorem wcode_X11_feesOf : Cond.code yX11_feesOf cX11_feesOf 4 (some .int) ∈ gw := gw_in (tin6 (List.mem_of_getElem? (i := 132) rfl)) rfl
theorem wcode_X11_reachBy : Cond.code yX11_reachBy cX11_reachBy 5 (some .int) ∈ gw := gw_in (tin6 (List.mem_of_getElem? (i := 136) rfl)) rfl
theorem wml_X11_255 : Cond.methodLink RX11 255 yX11_toldBy ∈ gw := gw_in (tin6 (List.mem_of_getElem? (i := 117) rfl)) rfl
theorem winst_X11_toldBy : Cond.instanceMethod yX11_toldBy ∈ gw := gw_in (tin6 (List.mem_of_getElem? (i := 119) rfl)) rfl
theorem wsel_X11_toldBy : Cond.selects RX11 yX11_toldBy yX11_toldBy ∈ gw := gw_sel (y := yX11_toldBy) (n := 29) 63 rfl
theorem wcode_X11_floorOf : Cond.code yX11_floorOf cX11_floorOf 4 (some .int) ∈ gw := gw_in (tin6 (List.mem_of_getElem? (i := 112) rfl)) rfl
theorem wml_X11_258 : Cond.methodLink RX11 258 yX11_feesOf ∈ gw := gw_in (tin6 (List.mem_of_getElem? (i := 129) rfl)) rfl
theorem winst_X11_feesOf : Cond.instanceMethod yX11_feesOf ∈ gw := gw_in (tin6 (List.mem_of_getElem? (i := 131) rfl)) rfl
theorem wsel_X11_feesOf : Cond.selects RX11 yX11_feesOf yX11_feesOf ∈ gw := gw_sel (y := yX11_feesOf) (n := 29) 66 rfl
theorem wml_X11_261 : Cond.methodLink RX11 261 yX11_reachBy ∈ gw := gw_in (tin6 (List.mem_of_getElem? (i := 133) rfl)) rfl
theorem winst_X11_reachBy : Cond.instanceMethod yX11_reachBy ∈ gw := gw_in (tin6 (List.mem_of_getElem? (i := 135) rfl)) rfl
theorem wsel_X11_reachBy : Cond.selects RX11 yX11_reachBy yX11_reachBy ∈ gw := gw_sel (y := yX11_reachBy) (n := 29) 67 rfl
theorem wcode_X11_masterOf : Cond.code yX11_masterOf cX11_masterOf 5 (some .int) ∈ gw := gw_in (tin6 (List.mem_of_getElem? (i := 100) rfl)) rfl
theorem wcon_X11_230 : Cond.constant RX11 230 (1000000000) ∈ gw := gw_in (tin6 (List.mem_of_getElem? (i := 101) rfl)) rfl
theorem wml_X11_274 : Cond.methodLink RX11 274 yX11_isPlan ∈ gw := gw_in (tin6 (List.mem_of_getElem? (i := 102) rfl)) rfl
theorem winst_X11_isPlan : Cond.instanceMethod yX11_isPlan ∈ gw := gw_in (tin6 (List.mem_of_getElem? (i := 104) rfl)) rfl
theorem wsel_X11_isPlan : Cond.selects RX11 yX11_isPlan yX11_isPlan ∈ gw := gw_sel (y := yX11_isPlan) (n := 29) 60 rfl
theorem wml_X11_277 : Cond.methodLink RX11 277 yX11_floorOf ∈ gw := gw_in (tin6 (List.mem_of_getElem? (i := 109) rfl)) rfl
theorem winst_X11_floorOf : Cond.instanceMethod yX11_floorOf ∈ gw := gw_in (tin6 (List.mem_of_getElem? (i := 111) rfl)) rfl
theorem wsel_X11_floorOf : Cond.selects RX11 yX11_floorOf yX11_floorOf ∈ gw := gw_sel (y := yX11_floorOf) (n := 29) 61 rfl
theorem wcode_X11_ages : Cond.code yX11_ages cX11_ages 5 none ∈ gw := gw_in (tin6 (List.mem_of_getElem? (i := 140) rfl)) rfl
theorem wcode_X11_needsOf : Cond.code yX11_needsOf cX11_needsOf 5 (some .int) ∈ gw := gw_in (tin6 (List.mem_of_getElem? (i := 156) rfl)) rfl
theorem wcode_X11_roadsTo : Cond.code yX11_roadsTo cX11_roadsTo 4 (some .int) ∈ gw := gw_in (tin6 (List.mem_of_getElem? (i := 164) rfl)) rfl
theorem wcode_X11_roadsToSet : Cond.code yX11_roadsToSet cX11_roadsToSet 4 (some .int) ∈ gw := gw_in (tin6 (List.mem_of_getElem? (i := 160) rfl)) rfl
theorem wml_X11_206 : Cond.methodLink RX11 206 yX11_roadsTo ∈ gw := gw_in (tin6 (List.mem_of_getElem? (i := 161) rfl)) rfl
theorem winst_X11_roadsTo : Cond.instanceMethod yX11_roadsTo ∈ gw := gw_in (tin6 (List.mem_of_getElem? (i := 163) rfl)) rfl
theorem wsel_X11_roadsTo : Cond.selects RX11 yX11_roadsTo yX11_roadsTo ∈ gw := gw_sel (y := yX11_roadsTo) (n := 29) 74 rfl
theorem wcode_X11_stocksOf : Cond.code yX11_stocksOf cX11_stocksOf 5 (some .int) ∈ gw := gw_in (tin6 (List.mem_of_getElem? (i := 168) rfl)) rfl
theorem wcode_X11_lackOf : Cond.code yX11_lackOf cX11_lackOf 5 (some .int) ∈ gw := gw_in (tin6 (List.mem_of_getElem? (i := 152) rfl)) rfl
theorem wfl_X11_215 : Cond.fieldLink RX11 215 "SplitProgramModel" "lacking" "I" ∈ gw := gw_in (tin5 (List.mem_of_getElem? (i := 98) rfl)) rfl
theorem wfl_X11_218 : Cond.fieldLink RX11 218 "SplitProgramModel" "lackingSet" "I" ∈ gw := gw_in (tin5 (List.mem_of_getElem? (i := 99) rfl)) rfl
theorem wml_X11_221 : Cond.methodLink RX11 221 yX11_needsOf ∈ gw := gw_in (tin6 (List.mem_of_getElem? (i := 153) rfl)) rfl
theorem winst_X11_needsOf : Cond.instanceMethod yX11_needsOf ∈ gw := gw_in (tin6 (List.mem_of_getElem? (i := 155) rfl)) rfl
theorem wsel_X11_needsOf : Cond.selects RX11 yX11_needsOf yX11_needsOf ∈ gw := gw_sel (y := yX11_needsOf) (n := 29) 72 rfl
theorem wml_X11_224 : Cond.methodLink RX11 224 yX11_roadsToSet ∈ gw := gw_in (tin6 (List.mem_of_getElem? (i := 157) rfl)) rfl
theorem winst_X11_roadsToSet : Cond.instanceMethod yX11_roadsToSet ∈ gw := gw_in (tin6 (List.mem_of_getElem? (i := 159) rfl)) rfl
theorem wsel_X11_roadsToSet : Cond.selects RX11 yX11_roadsToSet yX11_roadsToSet ∈ gw := gw_sel (y := yX11_roadsToSet) (n := 29) 73 rfl
theorem wml_X11_227 : Cond.methodLink RX11 227 yX11_stocksOf ∈ gw := gw_in (tin6 (List.mem_of_getElem? (i := 165) rfl)) rfl
theorem winst_X11_stocksOf : Cond.instanceMethod yX11_stocksOf ∈ gw := gw_in (tin6 (List.mem_of_getElem? (i := 167) rfl)) rfl
theorem wsel_X11_stocksOf : Cond.selects RX11 yX11_stocksOf yX11_stocksOf ∈ gw := gw_sel (y := yX11_stocksOf) (n := 29) 75 rfl
theorem wcode_X11_reachOf : Cond.code yX11_reachOf cX11_reachOf 3 (some .int) ∈ gw := gw_in (tin6 (List.mem_of_getElem? (i := 180) rfl)) rfl
theorem wcode_X11_laysNearest : Cond.code yX11_laysNearest cX11_laysNearest 3 none ∈ gw := gw_in (tin6 (List.mem_of_getElem? (i := 176) rfl)) rfl
theorem wml_X11_231 : Cond.methodLink RX11 231 yX11_reachOf ∈ gw := gw_in (tin6 (List.mem_of_getElem? (i := 177) rfl)) rfl
theorem winst_X11_reachOf : Cond.instanceMethod yX11_reachOf ∈ gw := gw_in (tin6 (List.mem_of_getElem? (i := 179) rfl)) rfl
theorem wsel_X11_reachOf : Cond.selects RX11 yX11_reachOf yX11_reachOf ∈ gw := gw_sel (y := yX11_reachOf) (n := 29) 78 rfl
theorem wcode_X11_askedMore : Cond.code yX11_askedMore cX11_askedMore 6 (some .int) ∈ gw := gw_in (tin6 (List.mem_of_getElem? (i := 188) rfl)) rfl
theorem wcode_X11_scarce : Cond.code yX11_scarce cX11_scarce 7 (some .int) ∈ gw := gw_in (tin6 (List.mem_of_getElem? (i := 184) rfl)) rfl
theorem wml_X11_234 : Cond.methodLink RX11 234 yX11_askedMore ∈ gw := gw_in (tin6 (List.mem_of_getElem? (i := 185) rfl)) rfl
theorem winst_X11_askedMore : Cond.instanceMethod yX11_askedMore ∈ gw := gw_in (tin6 (List.mem_of_getElem? (i := 187) rfl)) rfl
theorem wsel_X11_askedMore : Cond.selects RX11 yX11_askedMore yX11_askedMore ∈ gw := gw_sel (y := yX11_askedMore) (n := 29) 80 rfl
theorem wcode_X11_riseOf : Cond.code yX11_riseOf cX11_riseOf 6 (some .int) ∈ gw := gw_in (tin6 (List.mem_of_getElem? (i := 192) rfl)) rfl
theorem wcode_X11_costOf : Cond.code yX11_costOf cX11_costOf 6 (some .int) ∈ gw := gw_in (tin6 (List.mem_of_getElem? (i := 172) rfl)) rfl
theorem wml_X11_237 : Cond.methodLink RX11 237 yX11_laysNearest ∈ gw := gw_in (tin6 (List.mem_of_getElem? (i := 173) rfl)) rfl
theorem winst_X11_laysNearest : Cond.instanceMethod yX11_laysNearest ∈ gw := gw_in (tin6 (List.mem_of_getElem? (i := 175) rfl)) rfl
theorem wsel_X11_laysNearest : Cond.selects RX11 yX11_laysNearest yX11_laysNearest ∈ gw := gw_sel (y := yX11_laysNearest) (n := 29) 77 rfl
theorem wml_X11_240 : Cond.methodLink RX11 240 yX11_scarce ∈ gw := gw_in (tin6 (List.mem_of_getElem? (i := 181) rfl)) rfl
theorem winst_X11_scarce : Cond.instanceMethod yX11_scarce ∈ gw := gw_in (tin6 (List.mem_of_getElem? (i := 183) rfl)) rfl
theorem wsel_X11_scarce : Cond.selects RX11 yX11_scarce yX11_scarce ∈ gw := gw_sel (y := yX11_scarce) (n := 29) 79 rfl
theorem wml_X11_243 : Cond.methodLink RX11 243 yX11_riseOf ∈ gw := gw_in (tin6 (List.mem_of_getElem? (i := 189) rfl)) rfl
theorem winst_X11_riseOf : Cond.instanceMethod yX11_riseOf ∈ gw := gw_in (tin6 (List.mem_of_getElem? (i := 191) rfl)) rfl
theorem wsel_X11_riseOf : Cond.selects RX11 yX11_riseOf yX11_riseOf ∈ gw := gw_sel (y := yX11_riseOf) (n := 29) 81 rfl
theorem wcode_X11_solves : Cond.code yX11_solves cX11_solves 4 (some .int) ∈ gw := gw_in (tin6 (List.mem_of_getElem? (i := 148) rfl)) rfl
theorem wml_X11_246 : Cond.methodLink RX11 246 yX11_lackOf ∈ gw := gw_in (tin6 (List.mem_of_getElem? (i := 149) rfl)) rfl
theorem winst_X11_lackOf : Cond.instanceMethod yX11_lackOf ∈ gw := gw_in (tin6 (List.mem_of_getElem? (i := 151) rfl)) rfl
theorem wsel_X11_lackOf : Cond.selects RX11 yX11_lackOf yX11_lackOf ∈ gw := gw_sel (y := yX11_lackOf) (n := 29) 71 rfl
theorem wml_X11_249 : Cond.methodLink RX11 249 yX11_costOf ∈ gw := gw_in (tin6 (List.mem_of_getElem? (i := 169) rfl)) rfl
theorem winst_X11_costOf : Cond.instanceMethod yX11_costOf ∈ gw := gw_in (tin6 (List.mem_of_getElem? (i := 171) rfl)) rfl
theorem wsel_X11_costOf : Cond.selects RX11 yX11_costOf yX11_costOf ∈ gw := gw_sel (y := yX11_costOf) (n := 29) 76 rfl
theorem wcode_X11_totalOf : Cond.code yX11_totalOf cX11_totalOf 5 (some .int) ∈ gw := gw_in (tin6 (List.mem_of_getElem? (i := 144) rfl)) rfl
theorem wml_X11_264 : Cond.methodLink RX11 264 yX11_solves ∈ gw := gw_in (tin6 (List.mem_of_getElem? (i := 145) rfl)) rfl
theorem winst_X11_solves : Cond.instanceMethod yX11_solves ∈ gw := gw_in (tin6 (List.mem_of_getElem? (i := 147) rfl)) rfl
theorem wsel_X11_solves : Cond.selects RX11 yX11_solves yX11_solves ∈ gw := gw_sel (y := yX11_solves) (n := 29) 70 rfl
theorem wcode_X11_laysNew : Cond.code yX11_laysNew cX11_laysNew 5 none ∈ gw := gw_in (tin6 (List.mem_of_getElem? (i := 200) rfl)) rfl
theorem wfl_X11_267 : Cond.fieldLink RX11 267 "SplitProgramModel" "newMany" "I" ∈ gw := gw_in (tin5 (List.mem_of_getElem? (i := 104) rfl)) rfl
theorem wcode_X11_finds : Cond.code yX11_finds cX11_finds 10 none ∈ gw := gw_in (tin6 (List.mem_of_getElem? (i := 196) rfl)) rfl
theorem wml_X11_270 : Cond.methodLink RX11 270 yX11_laysNew ∈ gw := gw_in (tin6 (List.mem_of_getElem? (i := 197) rfl)) rfl
theorem winst_X11_laysNew : Cond.instanceMethod yX11_laysNew ∈ gw := gw_in (tin6 (List.mem_of_getElem? (i := 199) rfl)) rfl
theorem wsel_X11_laysNew : Cond.selects RX11 yX11_laysNew yX11_laysNew ∈ gw := gw_sel (y := yX11_laysNew) (n := 29) 83 rfl
theorem wcode_X11_gapNow : Cond.code yX11_gapNow cX11_gapNow 1 (some .float) ∈ gw := gw_in (tin6 (List.mem_of_getElem? (i := 204) rfl)) rfl
theorem wcode_X11_goesRound : Cond.code yX11_goesRound cX11_goesRound 7 (some .int) ∈ gw := gw_in (tin6 (List.mem_of_getElem? (i := 96) rfl)) rfl
theorem wml_X11_280 : Cond.methodLink RX11 280 yX11_masterOf ∈ gw := gw_in (tin6 (List.mem_of_getElem? (i := 97) rfl)) rfl
theorem winst_X11_masterOf : Cond.instanceMethod yX11_masterOf ∈ gw := gw_in (tin6 (List.mem_of_getElem? (i := 99) rfl)) rfl
theorem wsel_X11_masterOf : Cond.selects RX11 yX11_masterOf yX11_masterOf ∈ gw := gw_sel (y := yX11_masterOf) (n := 29) 59 rfl
theorem wml_X11_283 : Cond.methodLink RX11 283 yX11_ages ∈ gw := gw_in (tin6 (List.mem_of_getElem? (i := 137) rfl)) rfl
theorem winst_X11_ages : Cond.instanceMethod yX11_ages ∈ gw := gw_in (tin6 (List.mem_of_getElem? (i := 139) rfl)) rfl
theorem wsel_X11_ages : Cond.selects RX11 yX11_ages yX11_ages ∈ gw := gw_sel (y := yX11_ages) (n := 29) 68 rfl
theorem wml_X11_286 : Cond.methodLink RX11 286 yX11_totalOf ∈ gw := gw_in (tin6 (List.mem_of_getElem? (i := 141) rfl)) rfl
theorem winst_X11_totalOf : Cond.instanceMethod yX11_totalOf ∈ gw := gw_in (tin6 (List.mem_of_getElem? (i := 143) rfl)) rfl
theorem wsel_X11_totalOf : Cond.selects RX11 yX11_totalOf yX11_totalOf ∈ gw := gw_sel (y := yX11_totalOf) (n := 29) 69 rfl
theorem wml_X11_289 : Cond.methodLink RX11 289 yX11_finds ∈ gw := gw_in (tin6 (List.mem_of_getElem? (i := 193) rfl)) rfl
theorem winst_X11_finds : Cond.instanceMethod yX11_finds ∈ gw := gw_in (tin6 (List.mem_of_getElem? (i := 195) rfl)) rfl
theorem wsel_X11_finds : Cond.selects RX11 yX11_finds yX11_finds ∈ gw := gw_sel (y := yX11_finds) (n := 29) 82 rfl
theorem wml_X11_292 : Cond.methodLink RX11 292 yX11_gapNow ∈ gw := gw_in (tin6 (List.mem_of_getElem? (i := 201) rfl)) rfl
theorem winst_X11_gapNow : Cond.instanceMethod yX11_gapNow ∈ gw := gw_in (tin6 (List.mem_of_getElem? (i := 203) rfl)) rfl
theorem wsel_X11_gapNow : Cond.selects RX11 yX11_gapNow yX11_gapNow ∈ gw := gw_sel (y := yX11_gapNow) (n := 29) 84 rfl
theorem wconf_X11_296 : Cond.constantFloat RX11 296 (1148846080) ∈ gw := gw_in (tin6 (List.mem_of_getElem? (i := 205) rfl)) rfl
theorem wcode_X11_comesBack : Cond.code yX11_comesBack cX11_comesBack 3 none ∈ gw := gw_in (tin6 (List.mem_of_getElem? (i := 209) rfl)) rfl
theorem wcode_X11_round : Cond.code yX11_round cX11_round 2 (some .int) ∈ gw := gw_in (tin6 (List.mem_of_getElem? (i := 92) rfl)) rfl
theorem wml_X11_297 : Cond.methodLink RX11 297 yX11_goesRound ∈ gw := gw_in (tin6 (List.mem_of_getElem? (i := 93) rfl)) rfl
theorem winst_X11_goesRound : Cond.instanceMethod yX11_goesRound ∈ gw := gw_in (tin6 (List.mem_of_getElem? (i := 95) rfl)) rfl
theorem wsel_X11_goesRound : Cond.selects RX11 yX11_goesRound yX11_goesRound ∈ gw := gw_sel (y := yX11_goesRound) (n := 29) 58 rfl
theorem wml_X11_300 : Cond.methodLink RX11 300 yX11_comesBack ∈ gw := gw_in (tin6 (List.mem_of_getElem? (i := 206) rfl)) rfl
theorem winst_X11_comesBack : Cond.instanceMethod yX11_comesBack ∈ gw := gw_in (tin6 (List.mem_of_getElem? (i := 208) rfl)) rfl
theorem wsel_X11_comesBack : Cond.selects RX11 yX11_comesBack yX11_comesBack ∈ gw := gw_sel (y := yX11_comesBack) (n := 29) 85 rfl
theorem wcode_X11_go : Cond.code yX11_go cX11_go 5 (some .int) ∈ gw := gw_in (tin6 (List.mem_of_getElem? (i := 213) rfl)) rfl
theorem wcode_X11_clear : Cond.code yX11_clear cX11_clear 2 (some .int) ∈ gw := gw_in (tin6 (List.mem_of_getElem? (i := 217) rfl)) rfl
theorem wcode_X11_undo : Cond.code yX11_undo cX11_undo 2 (some .int) ∈ gw := gw_in (tin5 (List.mem_of_getElem? (i := 168) rfl)) rfl
theorem wcode_X11_of : Cond.code yX11_of cX11_of 3 (some .int) ∈ gw := gw_in (tin6 (List.mem_of_getElem? (i := 225) rfl)) rfl
theorem wcode_X11_told : Cond.code yX11_told cX11_told 3 (some .int) ∈ gw := gw_in (tin6 (List.mem_of_getElem? (i := 229) rfl)) rfl
theorem wcode_X11_rays : Cond.code yX11_rays cX11_rays 3 (some .int) ∈ gw := gw_in (tin6 (List.mem_of_getElem? (i := 237) rfl)) rfl
theorem wcode_X11_now : Cond.code yX11_now cX11_now 2 (some .int) ∈ gw := gw_in (tin6 (List.mem_of_getElem? (i := 233) rfl)) rfl
theorem wml_X11_304 : Cond.methodLink RX11 304 yX11_rays ∈ gw := gw_in (tin6 (List.mem_of_getElem? (i := 234) rfl)) rfl
theorem winst_X11_rays : Cond.instanceMethod yX11_rays ∈ gw := gw_in (tin6 (List.mem_of_getElem? (i := 236) rfl)) rfl
theorem wsel_X11_rays : Cond.selects RX11 yX11_rays yX11_rays ∈ gw := gw_sel (y := yX11_rays) (n := 29) 86 rfl
theorem wcode_Jxf58ca_isNaN_12338 : Cond.code yJxf58ca_isNaN_12338 cJxf58ca_isNaN_12338 1 (some .boolean) ∈ gw := gw_in (tin7 (List.mem_of_getElem? (i := 7) rfl)) rfl
theorem wini_java_lang_Float : Cond.initialized "java/lang/Float" ∈ gw := gw_in (tin1 (List.mem_of_getElem? (i := 21) rfl)) rfl
theorem wcode_Jxf58ca_floatToIntBits_5c35a : Cond.code yJxf58ca_floatToIntBits_5c35a cJxf58ca_floatToIntBits_5c35a 1 (some .int) ∈ gw := gw_in (tin7 (List.mem_of_getElem? (i := 4) rfl)) rfl
theorem wml_Jxf58ca_59 : Cond.methodLink RJxf58ca 59 yJxf58ca_isNaN_12338 ∈ gw := gw_in (tin7 (List.mem_of_getElem? (i := 5) rfl)) rfl
theorem wstat_Jxf58ca_isNaN_12338 : Cond.static yJxf58ca_isNaN_12338 ∈ gw := gw_in (tin7 (List.mem_of_getElem? (i := 6) rfl)) rfl
theorem wcon_Jxf58ca_77 : Cond.constant RJxf58ca 77 (2143289344) ∈ gw := gw_in (tin7 (List.mem_of_getElem? (i := 11) rfl)) rfl
theorem wml_Jxf58ca_74 : Cond.methodLink RJxf58ca 74 ⟨"java/lang/Float", "floatToRawIntBits", "(F)I"⟩ ∈ gw := gw_in (tin7 (List.mem_of_getElem? (i := 8) rfl)) rfl
theorem wnat_java_lang_Float_floatToRawIntBits : Cond.native ⟨"java/lang/Float", "floatToRawIntBits", "(F)I"⟩ ∈ gw := gw_in (tin7 (List.mem_of_getElem? (i := 10) rfl)) rfl
theorem wstat_java_lang_Float_floatToRawIntBits : Cond.static ⟨"java/lang/Float", "floatToRawIntBits", "(F)I"⟩ ∈ gw := gw_in (tin7 (List.mem_of_getElem? (i := 9) rfl)) rfl
theorem wcode_X11_gap : Cond.code yX11_gap cX11_gap 1 (some .int) ∈ gw := gw_in (tin7 (List.mem_of_getElem? (i := 1) rfl)) rfl
theorem wml_X11_307 : Cond.methodLink RX11 307 yJxf58ca_floatToIntBits_5c35a ∈ gw := gw_in (tin7 (List.mem_of_getElem? (i := 2) rfl)) rfl
theorem wstat_Jxf58ca_floatToIntBits_5c35a : Cond.static yJxf58ca_floatToIntBits_5c35a ∈ gw := gw_in (tin7 (List.mem_of_getElem? (i := 3) rfl)) rfl
theorem wcode_X11_isCut : Cond.code yX11_isCut cX11_isCut 2 (some .boolean) ∈ gw := gw_in (tin7 (List.mem_of_getElem? (i := 19) rfl)) rfl
theorem wcode_X11_cut : Cond.code yX11_cut cX11_cut 3 (some .int) ∈ gw := gw_in (tin7 (List.mem_of_getElem? (i := 15) rfl)) rfl
theorem wml_X11_313 : Cond.methodLink RX11 313 yX11_isCut ∈ gw := gw_in (tin7 (List.mem_of_getElem? (i := 16) rfl)) rfl
theorem winst_X11_isCut : Cond.instanceMethod yX11_isCut ∈ gw := gw_in (tin7 (List.mem_of_getElem? (i := 18) rfl)) rfl
theorem wsel_X11_isCut : Cond.selects RX11 yX11_isCut yX11_isCut ∈ gw := gw_sel (y := yX11_isCut) (n := 29) 87 rfl
theorem wcode_X11_tells_ : Cond.code yX11_tells_ cX11_tells_ 3 (some .int) ∈ gw := gw_in (tin7 (List.mem_of_getElem? (i := 23) rfl)) rfl
theorem wcon_X11_318 : Cond.constant RX11 318 (-2147483648) ∈ gw := gw_in (tin7 (List.mem_of_getElem? (i := 24) rfl)) rfl
theorem wcode_X11_isExact : Cond.code yX11_isExact cX11_isExact 4 (some .boolean) ∈ gw := gw_in (tin7 (List.mem_of_getElem? (i := 32) rfl)) rfl
theorem wcode_X11_exact : Cond.code yX11_exact cX11_exact 4 (some .int) ∈ gw := gw_in (tin7 (List.mem_of_getElem? (i := 28) rfl)) rfl
theorem wml_X11_319 : Cond.methodLink RX11 319 yX11_isExact ∈ gw := gw_in (tin7 (List.mem_of_getElem? (i := 29) rfl)) rfl
theorem winst_X11_isExact : Cond.instanceMethod yX11_isExact ∈ gw := gw_in (tin7 (List.mem_of_getElem? (i := 31) rfl)) rfl
theorem wsel_X11_isExact : Cond.selects RX11 yX11_isExact yX11_isExact ∈ gw := gw_sel (y := yX11_isExact) (n := 29) 88 rfl
theorem wcode_X11_price : Cond.code yX11_price cX11_price 3 (some .int) ∈ gw := gw_in (tin7 (List.mem_of_getElem? (i := 36) rfl)) rfl
theorem wcode_X11_lack : Cond.code yX11_lack cX11_lack 3 (some .int) ∈ gw := gw_in (tin7 (List.mem_of_getElem? (i := 40) rfl)) rfl
theorem wcode_X11_rate : Cond.code yX11_rate cX11_rate 5 (some .int) ∈ gw := gw_in (tin7 (List.mem_of_getElem? (i := 44) rfl)) rfl
theorem wcode_X11_floor : Cond.code yX11_floor cX11_floor 2 (some .int) ∈ gw := gw_in (tin7 (List.mem_of_getElem? (i := 48) rfl)) rfl
theorem wcode_X11_total : Cond.code yX11_total cX11_total 2 (some .int) ∈ gw := gw_in (tin7 (List.mem_of_getElem? (i := 52) rfl)) rfl
theorem wcode_X11_least : Cond.code yX11_least cX11_least 6 (some .int) ∈ gw := gw_in (tin7 (List.mem_of_getElem? (i := 56) rfl)) rfl
theorem wcode_X11_leastOf : Cond.code yX11_leastOf cX11_leastOf 5 (some .int) ∈ gw := gw_in (tin7 (List.mem_of_getElem? (i := 65) rfl)) rfl
theorem wcode_X11_regret : Cond.code yX11_regret cX11_regret 5 (some .int) ∈ gw := gw_in (tin7 (List.mem_of_getElem? (i := 60) rfl)) rfl
theorem wml_X11_323 : Cond.methodLink RX11 323 yX11_total ∈ gw := gw_in (tin7 (List.mem_of_getElem? (i := 61) rfl)) rfl
theorem winst_X11_total : Cond.instanceMethod yX11_total ∈ gw := gw_in (tin7 (List.mem_of_getElem? (i := 50) rfl)) rfl
theorem wsel_X11_total : Cond.selects RX11 yX11_total yX11_total ∈ gw := gw_in (tin7 (List.mem_of_getElem? (i := 51) rfl)) rfl
theorem wml_X11_326 : Cond.methodLink RX11 326 yX11_leastOf ∈ gw := gw_in (tin7 (List.mem_of_getElem? (i := 62) rfl)) rfl
theorem winst_X11_leastOf : Cond.instanceMethod yX11_leastOf ∈ gw := gw_in (tin7 (List.mem_of_getElem? (i := 64) rfl)) rfl
theorem wsel_X11_leastOf : Cond.selects RX11 yX11_leastOf yX11_leastOf ∈ gw := gw_sel (y := yX11_leastOf) (n := 29) 89 rfl
theorem wcode_Jxe99ae_isNaN_b9ae7 : Cond.code yJxe99ae_isNaN_b9ae7 cJxe99ae_isNaN_b9ae7 2 (some .boolean) ∈ gw := gw_in (tin7 (List.mem_of_getElem? (i := 76) rfl)) rfl
theorem wini_java_lang_Double : Cond.initialized "java/lang/Double" ∈ gw := gw_in (tin1 (List.mem_of_getElem? (i := 22) rfl)) rfl
theorem wcode_Jxe99ae_doubleToLongBits_ccdee : Cond.code yJxe99ae_doubleToLongBits_ccdee cJxe99ae_doubleToLongBits_ccdee 2 (some .long) ∈ gw := gw_in (tin7 (List.mem_of_getElem? (i := 73) rfl)) rfl
theorem wml_Jxe99ae_122 : Cond.methodLink RJxe99ae 122 yJxe99ae_isNaN_b9ae7 ∈ gw := gw_in (tin7 (List.mem_of_getElem? (i := 74) rfl)) rfl
theorem wstat_Jxe99ae_isNaN_b9ae7 : Cond.static yJxe99ae_isNaN_b9ae7 ∈ gw := gw_in (tin7 (List.mem_of_getElem? (i := 75) rfl)) rfl
theorem wconl_Jxe99ae_137 : Cond.constantLong RJxe99ae 137 (9221120237041090560) ∈ gw := gw_in (tin7 (List.mem_of_getElem? (i := 80) rfl)) rfl
theorem wml_Jxe99ae_134 : Cond.methodLink RJxe99ae 134 ⟨"java/lang/Double", "doubleToRawLongBits", "(D)J"⟩ ∈ gw := gw_in (tin7 (List.mem_of_getElem? (i := 77) rfl)) rfl
theorem wnat_java_lang_Double_doubleToRawLongBits : Cond.native ⟨"java/lang/Double", "doubleToRawLongBits", "(D)J"⟩ ∈ gw := gw_in (tin7 (List.mem_of_getElem? (i := 79) rfl)) rfl
theorem wstat_java_lang_Double_doubleToRawLongBits : Cond.static ⟨"java/lang/Double", "doubleToRawLongBits", "(D)J"⟩ ∈ gw := gw_in (tin7 (List.mem_of_getElem? (i := 78) rfl)) rfl
theorem wcode_X11_mean : Cond.code yX11_mean cX11_mean 4 (some .long) ∈ gw := gw_in (tin7 (List.mem_of_getElem? (i := 69) rfl)) rfl
theorem wconl_X11_329 : Cond.constantLong RX11 329 (-1) ∈ gw := gw_in (tin7 (List.mem_of_getElem? (i := 70) rfl)) rfl
theorem wml_X11_331 : Cond.methodLink RX11 331 yJxe99ae_doubleToLongBits_ccdee ∈ gw := gw_in (tin7 (List.mem_of_getElem? (i := 71) rfl)) rfl
theorem wstat_Jxe99ae_doubleToLongBits_ccdee : Cond.static yJxe99ae_doubleToLongBits_ccdee ∈ gw := gw_in (tin7 (List.mem_of_getElem? (i := 72) rfl)) rfl
theorem wcode_X11_would : Cond.code yX11_would cX11_would 7 (some .int) ∈ gw := gw_in (tin6 (List.mem_of_getElem? (i := 221) rfl)) rfl
theorem wcode_X11_image : Cond.code yX11_image cX11_image 4 (some .int) ∈ gw := gw_in (tin5 (List.mem_of_getElem? (i := 180) rfl)) rfl
theorem wcode_X11_back : Cond.code yX11_back cX11_back 4 (some .int) ∈ gw := gw_in (tin5 (List.mem_of_getElem? (i := 187) rfl)) rfl
theorem wcode_X11_roads : Cond.code yX11_roads cX11_roads 3 (some .int) ∈ gw := gw_in (tin7 (List.mem_of_getElem? (i := 88) rfl)) rfl
theorem wcode_X11_plans : Cond.code yX11_plans cX11_plans 3 (some .int) ∈ gw := gw_in (tin7 (List.mem_of_getElem? (i := 92) rfl)) rfl
theorem wcode_X11_count : Cond.code yX11_count cX11_count 2 (some .int) ∈ gw := gw_in (tin7 (List.mem_of_getElem? (i := 84) rfl)) rfl
theorem wml_X11_337 : Cond.methodLink RX11 337 yX11_roads ∈ gw := gw_in (tin7 (List.mem_of_getElem? (i := 85) rfl)) rfl
theorem winst_X11_roads : Cond.instanceMethod yX11_roads ∈ gw := gw_in (tin7 (List.mem_of_getElem? (i := 87) rfl)) rfl
theorem wsel_X11_roads : Cond.selects RX11 yX11_roads yX11_roads ∈ gw := gw_sel (y := yX11_roads) (n := 29) 90 rfl
theorem wml_X11_340 : Cond.methodLink RX11 340 yX11_plans ∈ gw := gw_in (tin7 (List.mem_of_getElem? (i := 89) rfl)) rfl
theorem winst_X11_plans : Cond.instanceMethod yX11_plans ∈ gw := gw_in (tin7 (List.mem_of_getElem? (i := 91) rfl)) rfl
theorem wsel_X11_plans : Cond.selects RX11 yX11_plans yX11_plans ∈ gw := gw_sel (y := yX11_plans) (n := 29) 91 rfl
theorem wcode_X11_status : Cond.code yX11_status cX11_status 1 (some .int) ∈ gw := gw_in (tin7 (List.mem_of_getElem? (i := 96) rfl)) rfl
