/-! words of the tables, by their places -/
theorem wcode_X7_reset : Cond.code yX7_reset cX7_reset 1 none ∈ gw := gw_in (tin3 (List.mem_of_getElem? (i := 133) rfl)) rfl
theorem wini_SplitProgram_Search : Cond.initialized "SplitProgram$Search" ∈ gw := gw_in (tin1 (List.mem_of_getElem? (i := 6) rfl)) rfl
theorem win_7 : ∀ w ∈ u_ws RX7 TX7 7, w ∈ gw := (List.forall_mem_cons.mpr ⟨gw_in (tin1 (List.mem_of_getElem? (i := 171) rfl)) rfl, (List.forall_mem_cons.mpr ⟨gw_in (tin1 (List.mem_of_getElem? (i := 173) rfl)) rfl, (List.forall_mem_cons.mpr ⟨gw_in (tin1 (List.mem_of_getElem? (i := 175) rfl)) rfl, (List.forall_mem_cons.mpr ⟨gw_in (tin1 (List.mem_of_getElem? (i := 177) rfl)) rfl, (List.forall_mem_cons.mpr ⟨gw_in (tin1 (List.mem_of_getElem? (i := 179) rfl)) rfl, (List.forall_mem_cons.mpr ⟨gw_in (tin1 (List.mem_of_getElem? (i := 181) rfl)) rfl, (List.forall_mem_cons.mpr ⟨gw_in (tin1 (List.mem_of_getElem? (i := 183) rfl)) rfl, (fun _ h => by cases h)⟩)⟩)⟩)⟩)⟩)⟩)⟩)
theorem wfl_X7_24 : Cond.fieldLink RX7 24 "SplitProgram$Search" "over" "I" ∈ gw := gw_in (tin1 (List.mem_of_getElem? (i := 150) rfl)) rfl
theorem wfl_X7_9 : Cond.fieldLink RX7 9 "SplitProgram$Search" "lower" "I" ∈ gw := gw_in (tin1 (List.mem_of_getElem? (i := 153) rfl)) rfl
theorem wfl_X7_15 : Cond.fieldLink RX7 15 "SplitProgram$Search" "upper" "I" ∈ gw := gw_in (tin1 (List.mem_of_getElem? (i := 156) rfl)) rfl
theorem wfl_X7_18 : Cond.fieldLink RX7 18 "SplitProgram$Search" "best" "I" ∈ gw := gw_in (tin1 (List.mem_of_getElem? (i := 159) rfl)) rfl
theorem wfl_X7_21 : Cond.fieldLink RX7 21 "SplitProgram$Search" "master" "I" ∈ gw := gw_in (tin1 (List.mem_of_getElem? (i := 162) rfl)) rfl
theorem wfl_X7_27 : Cond.fieldLink RX7 27 "SplitProgram$Search" "rounds" "I" ∈ gw := gw_in (tin1 (List.mem_of_getElem? (i := 165) rfl)) rfl
theorem wfl_X7_30 : Cond.fieldLink RX7 30 "SplitProgram$Search" "gone" "I" ∈ gw := gw_in (tin1 (List.mem_of_getElem? (i := 168) rfl)) rfl
theorem wcode_J7_fill_53178 : Cond.code yJ7_fill_53178 cJ7_fill_53178 4 none ∈ gw := gw_in (tin1 (List.mem_of_getElem? (i := 45) rfl)) rfl
theorem wini_java_util_Arrays : Cond.initialized "java/util/Arrays" ∈ gw := gw_in (tin1 (List.mem_of_getElem? (i := 4) rfl)) rfl
theorem wcode_X2_baseOf : Cond.code yX2_baseOf cX2_baseOf 5 (some .int) ∈ gw := gw_in (tin3 (List.mem_of_getElem? (i := 223) rfl)) rfl
theorem wini_SplitProgram_Cuts : Cond.initialized "SplitProgram$Cuts" ∈ gw := gw_in (tin1 (List.mem_of_getElem? (i := 5) rfl)) rfl
theorem win_6 : ∀ w ∈ u_ws RX6 TX6 9, w ∈ gw := (List.forall_mem_cons.mpr ⟨gw_in (tin1 (List.mem_of_getElem? (i := 83) rfl)) rfl, (List.forall_mem_cons.mpr ⟨gw_in (tin1 (List.mem_of_getElem? (i := 85) rfl)) rfl, (List.forall_mem_cons.mpr ⟨gw_in (tin1 (List.mem_of_getElem? (i := 87) rfl)) rfl, (List.forall_mem_cons.mpr ⟨gw_in (tin1 (List.mem_of_getElem? (i := 89) rfl)) rfl, (List.forall_mem_cons.mpr ⟨gw_in (tin1 (List.mem_of_getElem? (i := 91) rfl)) rfl, (List.forall_mem_cons.mpr ⟨gw_in (tin1 (List.mem_of_getElem? (i := 93) rfl)) rfl, (List.forall_mem_cons.mpr ⟨gw_in (tin1 (List.mem_of_getElem? (i := 95) rfl)) rfl, (List.forall_mem_cons.mpr ⟨gw_in (tin1 (List.mem_of_getElem? (i := 97) rfl)) rfl, (List.forall_mem_cons.mpr ⟨gw_in (tin1 (List.mem_of_getElem? (i := 99) rfl)) rfl, (fun _ h => by cases h)⟩)⟩)⟩)⟩)⟩)⟩)⟩)⟩)⟩)
theorem wfl_X2_59 : Cond.fieldLink RX2 59 "SplitProgram$Program" "sites" "I" ∈ gw := gw_in (tin1 (List.mem_of_getElem? (i := 53) rfl)) rfl
theorem wfl_X2_65 : Cond.fieldLink RX2 65 "SplitProgram$Program" "needs" "[I" ∈ gw := gw_in (tin1 (List.mem_of_getElem? (i := 80) rfl)) rfl
theorem win_2 : ∀ w ∈ u_ws RX2 TX2 7, w ∈ gw := (List.forall_mem_cons.mpr ⟨gw_in (tin1 (List.mem_of_getElem? (i := 129) rfl)) rfl, (List.forall_mem_cons.mpr ⟨gw_in (tin1 (List.mem_of_getElem? (i := 131) rfl)) rfl, (List.forall_mem_cons.mpr ⟨gw_in (tin1 (List.mem_of_getElem? (i := 133) rfl)) rfl, (List.forall_mem_cons.mpr ⟨gw_in (tin1 (List.mem_of_getElem? (i := 135) rfl)) rfl, (List.forall_mem_cons.mpr ⟨gw_in (tin1 (List.mem_of_getElem? (i := 137) rfl)) rfl, (List.forall_mem_cons.mpr ⟨gw_in (tin1 (List.mem_of_getElem? (i := 139) rfl)) rfl, (List.forall_mem_cons.mpr ⟨gw_in (tin1 (List.mem_of_getElem? (i := 141) rfl)) rfl, (fun _ h => by cases h)⟩)⟩)⟩)⟩)⟩)⟩)⟩)
theorem wfl_X2_15 : Cond.fieldLink RX2 15 "SplitProgram$Cuts" "cases" "[I" ∈ gw := gw_in (tin1 (List.mem_of_getElem? (i := 114) rfl)) rfl
theorem wfl_X2_28 : Cond.fieldLink RX2 28 "SplitProgram$Cuts" "v" "[I" ∈ gw := gw_in (tin1 (List.mem_of_getElem? (i := 127) rfl)) rfl
theorem wcode_X2_slopeOf : Cond.code yX2_slopeOf cX2_slopeOf 4 (some .int) ∈ gw := gw_in (tin3 (List.mem_of_getElem? (i := 227) rfl)) rfl
theorem wfl_X2_68 : Cond.fieldLink RX2 68 "SplitProgram$Program" "sizes" "[I" ∈ gw := gw_in (tin1 (List.mem_of_getElem? (i := 65) rfl)) rfl
theorem wfl_X2_25 : Cond.fieldLink RX2 25 "SplitProgram$Cuts" "u" "[I" ∈ gw := gw_in (tin1 (List.mem_of_getElem? (i := 125) rfl)) rfl
theorem wcode_X1_include : Cond.code yX1_include cX1_include 17 none ∈ gw := gw_in (tin3 (List.mem_of_getElem? (i := 219) rfl)) rfl
theorem wini_SplitProgram_Bounds : Cond.initialized "SplitProgram$Bounds" ∈ gw := gw_in (tin1 (List.mem_of_getElem? (i := 10) rfl)) rfl
theorem wml_X1_39 : Cond.methodLink RX1 39 yX2_baseOf ∈ gw := gw_in (tin3 (List.mem_of_getElem? (i := 220) rfl)) rfl
theorem winst_X2_baseOf : Cond.instanceMethod yX2_baseOf ∈ gw := gw_in (tin3 (List.mem_of_getElem? (i := 221) rfl)) rfl
theorem wsel_X2_baseOf : Cond.selects RX2 yX2_baseOf yX2_baseOf ∈ gw := gw_in (tin3 (List.mem_of_getElem? (i := 222) rfl)) rfl
theorem wml_X1_43 : Cond.methodLink RX1 43 yX2_slopeOf ∈ gw := gw_in (tin3 (List.mem_of_getElem? (i := 224) rfl)) rfl
theorem winst_X2_slopeOf : Cond.instanceMethod yX2_slopeOf ∈ gw := gw_in (tin3 (List.mem_of_getElem? (i := 225) rfl)) rfl
theorem wsel_X2_slopeOf : Cond.selects RX2 yX2_slopeOf yX2_slopeOf ∈ gw := gw_in (tin3 (List.mem_of_getElem? (i := 226) rfl)) rfl
theorem wfl_X1_47 : Cond.fieldLink RX1 47 "SplitProgram$Cuts" "rays" "[I" ∈ gw := gw_in (tin1 (List.mem_of_getElem? (i := 119) rfl)) rfl
theorem wfl_X1_50 : Cond.fieldLink RX1 50 "SplitProgram$Cuts" "cases" "[I" ∈ gw := gw_in (tin1 (List.mem_of_getElem? (i := 115) rfl)) rfl
theorem wfl_X1_53 : Cond.fieldLink RX1 53 "SplitProgram$Program" "mosts" "[I" ∈ gw := gw_in (tin1 (List.mem_of_getElem? (i := 67) rfl)) rfl
theorem win_1 : ∀ w ∈ u_ws RX1 TX1 3, w ∈ gw := (List.forall_mem_cons.mpr ⟨gw_in (tin2 (List.mem_of_getElem? (i := 42) rfl)) rfl, (List.forall_mem_cons.mpr ⟨gw_in (tin2 (List.mem_of_getElem? (i := 44) rfl)) rfl, (List.forall_mem_cons.mpr ⟨gw_in (tin2 (List.mem_of_getElem? (i := 46) rfl)) rfl, (fun _ h => by cases h)⟩)⟩)⟩)
theorem wfl_X1_15 : Cond.fieldLink RX1 15 "SplitProgram$Bounds" "reaches" "[I" ∈ gw := gw_in (tin2 (List.mem_of_getElem? (i := 39) rfl)) rfl
theorem wfl_X1_19 : Cond.fieldLink RX1 19 "SplitProgram$Bounds" "barred" "[Z" ∈ gw := gw_in (tin2 (List.mem_of_getElem? (i := 41) rfl)) rfl
theorem wcode_X1_freshen : Cond.code yX1_freshen cX1_freshen 4 none ∈ gw := gw_in (tin3 (List.mem_of_getElem? (i := 214) rfl)) rfl
theorem wfl_X1_9 : Cond.fieldLink RX1 9 "SplitProgram$Bounds" "stale" "Z" ∈ gw := gw_in (tin2 (List.mem_of_getElem? (i := 36) rfl)) rfl
theorem wml_X1_23 : Cond.methodLink RX1 23 yJ7_fill_53178 ∈ gw := gw_in (tin3 (List.mem_of_getElem? (i := 215) rfl)) rfl
theorem wstat_J7_fill_53178 : Cond.static yJ7_fill_53178 ∈ gw := gw_in (tin1 (List.mem_of_getElem? (i := 44) rfl)) rfl
theorem wfl_X1_29 : Cond.fieldLink RX1 29 "SplitProgram$Cuts" "size" "I" ∈ gw := gw_in (tin1 (List.mem_of_getElem? (i := 111) rfl)) rfl
theorem wml_X1_35 : Cond.methodLink RX1 35 yX1_include ∈ gw := gw_in (tin3 (List.mem_of_getElem? (i := 216) rfl)) rfl
theorem winst_X1_include : Cond.instanceMethod yX1_include ∈ gw := gw_in (tin3 (List.mem_of_getElem? (i := 217) rfl)) rfl
theorem wsel_X1_include : Cond.selects RX1 yX1_include yX1_include ∈ gw := gw_in (tin3 (List.mem_of_getElem? (i := 218) rfl)) rfl
theorem wcode_X10_unitsIn : Cond.code yX10_unitsIn cX10_unitsIn 2 (some .int) ∈ gw := gw_in (tin3 (List.mem_of_getElem? (i := 238) rfl)) rfl
theorem wini_SplitProgram : Cond.initialized "SplitProgram" ∈ gw := gw_in (tin1 (List.mem_of_getElem? (i := 1) rfl)) rfl
theorem wcode_X6_isPlan : Cond.code yX6_isPlan cX6_isPlan 3 (some .boolean) ∈ gw := gw_in (tin3 (List.mem_of_getElem? (i := 235) rfl)) rfl
theorem wini_SplitProgram_Program : Cond.initialized "SplitProgram$Program" ∈ gw := gw_in (tin1 (List.mem_of_getElem? (i := 3) rfl)) rfl
theorem wmn_X6_52 : Cond.methodLinkNest RX6 52 yX10_unitsIn "SplitProgram" ∈ nestW := nest_of (tin3 (List.mem_of_getElem? (i := 236) rfl)) rfl
theorem wstat_X10_unitsIn : Cond.static yX10_unitsIn ∈ gw := gw_in (tin3 (List.mem_of_getElem? (i := 237) rfl)) rfl
theorem wfl_X6_18 : Cond.fieldLink RX6 18 "SplitProgram$Program" "mosts" "[I" ∈ gw := gw_in (tin1 (List.mem_of_getElem? (i := 66) rfl)) rfl
theorem wcode_X6_feesOf : Cond.code yX6_feesOf cX6_feesOf 4 (some .int) ∈ gw := gw_in (tin4 (List.mem_of_getElem? (i := 6) rfl)) rfl
theorem wfl_X6_36 : Cond.fieldLink RX6 36 "SplitProgram$Program" "plants" "I" ∈ gw := gw_in (tin1 (List.mem_of_getElem? (i := 46) rfl)) rfl
theorem wfl_X6_9 : Cond.fieldLink RX6 9 "SplitProgram$Program" "fees" "[I" ∈ gw := gw_in (tin1 (List.mem_of_getElem? (i := 62) rfl)) rfl
theorem wcode_X1_floorAt : Cond.code yX1_floorAt cX1_floorAt 5 (some .int) ∈ gw := gw_in (tin4 (List.mem_of_getElem? (i := 2) rfl)) rfl
theorem wml_X1_58 : Cond.methodLink RX1 58 yX6_feesOf ∈ gw := gw_in (tin4 (List.mem_of_getElem? (i := 3) rfl)) rfl
theorem winst_X6_feesOf : Cond.instanceMethod yX6_feesOf ∈ gw := gw_in (tin4 (List.mem_of_getElem? (i := 4) rfl)) rfl
theorem wsel_X6_feesOf : Cond.selects RX6 yX6_feesOf yX6_feesOf ∈ gw := gw_in (tin4 (List.mem_of_getElem? (i := 5) rfl)) rfl
theorem wfl_X1_62 : Cond.fieldLink RX1 62 "SplitProgram$Program" "cases" "I" ∈ gw := gw_in (tin1 (List.mem_of_getElem? (i := 58) rfl)) rfl
theorem wfl_X1_64 : Cond.fieldLink RX1 64 "SplitProgram$Program" "weights" "[I" ∈ gw := gw_in (tin1 (List.mem_of_getElem? (i := 74) rfl)) rfl
theorem wcode_X1_lowestPlan : Cond.code yX1_lowestPlan cX1_lowestPlan 6 (some .int) ∈ gw := gw_in (tin3 (List.mem_of_getElem? (i := 231) rfl)) rfl
theorem wml_X1_67 : Cond.methodLink RX1 67 yX6_isPlan ∈ gw := gw_in (tin3 (List.mem_of_getElem? (i := 232) rfl)) rfl
theorem winst_X6_isPlan : Cond.instanceMethod yX6_isPlan ∈ gw := gw_in (tin3 (List.mem_of_getElem? (i := 233) rfl)) rfl
theorem wsel_X6_isPlan : Cond.selects RX6 yX6_isPlan yX6_isPlan ∈ gw := gw_in (tin3 (List.mem_of_getElem? (i := 234) rfl)) rfl
theorem wml_X1_71 : Cond.methodLink RX1 71 yX1_floorAt ∈ gw := gw_in (tin3 (List.mem_of_getElem? (i := 239) rfl)) rfl
theorem winst_X1_floorAt : Cond.instanceMethod yX1_floorAt ∈ gw := gw_in (tin4 (List.mem_of_getElem? (i := 0) rfl)) rfl
theorem wsel_X1_floorAt : Cond.selects RX1 yX1_floorAt yX1_floorAt ∈ gw := gw_in (tin4 (List.mem_of_getElem? (i := 1) rfl)) rfl
theorem wcode_X6_plantsOf : Cond.code yX6_plantsOf cX6_plantsOf 4 (some .int) ∈ gw := gw_in (tin4 (List.mem_of_getElem? (i := 22) rfl)) rfl
theorem wfl_X6_21 : Cond.fieldLink RX6 21 "SplitProgram$Program" "tolls" "[I" ∈ gw := gw_in (tin1 (List.mem_of_getElem? (i := 68) rfl)) rfl
theorem wcode_X4_findLoads : Cond.code yX4_findLoads cX4_findLoads 7 none ∈ gw := gw_in (tin4 (List.mem_of_getElem? (i := 18) rfl)) rfl
theorem wini_SplitProgram_Freight : Cond.initialized "SplitProgram$Freight" ∈ gw := gw_in (tin1 (List.mem_of_getElem? (i := 9) rfl)) rfl
theorem win_4 : ∀ w ∈ u_ws RX4 TX4 12, w ∈ gw := (List.forall_mem_cons.mpr ⟨gw_in (tin1 (List.mem_of_getElem? (i := 234) rfl)) rfl, (List.forall_mem_cons.mpr ⟨gw_in (tin1 (List.mem_of_getElem? (i := 236) rfl)) rfl, (List.forall_mem_cons.mpr ⟨gw_in (tin1 (List.mem_of_getElem? (i := 238) rfl)) rfl, (List.forall_mem_cons.mpr ⟨gw_in (tin2 (List.mem_of_getElem? (i := 0) rfl)) rfl, (List.forall_mem_cons.mpr ⟨gw_in (tin2 (List.mem_of_getElem? (i := 2) rfl)) rfl, (List.forall_mem_cons.mpr ⟨gw_in (tin2 (List.mem_of_getElem? (i := 4) rfl)) rfl, (List.forall_mem_cons.mpr ⟨gw_in (tin2 (List.mem_of_getElem? (i := 6) rfl)) rfl, (List.forall_mem_cons.mpr ⟨gw_in (tin2 (List.mem_of_getElem? (i := 8) rfl)) rfl, (List.forall_mem_cons.mpr ⟨gw_in (tin2 (List.mem_of_getElem? (i := 10) rfl)) rfl, (List.forall_mem_cons.mpr ⟨gw_in (tin2 (List.mem_of_getElem? (i := 12) rfl)) rfl, (List.forall_mem_cons.mpr ⟨gw_in (tin2 (List.mem_of_getElem? (i := 14) rfl)) rfl, (List.forall_mem_cons.mpr ⟨gw_in (tin2 (List.mem_of_getElem? (i := 16) rfl)) rfl, (fun _ h => by cases h)⟩)⟩)⟩)⟩)⟩)⟩)⟩)⟩)⟩)⟩)⟩)⟩)
theorem wfl_X4_18 : Cond.fieldLink RX4 18 "SplitProgram$Freight" "loads" "[I" ∈ gw := gw_in (tin1 (List.mem_of_getElem? (i := 219) rfl)) rfl
theorem wfl_X4_49 : Cond.fieldLink RX4 49 "SplitProgram$Program" "sites" "I" ∈ gw := gw_in (tin1 (List.mem_of_getElem? (i := 52) rfl)) rfl
theorem wml_X4_55 : Cond.methodLink RX4 55 yX6_plantsOf ∈ gw := gw_in (tin4 (List.mem_of_getElem? (i := 19) rfl)) rfl
theorem winst_X6_plantsOf : Cond.instanceMethod yX6_plantsOf ∈ gw := gw_in (tin4 (List.mem_of_getElem? (i := 20) rfl)) rfl
theorem wsel_X6_plantsOf : Cond.selects RX6 yX6_plantsOf yX6_plantsOf ∈ gw := gw_in (tin4 (List.mem_of_getElem? (i := 21) rfl)) rfl
theorem wfl_X4_59 : Cond.fieldLink RX4 59 "SplitProgram$Program" "needs" "[I" ∈ gw := gw_in (tin1 (List.mem_of_getElem? (i := 79) rfl)) rfl
theorem wfl_X4_21 : Cond.fieldLink RX4 21 "SplitProgram$Freight" "loadsKnown" "[Z" ∈ gw := gw_in (tin1 (List.mem_of_getElem? (i := 220) rfl)) rfl
theorem wcode_X4_findStocks : Cond.code yX4_findStocks cX4_findStocks 6 none ∈ gw := gw_in (tin4 (List.mem_of_getElem? (i := 26) rfl)) rfl
theorem wfl_X4_15 : Cond.fieldLink RX4 15 "SplitProgram$Freight" "pools" "[I" ∈ gw := gw_in (tin1 (List.mem_of_getElem? (i := 218) rfl)) rfl
theorem wfl_X4_9 : Cond.fieldLink RX4 9 "SplitProgram$Freight" "stocks" "[I" ∈ gw := gw_in (tin1 (List.mem_of_getElem? (i := 217) rfl)) rfl
theorem wmn_X4_62 : Cond.methodLinkNest RX4 62 yX10_unitsIn "SplitProgram" ∈ nestW := nest_of (tin4 (List.mem_of_getElem? (i := 27) rfl)) rfl
theorem wfl_X4_66 : Cond.fieldLink RX4 66 "SplitProgram$Program" "sizes" "[I" ∈ gw := gw_in (tin1 (List.mem_of_getElem? (i := 64) rfl)) rfl
theorem wcode_X4_lackAt : Cond.code yX4_lackAt cX4_lackAt 6 (some .int) ∈ gw := gw_in (tin4 (List.mem_of_getElem? (i := 14) rfl)) rfl
theorem wml_X4_73 : Cond.methodLink RX4 73 yX4_findStocks ∈ gw := gw_in (tin4 (List.mem_of_getElem? (i := 23) rfl)) rfl
theorem winst_X4_findStocks : Cond.instanceMethod yX4_findStocks ∈ gw := gw_in (tin4 (List.mem_of_getElem? (i := 25) rfl)) rfl
theorem wsel_X4_findStocks : Cond.selects RX4 yX4_findStocks yX4_findStocks ∈ gw := gw_sel (y := yX4_findStocks) (n := 12) 15 rfl
theorem wml_X4_76 : Cond.methodLink RX4 76 yJ9_max_7cf53 ∈ gw := gw_in (tin4 (List.mem_of_getElem? (i := 28) rfl)) rfl
theorem wstat_J9_max_7cf53 : Cond.static yJ9_max_7cf53 ∈ gw := gw_in (tin4 (List.mem_of_getElem? (i := 29) rfl)) rfl
theorem wini_java_lang_Math : Cond.initialized "java/lang/Math" ∈ gw := gw_in (tin1 (List.mem_of_getElem? (i := 18) rfl)) rfl
theorem wcode_J9_max_7cf53 : Cond.code yJ9_max_7cf53 cJ9_max_7cf53 2 (some .int) ∈ gw := gw_in (tin4 (List.mem_of_getElem? (i := 30) rfl)) rfl
theorem wml_X4_69 : Cond.methodLink RX4 69 yX4_findLoads ∈ gw := gw_in (tin4 (List.mem_of_getElem? (i := 15) rfl)) rfl
theorem winst_X4_findLoads : Cond.instanceMethod yX4_findLoads ∈ gw := gw_in (tin4 (List.mem_of_getElem? (i := 17) rfl)) rfl
theorem wsel_X4_findLoads : Cond.selects RX4 yX4_findLoads yX4_findLoads ∈ gw := gw_sel (y := yX4_findLoads) (n := 12) 14 rfl
theorem wcode_X4_cheapestFor : Cond.code yX4_cheapestFor cX4_cheapestFor 7 (some .int) ∈ gw := gw_in (tin4 (List.mem_of_getElem? (i := 44) rfl)) rfl
theorem wcon_X4_114 : Cond.constant RX4 114 (1000000) ∈ gw := gw_in (tin4 (List.mem_of_getElem? (i := 45) rfl)) rfl
theorem wfl_X4_115 : Cond.fieldLink RX4 115 "SplitProgram$Program" "plants" "I" ∈ gw := gw_in (tin1 (List.mem_of_getElem? (i := 48) rfl)) rfl
theorem wfl_X4_101 : Cond.fieldLink RX4 101 "SplitProgram$Program" "tolls" "[I" ∈ gw := gw_in (tin1 (List.mem_of_getElem? (i := 69) rfl)) rfl
theorem wfl_X4_37 : Cond.fieldLink RX4 37 "SplitProgram$Freight" "dear" "[I" ∈ gw := gw_in (tin1 (List.mem_of_getElem? (i := 226) rfl)) rfl
theorem wcode_X4_findSwaps : Cond.code yX4_findSwaps cX4_findSwaps 8 none ∈ gw := gw_in (tin4 (List.mem_of_getElem? (i := 49) rfl)) rfl
theorem wfl_X4_31 : Cond.fieldLink RX4 31 "SplitProgram$Freight" "swap" "[I" ∈ gw := gw_in (tin1 (List.mem_of_getElem? (i := 224) rfl)) rfl
theorem wml_X4_87 : Cond.methodLink RX4 87 yJ7_fill_53178 ∈ gw := gw_in (tin4 (List.mem_of_getElem? (i := 36) rfl)) rfl
theorem wfl_X4_28 : Cond.fieldLink RX4 28 "SplitProgram$Freight" "flow" "[I" ∈ gw := gw_in (tin1 (List.mem_of_getElem? (i := 223) rfl)) rfl
theorem wfl_X4_34 : Cond.fieldLink RX4 34 "SplitProgram$Freight" "swapSite" "[I" ∈ gw := gw_in (tin1 (List.mem_of_getElem? (i := 225) rfl)) rfl
theorem wcode_X4_findDear : Cond.code yX4_findDear cX4_findDear 6 none ∈ gw := gw_in (tin4 (List.mem_of_getElem? (i := 53) rfl)) rfl
theorem wfl_X4_25 : Cond.fieldLink RX4 25 "SplitProgram$Freight" "left" "[I" ∈ gw := gw_in (tin1 (List.mem_of_getElem? (i := 222) rfl)) rfl
theorem wfl_X4_40 : Cond.fieldLink RX4 40 "SplitProgram$Freight" "helper" "[I" ∈ gw := gw_in (tin1 (List.mem_of_getElem? (i := 227) rfl)) rfl
theorem wcode_X4_chooseGiver : Cond.code yX4_chooseGiver cX4_chooseGiver 4 (some .int) ∈ gw := gw_in (tin4 (List.mem_of_getElem? (i := 40) rfl)) rfl
theorem wml_X4_104 : Cond.methodLink RX4 104 yX4_cheapestFor ∈ gw := gw_in (tin4 (List.mem_of_getElem? (i := 41) rfl)) rfl
theorem winst_X4_cheapestFor : Cond.instanceMethod yX4_cheapestFor ∈ gw := gw_in (tin4 (List.mem_of_getElem? (i := 43) rfl)) rfl
theorem wsel_X4_cheapestFor : Cond.selects RX4 yX4_cheapestFor yX4_cheapestFor ∈ gw := gw_sel (y := yX4_cheapestFor) (n := 12) 17 rfl
theorem wml_X4_107 : Cond.methodLink RX4 107 yX4_findSwaps ∈ gw := gw_in (tin4 (List.mem_of_getElem? (i := 46) rfl)) rfl
theorem winst_X4_findSwaps : Cond.instanceMethod yX4_findSwaps ∈ gw := gw_in (tin4 (List.mem_of_getElem? (i := 48) rfl)) rfl
theorem wsel_X4_findSwaps : Cond.selects RX4 yX4_findSwaps yX4_findSwaps ∈ gw := gw_sel (y := yX4_findSwaps) (n := 12) 18 rfl
theorem wml_X4_111 : Cond.methodLink RX4 111 yX4_findDear ∈ gw := gw_in (tin4 (List.mem_of_getElem? (i := 50) rfl)) rfl
theorem winst_X4_findDear : Cond.instanceMethod yX4_findDear ∈ gw := gw_in (tin4 (List.mem_of_getElem? (i := 52) rfl)) rfl
theorem wsel_X4_findDear : Cond.selects RX4 yX4_findDear yX4_findDear ∈ gw := gw_sel (y := yX4_findDear) (n := 12) 19 rfl
theorem wcode_X4_bring : Cond.code yX4_bring cX4_bring 9 (some .int) ∈ gw := gw_in (tin4 (List.mem_of_getElem? (i := 57) rfl)) rfl
theorem wml_X4_118 : Cond.methodLink RX4 118 yJ9_min_7cf53 ∈ gw := gw_in (tin4 (List.mem_of_getElem? (i := 58) rfl)) rfl
theorem wstat_J9_min_7cf53 : Cond.static yJ9_min_7cf53 ∈ gw := gw_in (tin3 (List.mem_of_getElem? (i := 70) rfl)) rfl
theorem wcode_J9_min_7cf53 : Cond.code yJ9_min_7cf53 cJ9_min_7cf53 2 (some .int) ∈ gw := gw_in (tin3 (List.mem_of_getElem? (i := 71) rfl)) rfl
theorem wcode_X4_costAt : Cond.code yX4_costAt cX4_costAt 8 (some .int) ∈ gw := gw_in (tin4 (List.mem_of_getElem? (i := 34) rfl)) rfl
theorem wml_X4_81 : Cond.methodLink RX4 81 arraycopyName ∈ gw := gw_in (tin4 (List.mem_of_getElem? (i := 35) rfl)) rfl
theorem wnat_java_lang_System_arraycopy : Cond.native arraycopyName ∈ gw := gw_in (tin3 (List.mem_of_getElem? (i := 109) rfl)) rfl
theorem wstat_java_lang_System_arraycopy : Cond.static arraycopyName ∈ gw := gw_in (tin3 (List.mem_of_getElem? (i := 108) rfl)) rfl
theorem wini_java_lang_System : Cond.initialized "java/lang/System" ∈ gw := gw_in (tin1 (List.mem_of_getElem? (i := 19) rfl)) rfl
theorem wml_X4_93 : Cond.methodLink RX4 93 yX4_chooseGiver ∈ gw := gw_in (tin4 (List.mem_of_getElem? (i := 37) rfl)) rfl
theorem winst_X4_chooseGiver : Cond.instanceMethod yX4_chooseGiver ∈ gw := gw_in (tin4 (List.mem_of_getElem? (i := 39) rfl)) rfl
theorem wsel_X4_chooseGiver : Cond.selects RX4 yX4_chooseGiver yX4_chooseGiver ∈ gw := gw_sel (y := yX4_chooseGiver) (n := 12) 16 rfl
theorem wml_X4_97 : Cond.methodLink RX4 97 yX4_bring ∈ gw := gw_in (tin4 (List.mem_of_getElem? (i := 54) rfl)) rfl
theorem winst_X4_bring : Cond.instanceMethod yX4_bring ∈ gw := gw_in (tin4 (List.mem_of_getElem? (i := 56) rfl)) rfl
theorem wsel_X4_bring : Cond.selects RX4 yX4_bring yX4_bring ∈ gw := gw_sel (y := yX4_bring) (n := 12) 20 rfl
theorem wcode_X0_priceAt : Cond.code yX0_priceAt cX0_priceAt 5 (some .int) ∈ gw := gw_in (tin4 (List.mem_of_getElem? (i := 10) rfl)) rfl
theorem wini_SplitProgram_Book : Cond.initialized "SplitProgram$Book" ∈ gw := gw_in (tin1 (List.mem_of_getElem? (i := 8) rfl)) rfl
theorem win_0 : ∀ w ∈ u_ws RX0 TX0 2, w ∈ gw := (List.forall_mem_cons.mpr ⟨gw_in (tin2 (List.mem_of_getElem? (i := 25) rfl)) rfl, (List.forall_mem_cons.mpr ⟨gw_in (tin2 (List.mem_of_getElem? (i := 27) rfl)) rfl, (fun _ h => by cases h)⟩)⟩)
theorem wfl_X0_18 : Cond.fieldLink RX0 18 "SplitProgram$Book" "prices" "[I" ∈ gw := gw_in (tin2 (List.mem_of_getElem? (i := 24) rfl)) rfl
theorem wfl_X0_12 : Cond.fieldLink RX0 12 "SplitProgram$Book" "freight" "LSplitProgram$Freight;" ∈ gw := gw_in (tin2 (List.mem_of_getElem? (i := 21) rfl)) rfl
theorem wml_X0_32 : Cond.methodLink RX0 32 yX4_lackAt ∈ gw := gw_in (tin4 (List.mem_of_getElem? (i := 11) rfl)) rfl
theorem winst_X4_lackAt : Cond.instanceMethod yX4_lackAt ∈ gw := gw_in (tin4 (List.mem_of_getElem? (i := 12) rfl)) rfl
theorem wsel_X4_lackAt : Cond.selects RX4 yX4_lackAt yX4_lackAt ∈ gw := gw_in (tin4 (List.mem_of_getElem? (i := 13) rfl)) rfl
theorem wml_X0_36 : Cond.methodLink RX0 36 yX4_costAt ∈ gw := gw_in (tin4 (List.mem_of_getElem? (i := 31) rfl)) rfl
theorem winst_X4_costAt : Cond.instanceMethod yX4_costAt ∈ gw := gw_in (tin4 (List.mem_of_getElem? (i := 32) rfl)) rfl
theorem wsel_X4_costAt : Cond.selects RX4 yX4_costAt yX4_costAt ∈ gw := gw_in (tin4 (List.mem_of_getElem? (i := 33) rfl)) rfl
theorem wcode_X2_valueAt : Cond.code yX2_valueAt cX2_valueAt 6 (some .int) ∈ gw := gw_in (tin4 (List.mem_of_getElem? (i := 66) rfl)) rfl
theorem wml_X2_71 : Cond.methodLink RX2 71 yX2_baseOf ∈ gw := gw_in (tin4 (List.mem_of_getElem? (i := 67) rfl)) rfl
theorem wfl_X2_54 : Cond.fieldLink RX2 54 "SplitProgram$Program" "plants" "I" ∈ gw := gw_in (tin1 (List.mem_of_getElem? (i := 47) rfl)) rfl
theorem wmn_X2_75 : Cond.methodLinkNest RX2 75 yX10_unitsIn "SplitProgram" ∈ nestW := nest_of (tin4 (List.mem_of_getElem? (i := 68) rfl)) rfl
theorem wml_X2_78 : Cond.methodLink RX2 78 yX2_slopeOf ∈ gw := gw_in (tin4 (List.mem_of_getElem? (i := 69) rfl)) rfl
theorem wcode_X3_findAges : Cond.code yX3_findAges cX3_findAges 6 none ∈ gw := gw_in (tin4 (List.mem_of_getElem? (i := 62) rfl)) rfl
theorem wini_SplitProgram_Engine : Cond.initialized "SplitProgram$Engine" ∈ gw := gw_in (tin1 (List.mem_of_getElem? (i := 7) rfl)) rfl
theorem wfl_X3_94 : Cond.fieldLink RX3 94 "SplitProgram$Cuts" "size" "I" ∈ gw := gw_in (tin1 (List.mem_of_getElem? (i := 112) rfl)) rfl
theorem wfl_X3_99 : Cond.fieldLink RX3 99 "SplitProgram$Cuts" "rays" "[I" ∈ gw := gw_in (tin1 (List.mem_of_getElem? (i := 120) rfl)) rfl
theorem win_3 : ∀ w ∈ u_ws RX3 TX3 12, w ∈ gw := (List.forall_mem_cons.mpr ⟨gw_in (tin2 (List.mem_of_getElem? (i := 63) rfl)) rfl, (List.forall_mem_cons.mpr ⟨gw_in (tin2 (List.mem_of_getElem? (i := 65) rfl)) rfl, (List.forall_mem_cons.mpr ⟨gw_in (tin2 (List.mem_of_getElem? (i := 67) rfl)) rfl, (List.forall_mem_cons.mpr ⟨gw_in (tin2 (List.mem_of_getElem? (i := 69) rfl)) rfl, (List.forall_mem_cons.mpr ⟨gw_in (tin2 (List.mem_of_getElem? (i := 71) rfl)) rfl, (List.forall_mem_cons.mpr ⟨gw_in (tin2 (List.mem_of_getElem? (i := 73) rfl)) rfl, (List.forall_mem_cons.mpr ⟨gw_in (tin2 (List.mem_of_getElem? (i := 75) rfl)) rfl, (List.forall_mem_cons.mpr ⟨gw_in (tin2 (List.mem_of_getElem? (i := 77) rfl)) rfl, (List.forall_mem_cons.mpr ⟨gw_in (tin2 (List.mem_of_getElem? (i := 79) rfl)) rfl, (List.forall_mem_cons.mpr ⟨gw_in (tin2 (List.mem_of_getElem? (i := 81) rfl)) rfl, (List.forall_mem_cons.mpr ⟨gw_in (tin2 (List.mem_of_getElem? (i := 83) rfl)) rfl, (List.forall_mem_cons.mpr ⟨gw_in (tin2 (List.mem_of_getElem? (i := 85) rfl)) rfl, (fun _ h => by cases h)⟩)⟩)⟩)⟩)⟩)⟩)⟩)⟩)⟩)⟩)⟩)⟩)
theorem wfl_X3_29 : Cond.fieldLink RX3 29 "SplitProgram$Engine" "reaches" "[I" ∈ gw := gw_in (tin2 (List.mem_of_getElem? (i := 54) rfl)) rfl
theorem wfl_X3_102 : Cond.fieldLink RX3 102 "SplitProgram$Cuts" "cases" "[I" ∈ gw := gw_in (tin1 (List.mem_of_getElem? (i := 116) rfl)) rfl
theorem wfl_X3_61 : Cond.fieldLink RX3 61 "SplitProgram$Engine" "master" "I" ∈ gw := gw_in (tin2 (List.mem_of_getElem? (i := 57) rfl)) rfl
theorem wml_X3_104 : Cond.methodLink RX3 104 yX2_valueAt ∈ gw := gw_in (tin4 (List.mem_of_getElem? (i := 63) rfl)) rfl
theorem winst_X2_valueAt : Cond.instanceMethod yX2_valueAt ∈ gw := gw_in (tin4 (List.mem_of_getElem? (i := 64) rfl)) rfl
theorem wsel_X2_valueAt : Cond.selects RX2 yX2_valueAt yX2_valueAt ∈ gw := gw_in (tin4 (List.mem_of_getElem? (i := 65) rfl)) rfl
theorem wfl_X3_36 : Cond.fieldLink RX3 36 "SplitProgram$Engine" "ages" "[I" ∈ gw := gw_in (tin2 (List.mem_of_getElem? (i := 56) rfl)) rfl
theorem wfl_X3_107 : Cond.fieldLink RX3 107 "SplitProgram$Cuts" "ages" "[I" ∈ gw := gw_in (tin1 (List.mem_of_getElem? (i := 123) rfl)) rfl
theorem wml_X3_108 : Cond.methodLink RX3 108 yJ9_min_7cf53 ∈ gw := gw_in (tin4 (List.mem_of_getElem? (i := 70) rfl)) rfl
theorem wcode_X3_masterTotal : Cond.code yX3_masterTotal cX3_masterTotal 4 (some .int) ∈ gw := gw_in (tin4 (List.mem_of_getElem? (i := 79) rfl)) rfl
theorem wml_X3_136 : Cond.methodLink RX3 136 yX6_feesOf ∈ gw := gw_in (tin4 (List.mem_of_getElem? (i := 80) rfl)) rfl
theorem wfl_X3_65 : Cond.fieldLink RX3 65 "SplitProgram$Program" "cases" "I" ∈ gw := gw_in (tin1 (List.mem_of_getElem? (i := 57) rfl)) rfl
theorem wfl_X3_25 : Cond.fieldLink RX3 25 "SplitProgram$Engine" "prices" "[I" ∈ gw := gw_in (tin2 (List.mem_of_getElem? (i := 53) rfl)) rfl
theorem wfl_X3_139 : Cond.fieldLink RX3 139 "SplitProgram$Program" "weights" "[I" ∈ gw := gw_in (tin1 (List.mem_of_getElem? (i := 76) rfl)) rfl
theorem wcode_X3_moveBounds : Cond.code yX3_moveBounds cX3_moveBounds 6 none ∈ gw := gw_in (tin4 (List.mem_of_getElem? (i := 74) rfl)) rfl
theorem wfl_X3_21 : Cond.fieldLink RX3 21 "SplitProgram$Engine" "bounds" "LSplitProgram$Bounds;" ∈ gw := gw_in (tin2 (List.mem_of_getElem? (i := 51) rfl)) rfl
theorem wml_X3_114 : Cond.methodLink RX3 114 yX1_floorAt ∈ gw := gw_in (tin4 (List.mem_of_getElem? (i := 75) rfl)) rfl
theorem wfl_X3_117 : Cond.fieldLink RX3 117 "SplitProgram$Search" "lower" "I" ∈ gw := gw_in (tin1 (List.mem_of_getElem? (i := 154) rfl)) rfl
theorem wfl_X3_120 : Cond.fieldLink RX3 120 "SplitProgram$Engine" "rises" "Z" ∈ gw := gw_in (tin2 (List.mem_of_getElem? (i := 62) rfl)) rfl
theorem wfl_X3_124 : Cond.fieldLink RX3 124 "SplitProgram$Engine" "lower" "I" ∈ gw := gw_in (tin2 (List.mem_of_getElem? (i := 59) rfl)) rfl
theorem wml_X3_125 : Cond.methodLink RX3 125 yX3_masterTotal ∈ gw := gw_in (tin4 (List.mem_of_getElem? (i := 76) rfl)) rfl
theorem winst_X3_masterTotal : Cond.instanceMethod yX3_masterTotal ∈ gw := gw_in (tin4 (List.mem_of_getElem? (i := 78) rfl)) rfl
theorem wsel_X3_masterTotal : Cond.selects RX3 yX3_masterTotal yX3_masterTotal ∈ gw := gw_sel (y := yX3_masterTotal) (n := 12) 23 rfl
theorem wfl_X3_128 : Cond.fieldLink RX3 128 "SplitProgram$Search" "upper" "I" ∈ gw := gw_in (tin1 (List.mem_of_getElem? (i := 157) rfl)) rfl
theorem wfl_X3_131 : Cond.fieldLink RX3 131 "SplitProgram$Engine" "upper" "I" ∈ gw := gw_in (tin2 (List.mem_of_getElem? (i := 60) rfl)) rfl
theorem wfl_X3_132 : Cond.fieldLink RX3 132 "SplitProgram$Search" "best" "I" ∈ gw := gw_in (tin1 (List.mem_of_getElem? (i := 160) rfl)) rfl
theorem wfl_X3_135 : Cond.fieldLink RX3 135 "SplitProgram$Engine" "best" "I" ∈ gw := gw_in (tin2 (List.mem_of_getElem? (i := 61) rfl)) rfl
theorem wcode_X10_gapBetween : Cond.code yX10_gapBetween cX10_gapBetween 2 (some .float) ∈ gw := gw_in (tin4 (List.mem_of_getElem? (i := 87) rfl)) rfl
theorem wcode_X3_judge : Cond.code yX3_judge cX3_judge 2 (some .int) ∈ gw := gw_in (tin4 (List.mem_of_getElem? (i := 84) rfl)) rfl
theorem wmn_X3_142 : Cond.methodLinkNest RX3 142 yX10_gapBetween "SplitProgram" ∈ nestW := nest_of (tin4 (List.mem_of_getElem? (i := 85) rfl)) rfl
theorem wstat_X10_gapBetween : Cond.static yX10_gapBetween ∈ gw := gw_in (tin4 (List.mem_of_getElem? (i := 86) rfl)) rfl
theorem wconf_X3_146 : Cond.constantFloat RX3 146 (1148846080) ∈ gw := gw_in (tin4 (List.mem_of_getElem? (i := 88) rfl)) rfl
theorem wcode_X3_worstCase : Cond.code yX3_worstCase cX3_worstCase 6 (some .int) ∈ gw := gw_in (tin4 (List.mem_of_getElem? (i := 96) rfl)) rfl
theorem wfl_X3_12 : Cond.fieldLink RX3 12 "SplitProgram$Engine" "book" "LSplitProgram$Book;" ∈ gw := gw_in (tin2 (List.mem_of_getElem? (i := 49) rfl)) rfl
theorem wfl_X3_150 : Cond.fieldLink RX3 150 "SplitProgram$Book" "freight" "LSplitProgram$Freight;" ∈ gw := gw_in (tin2 (List.mem_of_getElem? (i := 22) rfl)) rfl
theorem wml_X3_154 : Cond.methodLink RX3 154 yX4_lackAt ∈ gw := gw_in (tin4 (List.mem_of_getElem? (i := 97) rfl)) rfl
theorem wcode_X3_pick : Cond.code yX3_pick cX3_pick 6 (some .int) ∈ gw := gw_in (tin4 (List.mem_of_getElem? (i := 92) rfl)) rfl
theorem wfl_X3_32 : Cond.fieldLink RX3 32 "SplitProgram$Engine" "picked" "[Z" ∈ gw := gw_in (tin2 (List.mem_of_getElem? (i := 55) rfl)) rfl
theorem wml_X3_147 : Cond.methodLink RX3 147 yX3_worstCase ∈ gw := gw_in (tin4 (List.mem_of_getElem? (i := 93) rfl)) rfl
theorem winst_X3_worstCase : Cond.instanceMethod yX3_worstCase ∈ gw := gw_in (tin4 (List.mem_of_getElem? (i := 95) rfl)) rfl
theorem wsel_X3_worstCase : Cond.selects RX3 yX3_worstCase yX3_worstCase ∈ gw := gw_sel (y := yX3_worstCase) (n := 12) 26 rfl
theorem wcode_X3_countStaying : Cond.code yX3_countStaying cX3_countStaying 5 (some .int) ∈ gw := gw_in (tin4 (List.mem_of_getElem? (i := 101) rfl)) rfl
theorem wcode_X3_decide : Cond.code yX3_decide cX3_decide 6 (some .boolean) ∈ gw := gw_in (tin3 (List.mem_of_getElem? (i := 210) rfl)) rfl
theorem wml_X3_53 : Cond.methodLink RX3 53 yX1_freshen ∈ gw := gw_in (tin3 (List.mem_of_getElem? (i := 211) rfl)) rfl
theorem winst_X1_freshen : Cond.instanceMethod yX1_freshen ∈ gw := gw_in (tin3 (List.mem_of_getElem? (i := 212) rfl)) rfl
theorem wsel_X1_freshen : Cond.selects RX1 yX1_freshen yX1_freshen ∈ gw := gw_in (tin3 (List.mem_of_getElem? (i := 213) rfl)) rfl
theorem wml_X3_57 : Cond.methodLink RX3 57 yX1_lowestPlan ∈ gw := gw_in (tin3 (List.mem_of_getElem? (i := 228) rfl)) rfl
theorem winst_X1_lowestPlan : Cond.instanceMethod yX1_lowestPlan ∈ gw := gw_in (tin3 (List.mem_of_getElem? (i := 229) rfl)) rfl
theorem wsel_X1_lowestPlan : Cond.selects RX1 yX1_lowestPlan yX1_lowestPlan ∈ gw := gw_in (tin3 (List.mem_of_getElem? (i := 230) rfl)) rfl
theorem wml_X3_70 : Cond.methodLink RX3 70 yX0_priceAt ∈ gw := gw_in (tin4 (List.mem_of_getElem? (i := 7) rfl)) rfl
theorem winst_X0_priceAt : Cond.instanceMethod yX0_priceAt ∈ gw := gw_in (tin4 (List.mem_of_getElem? (i := 8) rfl)) rfl
theorem wsel_X0_priceAt : Cond.selects RX0 yX0_priceAt yX0_priceAt ∈ gw := gw_in (tin4 (List.mem_of_getElem? (i := 9) rfl)) rfl
theorem wfl_X3_74 : Cond.fieldLink RX3 74 "SplitProgram$Bounds" "reaches" "[I" ∈ gw := gw_in (tin2 (List.mem_of_getElem? (i := 40) rfl)) rfl
theorem wml_X3_75 : Cond.methodLink RX3 75 yX3_findAges ∈ gw := gw_in (tin4 (List.mem_of_getElem? (i := 59) rfl)) rfl
theorem winst_X3_findAges : Cond.instanceMethod yX3_findAges ∈ gw := gw_in (tin4 (List.mem_of_getElem? (i := 61) rfl)) rfl
theorem wsel_X3_findAges : Cond.selects RX3 yX3_findAges yX3_findAges ∈ gw := gw_sel (y := yX3_findAges) (n := 12) 21 rfl
theorem wml_X3_78 : Cond.methodLink RX3 78 yX3_moveBounds ∈ gw := gw_in (tin4 (List.mem_of_getElem? (i := 71) rfl)) rfl
theorem winst_X3_moveBounds : Cond.instanceMethod yX3_moveBounds ∈ gw := gw_in (tin4 (List.mem_of_getElem? (i := 73) rfl)) rfl
theorem wsel_X3_moveBounds : Cond.selects RX3 yX3_moveBounds yX3_moveBounds ∈ gw := gw_sel (y := yX3_moveBounds) (n := 12) 22 rfl
theorem wml_X3_82 : Cond.methodLink RX3 82 yX3_judge ∈ gw := gw_in (tin4 (List.mem_of_getElem? (i := 81) rfl)) rfl
theorem winst_X3_judge : Cond.instanceMethod yX3_judge ∈ gw := gw_in (tin4 (List.mem_of_getElem? (i := 83) rfl)) rfl
theorem wsel_X3_judge : Cond.selects RX3 yX3_judge yX3_judge ∈ gw := gw_sel (y := yX3_judge) (n := 12) 24 rfl
theorem wfl_X3_64 : Cond.fieldLink RX3 64 "SplitProgram$Engine" "over" "I" ∈ gw := gw_in (tin2 (List.mem_of_getElem? (i := 58) rfl)) rfl
theorem wml_X3_86 : Cond.methodLink RX3 86 yX3_pick ∈ gw := gw_in (tin4 (List.mem_of_getElem? (i := 89) rfl)) rfl
theorem winst_X3_pick : Cond.instanceMethod yX3_pick ∈ gw := gw_in (tin4 (List.mem_of_getElem? (i := 91) rfl)) rfl
theorem wsel_X3_pick : Cond.selects RX3 yX3_pick yX3_pick ∈ gw := gw_sel (y := yX3_pick) (n := 12) 25 rfl
theorem wml_X3_90 : Cond.methodLink RX3 90 yX3_countStaying ∈ gw := gw_in (tin4 (List.mem_of_getElem? (i := 98) rfl)) rfl
theorem winst_X3_countStaying : Cond.instanceMethod yX3_countStaying ∈ gw := gw_in (tin4 (List.mem_of_getElem? (i := 100) rfl)) rfl
theorem wsel_X3_countStaying : Cond.selects RX3 yX3_countStaying yX3_countStaying ∈ gw := gw_sel (y := yX3_countStaying) (n := 12) 27 rfl
theorem wcode_X2_move : Cond.code yX2_move cX2_move 3 none ∈ gw := gw_in (tin3 (List.mem_of_getElem? (i := 145) rfl)) rfl
theorem wfl_X2_19 : Cond.fieldLink RX2 19 "SplitProgram$Cuts" "rays" "[I" ∈ gw := gw_in (tin1 (List.mem_of_getElem? (i := 118) rfl)) rfl
theorem wfl_X2_22 : Cond.fieldLink RX2 22 "SplitProgram$Cuts" "ages" "[I" ∈ gw := gw_in (tin1 (List.mem_of_getElem? (i := 122) rfl)) rfl
theorem wml_X2_40 : Cond.methodLink RX2 40 arraycopyName ∈ gw := gw_in (tin3 (List.mem_of_getElem? (i := 115) rfl)) rfl
theorem wcode_X2_dropAged : Cond.code yX2_dropAged cX2_dropAged 4 (some .int) ∈ gw := gw_in (tin4 (List.mem_of_getElem? (i := 110) rfl)) rfl
theorem wfl_X2_31 : Cond.fieldLink RX2 31 "SplitProgram$Cuts" "size" "I" ∈ gw := gw_in (tin1 (List.mem_of_getElem? (i := 110) rfl)) rfl
theorem wml_X2_50 : Cond.methodLink RX2 50 yX2_move ∈ gw := gw_in (tin3 (List.mem_of_getElem? (i := 142) rfl)) rfl
theorem winst_X2_move : Cond.instanceMethod yX2_move ∈ gw := gw_in (tin3 (List.mem_of_getElem? (i := 144) rfl)) rfl
theorem wsel_X2_move : Cond.selects RX2 yX2_move yX2_move ∈ gw := gw_sel (y := yX2_move) (n := 7) 13 rfl
theorem wcode_X4_findRay : Cond.code yX4_findRay cX4_findRay 9 none ∈ gw := gw_in (tin4 (List.mem_of_getElem? (i := 119) rfl)) rfl
theorem wfl_X4_46 : Cond.fieldLink RX4 46 "SplitProgram$Freight" "v" "[I" ∈ gw := gw_in (tin1 (List.mem_of_getElem? (i := 231) rfl)) rfl
theorem wfl_X4_43 : Cond.fieldLink RX4 43 "SplitProgram$Freight" "u" "[I" ∈ gw := gw_in (tin1 (List.mem_of_getElem? (i := 228) rfl)) rfl
theorem wcode_X4_greatestRate : Cond.code yX4_greatestRate cX4_greatestRate 6 (some .int) ∈ gw := gw_in (tin4 (List.mem_of_getElem? (i := 128) rfl)) rfl
theorem wcode_X4_findPoint : Cond.code yX4_findPoint cX4_findPoint 7 none ∈ gw := gw_in (tin4 (List.mem_of_getElem? (i := 124) rfl)) rfl
theorem wml_X4_135 : Cond.methodLink RX4 135 yX4_greatestRate ∈ gw := gw_in (tin4 (List.mem_of_getElem? (i := 125) rfl)) rfl
theorem winst_X4_greatestRate : Cond.instanceMethod yX4_greatestRate ∈ gw := gw_in (tin4 (List.mem_of_getElem? (i := 127) rfl)) rfl
theorem wsel_X4_greatestRate : Cond.selects RX4 yX4_greatestRate yX4_greatestRate ∈ gw := gw_sel (y := yX4_greatestRate) (n := 12) 30 rfl
theorem wcode_X4_findRates : Cond.code yX4_findRates cX4_findRates 5 (some .boolean) ∈ gw := gw_in (tin4 (List.mem_of_getElem? (i := 114) rfl)) rfl
theorem wml_X4_121 : Cond.methodLink RX4 121 yX4_lackAt ∈ gw := gw_in (tin4 (List.mem_of_getElem? (i := 115) rfl)) rfl
theorem wml_X4_129 : Cond.methodLink RX4 129 yX4_costAt ∈ gw := gw_in (tin4 (List.mem_of_getElem? (i := 120) rfl)) rfl
theorem wml_X4_132 : Cond.methodLink RX4 132 yX4_findPoint ∈ gw := gw_in (tin4 (List.mem_of_getElem? (i := 121) rfl)) rfl
theorem winst_X4_findPoint : Cond.instanceMethod yX4_findPoint ∈ gw := gw_in (tin4 (List.mem_of_getElem? (i := 123) rfl)) rfl
theorem wsel_X4_findPoint : Cond.selects RX4 yX4_findPoint yX4_findPoint ∈ gw := gw_sel (y := yX4_findPoint) (n := 12) 29 rfl
theorem wml_X4_125 : Cond.methodLink RX4 125 yX4_findRay ∈ gw := gw_in (tin4 (List.mem_of_getElem? (i := 116) rfl)) rfl
theorem winst_X4_findRay : Cond.instanceMethod yX4_findRay ∈ gw := gw_in (tin4 (List.mem_of_getElem? (i := 118) rfl)) rfl
theorem wsel_X4_findRay : Cond.selects RX4 yX4_findRay yX4_findRay ∈ gw := gw_sel (y := yX4_findRay) (n := 12) 28 rfl
theorem wcode_X2_append : Cond.code yX2_append cX2_append 5 none ∈ gw := gw_in (tin4 (List.mem_of_getElem? (i := 132) rfl)) rfl
theorem wfl_X2_9 : Cond.fieldLink RX2 9 "SplitProgram$Cuts" "most" "I" ∈ gw := gw_in (tin1 (List.mem_of_getElem? (i := 109) rfl)) rfl
theorem wcode_X3_apply : Cond.code yX3_apply cX3_apply 8 (some .int) ∈ gw := gw_in (tin4 (List.mem_of_getElem? (i := 105) rfl)) rfl
theorem wfl_X3_159 : Cond.fieldLink RX3 159 "SplitProgram$Search" "rounds" "I" ∈ gw := gw_in (tin1 (List.mem_of_getElem? (i := 166) rfl)) rfl
theorem wfl_X3_39 : Cond.fieldLink RX3 39 "SplitProgram$Search" "over" "I" ∈ gw := gw_in (tin1 (List.mem_of_getElem? (i := 151) rfl)) rfl
theorem wfl_X3_162 : Cond.fieldLink RX3 162 "SplitProgram$Search" "master" "I" ∈ gw := gw_in (tin1 (List.mem_of_getElem? (i := 163) rfl)) rfl
theorem wml_X3_163 : Cond.methodLink RX3 163 arraycopyName ∈ gw := gw_in (tin4 (List.mem_of_getElem? (i := 106) rfl)) rfl
theorem wml_X3_178 : Cond.methodLink RX3 178 yX4_findRates ∈ gw := gw_in (tin4 (List.mem_of_getElem? (i := 111) rfl)) rfl
theorem winst_X4_findRates : Cond.instanceMethod yX4_findRates ∈ gw := gw_in (tin4 (List.mem_of_getElem? (i := 112) rfl)) rfl
theorem wsel_X4_findRates : Cond.selects RX4 yX4_findRates yX4_findRates ∈ gw := gw_in (tin4 (List.mem_of_getElem? (i := 113) rfl)) rfl
theorem wfl_X3_182 : Cond.fieldLink RX3 182 "SplitProgram$Freight" "u" "[I" ∈ gw := gw_in (tin1 (List.mem_of_getElem? (i := 229) rfl)) rfl
theorem wfl_X3_185 : Cond.fieldLink RX3 185 "SplitProgram$Freight" "v" "[I" ∈ gw := gw_in (tin1 (List.mem_of_getElem? (i := 232) rfl)) rfl
theorem wml_X3_188 : Cond.methodLink RX3 188 yX2_append ∈ gw := gw_in (tin4 (List.mem_of_getElem? (i := 129) rfl)) rfl
theorem winst_X2_append : Cond.instanceMethod yX2_append ∈ gw := gw_in (tin4 (List.mem_of_getElem? (i := 130) rfl)) rfl
theorem wsel_X2_append : Cond.selects RX2 yX2_append yX2_append ∈ gw := gw_in (tin4 (List.mem_of_getElem? (i := 131) rfl)) rfl
theorem wfl_X3_175 : Cond.fieldLink RX3 175 "SplitProgram$Bounds" "stale" "Z" ∈ gw := gw_in (tin2 (List.mem_of_getElem? (i := 37) rfl)) rfl
theorem wml_X3_192 : Cond.methodLink RX3 192 yX1_include ∈ gw := gw_in (tin4 (List.mem_of_getElem? (i := 133) rfl)) rfl
theorem wml_X3_169 : Cond.methodLink RX3 169 yX2_dropAged ∈ gw := gw_in (tin4 (List.mem_of_getElem? (i := 107) rfl)) rfl
theorem winst_X2_dropAged : Cond.instanceMethod yX2_dropAged ∈ gw := gw_in (tin4 (List.mem_of_getElem? (i := 108) rfl)) rfl
theorem wsel_X2_dropAged : Cond.selects RX2 yX2_dropAged yX2_dropAged ∈ gw := gw_in (tin4 (List.mem_of_getElem? (i := 109) rfl)) rfl
theorem wfl_X3_172 : Cond.fieldLink RX3 172 "SplitProgram$Search" "gone" "I" ∈ gw := gw_in (tin1 (List.mem_of_getElem? (i := 169) rfl)) rfl
theorem wcode_X3_run : Cond.code yX3_run cX3_run 8 (some .int) ∈ gw := gw_in (tin4 (List.mem_of_getElem? (i := 141) rfl)) rfl
theorem wml_X3_45 : Cond.methodLink RX3 45 yX3_decide ∈ gw := gw_in (tin4 (List.mem_of_getElem? (i := 142) rfl)) rfl
theorem winst_X3_decide : Cond.instanceMethod yX3_decide ∈ gw := gw_in (tin3 (List.mem_of_getElem? (i := 208) rfl)) rfl
theorem wsel_X3_decide : Cond.selects RX3 yX3_decide yX3_decide ∈ gw := gw_in (tin3 (List.mem_of_getElem? (i := 209) rfl)) rfl
theorem wml_X3_49 : Cond.methodLink RX3 49 yX3_apply ∈ gw := gw_in (tin4 (List.mem_of_getElem? (i := 143) rfl)) rfl
theorem winst_X3_apply : Cond.instanceMethod yX3_apply ∈ gw := gw_in (tin4 (List.mem_of_getElem? (i := 103) rfl)) rfl
theorem wsel_X3_apply : Cond.selects RX3 yX3_apply yX3_apply ∈ gw := gw_in (tin4 (List.mem_of_getElem? (i := 104) rfl)) rfl
theorem wcode_X10_would : Cond.code yX10_would cX10_would 4 (some .int) ∈ gw := gw_in (tin5 (List.mem_of_getElem? (i := 36) rfl)) rfl
theorem wfl_X10_85 : Cond.fieldLink RX10 85 "SplitProgram" "TERM_LOWEST" "[I" ∈ gw := gw_in (tin2 (List.mem_of_getElem? (i := 196) rfl)) rfl
theorem wfl_X10_88 : Cond.fieldLink RX10 88 "SplitProgram" "TERM_HIGHEST" "[I" ∈ gw := gw_in (tin2 (List.mem_of_getElem? (i := 198) rfl)) rfl
theorem win_10 : ∀ w ∈ u_ws RX10 TX10 14, w ∈ gw := (List.forall_mem_cons.mpr ⟨gw_in (tin2 (List.mem_of_getElem? (i := 159) rfl)) rfl, (List.forall_mem_cons.mpr ⟨gw_in (tin2 (List.mem_of_getElem? (i := 161) rfl)) rfl, (List.forall_mem_cons.mpr ⟨gw_in (tin2 (List.mem_of_getElem? (i := 163) rfl)) rfl, (List.forall_mem_cons.mpr ⟨gw_in (tin2 (List.mem_of_getElem? (i := 165) rfl)) rfl, (List.forall_mem_cons.mpr ⟨gw_in (tin2 (List.mem_of_getElem? (i := 167) rfl)) rfl, (List.forall_mem_cons.mpr ⟨gw_in (tin2 (List.mem_of_getElem? (i := 169) rfl)) rfl, (List.forall_mem_cons.mpr ⟨gw_in (tin2 (List.mem_of_getElem? (i := 171) rfl)) rfl, (List.forall_mem_cons.mpr ⟨gw_in (tin2 (List.mem_of_getElem? (i := 173) rfl)) rfl, (List.forall_mem_cons.mpr ⟨gw_in (tin2 (List.mem_of_getElem? (i := 175) rfl)) rfl, (List.forall_mem_cons.mpr ⟨gw_in (tin2 (List.mem_of_getElem? (i := 177) rfl)) rfl, (List.forall_mem_cons.mpr ⟨gw_in (tin2 (List.mem_of_getElem? (i := 179) rfl)) rfl, (List.forall_mem_cons.mpr ⟨gw_in (tin2 (List.mem_of_getElem? (i := 181) rfl)) rfl, (List.forall_mem_cons.mpr ⟨gw_in (tin2 (List.mem_of_getElem? (i := 183) rfl)) rfl, (List.forall_mem_cons.mpr ⟨gw_in (tin2 (List.mem_of_getElem? (i := 185) rfl)) rfl, (fun _ h => by cases h)⟩)⟩)⟩)⟩)⟩)⟩)⟩)⟩)⟩)⟩)⟩)⟩)⟩)⟩)
theorem wfl_X10_75 : Cond.fieldLink RX10 75 "SplitProgram" "paperTerms" "[I" ∈ gw := gw_in (tin2 (List.mem_of_getElem? (i := 156) rfl)) rfl
theorem wfl_X10_64 : Cond.fieldLink RX10 64 "SplitProgram" "paperCuts" "LSplitProgram$Cuts;" ∈ gw := gw_in (tin2 (List.mem_of_getElem? (i := 154) rfl)) rfl
theorem wfl_X10_123 : Cond.fieldLink RX10 123 "SplitProgram$Cuts" "size" "I" ∈ gw := gw_in (tin1 (List.mem_of_getElem? (i := 113) rfl)) rfl
theorem wfl_X10_71 : Cond.fieldLink RX10 71 "SplitProgram" "paperSearch" "LSplitProgram$Search;" ∈ gw := gw_in (tin2 (List.mem_of_getElem? (i := 155) rfl)) rfl
theorem wml_X10_205 : Cond.methodLink RX10 205 yX7_reset ∈ gw := gw_in (tin3 (List.mem_of_getElem? (i := 130) rfl)) rfl
theorem winst_X7_reset : Cond.instanceMethod yX7_reset ∈ gw := gw_in (tin3 (List.mem_of_getElem? (i := 131) rfl)) rfl
theorem wsel_X7_reset : Cond.selects RX7 yX7_reset yX7_reset ∈ gw := gw_in (tin3 (List.mem_of_getElem? (i := 132) rfl)) rfl
theorem wfl_X10_23 : Cond.fieldLink RX10 23 "SplitProgram" "engine" "LSplitProgram$Engine;" ∈ gw := gw_in (tin2 (List.mem_of_getElem? (i := 147) rfl)) rfl
theorem wfl_X10_208 : Cond.fieldLink RX10 208 "SplitProgram$Engine" "bounds" "LSplitProgram$Bounds;" ∈ gw := gw_in (tin2 (List.mem_of_getElem? (i := 52) rfl)) rfl
theorem wfl_X10_212 : Cond.fieldLink RX10 212 "SplitProgram$Bounds" "stale" "Z" ∈ gw := gw_in (tin2 (List.mem_of_getElem? (i := 38) rfl)) rfl
theorem wfl_X10_10 : Cond.fieldLink RX10 10 "SplitProgram" "state" "LSplitProgram$State;" ∈ gw := gw_in (tin2 (List.mem_of_getElem? (i := 145) rfl)) rfl
theorem win_8 : ∀ w ∈ u_ws RX8 TX8 3, w ∈ gw := (List.forall_mem_cons.mpr ⟨gw_in (tin1 (List.mem_of_getElem? (i := 192) rfl)) rfl, (List.forall_mem_cons.mpr ⟨gw_in (tin1 (List.mem_of_getElem? (i := 194) rfl)) rfl, (List.forall_mem_cons.mpr ⟨gw_in (tin1 (List.mem_of_getElem? (i := 196) rfl)) rfl, (fun _ h => by cases h)⟩)⟩)⟩)
theorem wfl_X10_113 : Cond.fieldLink RX10 113 "SplitProgram$State" "program" "LSplitProgram$Program;" ∈ gw := gw_in (tin1 (List.mem_of_getElem? (i := 187) rfl)) rfl
theorem wml_X10_201 : Cond.methodLink RX10 201 yX3_run ∈ gw := gw_in (tin4 (List.mem_of_getElem? (i := 138) rfl)) rfl
theorem winst_X3_run : Cond.instanceMethod yX3_run ∈ gw := gw_in (tin4 (List.mem_of_getElem? (i := 139) rfl)) rfl
theorem wsel_X3_run : Cond.selects RX3 yX3_run yX3_run ∈ gw := gw_in (tin4 (List.mem_of_getElem? (i := 140) rfl)) rfl
theorem wfl_X10_190 : Cond.fieldLink RX10 190 "SplitProgram$Search" "over" "I" ∈ gw := gw_in (tin1 (List.mem_of_getElem? (i := 152) rfl)) rfl
theorem wcode_X10_refuse : Cond.code yX10_refuse cX10_refuse 3 (some .int) ∈ gw := gw_in (tin2 (List.mem_of_getElem? (i := 195) rfl)) rfl
theorem wfl_X10_351 : Cond.fieldLink RX10 351 "SplitProgram" "latestRefusal" "I" ∈ gw := gw_in (tin2 (List.mem_of_getElem? (i := 158) rfl)) rfl
theorem wfl_X10_78 : Cond.fieldLink RX10 78 "SplitProgram" "refusals" "[I" ∈ gw := gw_in (tin2 (List.mem_of_getElem? (i := 157) rfl)) rfl
theorem wcode_X6_copyFrom : Cond.code yX6_copyFrom cX6_copyFrom 2 none ∈ gw := gw_in (tin3 (List.mem_of_getElem? (i := 106) rfl)) rfl
theorem wfl_X6_40 : Cond.fieldLink RX6 40 "SplitProgram$Program" "sites" "I" ∈ gw := gw_in (tin1 (List.mem_of_getElem? (i := 51) rfl)) rfl
theorem wfl_X6_43 : Cond.fieldLink RX6 43 "SplitProgram$Program" "cases" "I" ∈ gw := gw_in (tin1 (List.mem_of_getElem? (i := 56) rfl)) rfl
theorem wml_X6_46 : Cond.methodLink RX6 46 arraycopyName ∈ gw := gw_in (tin3 (List.mem_of_getElem? (i := 107) rfl)) rfl
theorem wfl_X6_15 : Cond.fieldLink RX6 15 "SplitProgram$Program" "sizes" "[I" ∈ gw := gw_in (tin1 (List.mem_of_getElem? (i := 63) rfl)) rfl
theorem wfl_X6_24 : Cond.fieldLink RX6 24 "SplitProgram$Program" "weights" "[I" ∈ gw := gw_in (tin1 (List.mem_of_getElem? (i := 73) rfl)) rfl
theorem wfl_X6_27 : Cond.fieldLink RX6 27 "SplitProgram$Program" "needs" "[I" ∈ gw := gw_in (tin1 (List.mem_of_getElem? (i := 78) rfl)) rfl
theorem wcode_X2_copyFrom : Cond.code yX2_copyFrom cX2_copyFrom 2 none ∈ gw := gw_in (tin3 (List.mem_of_getElem? (i := 113) rfl)) rfl
theorem wml_X2_34 : Cond.methodLink RX2 34 yJ9_min_7cf53 ∈ gw := gw_in (tin3 (List.mem_of_getElem? (i := 114) rfl)) rfl
theorem wcode_X7_copyFrom : Cond.code yX7_copyFrom cX7_copyFrom 2 none ∈ gw := gw_in (tin3 (List.mem_of_getElem? (i := 119) rfl)) rfl
theorem wcode_X8_copyFrom : Cond.code yX8_copyFrom cX8_copyFrom 2 none ∈ gw := gw_in (tin3 (List.mem_of_getElem? (i := 102) rfl)) rfl
theorem wini_SplitProgram_State : Cond.initialized "SplitProgram$State" ∈ gw := gw_in (tin1 (List.mem_of_getElem? (i := 2) rfl)) rfl
theorem wfl_X8_12 : Cond.fieldLink RX8 12 "SplitProgram$State" "program" "LSplitProgram$Program;" ∈ gw := gw_in (tin1 (List.mem_of_getElem? (i := 186) rfl)) rfl
theorem wml_X8_34 : Cond.methodLink RX8 34 yX6_copyFrom ∈ gw := gw_in (tin3 (List.mem_of_getElem? (i := 103) rfl)) rfl
theorem winst_X6_copyFrom : Cond.instanceMethod yX6_copyFrom ∈ gw := gw_in (tin3 (List.mem_of_getElem? (i := 104) rfl)) rfl
theorem wsel_X6_copyFrom : Cond.selects RX6 yX6_copyFrom yX6_copyFrom ∈ gw := gw_in (tin3 (List.mem_of_getElem? (i := 105) rfl)) rfl
theorem wfl_X8_23 : Cond.fieldLink RX8 23 "SplitProgram$State" "cuts" "LSplitProgram$Cuts;" ∈ gw := gw_in (tin1 (List.mem_of_getElem? (i := 188) rfl)) rfl
theorem wml_X8_38 : Cond.methodLink RX8 38 yX2_copyFrom ∈ gw := gw_in (tin3 (List.mem_of_getElem? (i := 110) rfl)) rfl
theorem winst_X2_copyFrom : Cond.instanceMethod yX2_copyFrom ∈ gw := gw_in (tin3 (List.mem_of_getElem? (i := 111) rfl)) rfl
theorem wsel_X2_copyFrom : Cond.selects RX2 yX2_copyFrom yX2_copyFrom ∈ gw := gw_in (tin3 (List.mem_of_getElem? (i := 112) rfl)) rfl
theorem wfl_X8_30 : Cond.fieldLink RX8 30 "SplitProgram$State" "search" "LSplitProgram$Search;" ∈ gw := gw_in (tin1 (List.mem_of_getElem? (i := 190) rfl)) rfl
theorem wml_X8_41 : Cond.methodLink RX8 41 yX7_copyFrom ∈ gw := gw_in (tin3 (List.mem_of_getElem? (i := 116) rfl)) rfl
theorem winst_X7_copyFrom : Cond.instanceMethod yX7_copyFrom ∈ gw := gw_in (tin3 (List.mem_of_getElem? (i := 117) rfl)) rfl
theorem wsel_X7_copyFrom : Cond.selects RX7 yX7_copyFrom yX7_copyFrom ∈ gw := gw_in (tin3 (List.mem_of_getElem? (i := 118) rfl)) rfl
theorem wcode_X5_keep : Cond.code yX5_keep cX5_keep 3 none ∈ gw := gw_in (tin3 (List.mem_of_getElem? (i := 98) rfl)) rfl
theorem wini_SplitProgram_History : Cond.initialized "SplitProgram$History" ∈ gw := gw_in (tin1 (List.mem_of_getElem? (i := 12) rfl)) rfl
theorem win_5 : ∀ w ∈ u_ws RX5 TX5 4, w ∈ gw := (List.forall_mem_cons.mpr ⟨gw_in (tin2 (List.mem_of_getElem? (i := 132) rfl)) rfl, (List.forall_mem_cons.mpr ⟨gw_in (tin2 (List.mem_of_getElem? (i := 134) rfl)) rfl, (List.forall_mem_cons.mpr ⟨gw_in (tin2 (List.mem_of_getElem? (i := 136) rfl)) rfl, (List.forall_mem_cons.mpr ⟨gw_in (tin2 (List.mem_of_getElem? (i := 138) rfl)) rfl, (fun _ h => by cases h)⟩)⟩)⟩)⟩)
theorem wfl_X5_11 : Cond.fieldLink RX5 11 "SplitProgram$History" "states" "[LSplitProgram$State;" ∈ gw := gw_in (tin2 (List.mem_of_getElem? (i := 127) rfl)) rfl
theorem wfl_X5_22 : Cond.fieldLink RX5 22 "SplitProgram$History" "next" "I" ∈ gw := gw_in (tin2 (List.mem_of_getElem? (i := 131) rfl)) rfl
theorem wml_X5_26 : Cond.methodLink RX5 26 yX8_copyFrom ∈ gw := gw_in (tin3 (List.mem_of_getElem? (i := 99) rfl)) rfl
theorem winst_X8_copyFrom : Cond.instanceMethod yX8_copyFrom ∈ gw := gw_in (tin3 (List.mem_of_getElem? (i := 100) rfl)) rfl
theorem wsel_X8_copyFrom : Cond.selects RX8 yX8_copyFrom yX8_copyFrom ∈ gw := gw_in (tin3 (List.mem_of_getElem? (i := 101) rfl)) rfl
theorem wfl_X5_17 : Cond.fieldLink RX5 17 "SplitProgram$History" "acts" "[I" ∈ gw := gw_in (tin2 (List.mem_of_getElem? (i := 128) rfl)) rfl
theorem wfl_X5_30 : Cond.fieldLink RX5 30 "SplitProgram$History" "size" "I" ∈ gw := gw_in (tin2 (List.mem_of_getElem? (i := 129) rfl)) rfl
theorem wml_X5_33 : Cond.methodLink RX5 33 yJ9_min_7cf53 ∈ gw := gw_in (tin3 (List.mem_of_getElem? (i := 120) rfl)) rfl
theorem wcode_X10_accept : Cond.code yX10_accept cX10_accept 2 (some .int) ∈ gw := gw_in (tin2 (List.mem_of_getElem? (i := 203) rfl)) rfl
theorem wcode_X10_go : Cond.code yX10_go cX10_go 3 (some .int) ∈ gw := gw_in (tin4 (List.mem_of_getElem? (i := 137) rfl)) rfl
theorem wml_X10_81 : Cond.methodLink RX10 81 yX10_refuse ∈ gw := gw_in (tin2 (List.mem_of_getElem? (i := 192) rfl)) rfl
theorem winst_X10_refuse : Cond.instanceMethod yX10_refuse ∈ gw := gw_in (tin2 (List.mem_of_getElem? (i := 194) rfl)) rfl
theorem wsel_X10_refuse : Cond.selects RX10 yX10_refuse yX10_refuse ∈ gw := gw_sel (y := yX10_refuse) (n := 14) 0 rfl
theorem wfl_X10_187 : Cond.fieldLink RX10 187 "SplitProgram$State" "search" "LSplitProgram$Search;" ∈ gw := gw_in (tin1 (List.mem_of_getElem? (i := 191) rfl)) rfl
theorem wfl_X10_120 : Cond.fieldLink RX10 120 "SplitProgram$State" "cuts" "LSplitProgram$Cuts;" ∈ gw := gw_in (tin1 (List.mem_of_getElem? (i := 189) rfl)) rfl
theorem wfl_X10_16 : Cond.fieldLink RX10 16 "SplitProgram" "termValues" "[I" ∈ gw := gw_in (tin2 (List.mem_of_getElem? (i := 146) rfl)) rfl
theorem wml_X10_193 : Cond.methodLink RX10 193 yX3_decide ∈ gw := gw_in (tin3 (List.mem_of_getElem? (i := 207) rfl)) rfl
theorem wfl_X10_44 : Cond.fieldLink RX10 44 "SplitProgram" "history" "LSplitProgram$History;" ∈ gw := gw_in (tin2 (List.mem_of_getElem? (i := 150) rfl)) rfl
theorem wml_X10_109 : Cond.methodLink RX10 109 yX5_keep ∈ gw := gw_in (tin3 (List.mem_of_getElem? (i := 95) rfl)) rfl
theorem winst_X5_keep : Cond.instanceMethod yX5_keep ∈ gw := gw_in (tin3 (List.mem_of_getElem? (i := 96) rfl)) rfl
theorem wsel_X5_keep : Cond.selects RX5 yX5_keep yX5_keep ∈ gw := gw_in (tin3 (List.mem_of_getElem? (i := 97) rfl)) rfl
theorem wml_X10_197 : Cond.methodLink RX10 197 yX3_apply ∈ gw := gw_in (tin4 (List.mem_of_getElem? (i := 102) rfl)) rfl
theorem wml_X10_91 : Cond.methodLink RX10 91 yX10_accept ∈ gw := gw_in (tin2 (List.mem_of_getElem? (i := 200) rfl)) rfl
theorem winst_X10_accept : Cond.instanceMethod yX10_accept ∈ gw := gw_in (tin2 (List.mem_of_getElem? (i := 202) rfl)) rfl
theorem wsel_X10_accept : Cond.selects RX10 yX10_accept yX10_accept ∈ gw := gw_sel (y := yX10_accept) (n := 14) 1 rfl
theorem wcode_X10_round : Cond.code yX10_round cX10_round 1 (some .int) ∈ gw := gw_in (tin3 (List.mem_of_getElem? (i := 206) rfl)) rfl
