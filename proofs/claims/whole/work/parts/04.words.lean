def xb_isN : Cond → Bool
  | .methodLinkNest _ _ _ _ => true
  | _ => false
def xb_tbl : List Cond := lw_tbl.filter (fun w => goodWord w || xb_isN w)
theorem xb_in {w : Cond} {i : Nat} (h : lw_tbl[i]? = some w) (g : (goodWord w || xb_isN w) = true) : w ∈ xb_tbl := List.mem_filter.mpr ⟨List.mem_of_getElem? h, g⟩
theorem ks_X8_change : Cond.selects RX8 yX8_change yX8_change ∈ xb_tbl := xb_in (i := 0) (by decide +kernel) rfl
theorem ks_X6_add : Cond.selects RX6 yX6_add yX6_add ∈ xb_tbl := xb_in (i := 1) (by decide +kernel) rfl
theorem ks_X6_tellPlain : Cond.selects RX6 yX6_tellPlain yX6_tellPlain ∈ xb_tbl := xb_in (i := 2) (by decide +kernel) rfl
theorem ks_X6_tellSpans : Cond.selects RX6 yX6_tellSpans yX6_tellSpans ∈ xb_tbl := xb_in (i := 3) (by decide +kernel) rfl
theorem ks_X6_tellBlocks : Cond.selects RX6 yX6_tellBlocks yX6_tellBlocks ∈ xb_tbl := xb_in (i := 4) (by decide +kernel) rfl
theorem ks_X6_tellDense : Cond.selects RX6 yX6_tellDense yX6_tellDense ∈ xb_tbl := xb_in (i := 5) (by decide +kernel) rfl
theorem ks_X1_choose : Cond.selects RX1 yX1_choose yX1_choose ∈ xb_tbl := xb_in (i := 6) (by decide +kernel) rfl
theorem ks_X1_decide : Cond.selects RX1 yX1_decide yX1_decide ∈ xb_tbl := xb_in (i := 7) (by decide +kernel) rfl
theorem ks_X1_tallyNumbers : Cond.selects RX1 yX1_tallyNumbers yX1_tallyNumbers ∈ xb_tbl := xb_in (i := 8) (by decide +kernel) rfl
theorem ks_X0_put : Cond.selects RX0 yX0_put yX0_put ∈ xb_tbl := xb_in (i := 9) (by decide +kernel) rfl
theorem ks_X0_putNumber : Cond.selects RX0 yX0_putNumber yX0_putNumber ∈ xb_tbl := xb_in (i := 10) (by decide +kernel) rfl
theorem ks_X0_putUnary : Cond.selects RX0 yX0_putUnary yX0_putUnary ∈ xb_tbl := xb_in (i := 11) (by decide +kernel) rfl
theorem ks_X0_putDoubled : Cond.selects RX0 yX0_putDoubled yX0_putDoubled ∈ xb_tbl := xb_in (i := 12) (by decide +kernel) rfl
theorem ks_X0_putLowest : Cond.selects RX0 yX0_putLowest yX0_putLowest ∈ xb_tbl := xb_in (i := 13) (by decide +kernel) rfl
theorem ks_X2_belowOf : Cond.selects RX2 yX2_belowOf yX2_belowOf ∈ xb_tbl := xb_in (i := 14) (by decide +kernel) rfl
theorem ks_X2_findCopy : Cond.selects RX2 yX2_findCopy yX2_findCopy ∈ xb_tbl := xb_in (i := 15) (by decide +kernel) rfl
theorem ks_X2_hang : Cond.selects RX2 yX2_hang yX2_hang ∈ xb_tbl := xb_in (i := 16) (by decide +kernel) rfl
theorem ks_X3_layLayers : Cond.selects RX3 yX3_layLayers yX3_layLayers ∈ xb_tbl := xb_in (i := 17) (by decide +kernel) rfl
theorem ks_X3_layByKeys : Cond.selects RX3 yX3_layByKeys yX3_layByKeys ∈ xb_tbl := xb_in (i := 18) (by decide +kernel) rfl
theorem ks_X7_findNear : Cond.selects RX7 yX7_findNear yX7_findNear ∈ xb_tbl := xb_in (i := 19) (by decide +kernel) rfl
theorem ks_X7_partOf : Cond.selects RX7 yX7_partOf yX7_partOf ∈ xb_tbl := xb_in (i := 20) (by decide +kernel) rfl
theorem ks_X9_isThing : Cond.selects RX9 yX9_isThing yX9_isThing ∈ xb_tbl := xb_in (i := 21) (by decide +kernel) rfl
theorem ks_X9_turn : Cond.selects RX9 yX9_turn yX9_turn ∈ xb_tbl := xb_in (i := 22) (by decide +kernel) rfl
theorem ks_X9_rowSize : Cond.selects RX9 yX9_rowSize yX9_rowSize ∈ xb_tbl := xb_in (i := 23) (by decide +kernel) rfl
theorem ks_X9_isSame : Cond.selects RX9 yX9_isSame yX9_isSame ∈ xb_tbl := xb_in (i := 24) (by decide +kernel) rfl
theorem ks_X9_bitsBy : Cond.selects RX9 yX9_bitsBy yX9_bitsBy ∈ xb_tbl := xb_in (i := 25) (by decide +kernel) rfl
theorem ks_X9_tell : Cond.selects RX9 yX9_tell yX9_tell ∈ xb_tbl := xb_in (i := 26) (by decide +kernel) rfl
theorem ks_X9_say : Cond.selects RX9 yX9_say yX9_say ∈ xb_tbl := xb_in (i := 27) (by decide +kernel) rfl
theorem ks_X9_take : Cond.selects RX9 yX9_take yX9_take ∈ xb_tbl := xb_in (i := 28) (by decide +kernel) rfl
theorem ks_X9_tellPlain : Cond.selects RX9 yX9_tellPlain yX9_tellPlain ∈ xb_tbl := xb_in (i := 29) (by decide +kernel) rfl
theorem ks_X9_tellSpans : Cond.selects RX9 yX9_tellSpans yX9_tellSpans ∈ xb_tbl := xb_in (i := 30) (by decide +kernel) rfl
theorem ks_X9_runEnd : Cond.selects RX9 yX9_runEnd yX9_runEnd ∈ xb_tbl := xb_in (i := 31) (by decide +kernel) rfl
theorem ks_X9_tellCopied : Cond.selects RX9 yX9_tellCopied yX9_tellCopied ∈ xb_tbl := xb_in (i := 32) (by decide +kernel) rfl
theorem ks_X9_tellDense : Cond.selects RX9 yX9_tellDense yX9_tellDense ∈ xb_tbl := xb_in (i := 33) (by decide +kernel) rfl
theorem ks_X9_numbersBits : Cond.selects RX9 yX9_numbersBits yX9_numbersBits ∈ xb_tbl := xb_in (i := 34) (by decide +kernel) rfl
theorem ks_X9_choose : Cond.selects RX9 yX9_choose yX9_choose ∈ xb_tbl := xb_in (i := 35) (by decide +kernel) rfl
theorem ks_X9_consider : Cond.selects RX9 yX9_consider yX9_consider ∈ xb_tbl := xb_in (i := 36) (by decide +kernel) rfl
theorem ks_X9_writeRow : Cond.selects RX9 yX9_writeRow yX9_writeRow ∈ xb_tbl := xb_in (i := 37) (by decide +kernel) rfl
theorem ks_X9_putBit : Cond.selects RX9 yX9_putBit yX9_putBit ∈ xb_tbl := xb_in (i := 38) (by decide +kernel) rfl
theorem ks_X9_putNumber : Cond.selects RX9 yX9_putNumber yX9_putNumber ∈ xb_tbl := xb_in (i := 39) (by decide +kernel) rfl
theorem ks_X9_putUnary : Cond.selects RX9 yX9_putUnary yX9_putUnary ∈ xb_tbl := xb_in (i := 40) (by decide +kernel) rfl
theorem ks_X9_putDoubled : Cond.selects RX9 yX9_putDoubled yX9_putDoubled ∈ xb_tbl := xb_in (i := 41) (by decide +kernel) rfl
theorem ks_X9_putBits : Cond.selects RX9 yX9_putBits yX9_putBits ∈ xb_tbl := xb_in (i := 42) (by decide +kernel) rfl
theorem ks_X9_closeBook : Cond.selects RX9 yX9_closeBook yX9_closeBook ∈ xb_tbl := xb_in (i := 43) (by decide +kernel) rfl
theorem ks_X9_bitsOfUse : Cond.selects RX9 yX9_bitsOfUse yX9_bitsOfUse ∈ xb_tbl := xb_in (i := 44) (by decide +kernel) rfl
theorem ks_X9_weigh : Cond.selects RX9 yX9_weigh yX9_weigh ∈ xb_tbl := xb_in (i := 45) (by decide +kernel) rfl
theorem ks_X9_bytes : Cond.selects RX9 yX9_bytes yX9_bytes ∈ xb_tbl := xb_in (i := 46) (by decide +kernel) rfl
theorem ks_X9_byteAt : Cond.selects RX9 yX9_byteAt yX9_byteAt ∈ xb_tbl := xb_in (i := 47) (by decide +kernel) rfl
theorem ks_X9_toOrder : Cond.selects RX9 yX9_toOrder yX9_toOrder ∈ xb_tbl := xb_in (i := 48) (by decide +kernel) rfl
theorem ks_X9_orderLayers : Cond.selects RX9 yX9_orderLayers yX9_orderLayers ∈ xb_tbl := xb_in (i := 49) (by decide +kernel) rfl
theorem ks_X9_orderBy : Cond.selects RX9 yX9_orderBy yX9_orderBy ∈ xb_tbl := xb_in (i := 50) (by decide +kernel) rfl
theorem ks_X9_keyOf : Cond.selects RX9 yX9_keyOf yX9_keyOf ∈ xb_tbl := xb_in (i := 51) (by decide +kernel) rfl
theorem ks_X9_isJoined : Cond.selects RX9 yX9_isJoined yX9_isJoined ∈ xb_tbl := xb_in (i := 52) (by decide +kernel) rfl
theorem ks_X9_walk : Cond.selects RX9 yX9_walk yX9_walk ∈ xb_tbl := xb_in (i := 53) (by decide +kernel) rfl
theorem kn_L : Cond.initialized RL ∈ xb_tbl := xb_in (i := 54) (by decide +kernel) rfl
theorem kn_X8 : Cond.initialized RX8 ∈ xb_tbl := xb_in (i := 55) (by decide +kernel) rfl
theorem kn_J9 : Cond.initialized RJ9 ∈ xb_tbl := xb_in (i := 56) (by decide +kernel) rfl
theorem kn_X4 : Cond.initialized RX4 ∈ xb_tbl := xb_in (i := 57) (by decide +kernel) rfl
theorem kn_X5 : Cond.initialized RX5 ∈ xb_tbl := xb_in (i := 58) (by decide +kernel) rfl
theorem kn_X6 : Cond.initialized RX6 ∈ xb_tbl := xb_in (i := 59) (by decide +kernel) rfl
theorem kn_X1 : Cond.initialized RX1 ∈ xb_tbl := xb_in (i := 60) (by decide +kernel) rfl
theorem kn_X0 : Cond.initialized RX0 ∈ xb_tbl := xb_in (i := 61) (by decide +kernel) rfl
theorem kn_X2 : Cond.initialized RX2 ∈ xb_tbl := xb_in (i := 62) (by decide +kernel) rfl
theorem kn_X3 : Cond.initialized RX3 ∈ xb_tbl := xb_in (i := 63) (by decide +kernel) rfl
theorem kn_X7 : Cond.initialized RX7 ∈ xb_tbl := xb_in (i := 64) (by decide +kernel) rfl
theorem kn_X9 : Cond.initialized RX9 ∈ xb_tbl := xb_in (i := 65) (by decide +kernel) rfl
theorem kn_J13 : Cond.initialized RJ13 ∈ xb_tbl := xb_in (i := 66) (by decide +kernel) rfl
theorem kn_J7 : Cond.initialized RJ7 ∈ xb_tbl := xb_in (i := 67) (by decide +kernel) rfl
theorem cl_L_7 : Cond.classLink RL 7 RX8 ∈ xb_tbl := xb_in (i := 68) (by decide +kernel) rfl
theorem kv_X8 : Cond.instantiable RX8 7 ∈ xb_tbl := xb_in (i := 69) (by decide +kernel) rfl
theorem ml_L_15 : Cond.methodLink RL 15 yX8_init ∈ xb_tbl := xb_in (i := 70) (by decide +kernel) rfl
theorem ki_X8_init : Cond.instanceMethod yX8_init ∈ xb_tbl := xb_in (i := 71) (by decide +kernel) rfl
theorem kc_X8_init : Cond.code yX8_init cX8_init 3 none ∈ xb_tbl := xb_in (i := 72) (by decide +kernel) rfl
theorem ml_X8_1 : Cond.methodLink RX8 1 Lib.objectInit ∈ xb_tbl := xb_in (i := 73) (by decide +kernel) rfl
theorem ki_obj : Cond.instanceMethod Lib.objectInit ∈ xb_tbl := xb_in (i := 74) (by decide +kernel) rfl
theorem kc_obj : Cond.code Lib.objectInit ⟨#[0xb1]⟩ 1 none ∈ xb_tbl := xb_in (i := 75) (by decide +kernel) rfl
theorem ml_X8_9 : Cond.methodLink RX8 9 yJ9_min_7cf53 ∈ xb_tbl := xb_in (i := 76) (by decide +kernel) rfl
theorem kt_J9_min_7cf53 : Cond.static yJ9_min_7cf53 ∈ xb_tbl := xb_in (i := 77) (by decide +kernel) rfl
theorem kc_J9_min_7cf53 : Cond.code yJ9_min_7cf53 cJ9_min_7cf53 2 (some .int) ∈ xb_tbl := xb_in (i := 78) (by decide +kernel) rfl
theorem ml_X8_15 : Cond.methodLink RX8 15 yJ9_max_7cf53 ∈ xb_tbl := xb_in (i := 79) (by decide +kernel) rfl
theorem kt_J9_max_7cf53 : Cond.static yJ9_max_7cf53 ∈ xb_tbl := xb_in (i := 80) (by decide +kernel) rfl
theorem kc_J9_max_7cf53 : Cond.code yJ9_max_7cf53 cJ9_max_7cf53 2 (some .int) ∈ xb_tbl := xb_in (i := 81) (by decide +kernel) rfl
theorem cl_X8_18 : Cond.classLink RX8 18 RX4 ∈ xb_tbl := xb_in (i := 82) (by decide +kernel) rfl
theorem kv_X4 : Cond.instantiable RX4 2 ∈ xb_tbl := xb_in (i := 83) (by decide +kernel) rfl
theorem ml_X8_20 : Cond.methodLink RX8 20 yX4_init ∈ xb_tbl := xb_in (i := 84) (by decide +kernel) rfl
theorem ki_X4_init : Cond.instanceMethod yX4_init ∈ xb_tbl := xb_in (i := 85) (by decide +kernel) rfl
theorem kc_X4_init : Cond.code yX4_init cX4_init 2 none ∈ xb_tbl := xb_in (i := 86) (by decide +kernel) rfl
theorem ml_X4_1 : Cond.methodLink RX4 1 Lib.objectInit ∈ xb_tbl := xb_in (i := 87) (by decide +kernel) rfl
theorem fl_X4_7 : Cond.fieldLink RX4 7 RX4 "rows" "[J" ∈ xb_tbl := xb_in (i := 88) (by decide +kernel) rfl
theorem fl_X4_13 : Cond.fieldLink RX4 13 RX4 "renumbered" "[J" ∈ xb_tbl := xb_in (i := 89) (by decide +kernel) rfl
theorem ka_long : Cond.arrayClass .long ∈ xb_tbl := xb_in (i := 95) (by decide +kernel) rfl
theorem cl_X8_27 : Cond.classLink RX8 27 RX5 ∈ xb_tbl := xb_in (i := 96) (by decide +kernel) rfl
theorem kv_X5 : Cond.instantiable RX5 2 ∈ xb_tbl := xb_in (i := 97) (by decide +kernel) rfl
theorem mn_X8_29 : Cond.methodLinkNest RX8 29 yX5_init RX8 ∈ xb_tbl := xb_in (i := 98) (by decide +kernel) rfl
theorem ki_X5_init : Cond.instanceMethod yX5_init ∈ xb_tbl := xb_in (i := 99) (by decide +kernel) rfl
theorem kc_X5_init : Cond.code yX5_init cX5_init 1 none ∈ xb_tbl := xb_in (i := 100) (by decide +kernel) rfl
theorem ml_X5_1 : Cond.methodLink RX5 1 Lib.objectInit ∈ xb_tbl := xb_in (i := 101) (by decide +kernel) rfl
theorem fl_X5_7 : Cond.fieldLink RX5 7 RX5 "formsOfUses" "[I" ∈ xb_tbl := xb_in (i := 102) (by decide +kernel) rfl
theorem fl_X5_13 : Cond.fieldLink RX5 13 RX5 "values" "[I" ∈ xb_tbl := xb_in (i := 103) (by decide +kernel) rfl
theorem ka_int : Cond.arrayClass .int ∈ xb_tbl := xb_in (i := 109) (by decide +kernel) rfl
theorem cl_X8_34 : Cond.classLink RX8 34 RX6 ∈ xb_tbl := xb_in (i := 110) (by decide +kernel) rfl
theorem kv_X6 : Cond.instantiable RX6 3 ∈ xb_tbl := xb_in (i := 111) (by decide +kernel) rfl
theorem mn_X8_36 : Cond.methodLinkNest RX8 36 yX6_init RX8 ∈ xb_tbl := xb_in (i := 112) (by decide +kernel) rfl
theorem ki_X6_init : Cond.instanceMethod yX6_init ∈ xb_tbl := xb_in (i := 113) (by decide +kernel) rfl
theorem kc_X6_init : Cond.code yX6_init cX6_init 1 none ∈ xb_tbl := xb_in (i := 114) (by decide +kernel) rfl
theorem ml_X6_3 : Cond.methodLink RX6 3 Lib.objectInit ∈ xb_tbl := xb_in (i := 115) (by decide +kernel) rfl
theorem fl_X6_11 : Cond.fieldLink RX6 11 RX6 "uses" "[I" ∈ xb_tbl := xb_in (i := 116) (by decide +kernel) rfl
theorem fl_X6_15 : Cond.fieldLink RX6 15 RX6 "numbers" "[I" ∈ xb_tbl := xb_in (i := 117) (by decide +kernel) rfl
theorem fl_X6_18 : Cond.fieldLink RX6 18 RX6 "size" "I" ∈ xb_tbl := xb_in (i := 118) (by decide +kernel) rfl
theorem cl_X8_41 : Cond.classLink RX8 41 RX1 ∈ xb_tbl := xb_in (i := 126) (by decide +kernel) rfl
theorem kv_X1 : Cond.instantiable RX1 9 ∈ xb_tbl := xb_in (i := 127) (by decide +kernel) rfl
theorem ml_X8_43 : Cond.methodLink RX8 43 yX1_init ∈ xb_tbl := xb_in (i := 128) (by decide +kernel) rfl
theorem ki_X1_init : Cond.instanceMethod yX1_init ∈ xb_tbl := xb_in (i := 129) (by decide +kernel) rfl
theorem kc_X1_init : Cond.code yX1_init cX1_init 2 none ∈ xb_tbl := xb_in (i := 130) (by decide +kernel) rfl
theorem ml_X1_3 : Cond.methodLink RX1 3 Lib.objectInit ∈ xb_tbl := xb_in (i := 131) (by decide +kernel) rfl
theorem cl_X1_23 : Cond.classLink RX1 23 RX4 ∈ xb_tbl := xb_in (i := 132) (by decide +kernel) rfl
theorem ml_X1_25 : Cond.methodLink RX1 25 yX4_init ∈ xb_tbl := xb_in (i := 133) (by decide +kernel) rfl
theorem cl_X1_32 : Cond.classLink RX1 32 RX0 ∈ xb_tbl := xb_in (i := 134) (by decide +kernel) rfl
theorem kv_X0 : Cond.instantiable RX0 3 ∈ xb_tbl := xb_in (i := 135) (by decide +kernel) rfl
theorem ml_X1_34 : Cond.methodLink RX1 34 yX0_init ∈ xb_tbl := xb_in (i := 136) (by decide +kernel) rfl
theorem ki_X0_init : Cond.instanceMethod yX0_init ∈ xb_tbl := xb_in (i := 137) (by decide +kernel) rfl
theorem kc_X0_init : Cond.code yX0_init cX0_init 3 none ∈ xb_tbl := xb_in (i := 138) (by decide +kernel) rfl
theorem ml_X0_3 : Cond.methodLink RX0 3 Lib.objectInit ∈ xb_tbl := xb_in (i := 139) (by decide +kernel) rfl
theorem ml_X0_15 : Cond.methodLink RX0 15 yJ9_max_7cf53 ∈ xb_tbl := xb_in (i := 140) (by decide +kernel) rfl
theorem fl_X0_21 : Cond.fieldLink RX0 21 RX0 "written" "[I" ∈ xb_tbl := xb_in (i := 141) (by decide +kernel) rfl
theorem fl_X0_25 : Cond.fieldLink RX0 25 RX0 "now" "[I" ∈ xb_tbl := xb_in (i := 142) (by decide +kernel) rfl
theorem fl_X0_9 : Cond.fieldLink RX0 9 RX0 "size" "I" ∈ xb_tbl := xb_in (i := 143) (by decide +kernel) rfl
theorem fl_X1_28 : Cond.fieldLink RX1 28 RX1 "packed" "LNeighbourBook$Pairs;" ∈ xb_tbl := xb_in (i := 151) (by decide +kernel) rfl
theorem fl_X1_35 : Cond.fieldLink RX1 35 RX1 "bits" "LNeighbourBook$Bits;" ∈ xb_tbl := xb_in (i := 152) (by decide +kernel) rfl
theorem fl_X1_39 : Cond.fieldLink RX1 39 RX1 "kinds" "[I" ∈ xb_tbl := xb_in (i := 153) (by decide +kernel) rfl
theorem fl_X1_42 : Cond.fieldLink RX1 42 RX1 "distances" "[I" ∈ xb_tbl := xb_in (i := 154) (by decide +kernel) rfl
theorem fl_X1_45 : Cond.fieldLink RX1 45 RX1 "depths" "[I" ∈ xb_tbl := xb_in (i := 155) (by decide +kernel) rfl
theorem fl_X1_48 : Cond.fieldLink RX1 48 RX1 "starts" "[I" ∈ xb_tbl := xb_in (i := 156) (by decide +kernel) rfl
theorem fl_X1_11 : Cond.fieldLink RX1 11 RX1 "tally" "[I" ∈ xb_tbl := xb_in (i := 157) (by decide +kernel) rfl
theorem fl_X1_15 : Cond.fieldLink RX1 15 RX1 "there" "Z" ∈ xb_tbl := xb_in (i := 158) (by decide +kernel) rfl
theorem fl_X1_19 : Cond.fieldLink RX1 19 RX1 "step" "I" ∈ xb_tbl := xb_in (i := 159) (by decide +kernel) rfl
theorem cl_X8_48 : Cond.classLink RX8 48 RX2 ∈ xb_tbl := xb_in (i := 179) (by decide +kernel) rfl
theorem kv_X2 : Cond.instantiable RX2 4 ∈ xb_tbl := xb_in (i := 180) (by decide +kernel) rfl
theorem ml_X8_50 : Cond.methodLink RX8 50 yX2_init ∈ xb_tbl := xb_in (i := 181) (by decide +kernel) rfl
theorem ki_X2_init : Cond.instanceMethod yX2_init ∈ xb_tbl := xb_in (i := 182) (by decide +kernel) rfl
theorem kc_X2_init : Cond.code yX2_init cX2_init 2 none ∈ xb_tbl := xb_in (i := 183) (by decide +kernel) rfl
theorem ml_X2_3 : Cond.methodLink RX2 3 Lib.objectInit ∈ xb_tbl := xb_in (i := 184) (by decide +kernel) rfl
theorem fl_X2_18 : Cond.fieldLink RX2 18 RX2 "things" "I" ∈ xb_tbl := xb_in (i := 185) (by decide +kernel) rfl
theorem fl_X2_21 : Cond.fieldLink RX2 21 RX2 "below" "[I" ∈ xb_tbl := xb_in (i := 186) (by decide +kernel) rfl
theorem fl_X2_9 : Cond.fieldLink RX2 9 RX2 "copyBits" "I" ∈ xb_tbl := xb_in (i := 187) (by decide +kernel) rfl
theorem fl_X2_15 : Cond.fieldLink RX2 15 RX2 "copyDistance" "I" ∈ xb_tbl := xb_in (i := 188) (by decide +kernel) rfl
theorem cl_X8_55 : Cond.classLink RX8 55 RX3 ∈ xb_tbl := xb_in (i := 198) (by decide +kernel) rfl
theorem kv_X3 : Cond.instantiable RX3 2 ∈ xb_tbl := xb_in (i := 199) (by decide +kernel) rfl
theorem ml_X8_57 : Cond.methodLink RX8 57 yX3_init ∈ xb_tbl := xb_in (i := 200) (by decide +kernel) rfl
theorem ki_X3_init : Cond.instanceMethod yX3_init ∈ xb_tbl := xb_in (i := 201) (by decide +kernel) rfl
theorem kc_X3_init : Cond.code yX3_init cX3_init 2 none ∈ xb_tbl := xb_in (i := 202) (by decide +kernel) rfl
theorem ml_X3_3 : Cond.methodLink RX3 3 Lib.objectInit ∈ xb_tbl := xb_in (i := 203) (by decide +kernel) rfl
theorem fl_X3_9 : Cond.fieldLink RX3 9 RX3 "line" "[I" ∈ xb_tbl := xb_in (i := 204) (by decide +kernel) rfl
theorem fl_X3_15 : Cond.fieldLink RX3 15 RX3 "keys" "[I" ∈ xb_tbl := xb_in (i := 205) (by decide +kernel) rfl
theorem cl_X8_62 : Cond.classLink RX8 62 RX7 ∈ xb_tbl := xb_in (i := 211) (by decide +kernel) rfl
theorem kv_X7 : Cond.instantiable RX7 1 ∈ xb_tbl := xb_in (i := 212) (by decide +kernel) rfl
theorem ml_X8_64 : Cond.methodLink RX8 64 yX7_init ∈ xb_tbl := xb_in (i := 213) (by decide +kernel) rfl
theorem ki_X7_init : Cond.instanceMethod yX7_init ∈ xb_tbl := xb_in (i := 214) (by decide +kernel) rfl
theorem kc_X7_init : Cond.code yX7_init cX7_init 2 none ∈ xb_tbl := xb_in (i := 215) (by decide +kernel) rfl
theorem ml_X7_3 : Cond.methodLink RX7 3 Lib.objectInit ∈ xb_tbl := xb_in (i := 216) (by decide +kernel) rfl
theorem fl_X7_9 : Cond.fieldLink RX7 9 RX7 "near" "[J" ∈ xb_tbl := xb_in (i := 217) (by decide +kernel) rfl
theorem fl_X8_23 : Cond.fieldLink RX8 23 RX8 "pairs" "LNeighbourBook$Pairs;" ∈ xb_tbl := xb_in (i := 221) (by decide +kernel) rfl
theorem fl_X8_30 : Cond.fieldLink RX8 30 RX8 "rules" "LNeighbourBook$Rules;" ∈ xb_tbl := xb_in (i := 222) (by decide +kernel) rfl
theorem fl_X8_37 : Cond.fieldLink RX8 37 RX8 "telling" "LNeighbourBook$Telling;" ∈ xb_tbl := xb_in (i := 223) (by decide +kernel) rfl
theorem fl_X8_44 : Cond.fieldLink RX8 44 RX8 "book" "LNeighbourBook$Book;" ∈ xb_tbl := xb_in (i := 224) (by decide +kernel) rfl
theorem fl_X8_51 : Cond.fieldLink RX8 51 RX8 "copying" "LNeighbourBook$Copying;" ∈ xb_tbl := xb_in (i := 225) (by decide +kernel) rfl
theorem fl_X8_58 : Cond.fieldLink RX8 58 RX8 "orders" "LNeighbourBook$Orders;" ∈ xb_tbl := xb_in (i := 226) (by decide +kernel) rfl
theorem fl_X8_65 : Cond.fieldLink RX8 65 RX8 "walks" "LNeighbourBook$Walks;" ∈ xb_tbl := xb_in (i := 227) (by decide +kernel) rfl
theorem ml_L_21 : Cond.methodLink RL 21 yX8_pair ∈ xb_tbl := xb_in (i := 243) (by decide +kernel) rfl
theorem ki_X8_pair : Cond.instanceMethod yX8_pair ∈ xb_tbl := xb_in (i := 244) (by decide +kernel) rfl
theorem ks_X8_pair : Cond.selects RX8 yX8_pair yX8_pair ∈ xb_tbl := xb_in (i := 245) (by decide +kernel) rfl
theorem kc_X8_pair : Cond.code yX8_pair cX8_pair 3 (some .int) ∈ xb_tbl := xb_in (i := 246) (by decide +kernel) rfl
theorem ml_X8_69 : Cond.methodLink RX8 69 yX8_change ∈ xb_tbl := xb_in (i := 247) (by decide +kernel) rfl
theorem ki_X8_change : Cond.instanceMethod yX8_change ∈ xb_tbl := xb_in (i := 249) (by decide +kernel) rfl
theorem kc_X8_change : Cond.code yX8_change cX8_change 5 (some .int) ∈ xb_tbl := xb_in (i := 250) (by decide +kernel) rfl
theorem ml_X8_73 : Cond.methodLink RX8 73 yX4_isThing ∈ xb_tbl := xb_in (i := 251) (by decide +kernel) rfl
theorem ki_X4_isThing : Cond.instanceMethod yX4_isThing ∈ xb_tbl := xb_in (i := 252) (by decide +kernel) rfl
theorem ks_X4_isThing : Cond.selects RX4 yX4_isThing yX4_isThing ∈ xb_tbl := xb_in (i := 253) (by decide +kernel) rfl
theorem kc_X4_isThing : Cond.code yX4_isThing cX4_isThing 2 (some .boolean) ∈ xb_tbl := xb_in (i := 254) (by decide +kernel) rfl
theorem ml_X8_77 : Cond.methodLink RX8 77 yX4_joined ∈ xb_tbl := xb_in (i := 255) (by decide +kernel) rfl
theorem ki_X4_joined : Cond.instanceMethod yX4_joined ∈ xb_tbl := xb_in (i := 256) (by decide +kernel) rfl
theorem ks_X4_joined : Cond.selects RX4 yX4_joined yX4_joined ∈ xb_tbl := xb_in (i := 257) (by decide +kernel) rfl
theorem kc_X4_joined : Cond.code yX4_joined cX4_joined 3 (some .boolean) ∈ xb_tbl := xb_in (i := 258) (by decide +kernel) rfl
theorem ml_X4_22 : Cond.methodLink RX4 22 yX4_rowOf ∈ xb_tbl := xb_in (i := 259) (by decide +kernel) rfl
theorem ki_X4_rowOf : Cond.instanceMethod yX4_rowOf ∈ xb_tbl := xb_in (i := 260) (by decide +kernel) rfl
theorem ks_X4_rowOf : Cond.selects RX4 yX4_rowOf yX4_rowOf ∈ xb_tbl := xb_in (i := 261) (by decide +kernel) rfl
theorem kc_X4_rowOf : Cond.code yX4_rowOf cX4_rowOf 2 (some .long) ∈ xb_tbl := xb_in (i := 262) (by decide +kernel) rfl
theorem mn_X4_16 : Cond.methodLinkNest RX4 16 yX8_isIn RX8 ∈ xb_tbl := xb_in (i := 263) (by decide +kernel) rfl
theorem kt_X8_isIn : Cond.static yX8_isIn ∈ xb_tbl := xb_in (i := 264) (by decide +kernel) rfl
theorem kc_X8_isIn : Cond.code yX8_isIn cX8_isIn 3 (some .boolean) ∈ xb_tbl := xb_in (i := 265) (by decide +kernel) rfl
theorem ml_X8_141 : Cond.methodLink RX8 141 yX1_isThere ∈ xb_tbl := xb_in (i := 266) (by decide +kernel) rfl
theorem ki_X1_isThere : Cond.instanceMethod yX1_isThere ∈ xb_tbl := xb_in (i := 267) (by decide +kernel) rfl
theorem ks_X1_isThere : Cond.selects RX1 yX1_isThere yX1_isThere ∈ xb_tbl := xb_in (i := 268) (by decide +kernel) rfl
theorem kc_X1_isThere : Cond.code yX1_isThere cX1_isThere 1 (some .boolean) ∈ xb_tbl := xb_in (i := 269) (by decide +kernel) rfl
theorem ml_X8_251 : Cond.methodLink RX8 251 yX1_isPatch ∈ xb_tbl := xb_in (i := 270) (by decide +kernel) rfl
theorem ki_X1_isPatch : Cond.instanceMethod yX1_isPatch ∈ xb_tbl := xb_in (i := 271) (by decide +kernel) rfl
theorem ks_X1_isPatch : Cond.selects RX1 yX1_isPatch yX1_isPatch ∈ xb_tbl := xb_in (i := 272) (by decide +kernel) rfl
theorem kc_X1_isPatch : Cond.code yX1_isPatch cX1_isPatch 4 (some .boolean) ∈ xb_tbl := xb_in (i := 273) (by decide +kernel) rfl
theorem ml_X1_55 : Cond.methodLink RX1 55 yX4_joined ∈ xb_tbl := xb_in (i := 274) (by decide +kernel) rfl
theorem ml_X8_163 : Cond.methodLink RX8 163 yX1_patchesTo ∈ xb_tbl := xb_in (i := 275) (by decide +kernel) rfl
theorem ki_X1_patchesTo : Cond.instanceMethod yX1_patchesTo ∈ xb_tbl := xb_in (i := 276) (by decide +kernel) rfl
theorem ks_X1_patchesTo : Cond.selects RX1 yX1_patchesTo yX1_patchesTo ∈ xb_tbl := xb_in (i := 277) (by decide +kernel) rfl
theorem kc_X1_patchesTo : Cond.code yX1_patchesTo cX1_patchesTo 2 (some .int) ∈ xb_tbl := xb_in (i := 278) (by decide +kernel) rfl
theorem ml_X1_59 : Cond.methodLink RX1 59 yX4_countOther ∈ xb_tbl := xb_in (i := 279) (by decide +kernel) rfl
theorem ki_X4_countOther : Cond.instanceMethod yX4_countOther ∈ xb_tbl := xb_in (i := 280) (by decide +kernel) rfl
theorem ks_X4_countOther : Cond.selects RX4 yX4_countOther yX4_countOther ∈ xb_tbl := xb_in (i := 281) (by decide +kernel) rfl
theorem kc_X4_countOther : Cond.code yX4_countOther cX4_countOther 4 (some .int) ∈ xb_tbl := xb_in (i := 282) (by decide +kernel) rfl
theorem ml_X4_30 : Cond.methodLink RX4 30 yJ13_bitCount_95d88 ∈ xb_tbl := xb_in (i := 283) (by decide +kernel) rfl
theorem kt_J13_bitCount_95d88 : Cond.static yJ13_bitCount_95d88 ∈ xb_tbl := xb_in (i := 284) (by decide +kernel) rfl
theorem kc_J13_bitCount_95d88 : Cond.code yJ13_bitCount_95d88 cJ13_bitCount_95d88 2 (some .int) ∈ xb_tbl := xb_in (i := 285) (by decide +kernel) rfl
theorem kl_J13_314 : Cond.constantLong RJ13 314 (6148914691236517205) ∈ xb_tbl := xb_in (i := 286) (by decide +kernel) rfl
theorem kl_J13_316 : Cond.constantLong RJ13 316 (3689348814741910323) ∈ xb_tbl := xb_in (i := 287) (by decide +kernel) rfl
theorem kl_J13_318 : Cond.constantLong RJ13 318 (1085102592571150095) ∈ xb_tbl := xb_in (i := 288) (by decide +kernel) rfl
theorem ml_X8_255 : Cond.methodLink RX8 255 yX4_flip ∈ xb_tbl := xb_in (i := 289) (by decide +kernel) rfl
theorem ki_X4_flip : Cond.instanceMethod yX4_flip ∈ xb_tbl := xb_in (i := 290) (by decide +kernel) rfl
theorem ks_X4_flip : Cond.selects RX4 yX4_flip yX4_flip ∈ xb_tbl := xb_in (i := 291) (by decide +kernel) rfl
theorem kc_X4_flip : Cond.code yX4_flip cX4_flip 3 none ∈ xb_tbl := xb_in (i := 292) (by decide +kernel) rfl
theorem ml_X4_26 : Cond.methodLink RX4 26 yX4_isThing ∈ xb_tbl := xb_in (i := 293) (by decide +kernel) rfl
theorem ml_L_26 : Cond.methodLink RL 26 yX8_drop ∈ xb_tbl := xb_in (i := 294) (by decide +kernel) rfl
theorem ki_X8_drop : Cond.instanceMethod yX8_drop ∈ xb_tbl := xb_in (i := 295) (by decide +kernel) rfl
theorem ks_X8_drop : Cond.selects RX8 yX8_drop yX8_drop ∈ xb_tbl := xb_in (i := 296) (by decide +kernel) rfl
theorem kc_X8_drop : Cond.code yX8_drop cX8_drop 3 (some .int) ∈ xb_tbl := xb_in (i := 297) (by decide +kernel) rfl
theorem ml_L_30 : Cond.methodLink RL 30 yX8_has ∈ xb_tbl := xb_in (i := 298) (by decide +kernel) rfl
theorem ki_X8_has : Cond.instanceMethod yX8_has ∈ xb_tbl := xb_in (i := 299) (by decide +kernel) rfl
theorem ks_X8_has : Cond.selects RX8 yX8_has yX8_has ∈ xb_tbl := xb_in (i := 300) (by decide +kernel) rfl
theorem kc_X8_has : Cond.code yX8_has cX8_has 3 (some .int) ∈ xb_tbl := xb_in (i := 301) (by decide +kernel) rfl
theorem ml_L_34 : Cond.methodLink RL 34 yX8_next ∈ xb_tbl := xb_in (i := 302) (by decide +kernel) rfl
theorem ki_X8_next : Cond.instanceMethod yX8_next ∈ xb_tbl := xb_in (i := 303) (by decide +kernel) rfl
theorem ks_X8_next : Cond.selects RX8 yX8_next yX8_next ∈ xb_tbl := xb_in (i := 304) (by decide +kernel) rfl
theorem kc_X8_next : Cond.code yX8_next cX8_next 3 (some .int) ∈ xb_tbl := xb_in (i := 305) (by decide +kernel) rfl
theorem ml_X8_81 : Cond.methodLink RX8 81 yX4_rowOf ∈ xb_tbl := xb_in (i := 306) (by decide +kernel) rfl
theorem ml_X8_85 : Cond.methodLink RX8 85 yX8_firstFrom ∈ xb_tbl := xb_in (i := 307) (by decide +kernel) rfl
theorem kt_X8_firstFrom : Cond.static yX8_firstFrom ∈ xb_tbl := xb_in (i := 308) (by decide +kernel) rfl
theorem kc_X8_firstFrom : Cond.code yX8_firstFrom cX8_firstFrom 4 (some .int) ∈ xb_tbl := xb_in (i := 309) (by decide +kernel) rfl
theorem ml_L_38 : Cond.methodLink RL 38 yX8_degree ∈ xb_tbl := xb_in (i := 310) (by decide +kernel) rfl
theorem ki_X8_degree : Cond.instanceMethod yX8_degree ∈ xb_tbl := xb_in (i := 311) (by decide +kernel) rfl
theorem ks_X8_degree : Cond.selects RX8 yX8_degree yX8_degree ∈ xb_tbl := xb_in (i := 312) (by decide +kernel) rfl
theorem kc_X8_degree : Cond.code yX8_degree cX8_degree 3 (some .int) ∈ xb_tbl := xb_in (i := 313) (by decide +kernel) rfl
theorem ml_X8_89 : Cond.methodLink RX8 89 yX8_isBelow ∈ xb_tbl := xb_in (i := 314) (by decide +kernel) rfl
theorem kt_X8_isBelow : Cond.static yX8_isBelow ∈ xb_tbl := xb_in (i := 315) (by decide +kernel) rfl
theorem kc_X8_isBelow : Cond.code yX8_isBelow cX8_isBelow 2 (some .boolean) ∈ xb_tbl := xb_in (i := 316) (by decide +kernel) rfl
theorem ml_X8_92 : Cond.methodLink RX8 92 yX4_columnOf ∈ xb_tbl := xb_in (i := 317) (by decide +kernel) rfl
theorem ki_X4_columnOf : Cond.instanceMethod yX4_columnOf ∈ xb_tbl := xb_in (i := 318) (by decide +kernel) rfl
theorem ks_X4_columnOf : Cond.selects RX4 yX4_columnOf yX4_columnOf ∈ xb_tbl := xb_in (i := 319) (by decide +kernel) rfl
theorem kc_X4_columnOf : Cond.code yX4_columnOf cX4_columnOf 5 (some .long) ∈ xb_tbl := xb_in (i := 320) (by decide +kernel) rfl
theorem ml_X8_95 : Cond.methodLink RX8 95 yJ13_bitCount_95d88 ∈ xb_tbl := xb_in (i := 321) (by decide +kernel) rfl
theorem ml_L_42 : Cond.methodLink RL 42 yX8_meet ∈ xb_tbl := xb_in (i := 322) (by decide +kernel) rfl
theorem ki_X8_meet : Cond.instanceMethod yX8_meet ∈ xb_tbl := xb_in (i := 323) (by decide +kernel) rfl
theorem ks_X8_meet : Cond.selects RX8 yX8_meet yX8_meet ∈ xb_tbl := xb_in (i := 324) (by decide +kernel) rfl
theorem kc_X8_meet : Cond.code yX8_meet cX8_meet 3 (some .int) ∈ xb_tbl := xb_in (i := 325) (by decide +kernel) rfl
theorem ml_L_46 : Cond.methodLink RL 46 yX8_back ∈ xb_tbl := xb_in (i := 326) (by decide +kernel) rfl
theorem ki_X8_back : Cond.instanceMethod yX8_back ∈ xb_tbl := xb_in (i := 327) (by decide +kernel) rfl
theorem ks_X8_back : Cond.selects RX8 yX8_back yX8_back ∈ xb_tbl := xb_in (i := 328) (by decide +kernel) rfl
theorem kc_X8_back : Cond.code yX8_back cX8_back 3 (some .int) ∈ xb_tbl := xb_in (i := 329) (by decide +kernel) rfl
theorem ml_X8_101 : Cond.methodLink RX8 101 yX8_thingAt ∈ xb_tbl := xb_in (i := 330) (by decide +kernel) rfl
theorem kt_X8_thingAt : Cond.static yX8_thingAt ∈ xb_tbl := xb_in (i := 331) (by decide +kernel) rfl
theorem kc_X8_thingAt : Cond.code yX8_thingAt cX8_thingAt 5 (some .int) ∈ xb_tbl := xb_in (i := 332) (by decide +kernel) rfl
theorem ml_X8_258 : Cond.methodLink RX8 258 yX8_isIn ∈ xb_tbl := xb_in (i := 333) (by decide +kernel) rfl
theorem ml_L_50 : Cond.methodLink RL 50 yX8_form ∈ xb_tbl := xb_in (i := 334) (by decide +kernel) rfl
theorem ki_X8_form : Cond.instanceMethod yX8_form ∈ xb_tbl := xb_in (i := 335) (by decide +kernel) rfl
theorem ks_X8_form : Cond.selects RX8 yX8_form yX8_form ∈ xb_tbl := xb_in (i := 336) (by decide +kernel) rfl
theorem kc_X8_form : Cond.code yX8_form cX8_form 4 (some .int) ∈ xb_tbl := xb_in (i := 337) (by decide +kernel) rfl
theorem ml_X8_104 : Cond.methodLink RX8 104 yX5_formOf ∈ xb_tbl := xb_in (i := 338) (by decide +kernel) rfl
theorem ki_X5_formOf : Cond.instanceMethod yX5_formOf ∈ xb_tbl := xb_in (i := 339) (by decide +kernel) rfl
theorem ks_X5_formOf : Cond.selects RX5 yX5_formOf yX5_formOf ∈ xb_tbl := xb_in (i := 340) (by decide +kernel) rfl
theorem kc_X5_formOf : Cond.code yX5_formOf cX5_formOf 2 (some .int) ∈ xb_tbl := xb_in (i := 341) (by decide +kernel) rfl
theorem mn_X5_16 : Cond.methodLinkNest RX5 16 yX8_element RX8 ∈ xb_tbl := xb_in (i := 342) (by decide +kernel) rfl
theorem kt_X8_element : Cond.static yX8_element ∈ xb_tbl := xb_in (i := 343) (by decide +kernel) rfl
theorem kc_X8_element : Cond.code yX8_element cX8_element 2 (some .int) ∈ xb_tbl := xb_in (i := 344) (by decide +kernel) rfl
theorem ml_X8_108 : Cond.methodLink RX8 108 yX5_setForm ∈ xb_tbl := xb_in (i := 345) (by decide +kernel) rfl
theorem ki_X5_setForm : Cond.instanceMethod yX5_setForm ∈ xb_tbl := xb_in (i := 346) (by decide +kernel) rfl
theorem ks_X5_setForm : Cond.selects RX5 yX5_setForm yX5_setForm ∈ xb_tbl := xb_in (i := 347) (by decide +kernel) rfl
theorem kc_X5_setForm : Cond.code yX5_setForm cX5_setForm 3 none ∈ xb_tbl := xb_in (i := 348) (by decide +kernel) rfl
theorem ml_L_54 : Cond.methodLink RL 54 yX8_setting ∈ xb_tbl := xb_in (i := 349) (by decide +kernel) rfl
theorem ki_X8_setting : Cond.instanceMethod yX8_setting ∈ xb_tbl := xb_in (i := 350) (by decide +kernel) rfl
theorem ks_X8_setting : Cond.selects RX8 yX8_setting yX8_setting ∈ xb_tbl := xb_in (i := 351) (by decide +kernel) rfl
theorem kc_X8_setting : Cond.code yX8_setting cX8_setting 4 (some .int) ∈ xb_tbl := xb_in (i := 352) (by decide +kernel) rfl
theorem ml_X8_112 : Cond.methodLink RX8 112 yX5_allows ∈ xb_tbl := xb_in (i := 353) (by decide +kernel) rfl
theorem ki_X5_allows : Cond.instanceMethod yX5_allows ∈ xb_tbl := xb_in (i := 354) (by decide +kernel) rfl
theorem ks_X5_allows : Cond.selects RX5 yX5_allows yX5_allows ∈ xb_tbl := xb_in (i := 355) (by decide +kernel) rfl
theorem kc_X5_allows : Cond.code yX5_allows cX5_allows 3 (some .boolean) ∈ xb_tbl := xb_in (i := 356) (by decide +kernel) rfl
theorem mn_X5_22 : Cond.methodLinkNest RX5 22 yX8_isBelow RX8 ∈ xb_tbl := xb_in (i := 357) (by decide +kernel) rfl
theorem fl_X5_26 : Cond.fieldLink RX5 26 RX5 "LEAST" "[I" ∈ xb_tbl := xb_in (i := 358) (by decide +kernel) rfl
theorem kz_LEAST : Cond.laysStatic RX5 "LEAST" "[I" ∈ lw_tbl := List.mem_of_getElem? (i := 359) (by decide +kernel)
theorem fl_X5_29 : Cond.fieldLink RX5 29 RX5 "MOST" "[I" ∈ xb_tbl := xb_in (i := 360) (by decide +kernel) rfl
theorem kz_MOST : Cond.laysStatic RX5 "MOST" "[I" ∈ lw_tbl := List.mem_of_getElem? (i := 361) (by decide +kernel)
theorem ml_X8_115 : Cond.methodLink RX8 115 yX5_valueOf ∈ xb_tbl := xb_in (i := 362) (by decide +kernel) rfl
theorem ki_X5_valueOf : Cond.instanceMethod yX5_valueOf ∈ xb_tbl := xb_in (i := 363) (by decide +kernel) rfl
theorem ks_X5_valueOf : Cond.selects RX5 yX5_valueOf yX5_valueOf ∈ xb_tbl := xb_in (i := 364) (by decide +kernel) rfl
theorem kc_X5_valueOf : Cond.code yX5_valueOf cX5_valueOf 2 (some .int) ∈ xb_tbl := xb_in (i := 365) (by decide +kernel) rfl
theorem ml_X8_118 : Cond.methodLink RX8 118 yX5_setValue ∈ xb_tbl := xb_in (i := 366) (by decide +kernel) rfl
theorem ki_X5_setValue : Cond.instanceMethod yX5_setValue ∈ xb_tbl := xb_in (i := 367) (by decide +kernel) rfl
theorem ks_X5_setValue : Cond.selects RX5 yX5_setValue yX5_setValue ∈ xb_tbl := xb_in (i := 368) (by decide +kernel) rfl
theorem kc_X5_setValue : Cond.code yX5_setValue cX5_setValue 3 none ∈ xb_tbl := xb_in (i := 369) (by decide +kernel) rfl
theorem ml_L_58 : Cond.methodLink RL 58 yX8_length ∈ xb_tbl := xb_in (i := 370) (by decide +kernel) rfl
theorem ki_X8_length : Cond.instanceMethod yX8_length ∈ xb_tbl := xb_in (i := 371) (by decide +kernel) rfl
theorem ks_X8_length : Cond.selects RX8 yX8_length yX8_length ∈ xb_tbl := xb_in (i := 372) (by decide +kernel) rfl
theorem kc_X8_length : Cond.code yX8_length cX8_length 3 (some .int) ∈ xb_tbl := xb_in (i := 373) (by decide +kernel) rfl
theorem kk_X8_121 : Cond.constant RX8 121 (100000) ∈ xb_tbl := xb_in (i := 374) (by decide +kernel) rfl
theorem ml_X8_122 : Cond.methodLink RX8 122 yX8_bitsIn ∈ xb_tbl := xb_in (i := 375) (by decide +kernel) rfl
theorem kt_X8_bitsIn : Cond.static yX8_bitsIn ∈ xb_tbl := xb_in (i := 376) (by decide +kernel) rfl
theorem kc_X8_bitsIn : Cond.code yX8_bitsIn cX8_bitsIn 4 (some .int) ∈ xb_tbl := xb_in (i := 377) (by decide +kernel) rfl
theorem ml_X8_262 : Cond.methodLink RX8 262 yX8_digitsOf ∈ xb_tbl := xb_in (i := 378) (by decide +kernel) rfl
theorem kt_X8_digitsOf : Cond.static yX8_digitsOf ∈ xb_tbl := xb_in (i := 379) (by decide +kernel) rfl
theorem kc_X8_digitsOf : Cond.code yX8_digitsOf cX8_digitsOf 2 (some .int) ∈ xb_tbl := xb_in (i := 380) (by decide +kernel) rfl
theorem ml_L_62 : Cond.methodLink RL 62 yX8_cost ∈ xb_tbl := xb_in (i := 381) (by decide +kernel) rfl
theorem ki_X8_cost : Cond.instanceMethod yX8_cost ∈ xb_tbl := xb_in (i := 382) (by decide +kernel) rfl
theorem ks_X8_cost : Cond.selects RX8 yX8_cost yX8_cost ∈ xb_tbl := xb_in (i := 383) (by decide +kernel) rfl
theorem kc_X8_cost : Cond.code yX8_cost cX8_cost 5 (some .int) ∈ xb_tbl := xb_in (i := 384) (by decide +kernel) rfl
theorem ml_X8_125 : Cond.methodLink RX8 125 yX8_isCopy ∈ xb_tbl := xb_in (i := 385) (by decide +kernel) rfl
theorem kt_X8_isCopy : Cond.static yX8_isCopy ∈ xb_tbl := xb_in (i := 386) (by decide +kernel) rfl
theorem kc_X8_isCopy : Cond.code yX8_isCopy cX8_isCopy 1 (some .boolean) ∈ xb_tbl := xb_in (i := 387) (by decide +kernel) rfl
theorem ml_X8_128 : Cond.methodLink RX8 128 yX6_bitsToTell ∈ xb_tbl := xb_in (i := 388) (by decide +kernel) rfl
theorem ki_X6_bitsToTell : Cond.instanceMethod yX6_bitsToTell ∈ xb_tbl := xb_in (i := 389) (by decide +kernel) rfl
theorem ks_X6_bitsToTell : Cond.selects RX6 yX6_bitsToTell yX6_bitsToTell ∈ xb_tbl := xb_in (i := 390) (by decide +kernel) rfl
theorem kc_X6_bitsToTell : Cond.code yX6_bitsToTell cX6_bitsToTell 9 (some .int) ∈ xb_tbl := xb_in (i := 391) (by decide +kernel) rfl
theorem ml_X6_53 : Cond.methodLink RX6 53 yX6_tell ∈ xb_tbl := xb_in (i := 392) (by decide +kernel) rfl
theorem ki_X6_tell : Cond.instanceMethod yX6_tell ∈ xb_tbl := xb_in (i := 393) (by decide +kernel) rfl
theorem ks_X6_tell : Cond.selects RX6 yX6_tell yX6_tell ∈ xb_tbl := xb_in (i := 394) (by decide +kernel) rfl
theorem kc_X6_tell : Cond.code yX6_tell cX6_tell 9 (some .boolean) ∈ xb_tbl := xb_in (i := 395) (by decide +kernel) rfl
theorem ml_X6_26 : Cond.methodLink RX6 26 yX4_rowOf ∈ xb_tbl := xb_in (i := 396) (by decide +kernel) rfl
theorem ml_X6_32 : Cond.methodLink RX6 32 yX6_add ∈ xb_tbl := xb_in (i := 397) (by decide +kernel) rfl
theorem ki_X6_add : Cond.instanceMethod yX6_add ∈ xb_tbl := xb_in (i := 399) (by decide +kernel) rfl
theorem kc_X6_add : Cond.code yX6_add cX6_add 3 none ∈ xb_tbl := xb_in (i := 400) (by decide +kernel) rfl
theorem ml_X6_36 : Cond.methodLink RX6 36 yX6_tellPlain ∈ xb_tbl := xb_in (i := 401) (by decide +kernel) rfl
theorem ki_X6_tellPlain : Cond.instanceMethod yX6_tellPlain ∈ xb_tbl := xb_in (i := 403) (by decide +kernel) rfl
theorem kc_X6_tellPlain : Cond.code yX6_tellPlain cX6_tellPlain 6 none ∈ xb_tbl := xb_in (i := 404) (by decide +kernel) rfl
theorem ml_X6_74 : Cond.methodLink RX6 74 yJ13_bitCount_95d88 ∈ xb_tbl := xb_in (i := 405) (by decide +kernel) rfl
theorem mn_X6_80 : Cond.methodLinkNest RX6 80 yX8_isIn RX8 ∈ xb_tbl := xb_in (i := 406) (by decide +kernel) rfl
theorem mn_X6_84 : Cond.methodLinkNest RX6 84 yX8_folded RX8 ∈ xb_tbl := xb_in (i := 407) (by decide +kernel) rfl
theorem kt_X8_folded : Cond.static yX8_folded ∈ xb_tbl := xb_in (i := 408) (by decide +kernel) rfl
theorem kc_X8_folded : Cond.code yX8_folded cX8_folded 1 (some .int) ∈ xb_tbl := xb_in (i := 409) (by decide +kernel) rfl
theorem ml_X6_40 : Cond.methodLink RX6 40 yX6_tellSpans ∈ xb_tbl := xb_in (i := 410) (by decide +kernel) rfl
theorem ki_X6_tellSpans : Cond.instanceMethod yX6_tellSpans ∈ xb_tbl := xb_in (i := 412) (by decide +kernel) rfl
theorem kc_X6_tellSpans : Cond.code yX6_tellSpans cX6_tellSpans 15 (some .long) ∈ xb_tbl := xb_in (i := 413) (by decide +kernel) rfl
theorem kl_X6_48 : Cond.constantLong RX6 48 (-1) ∈ xb_tbl := xb_in (i := 414) (by decide +kernel) rfl
theorem ml_X6_44 : Cond.methodLink RX6 44 yX6_tellBlocks ∈ xb_tbl := xb_in (i := 415) (by decide +kernel) rfl
theorem ki_X6_tellBlocks : Cond.instanceMethod yX6_tellBlocks ∈ xb_tbl := xb_in (i := 417) (by decide +kernel) rfl
theorem kc_X6_tellBlocks : Cond.code yX6_tellBlocks cX6_tellBlocks 10 none ∈ xb_tbl := xb_in (i := 418) (by decide +kernel) rfl
theorem ml_X6_50 : Cond.methodLink RX6 50 yX6_tellDense ∈ xb_tbl := xb_in (i := 419) (by decide +kernel) rfl
theorem ki_X6_tellDense : Cond.instanceMethod yX6_tellDense ∈ xb_tbl := xb_in (i := 421) (by decide +kernel) rfl
theorem kc_X6_tellDense : Cond.code yX6_tellDense cX6_tellDense 7 none ∈ xb_tbl := xb_in (i := 422) (by decide +kernel) rfl
theorem mn_X6_87 : Cond.methodLinkNest RX6 87 yX8_firstFrom RX8 ∈ xb_tbl := xb_in (i := 423) (by decide +kernel) rfl
theorem mn_X6_91 : Cond.methodLinkNest RX6 91 yX8_lastOf RX8 ∈ xb_tbl := xb_in (i := 424) (by decide +kernel) rfl
theorem kt_X8_lastOf : Cond.static yX8_lastOf ∈ xb_tbl := xb_in (i := 425) (by decide +kernel) rfl
theorem kc_X8_lastOf : Cond.code yX8_lastOf cX8_lastOf 3 (some .int) ∈ xb_tbl := xb_in (i := 426) (by decide +kernel) rfl
theorem kk_X6_57 : Cond.constant RX6 57 (1000000) ∈ xb_tbl := xb_in (i := 427) (by decide +kernel) rfl
theorem ml_X6_58 : Cond.methodLink RX6 58 yX6_useAt ∈ xb_tbl := xb_in (i := 428) (by decide +kernel) rfl
theorem ki_X6_useAt : Cond.instanceMethod yX6_useAt ∈ xb_tbl := xb_in (i := 429) (by decide +kernel) rfl
theorem ks_X6_useAt : Cond.selects RX6 yX6_useAt yX6_useAt ∈ xb_tbl := xb_in (i := 430) (by decide +kernel) rfl
theorem kc_X6_useAt : Cond.code yX6_useAt cX6_useAt 2 (some .int) ∈ xb_tbl := xb_in (i := 431) (by decide +kernel) rfl
theorem mn_X6_22 : Cond.methodLinkNest RX6 22 yX8_element RX8 ∈ xb_tbl := xb_in (i := 432) (by decide +kernel) rfl
theorem ml_X6_62 : Cond.methodLink RX6 62 yX5_formOf ∈ xb_tbl := xb_in (i := 433) (by decide +kernel) rfl
theorem ml_X6_67 : Cond.methodLink RX6 67 yX6_numberAt ∈ xb_tbl := xb_in (i := 434) (by decide +kernel) rfl
theorem ki_X6_numberAt : Cond.instanceMethod yX6_numberAt ∈ xb_tbl := xb_in (i := 435) (by decide +kernel) rfl
theorem ks_X6_numberAt : Cond.selects RX6 yX6_numberAt yX6_numberAt ∈ xb_tbl := xb_in (i := 436) (by decide +kernel) rfl
theorem kc_X6_numberAt : Cond.code yX6_numberAt cX6_numberAt 2 (some .int) ∈ xb_tbl := xb_in (i := 437) (by decide +kernel) rfl
theorem mn_X6_70 : Cond.methodLinkNest RX6 70 yX8_bitsIn RX8 ∈ xb_tbl := xb_in (i := 438) (by decide +kernel) rfl
theorem kk_X8_132 : Cond.constant RX8 132 (1000000) ∈ xb_tbl := xb_in (i := 439) (by decide +kernel) rfl
theorem ml_L_67 : Cond.methodLink RL 67 yX8_pack ∈ xb_tbl := xb_in (i := 440) (by decide +kernel) rfl
theorem ki_X8_pack : Cond.instanceMethod yX8_pack ∈ xb_tbl := xb_in (i := 441) (by decide +kernel) rfl
theorem ks_X8_pack : Cond.selects RX8 yX8_pack yX8_pack ∈ xb_tbl := xb_in (i := 442) (by decide +kernel) rfl
theorem kc_X8_pack : Cond.code yX8_pack cX8_pack 1 (some .int) ∈ xb_tbl := xb_in (i := 443) (by decide +kernel) rfl
theorem ml_X8_133 : Cond.methodLink RX8 133 yX1_decideAll ∈ xb_tbl := xb_in (i := 444) (by decide +kernel) rfl
theorem ki_X1_decideAll : Cond.instanceMethod yX1_decideAll ∈ xb_tbl := xb_in (i := 445) (by decide +kernel) rfl
theorem ks_X1_decideAll : Cond.selects RX1 yX1_decideAll yX1_decideAll ∈ xb_tbl := xb_in (i := 446) (by decide +kernel) rfl
theorem kc_X1_decideAll : Cond.code yX1_decideAll cX1_decideAll 5 none ∈ xb_tbl := xb_in (i := 447) (by decide +kernel) rfl
theorem ml_X1_63 : Cond.methodLink RX1 63 yX4_takeAllOf ∈ xb_tbl := xb_in (i := 448) (by decide +kernel) rfl
theorem ki_X4_takeAllOf : Cond.instanceMethod yX4_takeAllOf ∈ xb_tbl := xb_in (i := 449) (by decide +kernel) rfl
theorem ks_X4_takeAllOf : Cond.selects RX4 yX4_takeAllOf yX4_takeAllOf ∈ xb_tbl := xb_in (i := 450) (by decide +kernel) rfl
theorem kc_X4_takeAllOf : Cond.code yX4_takeAllOf cX4_takeAllOf 3 none ∈ xb_tbl := xb_in (i := 451) (by decide +kernel) rfl
theorem ml_X1_67 : Cond.methodLink RX1 67 yX5_valueOf ∈ xb_tbl := xb_in (i := 452) (by decide +kernel) rfl
theorem ml_X1_73 : Cond.methodLink RX1 73 yJ9_max_7cf53 ∈ xb_tbl := xb_in (i := 453) (by decide +kernel) rfl
theorem ml_X1_79 : Cond.methodLink RX1 79 yJ7_fill_53178 ∈ xb_tbl := xb_in (i := 454) (by decide +kernel) rfl
theorem kt_J7_fill_53178 : Cond.static yJ7_fill_53178 ∈ xb_tbl := xb_in (i := 455) (by decide +kernel) rfl
theorem kc_J7_fill_53178 : Cond.code yJ7_fill_53178 cJ7_fill_53178 4 none ∈ xb_tbl := xb_in (i := 456) (by decide +kernel) rfl
theorem ml_X1_85 : Cond.methodLink RX1 85 yX1_choose ∈ xb_tbl := xb_in (i := 457) (by decide +kernel) rfl
theorem ki_X1_choose : Cond.instanceMethod yX1_choose ∈ xb_tbl := xb_in (i := 459) (by decide +kernel) rfl
theorem kc_X1_choose : Cond.code yX1_choose cX1_choose 11 none ∈ xb_tbl := xb_in (i := 460) (by decide +kernel) rfl
theorem ml_X1_135 : Cond.methodLink RX1 135 yJ9_min_7cf53 ∈ xb_tbl := xb_in (i := 461) (by decide +kernel) rfl
theorem kk_X1_138 : Cond.constant RX1 138 (1000000) ∈ xb_tbl := xb_in (i := 462) (by decide +kernel) rfl
theorem mn_X1_128 : Cond.methodLinkNest RX1 128 yX8_isCopy RX8 ∈ xb_tbl := xb_in (i := 463) (by decide +kernel) rfl
theorem ml_X1_139 : Cond.methodLink RX1 139 yX1_depthOf ∈ xb_tbl := xb_in (i := 464) (by decide +kernel) rfl
theorem ki_X1_depthOf : Cond.instanceMethod yX1_depthOf ∈ xb_tbl := xb_in (i := 465) (by decide +kernel) rfl
theorem ks_X1_depthOf : Cond.selects RX1 yX1_depthOf yX1_depthOf ∈ xb_tbl := xb_in (i := 466) (by decide +kernel) rfl
theorem kc_X1_depthOf : Cond.code yX1_depthOf cX1_depthOf 2 (some .int) ∈ xb_tbl := xb_in (i := 467) (by decide +kernel) rfl
theorem mn_X1_51 : Cond.methodLinkNest RX1 51 yX8_element RX8 ∈ xb_tbl := xb_in (i := 468) (by decide +kernel) rfl
theorem ml_X1_142 : Cond.methodLink RX1 142 yX6_bitsToTell ∈ xb_tbl := xb_in (i := 469) (by decide +kernel) rfl
theorem ml_X1_146 : Cond.methodLink RX1 146 yX1_decide ∈ xb_tbl := xb_in (i := 470) (by decide +kernel) rfl
theorem ki_X1_decide : Cond.instanceMethod yX1_decide ∈ xb_tbl := xb_in (i := 472) (by decide +kernel) rfl
theorem kc_X1_decide : Cond.code yX1_decide cX1_decide 4 none ∈ xb_tbl := xb_in (i := 473) (by decide +kernel) rfl
theorem ml_X1_89 : Cond.methodLink RX1 89 yX1_kindOf ∈ xb_tbl := xb_in (i := 474) (by decide +kernel) rfl
theorem ki_X1_kindOf : Cond.instanceMethod yX1_kindOf ∈ xb_tbl := xb_in (i := 475) (by decide +kernel) rfl
theorem ks_X1_kindOf : Cond.selects RX1 yX1_kindOf yX1_kindOf ∈ xb_tbl := xb_in (i := 476) (by decide +kernel) rfl
theorem kc_X1_kindOf : Cond.code yX1_kindOf cX1_kindOf 2 (some .int) ∈ xb_tbl := xb_in (i := 477) (by decide +kernel) rfl
theorem ml_X1_92 : Cond.methodLink RX1 92 yX1_distanceOf ∈ xb_tbl := xb_in (i := 478) (by decide +kernel) rfl
theorem ki_X1_distanceOf : Cond.instanceMethod yX1_distanceOf ∈ xb_tbl := xb_in (i := 479) (by decide +kernel) rfl
theorem ks_X1_distanceOf : Cond.selects RX1 yX1_distanceOf yX1_distanceOf ∈ xb_tbl := xb_in (i := 480) (by decide +kernel) rfl
theorem kc_X1_distanceOf : Cond.code yX1_distanceOf cX1_distanceOf 2 (some .int) ∈ xb_tbl := xb_in (i := 481) (by decide +kernel) rfl
theorem ml_X1_95 : Cond.methodLink RX1 95 yX6_tell ∈ xb_tbl := xb_in (i := 482) (by decide +kernel) rfl
theorem ml_X1_101 : Cond.methodLink RX1 101 yX1_tallyNumbers ∈ xb_tbl := xb_in (i := 483) (by decide +kernel) rfl
theorem ki_X1_tallyNumbers : Cond.instanceMethod yX1_tallyNumbers ∈ xb_tbl := xb_in (i := 485) (by decide +kernel) rfl
theorem kc_X1_tallyNumbers : Cond.code yX1_tallyNumbers cX1_tallyNumbers 4 none ∈ xb_tbl := xb_in (i := 486) (by decide +kernel) rfl
theorem ml_X1_150 : Cond.methodLink RX1 150 yX6_size ∈ xb_tbl := xb_in (i := 487) (by decide +kernel) rfl
theorem ki_X6_size : Cond.instanceMethod yX6_size ∈ xb_tbl := xb_in (i := 488) (by decide +kernel) rfl
theorem ks_X6_size : Cond.selects RX6 yX6_size yX6_size ∈ xb_tbl := xb_in (i := 489) (by decide +kernel) rfl
theorem kc_X6_size : Cond.code yX6_size cX6_size 1 (some .int) ∈ xb_tbl := xb_in (i := 490) (by decide +kernel) rfl
theorem ml_X1_151 : Cond.methodLink RX1 151 yX6_useAt ∈ xb_tbl := xb_in (i := 491) (by decide +kernel) rfl
theorem ml_X1_154 : Cond.methodLink RX1 154 yX6_numberAt ∈ xb_tbl := xb_in (i := 492) (by decide +kernel) rfl
theorem ml_X8_137 : Cond.methodLink RX8 137 yX1_writeAnew ∈ xb_tbl := xb_in (i := 493) (by decide +kernel) rfl
theorem ki_X1_writeAnew : Cond.instanceMethod yX1_writeAnew ∈ xb_tbl := xb_in (i := 494) (by decide +kernel) rfl
theorem ks_X1_writeAnew : Cond.selects RX1 yX1_writeAnew yX1_writeAnew ∈ xb_tbl := xb_in (i := 495) (by decide +kernel) rfl
theorem kc_X1_writeAnew : Cond.code yX1_writeAnew cX1_writeAnew 4 (some .int) ∈ xb_tbl := xb_in (i := 496) (by decide +kernel) rfl
theorem ml_X1_105 : Cond.methodLink RX1 105 yX0_clear ∈ xb_tbl := xb_in (i := 497) (by decide +kernel) rfl
theorem ki_X0_clear : Cond.instanceMethod yX0_clear ∈ xb_tbl := xb_in (i := 498) (by decide +kernel) rfl
theorem ks_X0_clear : Cond.selects RX0 yX0_clear yX0_clear ∈ xb_tbl := xb_in (i := 499) (by decide +kernel) rfl
theorem kc_X0_clear : Cond.code yX0_clear cX0_clear 1 none ∈ xb_tbl := xb_in (i := 500) (by decide +kernel) rfl
theorem ml_X0_28 : Cond.methodLink RX0 28 yJ7_fill_53178 ∈ xb_tbl := xb_in (i := 501) (by decide +kernel) rfl
theorem ml_X1_108 : Cond.methodLink RX1 108 yX0_size ∈ xb_tbl := xb_in (i := 502) (by decide +kernel) rfl
theorem ki_X0_size : Cond.instanceMethod yX0_size ∈ xb_tbl := xb_in (i := 503) (by decide +kernel) rfl
theorem ks_X0_size : Cond.selects RX0 yX0_size yX0_size ∈ xb_tbl := xb_in (i := 504) (by decide +kernel) rfl
theorem kc_X0_size : Cond.code yX0_size cX0_size 1 (some .int) ∈ xb_tbl := xb_in (i := 505) (by decide +kernel) rfl
theorem ml_X1_112 : Cond.methodLink RX1 112 yX0_write ∈ xb_tbl := xb_in (i := 506) (by decide +kernel) rfl
theorem ki_X0_write : Cond.instanceMethod yX0_write ∈ xb_tbl := xb_in (i := 507) (by decide +kernel) rfl
theorem ks_X0_write : Cond.selects RX0 yX0_write yX0_write ∈ xb_tbl := xb_in (i := 508) (by decide +kernel) rfl
theorem kc_X0_write : Cond.code yX0_write cX0_write 5 none ∈ xb_tbl := xb_in (i := 509) (by decide +kernel) rfl
theorem ml_X0_34 : Cond.methodLink RX0 34 yX6_size ∈ xb_tbl := xb_in (i := 510) (by decide +kernel) rfl
theorem ml_X0_39 : Cond.methodLink RX0 39 yX6_useAt ∈ xb_tbl := xb_in (i := 511) (by decide +kernel) rfl
theorem ml_X0_43 : Cond.methodLink RX0 43 yX6_numberAt ∈ xb_tbl := xb_in (i := 512) (by decide +kernel) rfl
theorem ml_X0_46 : Cond.methodLink RX0 46 yX0_put ∈ xb_tbl := xb_in (i := 513) (by decide +kernel) rfl
theorem ki_X0_put : Cond.instanceMethod yX0_put ∈ xb_tbl := xb_in (i := 515) (by decide +kernel) rfl
theorem kc_X0_put : Cond.code yX0_put cX0_put 4 none ∈ xb_tbl := xb_in (i := 516) (by decide +kernel) rfl
theorem ml_X0_50 : Cond.methodLink RX0 50 yX5_formOf ∈ xb_tbl := xb_in (i := 517) (by decide +kernel) rfl
theorem ml_X0_55 : Cond.methodLink RX0 55 yX0_putNumber ∈ xb_tbl := xb_in (i := 518) (by decide +kernel) rfl
theorem ki_X0_putNumber : Cond.instanceMethod yX0_putNumber ∈ xb_tbl := xb_in (i := 520) (by decide +kernel) rfl
theorem kc_X0_putNumber : Cond.code yX0_putNumber cX0_putNumber 5 none ∈ xb_tbl := xb_in (i := 521) (by decide +kernel) rfl
theorem ml_X0_75 : Cond.methodLink RX0 75 yX0_putUnary ∈ xb_tbl := xb_in (i := 522) (by decide +kernel) rfl
theorem ki_X0_putUnary : Cond.instanceMethod yX0_putUnary ∈ xb_tbl := xb_in (i := 524) (by decide +kernel) rfl
theorem kc_X0_putUnary : Cond.code yX0_putUnary cX0_putUnary 3 none ∈ xb_tbl := xb_in (i := 525) (by decide +kernel) rfl
theorem ml_X0_78 : Cond.methodLink RX0 78 yX0_putDoubled ∈ xb_tbl := xb_in (i := 526) (by decide +kernel) rfl
theorem ki_X0_putDoubled : Cond.instanceMethod yX0_putDoubled ∈ xb_tbl := xb_in (i := 528) (by decide +kernel) rfl
theorem kc_X0_putDoubled : Cond.code yX0_putDoubled cX0_putDoubled 4 none ∈ xb_tbl := xb_in (i := 529) (by decide +kernel) rfl
theorem mn_X0_81 : Cond.methodLinkNest RX0 81 yX8_digitsOf RX8 ∈ xb_tbl := xb_in (i := 530) (by decide +kernel) rfl
theorem ml_X0_84 : Cond.methodLink RX0 84 yX0_putLowest ∈ xb_tbl := xb_in (i := 531) (by decide +kernel) rfl
theorem ki_X0_putLowest : Cond.instanceMethod yX0_putLowest ∈ xb_tbl := xb_in (i := 533) (by decide +kernel) rfl
theorem kc_X0_putLowest : Cond.code yX0_putLowest cX0_putLowest 4 none ∈ xb_tbl := xb_in (i := 534) (by decide +kernel) rfl
theorem ml_L_72 : Cond.methodLink RL 72 yX8_told ∈ xb_tbl := xb_in (i := 535) (by decide +kernel) rfl
theorem ki_X8_told : Cond.instanceMethod yX8_told ∈ xb_tbl := xb_in (i := 536) (by decide +kernel) rfl
theorem ks_X8_told : Cond.selects RX8 yX8_told yX8_told ∈ xb_tbl := xb_in (i := 537) (by decide +kernel) rfl
theorem kc_X8_told : Cond.code yX8_told cX8_told 3 (some .int) ∈ xb_tbl := xb_in (i := 538) (by decide +kernel) rfl
theorem ml_X8_145 : Cond.methodLink RX8 145 yX1_kindOf ∈ xb_tbl := xb_in (i := 539) (by decide +kernel) rfl
theorem ml_X8_148 : Cond.methodLink RX8 148 yX1_distanceOf ∈ xb_tbl := xb_in (i := 540) (by decide +kernel) rfl
theorem ml_X8_151 : Cond.methodLink RX8 151 yX1_depthOf ∈ xb_tbl := xb_in (i := 541) (by decide +kernel) rfl
theorem ml_X8_154 : Cond.methodLink RX8 154 yX1_startOf ∈ xb_tbl := xb_in (i := 542) (by decide +kernel) rfl
theorem ki_X1_startOf : Cond.instanceMethod yX1_startOf ∈ xb_tbl := xb_in (i := 543) (by decide +kernel) rfl
theorem ks_X1_startOf : Cond.selects RX1 yX1_startOf yX1_startOf ∈ xb_tbl := xb_in (i := 544) (by decide +kernel) rfl
theorem kc_X1_startOf : Cond.code yX1_startOf cX1_startOf 2 (some .int) ∈ xb_tbl := xb_in (i := 545) (by decide +kernel) rfl
theorem ml_L_76 : Cond.methodLink RL 76 yX8_looked ∈ xb_tbl := xb_in (i := 546) (by decide +kernel) rfl
theorem ki_X8_looked : Cond.instanceMethod yX8_looked ∈ xb_tbl := xb_in (i := 547) (by decide +kernel) rfl
theorem ks_X8_looked : Cond.selects RX8 yX8_looked yX8_looked ∈ xb_tbl := xb_in (i := 548) (by decide +kernel) rfl
theorem kc_X8_looked : Cond.code yX8_looked cX8_looked 2 (some .int) ∈ xb_tbl := xb_in (i := 549) (by decide +kernel) rfl
theorem ml_X8_157 : Cond.methodLink RX8 157 yX1_bitsToRead ∈ xb_tbl := xb_in (i := 550) (by decide +kernel) rfl
theorem ki_X1_bitsToRead : Cond.instanceMethod yX1_bitsToRead ∈ xb_tbl := xb_in (i := 551) (by decide +kernel) rfl
theorem ks_X1_bitsToRead : Cond.selects RX1 yX1_bitsToRead yX1_bitsToRead ∈ xb_tbl := xb_in (i := 552) (by decide +kernel) rfl
theorem kc_X1_bitsToRead : Cond.code yX1_bitsToRead cX1_bitsToRead 5 (some .int) ∈ xb_tbl := xb_in (i := 553) (by decide +kernel) rfl
theorem ml_X1_122 : Cond.methodLink RX1 122 yX1_startOf ∈ xb_tbl := xb_in (i := 554) (by decide +kernel) rfl
theorem ml_X1_125 : Cond.methodLink RX1 125 yJ9_floorMod_7cf53 ∈ xb_tbl := xb_in (i := 555) (by decide +kernel) rfl
theorem kt_J9_floorMod_7cf53 : Cond.static yJ9_floorMod_7cf53 ∈ xb_tbl := xb_in (i := 556) (by decide +kernel) rfl
theorem kc_J9_floorMod_7cf53 : Cond.code yJ9_floorMod_7cf53 cJ9_floorMod_7cf53 3 (some .int) ∈ xb_tbl := xb_in (i := 557) (by decide +kernel) rfl
theorem ml_L_81 : Cond.methodLink RL 81 yX8_would ∈ xb_tbl := xb_in (i := 558) (by decide +kernel) rfl
theorem ki_X8_would : Cond.instanceMethod yX8_would ∈ xb_tbl := xb_in (i := 559) (by decide +kernel) rfl
theorem ks_X8_would : Cond.selects RX8 yX8_would yX8_would ∈ xb_tbl := xb_in (i := 560) (by decide +kernel) rfl
theorem kc_X8_would : Cond.code yX8_would cX8_would 3 (some .int) ∈ xb_tbl := xb_in (i := 561) (by decide +kernel) rfl
theorem ml_X8_160 : Cond.methodLink RX8 160 yX1_bitsOfUse ∈ xb_tbl := xb_in (i := 562) (by decide +kernel) rfl
theorem ki_X1_bitsOfUse : Cond.instanceMethod yX1_bitsOfUse ∈ xb_tbl := xb_in (i := 563) (by decide +kernel) rfl
theorem ks_X1_bitsOfUse : Cond.selects RX1 yX1_bitsOfUse yX1_bitsOfUse ∈ xb_tbl := xb_in (i := 564) (by decide +kernel) rfl
theorem kc_X1_bitsOfUse : Cond.code yX1_bitsOfUse cX1_bitsOfUse 5 (some .int) ∈ xb_tbl := xb_in (i := 565) (by decide +kernel) rfl
theorem mn_X1_116 : Cond.methodLinkNest RX1 116 yX8_bitsIn RX8 ∈ xb_tbl := xb_in (i := 566) (by decide +kernel) rfl
theorem ml_L_85 : Cond.methodLink RL 85 yX8_forms ∈ xb_tbl := xb_in (i := 567) (by decide +kernel) rfl
theorem ki_X8_forms : Cond.instanceMethod yX8_forms ∈ xb_tbl := xb_in (i := 568) (by decide +kernel) rfl
theorem ks_X8_forms : Cond.selects RX8 yX8_forms yX8_forms ∈ xb_tbl := xb_in (i := 569) (by decide +kernel) rfl
theorem kc_X8_forms : Cond.code yX8_forms cX8_forms 2 (some .int) ∈ xb_tbl := xb_in (i := 570) (by decide +kernel) rfl
theorem ml_X8_167 : Cond.methodLink RX8 167 yX1_cheapestForm ∈ xb_tbl := xb_in (i := 571) (by decide +kernel) rfl
theorem ki_X1_cheapestForm : Cond.instanceMethod yX1_cheapestForm ∈ xb_tbl := xb_in (i := 572) (by decide +kernel) rfl
theorem ks_X1_cheapestForm : Cond.selects RX1 yX1_cheapestForm yX1_cheapestForm ∈ xb_tbl := xb_in (i := 573) (by decide +kernel) rfl
theorem kc_X1_cheapestForm : Cond.code yX1_cheapestForm cX1_cheapestForm 4 (some .int) ∈ xb_tbl := xb_in (i := 574) (by decide +kernel) rfl
theorem ml_X1_119 : Cond.methodLink RX1 119 yX1_bitsOfUse ∈ xb_tbl := xb_in (i := 575) (by decide +kernel) rfl
theorem ml_L_89 : Cond.methodLink RL 89 yX8_best ∈ xb_tbl := xb_in (i := 576) (by decide +kernel) rfl
theorem ki_X8_best : Cond.instanceMethod yX8_best ∈ xb_tbl := xb_in (i := 577) (by decide +kernel) rfl
theorem ks_X8_best : Cond.selects RX8 yX8_best yX8_best ∈ xb_tbl := xb_in (i := 578) (by decide +kernel) rfl
theorem kc_X8_best : Cond.code yX8_best cX8_best 1 (some .int) ∈ xb_tbl := xb_in (i := 579) (by decide +kernel) rfl
theorem ml_X8_170 : Cond.methodLink RX8 170 yX2_leastSum ∈ xb_tbl := xb_in (i := 580) (by decide +kernel) rfl
theorem ki_X2_leastSum : Cond.instanceMethod yX2_leastSum ∈ xb_tbl := xb_in (i := 581) (by decide +kernel) rfl
theorem ks_X2_leastSum : Cond.selects RX2 yX2_leastSum yX2_leastSum ∈ xb_tbl := xb_in (i := 582) (by decide +kernel) rfl
theorem kc_X2_leastSum : Cond.code yX2_leastSum cX2_leastSum 8 (some .int) ∈ xb_tbl := xb_in (i := 583) (by decide +kernel) rfl
theorem ml_X2_25 : Cond.methodLink RX2 25 yJ7_fill_53178 ∈ xb_tbl := xb_in (i := 584) (by decide +kernel) rfl
theorem ml_X2_31 : Cond.methodLink RX2 31 yX5_valueOf ∈ xb_tbl := xb_in (i := 585) (by decide +kernel) rfl
theorem ml_X2_37 : Cond.methodLink RX2 37 yX2_bitsAlone ∈ xb_tbl := xb_in (i := 586) (by decide +kernel) rfl
theorem kt_X2_bitsAlone : Cond.static yX2_bitsAlone ∈ xb_tbl := xb_in (i := 587) (by decide +kernel) rfl
theorem kc_X2_bitsAlone : Cond.code yX2_bitsAlone cX2_bitsAlone 6 (some .int) ∈ xb_tbl := xb_in (i := 588) (by decide +kernel) rfl
theorem kk_X2_62 : Cond.constant RX2 62 (1000000) ∈ xb_tbl := xb_in (i := 589) (by decide +kernel) rfl
theorem mn_X2_63 : Cond.methodLinkNest RX2 63 yX8_isCopy RX8 ∈ xb_tbl := xb_in (i := 590) (by decide +kernel) rfl
theorem ml_X2_67 : Cond.methodLink RX2 67 yX6_bitsToTell ∈ xb_tbl := xb_in (i := 591) (by decide +kernel) rfl
theorem ml_X2_53 : Cond.methodLink RX2 53 yJ9_min_7cf53 ∈ xb_tbl := xb_in (i := 592) (by decide +kernel) rfl
theorem ml_X2_41 : Cond.methodLink RX2 41 yX2_belowOf ∈ xb_tbl := xb_in (i := 593) (by decide +kernel) rfl
theorem ki_X2_belowOf : Cond.instanceMethod yX2_belowOf ∈ xb_tbl := xb_in (i := 595) (by decide +kernel) rfl
theorem kc_X2_belowOf : Cond.code yX2_belowOf cX2_belowOf 3 (some .int) ∈ xb_tbl := xb_in (i := 596) (by decide +kernel) rfl
theorem mn_X2_58 : Cond.methodLinkNest RX2 58 yX8_element RX8 ∈ xb_tbl := xb_in (i := 597) (by decide +kernel) rfl
theorem ml_X2_45 : Cond.methodLink RX2 45 yX2_findCopy ∈ xb_tbl := xb_in (i := 598) (by decide +kernel) rfl
theorem ki_X2_findCopy : Cond.instanceMethod yX2_findCopy ∈ xb_tbl := xb_in (i := 600) (by decide +kernel) rfl
theorem kc_X2_findCopy : Cond.code yX2_findCopy cX2_findCopy 9 none ∈ xb_tbl := xb_in (i := 601) (by decide +kernel) rfl
theorem ml_X2_49 : Cond.methodLink RX2 49 yX2_hang ∈ xb_tbl := xb_in (i := 602) (by decide +kernel) rfl
theorem ki_X2_hang : Cond.instanceMethod yX2_hang ∈ xb_tbl := xb_in (i := 604) (by decide +kernel) rfl
theorem kc_X2_hang : Cond.code yX2_hang cX2_hang 7 none ∈ xb_tbl := xb_in (i := 605) (by decide +kernel) rfl
theorem ml_L_93 : Cond.methodLink RL 93 yX8_bit ∈ xb_tbl := xb_in (i := 606) (by decide +kernel) rfl
theorem ki_X8_bit : Cond.instanceMethod yX8_bit ∈ xb_tbl := xb_in (i := 607) (by decide +kernel) rfl
theorem ks_X8_bit : Cond.selects RX8 yX8_bit yX8_bit ∈ xb_tbl := xb_in (i := 608) (by decide +kernel) rfl
theorem kc_X8_bit : Cond.code yX8_bit cX8_bit 2 (some .int) ∈ xb_tbl := xb_in (i := 609) (by decide +kernel) rfl
theorem ml_X8_174 : Cond.methodLink RX8 174 yX1_bits ∈ xb_tbl := xb_in (i := 610) (by decide +kernel) rfl
theorem ki_X1_bits : Cond.instanceMethod yX1_bits ∈ xb_tbl := xb_in (i := 611) (by decide +kernel) rfl
theorem ks_X1_bits : Cond.selects RX1 yX1_bits yX1_bits ∈ xb_tbl := xb_in (i := 612) (by decide +kernel) rfl
theorem kc_X1_bits : Cond.code yX1_bits cX1_bits 1 (some (.object "NeighbourBook$Bits")) ∈ xb_tbl := xb_in (i := 613) (by decide +kernel) rfl
theorem ml_X8_178 : Cond.methodLink RX8 178 yX0_bitNow ∈ xb_tbl := xb_in (i := 614) (by decide +kernel) rfl
theorem ki_X0_bitNow : Cond.instanceMethod yX0_bitNow ∈ xb_tbl := xb_in (i := 615) (by decide +kernel) rfl
theorem ks_X0_bitNow : Cond.selects RX0 yX0_bitNow yX0_bitNow ∈ xb_tbl := xb_in (i := 616) (by decide +kernel) rfl
theorem kc_X0_bitNow : Cond.code yX0_bitNow cX0_bitNow 2 (some .int) ∈ xb_tbl := xb_in (i := 617) (by decide +kernel) rfl
theorem mn_X0_59 : Cond.methodLinkNest RX0 59 yX8_isBelow RX8 ∈ xb_tbl := xb_in (i := 618) (by decide +kernel) rfl
theorem ml_X0_63 : Cond.methodLink RX0 63 yX0_bitOf ∈ xb_tbl := xb_in (i := 619) (by decide +kernel) rfl
theorem kt_X0_bitOf : Cond.static yX0_bitOf ∈ xb_tbl := xb_in (i := 620) (by decide +kernel) rfl
theorem kc_X0_bitOf : Cond.code yX0_bitOf cX0_bitOf 2 (some .int) ∈ xb_tbl := xb_in (i := 621) (by decide +kernel) rfl
theorem mn_X0_72 : Cond.methodLinkNest RX0 72 yX8_element RX8 ∈ xb_tbl := xb_in (i := 622) (by decide +kernel) rfl
theorem ml_L_97 : Cond.methodLink RL 97 yX8_place ∈ xb_tbl := xb_in (i := 623) (by decide +kernel) rfl
theorem ki_X8_place : Cond.instanceMethod yX8_place ∈ xb_tbl := xb_in (i := 624) (by decide +kernel) rfl
theorem ks_X8_place : Cond.selects RX8 yX8_place yX8_place ∈ xb_tbl := xb_in (i := 625) (by decide +kernel) rfl
theorem kc_X8_place : Cond.code yX8_place cX8_place 2 (some .int) ∈ xb_tbl := xb_in (i := 626) (by decide +kernel) rfl
theorem ml_X8_183 : Cond.methodLink RX8 183 yX1_placeCount ∈ xb_tbl := xb_in (i := 627) (by decide +kernel) rfl
theorem ki_X1_placeCount : Cond.instanceMethod yX1_placeCount ∈ xb_tbl := xb_in (i := 628) (by decide +kernel) rfl
theorem ks_X1_placeCount : Cond.selects RX1 yX1_placeCount yX1_placeCount ∈ xb_tbl := xb_in (i := 629) (by decide +kernel) rfl
theorem kc_X1_placeCount : Cond.code yX1_placeCount cX1_placeCount 1 (some .int) ∈ xb_tbl := xb_in (i := 630) (by decide +kernel) rfl
theorem ml_X8_187 : Cond.methodLink RX8 187 yX1_placeStart ∈ xb_tbl := xb_in (i := 631) (by decide +kernel) rfl
theorem ki_X1_placeStart : Cond.instanceMethod yX1_placeStart ∈ xb_tbl := xb_in (i := 632) (by decide +kernel) rfl
theorem ks_X1_placeStart : Cond.selects RX1 yX1_placeStart yX1_placeStart ∈ xb_tbl := xb_in (i := 633) (by decide +kernel) rfl
theorem kc_X1_placeStart : Cond.code yX1_placeStart cX1_placeStart 2 (some .int) ∈ xb_tbl := xb_in (i := 634) (by decide +kernel) rfl
theorem ml_L_101 : Cond.methodLink RL 101 yX8_sum ∈ xb_tbl := xb_in (i := 635) (by decide +kernel) rfl
theorem ki_X8_sum : Cond.instanceMethod yX8_sum ∈ xb_tbl := xb_in (i := 636) (by decide +kernel) rfl
theorem ks_X8_sum : Cond.selects RX8 yX8_sum yX8_sum ∈ xb_tbl := xb_in (i := 637) (by decide +kernel) rfl
theorem kc_X8_sum : Cond.code yX8_sum cX8_sum 1 (some .long) ∈ xb_tbl := xb_in (i := 638) (by decide +kernel) rfl
theorem ml_X8_190 : Cond.methodLink RX8 190 yX0_hash ∈ xb_tbl := xb_in (i := 639) (by decide +kernel) rfl
theorem ki_X0_hash : Cond.instanceMethod yX0_hash ∈ xb_tbl := xb_in (i := 640) (by decide +kernel) rfl
theorem ks_X0_hash : Cond.selects RX0 yX0_hash yX0_hash ∈ xb_tbl := xb_in (i := 641) (by decide +kernel) rfl
theorem kc_X0_hash : Cond.code yX0_hash cX0_hash 4 (some .long) ∈ xb_tbl := xb_in (i := 642) (by decide +kernel) rfl
theorem ml_X0_67 : Cond.methodLink RX0 67 yX0_byteCount ∈ xb_tbl := xb_in (i := 643) (by decide +kernel) rfl
theorem ki_X0_byteCount : Cond.instanceMethod yX0_byteCount ∈ xb_tbl := xb_in (i := 644) (by decide +kernel) rfl
theorem ks_X0_byteCount : Cond.selects RX0 yX0_byteCount yX0_byteCount ∈ xb_tbl := xb_in (i := 645) (by decide +kernel) rfl
theorem kc_X0_byteCount : Cond.code yX0_byteCount cX0_byteCount 1 (some .int) ∈ xb_tbl := xb_in (i := 646) (by decide +kernel) rfl
theorem kl_X0_70 : Cond.constantLong RX0 70 (33) ∈ xb_tbl := xb_in (i := 647) (by decide +kernel) rfl
theorem kl_X8_194 : Cond.constantLong RX8 194 (-3) ∈ xb_tbl := xb_in (i := 648) (by decide +kernel) rfl
theorem ml_L_106 : Cond.methodLink RL 106 yX8_alter ∈ xb_tbl := xb_in (i := 649) (by decide +kernel) rfl
theorem ki_X8_alter : Cond.instanceMethod yX8_alter ∈ xb_tbl := xb_in (i := 650) (by decide +kernel) rfl
theorem ks_X8_alter : Cond.selects RX8 yX8_alter yX8_alter ∈ xb_tbl := xb_in (i := 651) (by decide +kernel) rfl
theorem kc_X8_alter : Cond.code yX8_alter cX8_alter 3 (some .int) ∈ xb_tbl := xb_in (i := 652) (by decide +kernel) rfl
theorem ml_X8_196 : Cond.methodLink RX8 196 yX0_byteCount ∈ xb_tbl := xb_in (i := 653) (by decide +kernel) rfl
theorem ml_X8_199 : Cond.methodLink RX8 199 yX0_turn ∈ xb_tbl := xb_in (i := 654) (by decide +kernel) rfl
theorem ki_X0_turn : Cond.instanceMethod yX0_turn ∈ xb_tbl := xb_in (i := 655) (by decide +kernel) rfl
theorem ks_X0_turn : Cond.selects RX0 yX0_turn yX0_turn ∈ xb_tbl := xb_in (i := 656) (by decide +kernel) rfl
theorem kc_X0_turn : Cond.code yX0_turn cX0_turn 3 (some .int) ∈ xb_tbl := xb_in (i := 657) (by decide +kernel) rfl
theorem ml_L_110 : Cond.methodLink RL 110 yX8_judge ∈ xb_tbl := xb_in (i := 658) (by decide +kernel) rfl
theorem ki_X8_judge : Cond.instanceMethod yX8_judge ∈ xb_tbl := xb_in (i := 659) (by decide +kernel) rfl
theorem ks_X8_judge : Cond.selects RX8 yX8_judge yX8_judge ∈ xb_tbl := xb_in (i := 660) (by decide +kernel) rfl
theorem kc_X8_judge : Cond.code yX8_judge cX8_judge 1 (some .int) ∈ xb_tbl := xb_in (i := 661) (by decide +kernel) rfl
theorem ml_X8_202 : Cond.methodLink RX8 202 yX1_firstSpoiled ∈ xb_tbl := xb_in (i := 662) (by decide +kernel) rfl
theorem ki_X1_firstSpoiled : Cond.instanceMethod yX1_firstSpoiled ∈ xb_tbl := xb_in (i := 663) (by decide +kernel) rfl
theorem ks_X1_firstSpoiled : Cond.selects RX1 yX1_firstSpoiled yX1_firstSpoiled ∈ xb_tbl := xb_in (i := 664) (by decide +kernel) rfl
theorem kc_X1_firstSpoiled : Cond.code yX1_firstSpoiled cX1_firstSpoiled 3 (some .int) ∈ xb_tbl := xb_in (i := 665) (by decide +kernel) rfl
theorem ml_X1_132 : Cond.methodLink RX1 132 yX0_firstTurned ∈ xb_tbl := xb_in (i := 666) (by decide +kernel) rfl
theorem ki_X0_firstTurned : Cond.instanceMethod yX0_firstTurned ∈ xb_tbl := xb_in (i := 667) (by decide +kernel) rfl
theorem ks_X0_firstTurned : Cond.selects RX0 yX0_firstTurned yX0_firstTurned ∈ xb_tbl := xb_in (i := 668) (by decide +kernel) rfl
theorem kc_X0_firstTurned : Cond.code yX0_firstTurned cX0_firstTurned 2 (some .int) ∈ xb_tbl := xb_in (i := 669) (by decide +kernel) rfl
theorem ml_L_114 : Cond.methodLink RL 114 yX8_order ∈ xb_tbl := xb_in (i := 670) (by decide +kernel) rfl
theorem ki_X8_order : Cond.instanceMethod yX8_order ∈ xb_tbl := xb_in (i := 671) (by decide +kernel) rfl
theorem ks_X8_order : Cond.selects RX8 yX8_order yX8_order ∈ xb_tbl := xb_in (i := 672) (by decide +kernel) rfl
theorem kc_X8_order : Cond.code yX8_order cX8_order 3 (some .int) ∈ xb_tbl := xb_in (i := 673) (by decide +kernel) rfl
theorem ml_X8_205 : Cond.methodLink RX8 205 yX3_arrange ∈ xb_tbl := xb_in (i := 674) (by decide +kernel) rfl
theorem ki_X3_arrange : Cond.instanceMethod yX3_arrange ∈ xb_tbl := xb_in (i := 675) (by decide +kernel) rfl
theorem ks_X3_arrange : Cond.selects RX3 yX3_arrange yX3_arrange ∈ xb_tbl := xb_in (i := 676) (by decide +kernel) rfl
theorem kc_X3_arrange : Cond.code yX3_arrange cX3_arrange 6 none ∈ xb_tbl := xb_in (i := 677) (by decide +kernel) rfl
theorem ml_X3_22 : Cond.methodLink RX3 22 yX3_layLayers ∈ xb_tbl := xb_in (i := 678) (by decide +kernel) rfl
theorem ki_X3_layLayers : Cond.instanceMethod yX3_layLayers ∈ xb_tbl := xb_in (i := 680) (by decide +kernel) rfl
theorem kc_X3_layLayers : Cond.code yX3_layLayers cX3_layLayers 9 none ∈ xb_tbl := xb_in (i := 681) (by decide +kernel) rfl
theorem kl_X3_56 : Cond.constantLong RX3 56 (-1) ∈ xb_tbl := xb_in (i := 682) (by decide +kernel) rfl
theorem mn_X3_58 : Cond.methodLinkNest RX3 58 yX8_firstFrom RX8 ∈ xb_tbl := xb_in (i := 683) (by decide +kernel) rfl
theorem ml_X3_26 : Cond.methodLink RX3 26 yX4_rowOf ∈ xb_tbl := xb_in (i := 684) (by decide +kernel) rfl
theorem mn_X3_44 : Cond.methodLinkNest RX3 44 yX8_isIn RX8 ∈ xb_tbl := xb_in (i := 685) (by decide +kernel) rfl
theorem ml_X3_32 : Cond.methodLink RX3 32 yJ13_bitCount_95d88 ∈ xb_tbl := xb_in (i := 686) (by decide +kernel) rfl
theorem ml_X3_38 : Cond.methodLink RX3 38 yX3_leastKey ∈ xb_tbl := xb_in (i := 687) (by decide +kernel) rfl
theorem kt_X3_leastKey : Cond.static yX3_leastKey ∈ xb_tbl := xb_in (i := 688) (by decide +kernel) rfl
theorem kc_X3_leastKey : Cond.code yX3_leastKey cX3_leastKey 4 (some .int) ∈ xb_tbl := xb_in (i := 689) (by decide +kernel) rfl
theorem kk_X3_48 : Cond.constant RX3 48 (40503) ∈ xb_tbl := xb_in (i := 690) (by decide +kernel) rfl
theorem kk_X3_49 : Cond.constant RX3 49 (65535) ∈ xb_tbl := xb_in (i := 691) (by decide +kernel) rfl
theorem ml_X3_50 : Cond.methodLink RX3 50 yJ9_min_7cf53 ∈ xb_tbl := xb_in (i := 692) (by decide +kernel) rfl
theorem ml_X3_41 : Cond.methodLink RX3 41 yX3_layByKeys ∈ xb_tbl := xb_in (i := 693) (by decide +kernel) rfl
theorem ki_X3_layByKeys : Cond.instanceMethod yX3_layByKeys ∈ xb_tbl := xb_in (i := 695) (by decide +kernel) rfl
theorem kc_X3_layByKeys : Cond.code yX3_layByKeys cX3_layByKeys 3 none ∈ xb_tbl := xb_in (i := 696) (by decide +kernel) rfl
theorem mn_X3_18 : Cond.methodLinkNest RX3 18 yX8_element RX8 ∈ xb_tbl := xb_in (i := 697) (by decide +kernel) rfl
theorem ml_X8_209 : Cond.methodLink RX8 209 yX3_thingAtPlace ∈ xb_tbl := xb_in (i := 698) (by decide +kernel) rfl
theorem ki_X3_thingAtPlace : Cond.instanceMethod yX3_thingAtPlace ∈ xb_tbl := xb_in (i := 699) (by decide +kernel) rfl
theorem ks_X3_thingAtPlace : Cond.selects RX3 yX3_thingAtPlace yX3_thingAtPlace ∈ xb_tbl := xb_in (i := 700) (by decide +kernel) rfl
theorem kc_X3_thingAtPlace : Cond.code yX3_thingAtPlace cX3_thingAtPlace 2 (some .int) ∈ xb_tbl := xb_in (i := 701) (by decide +kernel) rfl
theorem ml_L_118 : Cond.methodLink RL 118 yX8_renumber ∈ xb_tbl := xb_in (i := 702) (by decide +kernel) rfl
theorem ki_X8_renumber : Cond.instanceMethod yX8_renumber ∈ xb_tbl := xb_in (i := 703) (by decide +kernel) rfl
theorem ks_X8_renumber : Cond.selects RX8 yX8_renumber yX8_renumber ∈ xb_tbl := xb_in (i := 704) (by decide +kernel) rfl
theorem kc_X8_renumber : Cond.code yX8_renumber cX8_renumber 2 (some .int) ∈ xb_tbl := xb_in (i := 705) (by decide +kernel) rfl
theorem ml_X8_212 : Cond.methodLink RX8 212 yX4_renumberBy ∈ xb_tbl := xb_in (i := 706) (by decide +kernel) rfl
theorem ki_X4_renumberBy : Cond.instanceMethod yX4_renumberBy ∈ xb_tbl := xb_in (i := 707) (by decide +kernel) rfl
theorem ks_X4_renumberBy : Cond.selects RX4 yX4_renumberBy yX4_renumberBy ∈ xb_tbl := xb_in (i := 708) (by decide +kernel) rfl
theorem kc_X4_renumberBy : Cond.code yX4_renumberBy cX4_renumberBy 8 none ∈ xb_tbl := xb_in (i := 709) (by decide +kernel) rfl
theorem ml_X4_36 : Cond.methodLink RX4 36 yX3_thingAtPlace ∈ xb_tbl := xb_in (i := 710) (by decide +kernel) rfl
theorem ml_X8_216 : Cond.methodLink RX8 216 yX1_forget ∈ xb_tbl := xb_in (i := 711) (by decide +kernel) rfl
theorem ki_X1_forget : Cond.instanceMethod yX1_forget ∈ xb_tbl := xb_in (i := 712) (by decide +kernel) rfl
theorem ks_X1_forget : Cond.selects RX1 yX1_forget yX1_forget ∈ xb_tbl := xb_in (i := 713) (by decide +kernel) rfl
theorem kc_X1_forget : Cond.code yX1_forget cX1_forget 1 none ∈ xb_tbl := xb_in (i := 714) (by decide +kernel) rfl
theorem ml_X8_219 : Cond.methodLink RX8 219 yX4_countToLesser ∈ xb_tbl := xb_in (i := 715) (by decide +kernel) rfl
theorem ki_X4_countToLesser : Cond.instanceMethod yX4_countToLesser ∈ xb_tbl := xb_in (i := 716) (by decide +kernel) rfl
theorem ks_X4_countToLesser : Cond.selects RX4 yX4_countToLesser yX4_countToLesser ∈ xb_tbl := xb_in (i := 717) (by decide +kernel) rfl
theorem kc_X4_countToLesser : Cond.code yX4_countToLesser cX4_countToLesser 3 (some .int) ∈ xb_tbl := xb_in (i := 718) (by decide +kernel) rfl
theorem ml_L_122 : Cond.methodLink RL 122 yX8_threes ∈ xb_tbl := xb_in (i := 719) (by decide +kernel) rfl
theorem ki_X8_threes : Cond.instanceMethod yX8_threes ∈ xb_tbl := xb_in (i := 720) (by decide +kernel) rfl
theorem ks_X8_threes : Cond.selects RX8 yX8_threes yX8_threes ∈ xb_tbl := xb_in (i := 721) (by decide +kernel) rfl
theorem kc_X8_threes : Cond.code yX8_threes cX8_threes 1 (some .int) ∈ xb_tbl := xb_in (i := 722) (by decide +kernel) rfl
theorem ml_X8_222 : Cond.methodLink RX8 222 yX7_countThrees ∈ xb_tbl := xb_in (i := 723) (by decide +kernel) rfl
theorem ki_X7_countThrees : Cond.instanceMethod yX7_countThrees ∈ xb_tbl := xb_in (i := 724) (by decide +kernel) rfl
theorem ks_X7_countThrees : Cond.selects RX7 yX7_countThrees yX7_countThrees ∈ xb_tbl := xb_in (i := 725) (by decide +kernel) rfl
theorem kc_X7_countThrees : Cond.code yX7_countThrees cX7_countThrees 7 (some .int) ∈ xb_tbl := xb_in (i := 726) (by decide +kernel) rfl
theorem ml_X7_15 : Cond.methodLink RX7 15 yX7_findNear ∈ xb_tbl := xb_in (i := 727) (by decide +kernel) rfl
theorem ki_X7_findNear : Cond.instanceMethod yX7_findNear ∈ xb_tbl := xb_in (i := 729) (by decide +kernel) rfl
theorem kc_X7_findNear : Cond.code yX7_findNear cX7_findNear 3 none ∈ xb_tbl := xb_in (i := 730) (by decide +kernel) rfl
theorem ml_X7_41 : Cond.methodLink RX7 41 yX4_rowOf ∈ xb_tbl := xb_in (i := 731) (by decide +kernel) rfl
theorem ml_X7_44 : Cond.methodLink RX7 44 yX4_columnOf ∈ xb_tbl := xb_in (i := 732) (by decide +kernel) rfl
theorem kl_X7_23 : Cond.constantLong RX7 23 (-1) ∈ xb_tbl := xb_in (i := 733) (by decide +kernel) rfl
theorem mn_X7_19 : Cond.methodLinkNest RX7 19 yX8_isIn RX8 ∈ xb_tbl := xb_in (i := 734) (by decide +kernel) rfl
theorem ml_X7_25 : Cond.methodLink RX7 25 yJ13_bitCount_95d88 ∈ xb_tbl := xb_in (i := 735) (by decide +kernel) rfl
theorem ml_L_126 : Cond.methodLink RL 126 yX8_parts ∈ xb_tbl := xb_in (i := 736) (by decide +kernel) rfl
theorem ki_X8_parts : Cond.instanceMethod yX8_parts ∈ xb_tbl := xb_in (i := 737) (by decide +kernel) rfl
theorem ks_X8_parts : Cond.selects RX8 yX8_parts yX8_parts ∈ xb_tbl := xb_in (i := 738) (by decide +kernel) rfl
theorem kc_X8_parts : Cond.code yX8_parts cX8_parts 2 (some .int) ∈ xb_tbl := xb_in (i := 739) (by decide +kernel) rfl
theorem ml_X8_225 : Cond.methodLink RX8 225 yX7_countParts ∈ xb_tbl := xb_in (i := 740) (by decide +kernel) rfl
theorem ki_X7_countParts : Cond.instanceMethod yX7_countParts ∈ xb_tbl := xb_in (i := 741) (by decide +kernel) rfl
theorem ks_X7_countParts : Cond.selects RX7 yX7_countParts yX7_countParts ∈ xb_tbl := xb_in (i := 742) (by decide +kernel) rfl
theorem kc_X7_countParts : Cond.code yX7_countParts cX7_countParts 6 (some .int) ∈ xb_tbl := xb_in (i := 743) (by decide +kernel) rfl
theorem ml_X7_31 : Cond.methodLink RX7 31 yX7_partOf ∈ xb_tbl := xb_in (i := 744) (by decide +kernel) rfl
theorem ki_X7_partOf : Cond.instanceMethod yX7_partOf ∈ xb_tbl := xb_in (i := 746) (by decide +kernel) rfl
theorem kc_X7_partOf : Cond.code yX7_partOf cX7_partOf 8 (some .long) ∈ xb_tbl := xb_in (i := 747) (by decide +kernel) rfl
theorem ml_X8_228 : Cond.methodLink RX8 228 yX7_sizeOfPart ∈ xb_tbl := xb_in (i := 748) (by decide +kernel) rfl
theorem ki_X7_sizeOfPart : Cond.instanceMethod yX7_sizeOfPart ∈ xb_tbl := xb_in (i := 749) (by decide +kernel) rfl
theorem ks_X7_sizeOfPart : Cond.selects RX7 yX7_sizeOfPart yX7_sizeOfPart ∈ xb_tbl := xb_in (i := 750) (by decide +kernel) rfl
theorem kc_X7_sizeOfPart : Cond.code yX7_sizeOfPart cX7_sizeOfPart 3 (some .int) ∈ xb_tbl := xb_in (i := 751) (by decide +kernel) rfl
theorem ml_L_130 : Cond.methodLink RL 130 yX8_far ∈ xb_tbl := xb_in (i := 752) (by decide +kernel) rfl
theorem ki_X8_far : Cond.instanceMethod yX8_far ∈ xb_tbl := xb_in (i := 753) (by decide +kernel) rfl
theorem ks_X8_far : Cond.selects RX8 yX8_far yX8_far ∈ xb_tbl := xb_in (i := 754) (by decide +kernel) rfl
theorem kc_X8_far : Cond.code yX8_far cX8_far 3 (some .int) ∈ xb_tbl := xb_in (i := 755) (by decide +kernel) rfl
theorem ml_X8_232 : Cond.methodLink RX8 232 yX7_stepsBetween ∈ xb_tbl := xb_in (i := 756) (by decide +kernel) rfl
theorem ki_X7_stepsBetween : Cond.instanceMethod yX7_stepsBetween ∈ xb_tbl := xb_in (i := 757) (by decide +kernel) rfl
theorem ks_X7_stepsBetween : Cond.selects RX7 yX7_stepsBetween yX7_stepsBetween ∈ xb_tbl := xb_in (i := 758) (by decide +kernel) rfl
theorem kc_X7_stepsBetween : Cond.code yX7_stepsBetween cX7_stepsBetween 10 (some .int) ∈ xb_tbl := xb_in (i := 759) (by decide +kernel) rfl
theorem ml_X7_35 : Cond.methodLink RX7 35 yX4_things ∈ xb_tbl := xb_in (i := 760) (by decide +kernel) rfl
theorem ki_X4_things : Cond.instanceMethod yX4_things ∈ xb_tbl := xb_in (i := 761) (by decide +kernel) rfl
theorem ks_X4_things : Cond.selects RX4 yX4_things yX4_things ∈ xb_tbl := xb_in (i := 762) (by decide +kernel) rfl
theorem kc_X4_things : Cond.code yX4_things cX4_things 1 (some .int) ∈ xb_tbl := xb_in (i := 763) (by decide +kernel) rfl
theorem ml_L_134 : Cond.methodLink RL 134 yX8_count ∈ xb_tbl := xb_in (i := 764) (by decide +kernel) rfl
theorem ki_X8_count : Cond.instanceMethod yX8_count ∈ xb_tbl := xb_in (i := 765) (by decide +kernel) rfl
theorem ks_X8_count : Cond.selects RX8 yX8_count yX8_count ∈ xb_tbl := xb_in (i := 766) (by decide +kernel) rfl
theorem kc_X8_count : Cond.code yX8_count cX8_count 2 (some .int) ∈ xb_tbl := xb_in (i := 767) (by decide +kernel) rfl
theorem ml_X8_236 : Cond.methodLink RX8 236 yX4_things ∈ xb_tbl := xb_in (i := 768) (by decide +kernel) rfl
theorem ml_X8_239 : Cond.methodLink RX8 239 yX4_countAll ∈ xb_tbl := xb_in (i := 769) (by decide +kernel) rfl
theorem ki_X4_countAll : Cond.instanceMethod yX4_countAll ∈ xb_tbl := xb_in (i := 770) (by decide +kernel) rfl
theorem ks_X4_countAll : Cond.selects RX4 yX4_countAll yX4_countAll ∈ xb_tbl := xb_in (i := 771) (by decide +kernel) rfl
theorem kc_X4_countAll : Cond.code yX4_countAll cX4_countAll 3 (some .int) ∈ xb_tbl := xb_in (i := 772) (by decide +kernel) rfl
theorem ml_X8_242 : Cond.methodLink RX8 242 yX0_size ∈ xb_tbl := xb_in (i := 773) (by decide +kernel) rfl
theorem ml_X8_245 : Cond.methodLink RX8 245 yX1_copiedRows ∈ xb_tbl := xb_in (i := 774) (by decide +kernel) rfl
theorem ki_X1_copiedRows : Cond.instanceMethod yX1_copiedRows ∈ xb_tbl := xb_in (i := 775) (by decide +kernel) rfl
theorem ks_X1_copiedRows : Cond.selects RX1 yX1_copiedRows yX1_copiedRows ∈ xb_tbl := xb_in (i := 776) (by decide +kernel) rfl
theorem kc_X1_copiedRows : Cond.code yX1_copiedRows cX1_copiedRows 3 (some .int) ∈ xb_tbl := xb_in (i := 777) (by decide +kernel) rfl
theorem ml_X8_248 : Cond.methodLink RX8 248 yX1_greatestDepth ∈ xb_tbl := xb_in (i := 778) (by decide +kernel) rfl
theorem ki_X1_greatestDepth : Cond.instanceMethod yX1_greatestDepth ∈ xb_tbl := xb_in (i := 779) (by decide +kernel) rfl
theorem ks_X1_greatestDepth : Cond.selects RX1 yX1_greatestDepth yX1_greatestDepth ∈ xb_tbl := xb_in (i := 780) (by decide +kernel) rfl
theorem kc_X1_greatestDepth : Cond.code yX1_greatestDepth cX1_greatestDepth 3 (some .int) ∈ xb_tbl := xb_in (i := 781) (by decide +kernel) rfl
theorem ml_L_9 : Cond.methodLink RL 9 yL_cell ∈ xb_tbl := xb_in (i := 782) (by decide +kernel) rfl
theorem kt_L_cell : Cond.static yL_cell ∈ xb_tbl := xb_in (i := 783) (by decide +kernel) rfl
theorem kc_L_cell : Cond.code yL_cell cL_cell 2 (some .int) ∈ xb_tbl := xb_in (i := 784) (by decide +kernel) rfl
theorem cl_L_18 : Cond.classLink RL 18 RX9 ∈ xb_tbl := xb_in (i := 785) (by decide +kernel) rfl
theorem kv_X9 : Cond.instantiable RX9 35 ∈ xb_tbl := xb_in (i := 786) (by decide +kernel) rfl
theorem ml_L_20 : Cond.methodLink RL 20 yX9_init ∈ xb_tbl := xb_in (i := 787) (by decide +kernel) rfl
theorem ki_X9_init : Cond.instanceMethod yX9_init ∈ xb_tbl := xb_in (i := 788) (by decide +kernel) rfl
theorem kc_X9_init : Cond.code yX9_init cX9_init 3 none ∈ xb_tbl := xb_in (i := 789) (by decide +kernel) rfl
theorem ml_X9_7 : Cond.methodLink RX9 7 Lib.objectInit ∈ xb_tbl := xb_in (i := 790) (by decide +kernel) rfl
theorem fl_X9_1 : Cond.fieldLink RX9 1 RX9 "thrown" "I" ∈ xb_tbl := xb_in (i := 791) (by decide +kernel) rfl
theorem fl_X9_93 : Cond.fieldLink RX9 93 RX9 "n" "I" ∈ xb_tbl := xb_in (i := 792) (by decide +kernel) rfl
theorem fl_X9_13 : Cond.fieldLink RX9 13 RX9 "now" "[Z" ∈ xb_tbl := xb_in (i := 793) (by decide +kernel) rfl
theorem fl_X9_17 : Cond.fieldLink RX9 17 RX9 "packed" "[Z" ∈ xb_tbl := xb_in (i := 794) (by decide +kernel) rfl
theorem fl_X9_20 : Cond.fieldLink RX9 20 RX9 "turned" "[Z" ∈ xb_tbl := xb_in (i := 795) (by decide +kernel) rfl
theorem fl_X9_100 : Cond.fieldLink RX9 100 RX9 "isBook" "Z" ∈ xb_tbl := xb_in (i := 796) (by decide +kernel) rfl
theorem fl_X9_104 : Cond.fieldLink RX9 104 RX9 "patches" "I" ∈ xb_tbl := xb_in (i := 797) (by decide +kernel) rfl
theorem fl_X9_23 : Cond.fieldLink RX9 23 RX9 "forms" "[I" ∈ xb_tbl := xb_in (i := 798) (by decide +kernel) rfl
theorem fl_X9_27 : Cond.fieldLink RX9 27 RX9 "window" "I" ∈ xb_tbl := xb_in (i := 799) (by decide +kernel) rfl
theorem fl_X9_30 : Cond.fieldLink RX9 30 RX9 "chain" "I" ∈ xb_tbl := xb_in (i := 800) (by decide +kernel) rfl
theorem fl_X9_33 : Cond.fieldLink RX9 33 RX9 "step" "I" ∈ xb_tbl := xb_in (i := 801) (by decide +kernel) rfl
theorem fl_X9_36 : Cond.fieldLink RX9 36 RX9 "bits" "[I" ∈ xb_tbl := xb_in (i := 802) (by decide +kernel) rfl
theorem fl_X9_39 : Cond.fieldLink RX9 39 RX9 "written" "[I" ∈ xb_tbl := xb_in (i := 803) (by decide +kernel) rfl
theorem fl_X9_122 : Cond.fieldLink RX9 122 RX9 "size" "I" ∈ xb_tbl := xb_in (i := 804) (by decide +kernel) rfl
theorem fl_X9_42 : Cond.fieldLink RX9 42 RX9 "use" "[I" ∈ xb_tbl := xb_in (i := 805) (by decide +kernel) rfl
theorem fl_X9_45 : Cond.fieldLink RX9 45 RX9 "number" "[I" ∈ xb_tbl := xb_in (i := 806) (by decide +kernel) rfl
theorem fl_X9_139 : Cond.fieldLink RX9 139 RX9 "numbers" "I" ∈ xb_tbl := xb_in (i := 807) (by decide +kernel) rfl
theorem fl_X9_48 : Cond.fieldLink RX9 48 RX9 "list" "[I" ∈ xb_tbl := xb_in (i := 808) (by decide +kernel) rfl
theorem fl_X9_142 : Cond.fieldLink RX9 142 RX9 "listed" "I" ∈ xb_tbl := xb_in (i := 809) (by decide +kernel) rfl
theorem fl_X9_51 : Cond.fieldLink RX9 51 RX9 "other" "[I" ∈ xb_tbl := xb_in (i := 810) (by decide +kernel) rfl
theorem fl_X9_54 : Cond.fieldLink RX9 54 RX9 "blocks" "[I" ∈ xb_tbl := xb_in (i := 811) (by decide +kernel) rfl
theorem fl_X9_57 : Cond.fieldLink RX9 57 RX9 "kindOf" "[I" ∈ xb_tbl := xb_in (i := 812) (by decide +kernel) rfl
theorem fl_X9_60 : Cond.fieldLink RX9 60 RX9 "fromOf" "[I" ∈ xb_tbl := xb_in (i := 813) (by decide +kernel) rfl
theorem fl_X9_63 : Cond.fieldLink RX9 63 RX9 "depthOf" "[I" ∈ xb_tbl := xb_in (i := 814) (by decide +kernel) rfl
theorem fl_X9_66 : Cond.fieldLink RX9 66 RX9 "beginOf" "[I" ∈ xb_tbl := xb_in (i := 815) (by decide +kernel) rfl
theorem fl_X9_211 : Cond.fieldLink RX9 211 RX9 "packedStep" "I" ∈ xb_tbl := xb_in (i := 816) (by decide +kernel) rfl
theorem fl_X9_204 : Cond.fieldLink RX9 204 RX9 "bestBits" "I" ∈ xb_tbl := xb_in (i := 817) (by decide +kernel) rfl
theorem fl_X9_69 : Cond.fieldLink RX9 69 RX9 "own" "[I" ∈ xb_tbl := xb_in (i := 818) (by decide +kernel) rfl
theorem fl_X9_72 : Cond.fieldLink RX9 72 RX9 "copied" "[I" ∈ xb_tbl := xb_in (i := 819) (by decide +kernel) rfl
theorem fl_X9_75 : Cond.fieldLink RX9 75 RX9 "parent" "[I" ∈ xb_tbl := xb_in (i := 820) (by decide +kernel) rfl
theorem fl_X9_78 : Cond.fieldLink RX9 78 RX9 "least" "[I" ∈ xb_tbl := xb_in (i := 821) (by decide +kernel) rfl
theorem fl_X9_81 : Cond.fieldLink RX9 81 RX9 "place" "[I" ∈ xb_tbl := xb_in (i := 822) (by decide +kernel) rfl
theorem fl_X9_84 : Cond.fieldLink RX9 84 RX9 "isThere" "[Z" ∈ xb_tbl := xb_in (i := 823) (by decide +kernel) rfl
theorem fl_X9_87 : Cond.fieldLink RX9 87 RX9 "row" "[I" ∈ xb_tbl := xb_in (i := 824) (by decide +kernel) rfl
theorem fl_X9_90 : Cond.fieldLink RX9 90 RX9 "away" "[I" ∈ xb_tbl := xb_in (i := 825) (by decide +kernel) rfl
theorem ka_boolean : Cond.arrayClass .boolean ∈ xb_tbl := xb_in (i := 897) (by decide +kernel) rfl
theorem ml_L_25 : Cond.methodLink RL 25 yX9_pair ∈ xb_tbl := xb_in (i := 898) (by decide +kernel) rfl
theorem ki_X9_pair : Cond.instanceMethod yX9_pair ∈ xb_tbl := xb_in (i := 899) (by decide +kernel) rfl
theorem ks_X9_pair : Cond.selects RX9 yX9_pair yX9_pair ∈ xb_tbl := xb_in (i := 900) (by decide +kernel) rfl
theorem kc_X9_pair : Cond.code yX9_pair cX9_pair 3 (some .int) ∈ xb_tbl := xb_in (i := 901) (by decide +kernel) rfl
theorem ml_X9_107 : Cond.methodLink RX9 107 yX9_isThing ∈ xb_tbl := xb_in (i := 902) (by decide +kernel) rfl
theorem ki_X9_isThing : Cond.instanceMethod yX9_isThing ∈ xb_tbl := xb_in (i := 904) (by decide +kernel) rfl
theorem kc_X9_isThing : Cond.code yX9_isThing cX9_isThing 2 (some .boolean) ∈ xb_tbl := xb_in (i := 905) (by decide +kernel) rfl
theorem ml_X9_96 : Cond.methodLink RX9 96 yX9_in ∈ xb_tbl := xb_in (i := 906) (by decide +kernel) rfl
theorem kt_X9_in : Cond.static yX9_in ∈ xb_tbl := xb_in (i := 907) (by decide +kernel) rfl
theorem kc_X9_in : Cond.code yX9_in cX9_in 6 (some .boolean) ∈ xb_tbl := xb_in (i := 908) (by decide +kernel) rfl
theorem ml_X9_111 : Cond.methodLink RX9 111 yX9_turn ∈ xb_tbl := xb_in (i := 909) (by decide +kernel) rfl
theorem ki_X9_turn : Cond.instanceMethod yX9_turn ∈ xb_tbl := xb_in (i := 911) (by decide +kernel) rfl
theorem kc_X9_turn : Cond.code yX9_turn cX9_turn 6 (some .int) ∈ xb_tbl := xb_in (i := 912) (by decide +kernel) rfl
theorem ml_L_29 : Cond.methodLink RL 29 yX9_drop ∈ xb_tbl := xb_in (i := 913) (by decide +kernel) rfl
theorem ki_X9_drop : Cond.instanceMethod yX9_drop ∈ xb_tbl := xb_in (i := 914) (by decide +kernel) rfl
theorem ks_X9_drop : Cond.selects RX9 yX9_drop yX9_drop ∈ xb_tbl := xb_in (i := 915) (by decide +kernel) rfl
theorem kc_X9_drop : Cond.code yX9_drop cX9_drop 3 (some .int) ∈ xb_tbl := xb_in (i := 916) (by decide +kernel) rfl
theorem ml_L_33 : Cond.methodLink RL 33 yX9_has ∈ xb_tbl := xb_in (i := 917) (by decide +kernel) rfl
theorem ki_X9_has : Cond.instanceMethod yX9_has ∈ xb_tbl := xb_in (i := 918) (by decide +kernel) rfl
theorem ks_X9_has : Cond.selects RX9 yX9_has yX9_has ∈ xb_tbl := xb_in (i := 919) (by decide +kernel) rfl
theorem kc_X9_has : Cond.code yX9_has cX9_has 3 (some .int) ∈ xb_tbl := xb_in (i := 920) (by decide +kernel) rfl
theorem ml_L_37 : Cond.methodLink RL 37 yX9_next ∈ xb_tbl := xb_in (i := 921) (by decide +kernel) rfl
theorem ki_X9_next : Cond.instanceMethod yX9_next ∈ xb_tbl := xb_in (i := 922) (by decide +kernel) rfl
theorem ks_X9_next : Cond.selects RX9 yX9_next yX9_next ∈ xb_tbl := xb_in (i := 923) (by decide +kernel) rfl
theorem kc_X9_next : Cond.code yX9_next cX9_next 4 (some .int) ∈ xb_tbl := xb_in (i := 924) (by decide +kernel) rfl
theorem ml_L_41 : Cond.methodLink RL 41 yX9_degree ∈ xb_tbl := xb_in (i := 925) (by decide +kernel) rfl
theorem ki_X9_degree : Cond.instanceMethod yX9_degree ∈ xb_tbl := xb_in (i := 926) (by decide +kernel) rfl
theorem ks_X9_degree : Cond.selects RX9 yX9_degree yX9_degree ∈ xb_tbl := xb_in (i := 927) (by decide +kernel) rfl
theorem kc_X9_degree : Cond.code yX9_degree cX9_degree 5 (some .int) ∈ xb_tbl := xb_in (i := 928) (by decide +kernel) rfl
theorem ml_X9_115 : Cond.methodLink RX9 115 yX9_rowSize ∈ xb_tbl := xb_in (i := 929) (by decide +kernel) rfl
theorem ki_X9_rowSize : Cond.instanceMethod yX9_rowSize ∈ xb_tbl := xb_in (i := 931) (by decide +kernel) rfl
theorem kc_X9_rowSize : Cond.code yX9_rowSize cX9_rowSize 4 (some .int) ∈ xb_tbl := xb_in (i := 932) (by decide +kernel) rfl
theorem ml_L_45 : Cond.methodLink RL 45 yX9_meet ∈ xb_tbl := xb_in (i := 933) (by decide +kernel) rfl
theorem ki_X9_meet : Cond.instanceMethod yX9_meet ∈ xb_tbl := xb_in (i := 934) (by decide +kernel) rfl
theorem ks_X9_meet : Cond.selects RX9 yX9_meet yX9_meet ∈ xb_tbl := xb_in (i := 935) (by decide +kernel) rfl
theorem kc_X9_meet : Cond.code yX9_meet cX9_meet 5 (some .int) ∈ xb_tbl := xb_in (i := 936) (by decide +kernel) rfl
theorem ml_L_49 : Cond.methodLink RL 49 yX9_back ∈ xb_tbl := xb_in (i := 937) (by decide +kernel) rfl
theorem ki_X9_back : Cond.instanceMethod yX9_back ∈ xb_tbl := xb_in (i := 938) (by decide +kernel) rfl
theorem ks_X9_back : Cond.selects RX9 yX9_back yX9_back ∈ xb_tbl := xb_in (i := 939) (by decide +kernel) rfl
theorem kc_X9_back : Cond.code yX9_back cX9_back 5 (some .int) ∈ xb_tbl := xb_in (i := 940) (by decide +kernel) rfl
theorem ml_L_53 : Cond.methodLink RL 53 yX9_form ∈ xb_tbl := xb_in (i := 941) (by decide +kernel) rfl
theorem ki_X9_form : Cond.instanceMethod yX9_form ∈ xb_tbl := xb_in (i := 942) (by decide +kernel) rfl
theorem ks_X9_form : Cond.selects RX9 yX9_form yX9_form ∈ xb_tbl := xb_in (i := 943) (by decide +kernel) rfl
theorem kc_X9_form : Cond.code yX9_form cX9_form 4 (some .int) ∈ xb_tbl := xb_in (i := 944) (by decide +kernel) rfl
theorem kl_X9_183 : Cond.constantLong RX9 183 (7) ∈ xb_tbl := xb_in (i := 945) (by decide +kernel) rfl
theorem kl_X9_185 : Cond.constantLong RX9 185 (9) ∈ xb_tbl := xb_in (i := 946) (by decide +kernel) rfl
theorem ml_L_57 : Cond.methodLink RL 57 yX9_setting ∈ xb_tbl := xb_in (i := 947) (by decide +kernel) rfl
theorem ki_X9_setting : Cond.instanceMethod yX9_setting ∈ xb_tbl := xb_in (i := 948) (by decide +kernel) rfl
theorem ks_X9_setting : Cond.selects RX9 yX9_setting yX9_setting ∈ xb_tbl := xb_in (i := 949) (by decide +kernel) rfl
theorem kc_X9_setting : Cond.code yX9_setting cX9_setting 4 (some .int) ∈ xb_tbl := xb_in (i := 950) (by decide +kernel) rfl
theorem kl_X9_187 : Cond.constantLong RX9 187 (5) ∈ xb_tbl := xb_in (i := 951) (by decide +kernel) rfl
theorem ml_L_61 : Cond.methodLink RL 61 yX9_length ∈ xb_tbl := xb_in (i := 952) (by decide +kernel) rfl
theorem ki_X9_length : Cond.instanceMethod yX9_length ∈ xb_tbl := xb_in (i := 953) (by decide +kernel) rfl
theorem ks_X9_length : Cond.selects RX9 yX9_length yX9_length ∈ xb_tbl := xb_in (i := 954) (by decide +kernel) rfl
theorem kc_X9_length : Cond.code yX9_length cX9_length 3 (some .int) ∈ xb_tbl := xb_in (i := 955) (by decide +kernel) rfl
theorem kl_X9_189 : Cond.constantLong RX9 189 (100000) ∈ xb_tbl := xb_in (i := 956) (by decide +kernel) rfl
theorem ml_X9_171 : Cond.methodLink RX9 171 yX9_lengthIn ∈ xb_tbl := xb_in (i := 957) (by decide +kernel) rfl
theorem kt_X9_lengthIn : Cond.static yX9_lengthIn ∈ xb_tbl := xb_in (i := 958) (by decide +kernel) rfl
theorem kc_X9_lengthIn : Cond.code yX9_lengthIn cX9_lengthIn 3 (some .int) ∈ xb_tbl := xb_in (i := 959) (by decide +kernel) rfl
theorem ml_X9_119 : Cond.methodLink RX9 119 yX9_bitsOf ∈ xb_tbl := xb_in (i := 960) (by decide +kernel) rfl
theorem kt_X9_bitsOf : Cond.static yX9_bitsOf ∈ xb_tbl := xb_in (i := 961) (by decide +kernel) rfl
theorem kc_X9_bitsOf : Cond.code yX9_bitsOf cX9_bitsOf 3 (some .int) ∈ xb_tbl := xb_in (i := 962) (by decide +kernel) rfl
theorem ml_L_66 : Cond.methodLink RL 66 yX9_cost ∈ xb_tbl := xb_in (i := 963) (by decide +kernel) rfl
theorem ki_X9_cost : Cond.instanceMethod yX9_cost ∈ xb_tbl := xb_in (i := 964) (by decide +kernel) rfl
theorem ks_X9_cost : Cond.selects RX9 yX9_cost yX9_cost ∈ xb_tbl := xb_in (i := 965) (by decide +kernel) rfl
theorem kc_X9_cost : Cond.code yX9_cost cX9_cost 5 (some .int) ∈ xb_tbl := xb_in (i := 966) (by decide +kernel) rfl
theorem kl_X9_191 : Cond.constantLong RX9 191 (4) ∈ xb_tbl := xb_in (i := 967) (by decide +kernel) rfl
theorem ml_X9_193 : Cond.methodLink RX9 193 yX9_isSame ∈ xb_tbl := xb_in (i := 968) (by decide +kernel) rfl
theorem ki_X9_isSame : Cond.instanceMethod yX9_isSame ∈ xb_tbl := xb_in (i := 970) (by decide +kernel) rfl
theorem kc_X9_isSame : Cond.code yX9_isSame cX9_isSame 6 (some .boolean) ∈ xb_tbl := xb_in (i := 971) (by decide +kernel) rfl
theorem ml_X9_197 : Cond.methodLink RX9 197 yX9_bitsBy ∈ xb_tbl := xb_in (i := 972) (by decide +kernel) rfl
theorem ki_X9_bitsBy : Cond.instanceMethod yX9_bitsBy ∈ xb_tbl := xb_in (i := 974) (by decide +kernel) rfl
theorem kc_X9_bitsBy : Cond.code yX9_bitsBy cX9_bitsBy 5 (some .int) ∈ xb_tbl := xb_in (i := 975) (by decide +kernel) rfl
theorem ml_X9_175 : Cond.methodLink RX9 175 yX9_tell ∈ xb_tbl := xb_in (i := 976) (by decide +kernel) rfl
theorem ki_X9_tell : Cond.instanceMethod yX9_tell ∈ xb_tbl := xb_in (i := 978) (by decide +kernel) rfl
theorem kc_X9_tell : Cond.code yX9_tell cX9_tell 5 none ∈ xb_tbl := xb_in (i := 979) (by decide +kernel) rfl
theorem ml_X9_145 : Cond.methodLink RX9 145 yX9_say ∈ xb_tbl := xb_in (i := 980) (by decide +kernel) rfl
theorem ki_X9_say : Cond.instanceMethod yX9_say ∈ xb_tbl := xb_in (i := 982) (by decide +kernel) rfl
theorem kc_X9_say : Cond.code yX9_say cX9_say 3 none ∈ xb_tbl := xb_in (i := 983) (by decide +kernel) rfl
theorem ml_X9_157 : Cond.methodLink RX9 157 yX9_take ∈ xb_tbl := xb_in (i := 984) (by decide +kernel) rfl
theorem ki_X9_take : Cond.instanceMethod yX9_take ∈ xb_tbl := xb_in (i := 986) (by decide +kernel) rfl
theorem kc_X9_take : Cond.code yX9_take cX9_take 5 none ∈ xb_tbl := xb_in (i := 987) (by decide +kernel) rfl
theorem ml_X9_154 : Cond.methodLink RX9 154 yX9_tellPlain ∈ xb_tbl := xb_in (i := 988) (by decide +kernel) rfl
theorem ki_X9_tellPlain : Cond.instanceMethod yX9_tellPlain ∈ xb_tbl := xb_in (i := 990) (by decide +kernel) rfl
theorem kc_X9_tellPlain : Cond.code yX9_tellPlain cX9_tellPlain 3 none ∈ xb_tbl := xb_in (i := 991) (by decide +kernel) rfl
theorem ml_X9_148 : Cond.methodLink RX9 148 yX9_folded ∈ xb_tbl := xb_in (i := 992) (by decide +kernel) rfl
theorem kt_X9_folded : Cond.static yX9_folded ∈ xb_tbl := xb_in (i := 993) (by decide +kernel) rfl
theorem kc_X9_folded : Cond.code yX9_folded cX9_folded 1 (some .int) ∈ xb_tbl := xb_in (i := 994) (by decide +kernel) rfl
theorem ml_X9_161 : Cond.methodLink RX9 161 yX9_tellSpans ∈ xb_tbl := xb_in (i := 995) (by decide +kernel) rfl
theorem ki_X9_tellSpans : Cond.instanceMethod yX9_tellSpans ∈ xb_tbl := xb_in (i := 997) (by decide +kernel) rfl
theorem kc_X9_tellSpans : Cond.code yX9_tellSpans cX9_tellSpans 9 none ∈ xb_tbl := xb_in (i := 998) (by decide +kernel) rfl
theorem ml_X9_151 : Cond.methodLink RX9 151 yX9_runEnd ∈ xb_tbl := xb_in (i := 999) (by decide +kernel) rfl
theorem ki_X9_runEnd : Cond.instanceMethod yX9_runEnd ∈ xb_tbl := xb_in (i := 1001) (by decide +kernel) rfl
theorem kc_X9_runEnd : Cond.code yX9_runEnd cX9_runEnd 3 (some .int) ∈ xb_tbl := xb_in (i := 1002) (by decide +kernel) rfl
theorem ml_X9_164 : Cond.methodLink RX9 164 yX9_tellCopied ∈ xb_tbl := xb_in (i := 1003) (by decide +kernel) rfl
theorem ki_X9_tellCopied : Cond.instanceMethod yX9_tellCopied ∈ xb_tbl := xb_in (i := 1005) (by decide +kernel) rfl
theorem kc_X9_tellCopied : Cond.code yX9_tellCopied cX9_tellCopied 7 none ∈ xb_tbl := xb_in (i := 1006) (by decide +kernel) rfl
theorem ml_X9_167 : Cond.methodLink RX9 167 yX9_tellDense ∈ xb_tbl := xb_in (i := 1007) (by decide +kernel) rfl
theorem ki_X9_tellDense : Cond.instanceMethod yX9_tellDense ∈ xb_tbl := xb_in (i := 1009) (by decide +kernel) rfl
theorem kc_X9_tellDense : Cond.code yX9_tellDense cX9_tellDense 6 none ∈ xb_tbl := xb_in (i := 1010) (by decide +kernel) rfl
theorem ml_X9_179 : Cond.methodLink RX9 179 yX9_numbersBits ∈ xb_tbl := xb_in (i := 1011) (by decide +kernel) rfl
theorem ki_X9_numbersBits : Cond.instanceMethod yX9_numbersBits ∈ xb_tbl := xb_in (i := 1013) (by decide +kernel) rfl
theorem kc_X9_numbersBits : Cond.code yX9_numbersBits cX9_numbersBits 3 (some .int) ∈ xb_tbl := xb_in (i := 1014) (by decide +kernel) rfl
theorem ml_L_71 : Cond.methodLink RL 71 yX9_pack ∈ xb_tbl := xb_in (i := 1015) (by decide +kernel) rfl
theorem ki_X9_pack : Cond.instanceMethod yX9_pack ∈ xb_tbl := xb_in (i := 1016) (by decide +kernel) rfl
theorem ks_X9_pack : Cond.selects RX9 yX9_pack yX9_pack ∈ xb_tbl := xb_in (i := 1017) (by decide +kernel) rfl
theorem kc_X9_pack : Cond.code yX9_pack cX9_pack 2 (some .int) ∈ xb_tbl := xb_in (i := 1018) (by decide +kernel) rfl
theorem ml_X9_214 : Cond.methodLink RX9 214 yX9_choose ∈ xb_tbl := xb_in (i := 1019) (by decide +kernel) rfl
theorem ki_X9_choose : Cond.instanceMethod yX9_choose ∈ xb_tbl := xb_in (i := 1021) (by decide +kernel) rfl
theorem kc_X9_choose : Cond.code yX9_choose cX9_choose 5 none ∈ xb_tbl := xb_in (i := 1022) (by decide +kernel) rfl
theorem ml_X9_207 : Cond.methodLink RX9 207 yX9_consider ∈ xb_tbl := xb_in (i := 1023) (by decide +kernel) rfl
theorem ki_X9_consider : Cond.instanceMethod yX9_consider ∈ xb_tbl := xb_in (i := 1025) (by decide +kernel) rfl
theorem kc_X9_consider : Cond.code yX9_consider cX9_consider 6 none ∈ xb_tbl := xb_in (i := 1026) (by decide +kernel) rfl
theorem ml_X9_217 : Cond.methodLink RX9 217 yX9_writeRow ∈ xb_tbl := xb_in (i := 1027) (by decide +kernel) rfl
theorem ki_X9_writeRow : Cond.instanceMethod yX9_writeRow ∈ xb_tbl := xb_in (i := 1029) (by decide +kernel) rfl
theorem kc_X9_writeRow : Cond.code yX9_writeRow cX9_writeRow 3 none ∈ xb_tbl := xb_in (i := 1030) (by decide +kernel) rfl
theorem ml_X9_125 : Cond.methodLink RX9 125 yX9_putBit ∈ xb_tbl := xb_in (i := 1031) (by decide +kernel) rfl
theorem ki_X9_putBit : Cond.instanceMethod yX9_putBit ∈ xb_tbl := xb_in (i := 1033) (by decide +kernel) rfl
theorem kc_X9_putBit : Cond.code yX9_putBit cX9_putBit 2 none ∈ xb_tbl := xb_in (i := 1034) (by decide +kernel) rfl
theorem ml_X9_201 : Cond.methodLink RX9 201 yX9_putNumber ∈ xb_tbl := xb_in (i := 1035) (by decide +kernel) rfl
theorem ki_X9_putNumber : Cond.instanceMethod yX9_putNumber ∈ xb_tbl := xb_in (i := 1037) (by decide +kernel) rfl
theorem kc_X9_putNumber : Cond.code yX9_putNumber cX9_putNumber 4 none ∈ xb_tbl := xb_in (i := 1038) (by decide +kernel) rfl
theorem ml_X9_133 : Cond.methodLink RX9 133 yX9_putUnary ∈ xb_tbl := xb_in (i := 1039) (by decide +kernel) rfl
theorem ki_X9_putUnary : Cond.instanceMethod yX9_putUnary ∈ xb_tbl := xb_in (i := 1041) (by decide +kernel) rfl
theorem kc_X9_putUnary : Cond.code yX9_putUnary cX9_putUnary 3 none ∈ xb_tbl := xb_in (i := 1042) (by decide +kernel) rfl
theorem ml_X9_136 : Cond.methodLink RX9 136 yX9_putDoubled ∈ xb_tbl := xb_in (i := 1043) (by decide +kernel) rfl
theorem ki_X9_putDoubled : Cond.instanceMethod yX9_putDoubled ∈ xb_tbl := xb_in (i := 1045) (by decide +kernel) rfl
theorem kc_X9_putDoubled : Cond.code yX9_putDoubled cX9_putDoubled 4 none ∈ xb_tbl := xb_in (i := 1046) (by decide +kernel) rfl
theorem ml_X9_129 : Cond.methodLink RX9 129 yX9_putBits ∈ xb_tbl := xb_in (i := 1047) (by decide +kernel) rfl
theorem ki_X9_putBits : Cond.instanceMethod yX9_putBits ∈ xb_tbl := xb_in (i := 1049) (by decide +kernel) rfl
theorem kc_X9_putBits : Cond.code yX9_putBits cX9_putBits 4 none ∈ xb_tbl := xb_in (i := 1050) (by decide +kernel) rfl
theorem ml_X9_220 : Cond.methodLink RX9 220 yX9_closeBook ∈ xb_tbl := xb_in (i := 1051) (by decide +kernel) rfl
theorem ki_X9_closeBook : Cond.instanceMethod yX9_closeBook ∈ xb_tbl := xb_in (i := 1053) (by decide +kernel) rfl
theorem kc_X9_closeBook : Cond.code yX9_closeBook cX9_closeBook 2 none ∈ xb_tbl := xb_in (i := 1054) (by decide +kernel) rfl
theorem ml_L_75 : Cond.methodLink RL 75 yX9_told ∈ xb_tbl := xb_in (i := 1055) (by decide +kernel) rfl
theorem ki_X9_told : Cond.instanceMethod yX9_told ∈ xb_tbl := xb_in (i := 1056) (by decide +kernel) rfl
theorem ks_X9_told : Cond.selects RX9 yX9_told yX9_told ∈ xb_tbl := xb_in (i := 1057) (by decide +kernel) rfl
theorem kc_X9_told : Cond.code yX9_told cX9_told 3 (some .int) ∈ xb_tbl := xb_in (i := 1058) (by decide +kernel) rfl
theorem ml_L_80 : Cond.methodLink RL 80 yX9_looked ∈ xb_tbl := xb_in (i := 1059) (by decide +kernel) rfl
theorem ki_X9_looked : Cond.instanceMethod yX9_looked ∈ xb_tbl := xb_in (i := 1060) (by decide +kernel) rfl
theorem ks_X9_looked : Cond.selects RX9 yX9_looked yX9_looked ∈ xb_tbl := xb_in (i := 1061) (by decide +kernel) rfl
theorem kc_X9_looked : Cond.code yX9_looked cX9_looked 5 (some .int) ∈ xb_tbl := xb_in (i := 1062) (by decide +kernel) rfl
theorem ml_L_84 : Cond.methodLink RL 84 yX9_would ∈ xb_tbl := xb_in (i := 1063) (by decide +kernel) rfl
theorem ki_X9_would : Cond.instanceMethod yX9_would ∈ xb_tbl := xb_in (i := 1064) (by decide +kernel) rfl
theorem ks_X9_would : Cond.selects RX9 yX9_would yX9_would ∈ xb_tbl := xb_in (i := 1065) (by decide +kernel) rfl
theorem kc_X9_would : Cond.code yX9_would cX9_would 3 (some .int) ∈ xb_tbl := xb_in (i := 1066) (by decide +kernel) rfl
theorem ml_X9_223 : Cond.methodLink RX9 223 yX9_bitsOfUse ∈ xb_tbl := xb_in (i := 1067) (by decide +kernel) rfl
theorem ki_X9_bitsOfUse : Cond.instanceMethod yX9_bitsOfUse ∈ xb_tbl := xb_in (i := 1069) (by decide +kernel) rfl
theorem kc_X9_bitsOfUse : Cond.code yX9_bitsOfUse cX9_bitsOfUse 6 (some .int) ∈ xb_tbl := xb_in (i := 1070) (by decide +kernel) rfl
theorem ml_L_88 : Cond.methodLink RL 88 yX9_forms ∈ xb_tbl := xb_in (i := 1071) (by decide +kernel) rfl
theorem ki_X9_forms : Cond.instanceMethod yX9_forms ∈ xb_tbl := xb_in (i := 1072) (by decide +kernel) rfl
theorem ks_X9_forms : Cond.selects RX9 yX9_forms yX9_forms ∈ xb_tbl := xb_in (i := 1073) (by decide +kernel) rfl
theorem kc_X9_forms : Cond.code yX9_forms cX9_forms 4 (some .int) ∈ xb_tbl := xb_in (i := 1074) (by decide +kernel) rfl
theorem ml_L_92 : Cond.methodLink RL 92 yX9_best ∈ xb_tbl := xb_in (i := 1075) (by decide +kernel) rfl
theorem ki_X9_best : Cond.instanceMethod yX9_best ∈ xb_tbl := xb_in (i := 1076) (by decide +kernel) rfl
theorem ks_X9_best : Cond.selects RX9 yX9_best yX9_best ∈ xb_tbl := xb_in (i := 1077) (by decide +kernel) rfl
theorem kc_X9_best : Cond.code yX9_best cX9_best 7 (some .int) ∈ xb_tbl := xb_in (i := 1078) (by decide +kernel) rfl
theorem ml_X9_227 : Cond.methodLink RX9 227 yX9_weigh ∈ xb_tbl := xb_in (i := 1079) (by decide +kernel) rfl
theorem ki_X9_weigh : Cond.instanceMethod yX9_weigh ∈ xb_tbl := xb_in (i := 1081) (by decide +kernel) rfl
theorem kc_X9_weigh : Cond.code yX9_weigh cX9_weigh 8 none ∈ xb_tbl := xb_in (i := 1082) (by decide +kernel) rfl
theorem kk_X9_226 : Cond.constant RX9 226 (1000000000) ∈ xb_tbl := xb_in (i := 1083) (by decide +kernel) rfl
theorem ml_L_96 : Cond.methodLink RL 96 yX9_bit ∈ xb_tbl := xb_in (i := 1084) (by decide +kernel) rfl
theorem ki_X9_bit : Cond.instanceMethod yX9_bit ∈ xb_tbl := xb_in (i := 1085) (by decide +kernel) rfl
theorem ks_X9_bit : Cond.selects RX9 yX9_bit yX9_bit ∈ xb_tbl := xb_in (i := 1086) (by decide +kernel) rfl
theorem kc_X9_bit : Cond.code yX9_bit cX9_bit 2 (some .int) ∈ xb_tbl := xb_in (i := 1087) (by decide +kernel) rfl
theorem ml_L_100 : Cond.methodLink RL 100 yX9_place ∈ xb_tbl := xb_in (i := 1088) (by decide +kernel) rfl
theorem ki_X9_place : Cond.instanceMethod yX9_place ∈ xb_tbl := xb_in (i := 1089) (by decide +kernel) rfl
theorem ks_X9_place : Cond.selects RX9 yX9_place yX9_place ∈ xb_tbl := xb_in (i := 1090) (by decide +kernel) rfl
theorem kc_X9_place : Cond.code yX9_place cX9_place 2 (some .int) ∈ xb_tbl := xb_in (i := 1091) (by decide +kernel) rfl
theorem ml_L_105 : Cond.methodLink RL 105 yX9_sum ∈ xb_tbl := xb_in (i := 1092) (by decide +kernel) rfl
theorem ki_X9_sum : Cond.instanceMethod yX9_sum ∈ xb_tbl := xb_in (i := 1093) (by decide +kernel) rfl
theorem ks_X9_sum : Cond.selects RX9 yX9_sum yX9_sum ∈ xb_tbl := xb_in (i := 1094) (by decide +kernel) rfl
theorem kc_X9_sum : Cond.code yX9_sum cX9_sum 4 (some .long) ∈ xb_tbl := xb_in (i := 1095) (by decide +kernel) rfl
theorem kl_X9_230 : Cond.constantLong RX9 230 (-3) ∈ xb_tbl := xb_in (i := 1096) (by decide +kernel) rfl
theorem ml_X9_232 : Cond.methodLink RX9 232 yX9_bytes ∈ xb_tbl := xb_in (i := 1097) (by decide +kernel) rfl
theorem ki_X9_bytes : Cond.instanceMethod yX9_bytes ∈ xb_tbl := xb_in (i := 1099) (by decide +kernel) rfl
theorem kc_X9_bytes : Cond.code yX9_bytes cX9_bytes 1 (some .int) ∈ xb_tbl := xb_in (i := 1100) (by decide +kernel) rfl
theorem kl_X9_235 : Cond.constantLong RX9 235 (33) ∈ xb_tbl := xb_in (i := 1101) (by decide +kernel) rfl
theorem ml_X9_237 : Cond.methodLink RX9 237 yX9_byteAt ∈ xb_tbl := xb_in (i := 1102) (by decide +kernel) rfl
theorem ki_X9_byteAt : Cond.instanceMethod yX9_byteAt ∈ xb_tbl := xb_in (i := 1104) (by decide +kernel) rfl
theorem kc_X9_byteAt : Cond.code yX9_byteAt cX9_byteAt 4 (some .int) ∈ xb_tbl := xb_in (i := 1105) (by decide +kernel) rfl
theorem ml_L_109 : Cond.methodLink RL 109 yX9_alter ∈ xb_tbl := xb_in (i := 1106) (by decide +kernel) rfl
theorem ki_X9_alter : Cond.instanceMethod yX9_alter ∈ xb_tbl := xb_in (i := 1107) (by decide +kernel) rfl
theorem ks_X9_alter : Cond.selects RX9 yX9_alter yX9_alter ∈ xb_tbl := xb_in (i := 1108) (by decide +kernel) rfl
theorem kc_X9_alter : Cond.code yX9_alter cX9_alter 4 (some .int) ∈ xb_tbl := xb_in (i := 1109) (by decide +kernel) rfl
theorem kl_X9_240 : Cond.constantLong RX9 240 (255) ∈ xb_tbl := xb_in (i := 1110) (by decide +kernel) rfl
theorem ml_L_113 : Cond.methodLink RL 113 yX9_judge ∈ xb_tbl := xb_in (i := 1111) (by decide +kernel) rfl
theorem ki_X9_judge : Cond.instanceMethod yX9_judge ∈ xb_tbl := xb_in (i := 1112) (by decide +kernel) rfl
theorem ks_X9_judge : Cond.selects RX9 yX9_judge yX9_judge ∈ xb_tbl := xb_in (i := 1113) (by decide +kernel) rfl
theorem kc_X9_judge : Cond.code yX9_judge cX9_judge 3 (some .int) ∈ xb_tbl := xb_in (i := 1114) (by decide +kernel) rfl
theorem ml_L_117 : Cond.methodLink RL 117 yX9_order ∈ xb_tbl := xb_in (i := 1115) (by decide +kernel) rfl
theorem ki_X9_order : Cond.instanceMethod yX9_order ∈ xb_tbl := xb_in (i := 1116) (by decide +kernel) rfl
theorem ks_X9_order : Cond.selects RX9 yX9_order yX9_order ∈ xb_tbl := xb_in (i := 1117) (by decide +kernel) rfl
theorem kc_X9_order : Cond.code yX9_order cX9_order 3 (some .int) ∈ xb_tbl := xb_in (i := 1118) (by decide +kernel) rfl
theorem kl_X9_253 : Cond.constantLong RX9 253 (2) ∈ xb_tbl := xb_in (i := 1119) (by decide +kernel) rfl
theorem ml_X9_255 : Cond.methodLink RX9 255 yX9_toOrder ∈ xb_tbl := xb_in (i := 1120) (by decide +kernel) rfl
theorem ki_X9_toOrder : Cond.instanceMethod yX9_toOrder ∈ xb_tbl := xb_in (i := 1122) (by decide +kernel) rfl
theorem kc_X9_toOrder : Cond.code yX9_toOrder cX9_toOrder 2 none ∈ xb_tbl := xb_in (i := 1123) (by decide +kernel) rfl
theorem ml_X9_247 : Cond.methodLink RX9 247 yX9_orderLayers ∈ xb_tbl := xb_in (i := 1124) (by decide +kernel) rfl
theorem ki_X9_orderLayers : Cond.instanceMethod yX9_orderLayers ∈ xb_tbl := xb_in (i := 1126) (by decide +kernel) rfl
theorem kc_X9_orderLayers : Cond.code yX9_orderLayers cX9_orderLayers 4 none ∈ xb_tbl := xb_in (i := 1127) (by decide +kernel) rfl
theorem ml_X9_250 : Cond.methodLink RX9 250 yX9_orderBy ∈ xb_tbl := xb_in (i := 1128) (by decide +kernel) rfl
theorem ki_X9_orderBy : Cond.instanceMethod yX9_orderBy ∈ xb_tbl := xb_in (i := 1130) (by decide +kernel) rfl
theorem kc_X9_orderBy : Cond.code yX9_orderBy cX9_orderBy 7 none ∈ xb_tbl := xb_in (i := 1131) (by decide +kernel) rfl
theorem ml_X9_244 : Cond.methodLink RX9 244 yX9_keyOf ∈ xb_tbl := xb_in (i := 1132) (by decide +kernel) rfl
theorem ki_X9_keyOf : Cond.instanceMethod yX9_keyOf ∈ xb_tbl := xb_in (i := 1134) (by decide +kernel) rfl
theorem kc_X9_keyOf : Cond.code yX9_keyOf cX9_keyOf 5 (some .int) ∈ xb_tbl := xb_in (i := 1135) (by decide +kernel) rfl
theorem kk_X9_242 : Cond.constant RX9 242 (40503) ∈ xb_tbl := xb_in (i := 1136) (by decide +kernel) rfl
theorem kk_X9_243 : Cond.constant RX9 243 (65536) ∈ xb_tbl := xb_in (i := 1137) (by decide +kernel) rfl
theorem ml_L_121 : Cond.methodLink RL 121 yX9_renumber ∈ xb_tbl := xb_in (i := 1138) (by decide +kernel) rfl
theorem ki_X9_renumber : Cond.instanceMethod yX9_renumber ∈ xb_tbl := xb_in (i := 1139) (by decide +kernel) rfl
theorem ks_X9_renumber : Cond.selects RX9 yX9_renumber yX9_renumber ∈ xb_tbl := xb_in (i := 1140) (by decide +kernel) rfl
theorem kc_X9_renumber : Cond.code yX9_renumber cX9_renumber 5 (some .int) ∈ xb_tbl := xb_in (i := 1141) (by decide +kernel) rfl
theorem ml_L_125 : Cond.methodLink RL 125 yX9_threes ∈ xb_tbl := xb_in (i := 1142) (by decide +kernel) rfl
theorem ki_X9_threes : Cond.instanceMethod yX9_threes ∈ xb_tbl := xb_in (i := 1143) (by decide +kernel) rfl
theorem ks_X9_threes : Cond.selects RX9 yX9_threes yX9_threes ∈ xb_tbl := xb_in (i := 1144) (by decide +kernel) rfl
theorem kc_X9_threes : Cond.code yX9_threes cX9_threes 5 (some .int) ∈ xb_tbl := xb_in (i := 1145) (by decide +kernel) rfl
theorem ml_X9_258 : Cond.methodLink RX9 258 yX9_isJoined ∈ xb_tbl := xb_in (i := 1146) (by decide +kernel) rfl
theorem ki_X9_isJoined : Cond.instanceMethod yX9_isJoined ∈ xb_tbl := xb_in (i := 1148) (by decide +kernel) rfl
theorem kc_X9_isJoined : Cond.code yX9_isJoined cX9_isJoined 3 (some .boolean) ∈ xb_tbl := xb_in (i := 1149) (by decide +kernel) rfl
theorem ml_L_129 : Cond.methodLink RL 129 yX9_parts ∈ xb_tbl := xb_in (i := 1150) (by decide +kernel) rfl
theorem ki_X9_parts : Cond.instanceMethod yX9_parts ∈ xb_tbl := xb_in (i := 1151) (by decide +kernel) rfl
theorem ks_X9_parts : Cond.selects RX9 yX9_parts yX9_parts ∈ xb_tbl := xb_in (i := 1152) (by decide +kernel) rfl
theorem kc_X9_parts : Cond.code yX9_parts cX9_parts 6 (some .int) ∈ xb_tbl := xb_in (i := 1153) (by decide +kernel) rfl
theorem ml_X9_262 : Cond.methodLink RX9 262 yX9_walk ∈ xb_tbl := xb_in (i := 1154) (by decide +kernel) rfl
theorem ki_X9_walk : Cond.instanceMethod yX9_walk ∈ xb_tbl := xb_in (i := 1156) (by decide +kernel) rfl
theorem kc_X9_walk : Cond.code yX9_walk cX9_walk 6 (some .int) ∈ xb_tbl := xb_in (i := 1157) (by decide +kernel) rfl
theorem ml_L_133 : Cond.methodLink RL 133 yX9_far ∈ xb_tbl := xb_in (i := 1158) (by decide +kernel) rfl
theorem ki_X9_far : Cond.instanceMethod yX9_far ∈ xb_tbl := xb_in (i := 1159) (by decide +kernel) rfl
theorem ks_X9_far : Cond.selects RX9 yX9_far yX9_far ∈ xb_tbl := xb_in (i := 1160) (by decide +kernel) rfl
theorem kc_X9_far : Cond.code yX9_far cX9_far 4 (some .int) ∈ xb_tbl := xb_in (i := 1161) (by decide +kernel) rfl
theorem ml_L_137 : Cond.methodLink RL 137 yX9_count ∈ xb_tbl := xb_in (i := 1162) (by decide +kernel) rfl
theorem ki_X9_count : Cond.instanceMethod yX9_count ∈ xb_tbl := xb_in (i := 1163) (by decide +kernel) rfl
theorem ks_X9_count : Cond.selects RX9 yX9_count yX9_count ∈ xb_tbl := xb_in (i := 1164) (by decide +kernel) rfl
theorem kc_X9_count : Cond.code yX9_count cX9_count 4 (some .int) ∈ xb_tbl := xb_in (i := 1165) (by decide +kernel) rfl
theorem kw_X0 : ∀ w ∈ u_ws RX0 TX0 3, w ∈ xb_tbl := by decide +kernel
theorem kw_X1 : ∀ w ∈ u_ws RX1 TX1 9, w ∈ xb_tbl := by decide +kernel
theorem kw_X2 : ∀ w ∈ u_ws RX2 TX2 4, w ∈ xb_tbl := by decide +kernel
theorem kw_X3 : ∀ w ∈ u_ws RX3 TX3 2, w ∈ xb_tbl := by decide +kernel
theorem kw_X4 : ∀ w ∈ u_ws RX4 TX4 2, w ∈ xb_tbl := by decide +kernel
theorem kw_X5 : ∀ w ∈ u_ws RX5 TX5 2, w ∈ xb_tbl := by decide +kernel
theorem kw_X6 : ∀ w ∈ u_ws RX6 TX6 3, w ∈ xb_tbl := by decide +kernel
theorem kw_X7 : ∀ w ∈ u_ws RX7 TX7 1, w ∈ xb_tbl := by decide +kernel
theorem kw_X8 : ∀ w ∈ u_ws RX8 TX8 7, w ∈ xb_tbl := by decide +kernel
theorem kw_X9 : ∀ w ∈ u_ws RX9 TX9 35, w ∈ xb_tbl := by decide +kernel
