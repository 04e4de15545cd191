theorem xw_sel_X4_refused : Cond.selects yX4_refused.cls yX4_refused yX4_refused ∈ xmTs := List.mem_filter.mpr ⟨List.mem_of_getElem? (i := 0) (by decide +kernel), by decide +kernel⟩
theorem xw_sel_X4_formatAt : Cond.selects yX4_formatAt.cls yX4_formatAt yX4_formatAt ∈ xmTs := List.mem_filter.mpr ⟨List.mem_of_getElem? (i := 1) (by decide +kernel), by decide +kernel⟩
theorem xw_sel_X4_answered : Cond.selects yX4_answered.cls yX4_answered yX4_answered ∈ xmTs := List.mem_filter.mpr ⟨List.mem_of_getElem? (i := 2) (by decide +kernel), by decide +kernel⟩
theorem xw_sel_X0_rounded : Cond.selects yX0_rounded.cls yX0_rounded yX0_rounded ∈ xmTs := List.mem_filter.mpr ⟨List.mem_of_getElem? (i := 3) (by decide +kernel), by decide +kernel⟩
theorem xw_sel_X4_settled : Cond.selects yX4_settled.cls yX4_settled yX4_settled ∈ xmTs := List.mem_filter.mpr ⟨List.mem_of_getElem? (i := 4) (by decide +kernel), by decide +kernel⟩
theorem xw_sel_X0_invalid : Cond.selects yX0_invalid.cls yX0_invalid yX0_invalid ∈ xmTs := List.mem_filter.mpr ⟨List.mem_of_getElem? (i := 5) (by decide +kernel), by decide +kernel⟩
theorem xw_sel_X0_added : Cond.selects yX0_added.cls yX0_added yX0_added ∈ xmTs := List.mem_filter.mpr ⟨List.mem_of_getElem? (i := 6) (by decide +kernel), by decide +kernel⟩
theorem xw_sel_X0_endlessOfSum : Cond.selects yX0_endlessOfSum.cls yX0_endlessOfSum yX0_endlessOfSum ∈ xmTs := List.mem_filter.mpr ⟨List.mem_of_getElem? (i := 7) (by decide +kernel), by decide +kernel⟩
theorem xw_sel_X0_multiplied : Cond.selects yX0_multiplied.cls yX0_multiplied yX0_multiplied ∈ xmTs := List.mem_filter.mpr ⟨List.mem_of_getElem? (i := 8) (by decide +kernel), by decide +kernel⟩
theorem xw_sel_X0_divided : Cond.selects yX0_divided.cls yX0_divided yX0_divided ∈ xmTs := List.mem_filter.mpr ⟨List.mem_of_getElem? (i := 9) (by decide +kernel), by decide +kernel⟩
theorem xw_sel_X0_rootOf : Cond.selects yX0_rootOf.cls yX0_rootOf yX0_rootOf ∈ xmTs := List.mem_filter.mpr ⟨List.mem_of_getElem? (i := 10) (by decide +kernel), by decide +kernel⟩
theorem xw_sel_X1_magnitudesUpTo : Cond.selects yX1_magnitudesUpTo.cls yX1_magnitudesUpTo yX1_magnitudesUpTo ∈ xmTs := List.mem_filter.mpr ⟨List.mem_of_getElem? (i := 11) (by decide +kernel), by decide +kernel⟩
theorem xw_sel_X4_rowAt : Cond.selects yX4_rowAt.cls yX4_rowAt yX4_rowAt ∈ xmTs := List.mem_filter.mpr ⟨List.mem_of_getElem? (i := 12) (by decide +kernel), by decide +kernel⟩
theorem xw_sel_X5_refused : Cond.selects yX5_refused.cls yX5_refused yX5_refused ∈ xmTs := List.mem_filter.mpr ⟨List.mem_of_getElem? (i := 13) (by decide +kernel), by decide +kernel⟩
theorem xw_sel_X5_fine : Cond.selects yX5_fine.cls yX5_fine yX5_fine ∈ xmTs := List.mem_filter.mpr ⟨List.mem_of_getElem? (i := 14) (by decide +kernel), by decide +kernel⟩
theorem xw_sel_X5_isFormat : Cond.selects yX5_isFormat.cls yX5_isFormat yX5_isFormat ∈ xmTs := List.mem_filter.mpr ⟨List.mem_of_getElem? (i := 15) (by decide +kernel), by decide +kernel⟩
theorem xw_sel_X5_bits : Cond.selects yX5_bits.cls yX5_bits yX5_bits ∈ xmTs := List.mem_filter.mpr ⟨List.mem_of_getElem? (i := 16) (by decide +kernel), by decide +kernel⟩
theorem xw_sel_X5_great : Cond.selects yX5_great.cls yX5_great yX5_great ∈ xmTs := List.mem_filter.mpr ⟨List.mem_of_getElem? (i := 17) (by decide +kernel), by decide +kernel⟩
theorem xw_sel_X5_allOnes : Cond.selects yX5_allOnes.cls yX5_allOnes yX5_allOnes ∈ xmTs := List.mem_filter.mpr ⟨List.mem_of_getElem? (i := 18) (by decide +kernel), by decide +kernel⟩
theorem xw_sel_X5_signBit : Cond.selects yX5_signBit.cls yX5_signBit yX5_signBit ∈ xmTs := List.mem_filter.mpr ⟨List.mem_of_getElem? (i := 19) (by decide +kernel), by decide +kernel⟩
theorem xw_sel_X5_last : Cond.selects yX5_last.cls yX5_last yX5_last ∈ xmTs := List.mem_filter.mpr ⟨List.mem_of_getElem? (i := 20) (by decide +kernel), by decide +kernel⟩
theorem xw_sel_X5_noneOf : Cond.selects yX5_noneOf.cls yX5_noneOf yX5_noneOf ∈ xmTs := List.mem_filter.mpr ⟨List.mem_of_getElem? (i := 21) (by decide +kernel), by decide +kernel⟩
theorem xw_sel_X5_endless : Cond.selects yX5_endless.cls yX5_endless yX5_endless ∈ xmTs := List.mem_filter.mpr ⟨List.mem_of_getElem? (i := 22) (by decide +kernel), by decide +kernel⟩
theorem xw_sel_X5_isNumber : Cond.selects yX5_isNumber.cls yX5_isNumber yX5_isNumber ∈ xmTs := List.mem_filter.mpr ⟨List.mem_of_getElem? (i := 23) (by decide +kernel), by decide +kernel⟩
theorem xw_sel_X5_kindOf : Cond.selects yX5_kindOf.cls yX5_kindOf yX5_kindOf ∈ xmTs := List.mem_filter.mpr ⟨List.mem_of_getElem? (i := 24) (by decide +kernel), by decide +kernel⟩
theorem xw_sel_X5_plain : Cond.selects yX5_plain.cls yX5_plain yX5_plain ∈ xmTs := List.mem_filter.mpr ⟨List.mem_of_getElem? (i := 25) (by decide +kernel), by decide +kernel⟩
theorem xw_sel_X5_scale : Cond.selects yX5_scale.cls yX5_scale yX5_scale ∈ xmTs := List.mem_filter.mpr ⟨List.mem_of_getElem? (i := 26) (by decide +kernel), by decide +kernel⟩
theorem xw_sel_X5_isCode : Cond.selects yX5_isCode.cls yX5_isCode yX5_isCode ∈ xmTs := List.mem_filter.mpr ⟨List.mem_of_getElem? (i := 27) (by decide +kernel), by decide +kernel⟩
theorem xw_sel_X5_isMinus : Cond.selects yX5_isMinus.cls yX5_isMinus yX5_isMinus ∈ xmTs := List.mem_filter.mpr ⟨List.mem_of_getElem? (i := 28) (by decide +kernel), by decide +kernel⟩
theorem xw_sel_X5_unitsOf : Cond.selects yX5_unitsOf.cls yX5_unitsOf yX5_unitsOf ∈ xmTs := List.mem_filter.mpr ⟨List.mem_of_getElem? (i := 29) (by decide +kernel), by decide +kernel⟩
theorem xw_sel_X5_size : Cond.selects yX5_size.cls yX5_size yX5_size ∈ xmTs := List.mem_filter.mpr ⟨List.mem_of_getElem? (i := 30) (by decide +kernel), by decide +kernel⟩
theorem xw_sel_X5_begins : Cond.selects yX5_begins.cls yX5_begins yX5_begins ∈ xmTs := List.mem_filter.mpr ⟨List.mem_of_getElem? (i := 31) (by decide +kernel), by decide +kernel⟩
theorem xw_sel_X5_roundedFraction : Cond.selects yX5_roundedFraction.cls yX5_roundedFraction yX5_roundedFraction ∈ xmTs := List.mem_filter.mpr ⟨List.mem_of_getElem? (i := 32) (by decide +kernel), by decide +kernel⟩
theorem xw_sel_X5_signed : Cond.selects yX5_signed.cls yX5_signed yX5_signed ∈ xmTs := List.mem_filter.mpr ⟨List.mem_of_getElem? (i := 33) (by decide +kernel), by decide +kernel⟩
theorem xw_sel_X5_rounded : Cond.selects yX5_rounded.cls yX5_rounded yX5_rounded ∈ xmTs := List.mem_filter.mpr ⟨List.mem_of_getElem? (i := 34) (by decide +kernel), by decide +kernel⟩
theorem xw_sel_X5_twiceBeside : Cond.selects yX5_twiceBeside.cls yX5_twiceBeside yX5_twiceBeside ∈ xmTs := List.mem_filter.mpr ⟨List.mem_of_getElem? (i := 35) (by decide +kernel), by decide +kernel⟩
theorem xw_sel_X5_roundedAbove : Cond.selects yX5_roundedAbove.cls yX5_roundedAbove yX5_roundedAbove ∈ xmTs := List.mem_filter.mpr ⟨List.mem_of_getElem? (i := 36) (by decide +kernel), by decide +kernel⟩
theorem xw_sel_X5_beyond : Cond.selects yX5_beyond.cls yX5_beyond yX5_beyond ∈ xmTs := List.mem_filter.mpr ⟨List.mem_of_getElem? (i := 37) (by decide +kernel), by decide +kernel⟩
theorem xw_sel_X5_ends : Cond.selects yX5_ends.cls yX5_ends yX5_ends ∈ xmTs := List.mem_filter.mpr ⟨List.mem_of_getElem? (i := 38) (by decide +kernel), by decide +kernel⟩
theorem xw_sel_X5_crossed : Cond.selects yX5_crossed.cls yX5_crossed yX5_crossed ∈ xmTs := List.mem_filter.mpr ⟨List.mem_of_getElem? (i := 39) (by decide +kernel), by decide +kernel⟩
theorem xw_sel_X5_invalidIn : Cond.selects yX5_invalidIn.cls yX5_invalidIn yX5_invalidIn ∈ xmTs := List.mem_filter.mpr ⟨List.mem_of_getElem? (i := 40) (by decide +kernel), by decide +kernel⟩
theorem xw_sel_X5_acted : Cond.selects yX5_acted.cls yX5_acted yX5_acted ∈ xmTs := List.mem_filter.mpr ⟨List.mem_of_getElem? (i := 41) (by decide +kernel), by decide +kernel⟩
theorem xw_sel_X5_summed : Cond.selects yX5_summed.cls yX5_summed yX5_summed ∈ xmTs := List.mem_filter.mpr ⟨List.mem_of_getElem? (i := 42) (by decide +kernel), by decide +kernel⟩
theorem xw_sel_X5_isEndless : Cond.selects yX5_isEndless.cls yX5_isEndless yX5_isEndless ∈ xmTs := List.mem_filter.mpr ⟨List.mem_of_getElem? (i := 43) (by decide +kernel), by decide +kernel⟩
theorem xw_sel_X5_endlessSum : Cond.selects yX5_endlessSum.cls yX5_endlessSum yX5_endlessSum ∈ xmTs := List.mem_filter.mpr ⟨List.mem_of_getElem? (i := 44) (by decide +kernel), by decide +kernel⟩
theorem xw_sel_X5_endlessOr : Cond.selects yX5_endlessOr.cls yX5_endlessOr yX5_endlessOr ∈ xmTs := List.mem_filter.mpr ⟨List.mem_of_getElem? (i := 45) (by decide +kernel), by decide +kernel⟩
theorem xw_sel_X5_multiplied : Cond.selects yX5_multiplied.cls yX5_multiplied yX5_multiplied ∈ xmTs := List.mem_filter.mpr ⟨List.mem_of_getElem? (i := 46) (by decide +kernel), by decide +kernel⟩
theorem xw_sel_X5_divided : Cond.selects yX5_divided.cls yX5_divided yX5_divided ∈ xmTs := List.mem_filter.mpr ⟨List.mem_of_getElem? (i := 47) (by decide +kernel), by decide +kernel⟩
theorem xw_sel_X5_rooted : Cond.selects yX5_rooted.cls yX5_rooted yX5_rooted ∈ xmTs := List.mem_filter.mpr ⟨List.mem_of_getElem? (i := 48) (by decide +kernel), by decide +kernel⟩
theorem xw_sel_X5_lesser : Cond.selects yX5_lesser.cls yX5_lesser yX5_lesser ∈ xmTs := List.mem_filter.mpr ⟨List.mem_of_getElem? (i := 49) (by decide +kernel), by decide +kernel⟩
theorem xw_sel_X5_beside : Cond.selects yX5_beside.cls yX5_beside yX5_beside ∈ xmTs := List.mem_filter.mpr ⟨List.mem_of_getElem? (i := 50) (by decide +kernel), by decide +kernel⟩
theorem xw_sel_X5_comesProduct : Cond.selects yX5_comesProduct.cls yX5_comesProduct yX5_comesProduct ∈ xmTs := List.mem_filter.mpr ⟨List.mem_of_getElem? (i := 51) (by decide +kernel), by decide +kernel⟩
theorem xw_sel_X5_comesNone : Cond.selects yX5_comesNone.cls yX5_comesNone yX5_comesNone ∈ xmTs := List.mem_filter.mpr ⟨List.mem_of_getElem? (i := 52) (by decide +kernel), by decide +kernel⟩
theorem xw_sel_X5_comesEndless : Cond.selects yX5_comesEndless.cls yX5_comesEndless yX5_comesEndless ∈ xmTs := List.mem_filter.mpr ⟨List.mem_of_getElem? (i := 53) (by decide +kernel), by decide +kernel⟩
theorem xw_sel_X5_comes : Cond.selects yX5_comes.cls yX5_comes yX5_comes ∈ xmTs := List.mem_filter.mpr ⟨List.mem_of_getElem? (i := 54) (by decide +kernel), by decide +kernel⟩
theorem xw_sel_X5_whatCame : Cond.selects yX5_whatCame.cls yX5_whatCame yX5_whatCame ∈ xmTs := List.mem_filter.mpr ⟨List.mem_of_getElem? (i := 55) (by decide +kernel), by decide +kernel⟩
theorem xw_sel_X5_isRow : Cond.selects yX5_isRow.cls yX5_isRow yX5_isRow ∈ xmTs := List.mem_filter.mpr ⟨List.mem_of_getElem? (i := 56) (by decide +kernel), by decide +kernel⟩
theorem xw_ini_L : Cond.initialized RL ∈ xmTs := List.mem_filter.mpr ⟨List.mem_of_getElem? (i := 57) (by decide +kernel), by decide +kernel⟩
theorem xw_ini_X4 : Cond.initialized RX4 ∈ xmTs := List.mem_filter.mpr ⟨List.mem_of_getElem? (i := 58) (by decide +kernel), by decide +kernel⟩
theorem xw_ini_X0 : Cond.initialized RX0 ∈ xmTs := List.mem_filter.mpr ⟨List.mem_of_getElem? (i := 59) (by decide +kernel), by decide +kernel⟩
theorem xw_ini_X3 : Cond.initialized RX3 ∈ xmTs := List.mem_filter.mpr ⟨List.mem_of_getElem? (i := 60) (by decide +kernel), by decide +kernel⟩
theorem xw_ini_X2 : Cond.initialized RX2 ∈ xmTs := List.mem_filter.mpr ⟨List.mem_of_getElem? (i := 61) (by decide +kernel), by decide +kernel⟩
theorem xw_ini_X5 : Cond.initialized RX5 ∈ xmTs := List.mem_filter.mpr ⟨List.mem_of_getElem? (i := 62) (by decide +kernel), by decide +kernel⟩
theorem xw_ini_X1 : Cond.initialized RX1 ∈ xmTs := List.mem_filter.mpr ⟨List.mem_of_getElem? (i := 63) (by decide +kernel), by decide +kernel⟩
theorem xw_ini_J9 : Cond.initialized RJ9 ∈ xmTs := List.mem_filter.mpr ⟨List.mem_of_getElem? (i := 64) (by decide +kernel), by decide +kernel⟩
theorem xw_ini_J13 : Cond.initialized RJ13 ∈ xmTs := List.mem_filter.mpr ⟨List.mem_of_getElem? (i := 65) (by decide +kernel), by decide +kernel⟩
theorem xw_ini_J6 : Cond.initialized RJ6 ∈ xmTs := List.mem_filter.mpr ⟨List.mem_of_getElem? (i := 66) (by decide +kernel), by decide +kernel⟩
theorem xw_cl_L_7 : Cond.classLink RL 7 RX4 ∈ xmTs := List.mem_filter.mpr ⟨List.mem_of_getElem? (i := 67) (by decide +kernel), by decide +kernel⟩
theorem xw_inst_X4 : Cond.instantiable RX4 11 ∈ xmTs := List.mem_filter.mpr ⟨List.mem_of_getElem? (i := 68) (by decide +kernel), by decide +kernel⟩
theorem xw_ml_L_9 : Cond.methodLink RL 9 yX4_init ∈ xmTs := List.mem_filter.mpr ⟨List.mem_of_getElem? (i := 69) (by decide +kernel), by decide +kernel⟩
theorem xw_ins_X4_init : Cond.instanceMethod yX4_init ∈ xmTs := List.mem_filter.mpr ⟨List.mem_of_getElem? (i := 70) (by decide +kernel), by decide +kernel⟩
theorem xw_cod_X4_init : Cond.code yX4_init cX4_init 2 none ∈ xmTs := List.mem_filter.mpr ⟨List.mem_of_getElem? (i := 71) (by decide +kernel), by decide +kernel⟩
theorem xw_ml_X4_3 : Cond.methodLink RX4 3 objectInit ∈ xmTs := List.mem_filter.mpr ⟨List.mem_of_getElem? (i := 72) (by decide +kernel), by decide +kernel⟩
theorem xw_ins_obj : Cond.instanceMethod objectInit ∈ xmTs := List.mem_filter.mpr ⟨List.mem_of_getElem? (i := 73) (by decide +kernel), by decide +kernel⟩
theorem xw_cod_obj : Cond.code objectInit ⟨#[0xb1]⟩ 1 none ∈ xmTs := List.mem_filter.mpr ⟨List.mem_of_getElem? (i := 74) (by decide +kernel), by decide +kernel⟩
theorem xw_cl_X4_11 : Cond.classLink RX4 11 RX1 ∈ xmTs := List.mem_filter.mpr ⟨List.mem_of_getElem? (i := 75) (by decide +kernel), by decide +kernel⟩
theorem xw_cl_X4_21 : Cond.classLink RX4 21 RX2 ∈ xmTs := List.mem_filter.mpr ⟨List.mem_of_getElem? (i := 77) (by decide +kernel), by decide +kernel⟩
theorem xw_cl_X4_31 : Cond.classLink RX4 31 RX0 ∈ xmTs := List.mem_filter.mpr ⟨List.mem_of_getElem? (i := 79) (by decide +kernel), by decide +kernel⟩
theorem xw_inst_X0 : Cond.instantiable RX0 1 ∈ xmTs := List.mem_filter.mpr ⟨List.mem_of_getElem? (i := 80) (by decide +kernel), by decide +kernel⟩
theorem xw_ins_X0_init : Cond.instanceMethod yX0_init ∈ xmTs := List.mem_filter.mpr ⟨List.mem_of_getElem? (i := 82) (by decide +kernel), by decide +kernel⟩
theorem xw_cod_X0_init : Cond.code yX0_init cX0_init 1 none ∈ xmTs := List.mem_filter.mpr ⟨List.mem_of_getElem? (i := 83) (by decide +kernel), by decide +kernel⟩
theorem xw_ml_X0_3 : Cond.methodLink RX0 3 objectInit ∈ xmTs := List.mem_filter.mpr ⟨List.mem_of_getElem? (i := 84) (by decide +kernel), by decide +kernel⟩
theorem xw_cl_X0_9 : Cond.classLink RX0 9 RX3 ∈ xmTs := List.mem_filter.mpr ⟨List.mem_of_getElem? (i := 85) (by decide +kernel), by decide +kernel⟩
theorem xw_inst_X3 : Cond.instantiable RX3 3 ∈ xmTs := List.mem_filter.mpr ⟨List.mem_of_getElem? (i := 86) (by decide +kernel), by decide +kernel⟩
theorem xw_ins_X3_init : Cond.instanceMethod yX3_init ∈ xmTs := List.mem_filter.mpr ⟨List.mem_of_getElem? (i := 88) (by decide +kernel), by decide +kernel⟩
theorem xw_cod_X3_init : Cond.code yX3_init cX3_init 1 none ∈ xmTs := List.mem_filter.mpr ⟨List.mem_of_getElem? (i := 89) (by decide +kernel), by decide +kernel⟩
theorem xw_ml_X3_1 : Cond.methodLink RX3 1 objectInit ∈ xmTs := List.mem_filter.mpr ⟨List.mem_of_getElem? (i := 90) (by decide +kernel), by decide +kernel⟩
theorem xw_fl_X3_7 : Cond.fieldLink RX3 7 (TX3 0).1 (TX3 0).2.1 (TX3 0).2.2.1 ∈ xmTs := List.mem_filter.mpr ⟨List.mem_of_getElem? (i := 91) (by decide +kernel), by decide +kernel⟩
theorem xw_fl_X0_31 : Cond.fieldLink RX0 31 (TX3 0).1 (TX3 0).2.1 (TX3 0).2.2.1 ∈ xmTs := List.mem_filter.mpr ⟨List.mem_of_getElem? (i := 92) (by decide +kernel), by decide +kernel⟩
theorem xw_fl_X4_226 : Cond.fieldLink RX4 226 (TX3 0).1 (TX3 0).2.1 (TX3 0).2.2.1 ∈ xmTs := List.mem_filter.mpr ⟨List.mem_of_getElem? (i := 93) (by decide +kernel), by decide +kernel⟩
theorem xw_fl_X3_13 : Cond.fieldLink RX3 13 (TX3 1).1 (TX3 1).2.1 (TX3 1).2.2.1 ∈ xmTs := List.mem_filter.mpr ⟨List.mem_of_getElem? (i := 94) (by decide +kernel), by decide +kernel⟩
theorem xw_fl_X0_49 : Cond.fieldLink RX0 49 (TX3 1).1 (TX3 1).2.1 (TX3 1).2.2.1 ∈ xmTs := List.mem_filter.mpr ⟨List.mem_of_getElem? (i := 95) (by decide +kernel), by decide +kernel⟩
theorem xw_fl_X4_229 : Cond.fieldLink RX4 229 (TX3 1).1 (TX3 1).2.1 (TX3 1).2.2.1 ∈ xmTs := List.mem_filter.mpr ⟨List.mem_of_getElem? (i := 96) (by decide +kernel), by decide +kernel⟩
theorem xw_fl_X3_16 : Cond.fieldLink RX3 16 (TX3 2).1 (TX3 2).2.1 (TX3 2).2.2.1 ∈ xmTs := List.mem_filter.mpr ⟨List.mem_of_getElem? (i := 97) (by decide +kernel), by decide +kernel⟩
theorem xw_fl_X0_18 : Cond.fieldLink RX0 18 (TX3 2).1 (TX3 2).2.1 (TX3 2).2.2.1 ∈ xmTs := List.mem_filter.mpr ⟨List.mem_of_getElem? (i := 98) (by decide +kernel), by decide +kernel⟩
theorem xw_fl_X4_232 : Cond.fieldLink RX4 232 (TX3 2).1 (TX3 2).2.1 (TX3 2).2.2.1 ∈ xmTs := List.mem_filter.mpr ⟨List.mem_of_getElem? (i := 99) (by decide +kernel), by decide +kernel⟩
theorem xw_lay_X3_0 : u_lay RX3 TX3 0 ∈ xmTs := List.mem_filter.mpr ⟨List.mem_of_getElem? (i := 100) (by decide +kernel), by decide +kernel⟩
theorem xw_lay_X3_1 : u_lay RX3 TX3 1 ∈ xmTs := List.mem_filter.mpr ⟨List.mem_of_getElem? (i := 102) (by decide +kernel), by decide +kernel⟩
theorem xw_lay_X3_2 : u_lay RX3 TX3 2 ∈ xmTs := List.mem_filter.mpr ⟨List.mem_of_getElem? (i := 104) (by decide +kernel), by decide +kernel⟩
theorem xw_arr_int : Cond.arrayClass (newarray.typeOf .int) ∈ xmTs := List.mem_filter.mpr ⟨List.mem_of_getElem? (i := 107) (by decide +kernel), by decide +kernel⟩
theorem xw_fl_X0_12 : Cond.fieldLink RX0 12 (TX0 0).1 (TX0 0).2.1 (TX0 0).2.2.1 ∈ xmTs := List.mem_filter.mpr ⟨List.mem_of_getElem? (i := 108) (by decide +kernel), by decide +kernel⟩
theorem xw_fl_X4_135 : Cond.fieldLink RX4 135 (TX0 0).1 (TX0 0).2.1 (TX0 0).2.2.1 ∈ xmTs := List.mem_filter.mpr ⟨List.mem_of_getElem? (i := 109) (by decide +kernel), by decide +kernel⟩
theorem xw_lay_X0_0 : u_lay RX0 TX0 0 ∈ xmTs := List.mem_filter.mpr ⟨List.mem_of_getElem? (i := 110) (by decide +kernel), by decide +kernel⟩
theorem xw_cl_X4_38 : Cond.classLink RX4 38 RX3 ∈ xmTs := List.mem_filter.mpr ⟨List.mem_of_getElem? (i := 113) (by decide +kernel), by decide +kernel⟩
theorem xw_inst_X2 : Cond.instantiable RX2 3 ∈ xmTs := List.mem_filter.mpr ⟨List.mem_of_getElem? (i := 115) (by decide +kernel), by decide +kernel⟩
theorem xw_ins_X2_init : Cond.instanceMethod yX2_init ∈ xmTs := List.mem_filter.mpr ⟨List.mem_of_getElem? (i := 117) (by decide +kernel), by decide +kernel⟩
theorem xw_cod_X2_init : Cond.code yX2_init cX2_init 1 none ∈ xmTs := List.mem_filter.mpr ⟨List.mem_of_getElem? (i := 118) (by decide +kernel), by decide +kernel⟩
theorem xw_ml_X2_3 : Cond.methodLink RX2 3 objectInit ∈ xmTs := List.mem_filter.mpr ⟨List.mem_of_getElem? (i := 119) (by decide +kernel), by decide +kernel⟩
theorem xw_fl_X2_9 : Cond.fieldLink RX2 9 (TX2 0).1 (TX2 0).2.1 (TX2 0).2.2.1 ∈ xmTs := List.mem_filter.mpr ⟨List.mem_of_getElem? (i := 120) (by decide +kernel), by decide +kernel⟩
theorem xw_fl_X4_190 : Cond.fieldLink RX4 190 (TX2 0).1 (TX2 0).2.1 (TX2 0).2.2.1 ∈ xmTs := List.mem_filter.mpr ⟨List.mem_of_getElem? (i := 121) (by decide +kernel), by decide +kernel⟩
theorem xw_fl_X0_147 : Cond.fieldLink RX0 147 (TX2 0).1 (TX2 0).2.1 (TX2 0).2.2.1 ∈ xmTs := List.mem_filter.mpr ⟨List.mem_of_getElem? (i := 122) (by decide +kernel), by decide +kernel⟩
theorem xw_fl_X2_15 : Cond.fieldLink RX2 15 (TX2 1).1 (TX2 1).2.1 (TX2 1).2.2.1 ∈ xmTs := List.mem_filter.mpr ⟨List.mem_of_getElem? (i := 123) (by decide +kernel), by decide +kernel⟩
theorem xw_fl_X4_206 : Cond.fieldLink RX4 206 (TX2 1).1 (TX2 1).2.1 (TX2 1).2.2.1 ∈ xmTs := List.mem_filter.mpr ⟨List.mem_of_getElem? (i := 124) (by decide +kernel), by decide +kernel⟩
theorem xw_fl_X0_165 : Cond.fieldLink RX0 165 (TX2 1).1 (TX2 1).2.1 (TX2 1).2.2.1 ∈ xmTs := List.mem_filter.mpr ⟨List.mem_of_getElem? (i := 125) (by decide +kernel), by decide +kernel⟩
theorem xw_fl_X2_19 : Cond.fieldLink RX2 19 (TX2 2).1 (TX2 2).2.1 (TX2 2).2.2.1 ∈ xmTs := List.mem_filter.mpr ⟨List.mem_of_getElem? (i := 126) (by decide +kernel), by decide +kernel⟩
theorem xw_lay_X2_0 : u_lay RX2 TX2 0 ∈ xmTs := List.mem_filter.mpr ⟨List.mem_of_getElem? (i := 127) (by decide +kernel), by decide +kernel⟩
theorem xw_lay_X2_1 : u_lay RX2 TX2 1 ∈ xmTs := List.mem_filter.mpr ⟨List.mem_of_getElem? (i := 129) (by decide +kernel), by decide +kernel⟩
theorem xw_lay_X2_2 : u_lay RX2 TX2 2 ∈ xmTs := List.mem_filter.mpr ⟨List.mem_of_getElem? (i := 131) (by decide +kernel), by decide +kernel⟩
theorem xw_fl_X4_13 : Cond.fieldLink RX4 13 (TX4 0).1 (TX4 0).2.1 (TX4 0).2.2.1 ∈ xmTs := List.mem_filter.mpr ⟨List.mem_of_getElem? (i := 134) (by decide +kernel), by decide +kernel⟩
theorem xw_fl_X4_17 : Cond.fieldLink RX4 17 (TX4 1).1 (TX4 1).2.1 (TX4 1).2.2.1 ∈ xmTs := List.mem_filter.mpr ⟨List.mem_of_getElem? (i := 135) (by decide +kernel), by decide +kernel⟩
theorem xw_fl_X4_23 : Cond.fieldLink RX4 23 (TX4 2).1 (TX4 2).2.1 (TX4 2).2.2.1 ∈ xmTs := List.mem_filter.mpr ⟨List.mem_of_getElem? (i := 136) (by decide +kernel), by decide +kernel⟩
theorem xw_fl_X4_27 : Cond.fieldLink RX4 27 (TX4 3).1 (TX4 3).2.1 (TX4 3).2.2.1 ∈ xmTs := List.mem_filter.mpr ⟨List.mem_of_getElem? (i := 137) (by decide +kernel), by decide +kernel⟩
theorem xw_fl_X4_34 : Cond.fieldLink RX4 34 (TX4 4).1 (TX4 4).2.1 (TX4 4).2.2.1 ∈ xmTs := List.mem_filter.mpr ⟨List.mem_of_getElem? (i := 138) (by decide +kernel), by decide +kernel⟩
theorem xw_fl_X4_41 : Cond.fieldLink RX4 41 (TX4 5).1 (TX4 5).2.1 (TX4 5).2.2.1 ∈ xmTs := List.mem_filter.mpr ⟨List.mem_of_getElem? (i := 139) (by decide +kernel), by decide +kernel⟩
theorem xw_fl_X4_45 : Cond.fieldLink RX4 45 (TX4 6).1 (TX4 6).2.1 (TX4 6).2.2.1 ∈ xmTs := List.mem_filter.mpr ⟨List.mem_of_getElem? (i := 140) (by decide +kernel), by decide +kernel⟩
theorem xw_fl_X4_48 : Cond.fieldLink RX4 48 (TX4 7).1 (TX4 7).2.1 (TX4 7).2.2.1 ∈ xmTs := List.mem_filter.mpr ⟨List.mem_of_getElem? (i := 141) (by decide +kernel), by decide +kernel⟩
theorem xw_fl_X4_52 : Cond.fieldLink RX4 52 (TX4 8).1 (TX4 8).2.1 (TX4 8).2.2.1 ∈ xmTs := List.mem_filter.mpr ⟨List.mem_of_getElem? (i := 142) (by decide +kernel), by decide +kernel⟩
theorem xw_fl_X4_55 : Cond.fieldLink RX4 55 (TX4 9).1 (TX4 9).2.1 (TX4 9).2.2.1 ∈ xmTs := List.mem_filter.mpr ⟨List.mem_of_getElem? (i := 143) (by decide +kernel), by decide +kernel⟩
theorem xw_fl_X4_58 : Cond.fieldLink RX4 58 (TX4 10).1 (TX4 10).2.1 (TX4 10).2.2.1 ∈ xmTs := List.mem_filter.mpr ⟨List.mem_of_getElem? (i := 144) (by decide +kernel), by decide +kernel⟩
theorem xw_lay_X4_0 : u_lay RX4 TX4 0 ∈ xmTs := List.mem_filter.mpr ⟨List.mem_of_getElem? (i := 145) (by decide +kernel), by decide +kernel⟩
theorem xw_lay_X4_1 : u_lay RX4 TX4 1 ∈ xmTs := List.mem_filter.mpr ⟨List.mem_of_getElem? (i := 147) (by decide +kernel), by decide +kernel⟩
theorem xw_lay_X4_2 : u_lay RX4 TX4 2 ∈ xmTs := List.mem_filter.mpr ⟨List.mem_of_getElem? (i := 149) (by decide +kernel), by decide +kernel⟩
theorem xw_lay_X4_3 : u_lay RX4 TX4 3 ∈ xmTs := List.mem_filter.mpr ⟨List.mem_of_getElem? (i := 151) (by decide +kernel), by decide +kernel⟩
theorem xw_lay_X4_4 : u_lay RX4 TX4 4 ∈ xmTs := List.mem_filter.mpr ⟨List.mem_of_getElem? (i := 153) (by decide +kernel), by decide +kernel⟩
theorem xw_lay_X4_5 : u_lay RX4 TX4 5 ∈ xmTs := List.mem_filter.mpr ⟨List.mem_of_getElem? (i := 155) (by decide +kernel), by decide +kernel⟩
theorem xw_lay_X4_6 : u_lay RX4 TX4 6 ∈ xmTs := List.mem_filter.mpr ⟨List.mem_of_getElem? (i := 157) (by decide +kernel), by decide +kernel⟩
theorem xw_lay_X4_7 : u_lay RX4 TX4 7 ∈ xmTs := List.mem_filter.mpr ⟨List.mem_of_getElem? (i := 159) (by decide +kernel), by decide +kernel⟩
theorem xw_lay_X4_8 : u_lay RX4 TX4 8 ∈ xmTs := List.mem_filter.mpr ⟨List.mem_of_getElem? (i := 161) (by decide +kernel), by decide +kernel⟩
theorem xw_lay_X4_9 : u_lay RX4 TX4 9 ∈ xmTs := List.mem_filter.mpr ⟨List.mem_of_getElem? (i := 163) (by decide +kernel), by decide +kernel⟩
theorem xw_lay_X4_10 : u_lay RX4 TX4 10 ∈ xmTs := List.mem_filter.mpr ⟨List.mem_of_getElem? (i := 165) (by decide +kernel), by decide +kernel⟩
theorem xw_ml_L_13 : Cond.methodLink RL 13 yX4_format ∈ xmTs := List.mem_filter.mpr ⟨List.mem_of_getElem? (i := 168) (by decide +kernel), by decide +kernel⟩
theorem xw_ins_X4_format : Cond.instanceMethod yX4_format ∈ xmTs := List.mem_filter.mpr ⟨List.mem_of_getElem? (i := 169) (by decide +kernel), by decide +kernel⟩
theorem xw_sel_X4_format : Cond.selects yX4_format.cls yX4_format yX4_format ∈ xmTs := List.mem_filter.mpr ⟨List.mem_of_getElem? (i := 170) (by decide +kernel), by decide +kernel⟩
theorem xw_cod_X4_format : Cond.code yX4_format cX4_format 10 (some (FieldType.int)) ∈ xmTs := List.mem_filter.mpr ⟨List.mem_of_getElem? (i := 171) (by decide +kernel), by decide +kernel⟩
theorem xw_ml_X4_62 : Cond.methodLink RX4 62 yX4_within ∈ xmTs := List.mem_filter.mpr ⟨List.mem_of_getElem? (i := 172) (by decide +kernel), by decide +kernel⟩
theorem xw_sta_X4_within : Cond.static yX4_within ∈ xmTs := List.mem_filter.mpr ⟨List.mem_of_getElem? (i := 173) (by decide +kernel), by decide +kernel⟩
theorem xw_cod_X4_within : Cond.code yX4_within cX4_within 3 (some (FieldType.boolean)) ∈ xmTs := List.mem_filter.mpr ⟨List.mem_of_getElem? (i := 174) (by decide +kernel), by decide +kernel⟩
theorem xw_ml_X4_66 : Cond.methodLink RX4 66 yX4_refused ∈ xmTs := List.mem_filter.mpr ⟨List.mem_of_getElem? (i := 175) (by decide +kernel), by decide +kernel⟩
theorem xw_ins_X4_refused : Cond.instanceMethod yX4_refused ∈ xmTs := List.mem_filter.mpr ⟨List.mem_of_getElem? (i := 177) (by decide +kernel), by decide +kernel⟩
theorem xw_cod_X4_refused : Cond.code yX4_refused cX4_refused 2 (some (FieldType.int)) ∈ xmTs := List.mem_filter.mpr ⟨List.mem_of_getElem? (i := 178) (by decide +kernel), by decide +kernel⟩
theorem xw_inst_X1 : Cond.instantiable RX1 7 ∈ xmTs := List.mem_filter.mpr ⟨List.mem_of_getElem? (i := 179) (by decide +kernel), by decide +kernel⟩
theorem xw_ml_X4_70 : Cond.methodLink RX4 70 yX1_init ∈ xmTs := List.mem_filter.mpr ⟨List.mem_of_getElem? (i := 180) (by decide +kernel), by decide +kernel⟩
theorem xw_ins_X1_init : Cond.instanceMethod yX1_init ∈ xmTs := List.mem_filter.mpr ⟨List.mem_of_getElem? (i := 181) (by decide +kernel), by decide +kernel⟩
theorem xw_cod_X1_init : Cond.code yX1_init cX1_init 8 none ∈ xmTs := List.mem_filter.mpr ⟨List.mem_of_getElem? (i := 182) (by decide +kernel), by decide +kernel⟩
theorem xw_ml_X1_3 : Cond.methodLink RX1 3 objectInit ∈ xmTs := List.mem_filter.mpr ⟨List.mem_of_getElem? (i := 183) (by decide +kernel), by decide +kernel⟩
theorem xw_fl_X1_9 : Cond.fieldLink RX1 9 (TX1 0).1 (TX1 0).2.1 (TX1 0).2.2.1 ∈ xmTs := List.mem_filter.mpr ⟨List.mem_of_getElem? (i := 184) (by decide +kernel), by decide +kernel⟩
theorem xw_fl_X0_28 : Cond.fieldLink RX0 28 (TX1 0).1 (TX1 0).2.1 (TX1 0).2.2.1 ∈ xmTs := List.mem_filter.mpr ⟨List.mem_of_getElem? (i := 185) (by decide +kernel), by decide +kernel⟩
theorem xw_fl_X4_101 : Cond.fieldLink RX4 101 (TX1 0).1 (TX1 0).2.1 (TX1 0).2.2.1 ∈ xmTs := List.mem_filter.mpr ⟨List.mem_of_getElem? (i := 186) (by decide +kernel), by decide +kernel⟩
theorem xw_fl_X1_15 : Cond.fieldLink RX1 15 (TX1 1).1 (TX1 1).2.1 (TX1 1).2.2.1 ∈ xmTs := List.mem_filter.mpr ⟨List.mem_of_getElem? (i := 187) (by decide +kernel), by decide +kernel⟩
theorem xw_fl_X1_18 : Cond.fieldLink RX1 18 (TX1 2).1 (TX1 2).2.1 (TX1 2).2.2.1 ∈ xmTs := List.mem_filter.mpr ⟨List.mem_of_getElem? (i := 188) (by decide +kernel), by decide +kernel⟩
theorem xw_fl_X1_21 : Cond.fieldLink RX1 21 (TX1 3).1 (TX1 3).2.1 (TX1 3).2.2.1 ∈ xmTs := List.mem_filter.mpr ⟨List.mem_of_getElem? (i := 189) (by decide +kernel), by decide +kernel⟩
theorem xw_fl_X1_24 : Cond.fieldLink RX1 24 (TX1 4).1 (TX1 4).2.1 (TX1 4).2.2.1 ∈ xmTs := List.mem_filter.mpr ⟨List.mem_of_getElem? (i := 190) (by decide +kernel), by decide +kernel⟩
theorem xw_fl_X1_28 : Cond.fieldLink RX1 28 (TX1 5).1 (TX1 5).2.1 (TX1 5).2.2.1 ∈ xmTs := List.mem_filter.mpr ⟨List.mem_of_getElem? (i := 191) (by decide +kernel), by decide +kernel⟩
theorem xw_fl_X4_94 : Cond.fieldLink RX4 94 (TX1 5).1 (TX1 5).2.1 (TX1 5).2.2.1 ∈ xmTs := List.mem_filter.mpr ⟨List.mem_of_getElem? (i := 192) (by decide +kernel), by decide +kernel⟩
theorem xw_fl_X1_31 : Cond.fieldLink RX1 31 (TX1 6).1 (TX1 6).2.1 (TX1 6).2.2.1 ∈ xmTs := List.mem_filter.mpr ⟨List.mem_of_getElem? (i := 193) (by decide +kernel), by decide +kernel⟩
theorem xw_fl_X0_46 : Cond.fieldLink RX0 46 (TX1 6).1 (TX1 6).2.1 (TX1 6).2.2.1 ∈ xmTs := List.mem_filter.mpr ⟨List.mem_of_getElem? (i := 194) (by decide +kernel), by decide +kernel⟩
theorem xw_fl_X4_88 : Cond.fieldLink RX4 88 (TX1 6).1 (TX1 6).2.1 (TX1 6).2.2.1 ∈ xmTs := List.mem_filter.mpr ⟨List.mem_of_getElem? (i := 195) (by decide +kernel), by decide +kernel⟩
theorem xw_lay_X1_0 : u_lay RX1 TX1 0 ∈ xmTs := List.mem_filter.mpr ⟨List.mem_of_getElem? (i := 196) (by decide +kernel), by decide +kernel⟩
theorem xw_lay_X1_1 : u_lay RX1 TX1 1 ∈ xmTs := List.mem_filter.mpr ⟨List.mem_of_getElem? (i := 198) (by decide +kernel), by decide +kernel⟩
theorem xw_lay_X1_2 : u_lay RX1 TX1 2 ∈ xmTs := List.mem_filter.mpr ⟨List.mem_of_getElem? (i := 200) (by decide +kernel), by decide +kernel⟩
theorem xw_lay_X1_3 : u_lay RX1 TX1 3 ∈ xmTs := List.mem_filter.mpr ⟨List.mem_of_getElem? (i := 202) (by decide +kernel), by decide +kernel⟩
theorem xw_lay_X1_4 : u_lay RX1 TX1 4 ∈ xmTs := List.mem_filter.mpr ⟨List.mem_of_getElem? (i := 204) (by decide +kernel), by decide +kernel⟩
theorem xw_lay_X1_5 : u_lay RX1 TX1 5 ∈ xmTs := List.mem_filter.mpr ⟨List.mem_of_getElem? (i := 206) (by decide +kernel), by decide +kernel⟩
theorem xw_lay_X1_6 : u_lay RX1 TX1 6 ∈ xmTs := List.mem_filter.mpr ⟨List.mem_of_getElem? (i := 208) (by decide +kernel), by decide +kernel⟩
theorem xw_ml_X4_73 : Cond.methodLink RX4 73 yX4_formatAt ∈ xmTs := List.mem_filter.mpr ⟨List.mem_of_getElem? (i := 211) (by decide +kernel), by decide +kernel⟩
theorem xw_ins_X4_formatAt : Cond.instanceMethod yX4_formatAt ∈ xmTs := List.mem_filter.mpr ⟨List.mem_of_getElem? (i := 213) (by decide +kernel), by decide +kernel⟩
theorem xw_cod_X4_formatAt : Cond.code yX4_formatAt cX4_formatAt 2 (some (FieldType.object "SmallFloats$Format")) ∈ xmTs := List.mem_filter.mpr ⟨List.mem_of_getElem? (i := 214) (by decide +kernel), by decide +kernel⟩
theorem xw_ml_X4_77 : Cond.methodLink RX4 77 yX1_isAlike ∈ xmTs := List.mem_filter.mpr ⟨List.mem_of_getElem? (i := 215) (by decide +kernel), by decide +kernel⟩
theorem xw_ins_X1_isAlike : Cond.instanceMethod yX1_isAlike ∈ xmTs := List.mem_filter.mpr ⟨List.mem_of_getElem? (i := 216) (by decide +kernel), by decide +kernel⟩
theorem xw_sel_X1_isAlike : Cond.selects yX1_isAlike.cls yX1_isAlike yX1_isAlike ∈ xmTs := List.mem_filter.mpr ⟨List.mem_of_getElem? (i := 217) (by decide +kernel), by decide +kernel⟩
theorem xw_cod_X1_isAlike : Cond.code yX1_isAlike cX1_isAlike 2 (some (FieldType.boolean)) ∈ xmTs := List.mem_filter.mpr ⟨List.mem_of_getElem? (i := 218) (by decide +kernel), by decide +kernel⟩
theorem xw_ml_X4_81 : Cond.methodLink RX4 81 yX4_answered ∈ xmTs := List.mem_filter.mpr ⟨List.mem_of_getElem? (i := 219) (by decide +kernel), by decide +kernel⟩
theorem xw_ins_X4_answered : Cond.instanceMethod yX4_answered ∈ xmTs := List.mem_filter.mpr ⟨List.mem_of_getElem? (i := 221) (by decide +kernel), by decide +kernel⟩
theorem xw_cod_X4_answered : Cond.code yX4_answered cX4_answered 2 (some (FieldType.int)) ∈ xmTs := List.mem_filter.mpr ⟨List.mem_of_getElem? (i := 222) (by decide +kernel), by decide +kernel⟩
theorem xw_ml_L_18 : Cond.methodLink RL 18 yX4_about ∈ xmTs := List.mem_filter.mpr ⟨List.mem_of_getElem? (i := 223) (by decide +kernel), by decide +kernel⟩
theorem xw_ins_X4_about : Cond.instanceMethod yX4_about ∈ xmTs := List.mem_filter.mpr ⟨List.mem_of_getElem? (i := 224) (by decide +kernel), by decide +kernel⟩
theorem xw_sel_X4_about : Cond.selects yX4_about.cls yX4_about yX4_about ∈ xmTs := List.mem_filter.mpr ⟨List.mem_of_getElem? (i := 225) (by decide +kernel), by decide +kernel⟩
theorem xw_cod_X4_about : Cond.code yX4_about cX4_about 4 (some (FieldType.int)) ∈ xmTs := List.mem_filter.mpr ⟨List.mem_of_getElem? (i := 226) (by decide +kernel), by decide +kernel⟩
theorem xw_ml_X4_84 : Cond.methodLink RX4 84 yX1_bits ∈ xmTs := List.mem_filter.mpr ⟨List.mem_of_getElem? (i := 227) (by decide +kernel), by decide +kernel⟩
theorem xw_ins_X1_bits : Cond.instanceMethod yX1_bits ∈ xmTs := List.mem_filter.mpr ⟨List.mem_of_getElem? (i := 228) (by decide +kernel), by decide +kernel⟩
theorem xw_sel_X1_bits : Cond.selects yX1_bits.cls yX1_bits yX1_bits ∈ xmTs := List.mem_filter.mpr ⟨List.mem_of_getElem? (i := 229) (by decide +kernel), by decide +kernel⟩
theorem xw_cod_X1_bits : Cond.code yX1_bits cX1_bits 1 (some (FieldType.int)) ∈ xmTs := List.mem_filter.mpr ⟨List.mem_of_getElem? (i := 230) (by decide +kernel), by decide +kernel⟩
theorem xw_ml_X4_91 : Cond.methodLink RX4 91 yX1_noneCode ∈ xmTs := List.mem_filter.mpr ⟨List.mem_of_getElem? (i := 231) (by decide +kernel), by decide +kernel⟩
theorem xw_ins_X1_noneCode : Cond.instanceMethod yX1_noneCode ∈ xmTs := List.mem_filter.mpr ⟨List.mem_of_getElem? (i := 232) (by decide +kernel), by decide +kernel⟩
theorem xw_sel_X1_noneCode : Cond.selects yX1_noneCode.cls yX1_noneCode yX1_noneCode ∈ xmTs := List.mem_filter.mpr ⟨List.mem_of_getElem? (i := 233) (by decide +kernel), by decide +kernel⟩
theorem xw_cod_X1_noneCode : Cond.code yX1_noneCode cX1_noneCode 2 (some (FieldType.int)) ∈ xmTs := List.mem_filter.mpr ⟨List.mem_of_getElem? (i := 234) (by decide +kernel), by decide +kernel⟩
theorem xw_ml_X4_97 : Cond.methodLink RX4 97 yX1_beyond ∈ xmTs := List.mem_filter.mpr ⟨List.mem_of_getElem? (i := 235) (by decide +kernel), by decide +kernel⟩
theorem xw_ins_X1_beyond : Cond.instanceMethod yX1_beyond ∈ xmTs := List.mem_filter.mpr ⟨List.mem_of_getElem? (i := 236) (by decide +kernel), by decide +kernel⟩
theorem xw_sel_X1_beyond : Cond.selects yX1_beyond.cls yX1_beyond yX1_beyond ∈ xmTs := List.mem_filter.mpr ⟨List.mem_of_getElem? (i := 237) (by decide +kernel), by decide +kernel⟩
theorem xw_cod_X1_beyond : Cond.code yX1_beyond cX1_beyond 2 (some (FieldType.int)) ∈ xmTs := List.mem_filter.mpr ⟨List.mem_of_getElem? (i := 238) (by decide +kernel), by decide +kernel⟩
theorem xw_ml_X1_40 : Cond.methodLink RX1 40 yX1_noneCode ∈ xmTs := List.mem_filter.mpr ⟨List.mem_of_getElem? (i := 239) (by decide +kernel), by decide +kernel⟩
theorem xw_ml_X1_44 : Cond.methodLink RX1 44 yX1_withSign ∈ xmTs := List.mem_filter.mpr ⟨List.mem_of_getElem? (i := 240) (by decide +kernel), by decide +kernel⟩
theorem xw_ins_X1_withSign : Cond.instanceMethod yX1_withSign ∈ xmTs := List.mem_filter.mpr ⟨List.mem_of_getElem? (i := 241) (by decide +kernel), by decide +kernel⟩
theorem xw_sel_X1_withSign : Cond.selects yX1_withSign.cls yX1_withSign yX1_withSign ∈ xmTs := List.mem_filter.mpr ⟨List.mem_of_getElem? (i := 242) (by decide +kernel), by decide +kernel⟩
theorem xw_cod_X1_withSign : Cond.code yX1_withSign cX1_withSign 3 (some (FieldType.int)) ∈ xmTs := List.mem_filter.mpr ⟨List.mem_of_getElem? (i := 243) (by decide +kernel), by decide +kernel⟩
theorem xw_ml_X4_104 : Cond.methodLink RX4 104 yX1_scale ∈ xmTs := List.mem_filter.mpr ⟨List.mem_of_getElem? (i := 244) (by decide +kernel), by decide +kernel⟩
theorem xw_ins_X1_scale : Cond.instanceMethod yX1_scale ∈ xmTs := List.mem_filter.mpr ⟨List.mem_of_getElem? (i := 245) (by decide +kernel), by decide +kernel⟩
theorem xw_sel_X1_scale : Cond.selects yX1_scale.cls yX1_scale yX1_scale ∈ xmTs := List.mem_filter.mpr ⟨List.mem_of_getElem? (i := 246) (by decide +kernel), by decide +kernel⟩
theorem xw_cod_X1_scale : Cond.code yX1_scale cX1_scale 1 (some (FieldType.int)) ∈ xmTs := List.mem_filter.mpr ⟨List.mem_of_getElem? (i := 247) (by decide +kernel), by decide +kernel⟩
theorem xw_ml_L_23 : Cond.methodLink RL 23 yX4_kind ∈ xmTs := List.mem_filter.mpr ⟨List.mem_of_getElem? (i := 248) (by decide +kernel), by decide +kernel⟩
theorem xw_ins_X4_kind : Cond.instanceMethod yX4_kind ∈ xmTs := List.mem_filter.mpr ⟨List.mem_of_getElem? (i := 249) (by decide +kernel), by decide +kernel⟩
theorem xw_sel_X4_kind : Cond.selects yX4_kind.cls yX4_kind yX4_kind ∈ xmTs := List.mem_filter.mpr ⟨List.mem_of_getElem? (i := 250) (by decide +kernel), by decide +kernel⟩
theorem xw_cod_X4_kind : Cond.code yX4_kind cX4_kind 5 (some (FieldType.int)) ∈ xmTs := List.mem_filter.mpr ⟨List.mem_of_getElem? (i := 251) (by decide +kernel), by decide +kernel⟩
theorem xw_ml_X4_107 : Cond.methodLink RX4 107 yX1_hasCode ∈ xmTs := List.mem_filter.mpr ⟨List.mem_of_getElem? (i := 252) (by decide +kernel), by decide +kernel⟩
theorem xw_ins_X1_hasCode : Cond.instanceMethod yX1_hasCode ∈ xmTs := List.mem_filter.mpr ⟨List.mem_of_getElem? (i := 253) (by decide +kernel), by decide +kernel⟩
theorem xw_sel_X1_hasCode : Cond.selects yX1_hasCode.cls yX1_hasCode yX1_hasCode ∈ xmTs := List.mem_filter.mpr ⟨List.mem_of_getElem? (i := 254) (by decide +kernel), by decide +kernel⟩
theorem xw_cod_X1_hasCode : Cond.code yX1_hasCode cX1_hasCode 2 (some (FieldType.boolean)) ∈ xmTs := List.mem_filter.mpr ⟨List.mem_of_getElem? (i := 255) (by decide +kernel), by decide +kernel⟩
theorem xw_ml_X1_48 : Cond.methodLink RX1 48 yX1_bits ∈ xmTs := List.mem_filter.mpr ⟨List.mem_of_getElem? (i := 256) (by decide +kernel), by decide +kernel⟩
theorem xw_ml_X4_111 : Cond.methodLink RX4 111 yX1_isMinus ∈ xmTs := List.mem_filter.mpr ⟨List.mem_of_getElem? (i := 257) (by decide +kernel), by decide +kernel⟩
theorem xw_ins_X1_isMinus : Cond.instanceMethod yX1_isMinus ∈ xmTs := List.mem_filter.mpr ⟨List.mem_of_getElem? (i := 258) (by decide +kernel), by decide +kernel⟩
theorem xw_sel_X1_isMinus : Cond.selects yX1_isMinus.cls yX1_isMinus yX1_isMinus ∈ xmTs := List.mem_filter.mpr ⟨List.mem_of_getElem? (i := 259) (by decide +kernel), by decide +kernel⟩
theorem xw_cod_X1_isMinus : Cond.code yX1_isMinus cX1_isMinus 2 (some (FieldType.boolean)) ∈ xmTs := List.mem_filter.mpr ⟨List.mem_of_getElem? (i := 260) (by decide +kernel), by decide +kernel⟩
theorem xw_ml_X4_114 : Cond.methodLink RX4 114 yX1_kindOf ∈ xmTs := List.mem_filter.mpr ⟨List.mem_of_getElem? (i := 261) (by decide +kernel), by decide +kernel⟩
theorem xw_ins_X1_kindOf : Cond.instanceMethod yX1_kindOf ∈ xmTs := List.mem_filter.mpr ⟨List.mem_of_getElem? (i := 262) (by decide +kernel), by decide +kernel⟩
theorem xw_sel_X1_kindOf : Cond.selects yX1_kindOf.cls yX1_kindOf yX1_kindOf ∈ xmTs := List.mem_filter.mpr ⟨List.mem_of_getElem? (i := 263) (by decide +kernel), by decide +kernel⟩
theorem xw_cod_X1_kindOf : Cond.code yX1_kindOf cX1_kindOf 3 (some (FieldType.int)) ∈ xmTs := List.mem_filter.mpr ⟨List.mem_of_getElem? (i := 264) (by decide +kernel), by decide +kernel⟩
theorem xw_ml_X1_51 : Cond.methodLink RX1 51 yX1_magnitude ∈ xmTs := List.mem_filter.mpr ⟨List.mem_of_getElem? (i := 265) (by decide +kernel), by decide +kernel⟩
theorem xw_ins_X1_magnitude : Cond.instanceMethod yX1_magnitude ∈ xmTs := List.mem_filter.mpr ⟨List.mem_of_getElem? (i := 266) (by decide +kernel), by decide +kernel⟩
theorem xw_sel_X1_magnitude : Cond.selects yX1_magnitude.cls yX1_magnitude yX1_magnitude ∈ xmTs := List.mem_filter.mpr ⟨List.mem_of_getElem? (i := 267) (by decide +kernel), by decide +kernel⟩
theorem xw_cod_X1_magnitude : Cond.code yX1_magnitude cX1_magnitude 2 (some (FieldType.int)) ∈ xmTs := List.mem_filter.mpr ⟨List.mem_of_getElem? (i := 268) (by decide +kernel), by decide +kernel⟩
theorem xw_ml_X1_62 : Cond.methodLink RX1 62 yX1_isNone ∈ xmTs := List.mem_filter.mpr ⟨List.mem_of_getElem? (i := 269) (by decide +kernel), by decide +kernel⟩
theorem xw_ins_X1_isNone : Cond.instanceMethod yX1_isNone ∈ xmTs := List.mem_filter.mpr ⟨List.mem_of_getElem? (i := 270) (by decide +kernel), by decide +kernel⟩
theorem xw_sel_X1_isNone : Cond.selects yX1_isNone.cls yX1_isNone yX1_isNone ∈ xmTs := List.mem_filter.mpr ⟨List.mem_of_getElem? (i := 271) (by decide +kernel), by decide +kernel⟩
theorem xw_cod_X1_isNone : Cond.code yX1_isNone cX1_isNone 2 (some (FieldType.boolean)) ∈ xmTs := List.mem_filter.mpr ⟨List.mem_of_getElem? (i := 272) (by decide +kernel), by decide +kernel⟩
theorem xw_ml_X1_55 : Cond.methodLink RX1 55 yX1_isNumber ∈ xmTs := List.mem_filter.mpr ⟨List.mem_of_getElem? (i := 273) (by decide +kernel), by decide +kernel⟩
theorem xw_ins_X1_isNumber : Cond.instanceMethod yX1_isNumber ∈ xmTs := List.mem_filter.mpr ⟨List.mem_of_getElem? (i := 274) (by decide +kernel), by decide +kernel⟩
theorem xw_sel_X1_isNumber : Cond.selects yX1_isNumber.cls yX1_isNumber yX1_isNumber ∈ xmTs := List.mem_filter.mpr ⟨List.mem_of_getElem? (i := 275) (by decide +kernel), by decide +kernel⟩
theorem xw_cod_X1_isNumber : Cond.code yX1_isNumber cX1_isNumber 2 (some (FieldType.boolean)) ∈ xmTs := List.mem_filter.mpr ⟨List.mem_of_getElem? (i := 276) (by decide +kernel), by decide +kernel⟩
theorem xw_ml_X1_59 : Cond.methodLink RX1 59 yX1_isEndless ∈ xmTs := List.mem_filter.mpr ⟨List.mem_of_getElem? (i := 277) (by decide +kernel), by decide +kernel⟩
theorem xw_ins_X1_isEndless : Cond.instanceMethod yX1_isEndless ∈ xmTs := List.mem_filter.mpr ⟨List.mem_of_getElem? (i := 278) (by decide +kernel), by decide +kernel⟩
theorem xw_sel_X1_isEndless : Cond.selects yX1_isEndless.cls yX1_isEndless yX1_isEndless ∈ xmTs := List.mem_filter.mpr ⟨List.mem_of_getElem? (i := 279) (by decide +kernel), by decide +kernel⟩
theorem xw_cod_X1_isEndless : Cond.code yX1_isEndless cX1_isEndless 2 (some (FieldType.boolean)) ∈ xmTs := List.mem_filter.mpr ⟨List.mem_of_getElem? (i := 280) (by decide +kernel), by decide +kernel⟩
theorem xw_ml_L_28 : Cond.methodLink RL 28 yX4_units ∈ xmTs := List.mem_filter.mpr ⟨List.mem_of_getElem? (i := 281) (by decide +kernel), by decide +kernel⟩
theorem xw_ins_X4_units : Cond.instanceMethod yX4_units ∈ xmTs := List.mem_filter.mpr ⟨List.mem_of_getElem? (i := 282) (by decide +kernel), by decide +kernel⟩
theorem xw_sel_X4_units : Cond.selects yX4_units.cls yX4_units yX4_units ∈ xmTs := List.mem_filter.mpr ⟨List.mem_of_getElem? (i := 283) (by decide +kernel), by decide +kernel⟩
theorem xw_cod_X4_units : Cond.code yX4_units cX4_units 4 (some (FieldType.long)) ∈ xmTs := List.mem_filter.mpr ⟨List.mem_of_getElem? (i := 284) (by decide +kernel), by decide +kernel⟩
theorem xw_cst_X4_117 : Cond.constantLong RX4 117 (-9223372036854775808) ∈ xmTs := List.mem_filter.mpr ⟨List.mem_of_getElem? (i := 285) (by decide +kernel), by decide +kernel⟩
theorem xw_ml_X4_119 : Cond.methodLink RX4 119 yX1_isNumber ∈ xmTs := List.mem_filter.mpr ⟨List.mem_of_getElem? (i := 286) (by decide +kernel), by decide +kernel⟩
theorem xw_ml_X4_122 : Cond.methodLink RX4 122 yX1_unitsOf ∈ xmTs := List.mem_filter.mpr ⟨List.mem_of_getElem? (i := 287) (by decide +kernel), by decide +kernel⟩
theorem xw_ins_X1_unitsOf : Cond.instanceMethod yX1_unitsOf ∈ xmTs := List.mem_filter.mpr ⟨List.mem_of_getElem? (i := 288) (by decide +kernel), by decide +kernel⟩
theorem xw_sel_X1_unitsOf : Cond.selects yX1_unitsOf.cls yX1_unitsOf yX1_unitsOf ∈ xmTs := List.mem_filter.mpr ⟨List.mem_of_getElem? (i := 289) (by decide +kernel), by decide +kernel⟩
theorem xw_cod_X1_unitsOf : Cond.code yX1_unitsOf cX1_unitsOf 4 (some (FieldType.long)) ∈ xmTs := List.mem_filter.mpr ⟨List.mem_of_getElem? (i := 290) (by decide +kernel), by decide +kernel⟩
theorem xw_ml_X1_34 : Cond.methodLink RX1 34 yX1_unitsOfMagnitude ∈ xmTs := List.mem_filter.mpr ⟨List.mem_of_getElem? (i := 291) (by decide +kernel), by decide +kernel⟩
theorem xw_ins_X1_unitsOfMagnitude : Cond.instanceMethod yX1_unitsOfMagnitude ∈ xmTs := List.mem_filter.mpr ⟨List.mem_of_getElem? (i := 292) (by decide +kernel), by decide +kernel⟩
theorem xw_sel_X1_unitsOfMagnitude : Cond.selects yX1_unitsOfMagnitude.cls yX1_unitsOfMagnitude yX1_unitsOfMagnitude ∈ xmTs := List.mem_filter.mpr ⟨List.mem_of_getElem? (i := 293) (by decide +kernel), by decide +kernel⟩
theorem xw_cod_X1_unitsOfMagnitude : Cond.code yX1_unitsOfMagnitude cX1_unitsOfMagnitude 5 (some (FieldType.long)) ∈ xmTs := List.mem_filter.mpr ⟨List.mem_of_getElem? (i := 294) (by decide +kernel), by decide +kernel⟩
theorem xw_cst_X1_65 : Cond.constantLong RX1 65 (2) ∈ xmTs := List.mem_filter.mpr ⟨List.mem_of_getElem? (i := 295) (by decide +kernel), by decide +kernel⟩
theorem xw_ml_X1_67 : Cond.methodLink RX1 67 yX1_isMinus ∈ xmTs := List.mem_filter.mpr ⟨List.mem_of_getElem? (i := 296) (by decide +kernel), by decide +kernel⟩
theorem xw_ml_L_35 : Cond.methodLink RL 35 yX4_code ∈ xmTs := List.mem_filter.mpr ⟨List.mem_of_getElem? (i := 297) (by decide +kernel), by decide +kernel⟩
theorem xw_ins_X4_code : Cond.instanceMethod yX4_code ∈ xmTs := List.mem_filter.mpr ⟨List.mem_of_getElem? (i := 298) (by decide +kernel), by decide +kernel⟩
theorem xw_sel_X4_code : Cond.selects yX4_code.cls yX4_code yX4_code ∈ xmTs := List.mem_filter.mpr ⟨List.mem_of_getElem? (i := 299) (by decide +kernel), by decide +kernel⟩
theorem xw_cod_X4_code : Cond.code yX4_code cX4_code 8 (some (FieldType.int)) ∈ xmTs := List.mem_filter.mpr ⟨List.mem_of_getElem? (i := 300) (by decide +kernel), by decide +kernel⟩
theorem xw_cst_X4_126 : Cond.constantLong RX4 126 (-1099511627776) ∈ xmTs := List.mem_filter.mpr ⟨List.mem_of_getElem? (i := 301) (by decide +kernel), by decide +kernel⟩
theorem xw_cst_X4_128 : Cond.constantLong RX4 128 (1099511627776) ∈ xmTs := List.mem_filter.mpr ⟨List.mem_of_getElem? (i := 302) (by decide +kernel), by decide +kernel⟩
theorem xw_cst_X4_130 : Cond.constantLong RX4 130 (1048576) ∈ xmTs := List.mem_filter.mpr ⟨List.mem_of_getElem? (i := 303) (by decide +kernel), by decide +kernel⟩
theorem xw_ml_X4_132 : Cond.methodLink RX4 132 yX4_isMode ∈ xmTs := List.mem_filter.mpr ⟨List.mem_of_getElem? (i := 304) (by decide +kernel), by decide +kernel⟩
theorem xw_sta_X4_isMode : Cond.static yX4_isMode ∈ xmTs := List.mem_filter.mpr ⟨List.mem_of_getElem? (i := 305) (by decide +kernel), by decide +kernel⟩
theorem xw_cod_X4_isMode : Cond.code yX4_isMode cX4_isMode 1 (some (FieldType.boolean)) ∈ xmTs := List.mem_filter.mpr ⟨List.mem_of_getElem? (i := 306) (by decide +kernel), by decide +kernel⟩
theorem xw_ml_X4_138 : Cond.methodLink RX4 138 yX3_clear ∈ xmTs := List.mem_filter.mpr ⟨List.mem_of_getElem? (i := 307) (by decide +kernel), by decide +kernel⟩
theorem xw_ins_X3_clear : Cond.instanceMethod yX3_clear ∈ xmTs := List.mem_filter.mpr ⟨List.mem_of_getElem? (i := 308) (by decide +kernel), by decide +kernel⟩
theorem xw_sel_X3_clear : Cond.selects yX3_clear.cls yX3_clear yX3_clear ∈ xmTs := List.mem_filter.mpr ⟨List.mem_of_getElem? (i := 309) (by decide +kernel), by decide +kernel⟩
theorem xw_cod_X3_clear : Cond.code yX3_clear cX3_clear 1 none ∈ xmTs := List.mem_filter.mpr ⟨List.mem_of_getElem? (i := 310) (by decide +kernel), by decide +kernel⟩
theorem xw_ml_X4_141 : Cond.methodLink RX4 141 yX0_fraction ∈ xmTs := List.mem_filter.mpr ⟨List.mem_of_getElem? (i := 311) (by decide +kernel), by decide +kernel⟩
theorem xw_ins_X0_fraction : Cond.instanceMethod yX0_fraction ∈ xmTs := List.mem_filter.mpr ⟨List.mem_of_getElem? (i := 312) (by decide +kernel), by decide +kernel⟩
theorem xw_sel_X0_fraction : Cond.selects yX0_fraction.cls yX0_fraction yX0_fraction ∈ xmTs := List.mem_filter.mpr ⟨List.mem_of_getElem? (i := 313) (by decide +kernel), by decide +kernel⟩
theorem xw_cod_X0_fraction : Cond.code yX0_fraction cX0_fraction 7 (some (FieldType.int)) ∈ xmTs := List.mem_filter.mpr ⟨List.mem_of_getElem? (i := 314) (by decide +kernel), by decide +kernel⟩
theorem xw_ml_X0_71 : Cond.methodLink RX0 71 Lib.MathLoose.abs_long.x ∈ xmTs := List.mem_filter.mpr ⟨List.mem_of_getElem? (i := 315) (by decide +kernel), by decide +kernel⟩
theorem xw_sta_J9_abs_l : Cond.static Lib.MathLoose.abs_long.x ∈ xmTs := List.mem_filter.mpr ⟨List.mem_of_getElem? (i := 316) (by decide +kernel), by decide +kernel⟩
theorem xw_cod_J9_abs_l : Cond.code Lib.MathLoose.abs_long.x Lib.MathLoose.abs_long.code 2 (some (FieldType.long)) ∈ xmTs := List.mem_filter.mpr ⟨List.mem_of_getElem? (i := 317) (by decide +kernel), by decide +kernel⟩
theorem xw_ml_X0_77 : Cond.methodLink RX0 77 yX1_scale ∈ xmTs := List.mem_filter.mpr ⟨List.mem_of_getElem? (i := 318) (by decide +kernel), by decide +kernel⟩
theorem xw_ml_X0_80 : Cond.methodLink RX0 80 yX0_rounded ∈ xmTs := List.mem_filter.mpr ⟨List.mem_of_getElem? (i := 319) (by decide +kernel), by decide +kernel⟩
theorem xw_ins_X0_rounded : Cond.instanceMethod yX0_rounded ∈ xmTs := List.mem_filter.mpr ⟨List.mem_of_getElem? (i := 321) (by decide +kernel), by decide +kernel⟩
theorem xw_cod_X0_rounded : Cond.code yX0_rounded cX0_rounded 12 (some (FieldType.int)) ∈ xmTs := List.mem_filter.mpr ⟨List.mem_of_getElem? (i := 322) (by decide +kernel), by decide +kernel⟩
theorem xw_ml_X0_34 : Cond.methodLink RX0 34 yX0_greatestUpTo ∈ xmTs := List.mem_filter.mpr ⟨List.mem_of_getElem? (i := 323) (by decide +kernel), by decide +kernel⟩
theorem xw_sta_X0_greatestUpTo : Cond.static yX0_greatestUpTo ∈ xmTs := List.mem_filter.mpr ⟨List.mem_of_getElem? (i := 324) (by decide +kernel), by decide +kernel⟩
theorem xw_cod_X0_greatestUpTo : Cond.code yX0_greatestUpTo cX0_greatestUpTo 7 (some (FieldType.int)) ∈ xmTs := List.mem_filter.mpr ⟨List.mem_of_getElem? (i := 325) (by decide +kernel), by decide +kernel⟩
theorem xw_ml_X0_38 : Cond.methodLink RX0 38 yX1_unitsOfMagnitude ∈ xmTs := List.mem_filter.mpr ⟨List.mem_of_getElem? (i := 326) (by decide +kernel), by decide +kernel⟩
theorem xw_ml_X0_42 : Cond.methodLink RX0 42 yX1_withSign ∈ xmTs := List.mem_filter.mpr ⟨List.mem_of_getElem? (i := 327) (by decide +kernel), by decide +kernel⟩
theorem xw_cst_X0_52 : Cond.constantLong RX0 52 (2) ∈ xmTs := List.mem_filter.mpr ⟨List.mem_of_getElem? (i := 328) (by decide +kernel), by decide +kernel⟩
theorem xw_ml_X0_54 : Cond.methodLink RX0 54 yX1_twiceMiddleAbove ∈ xmTs := List.mem_filter.mpr ⟨List.mem_of_getElem? (i := 329) (by decide +kernel), by decide +kernel⟩
theorem xw_ins_X1_twiceMiddleAbove : Cond.instanceMethod yX1_twiceMiddleAbove ∈ xmTs := List.mem_filter.mpr ⟨List.mem_of_getElem? (i := 330) (by decide +kernel), by decide +kernel⟩
theorem xw_sel_X1_twiceMiddleAbove : Cond.selects yX1_twiceMiddleAbove.cls yX1_twiceMiddleAbove yX1_twiceMiddleAbove ∈ xmTs := List.mem_filter.mpr ⟨List.mem_of_getElem? (i := 331) (by decide +kernel), by decide +kernel⟩
theorem xw_cod_X1_twiceMiddleAbove : Cond.code yX1_twiceMiddleAbove cX1_twiceMiddleAbove 4 (some (FieldType.long)) ∈ xmTs := List.mem_filter.mpr ⟨List.mem_of_getElem? (i := 332) (by decide +kernel), by decide +kernel⟩
theorem xw_cst_X1_38 : Cond.constantLong RX1 38 (3) ∈ xmTs := List.mem_filter.mpr ⟨List.mem_of_getElem? (i := 333) (by decide +kernel), by decide +kernel⟩
theorem xw_ml_X0_57 : Cond.methodLink RX0 57 yJ13_compare_74951 ∈ xmTs := List.mem_filter.mpr ⟨List.mem_of_getElem? (i := 334) (by decide +kernel), by decide +kernel⟩
theorem xw_sta_J13_compare_74951 : Cond.static yJ13_compare_74951 ∈ xmTs := List.mem_filter.mpr ⟨List.mem_of_getElem? (i := 335) (by decide +kernel), by decide +kernel⟩
theorem xw_cod_J13_compare_74951 : Cond.code yJ13_compare_74951 cJ13_compare_74951 4 (some (FieldType.int)) ∈ xmTs := List.mem_filter.mpr ⟨List.mem_of_getElem? (i := 336) (by decide +kernel), by decide +kernel⟩
theorem xw_ml_X0_63 : Cond.methodLink RX0 63 yX0_goesOut ∈ xmTs := List.mem_filter.mpr ⟨List.mem_of_getElem? (i := 337) (by decide +kernel), by decide +kernel⟩
theorem xw_sta_X0_goesOut : Cond.static yX0_goesOut ∈ xmTs := List.mem_filter.mpr ⟨List.mem_of_getElem? (i := 338) (by decide +kernel), by decide +kernel⟩
theorem xw_cod_X0_goesOut : Cond.code yX0_goesOut cX0_goesOut 5 (some (FieldType.boolean)) ∈ xmTs := List.mem_filter.mpr ⟨List.mem_of_getElem? (i := 339) (by decide +kernel), by decide +kernel⟩
theorem xw_ml_X0_67 : Cond.methodLink RX0 67 yX1_beyond ∈ xmTs := List.mem_filter.mpr ⟨List.mem_of_getElem? (i := 340) (by decide +kernel), by decide +kernel⟩
theorem xw_ml_X4_145 : Cond.methodLink RX4 145 yX4_settled ∈ xmTs := List.mem_filter.mpr ⟨List.mem_of_getElem? (i := 341) (by decide +kernel), by decide +kernel⟩
theorem xw_ins_X4_settled : Cond.instanceMethod yX4_settled ∈ xmTs := List.mem_filter.mpr ⟨List.mem_of_getElem? (i := 343) (by decide +kernel), by decide +kernel⟩
theorem xw_cod_X4_settled : Cond.code yX4_settled cX4_settled 2 (some (FieldType.int)) ∈ xmTs := List.mem_filter.mpr ⟨List.mem_of_getElem? (i := 344) (by decide +kernel), by decide +kernel⟩
theorem xw_ml_X4_235 : Cond.methodLink RX4 235 yX3_add ∈ xmTs := List.mem_filter.mpr ⟨List.mem_of_getElem? (i := 345) (by decide +kernel), by decide +kernel⟩
theorem xw_ins_X3_add : Cond.instanceMethod yX3_add ∈ xmTs := List.mem_filter.mpr ⟨List.mem_of_getElem? (i := 346) (by decide +kernel), by decide +kernel⟩
theorem xw_sel_X3_add : Cond.selects yX3_add.cls yX3_add yX3_add ∈ xmTs := List.mem_filter.mpr ⟨List.mem_of_getElem? (i := 347) (by decide +kernel), by decide +kernel⟩
theorem xw_cod_X3_add : Cond.code yX3_add cX3_add 2 none ∈ xmTs := List.mem_filter.mpr ⟨List.mem_of_getElem? (i := 348) (by decide +kernel), by decide +kernel⟩
theorem xw_ml_L_40 : Cond.methodLink RL 40 yX4_cross ∈ xmTs := List.mem_filter.mpr ⟨List.mem_of_getElem? (i := 349) (by decide +kernel), by decide +kernel⟩
theorem xw_ins_X4_cross : Cond.instanceMethod yX4_cross ∈ xmTs := List.mem_filter.mpr ⟨List.mem_of_getElem? (i := 350) (by decide +kernel), by decide +kernel⟩
theorem xw_sel_X4_cross : Cond.selects yX4_cross.cls yX4_cross yX4_cross ∈ xmTs := List.mem_filter.mpr ⟨List.mem_of_getElem? (i := 351) (by decide +kernel), by decide +kernel⟩
theorem xw_cod_X4_cross : Cond.code yX4_cross cX4_cross 7 (some (FieldType.int)) ∈ xmTs := List.mem_filter.mpr ⟨List.mem_of_getElem? (i := 352) (by decide +kernel), by decide +kernel⟩
theorem xw_ml_X4_148 : Cond.methodLink RX4 148 yX0_crossed ∈ xmTs := List.mem_filter.mpr ⟨List.mem_of_getElem? (i := 353) (by decide +kernel), by decide +kernel⟩
theorem xw_ins_X0_crossed : Cond.instanceMethod yX0_crossed ∈ xmTs := List.mem_filter.mpr ⟨List.mem_of_getElem? (i := 354) (by decide +kernel), by decide +kernel⟩
theorem xw_sel_X0_crossed : Cond.selects yX0_crossed.cls yX0_crossed yX0_crossed ∈ xmTs := List.mem_filter.mpr ⟨List.mem_of_getElem? (i := 355) (by decide +kernel), by decide +kernel⟩
theorem xw_cod_X0_crossed : Cond.code yX0_crossed cX0_crossed 10 (some (FieldType.int)) ∈ xmTs := List.mem_filter.mpr ⟨List.mem_of_getElem? (i := 356) (by decide +kernel), by decide +kernel⟩
theorem xw_ml_X0_84 : Cond.methodLink RX0 84 yX1_sizeOf ∈ xmTs := List.mem_filter.mpr ⟨List.mem_of_getElem? (i := 357) (by decide +kernel), by decide +kernel⟩
theorem xw_ins_X1_sizeOf : Cond.instanceMethod yX1_sizeOf ∈ xmTs := List.mem_filter.mpr ⟨List.mem_of_getElem? (i := 358) (by decide +kernel), by decide +kernel⟩
theorem xw_sel_X1_sizeOf : Cond.selects yX1_sizeOf.cls yX1_sizeOf yX1_sizeOf ∈ xmTs := List.mem_filter.mpr ⟨List.mem_of_getElem? (i := 359) (by decide +kernel), by decide +kernel⟩
theorem xw_cod_X1_sizeOf : Cond.code yX1_sizeOf cX1_sizeOf 3 (some (FieldType.long)) ∈ xmTs := List.mem_filter.mpr ⟨List.mem_of_getElem? (i := 360) (by decide +kernel), by decide +kernel⟩
theorem xw_cst_X1_70 : Cond.constantLong RX1 70 (-1) ∈ xmTs := List.mem_filter.mpr ⟨List.mem_of_getElem? (i := 361) (by decide +kernel), by decide +kernel⟩
theorem xw_cst_X1_72 : Cond.constantLong RX1 72 (-2) ∈ xmTs := List.mem_filter.mpr ⟨List.mem_of_getElem? (i := 362) (by decide +kernel), by decide +kernel⟩
theorem xw_ml_X0_87 : Cond.methodLink RX0 87 yX1_isMinus ∈ xmTs := List.mem_filter.mpr ⟨List.mem_of_getElem? (i := 363) (by decide +kernel), by decide +kernel⟩
theorem xw_cst_X0_91 : Cond.constantLong RX0 91 (-2) ∈ xmTs := List.mem_filter.mpr ⟨List.mem_of_getElem? (i := 364) (by decide +kernel), by decide +kernel⟩
theorem xw_ml_X0_22 : Cond.methodLink RX0 22 yX1_noneCode ∈ xmTs := List.mem_filter.mpr ⟨List.mem_of_getElem? (i := 365) (by decide +kernel), by decide +kernel⟩
theorem xw_ml_X0_93 : Cond.methodLink RX0 93 yX0_invalid ∈ xmTs := List.mem_filter.mpr ⟨List.mem_of_getElem? (i := 366) (by decide +kernel), by decide +kernel⟩
theorem xw_ins_X0_invalid : Cond.instanceMethod yX0_invalid ∈ xmTs := List.mem_filter.mpr ⟨List.mem_of_getElem? (i := 368) (by decide +kernel), by decide +kernel⟩
theorem xw_cod_X0_invalid : Cond.code yX0_invalid cX0_invalid 3 (some (FieldType.int)) ∈ xmTs := List.mem_filter.mpr ⟨List.mem_of_getElem? (i := 369) (by decide +kernel), by decide +kernel⟩
theorem xw_cst_X0_96 : Cond.constantLong RX0 96 (-1) ∈ xmTs := List.mem_filter.mpr ⟨List.mem_of_getElem? (i := 370) (by decide +kernel), by decide +kernel⟩
theorem xw_ml_X0_98 : Cond.methodLink RX0 98 Lib.Math.max.name ∈ xmTs := List.mem_filter.mpr ⟨List.mem_of_getElem? (i := 371) (by decide +kernel), by decide +kernel⟩
theorem xw_sta_J9_max_i : Cond.static Lib.Math.max.name ∈ xmTs := List.mem_filter.mpr ⟨List.mem_of_getElem? (i := 372) (by decide +kernel), by decide +kernel⟩
theorem xw_cod_J9_max_i : Cond.code Lib.Math.max.name Lib.Math.max.code 2 (some (FieldType.int)) ∈ xmTs := List.mem_filter.mpr ⟨List.mem_of_getElem? (i := 373) (by decide +kernel), by decide +kernel⟩
theorem xw_ml_L_45 : Cond.methodLink RL 45 yX4_act ∈ xmTs := List.mem_filter.mpr ⟨List.mem_of_getElem? (i := 374) (by decide +kernel), by decide +kernel⟩
theorem xw_ins_X4_act : Cond.instanceMethod yX4_act ∈ xmTs := List.mem_filter.mpr ⟨List.mem_of_getElem? (i := 375) (by decide +kernel), by decide +kernel⟩
theorem xw_sel_X4_act : Cond.selects yX4_act.cls yX4_act yX4_act ∈ xmTs := List.mem_filter.mpr ⟨List.mem_of_getElem? (i := 376) (by decide +kernel), by decide +kernel⟩
theorem xw_cod_X4_act : Cond.code yX4_act cX4_act 7 (some (FieldType.int)) ∈ xmTs := List.mem_filter.mpr ⟨List.mem_of_getElem? (i := 377) (by decide +kernel), by decide +kernel⟩
theorem xw_ml_X4_152 : Cond.methodLink RX4 152 yX0_acted ∈ xmTs := List.mem_filter.mpr ⟨List.mem_of_getElem? (i := 378) (by decide +kernel), by decide +kernel⟩
theorem xw_ins_X0_acted : Cond.instanceMethod yX0_acted ∈ xmTs := List.mem_filter.mpr ⟨List.mem_of_getElem? (i := 379) (by decide +kernel), by decide +kernel⟩
theorem xw_sel_X0_acted : Cond.selects yX0_acted.cls yX0_acted yX0_acted ∈ xmTs := List.mem_filter.mpr ⟨List.mem_of_getElem? (i := 380) (by decide +kernel), by decide +kernel⟩
theorem xw_cod_X0_acted : Cond.code yX0_acted cX0_acted 6 (some (FieldType.int)) ∈ xmTs := List.mem_filter.mpr ⟨List.mem_of_getElem? (i := 381) (by decide +kernel), by decide +kernel⟩
theorem xw_ml_X0_102 : Cond.methodLink RX0 102 yX1_isNone ∈ xmTs := List.mem_filter.mpr ⟨List.mem_of_getElem? (i := 382) (by decide +kernel), by decide +kernel⟩
theorem xw_ml_X0_105 : Cond.methodLink RX0 105 yX0_added ∈ xmTs := List.mem_filter.mpr ⟨List.mem_of_getElem? (i := 383) (by decide +kernel), by decide +kernel⟩
theorem xw_ins_X0_added : Cond.instanceMethod yX0_added ∈ xmTs := List.mem_filter.mpr ⟨List.mem_of_getElem? (i := 385) (by decide +kernel), by decide +kernel⟩
theorem xw_cod_X0_added : Cond.code yX0_added cX0_added 14 (some (FieldType.int)) ∈ xmTs := List.mem_filter.mpr ⟨List.mem_of_getElem? (i := 386) (by decide +kernel), by decide +kernel⟩
theorem xw_ml_X0_126 : Cond.methodLink RX0 126 yX0_endlessOfSum ∈ xmTs := List.mem_filter.mpr ⟨List.mem_of_getElem? (i := 387) (by decide +kernel), by decide +kernel⟩
theorem xw_ins_X0_endlessOfSum : Cond.instanceMethod yX0_endlessOfSum ∈ xmTs := List.mem_filter.mpr ⟨List.mem_of_getElem? (i := 389) (by decide +kernel), by decide +kernel⟩
theorem xw_cod_X0_endlessOfSum : Cond.code yX0_endlessOfSum cX0_endlessOfSum 10 (some (FieldType.int)) ∈ xmTs := List.mem_filter.mpr ⟨List.mem_of_getElem? (i := 390) (by decide +kernel), by decide +kernel⟩
theorem xw_ml_X0_130 : Cond.methodLink RX0 130 yX0_signed ∈ xmTs := List.mem_filter.mpr ⟨List.mem_of_getElem? (i := 391) (by decide +kernel), by decide +kernel⟩
theorem xw_sta_X0_signed : Cond.static yX0_signed ∈ xmTs := List.mem_filter.mpr ⟨List.mem_of_getElem? (i := 392) (by decide +kernel), by decide +kernel⟩
theorem xw_cod_X0_signed : Cond.code yX0_signed cX0_signed 3 (some (FieldType.long)) ∈ xmTs := List.mem_filter.mpr ⟨List.mem_of_getElem? (i := 393) (by decide +kernel), by decide +kernel⟩
theorem xw_ml_X0_109 : Cond.methodLink RX0 109 yX0_multiplied ∈ xmTs := List.mem_filter.mpr ⟨List.mem_of_getElem? (i := 394) (by decide +kernel), by decide +kernel⟩
theorem xw_ins_X0_multiplied : Cond.instanceMethod yX0_multiplied ∈ xmTs := List.mem_filter.mpr ⟨List.mem_of_getElem? (i := 396) (by decide +kernel), by decide +kernel⟩
theorem xw_cod_X0_multiplied : Cond.code yX0_multiplied cX0_multiplied 8 (some (FieldType.int)) ∈ xmTs := List.mem_filter.mpr ⟨List.mem_of_getElem? (i := 397) (by decide +kernel), by decide +kernel⟩
theorem xw_ml_X0_134 : Cond.methodLink RX0 134 yX1_sizeOfProduct ∈ xmTs := List.mem_filter.mpr ⟨List.mem_of_getElem? (i := 398) (by decide +kernel), by decide +kernel⟩
theorem xw_ins_X1_sizeOfProduct : Cond.instanceMethod yX1_sizeOfProduct ∈ xmTs := List.mem_filter.mpr ⟨List.mem_of_getElem? (i := 399) (by decide +kernel), by decide +kernel⟩
theorem xw_sel_X1_sizeOfProduct : Cond.selects yX1_sizeOfProduct.cls yX1_sizeOfProduct yX1_sizeOfProduct ∈ xmTs := List.mem_filter.mpr ⟨List.mem_of_getElem? (i := 400) (by decide +kernel), by decide +kernel⟩
theorem xw_cod_X1_sizeOfProduct : Cond.code yX1_sizeOfProduct cX1_sizeOfProduct 7 (some (FieldType.long)) ∈ xmTs := List.mem_filter.mpr ⟨List.mem_of_getElem? (i := 401) (by decide +kernel), by decide +kernel⟩
theorem xw_ml_X1_74 : Cond.methodLink RX1 74 yX1_sizeOf ∈ xmTs := List.mem_filter.mpr ⟨List.mem_of_getElem? (i := 402) (by decide +kernel), by decide +kernel⟩
theorem xw_cst_X1_77 : Cond.constantLong RX1 77 (-3) ∈ xmTs := List.mem_filter.mpr ⟨List.mem_of_getElem? (i := 403) (by decide +kernel), by decide +kernel⟩
theorem xw_cst_X0_138 : Cond.constantLong RX0 138 (-3) ∈ xmTs := List.mem_filter.mpr ⟨List.mem_of_getElem? (i := 404) (by decide +kernel), by decide +kernel⟩
theorem xw_ml_X0_113 : Cond.methodLink RX0 113 yX0_divided ∈ xmTs := List.mem_filter.mpr ⟨List.mem_of_getElem? (i := 405) (by decide +kernel), by decide +kernel⟩
theorem xw_ins_X0_divided : Cond.instanceMethod yX0_divided ∈ xmTs := List.mem_filter.mpr ⟨List.mem_of_getElem? (i := 407) (by decide +kernel), by decide +kernel⟩
theorem xw_cod_X0_divided : Cond.code yX0_divided cX0_divided 10 (some (FieldType.int)) ∈ xmTs := List.mem_filter.mpr ⟨List.mem_of_getElem? (i := 408) (by decide +kernel), by decide +kernel⟩
theorem xw_ml_X0_116 : Cond.methodLink RX0 116 yX0_rootOf ∈ xmTs := List.mem_filter.mpr ⟨List.mem_of_getElem? (i := 409) (by decide +kernel), by decide +kernel⟩
theorem xw_ins_X0_rootOf : Cond.instanceMethod yX0_rootOf ∈ xmTs := List.mem_filter.mpr ⟨List.mem_of_getElem? (i := 411) (by decide +kernel), by decide +kernel⟩
theorem xw_cod_X0_rootOf : Cond.code yX0_rootOf cX0_rootOf 12 (some (FieldType.int)) ∈ xmTs := List.mem_filter.mpr ⟨List.mem_of_getElem? (i := 412) (by decide +kernel), by decide +kernel⟩
theorem xw_cst_X0_140 : Cond.constantLong RX0 140 (4) ∈ xmTs := List.mem_filter.mpr ⟨List.mem_of_getElem? (i := 413) (by decide +kernel), by decide +kernel⟩
theorem xw_ml_X0_142 : Cond.methodLink RX0 142 yX0_wholeRoot ∈ xmTs := List.mem_filter.mpr ⟨List.mem_of_getElem? (i := 414) (by decide +kernel), by decide +kernel⟩
theorem xw_sta_X0_wholeRoot : Cond.static yX0_wholeRoot ∈ xmTs := List.mem_filter.mpr ⟨List.mem_of_getElem? (i := 415) (by decide +kernel), by decide +kernel⟩
theorem xw_cod_X0_wholeRoot : Cond.code yX0_wholeRoot cX0_wholeRoot 6 (some (FieldType.long)) ∈ xmTs := List.mem_filter.mpr ⟨List.mem_of_getElem? (i := 416) (by decide +kernel), by decide +kernel⟩
theorem xw_cst_X0_145 : Cond.constantLong RX0 145 (2097152) ∈ xmTs := List.mem_filter.mpr ⟨List.mem_of_getElem? (i := 417) (by decide +kernel), by decide +kernel⟩
theorem xw_ml_X0_120 : Cond.methodLink RX0 120 yX1_lesser ∈ xmTs := List.mem_filter.mpr ⟨List.mem_of_getElem? (i := 418) (by decide +kernel), by decide +kernel⟩
theorem xw_ins_X1_lesser : Cond.instanceMethod yX1_lesser ∈ xmTs := List.mem_filter.mpr ⟨List.mem_of_getElem? (i := 419) (by decide +kernel), by decide +kernel⟩
theorem xw_sel_X1_lesser : Cond.selects yX1_lesser.cls yX1_lesser yX1_lesser ∈ xmTs := List.mem_filter.mpr ⟨List.mem_of_getElem? (i := 420) (by decide +kernel), by decide +kernel⟩
theorem xw_cod_X1_lesser : Cond.code yX1_lesser cX1_lesser 3 (some (FieldType.int)) ∈ xmTs := List.mem_filter.mpr ⟨List.mem_of_getElem? (i := 421) (by decide +kernel), by decide +kernel⟩
theorem xw_ml_X1_79 : Cond.methodLink RX1 79 yX1_rank ∈ xmTs := List.mem_filter.mpr ⟨List.mem_of_getElem? (i := 422) (by decide +kernel), by decide +kernel⟩
theorem xw_ins_X1_rank : Cond.instanceMethod yX1_rank ∈ xmTs := List.mem_filter.mpr ⟨List.mem_of_getElem? (i := 423) (by decide +kernel), by decide +kernel⟩
theorem xw_sel_X1_rank : Cond.selects yX1_rank.cls yX1_rank yX1_rank ∈ xmTs := List.mem_filter.mpr ⟨List.mem_of_getElem? (i := 424) (by decide +kernel), by decide +kernel⟩
theorem xw_cod_X1_rank : Cond.code yX1_rank cX1_rank 2 (some (FieldType.int)) ∈ xmTs := List.mem_filter.mpr ⟨List.mem_of_getElem? (i := 425) (by decide +kernel), by decide +kernel⟩
theorem xw_ml_X0_123 : Cond.methodLink RX0 123 yX1_greater ∈ xmTs := List.mem_filter.mpr ⟨List.mem_of_getElem? (i := 426) (by decide +kernel), by decide +kernel⟩
theorem xw_ins_X1_greater : Cond.instanceMethod yX1_greater ∈ xmTs := List.mem_filter.mpr ⟨List.mem_of_getElem? (i := 427) (by decide +kernel), by decide +kernel⟩
theorem xw_sel_X1_greater : Cond.selects yX1_greater.cls yX1_greater yX1_greater ∈ xmTs := List.mem_filter.mpr ⟨List.mem_of_getElem? (i := 428) (by decide +kernel), by decide +kernel⟩
theorem xw_cod_X1_greater : Cond.code yX1_greater cX1_greater 3 (some (FieldType.int)) ∈ xmTs := List.mem_filter.mpr ⟨List.mem_of_getElem? (i := 429) (by decide +kernel), by decide +kernel⟩
theorem xw_ml_L_50 : Cond.methodLink RL 50 yX4_fused ∈ xmTs := List.mem_filter.mpr ⟨List.mem_of_getElem? (i := 430) (by decide +kernel), by decide +kernel⟩
theorem xw_ins_X4_fused : Cond.instanceMethod yX4_fused ∈ xmTs := List.mem_filter.mpr ⟨List.mem_of_getElem? (i := 431) (by decide +kernel), by decide +kernel⟩
theorem xw_sel_X4_fused : Cond.selects yX4_fused.cls yX4_fused yX4_fused ∈ xmTs := List.mem_filter.mpr ⟨List.mem_of_getElem? (i := 432) (by decide +kernel), by decide +kernel⟩
theorem xw_cod_X4_fused : Cond.code yX4_fused cX4_fused 7 (some (FieldType.int)) ∈ xmTs := List.mem_filter.mpr ⟨List.mem_of_getElem? (i := 433) (by decide +kernel), by decide +kernel⟩
theorem xw_ml_X4_156 : Cond.methodLink RX4 156 yX0_fusedOf ∈ xmTs := List.mem_filter.mpr ⟨List.mem_of_getElem? (i := 434) (by decide +kernel), by decide +kernel⟩
theorem xw_ins_X0_fusedOf : Cond.instanceMethod yX0_fusedOf ∈ xmTs := List.mem_filter.mpr ⟨List.mem_of_getElem? (i := 435) (by decide +kernel), by decide +kernel⟩
theorem xw_sel_X0_fusedOf : Cond.selects yX0_fusedOf.cls yX0_fusedOf yX0_fusedOf ∈ xmTs := List.mem_filter.mpr ⟨List.mem_of_getElem? (i := 436) (by decide +kernel), by decide +kernel⟩
theorem xw_cod_X0_fusedOf : Cond.code yX0_fusedOf cX0_fusedOf 15 (some (FieldType.int)) ∈ xmTs := List.mem_filter.mpr ⟨List.mem_of_getElem? (i := 437) (by decide +kernel), by decide +kernel⟩
theorem xw_ml_L_54 : Cond.methodLink RL 54 yX4_next ∈ xmTs := List.mem_filter.mpr ⟨List.mem_of_getElem? (i := 438) (by decide +kernel), by decide +kernel⟩
theorem xw_ins_X4_next : Cond.instanceMethod yX4_next ∈ xmTs := List.mem_filter.mpr ⟨List.mem_of_getElem? (i := 439) (by decide +kernel), by decide +kernel⟩
theorem xw_sel_X4_next : Cond.selects yX4_next.cls yX4_next yX4_next ∈ xmTs := List.mem_filter.mpr ⟨List.mem_of_getElem? (i := 440) (by decide +kernel), by decide +kernel⟩
theorem xw_cod_X4_next : Cond.code yX4_next cX4_next 5 (some (FieldType.int)) ∈ xmTs := List.mem_filter.mpr ⟨List.mem_of_getElem? (i := 441) (by decide +kernel), by decide +kernel⟩
theorem xw_ml_X4_159 : Cond.methodLink RX4 159 yX1_neighbour ∈ xmTs := List.mem_filter.mpr ⟨List.mem_of_getElem? (i := 442) (by decide +kernel), by decide +kernel⟩
theorem xw_ins_X1_neighbour : Cond.instanceMethod yX1_neighbour ∈ xmTs := List.mem_filter.mpr ⟨List.mem_of_getElem? (i := 443) (by decide +kernel), by decide +kernel⟩
theorem xw_sel_X1_neighbour : Cond.selects yX1_neighbour.cls yX1_neighbour yX1_neighbour ∈ xmTs := List.mem_filter.mpr ⟨List.mem_of_getElem? (i := 444) (by decide +kernel), by decide +kernel⟩
theorem xw_cod_X1_neighbour : Cond.code yX1_neighbour cX1_neighbour 6 (some (FieldType.int)) ∈ xmTs := List.mem_filter.mpr ⟨List.mem_of_getElem? (i := 445) (by decide +kernel), by decide +kernel⟩
theorem xw_ml_X1_82 : Cond.methodLink RX1 82 Lib.Math.abs.name ∈ xmTs := List.mem_filter.mpr ⟨List.mem_of_getElem? (i := 446) (by decide +kernel), by decide +kernel⟩
theorem xw_sta_J9_abs_i : Cond.static Lib.Math.abs.name ∈ xmTs := List.mem_filter.mpr ⟨List.mem_of_getElem? (i := 447) (by decide +kernel), by decide +kernel⟩
theorem xw_cod_J9_abs_i : Cond.code Lib.Math.abs.name Lib.Math.abs.code 1 (some (FieldType.int)) ∈ xmTs := List.mem_filter.mpr ⟨List.mem_of_getElem? (i := 448) (by decide +kernel), by decide +kernel⟩
theorem xw_ml_L_59 : Cond.methodLink RL 59 yX4_order ∈ xmTs := List.mem_filter.mpr ⟨List.mem_of_getElem? (i := 449) (by decide +kernel), by decide +kernel⟩
theorem xw_ins_X4_order : Cond.instanceMethod yX4_order ∈ xmTs := List.mem_filter.mpr ⟨List.mem_of_getElem? (i := 450) (by decide +kernel), by decide +kernel⟩
theorem xw_sel_X4_order : Cond.selects yX4_order.cls yX4_order yX4_order ∈ xmTs := List.mem_filter.mpr ⟨List.mem_of_getElem? (i := 451) (by decide +kernel), by decide +kernel⟩
theorem xw_cod_X4_order : Cond.code yX4_order cX4_order 5 (some (FieldType.int)) ∈ xmTs := List.mem_filter.mpr ⟨List.mem_of_getElem? (i := 452) (by decide +kernel), by decide +kernel⟩
theorem xw_ml_X4_163 : Cond.methodLink RX4 163 yX1_isNone ∈ xmTs := List.mem_filter.mpr ⟨List.mem_of_getElem? (i := 453) (by decide +kernel), by decide +kernel⟩
theorem xw_ml_X4_166 : Cond.methodLink RX4 166 yX1_rank ∈ xmTs := List.mem_filter.mpr ⟨List.mem_of_getElem? (i := 454) (by decide +kernel), by decide +kernel⟩
theorem xw_ml_X4_169 : Cond.methodLink RX4 169 yJ6_compare_7cf53 ∈ xmTs := List.mem_filter.mpr ⟨List.mem_of_getElem? (i := 455) (by decide +kernel), by decide +kernel⟩
theorem xw_sta_J6_compare_7cf53 : Cond.static yJ6_compare_7cf53 ∈ xmTs := List.mem_filter.mpr ⟨List.mem_of_getElem? (i := 456) (by decide +kernel), by decide +kernel⟩
theorem xw_cod_J6_compare_7cf53 : Cond.code yJ6_compare_7cf53 cJ6_compare_7cf53 2 (some (FieldType.int)) ∈ xmTs := List.mem_filter.mpr ⟨List.mem_of_getElem? (i := 457) (by decide +kernel), by decide +kernel⟩
theorem xw_ml_L_63 : Cond.methodLink RL 63 yX4_numbers ∈ xmTs := List.mem_filter.mpr ⟨List.mem_of_getElem? (i := 458) (by decide +kernel), by decide +kernel⟩
theorem xw_ins_X4_numbers : Cond.instanceMethod yX4_numbers ∈ xmTs := List.mem_filter.mpr ⟨List.mem_of_getElem? (i := 459) (by decide +kernel), by decide +kernel⟩
theorem xw_sel_X4_numbers : Cond.selects yX4_numbers.cls yX4_numbers yX4_numbers ∈ xmTs := List.mem_filter.mpr ⟨List.mem_of_getElem? (i := 460) (by decide +kernel), by decide +kernel⟩
theorem xw_cod_X4_numbers : Cond.code yX4_numbers cX4_numbers 7 (some (FieldType.int)) ∈ xmTs := List.mem_filter.mpr ⟨List.mem_of_getElem? (i := 461) (by decide +kernel), by decide +kernel⟩
theorem xw_ml_X4_175 : Cond.methodLink RX4 175 yX1_numbersBetween ∈ xmTs := List.mem_filter.mpr ⟨List.mem_of_getElem? (i := 462) (by decide +kernel), by decide +kernel⟩
theorem xw_ins_X1_numbersBetween : Cond.instanceMethod yX1_numbersBetween ∈ xmTs := List.mem_filter.mpr ⟨List.mem_of_getElem? (i := 463) (by decide +kernel), by decide +kernel⟩
theorem xw_sel_X1_numbersBetween : Cond.selects yX1_numbersBetween.cls yX1_numbersBetween yX1_numbersBetween ∈ xmTs := List.mem_filter.mpr ⟨List.mem_of_getElem? (i := 464) (by decide +kernel), by decide +kernel⟩
theorem xw_cod_X1_numbersBetween : Cond.code yX1_numbersBetween cX1_numbersBetween 13 (some (FieldType.int)) ∈ xmTs := List.mem_filter.mpr ⟨List.mem_of_getElem? (i := 465) (by decide +kernel), by decide +kernel⟩
theorem xw_cst_X1_87 : Cond.constantLong RX1 87 (1099511627776) ∈ xmTs := List.mem_filter.mpr ⟨List.mem_of_getElem? (i := 466) (by decide +kernel), by decide +kernel⟩
theorem xw_ml_X1_89 : Cond.methodLink RX1 89 Lib.MathLoose.min_long.x ∈ xmTs := List.mem_filter.mpr ⟨List.mem_of_getElem? (i := 467) (by decide +kernel), by decide +kernel⟩
theorem xw_sta_J9_min_l : Cond.static Lib.MathLoose.min_long.x ∈ xmTs := List.mem_filter.mpr ⟨List.mem_of_getElem? (i := 468) (by decide +kernel), by decide +kernel⟩
theorem xw_cod_J9_min_l : Cond.code Lib.MathLoose.min_long.x Lib.MathLoose.min_long.code 4 (some (FieldType.long)) ∈ xmTs := List.mem_filter.mpr ⟨List.mem_of_getElem? (i := 469) (by decide +kernel), by decide +kernel⟩
theorem xw_ml_X1_93 : Cond.methodLink RX1 93 Lib.MathLoose.max_long.x ∈ xmTs := List.mem_filter.mpr ⟨List.mem_of_getElem? (i := 470) (by decide +kernel), by decide +kernel⟩
theorem xw_sta_J9_max_l : Cond.static Lib.MathLoose.max_long.x ∈ xmTs := List.mem_filter.mpr ⟨List.mem_of_getElem? (i := 471) (by decide +kernel), by decide +kernel⟩
theorem xw_cod_J9_max_l : Cond.code Lib.MathLoose.max_long.x Lib.MathLoose.max_long.code 4 (some (FieldType.long)) ∈ xmTs := List.mem_filter.mpr ⟨List.mem_of_getElem? (i := 472) (by decide +kernel), by decide +kernel⟩
theorem xw_ml_X1_96 : Cond.methodLink RX1 96 yX1_magnitudesUpTo ∈ xmTs := List.mem_filter.mpr ⟨List.mem_of_getElem? (i := 473) (by decide +kernel), by decide +kernel⟩
theorem xw_ins_X1_magnitudesUpTo : Cond.instanceMethod yX1_magnitudesUpTo ∈ xmTs := List.mem_filter.mpr ⟨List.mem_of_getElem? (i := 475) (by decide +kernel), by decide +kernel⟩
theorem xw_cod_X1_magnitudesUpTo : Cond.code yX1_magnitudesUpTo cX1_magnitudesUpTo 5 (some (FieldType.int)) ∈ xmTs := List.mem_filter.mpr ⟨List.mem_of_getElem? (i := 476) (by decide +kernel), by decide +kernel⟩
theorem xw_ml_L_68 : Cond.methodLink RL 68 yX4_row ∈ xmTs := List.mem_filter.mpr ⟨List.mem_of_getElem? (i := 477) (by decide +kernel), by decide +kernel⟩
theorem xw_ins_X4_row : Cond.instanceMethod yX4_row ∈ xmTs := List.mem_filter.mpr ⟨List.mem_of_getElem? (i := 478) (by decide +kernel), by decide +kernel⟩
theorem xw_sel_X4_row : Cond.selects yX4_row.cls yX4_row yX4_row ∈ xmTs := List.mem_filter.mpr ⟨List.mem_of_getElem? (i := 479) (by decide +kernel), by decide +kernel⟩
theorem xw_cod_X4_row : Cond.code yX4_row cX4_row 5 (some (FieldType.int)) ∈ xmTs := List.mem_filter.mpr ⟨List.mem_of_getElem? (i := 480) (by decide +kernel), by decide +kernel⟩
theorem xw_ml_X4_179 : Cond.methodLink RX4 179 yX2_become ∈ xmTs := List.mem_filter.mpr ⟨List.mem_of_getElem? (i := 481) (by decide +kernel), by decide +kernel⟩
theorem xw_ins_X2_become : Cond.instanceMethod yX2_become ∈ xmTs := List.mem_filter.mpr ⟨List.mem_of_getElem? (i := 482) (by decide +kernel), by decide +kernel⟩
theorem xw_sel_X2_become : Cond.selects yX2_become.cls yX2_become yX2_become ∈ xmTs := List.mem_filter.mpr ⟨List.mem_of_getElem? (i := 483) (by decide +kernel), by decide +kernel⟩
theorem xw_cod_X2_become : Cond.code yX2_become cX2_become 4 none ∈ xmTs := List.mem_filter.mpr ⟨List.mem_of_getElem? (i := 484) (by decide +kernel), by decide +kernel⟩
theorem xw_ml_X2_23 : Cond.methodLink RX2 23 Lib.Math.min.name ∈ xmTs := List.mem_filter.mpr ⟨List.mem_of_getElem? (i := 485) (by decide +kernel), by decide +kernel⟩
theorem xw_sta_J9_min_i : Cond.static Lib.Math.min.name ∈ xmTs := List.mem_filter.mpr ⟨List.mem_of_getElem? (i := 486) (by decide +kernel), by decide +kernel⟩
theorem xw_cod_J9_min_i : Cond.code Lib.Math.min.name Lib.Math.min.code 2 (some (FieldType.int)) ∈ xmTs := List.mem_filter.mpr ⟨List.mem_of_getElem? (i := 487) (by decide +kernel), by decide +kernel⟩
theorem xw_ml_X2_29 : Cond.methodLink RX2 29 Lib.Math.max.name ∈ xmTs := List.mem_filter.mpr ⟨List.mem_of_getElem? (i := 488) (by decide +kernel), by decide +kernel⟩
theorem xw_ml_L_72 : Cond.methodLink RL 72 yX4_put ∈ xmTs := List.mem_filter.mpr ⟨List.mem_of_getElem? (i := 489) (by decide +kernel), by decide +kernel⟩
theorem xw_ins_X4_put : Cond.instanceMethod yX4_put ∈ xmTs := List.mem_filter.mpr ⟨List.mem_of_getElem? (i := 490) (by decide +kernel), by decide +kernel⟩
theorem xw_sel_X4_put : Cond.selects yX4_put.cls yX4_put yX4_put ∈ xmTs := List.mem_filter.mpr ⟨List.mem_of_getElem? (i := 491) (by decide +kernel), by decide +kernel⟩
theorem xw_cod_X4_put : Cond.code yX4_put cX4_put 6 (some (FieldType.int)) ∈ xmTs := List.mem_filter.mpr ⟨List.mem_of_getElem? (i := 492) (by decide +kernel), by decide +kernel⟩
theorem xw_ml_X4_183 : Cond.methodLink RX4 183 yX4_rowAt ∈ xmTs := List.mem_filter.mpr ⟨List.mem_of_getElem? (i := 493) (by decide +kernel), by decide +kernel⟩
theorem xw_ins_X4_rowAt : Cond.instanceMethod yX4_rowAt ∈ xmTs := List.mem_filter.mpr ⟨List.mem_of_getElem? (i := 495) (by decide +kernel), by decide +kernel⟩
theorem xw_cod_X4_rowAt : Cond.code yX4_rowAt cX4_rowAt 2 (some (FieldType.object "SmallFloats$Row")) ∈ xmTs := List.mem_filter.mpr ⟨List.mem_of_getElem? (i := 496) (by decide +kernel), by decide +kernel⟩
theorem xw_ml_X4_187 : Cond.methodLink RX4 187 yX2_hasPlace ∈ xmTs := List.mem_filter.mpr ⟨List.mem_of_getElem? (i := 497) (by decide +kernel), by decide +kernel⟩
theorem xw_ins_X2_hasPlace : Cond.instanceMethod yX2_hasPlace ∈ xmTs := List.mem_filter.mpr ⟨List.mem_of_getElem? (i := 498) (by decide +kernel), by decide +kernel⟩
theorem xw_sel_X2_hasPlace : Cond.selects yX2_hasPlace.cls yX2_hasPlace yX2_hasPlace ∈ xmTs := List.mem_filter.mpr ⟨List.mem_of_getElem? (i := 499) (by decide +kernel), by decide +kernel⟩
theorem xw_cod_X2_hasPlace : Cond.code yX2_hasPlace cX2_hasPlace 2 (some (FieldType.boolean)) ∈ xmTs := List.mem_filter.mpr ⟨List.mem_of_getElem? (i := 500) (by decide +kernel), by decide +kernel⟩
theorem xw_ml_X4_193 : Cond.methodLink RX4 193 yX2_codeAt ∈ xmTs := List.mem_filter.mpr ⟨List.mem_of_getElem? (i := 501) (by decide +kernel), by decide +kernel⟩
theorem xw_ins_X2_codeAt : Cond.instanceMethod yX2_codeAt ∈ xmTs := List.mem_filter.mpr ⟨List.mem_of_getElem? (i := 502) (by decide +kernel), by decide +kernel⟩
theorem xw_sel_X2_codeAt : Cond.selects yX2_codeAt.cls yX2_codeAt yX2_codeAt ∈ xmTs := List.mem_filter.mpr ⟨List.mem_of_getElem? (i := 503) (by decide +kernel), by decide +kernel⟩
theorem xw_cod_X2_codeAt : Cond.code yX2_codeAt cX2_codeAt 2 (some (FieldType.int)) ∈ xmTs := List.mem_filter.mpr ⟨List.mem_of_getElem? (i := 504) (by decide +kernel), by decide +kernel⟩
theorem xw_ml_X4_196 : Cond.methodLink RX4 196 yX2_setCode ∈ xmTs := List.mem_filter.mpr ⟨List.mem_of_getElem? (i := 505) (by decide +kernel), by decide +kernel⟩
theorem xw_ins_X2_setCode : Cond.instanceMethod yX2_setCode ∈ xmTs := List.mem_filter.mpr ⟨List.mem_of_getElem? (i := 506) (by decide +kernel), by decide +kernel⟩
theorem xw_sel_X2_setCode : Cond.selects yX2_setCode.cls yX2_setCode yX2_setCode ∈ xmTs := List.mem_filter.mpr ⟨List.mem_of_getElem? (i := 507) (by decide +kernel), by decide +kernel⟩
theorem xw_cod_X2_setCode : Cond.code yX2_setCode cX2_setCode 3 none ∈ xmTs := List.mem_filter.mpr ⟨List.mem_of_getElem? (i := 508) (by decide +kernel), by decide +kernel⟩
theorem xw_ml_L_76 : Cond.methodLink RL 76 yX4_at ∈ xmTs := List.mem_filter.mpr ⟨List.mem_of_getElem? (i := 509) (by decide +kernel), by decide +kernel⟩
theorem xw_ins_X4_at : Cond.instanceMethod yX4_at ∈ xmTs := List.mem_filter.mpr ⟨List.mem_of_getElem? (i := 510) (by decide +kernel), by decide +kernel⟩
theorem xw_sel_X4_at : Cond.selects yX4_at.cls yX4_at yX4_at ∈ xmTs := List.mem_filter.mpr ⟨List.mem_of_getElem? (i := 511) (by decide +kernel), by decide +kernel⟩
theorem xw_cod_X4_at : Cond.code yX4_at cX4_at 4 (some (FieldType.int)) ∈ xmTs := List.mem_filter.mpr ⟨List.mem_of_getElem? (i := 512) (by decide +kernel), by decide +kernel⟩
theorem xw_ml_L_80 : Cond.methodLink RL 80 yX4_packed ∈ xmTs := List.mem_filter.mpr ⟨List.mem_of_getElem? (i := 513) (by decide +kernel), by decide +kernel⟩
theorem xw_ins_X4_packed : Cond.instanceMethod yX4_packed ∈ xmTs := List.mem_filter.mpr ⟨List.mem_of_getElem? (i := 514) (by decide +kernel), by decide +kernel⟩
theorem xw_sel_X4_packed : Cond.selects yX4_packed.cls yX4_packed yX4_packed ∈ xmTs := List.mem_filter.mpr ⟨List.mem_of_getElem? (i := 515) (by decide +kernel), by decide +kernel⟩
theorem xw_cod_X4_packed : Cond.code yX4_packed cX4_packed 4 (some (FieldType.int)) ∈ xmTs := List.mem_filter.mpr ⟨List.mem_of_getElem? (i := 516) (by decide +kernel), by decide +kernel⟩
theorem xw_ml_X4_200 : Cond.methodLink RX4 200 yX2_byteCount ∈ xmTs := List.mem_filter.mpr ⟨List.mem_of_getElem? (i := 517) (by decide +kernel), by decide +kernel⟩
theorem xw_ins_X2_byteCount : Cond.instanceMethod yX2_byteCount ∈ xmTs := List.mem_filter.mpr ⟨List.mem_of_getElem? (i := 518) (by decide +kernel), by decide +kernel⟩
theorem xw_sel_X2_byteCount : Cond.selects yX2_byteCount.cls yX2_byteCount yX2_byteCount ∈ xmTs := List.mem_filter.mpr ⟨List.mem_of_getElem? (i := 519) (by decide +kernel), by decide +kernel⟩
theorem xw_cod_X2_byteCount : Cond.code yX2_byteCount cX2_byteCount 1 (some (FieldType.int)) ∈ xmTs := List.mem_filter.mpr ⟨List.mem_of_getElem? (i := 520) (by decide +kernel), by decide +kernel⟩
theorem xw_ml_X2_32 : Cond.methodLink RX2 32 yX1_bits ∈ xmTs := List.mem_filter.mpr ⟨List.mem_of_getElem? (i := 521) (by decide +kernel), by decide +kernel⟩
theorem xw_ml_X4_203 : Cond.methodLink RX4 203 yX2_byteAt ∈ xmTs := List.mem_filter.mpr ⟨List.mem_of_getElem? (i := 522) (by decide +kernel), by decide +kernel⟩
theorem xw_ins_X2_byteAt : Cond.instanceMethod yX2_byteAt ∈ xmTs := List.mem_filter.mpr ⟨List.mem_of_getElem? (i := 523) (by decide +kernel), by decide +kernel⟩
theorem xw_sel_X2_byteAt : Cond.selects yX2_byteAt.cls yX2_byteAt yX2_byteAt ∈ xmTs := List.mem_filter.mpr ⟨List.mem_of_getElem? (i := 524) (by decide +kernel), by decide +kernel⟩
theorem xw_cod_X2_byteAt : Cond.code yX2_byteAt cX2_byteAt 5 (some (FieldType.int)) ∈ xmTs := List.mem_filter.mpr ⟨List.mem_of_getElem? (i := 525) (by decide +kernel), by decide +kernel⟩
theorem xw_ml_X2_38 : Cond.methodLink RX2 38 yX2_codeAt ∈ xmTs := List.mem_filter.mpr ⟨List.mem_of_getElem? (i := 526) (by decide +kernel), by decide +kernel⟩
theorem xw_ml_L_84 : Cond.methodLink RL 84 yX4_quantise ∈ xmTs := List.mem_filter.mpr ⟨List.mem_of_getElem? (i := 527) (by decide +kernel), by decide +kernel⟩
theorem xw_ins_X4_quantise : Cond.instanceMethod yX4_quantise ∈ xmTs := List.mem_filter.mpr ⟨List.mem_of_getElem? (i := 528) (by decide +kernel), by decide +kernel⟩
theorem xw_sel_X4_quantise : Cond.selects yX4_quantise.cls yX4_quantise yX4_quantise ∈ xmTs := List.mem_filter.mpr ⟨List.mem_of_getElem? (i := 529) (by decide +kernel), by decide +kernel⟩
theorem xw_cod_X4_quantise : Cond.code yX4_quantise cX4_quantise 9 (some (FieldType.int)) ∈ xmTs := List.mem_filter.mpr ⟨List.mem_of_getElem? (i := 530) (by decide +kernel), by decide +kernel⟩
theorem xw_ml_L_88 : Cond.methodLink RL 88 yX4_worst ∈ xmTs := List.mem_filter.mpr ⟨List.mem_of_getElem? (i := 531) (by decide +kernel), by decide +kernel⟩
theorem xw_ins_X4_worst : Cond.instanceMethod yX4_worst ∈ xmTs := List.mem_filter.mpr ⟨List.mem_of_getElem? (i := 532) (by decide +kernel), by decide +kernel⟩
theorem xw_sel_X4_worst : Cond.selects yX4_worst.cls yX4_worst yX4_worst ∈ xmTs := List.mem_filter.mpr ⟨List.mem_of_getElem? (i := 533) (by decide +kernel), by decide +kernel⟩
theorem xw_cod_X4_worst : Cond.code yX4_worst cX4_worst 6 (some (FieldType.int)) ∈ xmTs := List.mem_filter.mpr ⟨List.mem_of_getElem? (i := 534) (by decide +kernel), by decide +kernel⟩
theorem xw_ml_X4_209 : Cond.methodLink RX4 209 yX2_worstPlace ∈ xmTs := List.mem_filter.mpr ⟨List.mem_of_getElem? (i := 535) (by decide +kernel), by decide +kernel⟩
theorem xw_ins_X2_worstPlace : Cond.instanceMethod yX2_worstPlace ∈ xmTs := List.mem_filter.mpr ⟨List.mem_of_getElem? (i := 536) (by decide +kernel), by decide +kernel⟩
theorem xw_sel_X2_worstPlace : Cond.selects yX2_worstPlace.cls yX2_worstPlace yX2_worstPlace ∈ xmTs := List.mem_filter.mpr ⟨List.mem_of_getElem? (i := 537) (by decide +kernel), by decide +kernel⟩
theorem xw_cod_X2_worstPlace : Cond.code yX2_worstPlace cX2_worstPlace 6 (some (FieldType.int)) ∈ xmTs := List.mem_filter.mpr ⟨List.mem_of_getElem? (i := 538) (by decide +kernel), by decide +kernel⟩
theorem xw_ml_X2_57 : Cond.methodLink RX2 57 yX2_areNumbers ∈ xmTs := List.mem_filter.mpr ⟨List.mem_of_getElem? (i := 539) (by decide +kernel), by decide +kernel⟩
theorem xw_ins_X2_areNumbers : Cond.instanceMethod yX2_areNumbers ∈ xmTs := List.mem_filter.mpr ⟨List.mem_of_getElem? (i := 540) (by decide +kernel), by decide +kernel⟩
theorem xw_sel_X2_areNumbers : Cond.selects yX2_areNumbers.cls yX2_areNumbers yX2_areNumbers ∈ xmTs := List.mem_filter.mpr ⟨List.mem_of_getElem? (i := 541) (by decide +kernel), by decide +kernel⟩
theorem xw_cod_X2_areNumbers : Cond.code yX2_areNumbers cX2_areNumbers 3 (some (FieldType.boolean)) ∈ xmTs := List.mem_filter.mpr ⟨List.mem_of_getElem? (i := 542) (by decide +kernel), by decide +kernel⟩
theorem xw_ml_X2_42 : Cond.methodLink RX2 42 yX1_isNumber ∈ xmTs := List.mem_filter.mpr ⟨List.mem_of_getElem? (i := 543) (by decide +kernel), by decide +kernel⟩
theorem xw_ml_X2_61 : Cond.methodLink RX2 61 yX2_distance ∈ xmTs := List.mem_filter.mpr ⟨List.mem_of_getElem? (i := 544) (by decide +kernel), by decide +kernel⟩
theorem xw_ins_X2_distance : Cond.instanceMethod yX2_distance ∈ xmTs := List.mem_filter.mpr ⟨List.mem_of_getElem? (i := 545) (by decide +kernel), by decide +kernel⟩
theorem xw_sel_X2_distance : Cond.selects yX2_distance.cls yX2_distance yX2_distance ∈ xmTs := List.mem_filter.mpr ⟨List.mem_of_getElem? (i := 546) (by decide +kernel), by decide +kernel⟩
theorem xw_cod_X2_distance : Cond.code yX2_distance cX2_distance 8 (some (FieldType.long)) ∈ xmTs := List.mem_filter.mpr ⟨List.mem_of_getElem? (i := 547) (by decide +kernel), by decide +kernel⟩
theorem xw_ml_X2_46 : Cond.methodLink RX2 46 yX1_scale ∈ xmTs := List.mem_filter.mpr ⟨List.mem_of_getElem? (i := 548) (by decide +kernel), by decide +kernel⟩
theorem xw_ml_X2_49 : Cond.methodLink RX2 49 yX1_unitsOf ∈ xmTs := List.mem_filter.mpr ⟨List.mem_of_getElem? (i := 549) (by decide +kernel), by decide +kernel⟩
theorem xw_ml_X2_53 : Cond.methodLink RX2 53 Lib.MathLoose.abs_long.x ∈ xmTs := List.mem_filter.mpr ⟨List.mem_of_getElem? (i := 550) (by decide +kernel), by decide +kernel⟩
theorem xw_ml_X4_213 : Cond.methodLink RX4 213 yX2_differences ∈ xmTs := List.mem_filter.mpr ⟨List.mem_of_getElem? (i := 551) (by decide +kernel), by decide +kernel⟩
theorem xw_ins_X2_differences : Cond.instanceMethod yX2_differences ∈ xmTs := List.mem_filter.mpr ⟨List.mem_of_getElem? (i := 552) (by decide +kernel), by decide +kernel⟩
theorem xw_sel_X2_differences : Cond.selects yX2_differences.cls yX2_differences yX2_differences ∈ xmTs := List.mem_filter.mpr ⟨List.mem_of_getElem? (i := 553) (by decide +kernel), by decide +kernel⟩
theorem xw_cod_X2_differences : Cond.code yX2_differences cX2_differences 4 (some (FieldType.int)) ∈ xmTs := List.mem_filter.mpr ⟨List.mem_of_getElem? (i := 554) (by decide +kernel), by decide +kernel⟩
theorem xw_ml_X4_216 : Cond.methodLink RX4 216 yX2_noNumbers ∈ xmTs := List.mem_filter.mpr ⟨List.mem_of_getElem? (i := 555) (by decide +kernel), by decide +kernel⟩
theorem xw_ins_X2_noNumbers : Cond.instanceMethod yX2_noNumbers ∈ xmTs := List.mem_filter.mpr ⟨List.mem_of_getElem? (i := 556) (by decide +kernel), by decide +kernel⟩
theorem xw_sel_X2_noNumbers : Cond.selects yX2_noNumbers.cls yX2_noNumbers yX2_noNumbers ∈ xmTs := List.mem_filter.mpr ⟨List.mem_of_getElem? (i := 557) (by decide +kernel), by decide +kernel⟩
theorem xw_cod_X2_noNumbers : Cond.code yX2_noNumbers cX2_noNumbers 4 (some (FieldType.int)) ∈ xmTs := List.mem_filter.mpr ⟨List.mem_of_getElem? (i := 558) (by decide +kernel), by decide +kernel⟩
theorem xw_ml_L_92 : Cond.methodLink RL 92 yX4_sum ∈ xmTs := List.mem_filter.mpr ⟨List.mem_of_getElem? (i := 559) (by decide +kernel), by decide +kernel⟩
theorem xw_ins_X4_sum : Cond.instanceMethod yX4_sum ∈ xmTs := List.mem_filter.mpr ⟨List.mem_of_getElem? (i := 560) (by decide +kernel), by decide +kernel⟩
theorem xw_sel_X4_sum : Cond.selects yX4_sum.cls yX4_sum yX4_sum ∈ xmTs := List.mem_filter.mpr ⟨List.mem_of_getElem? (i := 561) (by decide +kernel), by decide +kernel⟩
theorem xw_cod_X4_sum : Cond.code yX4_sum cX4_sum 5 (some (FieldType.int)) ∈ xmTs := List.mem_filter.mpr ⟨List.mem_of_getElem? (i := 562) (by decide +kernel), by decide +kernel⟩
theorem xw_ml_X4_219 : Cond.methodLink RX4 219 yX0_stepwiseTotal ∈ xmTs := List.mem_filter.mpr ⟨List.mem_of_getElem? (i := 563) (by decide +kernel), by decide +kernel⟩
theorem xw_ins_X0_stepwiseTotal : Cond.instanceMethod yX0_stepwiseTotal ∈ xmTs := List.mem_filter.mpr ⟨List.mem_of_getElem? (i := 564) (by decide +kernel), by decide +kernel⟩
theorem xw_sel_X0_stepwiseTotal : Cond.selects yX0_stepwiseTotal.cls yX0_stepwiseTotal yX0_stepwiseTotal ∈ xmTs := List.mem_filter.mpr ⟨List.mem_of_getElem? (i := 565) (by decide +kernel), by decide +kernel⟩
theorem xw_cod_X0_stepwiseTotal : Cond.code yX0_stepwiseTotal cX0_stepwiseTotal 9 (some (FieldType.int)) ∈ xmTs := List.mem_filter.mpr ⟨List.mem_of_getElem? (i := 566) (by decide +kernel), by decide +kernel⟩
theorem xw_ml_X0_153 : Cond.methodLink RX0 153 yX0_termCount ∈ xmTs := List.mem_filter.mpr ⟨List.mem_of_getElem? (i := 567) (by decide +kernel), by decide +kernel⟩
theorem xw_sta_X0_termCount : Cond.static yX0_termCount ∈ xmTs := List.mem_filter.mpr ⟨List.mem_of_getElem? (i := 568) (by decide +kernel), by decide +kernel⟩
theorem xw_cod_X0_termCount : Cond.code yX0_termCount cX0_termCount 2 (some (FieldType.int)) ∈ xmTs := List.mem_filter.mpr ⟨List.mem_of_getElem? (i := 569) (by decide +kernel), by decide +kernel⟩
theorem xw_ml_X0_168 : Cond.methodLink RX0 168 Lib.Math.min.name ∈ xmTs := List.mem_filter.mpr ⟨List.mem_of_getElem? (i := 570) (by decide +kernel), by decide +kernel⟩
theorem xw_ml_X0_157 : Cond.methodLink RX0 157 yX2_codeAt ∈ xmTs := List.mem_filter.mpr ⟨List.mem_of_getElem? (i := 571) (by decide +kernel), by decide +kernel⟩
theorem xw_ml_X0_161 : Cond.methodLink RX0 161 yX0_acted ∈ xmTs := List.mem_filter.mpr ⟨List.mem_of_getElem? (i := 572) (by decide +kernel), by decide +kernel⟩
theorem xw_ml_X4_223 : Cond.methodLink RX4 223 yX0_exactTotal ∈ xmTs := List.mem_filter.mpr ⟨List.mem_of_getElem? (i := 573) (by decide +kernel), by decide +kernel⟩
theorem xw_ins_X0_exactTotal : Cond.instanceMethod yX0_exactTotal ∈ xmTs := List.mem_filter.mpr ⟨List.mem_of_getElem? (i := 574) (by decide +kernel), by decide +kernel⟩
theorem xw_sel_X0_exactTotal : Cond.selects yX0_exactTotal.cls yX0_exactTotal yX0_exactTotal ∈ xmTs := List.mem_filter.mpr ⟨List.mem_of_getElem? (i := 575) (by decide +kernel), by decide +kernel⟩
theorem xw_cod_X0_exactTotal : Cond.code yX0_exactTotal cX0_exactTotal 15 (some (FieldType.int)) ∈ xmTs := List.mem_filter.mpr ⟨List.mem_of_getElem? (i := 576) (by decide +kernel), by decide +kernel⟩
theorem xw_ml_L_96 : Cond.methodLink RL 96 yX4_dot ∈ xmTs := List.mem_filter.mpr ⟨List.mem_of_getElem? (i := 577) (by decide +kernel), by decide +kernel⟩
theorem xw_ins_X4_dot : Cond.instanceMethod yX4_dot ∈ xmTs := List.mem_filter.mpr ⟨List.mem_of_getElem? (i := 578) (by decide +kernel), by decide +kernel⟩
theorem xw_sel_X4_dot : Cond.selects yX4_dot.cls yX4_dot yX4_dot ∈ xmTs := List.mem_filter.mpr ⟨List.mem_of_getElem? (i := 579) (by decide +kernel), by decide +kernel⟩
theorem xw_cod_X4_dot : Cond.code yX4_dot cX4_dot 7 (some (FieldType.int)) ∈ xmTs := List.mem_filter.mpr ⟨List.mem_of_getElem? (i := 580) (by decide +kernel), by decide +kernel⟩
theorem xw_ml_L_101 : Cond.methodLink RL 101 yX4_table ∈ xmTs := List.mem_filter.mpr ⟨List.mem_of_getElem? (i := 581) (by decide +kernel), by decide +kernel⟩
theorem xw_ins_X4_table : Cond.instanceMethod yX4_table ∈ xmTs := List.mem_filter.mpr ⟨List.mem_of_getElem? (i := 582) (by decide +kernel), by decide +kernel⟩
theorem xw_sel_X4_table : Cond.selects yX4_table.cls yX4_table yX4_table ∈ xmTs := List.mem_filter.mpr ⟨List.mem_of_getElem? (i := 583) (by decide +kernel), by decide +kernel⟩
theorem xw_cod_X4_table : Cond.code yX4_table cX4_table 5 (some (FieldType.int)) ∈ xmTs := List.mem_filter.mpr ⟨List.mem_of_getElem? (i := 584) (by decide +kernel), by decide +kernel⟩
theorem xw_ml_L_105 : Cond.methodLink RL 105 yX4_lookup ∈ xmTs := List.mem_filter.mpr ⟨List.mem_of_getElem? (i := 585) (by decide +kernel), by decide +kernel⟩
theorem xw_ins_X4_lookup : Cond.instanceMethod yX4_lookup ∈ xmTs := List.mem_filter.mpr ⟨List.mem_of_getElem? (i := 586) (by decide +kernel), by decide +kernel⟩
theorem xw_sel_X4_lookup : Cond.selects yX4_lookup.cls yX4_lookup yX4_lookup ∈ xmTs := List.mem_filter.mpr ⟨List.mem_of_getElem? (i := 587) (by decide +kernel), by decide +kernel⟩
theorem xw_cod_X4_lookup : Cond.code yX4_lookup cX4_lookup 4 (some (FieldType.int)) ∈ xmTs := List.mem_filter.mpr ⟨List.mem_of_getElem? (i := 588) (by decide +kernel), by decide +kernel⟩
theorem xw_ml_L_109 : Cond.methodLink RL 109 yX4_count ∈ xmTs := List.mem_filter.mpr ⟨List.mem_of_getElem? (i := 589) (by decide +kernel), by decide +kernel⟩
theorem xw_ins_X4_count : Cond.instanceMethod yX4_count ∈ xmTs := List.mem_filter.mpr ⟨List.mem_of_getElem? (i := 590) (by decide +kernel), by decide +kernel⟩
theorem xw_sel_X4_count : Cond.selects yX4_count.cls yX4_count yX4_count ∈ xmTs := List.mem_filter.mpr ⟨List.mem_of_getElem? (i := 591) (by decide +kernel), by decide +kernel⟩
theorem xw_cod_X4_count : Cond.code yX4_count cX4_count 2 (some (FieldType.int)) ∈ xmTs := List.mem_filter.mpr ⟨List.mem_of_getElem? (i := 592) (by decide +kernel), by decide +kernel⟩
theorem xw_ml_L_114 : Cond.methodLink RL 114 yX4_told ∈ xmTs := List.mem_filter.mpr ⟨List.mem_of_getElem? (i := 593) (by decide +kernel), by decide +kernel⟩
theorem xw_ins_X4_told : Cond.instanceMethod yX4_told ∈ xmTs := List.mem_filter.mpr ⟨List.mem_of_getElem? (i := 594) (by decide +kernel), by decide +kernel⟩
theorem xw_sel_X4_told : Cond.selects yX4_told.cls yX4_told yX4_told ∈ xmTs := List.mem_filter.mpr ⟨List.mem_of_getElem? (i := 595) (by decide +kernel), by decide +kernel⟩
theorem xw_cod_X4_told : Cond.code yX4_told cX4_told 1 (some (FieldType.int)) ∈ xmTs := List.mem_filter.mpr ⟨List.mem_of_getElem? (i := 596) (by decide +kernel), by decide +kernel⟩
theorem xw_cl_L_10 : Cond.classLink RL 10 RX5 ∈ xmTs := List.mem_filter.mpr ⟨List.mem_of_getElem? (i := 597) (by decide +kernel), by decide +kernel⟩
theorem xw_inst_X5 : Cond.instantiable RX5 26 ∈ xmTs := List.mem_filter.mpr ⟨List.mem_of_getElem? (i := 598) (by decide +kernel), by decide +kernel⟩
theorem xw_ml_L_12 : Cond.methodLink RL 12 yX5_init ∈ xmTs := List.mem_filter.mpr ⟨List.mem_of_getElem? (i := 599) (by decide +kernel), by decide +kernel⟩
theorem xw_ins_X5_init : Cond.instanceMethod yX5_init ∈ xmTs := List.mem_filter.mpr ⟨List.mem_of_getElem? (i := 600) (by decide +kernel), by decide +kernel⟩
theorem xw_cod_X5_init : Cond.code yX5_init cX5_init 1 none ∈ xmTs := List.mem_filter.mpr ⟨List.mem_of_getElem? (i := 601) (by decide +kernel), by decide +kernel⟩
theorem xw_ml_X5_1 : Cond.methodLink RX5 1 objectInit ∈ xmTs := List.mem_filter.mpr ⟨List.mem_of_getElem? (i := 602) (by decide +kernel), by decide +kernel⟩
theorem xw_fl_X5_45 : Cond.fieldLink RX5 45 (TX5 0).1 (TX5 0).2.1 (TX5 0).2.2.1 ∈ xmTs := List.mem_filter.mpr ⟨List.mem_of_getElem? (i := 603) (by decide +kernel), by decide +kernel⟩
theorem xw_fl_X5_7 : Cond.fieldLink RX5 7 (TX5 1).1 (TX5 1).2.1 (TX5 1).2.2.1 ∈ xmTs := List.mem_filter.mpr ⟨List.mem_of_getElem? (i := 604) (by decide +kernel), by decide +kernel⟩
theorem xw_fl_X5_13 : Cond.fieldLink RX5 13 (TX5 2).1 (TX5 2).2.1 (TX5 2).2.2.1 ∈ xmTs := List.mem_filter.mpr ⟨List.mem_of_getElem? (i := 605) (by decide +kernel), by decide +kernel⟩
theorem xw_fl_X5_16 : Cond.fieldLink RX5 16 (TX5 3).1 (TX5 3).2.1 (TX5 3).2.2.1 ∈ xmTs := List.mem_filter.mpr ⟨List.mem_of_getElem? (i := 606) (by decide +kernel), by decide +kernel⟩
theorem xw_fl_X5_19 : Cond.fieldLink RX5 19 (TX5 4).1 (TX5 4).2.1 (TX5 4).2.2.1 ∈ xmTs := List.mem_filter.mpr ⟨List.mem_of_getElem? (i := 607) (by decide +kernel), by decide +kernel⟩
theorem xw_fl_X5_22 : Cond.fieldLink RX5 22 (TX5 5).1 (TX5 5).2.1 (TX5 5).2.2.1 ∈ xmTs := List.mem_filter.mpr ⟨List.mem_of_getElem? (i := 608) (by decide +kernel), by decide +kernel⟩
theorem xw_fl_X5_26 : Cond.fieldLink RX5 26 (TX5 6).1 (TX5 6).2.1 (TX5 6).2.2.1 ∈ xmTs := List.mem_filter.mpr ⟨List.mem_of_getElem? (i := 609) (by decide +kernel), by decide +kernel⟩
theorem xw_fl_X5_29 : Cond.fieldLink RX5 29 (TX5 7).1 (TX5 7).2.1 (TX5 7).2.2.1 ∈ xmTs := List.mem_filter.mpr ⟨List.mem_of_getElem? (i := 610) (by decide +kernel), by decide +kernel⟩
theorem xw_fl_X5_32 : Cond.fieldLink RX5 32 (TX5 8).1 (TX5 8).2.1 (TX5 8).2.2.1 ∈ xmTs := List.mem_filter.mpr ⟨List.mem_of_getElem? (i := 611) (by decide +kernel), by decide +kernel⟩
theorem xw_fl_X5_35 : Cond.fieldLink RX5 35 (TX5 9).1 (TX5 9).2.1 (TX5 9).2.2.1 ∈ xmTs := List.mem_filter.mpr ⟨List.mem_of_getElem? (i := 612) (by decide +kernel), by decide +kernel⟩
theorem xw_fl_X5_260 : Cond.fieldLink RX5 260 (TX5 10).1 (TX5 10).2.1 (TX5 10).2.2.1 ∈ xmTs := List.mem_filter.mpr ⟨List.mem_of_getElem? (i := 613) (by decide +kernel), by decide +kernel⟩
theorem xw_fl_X5_38 : Cond.fieldLink RX5 38 (TX5 11).1 (TX5 11).2.1 (TX5 11).2.2.1 ∈ xmTs := List.mem_filter.mpr ⟨List.mem_of_getElem? (i := 614) (by decide +kernel), by decide +kernel⟩
theorem xw_fl_X5_263 : Cond.fieldLink RX5 263 (TX5 12).1 (TX5 12).2.1 (TX5 12).2.2.1 ∈ xmTs := List.mem_filter.mpr ⟨List.mem_of_getElem? (i := 615) (by decide +kernel), by decide +kernel⟩
theorem xw_fl_X5_266 : Cond.fieldLink RX5 266 (TX5 13).1 (TX5 13).2.1 (TX5 13).2.2.1 ∈ xmTs := List.mem_filter.mpr ⟨List.mem_of_getElem? (i := 616) (by decide +kernel), by decide +kernel⟩
theorem xw_fl_X5_61 : Cond.fieldLink RX5 61 (TX5 14).1 (TX5 14).2.1 (TX5 14).2.2.1 ∈ xmTs := List.mem_filter.mpr ⟨List.mem_of_getElem? (i := 617) (by decide +kernel), by decide +kernel⟩
theorem xw_fl_X5_64 : Cond.fieldLink RX5 64 (TX5 15).1 (TX5 15).2.1 (TX5 15).2.2.1 ∈ xmTs := List.mem_filter.mpr ⟨List.mem_of_getElem? (i := 618) (by decide +kernel), by decide +kernel⟩
theorem xw_fl_X5_186 : Cond.fieldLink RX5 186 (TX5 16).1 (TX5 16).2.1 (TX5 16).2.2.1 ∈ xmTs := List.mem_filter.mpr ⟨List.mem_of_getElem? (i := 619) (by decide +kernel), by decide +kernel⟩
theorem xw_fl_X5_48 : Cond.fieldLink RX5 48 (TX5 17).1 (TX5 17).2.1 (TX5 17).2.2.1 ∈ xmTs := List.mem_filter.mpr ⟨List.mem_of_getElem? (i := 620) (by decide +kernel), by decide +kernel⟩
theorem xw_fl_X5_51 : Cond.fieldLink RX5 51 (TX5 18).1 (TX5 18).2.1 (TX5 18).2.2.1 ∈ xmTs := List.mem_filter.mpr ⟨List.mem_of_getElem? (i := 621) (by decide +kernel), by decide +kernel⟩
theorem xw_fl_X5_54 : Cond.fieldLink RX5 54 (TX5 19).1 (TX5 19).2.1 (TX5 19).2.2.1 ∈ xmTs := List.mem_filter.mpr ⟨List.mem_of_getElem? (i := 622) (by decide +kernel), by decide +kernel⟩
theorem xw_fl_X5_138 : Cond.fieldLink RX5 138 (TX5 20).1 (TX5 20).2.1 (TX5 20).2.2.1 ∈ xmTs := List.mem_filter.mpr ⟨List.mem_of_getElem? (i := 623) (by decide +kernel), by decide +kernel⟩
theorem xw_fl_X5_142 : Cond.fieldLink RX5 142 (TX5 21).1 (TX5 21).2.1 (TX5 21).2.2.1 ∈ xmTs := List.mem_filter.mpr ⟨List.mem_of_getElem? (i := 624) (by decide +kernel), by decide +kernel⟩
theorem xw_fl_X5_146 : Cond.fieldLink RX5 146 (TX5 22).1 (TX5 22).2.1 (TX5 22).2.2.1 ∈ xmTs := List.mem_filter.mpr ⟨List.mem_of_getElem? (i := 625) (by decide +kernel), by decide +kernel⟩
theorem xw_fl_X5_230 : Cond.fieldLink RX5 230 (TX5 23).1 (TX5 23).2.1 (TX5 23).2.2.1 ∈ xmTs := List.mem_filter.mpr ⟨List.mem_of_getElem? (i := 626) (by decide +kernel), by decide +kernel⟩
theorem xw_fl_X5_240 : Cond.fieldLink RX5 240 (TX5 24).1 (TX5 24).2.1 (TX5 24).2.2.1 ∈ xmTs := List.mem_filter.mpr ⟨List.mem_of_getElem? (i := 627) (by decide +kernel), by decide +kernel⟩
theorem xw_fl_X5_42 : Cond.fieldLink RX5 42 (TX5 25).1 (TX5 25).2.1 (TX5 25).2.2.1 ∈ xmTs := List.mem_filter.mpr ⟨List.mem_of_getElem? (i := 628) (by decide +kernel), by decide +kernel⟩
theorem xw_lay_X5_0 : u_lay RX5 TX5 0 ∈ xmTs := List.mem_filter.mpr ⟨List.mem_of_getElem? (i := 629) (by decide +kernel), by decide +kernel⟩
theorem xw_lay_X5_1 : u_lay RX5 TX5 1 ∈ xmTs := List.mem_filter.mpr ⟨List.mem_of_getElem? (i := 631) (by decide +kernel), by decide +kernel⟩
theorem xw_lay_X5_2 : u_lay RX5 TX5 2 ∈ xmTs := List.mem_filter.mpr ⟨List.mem_of_getElem? (i := 633) (by decide +kernel), by decide +kernel⟩
theorem xw_lay_X5_3 : u_lay RX5 TX5 3 ∈ xmTs := List.mem_filter.mpr ⟨List.mem_of_getElem? (i := 635) (by decide +kernel), by decide +kernel⟩
theorem xw_lay_X5_4 : u_lay RX5 TX5 4 ∈ xmTs := List.mem_filter.mpr ⟨List.mem_of_getElem? (i := 637) (by decide +kernel), by decide +kernel⟩
theorem xw_lay_X5_5 : u_lay RX5 TX5 5 ∈ xmTs := List.mem_filter.mpr ⟨List.mem_of_getElem? (i := 639) (by decide +kernel), by decide +kernel⟩
theorem xw_lay_X5_6 : u_lay RX5 TX5 6 ∈ xmTs := List.mem_filter.mpr ⟨List.mem_of_getElem? (i := 641) (by decide +kernel), by decide +kernel⟩
theorem xw_lay_X5_7 : u_lay RX5 TX5 7 ∈ xmTs := List.mem_filter.mpr ⟨List.mem_of_getElem? (i := 643) (by decide +kernel), by decide +kernel⟩
theorem xw_lay_X5_8 : u_lay RX5 TX5 8 ∈ xmTs := List.mem_filter.mpr ⟨List.mem_of_getElem? (i := 645) (by decide +kernel), by decide +kernel⟩
theorem xw_lay_X5_9 : u_lay RX5 TX5 9 ∈ xmTs := List.mem_filter.mpr ⟨List.mem_of_getElem? (i := 647) (by decide +kernel), by decide +kernel⟩
theorem xw_lay_X5_10 : u_lay RX5 TX5 10 ∈ xmTs := List.mem_filter.mpr ⟨List.mem_of_getElem? (i := 649) (by decide +kernel), by decide +kernel⟩
theorem xw_lay_X5_11 : u_lay RX5 TX5 11 ∈ xmTs := List.mem_filter.mpr ⟨List.mem_of_getElem? (i := 651) (by decide +kernel), by decide +kernel⟩
theorem xw_lay_X5_12 : u_lay RX5 TX5 12 ∈ xmTs := List.mem_filter.mpr ⟨List.mem_of_getElem? (i := 653) (by decide +kernel), by decide +kernel⟩
theorem xw_lay_X5_13 : u_lay RX5 TX5 13 ∈ xmTs := List.mem_filter.mpr ⟨List.mem_of_getElem? (i := 655) (by decide +kernel), by decide +kernel⟩
theorem xw_lay_X5_14 : u_lay RX5 TX5 14 ∈ xmTs := List.mem_filter.mpr ⟨List.mem_of_getElem? (i := 657) (by decide +kernel), by decide +kernel⟩
theorem xw_lay_X5_15 : u_lay RX5 TX5 15 ∈ xmTs := List.mem_filter.mpr ⟨List.mem_of_getElem? (i := 659) (by decide +kernel), by decide +kernel⟩
theorem xw_lay_X5_16 : u_lay RX5 TX5 16 ∈ xmTs := List.mem_filter.mpr ⟨List.mem_of_getElem? (i := 661) (by decide +kernel), by decide +kernel⟩
theorem xw_lay_X5_17 : u_lay RX5 TX5 17 ∈ xmTs := List.mem_filter.mpr ⟨List.mem_of_getElem? (i := 663) (by decide +kernel), by decide +kernel⟩
theorem xw_lay_X5_18 : u_lay RX5 TX5 18 ∈ xmTs := List.mem_filter.mpr ⟨List.mem_of_getElem? (i := 665) (by decide +kernel), by decide +kernel⟩
theorem xw_lay_X5_19 : u_lay RX5 TX5 19 ∈ xmTs := List.mem_filter.mpr ⟨List.mem_of_getElem? (i := 667) (by decide +kernel), by decide +kernel⟩
theorem xw_lay_X5_20 : u_lay RX5 TX5 20 ∈ xmTs := List.mem_filter.mpr ⟨List.mem_of_getElem? (i := 669) (by decide +kernel), by decide +kernel⟩
theorem xw_lay_X5_21 : u_lay RX5 TX5 21 ∈ xmTs := List.mem_filter.mpr ⟨List.mem_of_getElem? (i := 671) (by decide +kernel), by decide +kernel⟩
theorem xw_lay_X5_22 : u_lay RX5 TX5 22 ∈ xmTs := List.mem_filter.mpr ⟨List.mem_of_getElem? (i := 673) (by decide +kernel), by decide +kernel⟩
theorem xw_lay_X5_23 : u_lay RX5 TX5 23 ∈ xmTs := List.mem_filter.mpr ⟨List.mem_of_getElem? (i := 675) (by decide +kernel), by decide +kernel⟩
theorem xw_lay_X5_24 : u_lay RX5 TX5 24 ∈ xmTs := List.mem_filter.mpr ⟨List.mem_of_getElem? (i := 677) (by decide +kernel), by decide +kernel⟩
theorem xw_lay_X5_25 : u_lay RX5 TX5 25 ∈ xmTs := List.mem_filter.mpr ⟨List.mem_of_getElem? (i := 679) (by decide +kernel), by decide +kernel⟩
theorem xw_arr_boolean : Cond.arrayClass (newarray.typeOf .boolean) ∈ xmTs := List.mem_filter.mpr ⟨List.mem_of_getElem? (i := 682) (by decide +kernel), by decide +kernel⟩
theorem xw_ml_L_17 : Cond.methodLink RL 17 yX5_format ∈ xmTs := List.mem_filter.mpr ⟨List.mem_of_getElem? (i := 683) (by decide +kernel), by decide +kernel⟩
theorem xw_ins_X5_format : Cond.instanceMethod yX5_format ∈ xmTs := List.mem_filter.mpr ⟨List.mem_of_getElem? (i := 684) (by decide +kernel), by decide +kernel⟩
theorem xw_sel_X5_format : Cond.selects yX5_format.cls yX5_format yX5_format ∈ xmTs := List.mem_filter.mpr ⟨List.mem_of_getElem? (i := 685) (by decide +kernel), by decide +kernel⟩
theorem xw_cod_X5_format : Cond.code yX5_format cX5_format 8 (some (FieldType.int)) ∈ xmTs := List.mem_filter.mpr ⟨List.mem_of_getElem? (i := 686) (by decide +kernel), by decide +kernel⟩
theorem xw_ml_X5_70 : Cond.methodLink RX5 70 yX5_in ∈ xmTs := List.mem_filter.mpr ⟨List.mem_of_getElem? (i := 687) (by decide +kernel), by decide +kernel⟩
theorem xw_sta_X5_in : Cond.static yX5_in ∈ xmTs := List.mem_filter.mpr ⟨List.mem_of_getElem? (i := 688) (by decide +kernel), by decide +kernel⟩
theorem xw_cod_X5_in : Cond.code yX5_in cX5_in 6 (some (FieldType.boolean)) ∈ xmTs := List.mem_filter.mpr ⟨List.mem_of_getElem? (i := 689) (by decide +kernel), by decide +kernel⟩
theorem xw_cst_X5_103 : Cond.constantLong RX5 103 (4) ∈ xmTs := List.mem_filter.mpr ⟨List.mem_of_getElem? (i := 690) (by decide +kernel), by decide +kernel⟩
theorem xw_cst_X5_105 : Cond.constantLong RX5 105 (5) ∈ xmTs := List.mem_filter.mpr ⟨List.mem_of_getElem? (i := 691) (by decide +kernel), by decide +kernel⟩
theorem xw_cst_X5_107 : Cond.constantLong RX5 107 (15) ∈ xmTs := List.mem_filter.mpr ⟨List.mem_of_getElem? (i := 692) (by decide +kernel), by decide +kernel⟩
theorem xw_cst_X5_90 : Cond.constantLong RX5 90 (2) ∈ xmTs := List.mem_filter.mpr ⟨List.mem_of_getElem? (i := 693) (by decide +kernel), by decide +kernel⟩
theorem xw_ml_X5_57 : Cond.methodLink RX5 57 yX5_refused ∈ xmTs := List.mem_filter.mpr ⟨List.mem_of_getElem? (i := 694) (by decide +kernel), by decide +kernel⟩
theorem xw_ins_X5_refused : Cond.instanceMethod yX5_refused ∈ xmTs := List.mem_filter.mpr ⟨List.mem_of_getElem? (i := 696) (by decide +kernel), by decide +kernel⟩
theorem xw_cod_X5_refused : Cond.code yX5_refused cX5_refused 2 (some (FieldType.int)) ∈ xmTs := List.mem_filter.mpr ⟨List.mem_of_getElem? (i := 697) (by decide +kernel), by decide +kernel⟩
theorem xw_ml_X5_67 : Cond.methodLink RX5 67 yX5_fine ∈ xmTs := List.mem_filter.mpr ⟨List.mem_of_getElem? (i := 698) (by decide +kernel), by decide +kernel⟩
theorem xw_ins_X5_fine : Cond.instanceMethod yX5_fine ∈ xmTs := List.mem_filter.mpr ⟨List.mem_of_getElem? (i := 700) (by decide +kernel), by decide +kernel⟩
theorem xw_cod_X5_fine : Cond.code yX5_fine cX5_fine 2 (some (FieldType.int)) ∈ xmTs := List.mem_filter.mpr ⟨List.mem_of_getElem? (i := 701) (by decide +kernel), by decide +kernel⟩
theorem xw_ml_L_22 : Cond.methodLink RL 22 yX5_about ∈ xmTs := List.mem_filter.mpr ⟨List.mem_of_getElem? (i := 702) (by decide +kernel), by decide +kernel⟩
theorem xw_ins_X5_about : Cond.instanceMethod yX5_about ∈ xmTs := List.mem_filter.mpr ⟨List.mem_of_getElem? (i := 703) (by decide +kernel), by decide +kernel⟩
theorem xw_sel_X5_about : Cond.selects yX5_about.cls yX5_about yX5_about ∈ xmTs := List.mem_filter.mpr ⟨List.mem_of_getElem? (i := 704) (by decide +kernel), by decide +kernel⟩
theorem xw_cod_X5_about : Cond.code yX5_about cX5_about 5 (some (FieldType.int)) ∈ xmTs := List.mem_filter.mpr ⟨List.mem_of_getElem? (i := 705) (by decide +kernel), by decide +kernel⟩
theorem xw_ml_X5_109 : Cond.methodLink RX5 109 yX5_isFormat ∈ xmTs := List.mem_filter.mpr ⟨List.mem_of_getElem? (i := 706) (by decide +kernel), by decide +kernel⟩
theorem xw_ins_X5_isFormat : Cond.instanceMethod yX5_isFormat ∈ xmTs := List.mem_filter.mpr ⟨List.mem_of_getElem? (i := 708) (by decide +kernel), by decide +kernel⟩
theorem xw_cod_X5_isFormat : Cond.code yX5_isFormat cX5_isFormat 2 (some (FieldType.boolean)) ∈ xmTs := List.mem_filter.mpr ⟨List.mem_of_getElem? (i := 709) (by decide +kernel), by decide +kernel⟩
theorem xw_cst_X5_113 : Cond.constantLong RX5 113 (6) ∈ xmTs := List.mem_filter.mpr ⟨List.mem_of_getElem? (i := 710) (by decide +kernel), by decide +kernel⟩
theorem xw_ml_X5_74 : Cond.methodLink RX5 74 yX5_bits ∈ xmTs := List.mem_filter.mpr ⟨List.mem_of_getElem? (i := 711) (by decide +kernel), by decide +kernel⟩
theorem xw_ins_X5_bits : Cond.instanceMethod yX5_bits ∈ xmTs := List.mem_filter.mpr ⟨List.mem_of_getElem? (i := 713) (by decide +kernel), by decide +kernel⟩
theorem xw_cod_X5_bits : Cond.code yX5_bits cX5_bits 2 (some (FieldType.int)) ∈ xmTs := List.mem_filter.mpr ⟨List.mem_of_getElem? (i := 714) (by decide +kernel), by decide +kernel⟩
theorem xw_ml_X5_100 : Cond.methodLink RX5 100 yX5_great ∈ xmTs := List.mem_filter.mpr ⟨List.mem_of_getElem? (i := 715) (by decide +kernel), by decide +kernel⟩
theorem xw_ins_X5_great : Cond.instanceMethod yX5_great ∈ xmTs := List.mem_filter.mpr ⟨List.mem_of_getElem? (i := 717) (by decide +kernel), by decide +kernel⟩
theorem xw_cod_X5_great : Cond.code yX5_great cX5_great 2 (some (FieldType.int)) ∈ xmTs := List.mem_filter.mpr ⟨List.mem_of_getElem? (i := 718) (by decide +kernel), by decide +kernel⟩
theorem xw_ml_X5_84 : Cond.methodLink RX5 84 yX5_allOnes ∈ xmTs := List.mem_filter.mpr ⟨List.mem_of_getElem? (i := 719) (by decide +kernel), by decide +kernel⟩
theorem xw_ins_X5_allOnes : Cond.instanceMethod yX5_allOnes ∈ xmTs := List.mem_filter.mpr ⟨List.mem_of_getElem? (i := 721) (by decide +kernel), by decide +kernel⟩
theorem xw_cod_X5_allOnes : Cond.code yX5_allOnes cX5_allOnes 2 (some (FieldType.int)) ∈ xmTs := List.mem_filter.mpr ⟨List.mem_of_getElem? (i := 722) (by decide +kernel), by decide +kernel⟩
theorem xw_ml_X5_77 : Cond.methodLink RX5 77 yX5_signBit ∈ xmTs := List.mem_filter.mpr ⟨List.mem_of_getElem? (i := 723) (by decide +kernel), by decide +kernel⟩
theorem xw_ins_X5_signBit : Cond.instanceMethod yX5_signBit ∈ xmTs := List.mem_filter.mpr ⟨List.mem_of_getElem? (i := 725) (by decide +kernel), by decide +kernel⟩
theorem xw_cod_X5_signBit : Cond.code yX5_signBit cX5_signBit 2 (some (FieldType.int)) ∈ xmTs := List.mem_filter.mpr ⟨List.mem_of_getElem? (i := 726) (by decide +kernel), by decide +kernel⟩
theorem xw_ml_X5_115 : Cond.methodLink RX5 115 yX5_last ∈ xmTs := List.mem_filter.mpr ⟨List.mem_of_getElem? (i := 727) (by decide +kernel), by decide +kernel⟩
theorem xw_ins_X5_last : Cond.instanceMethod yX5_last ∈ xmTs := List.mem_filter.mpr ⟨List.mem_of_getElem? (i := 729) (by decide +kernel), by decide +kernel⟩
theorem xw_cod_X5_last : Cond.code yX5_last cX5_last 2 (some (FieldType.int)) ∈ xmTs := List.mem_filter.mpr ⟨List.mem_of_getElem? (i := 730) (by decide +kernel), by decide +kernel⟩
theorem xw_ml_X5_118 : Cond.methodLink RX5 118 yX5_noneOf ∈ xmTs := List.mem_filter.mpr ⟨List.mem_of_getElem? (i := 731) (by decide +kernel), by decide +kernel⟩
theorem xw_ins_X5_noneOf : Cond.instanceMethod yX5_noneOf ∈ xmTs := List.mem_filter.mpr ⟨List.mem_of_getElem? (i := 733) (by decide +kernel), by decide +kernel⟩
theorem xw_cod_X5_noneOf : Cond.code yX5_noneOf cX5_noneOf 2 (some (FieldType.int)) ∈ xmTs := List.mem_filter.mpr ⟨List.mem_of_getElem? (i := 734) (by decide +kernel), by decide +kernel⟩
theorem xw_ml_X5_121 : Cond.methodLink RX5 121 yX5_endless ∈ xmTs := List.mem_filter.mpr ⟨List.mem_of_getElem? (i := 735) (by decide +kernel), by decide +kernel⟩
theorem xw_ins_X5_endless : Cond.instanceMethod yX5_endless ∈ xmTs := List.mem_filter.mpr ⟨List.mem_of_getElem? (i := 737) (by decide +kernel), by decide +kernel⟩
theorem xw_cod_X5_endless : Cond.code yX5_endless cX5_endless 2 (some (FieldType.int)) ∈ xmTs := List.mem_filter.mpr ⟨List.mem_of_getElem? (i := 738) (by decide +kernel), by decide +kernel⟩
theorem xw_ml_X5_124 : Cond.methodLink RX5 124 yX5_isNumber ∈ xmTs := List.mem_filter.mpr ⟨List.mem_of_getElem? (i := 739) (by decide +kernel), by decide +kernel⟩
theorem xw_ins_X5_isNumber : Cond.instanceMethod yX5_isNumber ∈ xmTs := List.mem_filter.mpr ⟨List.mem_of_getElem? (i := 741) (by decide +kernel), by decide +kernel⟩
theorem xw_cod_X5_isNumber : Cond.code yX5_isNumber cX5_isNumber 3 (some (FieldType.boolean)) ∈ xmTs := List.mem_filter.mpr ⟨List.mem_of_getElem? (i := 742) (by decide +kernel), by decide +kernel⟩
theorem xw_ml_X5_87 : Cond.methodLink RX5 87 yX5_kindOf ∈ xmTs := List.mem_filter.mpr ⟨List.mem_of_getElem? (i := 743) (by decide +kernel), by decide +kernel⟩
theorem xw_ins_X5_kindOf : Cond.instanceMethod yX5_kindOf ∈ xmTs := List.mem_filter.mpr ⟨List.mem_of_getElem? (i := 745) (by decide +kernel), by decide +kernel⟩
theorem xw_cod_X5_kindOf : Cond.code yX5_kindOf cX5_kindOf 5 (some (FieldType.int)) ∈ xmTs := List.mem_filter.mpr ⟨List.mem_of_getElem? (i := 746) (by decide +kernel), by decide +kernel⟩
theorem xw_ml_X5_80 : Cond.methodLink RX5 80 yX5_plain ∈ xmTs := List.mem_filter.mpr ⟨List.mem_of_getElem? (i := 747) (by decide +kernel), by decide +kernel⟩
theorem xw_ins_X5_plain : Cond.instanceMethod yX5_plain ∈ xmTs := List.mem_filter.mpr ⟨List.mem_of_getElem? (i := 749) (by decide +kernel), by decide +kernel⟩
theorem xw_cod_X5_plain : Cond.code yX5_plain cX5_plain 3 (some (FieldType.int)) ∈ xmTs := List.mem_filter.mpr ⟨List.mem_of_getElem? (i := 750) (by decide +kernel), by decide +kernel⟩
theorem xw_ml_X5_127 : Cond.methodLink RX5 127 yX5_scale ∈ xmTs := List.mem_filter.mpr ⟨List.mem_of_getElem? (i := 751) (by decide +kernel), by decide +kernel⟩
theorem xw_ins_X5_scale : Cond.instanceMethod yX5_scale ∈ xmTs := List.mem_filter.mpr ⟨List.mem_of_getElem? (i := 753) (by decide +kernel), by decide +kernel⟩
theorem xw_cod_X5_scale : Cond.code yX5_scale cX5_scale 2 (some (FieldType.int)) ∈ xmTs := List.mem_filter.mpr ⟨List.mem_of_getElem? (i := 754) (by decide +kernel), by decide +kernel⟩
theorem xw_ml_L_27 : Cond.methodLink RL 27 yX5_kind ∈ xmTs := List.mem_filter.mpr ⟨List.mem_of_getElem? (i := 755) (by decide +kernel), by decide +kernel⟩
theorem xw_ins_X5_kind : Cond.instanceMethod yX5_kind ∈ xmTs := List.mem_filter.mpr ⟨List.mem_of_getElem? (i := 756) (by decide +kernel), by decide +kernel⟩
theorem xw_sel_X5_kind : Cond.selects yX5_kind.cls yX5_kind yX5_kind ∈ xmTs := List.mem_filter.mpr ⟨List.mem_of_getElem? (i := 757) (by decide +kernel), by decide +kernel⟩
theorem xw_cod_X5_kind : Cond.code yX5_kind cX5_kind 4 (some (FieldType.int)) ∈ xmTs := List.mem_filter.mpr ⟨List.mem_of_getElem? (i := 758) (by decide +kernel), by decide +kernel⟩
theorem xw_ml_X5_130 : Cond.methodLink RX5 130 yX5_isCode ∈ xmTs := List.mem_filter.mpr ⟨List.mem_of_getElem? (i := 759) (by decide +kernel), by decide +kernel⟩
theorem xw_ins_X5_isCode : Cond.instanceMethod yX5_isCode ∈ xmTs := List.mem_filter.mpr ⟨List.mem_of_getElem? (i := 761) (by decide +kernel), by decide +kernel⟩
theorem xw_cod_X5_isCode : Cond.code yX5_isCode cX5_isCode 3 (some (FieldType.boolean)) ∈ xmTs := List.mem_filter.mpr ⟨List.mem_of_getElem? (i := 762) (by decide +kernel), by decide +kernel⟩
theorem xw_ml_X5_96 : Cond.methodLink RX5 96 yX5_isMinus ∈ xmTs := List.mem_filter.mpr ⟨List.mem_of_getElem? (i := 763) (by decide +kernel), by decide +kernel⟩
theorem xw_ins_X5_isMinus : Cond.instanceMethod yX5_isMinus ∈ xmTs := List.mem_filter.mpr ⟨List.mem_of_getElem? (i := 765) (by decide +kernel), by decide +kernel⟩
theorem xw_cod_X5_isMinus : Cond.code yX5_isMinus cX5_isMinus 3 (some (FieldType.boolean)) ∈ xmTs := List.mem_filter.mpr ⟨List.mem_of_getElem? (i := 766) (by decide +kernel), by decide +kernel⟩
theorem xw_ml_L_32 : Cond.methodLink RL 32 yX5_units ∈ xmTs := List.mem_filter.mpr ⟨List.mem_of_getElem? (i := 767) (by decide +kernel), by decide +kernel⟩
theorem xw_ins_X5_units : Cond.instanceMethod yX5_units ∈ xmTs := List.mem_filter.mpr ⟨List.mem_of_getElem? (i := 768) (by decide +kernel), by decide +kernel⟩
theorem xw_sel_X5_units : Cond.selects yX5_units.cls yX5_units yX5_units ∈ xmTs := List.mem_filter.mpr ⟨List.mem_of_getElem? (i := 769) (by decide +kernel), by decide +kernel⟩
theorem xw_cod_X5_units : Cond.code yX5_units cX5_units 4 (some (FieldType.long)) ∈ xmTs := List.mem_filter.mpr ⟨List.mem_of_getElem? (i := 770) (by decide +kernel), by decide +kernel⟩
theorem xw_cst_X5_133 : Cond.constantLong RX5 133 (-9223372036854775808) ∈ xmTs := List.mem_filter.mpr ⟨List.mem_of_getElem? (i := 771) (by decide +kernel), by decide +kernel⟩
theorem xw_ml_X5_135 : Cond.methodLink RX5 135 yX5_unitsOf ∈ xmTs := List.mem_filter.mpr ⟨List.mem_of_getElem? (i := 772) (by decide +kernel), by decide +kernel⟩
theorem xw_ins_X5_unitsOf : Cond.instanceMethod yX5_unitsOf ∈ xmTs := List.mem_filter.mpr ⟨List.mem_of_getElem? (i := 774) (by decide +kernel), by decide +kernel⟩
theorem xw_cod_X5_unitsOf : Cond.code yX5_unitsOf cX5_unitsOf 5 (some (FieldType.long)) ∈ xmTs := List.mem_filter.mpr ⟨List.mem_of_getElem? (i := 775) (by decide +kernel), by decide +kernel⟩
theorem xw_ml_X5_92 : Cond.methodLink RX5 92 yX5_size ∈ xmTs := List.mem_filter.mpr ⟨List.mem_of_getElem? (i := 776) (by decide +kernel), by decide +kernel⟩
theorem xw_ins_X5_size : Cond.instanceMethod yX5_size ∈ xmTs := List.mem_filter.mpr ⟨List.mem_of_getElem? (i := 778) (by decide +kernel), by decide +kernel⟩
theorem xw_cod_X5_size : Cond.code yX5_size cX5_size 6 (some (FieldType.long)) ∈ xmTs := List.mem_filter.mpr ⟨List.mem_of_getElem? (i := 779) (by decide +kernel), by decide +kernel⟩
theorem xw_ml_L_39 : Cond.methodLink RL 39 yX5_code ∈ xmTs := List.mem_filter.mpr ⟨List.mem_of_getElem? (i := 780) (by decide +kernel), by decide +kernel⟩
theorem xw_ins_X5_code : Cond.instanceMethod yX5_code ∈ xmTs := List.mem_filter.mpr ⟨List.mem_of_getElem? (i := 781) (by decide +kernel), by decide +kernel⟩
theorem xw_sel_X5_code : Cond.selects yX5_code.cls yX5_code yX5_code ∈ xmTs := List.mem_filter.mpr ⟨List.mem_of_getElem? (i := 782) (by decide +kernel), by decide +kernel⟩
theorem xw_cod_X5_code : Cond.code yX5_code cX5_code 7 (some (FieldType.int)) ∈ xmTs := List.mem_filter.mpr ⟨List.mem_of_getElem? (i := 783) (by decide +kernel), by decide +kernel⟩
theorem xw_cst_X5_170 : Cond.constantLong RX5 170 (-1099511627776) ∈ xmTs := List.mem_filter.mpr ⟨List.mem_of_getElem? (i := 784) (by decide +kernel), by decide +kernel⟩
theorem xw_cst_X5_172 : Cond.constantLong RX5 172 (1099511627776) ∈ xmTs := List.mem_filter.mpr ⟨List.mem_of_getElem? (i := 785) (by decide +kernel), by decide +kernel⟩
theorem xw_cst_X5_174 : Cond.constantLong RX5 174 (1048576) ∈ xmTs := List.mem_filter.mpr ⟨List.mem_of_getElem? (i := 786) (by decide +kernel), by decide +kernel⟩
theorem xw_ml_X5_176 : Cond.methodLink RX5 176 yX5_begins ∈ xmTs := List.mem_filter.mpr ⟨List.mem_of_getElem? (i := 787) (by decide +kernel), by decide +kernel⟩
theorem xw_ins_X5_begins : Cond.instanceMethod yX5_begins ∈ xmTs := List.mem_filter.mpr ⟨List.mem_of_getElem? (i := 789) (by decide +kernel), by decide +kernel⟩
theorem xw_cod_X5_begins : Cond.code yX5_begins cX5_begins 1 none ∈ xmTs := List.mem_filter.mpr ⟨List.mem_of_getElem? (i := 790) (by decide +kernel), by decide +kernel⟩
theorem xw_ml_X5_179 : Cond.methodLink RX5 179 yX5_roundedFraction ∈ xmTs := List.mem_filter.mpr ⟨List.mem_of_getElem? (i := 791) (by decide +kernel), by decide +kernel⟩
theorem xw_ins_X5_roundedFraction : Cond.instanceMethod yX5_roundedFraction ∈ xmTs := List.mem_filter.mpr ⟨List.mem_of_getElem? (i := 793) (by decide +kernel), by decide +kernel⟩
theorem xw_cod_X5_roundedFraction : Cond.code yX5_roundedFraction cX5_roundedFraction 8 (some (FieldType.int)) ∈ xmTs := List.mem_filter.mpr ⟨List.mem_of_getElem? (i := 794) (by decide +kernel), by decide +kernel⟩
theorem xw_ml_X5_149 : Cond.methodLink RX5 149 yX5_signed ∈ xmTs := List.mem_filter.mpr ⟨List.mem_of_getElem? (i := 795) (by decide +kernel), by decide +kernel⟩
theorem xw_ins_X5_signed : Cond.instanceMethod yX5_signed ∈ xmTs := List.mem_filter.mpr ⟨List.mem_of_getElem? (i := 797) (by decide +kernel), by decide +kernel⟩
theorem xw_cod_X5_signed : Cond.code yX5_signed cX5_signed 4 (some (FieldType.int)) ∈ xmTs := List.mem_filter.mpr ⟨List.mem_of_getElem? (i := 798) (by decide +kernel), by decide +kernel⟩
theorem xw_ml_X5_167 : Cond.methodLink RX5 167 yX5_rounded ∈ xmTs := List.mem_filter.mpr ⟨List.mem_of_getElem? (i := 799) (by decide +kernel), by decide +kernel⟩
theorem xw_ins_X5_rounded : Cond.instanceMethod yX5_rounded ∈ xmTs := List.mem_filter.mpr ⟨List.mem_of_getElem? (i := 801) (by decide +kernel), by decide +kernel⟩
theorem xw_cod_X5_rounded : Cond.code yX5_rounded cX5_rounded 9 (some (FieldType.int)) ∈ xmTs := List.mem_filter.mpr ⟨List.mem_of_getElem? (i := 802) (by decide +kernel), by decide +kernel⟩
theorem xw_ml_X5_155 : Cond.methodLink RX5 155 yX5_twiceBeside ∈ xmTs := List.mem_filter.mpr ⟨List.mem_of_getElem? (i := 803) (by decide +kernel), by decide +kernel⟩
theorem xw_ins_X5_twiceBeside : Cond.instanceMethod yX5_twiceBeside ∈ xmTs := List.mem_filter.mpr ⟨List.mem_of_getElem? (i := 805) (by decide +kernel), by decide +kernel⟩
theorem xw_cod_X5_twiceBeside : Cond.code yX5_twiceBeside cX5_twiceBeside 7 (some (FieldType.int)) ∈ xmTs := List.mem_filter.mpr ⟨List.mem_of_getElem? (i := 806) (by decide +kernel), by decide +kernel⟩
theorem xw_ml_X5_163 : Cond.methodLink RX5 163 yX5_roundedAbove ∈ xmTs := List.mem_filter.mpr ⟨List.mem_of_getElem? (i := 807) (by decide +kernel), by decide +kernel⟩
theorem xw_ins_X5_roundedAbove : Cond.instanceMethod yX5_roundedAbove ∈ xmTs := List.mem_filter.mpr ⟨List.mem_of_getElem? (i := 809) (by decide +kernel), by decide +kernel⟩
theorem xw_cod_X5_roundedAbove : Cond.code yX5_roundedAbove cX5_roundedAbove 7 (some (FieldType.int)) ∈ xmTs := List.mem_filter.mpr ⟨List.mem_of_getElem? (i := 810) (by decide +kernel), by decide +kernel⟩
theorem xw_cst_X5_153 : Cond.constantLong RX5 153 (3) ∈ xmTs := List.mem_filter.mpr ⟨List.mem_of_getElem? (i := 811) (by decide +kernel), by decide +kernel⟩
theorem xw_ml_X5_159 : Cond.methodLink RX5 159 yX5_beyond ∈ xmTs := List.mem_filter.mpr ⟨List.mem_of_getElem? (i := 812) (by decide +kernel), by decide +kernel⟩
theorem xw_ins_X5_beyond : Cond.instanceMethod yX5_beyond ∈ xmTs := List.mem_filter.mpr ⟨List.mem_of_getElem? (i := 814) (by decide +kernel), by decide +kernel⟩
theorem xw_cod_X5_beyond : Cond.code yX5_beyond cX5_beyond 3 (some (FieldType.int)) ∈ xmTs := List.mem_filter.mpr ⟨List.mem_of_getElem? (i := 815) (by decide +kernel), by decide +kernel⟩
theorem xw_ml_X5_183 : Cond.methodLink RX5 183 yX5_ends ∈ xmTs := List.mem_filter.mpr ⟨List.mem_of_getElem? (i := 816) (by decide +kernel), by decide +kernel⟩
theorem xw_ins_X5_ends : Cond.instanceMethod yX5_ends ∈ xmTs := List.mem_filter.mpr ⟨List.mem_of_getElem? (i := 818) (by decide +kernel), by decide +kernel⟩
theorem xw_cod_X5_ends : Cond.code yX5_ends cX5_ends 2 (some (FieldType.int)) ∈ xmTs := List.mem_filter.mpr ⟨List.mem_of_getElem? (i := 819) (by decide +kernel), by decide +kernel⟩
theorem xw_ml_L_44 : Cond.methodLink RL 44 yX5_cross ∈ xmTs := List.mem_filter.mpr ⟨List.mem_of_getElem? (i := 820) (by decide +kernel), by decide +kernel⟩
theorem xw_ins_X5_cross : Cond.instanceMethod yX5_cross ∈ xmTs := List.mem_filter.mpr ⟨List.mem_of_getElem? (i := 821) (by decide +kernel), by decide +kernel⟩
theorem xw_sel_X5_cross : Cond.selects yX5_cross.cls yX5_cross yX5_cross ∈ xmTs := List.mem_filter.mpr ⟨List.mem_of_getElem? (i := 822) (by decide +kernel), by decide +kernel⟩
theorem xw_cod_X5_cross : Cond.code yX5_cross cX5_cross 5 (some (FieldType.int)) ∈ xmTs := List.mem_filter.mpr ⟨List.mem_of_getElem? (i := 823) (by decide +kernel), by decide +kernel⟩
theorem xw_ml_X5_192 : Cond.methodLink RX5 192 yX5_crossed ∈ xmTs := List.mem_filter.mpr ⟨List.mem_of_getElem? (i := 824) (by decide +kernel), by decide +kernel⟩
theorem xw_ins_X5_crossed : Cond.instanceMethod yX5_crossed ∈ xmTs := List.mem_filter.mpr ⟨List.mem_of_getElem? (i := 826) (by decide +kernel), by decide +kernel⟩
theorem xw_cod_X5_crossed : Cond.code yX5_crossed cX5_crossed 10 (some (FieldType.int)) ∈ xmTs := List.mem_filter.mpr ⟨List.mem_of_getElem? (i := 827) (by decide +kernel), by decide +kernel⟩
theorem xw_ml_X5_189 : Cond.methodLink RX5 189 yX5_invalidIn ∈ xmTs := List.mem_filter.mpr ⟨List.mem_of_getElem? (i := 828) (by decide +kernel), by decide +kernel⟩
theorem xw_ins_X5_invalidIn : Cond.instanceMethod yX5_invalidIn ∈ xmTs := List.mem_filter.mpr ⟨List.mem_of_getElem? (i := 830) (by decide +kernel), by decide +kernel⟩
theorem xw_cod_X5_invalidIn : Cond.code yX5_invalidIn cX5_invalidIn 2 (some (FieldType.int)) ∈ xmTs := List.mem_filter.mpr ⟨List.mem_of_getElem? (i := 831) (by decide +kernel), by decide +kernel⟩
theorem xw_ml_L_49 : Cond.methodLink RL 49 yX5_act ∈ xmTs := List.mem_filter.mpr ⟨List.mem_of_getElem? (i := 832) (by decide +kernel), by decide +kernel⟩
theorem xw_ins_X5_act : Cond.instanceMethod yX5_act ∈ xmTs := List.mem_filter.mpr ⟨List.mem_of_getElem? (i := 833) (by decide +kernel), by decide +kernel⟩
theorem xw_sel_X5_act : Cond.selects yX5_act.cls yX5_act yX5_act ∈ xmTs := List.mem_filter.mpr ⟨List.mem_of_getElem? (i := 834) (by decide +kernel), by decide +kernel⟩
theorem xw_cod_X5_act : Cond.code yX5_act cX5_act 6 (some (FieldType.int)) ∈ xmTs := List.mem_filter.mpr ⟨List.mem_of_getElem? (i := 835) (by decide +kernel), by decide +kernel⟩
theorem xw_ml_X5_226 : Cond.methodLink RX5 226 yX5_acted ∈ xmTs := List.mem_filter.mpr ⟨List.mem_of_getElem? (i := 836) (by decide +kernel), by decide +kernel⟩
theorem xw_ins_X5_acted : Cond.instanceMethod yX5_acted ∈ xmTs := List.mem_filter.mpr ⟨List.mem_of_getElem? (i := 838) (by decide +kernel), by decide +kernel⟩
theorem xw_cod_X5_acted : Cond.code yX5_acted cX5_acted 6 (some (FieldType.int)) ∈ xmTs := List.mem_filter.mpr ⟨List.mem_of_getElem? (i := 839) (by decide +kernel), by decide +kernel⟩
theorem xw_ml_X5_210 : Cond.methodLink RX5 210 yX5_summed ∈ xmTs := List.mem_filter.mpr ⟨List.mem_of_getElem? (i := 840) (by decide +kernel), by decide +kernel⟩
theorem xw_ins_X5_summed : Cond.instanceMethod yX5_summed ∈ xmTs := List.mem_filter.mpr ⟨List.mem_of_getElem? (i := 842) (by decide +kernel), by decide +kernel⟩
theorem xw_cod_X5_summed : Cond.code yX5_summed cX5_summed 12 (some (FieldType.int)) ∈ xmTs := List.mem_filter.mpr ⟨List.mem_of_getElem? (i := 843) (by decide +kernel), by decide +kernel⟩
theorem xw_ml_X5_200 : Cond.methodLink RX5 200 yX5_isEndless ∈ xmTs := List.mem_filter.mpr ⟨List.mem_of_getElem? (i := 844) (by decide +kernel), by decide +kernel⟩
theorem xw_ins_X5_isEndless : Cond.instanceMethod yX5_isEndless ∈ xmTs := List.mem_filter.mpr ⟨List.mem_of_getElem? (i := 846) (by decide +kernel), by decide +kernel⟩
theorem xw_cod_X5_isEndless : Cond.code yX5_isEndless cX5_isEndless 3 (some (FieldType.boolean)) ∈ xmTs := List.mem_filter.mpr ⟨List.mem_of_getElem? (i := 847) (by decide +kernel), by decide +kernel⟩
theorem xw_ml_X5_206 : Cond.methodLink RX5 206 yX5_endlessSum ∈ xmTs := List.mem_filter.mpr ⟨List.mem_of_getElem? (i := 848) (by decide +kernel), by decide +kernel⟩
theorem xw_ins_X5_endlessSum : Cond.instanceMethod yX5_endlessSum ∈ xmTs := List.mem_filter.mpr ⟨List.mem_of_getElem? (i := 850) (by decide +kernel), by decide +kernel⟩
theorem xw_cod_X5_endlessSum : Cond.code yX5_endlessSum cX5_endlessSum 6 (some (FieldType.int)) ∈ xmTs := List.mem_filter.mpr ⟨List.mem_of_getElem? (i := 851) (by decide +kernel), by decide +kernel⟩
theorem xw_ml_X5_203 : Cond.methodLink RX5 203 yX5_endlessOr ∈ xmTs := List.mem_filter.mpr ⟨List.mem_of_getElem? (i := 852) (by decide +kernel), by decide +kernel⟩
theorem xw_ins_X5_endlessOr : Cond.instanceMethod yX5_endlessOr ∈ xmTs := List.mem_filter.mpr ⟨List.mem_of_getElem? (i := 854) (by decide +kernel), by decide +kernel⟩
theorem xw_cod_X5_endlessOr : Cond.code yX5_endlessOr cX5_endlessOr 3 (some (FieldType.int)) ∈ xmTs := List.mem_filter.mpr ⟨List.mem_of_getElem? (i := 855) (by decide +kernel), by decide +kernel⟩
theorem xw_ml_X5_214 : Cond.methodLink RX5 214 yX5_multiplied ∈ xmTs := List.mem_filter.mpr ⟨List.mem_of_getElem? (i := 856) (by decide +kernel), by decide +kernel⟩
theorem xw_ins_X5_multiplied : Cond.instanceMethod yX5_multiplied ∈ xmTs := List.mem_filter.mpr ⟨List.mem_of_getElem? (i := 858) (by decide +kernel), by decide +kernel⟩
theorem xw_cod_X5_multiplied : Cond.code yX5_multiplied cX5_multiplied 6 (some (FieldType.int)) ∈ xmTs := List.mem_filter.mpr ⟨List.mem_of_getElem? (i := 859) (by decide +kernel), by decide +kernel⟩
theorem xw_ml_X5_217 : Cond.methodLink RX5 217 yX5_divided ∈ xmTs := List.mem_filter.mpr ⟨List.mem_of_getElem? (i := 860) (by decide +kernel), by decide +kernel⟩
theorem xw_ins_X5_divided : Cond.instanceMethod yX5_divided ∈ xmTs := List.mem_filter.mpr ⟨List.mem_of_getElem? (i := 862) (by decide +kernel), by decide +kernel⟩
theorem xw_cod_X5_divided : Cond.code yX5_divided cX5_divided 12 (some (FieldType.int)) ∈ xmTs := List.mem_filter.mpr ⟨List.mem_of_getElem? (i := 863) (by decide +kernel), by decide +kernel⟩
theorem xw_ml_X5_220 : Cond.methodLink RX5 220 yX5_rooted ∈ xmTs := List.mem_filter.mpr ⟨List.mem_of_getElem? (i := 864) (by decide +kernel), by decide +kernel⟩
theorem xw_ins_X5_rooted : Cond.instanceMethod yX5_rooted ∈ xmTs := List.mem_filter.mpr ⟨List.mem_of_getElem? (i := 866) (by decide +kernel), by decide +kernel⟩
theorem xw_cod_X5_rooted : Cond.code yX5_rooted cX5_rooted 4 (some (FieldType.int)) ∈ xmTs := List.mem_filter.mpr ⟨List.mem_of_getElem? (i := 867) (by decide +kernel), by decide +kernel⟩
theorem xw_ml_X5_223 : Cond.methodLink RX5 223 yX5_lesser ∈ xmTs := List.mem_filter.mpr ⟨List.mem_of_getElem? (i := 868) (by decide +kernel), by decide +kernel⟩
theorem xw_ins_X5_lesser : Cond.instanceMethod yX5_lesser ∈ xmTs := List.mem_filter.mpr ⟨List.mem_of_getElem? (i := 870) (by decide +kernel), by decide +kernel⟩
theorem xw_cod_X5_lesser : Cond.code yX5_lesser cX5_lesser 6 (some (FieldType.int)) ∈ xmTs := List.mem_filter.mpr ⟨List.mem_of_getElem? (i := 871) (by decide +kernel), by decide +kernel⟩
theorem xw_ml_X5_196 : Cond.methodLink RX5 196 yX5_beside ∈ xmTs := List.mem_filter.mpr ⟨List.mem_of_getElem? (i := 872) (by decide +kernel), by decide +kernel⟩
theorem xw_ins_X5_beside : Cond.instanceMethod yX5_beside ∈ xmTs := List.mem_filter.mpr ⟨List.mem_of_getElem? (i := 874) (by decide +kernel), by decide +kernel⟩
theorem xw_cod_X5_beside : Cond.code yX5_beside cX5_beside 8 (some (FieldType.int)) ∈ xmTs := List.mem_filter.mpr ⟨List.mem_of_getElem? (i := 875) (by decide +kernel), by decide +kernel⟩
theorem xw_ml_L_53 : Cond.methodLink RL 53 yX5_fused ∈ xmTs := List.mem_filter.mpr ⟨List.mem_of_getElem? (i := 876) (by decide +kernel), by decide +kernel⟩
theorem xw_ins_X5_fused : Cond.instanceMethod yX5_fused ∈ xmTs := List.mem_filter.mpr ⟨List.mem_of_getElem? (i := 877) (by decide +kernel), by decide +kernel⟩
theorem xw_sel_X5_fused : Cond.selects yX5_fused.cls yX5_fused yX5_fused ∈ xmTs := List.mem_filter.mpr ⟨List.mem_of_getElem? (i := 878) (by decide +kernel), by decide +kernel⟩
theorem xw_cod_X5_fused : Cond.code yX5_fused cX5_fused 9 (some (FieldType.int)) ∈ xmTs := List.mem_filter.mpr ⟨List.mem_of_getElem? (i := 879) (by decide +kernel), by decide +kernel⟩
theorem xw_ml_X5_243 : Cond.methodLink RX5 243 yX5_comesProduct ∈ xmTs := List.mem_filter.mpr ⟨List.mem_of_getElem? (i := 880) (by decide +kernel), by decide +kernel⟩
theorem xw_ins_X5_comesProduct : Cond.instanceMethod yX5_comesProduct ∈ xmTs := List.mem_filter.mpr ⟨List.mem_of_getElem? (i := 882) (by decide +kernel), by decide +kernel⟩
theorem xw_cod_X5_comesProduct : Cond.code yX5_comesProduct cX5_comesProduct 6 none ∈ xmTs := List.mem_filter.mpr ⟨List.mem_of_getElem? (i := 883) (by decide +kernel), by decide +kernel⟩
theorem xw_ml_X5_233 : Cond.methodLink RX5 233 yX5_comesNone ∈ xmTs := List.mem_filter.mpr ⟨List.mem_of_getElem? (i := 884) (by decide +kernel), by decide +kernel⟩
theorem xw_ins_X5_comesNone : Cond.instanceMethod yX5_comesNone ∈ xmTs := List.mem_filter.mpr ⟨List.mem_of_getElem? (i := 886) (by decide +kernel), by decide +kernel⟩
theorem xw_cod_X5_comesNone : Cond.code yX5_comesNone cX5_comesNone 3 none ∈ xmTs := List.mem_filter.mpr ⟨List.mem_of_getElem? (i := 887) (by decide +kernel), by decide +kernel⟩
theorem xw_ml_X5_237 : Cond.methodLink RX5 237 yX5_comesEndless ∈ xmTs := List.mem_filter.mpr ⟨List.mem_of_getElem? (i := 888) (by decide +kernel), by decide +kernel⟩
theorem xw_ins_X5_comesEndless : Cond.instanceMethod yX5_comesEndless ∈ xmTs := List.mem_filter.mpr ⟨List.mem_of_getElem? (i := 890) (by decide +kernel), by decide +kernel⟩
theorem xw_cod_X5_comesEndless : Cond.code yX5_comesEndless cX5_comesEndless 3 none ∈ xmTs := List.mem_filter.mpr ⟨List.mem_of_getElem? (i := 891) (by decide +kernel), by decide +kernel⟩
theorem xw_ml_X5_247 : Cond.methodLink RX5 247 yX5_comes ∈ xmTs := List.mem_filter.mpr ⟨List.mem_of_getElem? (i := 892) (by decide +kernel), by decide +kernel⟩
theorem xw_ins_X5_comes : Cond.instanceMethod yX5_comes ∈ xmTs := List.mem_filter.mpr ⟨List.mem_of_getElem? (i := 894) (by decide +kernel), by decide +kernel⟩
theorem xw_cod_X5_comes : Cond.code yX5_comes cX5_comes 6 none ∈ xmTs := List.mem_filter.mpr ⟨List.mem_of_getElem? (i := 895) (by decide +kernel), by decide +kernel⟩
theorem xw_ml_X5_251 : Cond.methodLink RX5 251 yX5_whatCame ∈ xmTs := List.mem_filter.mpr ⟨List.mem_of_getElem? (i := 896) (by decide +kernel), by decide +kernel⟩
theorem xw_ins_X5_whatCame : Cond.instanceMethod yX5_whatCame ∈ xmTs := List.mem_filter.mpr ⟨List.mem_of_getElem? (i := 898) (by decide +kernel), by decide +kernel⟩
theorem xw_cod_X5_whatCame : Cond.code yX5_whatCame cX5_whatCame 6 (some (FieldType.int)) ∈ xmTs := List.mem_filter.mpr ⟨List.mem_of_getElem? (i := 899) (by decide +kernel), by decide +kernel⟩
theorem xw_ml_L_58 : Cond.methodLink RL 58 yX5_next ∈ xmTs := List.mem_filter.mpr ⟨List.mem_of_getElem? (i := 900) (by decide +kernel), by decide +kernel⟩
theorem xw_ins_X5_next : Cond.instanceMethod yX5_next ∈ xmTs := List.mem_filter.mpr ⟨List.mem_of_getElem? (i := 901) (by decide +kernel), by decide +kernel⟩
theorem xw_sel_X5_next : Cond.selects yX5_next.cls yX5_next yX5_next ∈ xmTs := List.mem_filter.mpr ⟨List.mem_of_getElem? (i := 902) (by decide +kernel), by decide +kernel⟩
theorem xw_cod_X5_next : Cond.code yX5_next cX5_next 7 (some (FieldType.int)) ∈ xmTs := List.mem_filter.mpr ⟨List.mem_of_getElem? (i := 903) (by decide +kernel), by decide +kernel⟩
theorem xw_ml_L_62 : Cond.methodLink RL 62 yX5_order ∈ xmTs := List.mem_filter.mpr ⟨List.mem_of_getElem? (i := 904) (by decide +kernel), by decide +kernel⟩
theorem xw_ins_X5_order : Cond.instanceMethod yX5_order ∈ xmTs := List.mem_filter.mpr ⟨List.mem_of_getElem? (i := 905) (by decide +kernel), by decide +kernel⟩
theorem xw_sel_X5_order : Cond.selects yX5_order.cls yX5_order yX5_order ∈ xmTs := List.mem_filter.mpr ⟨List.mem_of_getElem? (i := 906) (by decide +kernel), by decide +kernel⟩
theorem xw_cod_X5_order : Cond.code yX5_order cX5_order 4 (some (FieldType.int)) ∈ xmTs := List.mem_filter.mpr ⟨List.mem_of_getElem? (i := 907) (by decide +kernel), by decide +kernel⟩
theorem xw_ml_L_67 : Cond.methodLink RL 67 yX5_numbers ∈ xmTs := List.mem_filter.mpr ⟨List.mem_of_getElem? (i := 908) (by decide +kernel), by decide +kernel⟩
theorem xw_ins_X5_numbers : Cond.instanceMethod yX5_numbers ∈ xmTs := List.mem_filter.mpr ⟨List.mem_of_getElem? (i := 909) (by decide +kernel), by decide +kernel⟩
theorem xw_sel_X5_numbers : Cond.selects yX5_numbers.cls yX5_numbers yX5_numbers ∈ xmTs := List.mem_filter.mpr ⟨List.mem_of_getElem? (i := 910) (by decide +kernel), by decide +kernel⟩
theorem xw_cod_X5_numbers : Cond.code yX5_numbers cX5_numbers 8 (some (FieldType.int)) ∈ xmTs := List.mem_filter.mpr ⟨List.mem_of_getElem? (i := 911) (by decide +kernel), by decide +kernel⟩
theorem xw_ml_L_71 : Cond.methodLink RL 71 yX5_row ∈ xmTs := List.mem_filter.mpr ⟨List.mem_of_getElem? (i := 912) (by decide +kernel), by decide +kernel⟩
theorem xw_ins_X5_row : Cond.instanceMethod yX5_row ∈ xmTs := List.mem_filter.mpr ⟨List.mem_of_getElem? (i := 913) (by decide +kernel), by decide +kernel⟩
theorem xw_sel_X5_row : Cond.selects yX5_row.cls yX5_row yX5_row ∈ xmTs := List.mem_filter.mpr ⟨List.mem_of_getElem? (i := 914) (by decide +kernel), by decide +kernel⟩
theorem xw_cod_X5_row : Cond.code yX5_row cX5_row 5 (some (FieldType.int)) ∈ xmTs := List.mem_filter.mpr ⟨List.mem_of_getElem? (i := 915) (by decide +kernel), by decide +kernel⟩
theorem xw_cst_X5_255 : Cond.constantLong RX5 255 (16) ∈ xmTs := List.mem_filter.mpr ⟨List.mem_of_getElem? (i := 916) (by decide +kernel), by decide +kernel⟩
theorem xw_ml_L_75 : Cond.methodLink RL 75 yX5_put ∈ xmTs := List.mem_filter.mpr ⟨List.mem_of_getElem? (i := 917) (by decide +kernel), by decide +kernel⟩
theorem xw_ins_X5_put : Cond.instanceMethod yX5_put ∈ xmTs := List.mem_filter.mpr ⟨List.mem_of_getElem? (i := 918) (by decide +kernel), by decide +kernel⟩
theorem xw_sel_X5_put : Cond.selects yX5_put.cls yX5_put yX5_put ∈ xmTs := List.mem_filter.mpr ⟨List.mem_of_getElem? (i := 919) (by decide +kernel), by decide +kernel⟩
theorem xw_cod_X5_put : Cond.code yX5_put cX5_put 5 (some (FieldType.int)) ∈ xmTs := List.mem_filter.mpr ⟨List.mem_of_getElem? (i := 920) (by decide +kernel), by decide +kernel⟩
theorem xw_ml_X5_257 : Cond.methodLink RX5 257 yX5_isRow ∈ xmTs := List.mem_filter.mpr ⟨List.mem_of_getElem? (i := 921) (by decide +kernel), by decide +kernel⟩
theorem xw_ins_X5_isRow : Cond.instanceMethod yX5_isRow ∈ xmTs := List.mem_filter.mpr ⟨List.mem_of_getElem? (i := 923) (by decide +kernel), by decide +kernel⟩
theorem xw_cod_X5_isRow : Cond.code yX5_isRow cX5_isRow 2 (some (FieldType.boolean)) ∈ xmTs := List.mem_filter.mpr ⟨List.mem_of_getElem? (i := 924) (by decide +kernel), by decide +kernel⟩
theorem xw_ml_L_79 : Cond.methodLink RL 79 yX5_at ∈ xmTs := List.mem_filter.mpr ⟨List.mem_of_getElem? (i := 925) (by decide +kernel), by decide +kernel⟩
theorem xw_ins_X5_at : Cond.instanceMethod yX5_at ∈ xmTs := List.mem_filter.mpr ⟨List.mem_of_getElem? (i := 926) (by decide +kernel), by decide +kernel⟩
theorem xw_sel_X5_at : Cond.selects yX5_at.cls yX5_at yX5_at ∈ xmTs := List.mem_filter.mpr ⟨List.mem_of_getElem? (i := 927) (by decide +kernel), by decide +kernel⟩
theorem xw_cod_X5_at : Cond.code yX5_at cX5_at 3 (some (FieldType.int)) ∈ xmTs := List.mem_filter.mpr ⟨List.mem_of_getElem? (i := 928) (by decide +kernel), by decide +kernel⟩
theorem xw_ml_L_83 : Cond.methodLink RL 83 yX5_packed ∈ xmTs := List.mem_filter.mpr ⟨List.mem_of_getElem? (i := 929) (by decide +kernel), by decide +kernel⟩
theorem xw_ins_X5_packed : Cond.instanceMethod yX5_packed ∈ xmTs := List.mem_filter.mpr ⟨List.mem_of_getElem? (i := 930) (by decide +kernel), by decide +kernel⟩
theorem xw_sel_X5_packed : Cond.selects yX5_packed.cls yX5_packed yX5_packed ∈ xmTs := List.mem_filter.mpr ⟨List.mem_of_getElem? (i := 931) (by decide +kernel), by decide +kernel⟩
theorem xw_cod_X5_packed : Cond.code yX5_packed cX5_packed 9 (some (FieldType.int)) ∈ xmTs := List.mem_filter.mpr ⟨List.mem_of_getElem? (i := 932) (by decide +kernel), by decide +kernel⟩
theorem xw_ml_L_87 : Cond.methodLink RL 87 yX5_quantise ∈ xmTs := List.mem_filter.mpr ⟨List.mem_of_getElem? (i := 933) (by decide +kernel), by decide +kernel⟩
theorem xw_ins_X5_quantise : Cond.instanceMethod yX5_quantise ∈ xmTs := List.mem_filter.mpr ⟨List.mem_of_getElem? (i := 934) (by decide +kernel), by decide +kernel⟩
theorem xw_sel_X5_quantise : Cond.selects yX5_quantise.cls yX5_quantise yX5_quantise ∈ xmTs := List.mem_filter.mpr ⟨List.mem_of_getElem? (i := 935) (by decide +kernel), by decide +kernel⟩
theorem xw_cod_X5_quantise : Cond.code yX5_quantise cX5_quantise 6 (some (FieldType.int)) ∈ xmTs := List.mem_filter.mpr ⟨List.mem_of_getElem? (i := 936) (by decide +kernel), by decide +kernel⟩
theorem xw_ml_L_91 : Cond.methodLink RL 91 yX5_worst ∈ xmTs := List.mem_filter.mpr ⟨List.mem_of_getElem? (i := 937) (by decide +kernel), by decide +kernel⟩
theorem xw_ins_X5_worst : Cond.instanceMethod yX5_worst ∈ xmTs := List.mem_filter.mpr ⟨List.mem_of_getElem? (i := 938) (by decide +kernel), by decide +kernel⟩
theorem xw_sel_X5_worst : Cond.selects yX5_worst.cls yX5_worst yX5_worst ∈ xmTs := List.mem_filter.mpr ⟨List.mem_of_getElem? (i := 939) (by decide +kernel), by decide +kernel⟩
theorem xw_cod_X5_worst : Cond.code yX5_worst cX5_worst 14 (some (FieldType.int)) ∈ xmTs := List.mem_filter.mpr ⟨List.mem_of_getElem? (i := 940) (by decide +kernel), by decide +kernel⟩
theorem xw_ml_L_95 : Cond.methodLink RL 95 yX5_sum ∈ xmTs := List.mem_filter.mpr ⟨List.mem_of_getElem? (i := 941) (by decide +kernel), by decide +kernel⟩
theorem xw_ins_X5_sum : Cond.instanceMethod yX5_sum ∈ xmTs := List.mem_filter.mpr ⟨List.mem_of_getElem? (i := 942) (by decide +kernel), by decide +kernel⟩
theorem xw_sel_X5_sum : Cond.selects yX5_sum.cls yX5_sum yX5_sum ∈ xmTs := List.mem_filter.mpr ⟨List.mem_of_getElem? (i := 943) (by decide +kernel), by decide +kernel⟩
theorem xw_cod_X5_sum : Cond.code yX5_sum cX5_sum 7 (some (FieldType.int)) ∈ xmTs := List.mem_filter.mpr ⟨List.mem_of_getElem? (i := 944) (by decide +kernel), by decide +kernel⟩
theorem xw_ml_L_100 : Cond.methodLink RL 100 yX5_dot ∈ xmTs := List.mem_filter.mpr ⟨List.mem_of_getElem? (i := 945) (by decide +kernel), by decide +kernel⟩
theorem xw_ins_X5_dot : Cond.instanceMethod yX5_dot ∈ xmTs := List.mem_filter.mpr ⟨List.mem_of_getElem? (i := 946) (by decide +kernel), by decide +kernel⟩
theorem xw_sel_X5_dot : Cond.selects yX5_dot.cls yX5_dot yX5_dot ∈ xmTs := List.mem_filter.mpr ⟨List.mem_of_getElem? (i := 947) (by decide +kernel), by decide +kernel⟩
theorem xw_cod_X5_dot : Cond.code yX5_dot cX5_dot 10 (some (FieldType.int)) ∈ xmTs := List.mem_filter.mpr ⟨List.mem_of_getElem? (i := 948) (by decide +kernel), by decide +kernel⟩
theorem xw_ml_L_104 : Cond.methodLink RL 104 yX5_table ∈ xmTs := List.mem_filter.mpr ⟨List.mem_of_getElem? (i := 949) (by decide +kernel), by decide +kernel⟩
theorem xw_ins_X5_table : Cond.instanceMethod yX5_table ∈ xmTs := List.mem_filter.mpr ⟨List.mem_of_getElem? (i := 950) (by decide +kernel), by decide +kernel⟩
theorem xw_sel_X5_table : Cond.selects yX5_table.cls yX5_table yX5_table ∈ xmTs := List.mem_filter.mpr ⟨List.mem_of_getElem? (i := 951) (by decide +kernel), by decide +kernel⟩
theorem xw_cod_X5_table : Cond.code yX5_table cX5_table 4 (some (FieldType.int)) ∈ xmTs := List.mem_filter.mpr ⟨List.mem_of_getElem? (i := 952) (by decide +kernel), by decide +kernel⟩
theorem xw_ml_L_108 : Cond.methodLink RL 108 yX5_lookup ∈ xmTs := List.mem_filter.mpr ⟨List.mem_of_getElem? (i := 953) (by decide +kernel), by decide +kernel⟩
theorem xw_ins_X5_lookup : Cond.instanceMethod yX5_lookup ∈ xmTs := List.mem_filter.mpr ⟨List.mem_of_getElem? (i := 954) (by decide +kernel), by decide +kernel⟩
theorem xw_sel_X5_lookup : Cond.selects yX5_lookup.cls yX5_lookup yX5_lookup ∈ xmTs := List.mem_filter.mpr ⟨List.mem_of_getElem? (i := 955) (by decide +kernel), by decide +kernel⟩
theorem xw_cod_X5_lookup : Cond.code yX5_lookup cX5_lookup 5 (some (FieldType.int)) ∈ xmTs := List.mem_filter.mpr ⟨List.mem_of_getElem? (i := 956) (by decide +kernel), by decide +kernel⟩
theorem xw_ml_L_113 : Cond.methodLink RL 113 yX5_count ∈ xmTs := List.mem_filter.mpr ⟨List.mem_of_getElem? (i := 957) (by decide +kernel), by decide +kernel⟩
theorem xw_ins_X5_count : Cond.instanceMethod yX5_count ∈ xmTs := List.mem_filter.mpr ⟨List.mem_of_getElem? (i := 958) (by decide +kernel), by decide +kernel⟩
theorem xw_sel_X5_count : Cond.selects yX5_count.cls yX5_count yX5_count ∈ xmTs := List.mem_filter.mpr ⟨List.mem_of_getElem? (i := 959) (by decide +kernel), by decide +kernel⟩
theorem xw_cod_X5_count : Cond.code yX5_count cX5_count 2 (some (FieldType.int)) ∈ xmTs := List.mem_filter.mpr ⟨List.mem_of_getElem? (i := 960) (by decide +kernel), by decide +kernel⟩
theorem xw_ml_L_118 : Cond.methodLink RL 118 yX5_told ∈ xmTs := List.mem_filter.mpr ⟨List.mem_of_getElem? (i := 961) (by decide +kernel), by decide +kernel⟩
theorem xw_ins_X5_told : Cond.instanceMethod yX5_told ∈ xmTs := List.mem_filter.mpr ⟨List.mem_of_getElem? (i := 962) (by decide +kernel), by decide +kernel⟩
theorem xw_sel_X5_told : Cond.selects yX5_told.cls yX5_told yX5_told ∈ xmTs := List.mem_filter.mpr ⟨List.mem_of_getElem? (i := 963) (by decide +kernel), by decide +kernel⟩
theorem xw_cod_X5_told : Cond.code yX5_told cX5_told 1 (some (FieldType.int)) ∈ xmTs := List.mem_filter.mpr ⟨List.mem_of_getElem? (i := 964) (by decide +kernel), by decide +kernel⟩
theorem xw_cst_L_33 : Cond.constantLong RL 33 (4294967295) ∈ xmTs := List.mem_filter.mpr ⟨List.mem_of_getElem? (i := 965) (by decide +kernel), by decide +kernel⟩
theorem xin_0 : ∀ w ∈ u_ws RX0 TX0 1, w ∈ xmTs := by
  intro w hw
  obtain ⟨k, hk, rfl⟩ := List.mem_map.mp hw
  have hk := List.mem_range.mp hk
  match k, hk with
  | 0, _ => exact xw_lay_X0_0
  | k + 1, h => exact absurd h (by omega)
theorem xin_1 : ∀ w ∈ u_ws RX1 TX1 7, w ∈ xmTs := by
  intro w hw
  obtain ⟨k, hk, rfl⟩ := List.mem_map.mp hw
  have hk := List.mem_range.mp hk
  match k, hk with
  | 0, _ => exact xw_lay_X1_0
  | 1, _ => exact xw_lay_X1_1
  | 2, _ => exact xw_lay_X1_2
  | 3, _ => exact xw_lay_X1_3
  | 4, _ => exact xw_lay_X1_4
  | 5, _ => exact xw_lay_X1_5
  | 6, _ => exact xw_lay_X1_6
  | k + 7, h => exact absurd h (by omega)
theorem xin_2 : ∀ w ∈ u_ws RX2 TX2 3, w ∈ xmTs := by
  intro w hw
  obtain ⟨k, hk, rfl⟩ := List.mem_map.mp hw
  have hk := List.mem_range.mp hk
  match k, hk with
  | 0, _ => exact xw_lay_X2_0
  | 1, _ => exact xw_lay_X2_1
  | 2, _ => exact xw_lay_X2_2
  | k + 3, h => exact absurd h (by omega)
theorem xin_3 : ∀ w ∈ u_ws RX3 TX3 3, w ∈ xmTs := by
  intro w hw
  obtain ⟨k, hk, rfl⟩ := List.mem_map.mp hw
  have hk := List.mem_range.mp hk
  match k, hk with
  | 0, _ => exact xw_lay_X3_0
  | 1, _ => exact xw_lay_X3_1
  | 2, _ => exact xw_lay_X3_2
  | k + 3, h => exact absurd h (by omega)
theorem xin_4 : ∀ w ∈ u_ws RX4 TX4 11, w ∈ xmTs := by
  intro w hw
  obtain ⟨k, hk, rfl⟩ := List.mem_map.mp hw
  have hk := List.mem_range.mp hk
  match k, hk with
  | 0, _ => exact xw_lay_X4_0
  | 1, _ => exact xw_lay_X4_1
  | 2, _ => exact xw_lay_X4_2
  | 3, _ => exact xw_lay_X4_3
  | 4, _ => exact xw_lay_X4_4
  | 5, _ => exact xw_lay_X4_5
  | 6, _ => exact xw_lay_X4_6
  | 7, _ => exact xw_lay_X4_7
  | 8, _ => exact xw_lay_X4_8
  | 9, _ => exact xw_lay_X4_9
  | 10, _ => exact xw_lay_X4_10
  | k + 11, h => exact absurd h (by omega)
theorem xin_5 : ∀ w ∈ u_ws RX5 TX5 26, w ∈ xmTs := by
  intro w hw
  obtain ⟨k, hk, rfl⟩ := List.mem_map.mp hw
  have hk := List.mem_range.mp hk
  match k, hk with
  | 0, _ => exact xw_lay_X5_0
  | 1, _ => exact xw_lay_X5_1
  | 2, _ => exact xw_lay_X5_2
  | 3, _ => exact xw_lay_X5_3
  | 4, _ => exact xw_lay_X5_4
  | 5, _ => exact xw_lay_X5_5
  | 6, _ => exact xw_lay_X5_6
  | 7, _ => exact xw_lay_X5_7
  | 8, _ => exact xw_lay_X5_8
  | 9, _ => exact xw_lay_X5_9
  | 10, _ => exact xw_lay_X5_10
  | 11, _ => exact xw_lay_X5_11
  | 12, _ => exact xw_lay_X5_12
  | 13, _ => exact xw_lay_X5_13
  | 14, _ => exact xw_lay_X5_14
  | 15, _ => exact xw_lay_X5_15
  | 16, _ => exact xw_lay_X5_16
  | 17, _ => exact xw_lay_X5_17
  | 18, _ => exact xw_lay_X5_18
  | 19, _ => exact xw_lay_X5_19
  | 20, _ => exact xw_lay_X5_20
  | 21, _ => exact xw_lay_X5_21
  | 22, _ => exact xw_lay_X5_22
  | 23, _ => exact xw_lay_X5_23
  | 24, _ => exact xw_lay_X5_24
  | 25, _ => exact xw_lay_X5_25
  | k + 26, h => exact absurd h (by omega)
