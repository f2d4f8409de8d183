theorem wu_X0 : ∀ w ∈ u_ws RX0 TX0 3, w ∈ W0 := by decide +kernel
theorem wu_X1 : ∀ w ∈ u_ws RX1 TX1 12, w ∈ W0 := by decide +kernel
theorem wu_X2 : ∀ w ∈ u_ws RX2 TX2 1, w ∈ W0 := by decide +kernel
theorem wu_X3 : ∀ w ∈ u_ws RX3 TX3 4, w ∈ W0 := by decide +kernel
theorem wu_X4 : ∀ w ∈ u_ws RX4 TX4 5, w ∈ W0 := by decide +kernel
theorem wu_X5 : ∀ w ∈ u_ws RX5 TX5 9, w ∈ W0 := by decide +kernel
theorem wu_X6 : ∀ w ∈ u_ws RX6 TX6 12, w ∈ W0 := by decide +kernel
theorem wf_X5_19 : Cond.fieldLink RX5 19 "IceField" "saved" "[LIceField$Ice;" ∈ W0 := W0_at (i := 188) (by decide +kernel) (by decide +kernel)
theorem wf_X2_7 : Cond.fieldLink RX2 7 "IceField$Numbers" "numbers" "[I" ∈ W0 := W0_at (i := 34) (by decide +kernel) (by decide +kernel)
theorem wl_X2_13 : Cond.methodLink RX2 13 yX2_at ∈ W0 := W0_at (i := 234) (by decide +kernel) (by decide +kernel)
theorem wi_X2_at : Cond.instanceMethod yX2_at ∈ W0 := W0_at (i := 179) (by decide +kernel) (by decide +kernel)
theorem we_X2_at : Cond.selects RX2 yX2_at yX2_at ∈ W0 := W0_at (i := 180) (by decide +kernel) (by decide +kernel)
theorem wn_X2 : Cond.initialized RX2 ∈ W0 := W0_at (i := 3) (by decide +kernel) (by decide +kernel)
theorem wc_X2_at : Cond.code yX2_at cX2_at 2 (some .int) ∈ W0 := W0_at (i := 181) (by decide +kernel) (by decide +kernel)
theorem wf_X1_11 : Cond.fieldLink RX1 11 "IceField$Ice" "width" "I" ∈ W0 := W0_at (i := 39) (by decide +kernel) (by decide +kernel)
theorem wf_X1_15 : Cond.fieldLink RX1 15 "IceField$Ice" "height" "I" ∈ W0 := W0_at (i := 42) (by decide +kernel) (by decide +kernel)
theorem wf_X1_18 : Cond.fieldLink RX1 18 "IceField$Ice" "melt" "I" ∈ W0 := W0_at (i := 45) (by decide +kernel) (by decide +kernel)
theorem wf_X1_21 : Cond.fieldLink RX1 21 "IceField$Ice" "days" "I" ∈ W0 := W0_at (i := 47) (by decide +kernel) (by decide +kernel)
theorem wf_X1_24 : Cond.fieldLink RX1 24 "IceField$Ice" "laid" "I" ∈ W0 := W0_at (i := 49) (by decide +kernel) (by decide +kernel)
theorem wf_X1_27 : Cond.fieldLink RX1 27 "IceField$Ice" "melted" "I" ∈ W0 := W0_at (i := 51) (by decide +kernel) (by decide +kernel)
theorem wf_X1_30 : Cond.fieldLink RX1 30 "IceField$Ice" "takenVolume" "I" ∈ W0 := W0_at (i := 53) (by decide +kernel) (by decide +kernel)
theorem wf_X1_33 : Cond.fieldLink RX1 33 "IceField$Ice" "takenBlocks" "I" ∈ W0 := W0_at (i := 55) (by decide +kernel) (by decide +kernel)
theorem wf_X1_41 : Cond.fieldLink RX1 41 "IceField$Ice" "thickness" "LIceField$Numbers;" ∈ W0 := W0_at (i := 57) (by decide +kernel) (by decide +kernel)
theorem wl_X1_54 : Cond.methodLink RX1 54 yX2_copyFrom ∈ W0 := W0_at (i := 230) (by decide +kernel) (by decide +kernel)
theorem wi_X2_copyFrom : Cond.instanceMethod yX2_copyFrom ∈ W0 := W0_at (i := 231) (by decide +kernel) (by decide +kernel)
theorem we_X2_copyFrom : Cond.selects RX2 yX2_copyFrom yX2_copyFrom ∈ W0 := W0_at (i := 232) (by decide +kernel) (by decide +kernel)
theorem wc_X2_copyFrom : Cond.code yX2_copyFrom cX2_copyFrom 3 (none) ∈ W0 := W0_at (i := 233) (by decide +kernel) (by decide +kernel)
theorem wf_X1_45 : Cond.fieldLink RX1 45 "IceField$Ice" "cuts" "LIceField$Numbers;" ∈ W0 := W0_at (i := 59) (by decide +kernel) (by decide +kernel)
theorem wf_X1_48 : Cond.fieldLink RX1 48 "IceField$Ice" "kept" "LIceField$Numbers;" ∈ W0 := W0_at (i := 61) (by decide +kernel) (by decide +kernel)
theorem wf_X5_23 : Cond.fieldLink RX5 23 "IceField" "nextSaved" "I" ∈ W0 := W0_at (i := 189) (by decide +kernel) (by decide +kernel)
theorem wl_X5_253 : Cond.methodLink RX5 253 yX5_savedAt ∈ W0 := W0_at (i := 222) (by decide +kernel) (by decide +kernel)
theorem wi_X5_savedAt : Cond.instanceMethod yX5_savedAt ∈ W0 := W0_at (i := 224) (by decide +kernel) (by decide +kernel)
theorem we_X5_savedAt : Cond.selects RX5 yX5_savedAt yX5_savedAt ∈ W0 := W0_se (i := 1) (by decide +kernel) (by decide +kernel)
theorem wn_X5 : Cond.initialized RX5 ∈ W0 := W0_at (i := 1) (by decide +kernel) (by decide +kernel)
theorem wc_X5_savedAt : Cond.code yX5_savedAt cX5_savedAt 2 (some (.object "IceField$Ice")) ∈ W0 := W0_at (i := 225) (by decide +kernel) (by decide +kernel)
theorem wf_X5_10 : Cond.fieldLink RX5 10 "IceField" "ice" "LIceField$Ice;" ∈ W0 := W0_at (i := 186) (by decide +kernel) (by decide +kernel)
theorem wl_X5_196 : Cond.methodLink RX5 196 yX1_copyFrom ∈ W0 := W0_at (i := 226) (by decide +kernel) (by decide +kernel)
theorem wi_X1_copyFrom : Cond.instanceMethod yX1_copyFrom ∈ W0 := W0_at (i := 227) (by decide +kernel) (by decide +kernel)
theorem we_X1_copyFrom : Cond.selects RX1 yX1_copyFrom yX1_copyFrom ∈ W0 := W0_at (i := 228) (by decide +kernel) (by decide +kernel)
theorem wn_X1 : Cond.initialized RX1 ∈ W0 := W0_at (i := 2) (by decide +kernel) (by decide +kernel)
theorem wc_X1_copyFrom : Cond.code yX1_copyFrom cX1_copyFrom 2 (none) ∈ W0 := W0_at (i := 229) (by decide +kernel) (by decide +kernel)
theorem wf_X5_27 : Cond.fieldLink RX5 27 "IceField" "savedCount" "I" ∈ W0 := W0_at (i := 190) (by decide +kernel) (by decide +kernel)
theorem wl_X1_58 : Cond.methodLink RX1 58 yX2_fill ∈ W0 := W0_at (i := 162) (by decide +kernel) (by decide +kernel)
theorem wi_X2_fill : Cond.instanceMethod yX2_fill ∈ W0 := W0_at (i := 163) (by decide +kernel) (by decide +kernel)
theorem we_X2_fill : Cond.selects RX2 yX2_fill yX2_fill ∈ W0 := W0_at (i := 164) (by decide +kernel) (by decide +kernel)
theorem wc_X2_fill : Cond.code yX2_fill cX2_fill 3 (none) ∈ W0 := W0_at (i := 165) (by decide +kernel) (by decide +kernel)
theorem wl_X1_61 : Cond.methodLink RX1 61 yX2_at ∈ W0 := W0_at (i := 178) (by decide +kernel) (by decide +kernel)
theorem wl_X1_65 : Cond.methodLink RX1 65 yX2_put ∈ W0 := W0_at (i := 182) (by decide +kernel) (by decide +kernel)
theorem wi_X2_put : Cond.instanceMethod yX2_put ∈ W0 := W0_at (i := 183) (by decide +kernel) (by decide +kernel)
theorem we_X2_put : Cond.selects RX2 yX2_put yX2_put ∈ W0 := W0_at (i := 184) (by decide +kernel) (by decide +kernel)
theorem wc_X2_put : Cond.code yX2_put cX2_put 3 (none) ∈ W0 := W0_at (i := 185) (by decide +kernel) (by decide +kernel)
theorem wl_X1_69 : Cond.methodLink RX1 69 yX1_cellCount ∈ W0 := W0_at (i := 170) (by decide +kernel) (by decide +kernel)
theorem wi_X1_cellCount : Cond.instanceMethod yX1_cellCount ∈ W0 := W0_at (i := 171) (by decide +kernel) (by decide +kernel)
theorem we_X1_cellCount : Cond.selects RX1 yX1_cellCount yX1_cellCount ∈ W0 := W0_at (i := 172) (by decide +kernel) (by decide +kernel)
theorem wc_X1_cellCount : Cond.code yX1_cellCount cX1_cellCount 1 (some .int) ∈ W0 := W0_at (i := 173) (by decide +kernel) (by decide +kernel)
theorem wl_X1_73 : Cond.methodLink RX1 73 yX1_add ∈ W0 := W0_at (i := 174) (by decide +kernel) (by decide +kernel)
theorem wi_X1_add : Cond.instanceMethod yX1_add ∈ W0 := W0_at (i := 175) (by decide +kernel) (by decide +kernel)
theorem we_X1_add : Cond.selects RX1 yX1_add yX1_add ∈ W0 := W0_at (i := 176) (by decide +kernel) (by decide +kernel)
theorem wc_X1_add : Cond.code yX1_add cX1_add 3 (none) ∈ W0 := W0_at (i := 177) (by decide +kernel) (by decide +kernel)
theorem wl_X5_70 : Cond.methodLink RX5 70 yX5_isOutside ∈ W0 := W0_at (i := 491) (by decide +kernel) (by decide +kernel)
theorem wt_X5_isOutside : Cond.static yX5_isOutside ∈ W0 := W0_at (i := 492) (by decide +kernel) (by decide +kernel)
theorem wc_X5_isOutside : Cond.code yX5_isOutside cX5_isOutside 3 (some .boolean) ∈ W0 := W0_at (i := 493) (by decide +kernel) (by decide +kernel)
theorem wl_X5_81 : Cond.methodLink RX5 81 yX5_saveState ∈ W0 := W0_at (i := 218) (by decide +kernel) (by decide +kernel)
theorem wi_X5_saveState : Cond.instanceMethod yX5_saveState ∈ W0 := W0_at (i := 220) (by decide +kernel) (by decide +kernel)
theorem we_X5_saveState : Cond.selects RX5 yX5_saveState yX5_saveState ∈ W0 := W0_se (i := 0) (by decide +kernel) (by decide +kernel)
theorem wc_X5_saveState : Cond.code yX5_saveState cX5_saveState 2 (none) ∈ W0 := W0_at (i := 221) (by decide +kernel) (by decide +kernel)
theorem wl_X5_63 : Cond.methodLink RX5 63 yX1_beginAnew ∈ W0 := W0_at (i := 158) (by decide +kernel) (by decide +kernel)
theorem wi_X1_beginAnew : Cond.instanceMethod yX1_beginAnew ∈ W0 := W0_at (i := 159) (by decide +kernel) (by decide +kernel)
theorem we_X1_beginAnew : Cond.selects RX1 yX1_beginAnew yX1_beginAnew ∈ W0 := W0_at (i := 160) (by decide +kernel) (by decide +kernel)
theorem wc_X1_beginAnew : Cond.code yX1_beginAnew cX1_beginAnew 3 (none) ∈ W0 := W0_at (i := 161) (by decide +kernel) (by decide +kernel)
theorem wl_X5_67 : Cond.methodLink RX5 67 yX1_addEverywhere ∈ W0 := W0_at (i := 166) (by decide +kernel) (by decide +kernel)
theorem wi_X1_addEverywhere : Cond.instanceMethod yX1_addEverywhere ∈ W0 := W0_at (i := 167) (by decide +kernel) (by decide +kernel)
theorem we_X1_addEverywhere : Cond.selects RX1 yX1_addEverywhere yX1_addEverywhere ∈ W0 := W0_at (i := 168) (by decide +kernel) (by decide +kernel)
theorem wc_X1_addEverywhere : Cond.code yX1_addEverywhere cX1_addEverywhere 3 (none) ∈ W0 := W0_at (i := 169) (by decide +kernel) (by decide +kernel)
theorem wf_X5_84 : Cond.fieldLink RX5 84 "IceField$Ice" "laid" "I" ∈ W0 := W0_at (i := 50) (by decide +kernel) (by decide +kernel)
theorem wk_X5_74 : Cond.classLink RX5 74 "java/lang/IllegalArgumentException" ∈ W0 := W0_at (i := 494) (by decide +kernel) (by decide +kernel)
theorem wn_IllegalArgumentException : Cond.initialized "java/lang/IllegalArgumentException" ∈ W0 := W0_at (i := 11) (by decide +kernel) (by decide +kernel)
theorem wl_X5_212 : Cond.methodLink RX5 212 yX1_cellCount ∈ W0 := W0_at (i := 280) (by decide +kernel) (by decide +kernel)
theorem wk_X5_173 : Cond.classLink RX5 173 "java/lang/IndexOutOfBoundsException" ∈ W0 := W0_at (i := 575) (by decide +kernel) (by decide +kernel)
theorem wn_IndexOutOfBoundsException : Cond.initialized "java/lang/IndexOutOfBoundsException" ∈ W0 := W0_at (i := 12) (by decide +kernel) (by decide +kernel)
theorem wl_X5_87 : Cond.methodLink RX5 87 yX5_checkCell ∈ W0 := W0_at (i := 571) (by decide +kernel) (by decide +kernel)
theorem wi_X5_checkCell : Cond.instanceMethod yX5_checkCell ∈ W0 := W0_at (i := 573) (by decide +kernel) (by decide +kernel)
theorem we_X5_checkCell : Cond.selects RX5 yX5_checkCell yX5_checkCell ∈ W0 := W0_se (i := 23) (by decide +kernel) (by decide +kernel)
theorem wc_X5_checkCell : Cond.code yX5_checkCell cX5_checkCell 2 (none) ∈ W0 := W0_at (i := 574) (by decide +kernel) (by decide +kernel)
theorem wf_X5_92 : Cond.fieldLink RX5 92 "IceField$Ice" "thickness" "LIceField$Numbers;" ∈ W0 := W0_at (i := 58) (by decide +kernel) (by decide +kernel)
theorem wl_X5_95 : Cond.methodLink RX5 95 yX2_at ∈ W0 := W0_at (i := 396) (by decide +kernel) (by decide +kernel)
theorem wl_X5_104 : Cond.methodLink RX5 104 yX1_add ∈ W0 := W0_at (i := 437) (by decide +kernel) (by decide +kernel)
theorem wk_X5_99 : Cond.classLink RX5 99 "java/lang/IllegalStateException" ∈ W0 := W0_at (i := 592) (by decide +kernel) (by decide +kernel)
theorem wn_IllegalStateException : Cond.initialized "java/lang/IllegalStateException" ∈ W0 := W0_at (i := 13) (by decide +kernel) (by decide +kernel)
theorem wl_X1_80 : Cond.methodLink RX1 80 yX1_columnOf ∈ W0 := W0_at (i := 271) (by decide +kernel) (by decide +kernel)
theorem wi_X1_columnOf : Cond.instanceMethod yX1_columnOf ∈ W0 := W0_at (i := 272) (by decide +kernel) (by decide +kernel)
theorem we_X1_columnOf : Cond.selects RX1 yX1_columnOf yX1_columnOf ∈ W0 := W0_at (i := 273) (by decide +kernel) (by decide +kernel)
theorem wc_X1_columnOf : Cond.code yX1_columnOf cX1_columnOf 2 (some .int) ∈ W0 := W0_at (i := 274) (by decide +kernel) (by decide +kernel)
theorem wl_X1_83 : Cond.methodLink RX1 83 yX1_beside ∈ W0 := W0_at (i := 374) (by decide +kernel) (by decide +kernel)
theorem wi_X1_beside : Cond.instanceMethod yX1_beside ∈ W0 := W0_at (i := 268) (by decide +kernel) (by decide +kernel)
theorem we_X1_beside : Cond.selects RX1 yX1_beside yX1_beside ∈ W0 := W0_at (i := 269) (by decide +kernel) (by decide +kernel)
theorem wc_X1_beside : Cond.code yX1_beside cX1_beside 3 (some .int) ∈ W0 := W0_at (i := 270) (by decide +kernel) (by decide +kernel)
theorem wl_X1_87 : Cond.methodLink RX1 87 yX1_cutPlace ∈ W0 := W0_at (i := 263) (by decide +kernel) (by decide +kernel)
theorem wi_X1_cutPlace : Cond.instanceMethod yX1_cutPlace ∈ W0 := W0_at (i := 265) (by decide +kernel) (by decide +kernel)
theorem we_X1_cutPlace : Cond.selects RX1 yX1_cutPlace yX1_cutPlace ∈ W0 := W0_se (i := 4) (by decide +kernel) (by decide +kernel)
theorem wc_X1_cutPlace : Cond.code yX1_cutPlace cX1_cutPlace 3 (some .int) ∈ W0 := W0_at (i := 266) (by decide +kernel) (by decide +kernel)
theorem wl_X1_90 : Cond.methodLink RX1 90 yX1_canCut ∈ W0 := W0_at (i := 625) (by decide +kernel) (by decide +kernel)
theorem wi_X1_canCut : Cond.instanceMethod yX1_canCut ∈ W0 := W0_at (i := 617) (by decide +kernel) (by decide +kernel)
theorem we_X1_canCut : Cond.selects RX1 yX1_canCut yX1_canCut ∈ W0 := W0_at (i := 618) (by decide +kernel) (by decide +kernel)
theorem wc_X1_canCut : Cond.code yX1_canCut cX1_canCut 3 (some .boolean) ∈ W0 := W0_at (i := 619) (by decide +kernel) (by decide +kernel)
theorem wl_X1_94 : Cond.methodLink RX1 94 yX1_cutAt ∈ W0 := W0_at (i := 259) (by decide +kernel) (by decide +kernel)
theorem wi_X1_cutAt : Cond.instanceMethod yX1_cutAt ∈ W0 := W0_at (i := 260) (by decide +kernel) (by decide +kernel)
theorem we_X1_cutAt : Cond.selects RX1 yX1_cutAt yX1_cutAt ∈ W0 := W0_at (i := 261) (by decide +kernel) (by decide +kernel)
theorem wc_X1_cutAt : Cond.code yX1_cutAt cX1_cutAt 3 (some .int) ∈ W0 := W0_at (i := 262) (by decide +kernel) (by decide +kernel)
theorem wl_X5_109 : Cond.methodLink RX5 109 yX1_canCut ∈ W0 := W0_at (i := 616) (by decide +kernel) (by decide +kernel)
theorem wl_X5_115 : Cond.methodLink RX5 115 yX1_cutSide ∈ W0 := W0_at (i := 621) (by decide +kernel) (by decide +kernel)
theorem wi_X1_cutSide : Cond.instanceMethod yX1_cutSide ∈ W0 := W0_at (i := 622) (by decide +kernel) (by decide +kernel)
theorem we_X1_cutSide : Cond.selects RX1 yX1_cutSide yX1_cutSide ∈ W0 := W0_at (i := 623) (by decide +kernel) (by decide +kernel)
theorem wc_X1_cutSide : Cond.code yX1_cutSide cX1_cutSide 3 (some .int) ∈ W0 := W0_at (i := 624) (by decide +kernel) (by decide +kernel)
theorem wl_X5_245 : Cond.methodLink RX5 245 yX1_columnOf ∈ W0 := W0_at (i := 432) (by decide +kernel) (by decide +kernel)
theorem wf_X5_263 : Cond.fieldLink RX5 263 "IceField$Ice" "width" "I" ∈ W0 := W0_at (i := 41) (by decide +kernel) (by decide +kernel)
theorem wl_X5_242 : Cond.methodLink RX5 242 yX1_rowOf ∈ W0 := W0_at (i := 431) (by decide +kernel) (by decide +kernel)
theorem wi_X1_rowOf : Cond.instanceMethod yX1_rowOf ∈ W0 := W0_at (i := 318) (by decide +kernel) (by decide +kernel)
theorem we_X1_rowOf : Cond.selects RX1 yX1_rowOf yX1_rowOf ∈ W0 := W0_at (i := 319) (by decide +kernel) (by decide +kernel)
theorem wc_X1_rowOf : Cond.code yX1_rowOf cX1_rowOf 2 (some .int) ∈ W0 := W0_at (i := 320) (by decide +kernel) (by decide +kernel)
theorem wf_X5_264 : Cond.fieldLink RX5 264 "IceField$Ice" "height" "I" ∈ W0 := W0_at (i := 44) (by decide +kernel) (by decide +kernel)
theorem wl_X1_97 : Cond.methodLink RX1 97 yX1_cutSide ∈ W0 := W0_at (i := 642) (by decide +kernel) (by decide +kernel)
theorem wl_X5_119 : Cond.methodLink RX5 119 yX5_checkRectangle ∈ W0 := W0_at (i := 633) (by decide +kernel) (by decide +kernel)
theorem wi_X5_checkRectangle : Cond.instanceMethod yX5_checkRectangle ∈ W0 := W0_at (i := 635) (by decide +kernel) (by decide +kernel)
theorem we_X5_checkRectangle : Cond.selects RX5 yX5_checkRectangle yX5_checkRectangle ∈ W0 := W0_se (i := 24) (by decide +kernel) (by decide +kernel)
theorem wc_X5_checkRectangle : Cond.code yX5_checkRectangle cX5_checkRectangle 4 (none) ∈ W0 := W0_at (i := 636) (by decide +kernel) (by decide +kernel)
theorem wl_X5_123 : Cond.methodLink RX5 123 yX1_cutRectangle ∈ W0 := W0_at (i := 638) (by decide +kernel) (by decide +kernel)
theorem wi_X1_cutRectangle : Cond.instanceMethod yX1_cutRectangle ∈ W0 := W0_at (i := 639) (by decide +kernel) (by decide +kernel)
theorem we_X1_cutRectangle : Cond.selects RX1 yX1_cutRectangle yX1_cutRectangle ∈ W0 := W0_at (i := 640) (by decide +kernel) (by decide +kernel)
theorem wc_X1_cutRectangle : Cond.code yX1_cutRectangle cX1_cutRectangle 6 (some .int) ∈ W0 := W0_at (i := 641) (by decide +kernel) (by decide +kernel)
theorem wf_X0_14 : Cond.fieldLink RX0 14 "IceField$Blocks" "numbers" "LIceField$Numbers;" ∈ W0 := W0_at (i := 121) (by decide +kernel) (by decide +kernel)
theorem wl_X0_47 : Cond.methodLink RX0 47 yX2_put ∈ W0 := W0_at (i := 254) (by decide +kernel) (by decide +kernel)
theorem wf_X0_23 : Cond.fieldLink RX0 23 "IceField$Blocks" "queue" "LIceField$Numbers;" ∈ W0 := W0_at (i := 123) (by decide +kernel) (by decide +kernel)
theorem wl_X0_39 : Cond.methodLink RX0 39 yX2_at ∈ W0 := W0_at (i := 249) (by decide +kernel) (by decide +kernel)
theorem wl_X0_51 : Cond.methodLink RX0 51 yX1_isTiedToShore ∈ W0 := W0_at (i := 255) (by decide +kernel) (by decide +kernel)
theorem wi_X1_isTiedToShore : Cond.instanceMethod yX1_isTiedToShore ∈ W0 := W0_at (i := 256) (by decide +kernel) (by decide +kernel)
theorem we_X1_isTiedToShore : Cond.selects RX1 yX1_isTiedToShore yX1_isTiedToShore ∈ W0 := W0_at (i := 257) (by decide +kernel) (by decide +kernel)
theorem wc_X1_isTiedToShore : Cond.code yX1_isTiedToShore cX1_isTiedToShore 2 (some .boolean) ∈ W0 := W0_at (i := 258) (by decide +kernel) (by decide +kernel)
theorem wf_X0_20 : Cond.fieldLink RX0 20 "IceField$Blocks" "held" "LIceField$Numbers;" ∈ W0 := W0_at (i := 122) (by decide +kernel) (by decide +kernel)
theorem wl_X0_54 : Cond.methodLink RX0 54 yX1_beside ∈ W0 := W0_at (i := 267) (by decide +kernel) (by decide +kernel)
theorem wl_X0_35 : Cond.methodLink RX0 35 yX1_isIce ∈ W0 := W0_at (i := 245) (by decide +kernel) (by decide +kernel)
theorem wi_X1_isIce : Cond.instanceMethod yX1_isIce ∈ W0 := W0_at (i := 246) (by decide +kernel) (by decide +kernel)
theorem we_X1_isIce : Cond.selects RX1 yX1_isIce yX1_isIce ∈ W0 := W0_at (i := 247) (by decide +kernel) (by decide +kernel)
theorem wc_X1_isIce : Cond.code yX1_isIce cX1_isIce 2 (some .boolean) ∈ W0 := W0_at (i := 248) (by decide +kernel) (by decide +kernel)
theorem wl_X0_58 : Cond.methodLink RX0 58 yX1_cutAt ∈ W0 := W0_at (i := 275) (by decide +kernel) (by decide +kernel)
theorem wl_X0_26 : Cond.methodLink RX0 26 yX2_fill ∈ W0 := W0_at (i := 243) (by decide +kernel) (by decide +kernel)
theorem wl_X0_29 : Cond.methodLink RX0 29 yX1_cellCount ∈ W0 := W0_at (i := 244) (by decide +kernel) (by decide +kernel)
theorem wl_X0_43 : Cond.methodLink RX0 43 yX0_spread ∈ W0 := W0_at (i := 250) (by decide +kernel) (by decide +kernel)
theorem wi_X0_spread : Cond.instanceMethod yX0_spread ∈ W0 := W0_at (i := 252) (by decide +kernel) (by decide +kernel)
theorem we_X0_spread : Cond.selects RX0 yX0_spread yX0_spread ∈ W0 := W0_se (i := 3) (by decide +kernel) (by decide +kernel)
theorem wn_X0 : Cond.initialized RX0 ∈ W0 := W0_at (i := 5) (by decide +kernel) (by decide +kernel)
theorem wc_X0_spread : Cond.code yX0_spread cX0_spread 8 (none) ∈ W0 := W0_at (i := 253) (by decide +kernel) (by decide +kernel)
theorem wl_X0_61 : Cond.methodLink RX0 61 yX0_isBlock ∈ W0 := W0_at (i := 285) (by decide +kernel) (by decide +kernel)
theorem wi_X0_isBlock : Cond.instanceMethod yX0_isBlock ∈ W0 := W0_at (i := 287) (by decide +kernel) (by decide +kernel)
theorem we_X0_isBlock : Cond.selects RX0 yX0_isBlock yX0_isBlock ∈ W0 := W0_se (i := 6) (by decide +kernel) (by decide +kernel)
theorem wc_X0_isBlock : Cond.code yX0_isBlock cX0_isBlock 2 (some .boolean) ∈ W0 := W0_at (i := 288) (by decide +kernel) (by decide +kernel)
theorem wf_X4_23 : Cond.fieldLink RX4 23 "IceField$Way" "size" "I" ∈ W0 := W0_at (i := 142) (by decide +kernel) (by decide +kernel)
theorem wl_X4_69 : Cond.methodLink RX4 69 yX0_numberAt ∈ W0 := W0_at (i := 297) (by decide +kernel) (by decide +kernel)
theorem wi_X0_numberAt : Cond.instanceMethod yX0_numberAt ∈ W0 := W0_at (i := 298) (by decide +kernel) (by decide +kernel)
theorem we_X0_numberAt : Cond.selects RX0 yX0_numberAt yX0_numberAt ∈ W0 := W0_at (i := 299) (by decide +kernel) (by decide +kernel)
theorem wc_X0_numberAt : Cond.code yX0_numberAt cX0_numberAt 2 (some .int) ∈ W0 := W0_at (i := 300) (by decide +kernel) (by decide +kernel)
theorem wf_X4_20 : Cond.fieldLink RX4 20 "IceField$Way" "cells" "LIceField$Numbers;" ∈ W0 := W0_at (i := 141) (by decide +kernel) (by decide +kernel)
theorem wl_X4_40 : Cond.methodLink RX4 40 yX2_put ∈ W0 := W0_at (i := 301) (by decide +kernel) (by decide +kernel)
theorem wl_X4_60 : Cond.methodLink RX4 60 yX4_downAt ∈ W0 := W0_at (i := 311) (by decide +kernel) (by decide +kernel)
theorem wt_X4_downAt : Cond.static yX4_downAt ∈ W0 := W0_at (i := 312) (by decide +kernel) (by decide +kernel)
theorem wn_X4 : Cond.initialized RX4 ∈ W0 := W0_at (i := 6) (by decide +kernel) (by decide +kernel)
theorem wc_X4_downAt : Cond.code yX4_downAt cX4_downAt 1 (some .int) ∈ W0 := W0_at (i := 313) (by decide +kernel) (by decide +kernel)
theorem wl_X4_74 : Cond.methodLink RX4 74 yX4_rightAt ∈ W0 := W0_at (i := 314) (by decide +kernel) (by decide +kernel)
theorem wt_X4_rightAt : Cond.static yX4_rightAt ∈ W0 := W0_at (i := 315) (by decide +kernel) (by decide +kernel)
theorem wc_X4_rightAt : Cond.code yX4_rightAt cX4_rightAt 1 (some .int) ∈ W0 := W0_at (i := 316) (by decide +kernel) (by decide +kernel)
theorem wl_X4_44 : Cond.methodLink RX4 44 yX2_at ∈ W0 := W0_at (i := 303) (by decide +kernel) (by decide +kernel)
theorem wl_X4_55 : Cond.methodLink RX4 55 yX1_rowOf ∈ W0 := W0_at (i := 317) (by decide +kernel) (by decide +kernel)
theorem wl_X4_77 : Cond.methodLink RX4 77 yX1_columnOf ∈ W0 := W0_at (i := 321) (by decide +kernel) (by decide +kernel)
theorem wf_X4_80 : Cond.fieldLink RX4 80 "IceField$Ice" "width" "I" ∈ W0 := W0_at (i := 40) (by decide +kernel) (by decide +kernel)
theorem wf_X4_63 : Cond.fieldLink RX4 63 "IceField$Ice" "height" "I" ∈ W0 := W0_at (i := 43) (by decide +kernel) (by decide +kernel)
theorem wl_X4_83 : Cond.methodLink RX4 83 yX1_isIce ∈ W0 := W0_at (i := 322) (by decide +kernel) (by decide +kernel)
theorem wf_X4_27 : Cond.fieldLink RX4 27 "IceField$Way" "reachedBy" "LIceField$Numbers;" ∈ W0 := W0_at (i := 143) (by decide +kernel) (by decide +kernel)
theorem wl_X4_48 : Cond.methodLink RX4 48 yX4_stepOf ∈ W0 := W0_at (i := 304) (by decide +kernel) (by decide +kernel)
theorem wt_X4_stepOf : Cond.static yX4_stepOf ∈ W0 := W0_at (i := 305) (by decide +kernel) (by decide +kernel)
theorem wc_X4_stepOf : Cond.code yX4_stepOf cX4_stepOf 1 (some .int) ∈ W0 := W0_at (i := 306) (by decide +kernel) (by decide +kernel)
theorem wf_X4_16 : Cond.fieldLink RX4 16 "IceField$Way" "moves" "LIceField$Numbers;" ∈ W0 := W0_at (i := 139) (by decide +kernel) (by decide +kernel)
theorem wl_X4_33 : Cond.methodLink RX4 33 yX4_gatherCells ∈ W0 := W0_at (i := 293) (by decide +kernel) (by decide +kernel)
theorem wi_X4_gatherCells : Cond.instanceMethod yX4_gatherCells ∈ W0 := W0_at (i := 295) (by decide +kernel) (by decide +kernel)
theorem we_X4_gatherCells : Cond.selects RX4 yX4_gatherCells yX4_gatherCells ∈ W0 := W0_se (i := 7) (by decide +kernel) (by decide +kernel)
theorem wc_X4_gatherCells : Cond.code yX4_gatherCells cX4_gatherCells 4 (none) ∈ W0 := W0_at (i := 296) (by decide +kernel) (by decide +kernel)
theorem wl_X4_37 : Cond.methodLink RX4 37 yX2_fill ∈ W0 := W0_at (i := 302) (by decide +kernel) (by decide +kernel)
theorem wf_X4_30 : Cond.fieldLink RX4 30 "IceField$Way" "queue" "LIceField$Numbers;" ∈ W0 := W0_at (i := 144) (by decide +kernel) (by decide +kernel)
theorem wl_X4_51 : Cond.methodLink RX4 51 yX4_canLie ∈ W0 := W0_at (i := 307) (by decide +kernel) (by decide +kernel)
theorem wi_X4_canLie : Cond.instanceMethod yX4_canLie ∈ W0 := W0_at (i := 309) (by decide +kernel) (by decide +kernel)
theorem we_X4_canLie : Cond.selects RX4 yX4_canLie yX4_canLie ∈ W0 := W0_se (i := 8) (by decide +kernel) (by decide +kernel)
theorem wc_X4_canLie : Cond.code yX4_canLie cX4_canLie 11 (some .boolean) ∈ W0 := W0_at (i := 310) (by decide +kernel) (by decide +kernel)
theorem wl_X4_66 : Cond.methodLink RX4 66 yX4_traceBack ∈ W0 := W0_at (i := 323) (by decide +kernel) (by decide +kernel)
theorem wi_X4_traceBack : Cond.instanceMethod yX4_traceBack ∈ W0 := W0_at (i := 325) (by decide +kernel) (by decide +kernel)
theorem we_X4_traceBack : Cond.selects RX4 yX4_traceBack yX4_traceBack ∈ W0 := W0_se (i := 9) (by decide +kernel) (by decide +kernel)
theorem wc_X4_traceBack : Cond.code yX4_traceBack cX4_traceBack 5 (some .int) ∈ W0 := W0_at (i := 326) (by decide +kernel) (by decide +kernel)
theorem wl_X1_106 : Cond.methodLink RX1 106 yX0_numberAt ∈ W0 := W0_at (i := 335) (by decide +kernel) (by decide +kernel)
theorem wl_X1_111 : Cond.methodLink RX1 111 yX1_volumeOf ∈ W0 := W0_at (i := 331) (by decide +kernel) (by decide +kernel)
theorem wi_X1_volumeOf : Cond.instanceMethod yX1_volumeOf ∈ W0 := W0_at (i := 332) (by decide +kernel) (by decide +kernel)
theorem we_X1_volumeOf : Cond.selects RX1 yX1_volumeOf yX1_volumeOf ∈ W0 := W0_at (i := 333) (by decide +kernel) (by decide +kernel)
theorem wc_X1_volumeOf : Cond.code yX1_volumeOf cX1_volumeOf 5 (some .int) ∈ W0 := W0_at (i := 334) (by decide +kernel) (by decide +kernel)
theorem wf_X5_40 : Cond.fieldLink RX5 40 "IceField" "blocks" "LIceField$Blocks;" ∈ W0 := W0_at (i := 192) (by decide +kernel) (by decide +kernel)
theorem wl_X5_127 : Cond.methodLink RX5 127 yX0_find ∈ W0 := W0_at (i := 239) (by decide +kernel) (by decide +kernel)
theorem wi_X0_find : Cond.instanceMethod yX0_find ∈ W0 := W0_at (i := 240) (by decide +kernel) (by decide +kernel)
theorem we_X0_find : Cond.selects RX0 yX0_find yX0_find ∈ W0 := W0_at (i := 241) (by decide +kernel) (by decide +kernel)
theorem wc_X0_find : Cond.code yX0_find cX0_find 3 (none) ∈ W0 := W0_at (i := 242) (by decide +kernel) (by decide +kernel)
theorem wl_X5_131 : Cond.methodLink RX5 131 yX0_numberAt ∈ W0 := W0_at (i := 398) (by decide +kernel) (by decide +kernel)
theorem wl_X5_134 : Cond.methodLink RX5 134 yX0_isLoose ∈ W0 := W0_at (i := 281) (by decide +kernel) (by decide +kernel)
theorem wi_X0_isLoose : Cond.instanceMethod yX0_isLoose ∈ W0 := W0_at (i := 282) (by decide +kernel) (by decide +kernel)
theorem we_X0_isLoose : Cond.selects RX0 yX0_isLoose yX0_isLoose ∈ W0 := W0_at (i := 283) (by decide +kernel) (by decide +kernel)
theorem wc_X0_isLoose : Cond.code yX0_isLoose cX0_isLoose 2 (some .boolean) ∈ W0 := W0_at (i := 284) (by decide +kernel) (by decide +kernel)
theorem wf_X5_47 : Cond.fieldLink RX5 47 "IceField" "way" "LIceField$Way;" ∈ W0 := W0_at (i := 193) (by decide +kernel) (by decide +kernel)
theorem wl_X5_138 : Cond.methodLink RX5 138 yX4_search ∈ W0 := W0_at (i := 289) (by decide +kernel) (by decide +kernel)
theorem wi_X4_search : Cond.instanceMethod yX4_search ∈ W0 := W0_at (i := 290) (by decide +kernel) (by decide +kernel)
theorem we_X4_search : Cond.selects RX4 yX4_search yX4_search ∈ W0 := W0_at (i := 291) (by decide +kernel) (by decide +kernel)
theorem wc_X4_search : Cond.code yX4_search cX4_search 8 (some .int) ∈ W0 := W0_at (i := 292) (by decide +kernel) (by decide +kernel)
theorem wl_X5_144 : Cond.methodLink RX5 144 yX1_removeBlock ∈ W0 := W0_at (i := 327) (by decide +kernel) (by decide +kernel)
theorem wi_X1_removeBlock : Cond.instanceMethod yX1_removeBlock ∈ W0 := W0_at (i := 328) (by decide +kernel) (by decide +kernel)
theorem we_X1_removeBlock : Cond.selects RX1 yX1_removeBlock yX1_removeBlock ∈ W0 := W0_at (i := 329) (by decide +kernel) (by decide +kernel)
theorem wc_X1_removeBlock : Cond.code yX1_removeBlock cX1_removeBlock 5 (some .int) ∈ W0 := W0_at (i := 330) (by decide +kernel) (by decide +kernel)
theorem wl_X5_303 : Cond.methodLink RX5 303 yX5_lowestFloating ∈ W0 := W0_at (i := 276) (by decide +kernel) (by decide +kernel)
theorem wi_X5_lowestFloating : Cond.instanceMethod yX5_lowestFloating ∈ W0 := W0_at (i := 278) (by decide +kernel) (by decide +kernel)
theorem we_X5_lowestFloating : Cond.selects RX5 yX5_lowestFloating yX5_lowestFloating ∈ W0 := W0_se (i := 5) (by decide +kernel) (by decide +kernel)
theorem wc_X5_lowestFloating : Cond.code yX5_lowestFloating cX5_lowestFloating 3 (some .int) ∈ W0 := W0_at (i := 279) (by decide +kernel) (by decide +kernel)
theorem wl_X5_306 : Cond.methodLink RX5 306 yX0_forget ∈ W0 := W0_at (i := 336) (by decide +kernel) (by decide +kernel)
theorem wi_X0_forget : Cond.instanceMethod yX0_forget ∈ W0 := W0_at (i := 337) (by decide +kernel) (by decide +kernel)
theorem we_X0_forget : Cond.selects RX0 yX0_forget yX0_forget ∈ W0 := W0_at (i := 338) (by decide +kernel) (by decide +kernel)
theorem wc_X0_forget : Cond.code yX0_forget cX0_forget 3 (none) ∈ W0 := W0_at (i := 339) (by decide +kernel) (by decide +kernel)
theorem wl_X5_148 : Cond.methodLink RX5 148 yX5_removeFloating ∈ W0 := W0_at (i := 235) (by decide +kernel) (by decide +kernel)
theorem wi_X5_removeFloating : Cond.instanceMethod yX5_removeFloating ∈ W0 := W0_at (i := 237) (by decide +kernel) (by decide +kernel)
theorem we_X5_removeFloating : Cond.selects RX5 yX5_removeFloating yX5_removeFloating ∈ W0 := W0_se (i := 2) (by decide +kernel) (by decide +kernel)
theorem wc_X5_removeFloating : Cond.code yX5_removeFloating cX5_removeFloating 4 (some .int) ∈ W0 := W0_at (i := 238) (by decide +kernel) (by decide +kernel)
theorem wf_X5_60 : Cond.fieldLink RX5 60 "IceField$Ice" "melt" "I" ∈ W0 := W0_at (i := 46) (by decide +kernel) (by decide +kernel)
theorem wl_X1_76 : Cond.methodLink RX1 76 yX1_isIce ∈ W0 := W0_at (i := 361) (by decide +kernel) (by decide +kernel)
theorem wl_X1_100 : Cond.methodLink RX1 100 yX1_waterBeside ∈ W0 := W0_at (i := 370) (by decide +kernel) (by decide +kernel)
theorem wi_X1_waterBeside : Cond.instanceMethod yX1_waterBeside ∈ W0 := W0_at (i := 371) (by decide +kernel) (by decide +kernel)
theorem we_X1_waterBeside : Cond.selects RX1 yX1_waterBeside yX1_waterBeside ∈ W0 := W0_at (i := 372) (by decide +kernel) (by decide +kernel)
theorem wc_X1_waterBeside : Cond.code yX1_waterBeside cX1_waterBeside 5 (some .int) ∈ W0 := W0_at (i := 373) (by decide +kernel) (by decide +kernel)
theorem wf_X1_51 : Cond.fieldLink RX1 51 "IceField$Ice" "losses" "LIceField$Numbers;" ∈ W0 := W0_at (i := 62) (by decide +kernel) (by decide +kernel)
theorem wl_X1_103 : Cond.methodLink RX1 103 yX1_lossOf ∈ W0 := W0_at (i := 366) (by decide +kernel) (by decide +kernel)
theorem wi_X1_lossOf : Cond.instanceMethod yX1_lossOf ∈ W0 := W0_at (i := 368) (by decide +kernel) (by decide +kernel)
theorem we_X1_lossOf : Cond.selects RX1 yX1_lossOf yX1_lossOf ∈ W0 := W0_se (i := 10) (by decide +kernel) (by decide +kernel)
theorem wc_X1_lossOf : Cond.code yX1_lossOf cX1_lossOf 4 (some .int) ∈ W0 := W0_at (i := 369) (by decide +kernel) (by decide +kernel)
theorem wf_X5_156 : Cond.fieldLink RX5 156 "IceField$Ice" "melted" "I" ∈ W0 := W0_at (i := 52) (by decide +kernel) (by decide +kernel)
theorem wl_X5_159 : Cond.methodLink RX5 159 yX1_meltOneDay ∈ W0 := W0_at (i := 362) (by decide +kernel) (by decide +kernel)
theorem wi_X1_meltOneDay : Cond.instanceMethod yX1_meltOneDay ∈ W0 := W0_at (i := 363) (by decide +kernel) (by decide +kernel)
theorem we_X1_meltOneDay : Cond.selects RX1 yX1_meltOneDay yX1_meltOneDay ∈ W0 := W0_at (i := 364) (by decide +kernel) (by decide +kernel)
theorem wc_X1_meltOneDay : Cond.code yX1_meltOneDay cX1_meltOneDay 2 (none) ∈ W0 := W0_at (i := 365) (by decide +kernel) (by decide +kernel)
theorem wl_X5_285 : Cond.methodLink RX5 285 yX1_waterBeside ∈ W0 := W0_at (i := 464) (by decide +kernel) (by decide +kernel)
theorem wl_X5_288 : Cond.methodLink RX5 288 yX1_cutAt ∈ W0 := W0_at (i := 465) (by decide +kernel) (by decide +kernel)
theorem wl_X5_164 : Cond.methodLink RX5 164 yX5_cellFact ∈ W0 := W0_at (i := 460) (by decide +kernel) (by decide +kernel)
theorem wi_X5_cellFact : Cond.instanceMethod yX5_cellFact ∈ W0 := W0_at (i := 462) (by decide +kernel) (by decide +kernel)
theorem we_X5_cellFact : Cond.selects RX5 yX5_cellFact yX5_cellFact ∈ W0 := W0_se (i := 20) (by decide +kernel) (by decide +kernel)
theorem wc_X5_cellFact : Cond.code yX5_cellFact cX5_cellFact 3 (some .int) ∈ W0 := W0_at (i := 463) (by decide +kernel) (by decide +kernel)
theorem wf_X5_56 : Cond.fieldLink RX5 56 "IceField" "wayLengths" "LIceField$Numbers;" ∈ W0 := W0_at (i := 194) (by decide +kernel) (by decide +kernel)
theorem wl_X5_300 : Cond.methodLink RX5 300 yX2_put ∈ W0 := W0_at (i := 387) (by decide +kernel) (by decide +kernel)
theorem wl_X5_291 : Cond.methodLink RX5 291 yX0_sizeOf ∈ W0 := W0_at (i := 470) (by decide +kernel) (by decide +kernel)
theorem wi_X0_sizeOf : Cond.instanceMethod yX0_sizeOf ∈ W0 := W0_at (i := 471) (by decide +kernel) (by decide +kernel)
theorem we_X0_sizeOf : Cond.selects RX0 yX0_sizeOf yX0_sizeOf ∈ W0 := W0_at (i := 472) (by decide +kernel) (by decide +kernel)
theorem wc_X0_sizeOf : Cond.code yX0_sizeOf cX0_sizeOf 4 (some .int) ∈ W0 := W0_at (i := 473) (by decide +kernel) (by decide +kernel)
theorem wl_X5_294 : Cond.methodLink RX5 294 yX1_volumeOf ∈ W0 := W0_at (i := 474) (by decide +kernel) (by decide +kernel)
theorem wl_X5_167 : Cond.methodLink RX5 167 yX5_findWayOf ∈ W0 := W0_at (i := 383) (by decide +kernel) (by decide +kernel)
theorem wi_X5_findWayOf : Cond.instanceMethod yX5_findWayOf ∈ W0 := W0_at (i := 385) (by decide +kernel) (by decide +kernel)
theorem we_X5_findWayOf : Cond.selects RX5 yX5_findWayOf yX5_findWayOf ∈ W0 := W0_se (i := 12) (by decide +kernel) (by decide +kernel)
theorem wc_X5_findWayOf : Cond.code yX5_findWayOf cX5_findWayOf 2 (none) ∈ W0 := W0_at (i := 386) (by decide +kernel) (by decide +kernel)
theorem wl_X5_170 : Cond.methodLink RX5 170 yX5_blockFact ∈ W0 := W0_at (i := 466) (by decide +kernel) (by decide +kernel)
theorem wi_X5_blockFact : Cond.instanceMethod yX5_blockFact ∈ W0 := W0_at (i := 468) (by decide +kernel) (by decide +kernel)
theorem we_X5_blockFact : Cond.selects RX5 yX5_blockFact yX5_blockFact ∈ W0 := W0_se (i := 21) (by decide +kernel) (by decide +kernel)
theorem wc_X5_blockFact : Cond.code yX5_blockFact cX5_blockFact 4 (some .int) ∈ W0 := W0_at (i := 469) (by decide +kernel) (by decide +kernel)
theorem wf_X5_178 : Cond.fieldLink RX5 178 "IceField$Way" "moves" "LIceField$Numbers;" ∈ W0 := W0_at (i := 140) (by decide +kernel) (by decide +kernel)
theorem wl_X0_64 : Cond.methodLink RX0 64 yX0_isLoose ∈ W0 := W0_at (i := 352) (by decide +kernel) (by decide +kernel)
theorem wl_X5_297 : Cond.methodLink RX5 297 yX5_isStranded ∈ W0 := W0_at (i := 392) (by decide +kernel) (by decide +kernel)
theorem wi_X5_isStranded : Cond.instanceMethod yX5_isStranded ∈ W0 := W0_at (i := 394) (by decide +kernel) (by decide +kernel)
theorem we_X5_isStranded : Cond.selects RX5 yX5_isStranded yX5_isStranded ∈ W0 := W0_se (i := 14) (by decide +kernel) (by decide +kernel)
theorem wc_X5_isStranded : Cond.code yX5_isStranded cX5_isStranded 2 (some .boolean) ∈ W0 := W0_at (i := 395) (by decide +kernel) (by decide +kernel)
theorem wl_X5_206 : Cond.methodLink RX5 206 yX1_iceCells ∈ W0 := W0_at (i := 357) (by decide +kernel) (by decide +kernel)
theorem wi_X1_iceCells : Cond.instanceMethod yX1_iceCells ∈ W0 := W0_at (i := 358) (by decide +kernel) (by decide +kernel)
theorem we_X1_iceCells : Cond.selects RX1 yX1_iceCells yX1_iceCells ∈ W0 := W0_at (i := 359) (by decide +kernel) (by decide +kernel)
theorem wc_X1_iceCells : Cond.code yX1_iceCells cX1_iceCells 3 (some .int) ∈ W0 := W0_at (i := 360) (by decide +kernel) (by decide +kernel)
theorem wl_X5_267 : Cond.methodLink RX5 267 yX0_countAll ∈ W0 := W0_at (i := 448) (by decide +kernel) (by decide +kernel)
theorem wi_X0_countAll : Cond.instanceMethod yX0_countAll ∈ W0 := W0_at (i := 449) (by decide +kernel) (by decide +kernel)
theorem we_X0_countAll : Cond.selects RX0 yX0_countAll yX0_countAll ∈ W0 := W0_at (i := 450) (by decide +kernel) (by decide +kernel)
theorem wc_X0_countAll : Cond.code yX0_countAll cX0_countAll 3 (some .int) ∈ W0 := W0_at (i := 451) (by decide +kernel) (by decide +kernel)
theorem wl_X5_199 : Cond.methodLink RX5 199 yX0_countLoose ∈ W0 := W0_at (i := 348) (by decide +kernel) (by decide +kernel)
theorem wi_X0_countLoose : Cond.instanceMethod yX0_countLoose ∈ W0 := W0_at (i := 349) (by decide +kernel) (by decide +kernel)
theorem we_X0_countLoose : Cond.selects RX0 yX0_countLoose yX0_countLoose ∈ W0 := W0_at (i := 350) (by decide +kernel) (by decide +kernel)
theorem wc_X0_countLoose : Cond.code yX0_countLoose cX0_countLoose 3 (some .int) ∈ W0 := W0_at (i := 351) (by decide +kernel) (by decide +kernel)
theorem wl_X5_270 : Cond.methodLink RX5 270 yX5_countStranded ∈ W0 := W0_at (i := 452) (by decide +kernel) (by decide +kernel)
theorem wi_X5_countStranded : Cond.instanceMethod yX5_countStranded ∈ W0 := W0_at (i := 454) (by decide +kernel) (by decide +kernel)
theorem we_X5_countStranded : Cond.selects RX5 yX5_countStranded yX5_countStranded ∈ W0 := W0_se (i := 19) (by decide +kernel) (by decide +kernel)
theorem wc_X5_countStranded : Cond.code yX5_countStranded cX5_countStranded 3 (some .int) ∈ W0 := W0_at (i := 455) (by decide +kernel) (by decide +kernel)
theorem wf_X5_273 : Cond.fieldLink RX5 273 "IceField$Ice" "cuts" "LIceField$Numbers;" ∈ W0 := W0_at (i := 60) (by decide +kernel) (by decide +kernel)
theorem wl_X5_276 : Cond.methodLink RX5 276 yX2_sum ∈ W0 := W0_at (i := 456) (by decide +kernel) (by decide +kernel)
theorem wi_X2_sum : Cond.instanceMethod yX2_sum ∈ W0 := W0_at (i := 457) (by decide +kernel) (by decide +kernel)
theorem we_X2_sum : Cond.selects RX2 yX2_sum yX2_sum ∈ W0 := W0_at (i := 458) (by decide +kernel) (by decide +kernel)
theorem wc_X2_sum : Cond.code yX2_sum cX2_sum 3 (some .int) ∈ W0 := W0_at (i := 459) (by decide +kernel) (by decide +kernel)
theorem wf_X5_279 : Cond.fieldLink RX5 279 "IceField$Ice" "days" "I" ∈ W0 := W0_at (i := 48) (by decide +kernel) (by decide +kernel)
theorem wf_X5_221 : Cond.fieldLink RX5 221 "IceField$Ice" "takenVolume" "I" ∈ W0 := W0_at (i := 54) (by decide +kernel) (by decide +kernel)
theorem wf_X5_282 : Cond.fieldLink RX5 282 "IceField$Ice" "takenBlocks" "I" ∈ W0 := W0_at (i := 56) (by decide +kernel) (by decide +kernel)
theorem wl_X5_181 : Cond.methodLink RX5 181 yX5_findBlocksAndWays ∈ W0 := W0_at (i := 379) (by decide +kernel) (by decide +kernel)
theorem wi_X5_findBlocksAndWays : Cond.instanceMethod yX5_findBlocksAndWays ∈ W0 := W0_at (i := 381) (by decide +kernel) (by decide +kernel)
theorem we_X5_findBlocksAndWays : Cond.selects RX5 yX5_findBlocksAndWays yX5_findBlocksAndWays ∈ W0 := W0_se (i := 11) (by decide +kernel) (by decide +kernel)
theorem wc_X5_findBlocksAndWays : Cond.code yX5_findBlocksAndWays cX5_findBlocksAndWays 2 (none) ∈ W0 := W0_at (i := 382) (by decide +kernel) (by decide +kernel)
theorem wl_X5_184 : Cond.methodLink RX5 184 yX5_fieldFact ∈ W0 := W0_at (i := 444) (by decide +kernel) (by decide +kernel)
theorem wi_X5_fieldFact : Cond.instanceMethod yX5_fieldFact ∈ W0 := W0_at (i := 446) (by decide +kernel) (by decide +kernel)
theorem we_X5_fieldFact : Cond.selects RX5 yX5_fieldFact yX5_fieldFact ∈ W0 := W0_se (i := 18) (by decide +kernel) (by decide +kernel)
theorem wc_X5_fieldFact : Cond.code yX5_fieldFact cX5_fieldFact 2 (some .int) ∈ W0 := W0_at (i := 447) (by decide +kernel) (by decide +kernel)
theorem wl_X5_187 : Cond.methodLink RX5 187 yX1_keptCount ∈ W0 := W0_at (i := 475) (by decide +kernel) (by decide +kernel)
theorem wi_X1_keptCount : Cond.instanceMethod yX1_keptCount ∈ W0 := W0_at (i := 476) (by decide +kernel) (by decide +kernel)
theorem we_X1_keptCount : Cond.selects RX1 yX1_keptCount yX1_keptCount ∈ W0 := W0_at (i := 477) (by decide +kernel) (by decide +kernel)
theorem wc_X1_keptCount : Cond.code yX1_keptCount cX1_keptCount 1 (some .int) ∈ W0 := W0_at (i := 478) (by decide +kernel) (by decide +kernel)
theorem wl_X5_193 : Cond.methodLink RX5 193 yX1_keptFact ∈ W0 := W0_at (i := 479) (by decide +kernel) (by decide +kernel)
theorem wi_X1_keptFact : Cond.instanceMethod yX1_keptFact ∈ W0 := W0_at (i := 480) (by decide +kernel) (by decide +kernel)
theorem we_X1_keptFact : Cond.selects RX1 yX1_keptFact yX1_keptFact ∈ W0 := W0_at (i := 481) (by decide +kernel) (by decide +kernel)
theorem wc_X1_keptFact : Cond.code yX1_keptFact cX1_keptFact 3 (some .int) ∈ W0 := W0_at (i := 482) (by decide +kernel) (by decide +kernel)
theorem wf_X5_16 : Cond.fieldLink RX5 16 "IceField" "trial" "LIceField$Ice;" ∈ W0 := W0_at (i := 187) (by decide +kernel) (by decide +kernel)
theorem wl_X5_215 : Cond.methodLink RX5 215 yX1_isIce ∈ W0 := W0_at (i := 397) (by decide +kernel) (by decide +kernel)
theorem wl_X5_202 : Cond.methodLink RX5 202 yX5_hasWaterIn ∈ W0 := W0_at (i := 719) (by decide +kernel) (by decide +kernel)
theorem wi_X5_hasWaterIn : Cond.instanceMethod yX5_hasWaterIn ∈ W0 := W0_at (i := 721) (by decide +kernel) (by decide +kernel)
theorem we_X5_hasWaterIn : Cond.selects RX5 yX5_hasWaterIn yX5_hasWaterIn ∈ W0 := W0_se (i := 25) (by decide +kernel) (by decide +kernel)
theorem wc_X5_hasWaterIn : Cond.code yX5_hasWaterIn cX5_hasWaterIn 4 (some .boolean) ∈ W0 := W0_at (i := 722) (by decide +kernel) (by decide +kernel)
theorem wl_X5_209 : Cond.methodLink RX5 209 yX5_lowestStranded ∈ W0 := W0_at (i := 388) (by decide +kernel) (by decide +kernel)
theorem wi_X5_lowestStranded : Cond.instanceMethod yX5_lowestStranded ∈ W0 := W0_at (i := 390) (by decide +kernel) (by decide +kernel)
theorem we_X5_lowestStranded : Cond.selects RX5 yX5_lowestStranded yX5_lowestStranded ∈ W0 := W0_se (i := 13) (by decide +kernel) (by decide +kernel)
theorem wc_X5_lowestStranded : Cond.code yX5_lowestStranded cX5_lowestStranded 2 (some .int) ∈ W0 := W0_at (i := 391) (by decide +kernel) (by decide +kernel)
theorem wl_X5_218 : Cond.methodLink RX5 218 yX5_freesWay ∈ W0 := W0_at (i := 399) (by decide +kernel) (by decide +kernel)
theorem wi_X5_freesWay : Cond.instanceMethod yX5_freesWay ∈ W0 := W0_at (i := 401) (by decide +kernel) (by decide +kernel)
theorem we_X5_freesWay : Cond.selects RX5 yX5_freesWay yX5_freesWay ∈ W0 := W0_se (i := 15) (by decide +kernel) (by decide +kernel)
theorem wc_X5_freesWay : Cond.code yX5_freesWay cX5_freesWay 5 (some .boolean) ∈ W0 := W0_at (i := 402) (by decide +kernel) (by decide +kernel)
theorem wf_X3_14 : Cond.fieldLink RX3 14 "IceField$Text" "bytes" "LIceField$Numbers;" ∈ W0 := W0_at (i := 97) (by decide +kernel) (by decide +kernel)
theorem wf_X3_20 : Cond.fieldLink RX3 20 "IceField$Text" "length" "I" ∈ W0 := W0_at (i := 98) (by decide +kernel) (by decide +kernel)
theorem wl_X3_30 : Cond.methodLink RX3 30 yX2_put ∈ W0 := W0_at (i := 736) (by decide +kernel) (by decide +kernel)
theorem wf_X5_33 : Cond.fieldLink RX5 33 "IceField" "text" "LIceField$Text;" ∈ W0 := W0_at (i := 191) (by decide +kernel) (by decide +kernel)
theorem wf_X5_226 : Cond.fieldLink RX5 226 "IceField$Text" "length" "I" ∈ W0 := W0_at (i := 99) (by decide +kernel) (by decide +kernel)
theorem wl_X5_231 : Cond.methodLink RX5 231 yX3_add ∈ W0 := W0_at (i := 732) (by decide +kernel) (by decide +kernel)
theorem wi_X3_add : Cond.instanceMethod yX3_add ∈ W0 := W0_at (i := 733) (by decide +kernel) (by decide +kernel)
theorem we_X3_add : Cond.selects RX3 yX3_add yX3_add ∈ W0 := W0_at (i := 734) (by decide +kernel) (by decide +kernel)
theorem wn_X3 : Cond.initialized RX3 ∈ W0 := W0_at (i := 4) (by decide +kernel) (by decide +kernel)
theorem wc_X3_add : Cond.code yX3_add cX3_add 2 (none) ∈ W0 := W0_at (i := 735) (by decide +kernel) (by decide +kernel)
theorem wf_X3_27 : Cond.fieldLink RX3 27 "IceField$Text" "height" "I" ∈ W0 := W0_at (i := 102) (by decide +kernel) (by decide +kernel)
theorem wf_X3_24 : Cond.fieldLink RX3 24 "IceField$Text" "width" "I" ∈ W0 := W0_at (i := 100) (by decide +kernel) (by decide +kernel)
theorem wl_X3_34 : Cond.methodLink RX3 34 yX2_at ∈ W0 := W0_at (i := 419) (by decide +kernel) (by decide +kernel)
theorem wl_X3_38 : Cond.methodLink RX3 38 yX3_isDigit ∈ W0 := W0_at (i := 420) (by decide +kernel) (by decide +kernel)
theorem wt_X3_isDigit : Cond.static yX3_isDigit ∈ W0 := W0_at (i := 421) (by decide +kernel) (by decide +kernel)
theorem wc_X3_isDigit : Cond.code yX3_isDigit cX3_isDigit 1 (some .boolean) ∈ W0 := W0_at (i := 422) (by decide +kernel) (by decide +kernel)
theorem wl_X3_42 : Cond.methodLink RX3 42 yX3_mostDigits ∈ W0 := W0_at (i := 423) (by decide +kernel) (by decide +kernel)
theorem wi_X3_mostDigits : Cond.instanceMethod yX3_mostDigits ∈ W0 := W0_at (i := 425) (by decide +kernel) (by decide +kernel)
theorem we_X3_mostDigits : Cond.selects RX3 yX3_mostDigits yX3_mostDigits ∈ W0 := W0_se (i := 16) (by decide +kernel) (by decide +kernel)
theorem wc_X3_mostDigits : Cond.code yX3_mostDigits cX3_mostDigits 1 (some .int) ∈ W0 := W0_at (i := 426) (by decide +kernel) (by decide +kernel)
theorem wl_X3_46 : Cond.methodLink RX3 46 yX3_leastDigits ∈ W0 := W0_at (i := 427) (by decide +kernel) (by decide +kernel)
theorem wi_X3_leastDigits : Cond.instanceMethod yX3_leastDigits ∈ W0 := W0_at (i := 429) (by decide +kernel) (by decide +kernel)
theorem we_X3_leastDigits : Cond.selects RX3 yX3_leastDigits yX3_leastDigits ∈ W0 := W0_se (i := 17) (by decide +kernel) (by decide +kernel)
theorem wc_X3_leastDigits : Cond.code yX3_leastDigits cX3_leastDigits 1 (some .int) ∈ W0 := W0_at (i := 430) (by decide +kernel) (by decide +kernel)
theorem wl_X5_233 : Cond.methodLink RX5 233 yX3_read ∈ W0 := W0_at (i := 415) (by decide +kernel) (by decide +kernel)
theorem wi_X3_read : Cond.instanceMethod yX3_read ∈ W0 := W0_at (i := 416) (by decide +kernel) (by decide +kernel)
theorem we_X3_read : Cond.selects RX3 yX3_read yX3_read ∈ W0 := W0_at (i := 417) (by decide +kernel) (by decide +kernel)
theorem wc_X3_read : Cond.code yX3_read cX3_read 3 (some .int) ∈ W0 := W0_at (i := 418) (by decide +kernel) (by decide +kernel)
theorem wf_X5_236 : Cond.fieldLink RX5 236 "IceField$Text" "width" "I" ∈ W0 := W0_at (i := 101) (by decide +kernel) (by decide +kernel)
theorem wf_X5_239 : Cond.fieldLink RX5 239 "IceField$Text" "height" "I" ∈ W0 := W0_at (i := 103) (by decide +kernel) (by decide +kernel)
theorem wl_X5_248 : Cond.methodLink RX5 248 yX3_digitAt ∈ W0 := W0_at (i := 433) (by decide +kernel) (by decide +kernel)
theorem wi_X3_digitAt : Cond.instanceMethod yX3_digitAt ∈ W0 := W0_at (i := 434) (by decide +kernel) (by decide +kernel)
theorem we_X3_digitAt : Cond.selects RX3 yX3_digitAt yX3_digitAt ∈ W0 := W0_at (i := 435) (by decide +kernel) (by decide +kernel)
theorem wc_X3_digitAt : Cond.code yX3_digitAt cX3_digitAt 3 (some .int) ∈ W0 := W0_at (i := 436) (by decide +kernel) (by decide +kernel)
theorem wq_X5_257 : Cond.constantLong RX5 257 (110267) ∈ W0 := W0_at (i := 442) (by decide +kernel) (by decide +kernel)
theorem wq_X5_259 : Cond.constantLong RX5 259 (31) ∈ W0 := W0_at (i := 443) (by decide +kernel) (by decide +kernel)
theorem wf_X6_38 : Cond.fieldLink RX6 38 "IceFieldModel" "threw" "I" ∈ W0 := W0_at (i := 763) (by decide +kernel) (by decide +kernel)
theorem wf_X6_42 : Cond.fieldLink RX6 42 "IceFieldModel" "savedMany" "I" ∈ W0 := W0_at (i := 762) (by decide +kernel) (by decide +kernel)
theorem wf_X6_13 : Cond.fieldLink RX6 13 "IceFieldModel" "saved" "[I" ∈ W0 := W0_at (i := 760) (by decide +kernel) (by decide +kernel)
theorem wf_X6_7 : Cond.fieldLink RX6 7 "IceFieldModel" "all" "[I" ∈ W0 := W0_at (i := 759) (by decide +kernel) (by decide +kernel)
theorem wf_X6_16 : Cond.fieldLink RX6 16 "IceFieldModel" "aside" "[I" ∈ W0 := W0_at (i := 761) (by decide +kernel) (by decide +kernel)
theorem wl_X6_45 : Cond.methodLink RX6 45 yX6_cells ∈ W0 := W0_at (i := 830) (by decide +kernel) (by decide +kernel)
theorem wi_X6_cells : Cond.instanceMethod yX6_cells ∈ W0 := W0_at (i := 832) (by decide +kernel) (by decide +kernel)
theorem we_X6_cells : Cond.selects RX6 yX6_cells yX6_cells ∈ W0 := W0_se (i := 32) (by decide +kernel) (by decide +kernel)
theorem wn_X6 : Cond.initialized RX6 ∈ W0 := W0_at (i := 7) (by decide +kernel) (by decide +kernel)
theorem wc_X6_cells : Cond.code yX6_cells cX6_cells 1 (some .int) ∈ W0 := W0_at (i := 833) (by decide +kernel) (by decide +kernel)
theorem wl_X6_49 : Cond.methodLink RX6 49 yX6_in ∈ W0 := W0_at (i := 806) (by decide +kernel) (by decide +kernel)
theorem wt_X6_in : Cond.static yX6_in ∈ W0 := W0_at (i := 807) (by decide +kernel) (by decide +kernel)
theorem wc_X6_in : Cond.code yX6_in cX6_in 6 (some .boolean) ∈ W0 := W0_at (i := 808) (by decide +kernel) (by decide +kernel)
theorem wq_X6_53 : Cond.constantLong RX6 53 (2) ∈ W0 := W0_at (i := 804) (by decide +kernel) (by decide +kernel)
theorem wq_X6_55 : Cond.constantLong RX6 55 (7) ∈ W0 := W0_at (i := 805) (by decide +kernel) (by decide +kernel)
theorem wq_X6_57 : Cond.constantLong RX6 57 (50) ∈ W0 := W0_at (i := 809) (by decide +kernel) (by decide +kernel)
theorem wl_X6_63 : Cond.methodLink RX6 63 yX6_save ∈ W0 := W0_at (i := 814) (by decide +kernel) (by decide +kernel)
theorem wi_X6_save : Cond.instanceMethod yX6_save ∈ W0 := W0_at (i := 816) (by decide +kernel) (by decide +kernel)
theorem we_X6_save : Cond.selects RX6 yX6_save yX6_save ∈ W0 := W0_se (i := 29) (by decide +kernel) (by decide +kernel)
theorem wc_X6_save : Cond.code yX6_save cX6_save 2 (none) ∈ W0 := W0_at (i := 817) (by decide +kernel) (by decide +kernel)
theorem wl_X6_31 : Cond.methodLink RX6 31 yX6_makes ∈ W0 := W0_at (i := 751) (by decide +kernel) (by decide +kernel)
theorem wi_X6_makes : Cond.instanceMethod yX6_makes ∈ W0 := W0_at (i := 753) (by decide +kernel) (by decide +kernel)
theorem we_X6_makes : Cond.selects RX6 yX6_makes yX6_makes ∈ W0 := W0_se (i := 26) (by decide +kernel) (by decide +kernel)
theorem wc_X6_makes : Cond.code yX6_makes cX6_makes 5 (none) ∈ W0 := W0_at (i := 754) (by decide +kernel) (by decide +kernel)
theorem wl_X6_59 : Cond.methodLink RX6 59 yX6_throwing ∈ W0 := W0_at (i := 810) (by decide +kernel) (by decide +kernel)
theorem wi_X6_throwing : Cond.instanceMethod yX6_throwing ∈ W0 := W0_at (i := 812) (by decide +kernel) (by decide +kernel)
theorem we_X6_throwing : Cond.selects RX6 yX6_throwing yX6_throwing ∈ W0 := W0_se (i := 28) (by decide +kernel) (by decide +kernel)
theorem wc_X6_throwing : Cond.code yX6_throwing cX6_throwing 2 (some .int) ∈ W0 := W0_at (i := 813) (by decide +kernel) (by decide +kernel)
theorem wl_X6_66 : Cond.methodLink RX6 66 yX6_fine ∈ W0 := W0_at (i := 818) (by decide +kernel) (by decide +kernel)
theorem wi_X6_fine : Cond.instanceMethod yX6_fine ∈ W0 := W0_at (i := 820) (by decide +kernel) (by decide +kernel)
theorem we_X6_fine : Cond.selects RX6 yX6_fine yX6_fine ∈ W0 := W0_se (i := 30) (by decide +kernel) (by decide +kernel)
theorem wc_X6_fine : Cond.code yX6_fine cX6_fine 2 (some .int) ∈ W0 := W0_at (i := 821) (by decide +kernel) (by decide +kernel)
theorem wl_X6_35 : Cond.methodLink RX6 35 yX6_puts ∈ W0 := W0_at (i := 755) (by decide +kernel) (by decide +kernel)
theorem wi_X6_puts : Cond.instanceMethod yX6_puts ∈ W0 := W0_at (i := 757) (by decide +kernel) (by decide +kernel)
theorem we_X6_puts : Cond.selects RX6 yX6_puts yX6_puts ∈ W0 := W0_se (i := 27) (by decide +kernel) (by decide +kernel)
theorem wc_X6_puts : Cond.code yX6_puts cX6_puts 3 (none) ∈ W0 := W0_at (i := 758) (by decide +kernel) (by decide +kernel)
theorem wl_X6_69 : Cond.methodLink RX6 69 yX6_isCell ∈ W0 := W0_at (i := 826) (by decide +kernel) (by decide +kernel)
theorem wi_X6_isCell : Cond.instanceMethod yX6_isCell ∈ W0 := W0_at (i := 828) (by decide +kernel) (by decide +kernel)
theorem we_X6_isCell : Cond.selects RX6 yX6_isCell yX6_isCell ∈ W0 := W0_se (i := 31) (by decide +kernel) (by decide +kernel)
theorem wc_X6_isCell : Cond.code yX6_isCell cX6_isCell 2 (some .boolean) ∈ W0 := W0_at (i := 829) (by decide +kernel) (by decide +kernel)
theorem wl_X6_73 : Cond.methodLink RX6 73 yX6_column ∈ W0 := W0_at (i := 843) (by decide +kernel) (by decide +kernel)
theorem wi_X6_column : Cond.instanceMethod yX6_column ∈ W0 := W0_at (i := 845) (by decide +kernel) (by decide +kernel)
theorem we_X6_column : Cond.selects RX6 yX6_column yX6_column ∈ W0 := W0_se (i := 34) (by decide +kernel) (by decide +kernel)
theorem wc_X6_column : Cond.code yX6_column cX6_column 2 (some .int) ∈ W0 := W0_at (i := 846) (by decide +kernel) (by decide +kernel)
theorem wl_X6_76 : Cond.methodLink RX6 76 yX6_row ∈ W0 := W0_at (i := 847) (by decide +kernel) (by decide +kernel)
theorem wi_X6_row : Cond.instanceMethod yX6_row ∈ W0 := W0_at (i := 849) (by decide +kernel) (by decide +kernel)
theorem we_X6_row : Cond.selects RX6 yX6_row yX6_row ∈ W0 := W0_se (i := 35) (by decide +kernel) (by decide +kernel)
theorem wc_X6_row : Cond.code yX6_row cX6_row 2 (some .int) ∈ W0 := W0_at (i := 850) (by decide +kernel) (by decide +kernel)
theorem wl_X6_79 : Cond.methodLink RX6 79 yX6_canSaw ∈ W0 := W0_at (i := 839) (by decide +kernel) (by decide +kernel)
theorem wi_X6_canSaw : Cond.instanceMethod yX6_canSaw ∈ W0 := W0_at (i := 841) (by decide +kernel) (by decide +kernel)
theorem we_X6_canSaw : Cond.selects RX6 yX6_canSaw yX6_canSaw ∈ W0 := W0_se (i := 33) (by decide +kernel) (by decide +kernel)
theorem wc_X6_canSaw : Cond.code yX6_canSaw cX6_canSaw 3 (some .boolean) ∈ W0 := W0_at (i := 842) (by decide +kernel) (by decide +kernel)
theorem wl_X6_83 : Cond.methodLink RX6 83 yX6_keeper ∈ W0 := W0_at (i := 859) (by decide +kernel) (by decide +kernel)
theorem wi_X6_keeper : Cond.instanceMethod yX6_keeper ∈ W0 := W0_at (i := 861) (by decide +kernel) (by decide +kernel)
theorem we_X6_keeper : Cond.selects RX6 yX6_keeper yX6_keeper ∈ W0 := W0_se (i := 38) (by decide +kernel) (by decide +kernel)
theorem wc_X6_keeper : Cond.code yX6_keeper cX6_keeper 3 (some .int) ∈ W0 := W0_at (i := 862) (by decide +kernel) (by decide +kernel)
theorem wl_X6_87 : Cond.methodLink RX6 87 yX6_bit ∈ W0 := W0_at (i := 863) (by decide +kernel) (by decide +kernel)
theorem wi_X6_bit : Cond.instanceMethod yX6_bit ∈ W0 := W0_at (i := 865) (by decide +kernel) (by decide +kernel)
theorem we_X6_bit : Cond.selects RX6 yX6_bit yX6_bit ∈ W0 := W0_se (i := 39) (by decide +kernel) (by decide +kernel)
theorem wc_X6_bit : Cond.code yX6_bit cX6_bit 3 (some .int) ∈ W0 := W0_at (i := 866) (by decide +kernel) (by decide +kernel)
theorem wl_X6_90 : Cond.methodLink RX6 90 yX6_isCut ∈ W0 := W0_at (i := 855) (by decide +kernel) (by decide +kernel)
theorem wi_X6_isCut : Cond.instanceMethod yX6_isCut ∈ W0 := W0_at (i := 857) (by decide +kernel) (by decide +kernel)
theorem we_X6_isCut : Cond.selects RX6 yX6_isCut yX6_isCut ∈ W0 := W0_se (i := 37) (by decide +kernel) (by decide +kernel)
theorem wc_X6_isCut : Cond.code yX6_isCut cX6_isCut 3 (some .boolean) ∈ W0 := W0_at (i := 858) (by decide +kernel) (by decide +kernel)
theorem wq_X6_93 : Cond.constantLong RX6 93 (3) ∈ W0 := W0_at (i := 838) (by decide +kernel) (by decide +kernel)
theorem wl_X6_95 : Cond.methodLink RX6 95 yX6_saws ∈ W0 := W0_at (i := 851) (by decide +kernel) (by decide +kernel)
theorem wi_X6_saws : Cond.instanceMethod yX6_saws ∈ W0 := W0_at (i := 853) (by decide +kernel) (by decide +kernel)
theorem we_X6_saws : Cond.selects RX6 yX6_saws yX6_saws ∈ W0 := W0_se (i := 36) (by decide +kernel) (by decide +kernel)
theorem wc_X6_saws : Cond.code yX6_saws cX6_saws 3 (some .int) ∈ W0 := W0_at (i := 854) (by decide +kernel) (by decide +kernel)
theorem wl_X6_98 : Cond.methodLink RX6 98 yX6_isRectangle ∈ W0 := W0_at (i := 871) (by decide +kernel) (by decide +kernel)
theorem wi_X6_isRectangle : Cond.instanceMethod yX6_isRectangle ∈ W0 := W0_at (i := 873) (by decide +kernel) (by decide +kernel)
theorem we_X6_isRectangle : Cond.selects RX6 yX6_isRectangle yX6_isRectangle ∈ W0 := W0_se (i := 40) (by decide +kernel) (by decide +kernel)
theorem wc_X6_isRectangle : Cond.code yX6_isRectangle cX6_isRectangle 4 (some .boolean) ∈ W0 := W0_at (i := 874) (by decide +kernel) (by decide +kernel)
theorem wl_X6_102 : Cond.methodLink RX6 102 yX6_sawsAround ∈ W0 := W0_at (i := 875) (by decide +kernel) (by decide +kernel)
theorem wi_X6_sawsAround : Cond.instanceMethod yX6_sawsAround ∈ W0 := W0_at (i := 877) (by decide +kernel) (by decide +kernel)
theorem we_X6_sawsAround : Cond.selects RX6 yX6_sawsAround yX6_sawsAround ∈ W0 := W0_se (i := 41) (by decide +kernel) (by decide +kernel)
theorem wc_X6_sawsAround : Cond.code yX6_sawsAround cX6_sawsAround 6 (some .int) ∈ W0 := W0_at (i := 878) (by decide +kernel) (by decide +kernel)
theorem wl_X6_106 : Cond.methodLink RX6 106 yX6_laysAside ∈ W0 := W0_at (i := 883) (by decide +kernel) (by decide +kernel)
theorem wi_X6_laysAside : Cond.instanceMethod yX6_laysAside ∈ W0 := W0_at (i := 885) (by decide +kernel) (by decide +kernel)
theorem we_X6_laysAside : Cond.selects RX6 yX6_laysAside yX6_laysAside ∈ W0 := W0_se (i := 42) (by decide +kernel) (by decide +kernel)
theorem wc_X6_laysAside : Cond.code yX6_laysAside cX6_laysAside 2 (none) ∈ W0 := W0_at (i := 886) (by decide +kernel) (by decide +kernel)
theorem wl_X6_109 : Cond.methodLink RX6 109 yX6_takesBack ∈ W0 := W0_at (i := 887) (by decide +kernel) (by decide +kernel)
theorem wi_X6_takesBack : Cond.instanceMethod yX6_takesBack ∈ W0 := W0_at (i := 889) (by decide +kernel) (by decide +kernel)
theorem we_X6_takesBack : Cond.selects RX6 yX6_takesBack yX6_takesBack ∈ W0 := W0_se (i := 43) (by decide +kernel) (by decide +kernel)
theorem wc_X6_takesBack : Cond.code yX6_takesBack cX6_takesBack 2 (none) ∈ W0 := W0_at (i := 890) (by decide +kernel) (by decide +kernel)
theorem wl_X6_112 : Cond.methodLink RX6 112 yX6_isIce ∈ W0 := W0_at (i := 899) (by decide +kernel) (by decide +kernel)
theorem wi_X6_isIce : Cond.instanceMethod yX6_isIce ∈ W0 := W0_at (i := 901) (by decide +kernel) (by decide +kernel)
theorem we_X6_isIce : Cond.selects RX6 yX6_isIce yX6_isIce ∈ W0 := W0_se (i := 45) (by decide +kernel) (by decide +kernel)
theorem wc_X6_isIce : Cond.code yX6_isIce cX6_isIce 2 (some .boolean) ∈ W0 := W0_at (i := 902) (by decide +kernel) (by decide +kernel)
theorem wf_X6_19 : Cond.fieldLink RX6 19 "IceFieldModel" "block" "[I" ∈ W0 := W0_at (i := 764) (by decide +kernel) (by decide +kernel)
theorem wl_X6_115 : Cond.methodLink RX6 115 yX6_hang ∈ W0 := W0_at (i := 903) (by decide +kernel) (by decide +kernel)
theorem wi_X6_hang : Cond.instanceMethod yX6_hang ∈ W0 := W0_at (i := 905) (by decide +kernel) (by decide +kernel)
theorem we_X6_hang : Cond.selects RX6 yX6_hang yX6_hang ∈ W0 := W0_se (i := 46) (by decide +kernel) (by decide +kernel)
theorem wc_X6_hang : Cond.code yX6_hang cX6_hang 4 (some .boolean) ∈ W0 := W0_at (i := 906) (by decide +kernel) (by decide +kernel)
theorem wl_X6_118 : Cond.methodLink RX6 118 yX6_joins ∈ W0 := W0_at (i := 907) (by decide +kernel) (by decide +kernel)
theorem wi_X6_joins : Cond.instanceMethod yX6_joins ∈ W0 := W0_at (i := 909) (by decide +kernel) (by decide +kernel)
theorem we_X6_joins : Cond.selects RX6 yX6_joins yX6_joins ∈ W0 := W0_se (i := 47) (by decide +kernel) (by decide +kernel)
theorem wc_X6_joins : Cond.code yX6_joins cX6_joins 5 (some .boolean) ∈ W0 := W0_at (i := 910) (by decide +kernel) (by decide +kernel)
theorem wl_X6_127 : Cond.methodLink RX6 127 yX6_moved ∈ W0 := W0_at (i := 931) (by decide +kernel) (by decide +kernel)
theorem wt_X6_moved : Cond.static yX6_moved ∈ W0 := W0_at (i := 932) (by decide +kernel) (by decide +kernel)
theorem wc_X6_moved : Cond.code yX6_moved cX6_moved 2 (some .int) ∈ W0 := W0_at (i := 933) (by decide +kernel) (by decide +kernel)
theorem wq_X6_130 : Cond.constantLong RX6 130 (224) ∈ W0 := W0_at (i := 934) (by decide +kernel) (by decide +kernel)
theorem wf_X6_22 : Cond.fieldLink RX6 22 "IceFieldModel" "far" "[I" ∈ W0 := W0_at (i := 765) (by decide +kernel) (by decide +kernel)
theorem wl_X6_121 : Cond.methodLink RX6 121 yX6_mayLie ∈ W0 := W0_at (i := 923) (by decide +kernel) (by decide +kernel)
theorem wi_X6_mayLie : Cond.instanceMethod yX6_mayLie ∈ W0 := W0_at (i := 925) (by decide +kernel) (by decide +kernel)
theorem we_X6_mayLie : Cond.selects RX6 yX6_mayLie yX6_mayLie ∈ W0 := W0_se (i := 51) (by decide +kernel) (by decide +kernel)
theorem wc_X6_mayLie : Cond.code yX6_mayLie cX6_mayLie 8 (some .boolean) ∈ W0 := W0_at (i := 926) (by decide +kernel) (by decide +kernel)
theorem wl_X6_124 : Cond.methodLink RX6 124 yX6_isBeside ∈ W0 := W0_at (i := 927) (by decide +kernel) (by decide +kernel)
theorem wi_X6_isBeside : Cond.instanceMethod yX6_isBeside ∈ W0 := W0_at (i := 929) (by decide +kernel) (by decide +kernel)
theorem we_X6_isBeside : Cond.selects RX6 yX6_isBeside yX6_isBeside ∈ W0 := W0_se (i := 52) (by decide +kernel) (by decide +kernel)
theorem wc_X6_isBeside : Cond.code yX6_isBeside cX6_isBeside 6 (some .boolean) ∈ W0 := W0_at (i := 930) (by decide +kernel) (by decide +kernel)
theorem wl_X6_132 : Cond.methodLink RX6 132 yX6_isHeld ∈ W0 := W0_at (i := 915) (by decide +kernel) (by decide +kernel)
theorem wi_X6_isHeld : Cond.instanceMethod yX6_isHeld ∈ W0 := W0_at (i := 917) (by decide +kernel) (by decide +kernel)
theorem we_X6_isHeld : Cond.selects RX6 yX6_isHeld yX6_isHeld ∈ W0 := W0_se (i := 49) (by decide +kernel) (by decide +kernel)
theorem wc_X6_isHeld : Cond.code yX6_isHeld cX6_isHeld 4 (some .boolean) ∈ W0 := W0_at (i := 918) (by decide +kernel) (by decide +kernel)
theorem wl_X6_135 : Cond.methodLink RX6 135 yX6_findsWays ∈ W0 := W0_at (i := 919) (by decide +kernel) (by decide +kernel)
theorem wi_X6_findsWays : Cond.instanceMethod yX6_findsWays ∈ W0 := W0_at (i := 921) (by decide +kernel) (by decide +kernel)
theorem we_X6_findsWays : Cond.selects RX6 yX6_findsWays yX6_findsWays ∈ W0 := W0_se (i := 50) (by decide +kernel) (by decide +kernel)
theorem wc_X6_findsWays : Cond.code yX6_findsWays cX6_findsWays 6 (none) ∈ W0 := W0_at (i := 922) (by decide +kernel) (by decide +kernel)
theorem wl_X6_139 : Cond.methodLink RX6 139 yX6_way ∈ W0 := W0_at (i := 911) (by decide +kernel) (by decide +kernel)
theorem wi_X6_way : Cond.instanceMethod yX6_way ∈ W0 := W0_at (i := 913) (by decide +kernel) (by decide +kernel)
theorem we_X6_way : Cond.selects RX6 yX6_way yX6_way ∈ W0 := W0_se (i := 48) (by decide +kernel) (by decide +kernel)
theorem wc_X6_way : Cond.code yX6_way cX6_way 2 (some .int) ∈ W0 := W0_at (i := 914) (by decide +kernel) (by decide +kernel)
theorem wl_X6_142 : Cond.methodLink RX6 142 yX6_sizeOf ∈ W0 := W0_at (i := 935) (by decide +kernel) (by decide +kernel)
theorem wi_X6_sizeOf : Cond.instanceMethod yX6_sizeOf ∈ W0 := W0_at (i := 937) (by decide +kernel) (by decide +kernel)
theorem we_X6_sizeOf : Cond.selects RX6 yX6_sizeOf yX6_sizeOf ∈ W0 := W0_se (i := 53) (by decide +kernel) (by decide +kernel)
theorem wc_X6_sizeOf : Cond.code yX6_sizeOf cX6_sizeOf 5 (some .int) ∈ W0 := W0_at (i := 938) (by decide +kernel) (by decide +kernel)
theorem wl_X6_146 : Cond.methodLink RX6 146 yX6_findsBlocks ∈ W0 := W0_at (i := 895) (by decide +kernel) (by decide +kernel)
theorem wi_X6_findsBlocks : Cond.instanceMethod yX6_findsBlocks ∈ W0 := W0_at (i := 897) (by decide +kernel) (by decide +kernel)
theorem we_X6_findsBlocks : Cond.selects RX6 yX6_findsBlocks yX6_findsBlocks ∈ W0 := W0_se (i := 44) (by decide +kernel) (by decide +kernel)
theorem wc_X6_findsBlocks : Cond.code yX6_findsBlocks cX6_findsBlocks 3 (none) ∈ W0 := W0_at (i := 898) (by decide +kernel) (by decide +kernel)
theorem wl_X6_149 : Cond.methodLink RX6 149 yX6_takes ∈ W0 := W0_at (i := 939) (by decide +kernel) (by decide +kernel)
theorem wi_X6_takes : Cond.instanceMethod yX6_takes ∈ W0 := W0_at (i := 941) (by decide +kernel) (by decide +kernel)
theorem we_X6_takes : Cond.selects RX6 yX6_takes yX6_takes ∈ W0 := W0_se (i := 54) (by decide +kernel) (by decide +kernel)
theorem wc_X6_takes : Cond.code yX6_takes cX6_takes 4 (none) ∈ W0 := W0_at (i := 942) (by decide +kernel) (by decide +kernel)
theorem wl_X6_152 : Cond.methodLink RX6 152 yX6_nextLoose ∈ W0 := W0_at (i := 951) (by decide +kernel) (by decide +kernel)
theorem wi_X6_nextLoose : Cond.instanceMethod yX6_nextLoose ∈ W0 := W0_at (i := 953) (by decide +kernel) (by decide +kernel)
theorem we_X6_nextLoose : Cond.selects RX6 yX6_nextLoose yX6_nextLoose ∈ W0 := W0_se (i := 56) (by decide +kernel) (by decide +kernel)
theorem wc_X6_nextLoose : Cond.code yX6_nextLoose cX6_nextLoose 5 (some .int) ∈ W0 := W0_at (i := 954) (by decide +kernel) (by decide +kernel)
theorem wl_X6_155 : Cond.methodLink RX6 155 yX6_takesAll ∈ W0 := W0_at (i := 947) (by decide +kernel) (by decide +kernel)
theorem wi_X6_takesAll : Cond.instanceMethod yX6_takesAll ∈ W0 := W0_at (i := 949) (by decide +kernel) (by decide +kernel)
theorem we_X6_takesAll : Cond.selects RX6 yX6_takesAll yX6_takesAll ∈ W0 := W0_se (i := 55) (by decide +kernel) (by decide +kernel)
theorem wc_X6_takesAll : Cond.code yX6_takesAll cX6_takesAll 3 (some .int) ∈ W0 := W0_at (i := 950) (by decide +kernel) (by decide +kernel)
theorem wq_X6_158 : Cond.constantLong RX6 158 (9) ∈ W0 := W0_at (i := 959) (by decide +kernel) (by decide +kernel)
theorem wl_X6_160 : Cond.methodLink RX6 160 yX6_waterBeside ∈ W0 := W0_at (i := 968) (by decide +kernel) (by decide +kernel)
theorem wi_X6_waterBeside : Cond.instanceMethod yX6_waterBeside ∈ W0 := W0_at (i := 970) (by decide +kernel) (by decide +kernel)
theorem we_X6_waterBeside : Cond.selects RX6 yX6_waterBeside yX6_waterBeside ∈ W0 := W0_se (i := 58) (by decide +kernel) (by decide +kernel)
theorem wc_X6_waterBeside : Cond.code yX6_waterBeside cX6_waterBeside 4 (some .int) ∈ W0 := W0_at (i := 971) (by decide +kernel) (by decide +kernel)
theorem wf_X6_25 : Cond.fieldLink RX6 25 "IceFieldModel" "loses" "[I" ∈ W0 := W0_at (i := 766) (by decide +kernel) (by decide +kernel)
theorem wl_X6_163 : Cond.methodLink RX6 163 yX6_day ∈ W0 := W0_at (i := 964) (by decide +kernel) (by decide +kernel)
theorem wi_X6_day : Cond.instanceMethod yX6_day ∈ W0 := W0_at (i := 966) (by decide +kernel) (by decide +kernel)
theorem we_X6_day : Cond.selects RX6 yX6_day yX6_day ∈ W0 := W0_se (i := 57) (by decide +kernel) (by decide +kernel)
theorem wc_X6_day : Cond.code yX6_day cX6_day 4 (some .int) ∈ W0 := W0_at (i := 967) (by decide +kernel) (by decide +kernel)
theorem wq_X6_166 : Cond.constantLong RX6 166 (6) ∈ W0 := W0_at (i := 976) (by decide +kernel) (by decide +kernel)
theorem wl_X6_168 : Cond.methodLink RX6 168 yX6_cellOf ∈ W0 := W0_at (i := 977) (by decide +kernel) (by decide +kernel)
theorem wi_X6_cellOf : Cond.instanceMethod yX6_cellOf ∈ W0 := W0_at (i := 979) (by decide +kernel) (by decide +kernel)
theorem we_X6_cellOf : Cond.selects RX6 yX6_cellOf yX6_cellOf ∈ W0 := W0_se (i := 59) (by decide +kernel) (by decide +kernel)
theorem wc_X6_cellOf : Cond.code yX6_cellOf cX6_cellOf 3 (some .int) ∈ W0 := W0_at (i := 980) (by decide +kernel) (by decide +kernel)
theorem wq_X6_171 : Cond.constantLong RX6 171 (4) ∈ W0 := W0_at (i := 985) (by decide +kernel) (by decide +kernel)
theorem wl_X6_173 : Cond.methodLink RX6 173 yX6_blockOf ∈ W0 := W0_at (i := 986) (by decide +kernel) (by decide +kernel)
theorem wi_X6_blockOf : Cond.instanceMethod yX6_blockOf ∈ W0 := W0_at (i := 988) (by decide +kernel) (by decide +kernel)
theorem we_X6_blockOf : Cond.selects RX6 yX6_blockOf yX6_blockOf ∈ W0 := W0_se (i := 60) (by decide +kernel) (by decide +kernel)
theorem wc_X6_blockOf : Cond.code yX6_blockOf cX6_blockOf 4 (some .int) ∈ W0 := W0_at (i := 989) (by decide +kernel) (by decide +kernel)
theorem wl_X6_179 : Cond.methodLink RX6 179 yX6_sum ∈ W0 := W0_at (i := 1007) (by decide +kernel) (by decide +kernel)
theorem wi_X6_sum : Cond.instanceMethod yX6_sum ∈ W0 := W0_at (i := 1009) (by decide +kernel) (by decide +kernel)
theorem we_X6_sum : Cond.selects RX6 yX6_sum yX6_sum ∈ W0 := W0_se (i := 63) (by decide +kernel) (by decide +kernel)
theorem wc_X6_sum : Cond.code yX6_sum cX6_sum 5 (some .int) ∈ W0 := W0_at (i := 1010) (by decide +kernel) (by decide +kernel)
theorem wl_X6_176 : Cond.methodLink RX6 176 yX6_blocks ∈ W0 := W0_at (i := 1003) (by decide +kernel) (by decide +kernel)
theorem wi_X6_blocks : Cond.instanceMethod yX6_blocks ∈ W0 := W0_at (i := 1005) (by decide +kernel) (by decide +kernel)
theorem we_X6_blocks : Cond.selects RX6 yX6_blocks yX6_blocks ∈ W0 := W0_se (i := 62) (by decide +kernel) (by decide +kernel)
theorem wc_X6_blocks : Cond.code yX6_blocks cX6_blocks 5 (some .int) ∈ W0 := W0_at (i := 1006) (by decide +kernel) (by decide +kernel)
theorem wq_X6_182 : Cond.constantLong RX6 182 (13) ∈ W0 := W0_at (i := 998) (by decide +kernel) (by decide +kernel)
theorem wl_X6_184 : Cond.methodLink RX6 184 yX6_valueOf ∈ W0 := W0_at (i := 999) (by decide +kernel) (by decide +kernel)
theorem wi_X6_valueOf : Cond.instanceMethod yX6_valueOf ∈ W0 := W0_at (i := 1001) (by decide +kernel) (by decide +kernel)
theorem we_X6_valueOf : Cond.selects RX6 yX6_valueOf yX6_valueOf ∈ W0 := W0_se (i := 61) (by decide +kernel) (by decide +kernel)
theorem wc_X6_valueOf : Cond.code yX6_valueOf cX6_valueOf 2 (some .int) ∈ W0 := W0_at (i := 1002) (by decide +kernel) (by decide +kernel)
theorem wl_X6_187 : Cond.methodLink RX6 187 yX6_kept ∈ W0 := W0_at (i := 1015) (by decide +kernel) (by decide +kernel)
theorem wi_X6_kept : Cond.instanceMethod yX6_kept ∈ W0 := W0_at (i := 1017) (by decide +kernel) (by decide +kernel)
theorem we_X6_kept : Cond.selects RX6 yX6_kept yX6_kept ∈ W0 := W0_se (i := 64) (by decide +kernel) (by decide +kernel)
theorem wc_X6_kept : Cond.code yX6_kept cX6_kept 1 (some .int) ∈ W0 := W0_at (i := 1018) (by decide +kernel) (by decide +kernel)
theorem wl_X6_190 : Cond.methodLink RX6 190 yX6_takableNow ∈ W0 := W0_at (i := 1023) (by decide +kernel) (by decide +kernel)
theorem wi_X6_takableNow : Cond.instanceMethod yX6_takableNow ∈ W0 := W0_at (i := 1025) (by decide +kernel) (by decide +kernel)
theorem we_X6_takableNow : Cond.selects RX6 yX6_takableNow yX6_takableNow ∈ W0 := W0_se (i := 65) (by decide +kernel) (by decide +kernel)
theorem wc_X6_takableNow : Cond.code yX6_takableNow cX6_takableNow 2 (some .int) ∈ W0 := W0_at (i := 1026) (by decide +kernel) (by decide +kernel)
theorem wl_X6_193 : Cond.methodLink RX6 193 yX6_isWhole ∈ W0 := W0_at (i := 1035) (by decide +kernel) (by decide +kernel)
theorem wi_X6_isWhole : Cond.instanceMethod yX6_isWhole ∈ W0 := W0_at (i := 1037) (by decide +kernel) (by decide +kernel)
theorem we_X6_isWhole : Cond.selects RX6 yX6_isWhole yX6_isWhole ∈ W0 := W0_se (i := 66) (by decide +kernel) (by decide +kernel)
theorem wc_X6_isWhole : Cond.code yX6_isWhole cX6_isWhole 4 (some .boolean) ∈ W0 := W0_at (i := 1038) (by decide +kernel) (by decide +kernel)
theorem wq_X6_196 : Cond.constantLong RX6 196 (127) ∈ W0 := W0_at (i := 1055) (by decide +kernel) (by decide +kernel)
theorem wf_X6_198 : Cond.fieldLink RX6 198 "IceFieldModel" "textLong" "I" ∈ W0 := W0_at (i := 768) (by decide +kernel) (by decide +kernel)
theorem wf_X6_28 : Cond.fieldLink RX6 28 "IceFieldModel" "text" "[I" ∈ W0 := W0_at (i := 767) (by decide +kernel) (by decide +kernel)
theorem wl_X6_201 : Cond.methodLink RX6 201 yX6_here ∈ W0 := W0_at (i := 1072) (by decide +kernel) (by decide +kernel)
theorem wi_X6_here : Cond.instanceMethod yX6_here ∈ W0 := W0_at (i := 1074) (by decide +kernel) (by decide +kernel)
theorem we_X6_here : Cond.selects RX6 yX6_here yX6_here ∈ W0 := W0_se (i := 69) (by decide +kernel) (by decide +kernel)
theorem wc_X6_here : Cond.code yX6_here cX6_here 2 (some .int) ∈ W0 := W0_at (i := 1075) (by decide +kernel) (by decide +kernel)
theorem wq_X6_204 : Cond.constantLong RX6 204 (48) ∈ W0 := W0_at (i := 1076) (by decide +kernel) (by decide +kernel)
theorem wq_X6_206 : Cond.constantLong RX6 206 (57) ∈ W0 := W0_at (i := 1077) (by decide +kernel) (by decide +kernel)
theorem wl_X6_208 : Cond.methodLink RX6 208 yX6_behindDigits ∈ W0 := W0_at (i := 1068) (by decide +kernel) (by decide +kernel)
theorem wi_X6_behindDigits : Cond.instanceMethod yX6_behindDigits ∈ W0 := W0_at (i := 1070) (by decide +kernel) (by decide +kernel)
theorem we_X6_behindDigits : Cond.selects RX6 yX6_behindDigits yX6_behindDigits ∈ W0 := W0_se (i := 68) (by decide +kernel) (by decide +kernel)
theorem wc_X6_behindDigits : Cond.code yX6_behindDigits cX6_behindDigits 4 (some .int) ∈ W0 := W0_at (i := 1071) (by decide +kernel) (by decide +kernel)
theorem wf_X6_211 : Cond.fieldLink RX6 211 "IceFieldModel" "readWidth" "I" ∈ W0 := W0_at (i := 769) (by decide +kernel) (by decide +kernel)
theorem wf_X6_214 : Cond.fieldLink RX6 214 "IceFieldModel" "readHeight" "I" ∈ W0 := W0_at (i := 770) (by decide +kernel) (by decide +kernel)
theorem wl_X6_217 : Cond.methodLink RX6 217 yX6_fault ∈ W0 := W0_at (i := 1064) (by decide +kernel) (by decide +kernel)
theorem wi_X6_fault : Cond.instanceMethod yX6_fault ∈ W0 := W0_at (i := 1066) (by decide +kernel) (by decide +kernel)
theorem we_X6_fault : Cond.selects RX6 yX6_fault yX6_fault ∈ W0 := W0_se (i := 67) (by decide +kernel) (by decide +kernel)
theorem wc_X6_fault : Cond.code yX6_fault cX6_fault 3 (some .int) ∈ W0 := W0_at (i := 1067) (by decide +kernel) (by decide +kernel)
theorem wq_X6_220 : Cond.constantLong RX6 220 (110267) ∈ W0 := W0_at (i := 1086) (by decide +kernel) (by decide +kernel)
theorem wq_X6_222 : Cond.constantLong RX6 222 (31) ∈ W0 := W0_at (i := 1087) (by decide +kernel) (by decide +kernel)
theorem wl_L_7 : Cond.methodLink RL 7 yX5_make ∈ W0 := W0_at (i := 487) (by decide +kernel) (by decide +kernel)
theorem wi_X5_make : Cond.instanceMethod yX5_make ∈ W0 := W0_at (i := 488) (by decide +kernel) (by decide +kernel)
theorem we_X5_make : Cond.selects RX5 yX5_make yX5_make ∈ W0 := W0_at (i := 489) (by decide +kernel) (by decide +kernel)
theorem wc_X5_make : Cond.code yX5_make cX5_make 4 (some .int) ∈ W0 := W0_at (i := 490) (by decide +kernel) (by decide +kernel)
theorem wk_L_13 : Cond.classLink RL 13 "java/lang/IllegalArgumentException" ∈ W0 := W0_at (i := 486) (by decide +kernel) (by decide +kernel)
theorem wl_L_15 : Cond.methodLink RL 15 yX5_lay ∈ W0 := W0_at (i := 567) (by decide +kernel) (by decide +kernel)
theorem wi_X5_lay : Cond.instanceMethod yX5_lay ∈ W0 := W0_at (i := 568) (by decide +kernel) (by decide +kernel)
theorem we_X5_lay : Cond.selects RX5 yX5_lay yX5_lay ∈ W0 := W0_at (i := 569) (by decide +kernel) (by decide +kernel)
theorem wc_X5_lay : Cond.code yX5_lay cX5_lay 3 (some .int) ∈ W0 := W0_at (i := 570) (by decide +kernel) (by decide +kernel)
theorem wk_L_19 : Cond.classLink RL 19 "java/lang/IndexOutOfBoundsException" ∈ W0 := W0_at (i := 565) (by decide +kernel) (by decide +kernel)
theorem wk_L_21 : Cond.classLink RL 21 "java/lang/IllegalStateException" ∈ W0 := W0_at (i := 566) (by decide +kernel) (by decide +kernel)
theorem wl_L_23 : Cond.methodLink RL 23 yX5_saw ∈ W0 := W0_at (i := 611) (by decide +kernel) (by decide +kernel)
theorem wi_X5_saw : Cond.instanceMethod yX5_saw ∈ W0 := W0_at (i := 612) (by decide +kernel) (by decide +kernel)
theorem we_X5_saw : Cond.selects RX5 yX5_saw yX5_saw ∈ W0 := W0_at (i := 613) (by decide +kernel) (by decide +kernel)
theorem wc_X5_saw : Cond.code yX5_saw cX5_saw 3 (some .int) ∈ W0 := W0_at (i := 614) (by decide +kernel) (by decide +kernel)
theorem wl_L_26 : Cond.methodLink RL 26 yX5_sawAround ∈ W0 := W0_at (i := 629) (by decide +kernel) (by decide +kernel)
theorem wi_X5_sawAround : Cond.instanceMethod yX5_sawAround ∈ W0 := W0_at (i := 630) (by decide +kernel) (by decide +kernel)
theorem we_X5_sawAround : Cond.selects RX5 yX5_sawAround yX5_sawAround ∈ W0 := W0_at (i := 631) (by decide +kernel) (by decide +kernel)
theorem wc_X5_sawAround : Cond.code yX5_sawAround cX5_sawAround 4 (some .int) ∈ W0 := W0_at (i := 632) (by decide +kernel) (by decide +kernel)
theorem wl_L_29 : Cond.methodLink RL 29 yX5_takeOut ∈ W0 := W0_at (i := 646) (by decide +kernel) (by decide +kernel)
theorem wi_X5_takeOut : Cond.instanceMethod yX5_takeOut ∈ W0 := W0_at (i := 647) (by decide +kernel) (by decide +kernel)
theorem we_X5_takeOut : Cond.selects RX5 yX5_takeOut yX5_takeOut ∈ W0 := W0_at (i := 648) (by decide +kernel) (by decide +kernel)
theorem wc_X5_takeOut : Cond.code yX5_takeOut cX5_takeOut 3 (some .int) ∈ W0 := W0_at (i := 649) (by decide +kernel) (by decide +kernel)
theorem wl_L_33 : Cond.methodLink RL 33 yX5_setMelt ∈ W0 := W0_at (i := 654) (by decide +kernel) (by decide +kernel)
theorem wi_X5_setMelt : Cond.instanceMethod yX5_setMelt ∈ W0 := W0_at (i := 655) (by decide +kernel) (by decide +kernel)
theorem we_X5_setMelt : Cond.selects RX5 yX5_setMelt yX5_setMelt ∈ W0 := W0_at (i := 656) (by decide +kernel) (by decide +kernel)
theorem wc_X5_setMelt : Cond.code yX5_setMelt cX5_setMelt 3 (some .int) ∈ W0 := W0_at (i := 657) (by decide +kernel) (by decide +kernel)
theorem wl_L_36 : Cond.methodLink RL 36 yX5_pass ∈ W0 := W0_at (i := 662) (by decide +kernel) (by decide +kernel)
theorem wi_X5_pass : Cond.instanceMethod yX5_pass ∈ W0 := W0_at (i := 663) (by decide +kernel) (by decide +kernel)
theorem we_X5_pass : Cond.selects RX5 yX5_pass yX5_pass ∈ W0 := W0_at (i := 664) (by decide +kernel) (by decide +kernel)
theorem wc_X5_pass : Cond.code yX5_pass cX5_pass 4 (some .int) ∈ W0 := W0_at (i := 665) (by decide +kernel) (by decide +kernel)
theorem wl_L_39 : Cond.methodLink RL 39 yX5_cell ∈ W0 := W0_at (i := 670) (by decide +kernel) (by decide +kernel)
theorem wi_X5_cell : Cond.instanceMethod yX5_cell ∈ W0 := W0_at (i := 671) (by decide +kernel) (by decide +kernel)
theorem we_X5_cell : Cond.selects RX5 yX5_cell yX5_cell ∈ W0 := W0_at (i := 672) (by decide +kernel) (by decide +kernel)
theorem wc_X5_cell : Cond.code yX5_cell cX5_cell 3 (some .int) ∈ W0 := W0_at (i := 673) (by decide +kernel) (by decide +kernel)
theorem wl_L_42 : Cond.methodLink RL 42 yX5_block ∈ W0 := W0_at (i := 678) (by decide +kernel) (by decide +kernel)
theorem wi_X5_block : Cond.instanceMethod yX5_block ∈ W0 := W0_at (i := 679) (by decide +kernel) (by decide +kernel)
theorem we_X5_block : Cond.selects RX5 yX5_block yX5_block ∈ W0 := W0_at (i := 680) (by decide +kernel) (by decide +kernel)
theorem wc_X5_block : Cond.code yX5_block cX5_block 3 (some .int) ∈ W0 := W0_at (i := 681) (by decide +kernel) (by decide +kernel)
theorem wl_L_45 : Cond.methodLink RL 45 yX5_move ∈ W0 := W0_at (i := 685) (by decide +kernel) (by decide +kernel)
theorem wi_X5_move : Cond.instanceMethod yX5_move ∈ W0 := W0_at (i := 686) (by decide +kernel) (by decide +kernel)
theorem we_X5_move : Cond.selects RX5 yX5_move yX5_move ∈ W0 := W0_at (i := 687) (by decide +kernel) (by decide +kernel)
theorem wc_X5_move : Cond.code yX5_move cX5_move 4 (some .int) ∈ W0 := W0_at (i := 688) (by decide +kernel) (by decide +kernel)
theorem wl_L_48 : Cond.methodLink RL 48 yX5_value ∈ W0 := W0_at (i := 693) (by decide +kernel) (by decide +kernel)
theorem wi_X5_value : Cond.instanceMethod yX5_value ∈ W0 := W0_at (i := 694) (by decide +kernel) (by decide +kernel)
theorem we_X5_value : Cond.selects RX5 yX5_value yX5_value ∈ W0 := W0_at (i := 695) (by decide +kernel) (by decide +kernel)
theorem wc_X5_value : Cond.code yX5_value cX5_value 2 (some .int) ∈ W0 := W0_at (i := 696) (by decide +kernel) (by decide +kernel)
theorem wl_L_51 : Cond.methodLink RL 51 yX5_taken ∈ W0 := W0_at (i := 700) (by decide +kernel) (by decide +kernel)
theorem wi_X5_taken : Cond.instanceMethod yX5_taken ∈ W0 := W0_at (i := 701) (by decide +kernel) (by decide +kernel)
theorem we_X5_taken : Cond.selects RX5 yX5_taken yX5_taken ∈ W0 := W0_at (i := 702) (by decide +kernel) (by decide +kernel)
theorem wc_X5_taken : Cond.code yX5_taken cX5_taken 3 (some .int) ∈ W0 := W0_at (i := 703) (by decide +kernel) (by decide +kernel)
theorem wl_L_54 : Cond.methodLink RL 54 yX5_cutsAround ∈ W0 := W0_at (i := 708) (by decide +kernel) (by decide +kernel)
theorem wi_X5_cutsAround : Cond.instanceMethod yX5_cutsAround ∈ W0 := W0_at (i := 709) (by decide +kernel) (by decide +kernel)
theorem we_X5_cutsAround : Cond.selects RX5 yX5_cutsAround yX5_cutsAround ∈ W0 := W0_at (i := 710) (by decide +kernel) (by decide +kernel)
theorem wc_X5_cutsAround : Cond.code yX5_cutsAround cX5_cutsAround 4 (some .int) ∈ W0 := W0_at (i := 711) (by decide +kernel) (by decide +kernel)
theorem wl_L_57 : Cond.methodLink RL 57 yX5_daysWhole ∈ W0 := W0_at (i := 715) (by decide +kernel) (by decide +kernel)
theorem wi_X5_daysWhole : Cond.instanceMethod yX5_daysWhole ∈ W0 := W0_at (i := 716) (by decide +kernel) (by decide +kernel)
theorem we_X5_daysWhole : Cond.selects RX5 yX5_daysWhole yX5_daysWhole ∈ W0 := W0_at (i := 717) (by decide +kernel) (by decide +kernel)
theorem wc_X5_daysWhole : Cond.code yX5_daysWhole cX5_daysWhole 4 (some .int) ∈ W0 := W0_at (i := 718) (by decide +kernel) (by decide +kernel)
theorem wl_L_60 : Cond.methodLink RL 60 yX5_append ∈ W0 := W0_at (i := 726) (by decide +kernel) (by decide +kernel)
theorem wi_X5_append : Cond.instanceMethod yX5_append ∈ W0 := W0_at (i := 727) (by decide +kernel) (by decide +kernel)
theorem we_X5_append : Cond.selects RX5 yX5_append yX5_append ∈ W0 := W0_at (i := 728) (by decide +kernel) (by decide +kernel)
theorem wc_X5_append : Cond.code yX5_append cX5_append 2 (some .int) ∈ W0 := W0_at (i := 729) (by decide +kernel) (by decide +kernel)
theorem wl_L_63 : Cond.methodLink RL 63 yX5_undo ∈ W0 := W0_at (i := 740) (by decide +kernel) (by decide +kernel)
theorem wi_X5_undo : Cond.instanceMethod yX5_undo ∈ W0 := W0_at (i := 741) (by decide +kernel) (by decide +kernel)
theorem we_X5_undo : Cond.selects RX5 yX5_undo yX5_undo ∈ W0 := W0_at (i := 742) (by decide +kernel) (by decide +kernel)
theorem wc_X5_undo : Cond.code yX5_undo cX5_undo 2 (some .int) ∈ W0 := W0_at (i := 743) (by decide +kernel) (by decide +kernel)
theorem wl_L_71 : Cond.methodLink RL 71 yL_make ∈ W0 := W0_at (i := 483) (by decide +kernel) (by decide +kernel)
theorem wt_L_make : Cond.static yL_make ∈ W0 := W0_at (i := 484) (by decide +kernel) (by decide +kernel)
theorem wn_L : Cond.initialized RL ∈ W0 := W0_at (i := 0) (by decide +kernel) (by decide +kernel)
theorem wc_L_make : Cond.codeWith yL_make cL_make 6 (some .int) [(0, 12, 15, 13)] ∈ W0 := W0_at (i := 485) (by decide +kernel) (by decide +kernel)
theorem wl_L_76 : Cond.methodLink RL 76 yX6_make ∈ W0 := W0_at (i := 800) (by decide +kernel) (by decide +kernel)
theorem wi_X6_make : Cond.instanceMethod yX6_make ∈ W0 := W0_at (i := 801) (by decide +kernel) (by decide +kernel)
theorem we_X6_make : Cond.selects RX6 yX6_make yX6_make ∈ W0 := W0_at (i := 802) (by decide +kernel) (by decide +kernel)
theorem wc_X6_make : Cond.code yX6_make cX6_make 5 (some .int) ∈ W0 := W0_at (i := 803) (by decide +kernel) (by decide +kernel)
theorem wl_L_77 : Cond.methodLink RL 77 yX6_thrown ∈ W0 := W0_at (i := 796) (by decide +kernel) (by decide +kernel)
theorem wi_X6_thrown : Cond.instanceMethod yX6_thrown ∈ W0 := W0_at (i := 797) (by decide +kernel) (by decide +kernel)
theorem we_X6_thrown : Cond.selects RX6 yX6_thrown yX6_thrown ∈ W0 := W0_at (i := 798) (by decide +kernel) (by decide +kernel)
theorem wc_X6_thrown : Cond.code yX6_thrown cX6_thrown 1 (some .int) ∈ W0 := W0_at (i := 799) (by decide +kernel) (by decide +kernel)
theorem wl_L_80 : Cond.methodLink RL 80 yL_lay ∈ W0 := W0_at (i := 562) (by decide +kernel) (by decide +kernel)
theorem wt_L_lay : Cond.static yL_lay ∈ W0 := W0_at (i := 563) (by decide +kernel) (by decide +kernel)
theorem wc_L_lay : Cond.codeWith yL_lay cL_lay 5 (some .int) [(0, 10, 13, 19), (0, 10, 17, 13), (0, 10, 21, 21)] ∈ W0 := W0_at (i := 564) (by decide +kernel) (by decide +kernel)
theorem wl_L_83 : Cond.methodLink RL 83 yX6_lay ∈ W0 := W0_at (i := 822) (by decide +kernel) (by decide +kernel)
theorem wi_X6_lay : Cond.instanceMethod yX6_lay ∈ W0 := W0_at (i := 823) (by decide +kernel) (by decide +kernel)
theorem we_X6_lay : Cond.selects RX6 yX6_lay yX6_lay ∈ W0 := W0_at (i := 824) (by decide +kernel) (by decide +kernel)
theorem wc_X6_lay : Cond.code yX6_lay cX6_lay 3 (some .int) ∈ W0 := W0_at (i := 825) (by decide +kernel) (by decide +kernel)
theorem wl_L_84 : Cond.methodLink RL 84 yL_saw ∈ W0 := W0_at (i := 608) (by decide +kernel) (by decide +kernel)
theorem wt_L_saw : Cond.static yL_saw ∈ W0 := W0_at (i := 609) (by decide +kernel) (by decide +kernel)
theorem wc_L_saw : Cond.codeWith yL_saw cL_saw 5 (some .int) [(0, 10, 13, 19), (0, 10, 17, 13), (0, 10, 21, 21)] ∈ W0 := W0_at (i := 610) (by decide +kernel) (by decide +kernel)
theorem wl_L_86 : Cond.methodLink RL 86 yX6_saw ∈ W0 := W0_at (i := 834) (by decide +kernel) (by decide +kernel)
theorem wi_X6_saw : Cond.instanceMethod yX6_saw ∈ W0 := W0_at (i := 835) (by decide +kernel) (by decide +kernel)
theorem we_X6_saw : Cond.selects RX6 yX6_saw yX6_saw ∈ W0 := W0_at (i := 836) (by decide +kernel) (by decide +kernel)
theorem wc_X6_saw : Cond.code yX6_saw cX6_saw 3 (some .int) ∈ W0 := W0_at (i := 837) (by decide +kernel) (by decide +kernel)
theorem wl_L_87 : Cond.methodLink RL 87 yL_sawAround ∈ W0 := W0_at (i := 626) (by decide +kernel) (by decide +kernel)
theorem wt_L_sawAround : Cond.static yL_sawAround ∈ W0 := W0_at (i := 627) (by decide +kernel) (by decide +kernel)
theorem wc_L_sawAround : Cond.codeWith yL_sawAround cL_sawAround 6 (some .int) [(0, 12, 15, 19), (0, 12, 19, 13)] ∈ W0 := W0_at (i := 628) (by decide +kernel) (by decide +kernel)
theorem wl_L_89 : Cond.methodLink RL 89 yX6_sawAround ∈ W0 := W0_at (i := 867) (by decide +kernel) (by decide +kernel)
theorem wi_X6_sawAround : Cond.instanceMethod yX6_sawAround ∈ W0 := W0_at (i := 868) (by decide +kernel) (by decide +kernel)
theorem we_X6_sawAround : Cond.selects RX6 yX6_sawAround yX6_sawAround ∈ W0 := W0_at (i := 869) (by decide +kernel) (by decide +kernel)
theorem wc_X6_sawAround : Cond.code yX6_sawAround cX6_sawAround 4 (some .int) ∈ W0 := W0_at (i := 870) (by decide +kernel) (by decide +kernel)
theorem wl_L_90 : Cond.methodLink RL 90 yL_takeOut ∈ W0 := W0_at (i := 643) (by decide +kernel) (by decide +kernel)
theorem wt_L_takeOut : Cond.static yL_takeOut ∈ W0 := W0_at (i := 644) (by decide +kernel) (by decide +kernel)
theorem wc_L_takeOut : Cond.codeWith yL_takeOut cL_takeOut 4 (some .int) [(0, 9, 12, 19), (0, 9, 15, 21)] ∈ W0 := W0_at (i := 645) (by decide +kernel) (by decide +kernel)
theorem wl_L_93 : Cond.methodLink RL 93 yX6_takeOut ∈ W0 := W0_at (i := 891) (by decide +kernel) (by decide +kernel)
theorem wi_X6_takeOut : Cond.instanceMethod yX6_takeOut ∈ W0 := W0_at (i := 892) (by decide +kernel) (by decide +kernel)
theorem we_X6_takeOut : Cond.selects RX6 yX6_takeOut yX6_takeOut ∈ W0 := W0_at (i := 893) (by decide +kernel) (by decide +kernel)
theorem wc_X6_takeOut : Cond.code yX6_takeOut cX6_takeOut 4 (some .int) ∈ W0 := W0_at (i := 894) (by decide +kernel) (by decide +kernel)
theorem wl_L_94 : Cond.methodLink RL 94 yX5_takeAll ∈ W0 := W0_at (i := 214) (by decide +kernel) (by decide +kernel)
theorem wi_X5_takeAll : Cond.instanceMethod yX5_takeAll ∈ W0 := W0_at (i := 215) (by decide +kernel) (by decide +kernel)
theorem we_X5_takeAll : Cond.selects RX5 yX5_takeAll yX5_takeAll ∈ W0 := W0_at (i := 216) (by decide +kernel) (by decide +kernel)
theorem wc_X5_takeAll : Cond.code yX5_takeAll cX5_takeAll 1 (some .int) ∈ W0 := W0_at (i := 217) (by decide +kernel) (by decide +kernel)
theorem wl_L_97 : Cond.methodLink RL 97 yX6_takeAll ∈ W0 := W0_at (i := 943) (by decide +kernel) (by decide +kernel)
theorem wi_X6_takeAll : Cond.instanceMethod yX6_takeAll ∈ W0 := W0_at (i := 944) (by decide +kernel) (by decide +kernel)
theorem we_X6_takeAll : Cond.selects RX6 yX6_takeAll yX6_takeAll ∈ W0 := W0_at (i := 945) (by decide +kernel) (by decide +kernel)
theorem wc_X6_takeAll : Cond.code yX6_takeAll cX6_takeAll 1 (some .int) ∈ W0 := W0_at (i := 946) (by decide +kernel) (by decide +kernel)
theorem wl_L_98 : Cond.methodLink RL 98 yL_setMelt ∈ W0 := W0_at (i := 651) (by decide +kernel) (by decide +kernel)
theorem wt_L_setMelt : Cond.static yL_setMelt ∈ W0 := W0_at (i := 652) (by decide +kernel) (by decide +kernel)
theorem wc_L_setMelt : Cond.codeWith yL_setMelt cL_setMelt 4 (some .int) [(0, 9, 12, 13)] ∈ W0 := W0_at (i := 653) (by decide +kernel) (by decide +kernel)
theorem wl_L_100 : Cond.methodLink RL 100 yX6_setMelt ∈ W0 := W0_at (i := 955) (by decide +kernel) (by decide +kernel)
theorem wi_X6_setMelt : Cond.instanceMethod yX6_setMelt ∈ W0 := W0_at (i := 956) (by decide +kernel) (by decide +kernel)
theorem we_X6_setMelt : Cond.selects RX6 yX6_setMelt yX6_setMelt ∈ W0 := W0_at (i := 957) (by decide +kernel) (by decide +kernel)
theorem wc_X6_setMelt : Cond.code yX6_setMelt cX6_setMelt 3 (some .int) ∈ W0 := W0_at (i := 958) (by decide +kernel) (by decide +kernel)
theorem wl_L_101 : Cond.methodLink RL 101 yL_pass ∈ W0 := W0_at (i := 659) (by decide +kernel) (by decide +kernel)
theorem wt_L_pass : Cond.static yL_pass ∈ W0 := W0_at (i := 660) (by decide +kernel) (by decide +kernel)
theorem wc_L_pass : Cond.codeWith yL_pass cL_pass 4 (some .int) [(0, 9, 12, 13)] ∈ W0 := W0_at (i := 661) (by decide +kernel) (by decide +kernel)
theorem wl_L_103 : Cond.methodLink RL 103 yX6_pass ∈ W0 := W0_at (i := 960) (by decide +kernel) (by decide +kernel)
theorem wi_X6_pass : Cond.instanceMethod yX6_pass ∈ W0 := W0_at (i := 961) (by decide +kernel) (by decide +kernel)
theorem we_X6_pass : Cond.selects RX6 yX6_pass yX6_pass ∈ W0 := W0_at (i := 962) (by decide +kernel) (by decide +kernel)
theorem wc_X6_pass : Cond.code yX6_pass cX6_pass 4 (some .int) ∈ W0 := W0_at (i := 963) (by decide +kernel) (by decide +kernel)
theorem wl_L_104 : Cond.methodLink RL 104 yL_cell ∈ W0 := W0_at (i := 667) (by decide +kernel) (by decide +kernel)
theorem wt_L_cell : Cond.static yL_cell ∈ W0 := W0_at (i := 668) (by decide +kernel) (by decide +kernel)
theorem wc_L_cell : Cond.codeWith yL_cell cL_cell 5 (some .int) [(0, 10, 13, 19), (0, 10, 17, 13)] ∈ W0 := W0_at (i := 669) (by decide +kernel) (by decide +kernel)
theorem wl_L_106 : Cond.methodLink RL 106 yX6_cell ∈ W0 := W0_at (i := 972) (by decide +kernel) (by decide +kernel)
theorem wi_X6_cell : Cond.instanceMethod yX6_cell ∈ W0 := W0_at (i := 973) (by decide +kernel) (by decide +kernel)
theorem we_X6_cell : Cond.selects RX6 yX6_cell yX6_cell ∈ W0 := W0_at (i := 974) (by decide +kernel) (by decide +kernel)
theorem wc_X6_cell : Cond.code yX6_cell cX6_cell 3 (some .int) ∈ W0 := W0_at (i := 975) (by decide +kernel) (by decide +kernel)
theorem wl_L_107 : Cond.methodLink RL 107 yL_block ∈ W0 := W0_at (i := 675) (by decide +kernel) (by decide +kernel)
theorem wt_L_block : Cond.static yL_block ∈ W0 := W0_at (i := 676) (by decide +kernel) (by decide +kernel)
theorem wc_L_block : Cond.codeWith yL_block cL_block 5 (some .int) [(0, 10, 13, 19), (0, 10, 17, 13)] ∈ W0 := W0_at (i := 677) (by decide +kernel) (by decide +kernel)
theorem wl_L_109 : Cond.methodLink RL 109 yX6_block ∈ W0 := W0_at (i := 981) (by decide +kernel) (by decide +kernel)
theorem wi_X6_block : Cond.instanceMethod yX6_block ∈ W0 := W0_at (i := 982) (by decide +kernel) (by decide +kernel)
theorem we_X6_block : Cond.selects RX6 yX6_block yX6_block ∈ W0 := W0_at (i := 983) (by decide +kernel) (by decide +kernel)
theorem wc_X6_block : Cond.code yX6_block cX6_block 3 (some .int) ∈ W0 := W0_at (i := 984) (by decide +kernel) (by decide +kernel)
theorem wl_L_110 : Cond.methodLink RL 110 yL_move ∈ W0 := W0_at (i := 682) (by decide +kernel) (by decide +kernel)
theorem wt_L_move : Cond.static yL_move ∈ W0 := W0_at (i := 683) (by decide +kernel) (by decide +kernel)
theorem wc_L_move : Cond.codeWith yL_move cL_move 5 (some .int) [(0, 10, 13, 19)] ∈ W0 := W0_at (i := 684) (by decide +kernel) (by decide +kernel)
theorem wl_L_112 : Cond.methodLink RL 112 yX6_move ∈ W0 := W0_at (i := 990) (by decide +kernel) (by decide +kernel)
theorem wi_X6_move : Cond.instanceMethod yX6_move ∈ W0 := W0_at (i := 991) (by decide +kernel) (by decide +kernel)
theorem we_X6_move : Cond.selects RX6 yX6_move yX6_move ∈ W0 := W0_at (i := 992) (by decide +kernel) (by decide +kernel)
theorem wc_X6_move : Cond.code yX6_move cX6_move 7 (some .int) ∈ W0 := W0_at (i := 993) (by decide +kernel) (by decide +kernel)
theorem wl_L_113 : Cond.methodLink RL 113 yL_value ∈ W0 := W0_at (i := 690) (by decide +kernel) (by decide +kernel)
theorem wt_L_value : Cond.static yL_value ∈ W0 := W0_at (i := 691) (by decide +kernel) (by decide +kernel)
theorem wc_L_value : Cond.codeWith yL_value cL_value 4 (some .int) [(0, 9, 12, 13)] ∈ W0 := W0_at (i := 692) (by decide +kernel) (by decide +kernel)
theorem wl_L_115 : Cond.methodLink RL 115 yX6_value ∈ W0 := W0_at (i := 994) (by decide +kernel) (by decide +kernel)
theorem wi_X6_value : Cond.instanceMethod yX6_value ∈ W0 := W0_at (i := 995) (by decide +kernel) (by decide +kernel)
theorem we_X6_value : Cond.selects RX6 yX6_value yX6_value ∈ W0 := W0_at (i := 996) (by decide +kernel) (by decide +kernel)
theorem wc_X6_value : Cond.code yX6_value cX6_value 2 (some .int) ∈ W0 := W0_at (i := 997) (by decide +kernel) (by decide +kernel)
theorem wl_L_116 : Cond.methodLink RL 116 yL_taken ∈ W0 := W0_at (i := 697) (by decide +kernel) (by decide +kernel)
theorem wt_L_taken : Cond.static yL_taken ∈ W0 := W0_at (i := 698) (by decide +kernel) (by decide +kernel)
theorem wc_L_taken : Cond.codeWith yL_taken cL_taken 5 (some .int) [(0, 10, 13, 19), (0, 10, 17, 13)] ∈ W0 := W0_at (i := 699) (by decide +kernel) (by decide +kernel)
theorem wl_L_118 : Cond.methodLink RL 118 yX6_taken ∈ W0 := W0_at (i := 1011) (by decide +kernel) (by decide +kernel)
theorem wi_X6_taken : Cond.instanceMethod yX6_taken ∈ W0 := W0_at (i := 1012) (by decide +kernel) (by decide +kernel)
theorem we_X6_taken : Cond.selects RX6 yX6_taken yX6_taken ∈ W0 := W0_at (i := 1013) (by decide +kernel) (by decide +kernel)
theorem wc_X6_taken : Cond.code yX6_taken cX6_taken 3 (some .int) ∈ W0 := W0_at (i := 1014) (by decide +kernel) (by decide +kernel)
theorem wl_L_119 : Cond.methodLink RL 119 yL_cutsAround ∈ W0 := W0_at (i := 705) (by decide +kernel) (by decide +kernel)
theorem wt_L_cutsAround : Cond.static yL_cutsAround ∈ W0 := W0_at (i := 706) (by decide +kernel) (by decide +kernel)
theorem wc_L_cutsAround : Cond.codeWith yL_cutsAround cL_cutsAround 6 (some .int) [(0, 12, 15, 19), (0, 12, 19, 13)] ∈ W0 := W0_at (i := 707) (by decide +kernel) (by decide +kernel)
theorem wl_L_121 : Cond.methodLink RL 121 yX6_cutsAround ∈ W0 := W0_at (i := 879) (by decide +kernel) (by decide +kernel)
theorem wi_X6_cutsAround : Cond.instanceMethod yX6_cutsAround ∈ W0 := W0_at (i := 880) (by decide +kernel) (by decide +kernel)
theorem we_X6_cutsAround : Cond.selects RX6 yX6_cutsAround yX6_cutsAround ∈ W0 := W0_at (i := 881) (by decide +kernel) (by decide +kernel)
theorem wc_X6_cutsAround : Cond.code yX6_cutsAround cX6_cutsAround 5 (some .int) ∈ W0 := W0_at (i := 882) (by decide +kernel) (by decide +kernel)
theorem wl_L_122 : Cond.methodLink RL 122 yX5_takable ∈ W0 := W0_at (i := 340) (by decide +kernel) (by decide +kernel)
theorem wi_X5_takable : Cond.instanceMethod yX5_takable ∈ W0 := W0_at (i := 341) (by decide +kernel) (by decide +kernel)
theorem we_X5_takable : Cond.selects RX5 yX5_takable yX5_takable ∈ W0 := W0_at (i := 342) (by decide +kernel) (by decide +kernel)
theorem wc_X5_takable : Cond.code yX5_takable cX5_takable 1 (some .int) ∈ W0 := W0_at (i := 343) (by decide +kernel) (by decide +kernel)
theorem wl_L_125 : Cond.methodLink RL 125 yX6_takable ∈ W0 := W0_at (i := 1019) (by decide +kernel) (by decide +kernel)
theorem wi_X6_takable : Cond.instanceMethod yX6_takable ∈ W0 := W0_at (i := 1020) (by decide +kernel) (by decide +kernel)
theorem we_X6_takable : Cond.selects RX6 yX6_takable yX6_takable ∈ W0 := W0_at (i := 1021) (by decide +kernel) (by decide +kernel)
theorem wc_X6_takable : Cond.code yX6_takable cX6_takable 1 (some .int) ∈ W0 := W0_at (i := 1022) (by decide +kernel) (by decide +kernel)
theorem wl_L_126 : Cond.methodLink RL 126 yX5_leftStranded ∈ W0 := W0_at (i := 344) (by decide +kernel) (by decide +kernel)
theorem wi_X5_leftStranded : Cond.instanceMethod yX5_leftStranded ∈ W0 := W0_at (i := 345) (by decide +kernel) (by decide +kernel)
theorem we_X5_leftStranded : Cond.selects RX5 yX5_leftStranded yX5_leftStranded ∈ W0 := W0_at (i := 346) (by decide +kernel) (by decide +kernel)
theorem wc_X5_leftStranded : Cond.code yX5_leftStranded cX5_leftStranded 1 (some .int) ∈ W0 := W0_at (i := 347) (by decide +kernel) (by decide +kernel)
theorem wl_L_129 : Cond.methodLink RL 129 yX6_leftStranded ∈ W0 := W0_at (i := 1027) (by decide +kernel) (by decide +kernel)
theorem wi_X6_leftStranded : Cond.instanceMethod yX6_leftStranded ∈ W0 := W0_at (i := 1028) (by decide +kernel) (by decide +kernel)
theorem we_X6_leftStranded : Cond.selects RX6 yX6_leftStranded yX6_leftStranded ∈ W0 := W0_at (i := 1029) (by decide +kernel) (by decide +kernel)
theorem wc_X6_leftStranded : Cond.code yX6_leftStranded cX6_leftStranded 3 (some .int) ∈ W0 := W0_at (i := 1030) (by decide +kernel) (by decide +kernel)
theorem wl_L_130 : Cond.methodLink RL 130 yL_daysWhole ∈ W0 := W0_at (i := 712) (by decide +kernel) (by decide +kernel)
theorem wt_L_daysWhole : Cond.static yL_daysWhole ∈ W0 := W0_at (i := 713) (by decide +kernel) (by decide +kernel)
theorem wc_L_daysWhole : Cond.codeWith yL_daysWhole cL_daysWhole 4 (some .int) [(0, 9, 12, 19)] ∈ W0 := W0_at (i := 714) (by decide +kernel) (by decide +kernel)
theorem wl_L_132 : Cond.methodLink RL 132 yX6_daysWhole ∈ W0 := W0_at (i := 1031) (by decide +kernel) (by decide +kernel)
theorem wi_X6_daysWhole : Cond.instanceMethod yX6_daysWhole ∈ W0 := W0_at (i := 1032) (by decide +kernel) (by decide +kernel)
theorem we_X6_daysWhole : Cond.selects RX6 yX6_daysWhole yX6_daysWhole ∈ W0 := W0_at (i := 1033) (by decide +kernel) (by decide +kernel)
theorem wc_X6_daysWhole : Cond.code yX6_daysWhole cX6_daysWhole 6 (some .int) ∈ W0 := W0_at (i := 1034) (by decide +kernel) (by decide +kernel)
theorem wl_L_133 : Cond.methodLink RL 133 yX5_daysToWater ∈ W0 := W0_at (i := 353) (by decide +kernel) (by decide +kernel)
theorem wi_X5_daysToWater : Cond.instanceMethod yX5_daysToWater ∈ W0 := W0_at (i := 354) (by decide +kernel) (by decide +kernel)
theorem we_X5_daysToWater : Cond.selects RX5 yX5_daysToWater yX5_daysToWater ∈ W0 := W0_at (i := 355) (by decide +kernel) (by decide +kernel)
theorem wc_X5_daysToWater : Cond.code yX5_daysToWater cX5_daysToWater 2 (some .int) ∈ W0 := W0_at (i := 356) (by decide +kernel) (by decide +kernel)
theorem wl_L_136 : Cond.methodLink RL 136 yX6_daysToWater ∈ W0 := W0_at (i := 1039) (by decide +kernel) (by decide +kernel)
theorem wi_X6_daysToWater : Cond.instanceMethod yX6_daysToWater ∈ W0 := W0_at (i := 1040) (by decide +kernel) (by decide +kernel)
theorem we_X6_daysToWater : Cond.selects RX6 yX6_daysToWater yX6_daysToWater ∈ W0 := W0_at (i := 1041) (by decide +kernel) (by decide +kernel)
theorem wc_X6_daysToWater : Cond.code yX6_daysToWater cX6_daysToWater 4 (some .int) ∈ W0 := W0_at (i := 1042) (by decide +kernel) (by decide +kernel)
theorem wl_L_137 : Cond.methodLink RL 137 yX5_barredBy ∈ W0 := W0_at (i := 375) (by decide +kernel) (by decide +kernel)
theorem wi_X5_barredBy : Cond.instanceMethod yX5_barredBy ∈ W0 := W0_at (i := 376) (by decide +kernel) (by decide +kernel)
theorem we_X5_barredBy : Cond.selects RX5 yX5_barredBy yX5_barredBy ∈ W0 := W0_at (i := 377) (by decide +kernel) (by decide +kernel)
theorem wc_X5_barredBy : Cond.code yX5_barredBy cX5_barredBy 3 (some .int) ∈ W0 := W0_at (i := 378) (by decide +kernel) (by decide +kernel)
theorem wl_L_140 : Cond.methodLink RL 140 yX6_barredBy ∈ W0 := W0_at (i := 1043) (by decide +kernel) (by decide +kernel)
theorem wi_X6_barredBy : Cond.instanceMethod yX6_barredBy ∈ W0 := W0_at (i := 1044) (by decide +kernel) (by decide +kernel)
theorem we_X6_barredBy : Cond.selects RX6 yX6_barredBy yX6_barredBy ∈ W0 := W0_at (i := 1045) (by decide +kernel) (by decide +kernel)
theorem wc_X6_barredBy : Cond.code yX6_barredBy cX6_barredBy 5 (some .int) ∈ W0 := W0_at (i := 1046) (by decide +kernel) (by decide +kernel)
theorem wl_L_141 : Cond.methodLink RL 141 yX5_harvest ∈ W0 := W0_at (i := 403) (by decide +kernel) (by decide +kernel)
theorem wi_X5_harvest : Cond.instanceMethod yX5_harvest ∈ W0 := W0_at (i := 404) (by decide +kernel) (by decide +kernel)
theorem we_X5_harvest : Cond.selects RX5 yX5_harvest yX5_harvest ∈ W0 := W0_at (i := 405) (by decide +kernel) (by decide +kernel)
theorem wc_X5_harvest : Cond.code yX5_harvest cX5_harvest 1 (some .double) ∈ W0 := W0_at (i := 406) (by decide +kernel) (by decide +kernel)
theorem wl_L_145 : Cond.methodLink RL 145 yX6_harvest ∈ W0 := W0_at (i := 1047) (by decide +kernel) (by decide +kernel)
theorem wi_X6_harvest : Cond.instanceMethod yX6_harvest ∈ W0 := W0_at (i := 1048) (by decide +kernel) (by decide +kernel)
theorem we_X6_harvest : Cond.selects RX6 yX6_harvest yX6_harvest ∈ W0 := W0_at (i := 1049) (by decide +kernel) (by decide +kernel)
theorem wc_X6_harvest : Cond.code yX6_harvest cX6_harvest 5 (some .double) ∈ W0 := W0_at (i := 1050) (by decide +kernel) (by decide +kernel)
theorem wl_L_146 : Cond.methodLink RL 146 yL_append ∈ W0 := W0_at (i := 723) (by decide +kernel) (by decide +kernel)
theorem wt_L_append : Cond.static yL_append ∈ W0 := W0_at (i := 724) (by decide +kernel) (by decide +kernel)
theorem wc_L_append : Cond.codeWith yL_append cL_append 4 (some .int) [(0, 9, 12, 13), (0, 9, 15, 21)] ∈ W0 := W0_at (i := 725) (by decide +kernel) (by decide +kernel)
theorem wl_L_148 : Cond.methodLink RL 148 yX6_append ∈ W0 := W0_at (i := 1051) (by decide +kernel) (by decide +kernel)
theorem wi_X6_append : Cond.instanceMethod yX6_append ∈ W0 := W0_at (i := 1052) (by decide +kernel) (by decide +kernel)
theorem we_X6_append : Cond.selects RX6 yX6_append yX6_append ∈ W0 := W0_at (i := 1053) (by decide +kernel) (by decide +kernel)
theorem wc_X6_append : Cond.code yX6_append cX6_append 2 (some .int) ∈ W0 := W0_at (i := 1054) (by decide +kernel) (by decide +kernel)
theorem wl_L_149 : Cond.methodLink RL 149 yX5_clearText ∈ W0 := W0_at (i := 407) (by decide +kernel) (by decide +kernel)
theorem wi_X5_clearText : Cond.instanceMethod yX5_clearText ∈ W0 := W0_at (i := 408) (by decide +kernel) (by decide +kernel)
theorem we_X5_clearText : Cond.selects RX5 yX5_clearText yX5_clearText ∈ W0 := W0_at (i := 409) (by decide +kernel) (by decide +kernel)
theorem wc_X5_clearText : Cond.code yX5_clearText cX5_clearText 2 (some .int) ∈ W0 := W0_at (i := 410) (by decide +kernel) (by decide +kernel)
theorem wl_L_152 : Cond.methodLink RL 152 yX6_clearText ∈ W0 := W0_at (i := 1056) (by decide +kernel) (by decide +kernel)
theorem wi_X6_clearText : Cond.instanceMethod yX6_clearText ∈ W0 := W0_at (i := 1057) (by decide +kernel) (by decide +kernel)
theorem we_X6_clearText : Cond.selects RX6 yX6_clearText yX6_clearText ∈ W0 := W0_at (i := 1058) (by decide +kernel) (by decide +kernel)
theorem wc_X6_clearText : Cond.code yX6_clearText cX6_clearText 2 (some .int) ∈ W0 := W0_at (i := 1059) (by decide +kernel) (by decide +kernel)
theorem wl_L_153 : Cond.methodLink RL 153 yX5_parse ∈ W0 := W0_at (i := 411) (by decide +kernel) (by decide +kernel)
theorem wi_X5_parse : Cond.instanceMethod yX5_parse ∈ W0 := W0_at (i := 412) (by decide +kernel) (by decide +kernel)
theorem we_X5_parse : Cond.selects RX5 yX5_parse yX5_parse ∈ W0 := W0_at (i := 413) (by decide +kernel) (by decide +kernel)
theorem wc_X5_parse : Cond.code yX5_parse cX5_parse 3 (some .int) ∈ W0 := W0_at (i := 414) (by decide +kernel) (by decide +kernel)
theorem wl_L_156 : Cond.methodLink RL 156 yX6_parse ∈ W0 := W0_at (i := 1060) (by decide +kernel) (by decide +kernel)
theorem wi_X6_parse : Cond.instanceMethod yX6_parse ∈ W0 := W0_at (i := 1061) (by decide +kernel) (by decide +kernel)
theorem we_X6_parse : Cond.selects RX6 yX6_parse yX6_parse ∈ W0 := W0_at (i := 1062) (by decide +kernel) (by decide +kernel)
theorem wc_X6_parse : Cond.code yX6_parse cX6_parse 3 (some .int) ∈ W0 := W0_at (i := 1063) (by decide +kernel) (by decide +kernel)
theorem wl_L_157 : Cond.methodLink RL 157 yL_undo ∈ W0 := W0_at (i := 737) (by decide +kernel) (by decide +kernel)
theorem wt_L_undo : Cond.static yL_undo ∈ W0 := W0_at (i := 738) (by decide +kernel) (by decide +kernel)
theorem wc_L_undo : Cond.codeWith yL_undo cL_undo 3 (some .int) [(0, 8, 11, 21)] ∈ W0 := W0_at (i := 739) (by decide +kernel) (by decide +kernel)
theorem wl_L_160 : Cond.methodLink RL 160 yX6_undo ∈ W0 := W0_at (i := 1078) (by decide +kernel) (by decide +kernel)
theorem wi_X6_undo : Cond.instanceMethod yX6_undo ∈ W0 := W0_at (i := 1079) (by decide +kernel) (by decide +kernel)
theorem we_X6_undo : Cond.selects RX6 yX6_undo yX6_undo ∈ W0 := W0_at (i := 1080) (by decide +kernel) (by decide +kernel)
theorem wc_X6_undo : Cond.code yX6_undo cX6_undo 2 (some .int) ∈ W0 := W0_at (i := 1081) (by decide +kernel) (by decide +kernel)
theorem wl_L_161 : Cond.methodLink RL 161 yX5_digest ∈ W0 := W0_at (i := 438) (by decide +kernel) (by decide +kernel)
theorem wi_X5_digest : Cond.instanceMethod yX5_digest ∈ W0 := W0_at (i := 439) (by decide +kernel) (by decide +kernel)
theorem we_X5_digest : Cond.selects RX5 yX5_digest yX5_digest ∈ W0 := W0_at (i := 440) (by decide +kernel) (by decide +kernel)
theorem wc_X5_digest : Cond.code yX5_digest cX5_digest 5 (some .long) ∈ W0 := W0_at (i := 441) (by decide +kernel) (by decide +kernel)
theorem wl_L_165 : Cond.methodLink RL 165 yX6_digest ∈ W0 := W0_at (i := 1082) (by decide +kernel) (by decide +kernel)
theorem wi_X6_digest : Cond.instanceMethod yX6_digest ∈ W0 := W0_at (i := 1083) (by decide +kernel) (by decide +kernel)
theorem we_X6_digest : Cond.selects RX6 yX6_digest yX6_digest ∈ W0 := W0_at (i := 1084) (by decide +kernel) (by decide +kernel)
theorem wc_X6_digest : Cond.code yX6_digest cX6_digest 5 (some .long) ∈ W0 := W0_at (i := 1085) (by decide +kernel) (by decide +kernel)
theorem wv_X2_13 : cwd RX2 RX2 13 yX2_at cX2_at 2 (some .int) := ⟨⟨wl_X2_13, wi_X2_at, we_X2_at, wn_X2⟩, wc_X2_at⟩
theorem wv_X1_54 : cwd RX1 RX2 54 yX2_copyFrom cX2_copyFrom 3 (none) := ⟨⟨wl_X1_54, wi_X2_copyFrom, we_X2_copyFrom, wn_X2⟩, wc_X2_copyFrom⟩
theorem wv_X5_253 : cwd RX5 RX5 253 yX5_savedAt cX5_savedAt 2 (some (.object "IceField$Ice")) := ⟨⟨wl_X5_253, wi_X5_savedAt, we_X5_savedAt, wn_X5⟩, wc_X5_savedAt⟩
theorem wv_X5_196 : cwd RX5 RX1 196 yX1_copyFrom cX1_copyFrom 2 (none) := ⟨⟨wl_X5_196, wi_X1_copyFrom, we_X1_copyFrom, wn_X1⟩, wc_X1_copyFrom⟩
theorem wv_X1_58 : cwd RX1 RX2 58 yX2_fill cX2_fill 3 (none) := ⟨⟨wl_X1_58, wi_X2_fill, we_X2_fill, wn_X2⟩, wc_X2_fill⟩
theorem wv_X1_61 : cwd RX1 RX2 61 yX2_at cX2_at 2 (some .int) := ⟨⟨wl_X1_61, wi_X2_at, we_X2_at, wn_X2⟩, wc_X2_at⟩
theorem wv_X1_65 : cwd RX1 RX2 65 yX2_put cX2_put 3 (none) := ⟨⟨wl_X1_65, wi_X2_put, we_X2_put, wn_X2⟩, wc_X2_put⟩
theorem wv_X1_69 : cwd RX1 RX1 69 yX1_cellCount cX1_cellCount 1 (some .int) := ⟨⟨wl_X1_69, wi_X1_cellCount, we_X1_cellCount, wn_X1⟩, wc_X1_cellCount⟩
theorem wv_X1_73 : cwd RX1 RX1 73 yX1_add cX1_add 3 (none) := ⟨⟨wl_X1_73, wi_X1_add, we_X1_add, wn_X1⟩, wc_X1_add⟩
theorem wv_X5_70 : cws RX5 70 yX5_isOutside cX5_isOutside 3 (some .boolean) := ⟨⟨wl_X5_70, wt_X5_isOutside, wn_X5⟩, wc_X5_isOutside⟩
theorem wv_X5_81 : cwd RX5 RX5 81 yX5_saveState cX5_saveState 2 (none) := ⟨⟨wl_X5_81, wi_X5_saveState, we_X5_saveState, wn_X5⟩, wc_X5_saveState⟩
theorem wv_X5_63 : cwd RX5 RX1 63 yX1_beginAnew cX1_beginAnew 3 (none) := ⟨⟨wl_X5_63, wi_X1_beginAnew, we_X1_beginAnew, wn_X1⟩, wc_X1_beginAnew⟩
theorem wv_X5_67 : cwd RX5 RX1 67 yX1_addEverywhere cX1_addEverywhere 3 (none) := ⟨⟨wl_X5_67, wi_X1_addEverywhere, we_X1_addEverywhere, wn_X1⟩, wc_X1_addEverywhere⟩
theorem wv_X5_212 : cwd RX5 RX1 212 yX1_cellCount cX1_cellCount 1 (some .int) := ⟨⟨wl_X5_212, wi_X1_cellCount, we_X1_cellCount, wn_X1⟩, wc_X1_cellCount⟩
theorem wv_X5_87 : cwd RX5 RX5 87 yX5_checkCell cX5_checkCell 2 (none) := ⟨⟨wl_X5_87, wi_X5_checkCell, we_X5_checkCell, wn_X5⟩, wc_X5_checkCell⟩
theorem wv_X5_95 : cwd RX5 RX2 95 yX2_at cX2_at 2 (some .int) := ⟨⟨wl_X5_95, wi_X2_at, we_X2_at, wn_X2⟩, wc_X2_at⟩
theorem wv_X5_104 : cwd RX5 RX1 104 yX1_add cX1_add 3 (none) := ⟨⟨wl_X5_104, wi_X1_add, we_X1_add, wn_X1⟩, wc_X1_add⟩
theorem wv_X1_80 : cwd RX1 RX1 80 yX1_columnOf cX1_columnOf 2 (some .int) := ⟨⟨wl_X1_80, wi_X1_columnOf, we_X1_columnOf, wn_X1⟩, wc_X1_columnOf⟩
theorem wv_X1_83 : cwd RX1 RX1 83 yX1_beside cX1_beside 3 (some .int) := ⟨⟨wl_X1_83, wi_X1_beside, we_X1_beside, wn_X1⟩, wc_X1_beside⟩
theorem wv_X1_87 : cwd RX1 RX1 87 yX1_cutPlace cX1_cutPlace 3 (some .int) := ⟨⟨wl_X1_87, wi_X1_cutPlace, we_X1_cutPlace, wn_X1⟩, wc_X1_cutPlace⟩
theorem wv_X1_90 : cwd RX1 RX1 90 yX1_canCut cX1_canCut 3 (some .boolean) := ⟨⟨wl_X1_90, wi_X1_canCut, we_X1_canCut, wn_X1⟩, wc_X1_canCut⟩
theorem wv_X1_94 : cwd RX1 RX1 94 yX1_cutAt cX1_cutAt 3 (some .int) := ⟨⟨wl_X1_94, wi_X1_cutAt, we_X1_cutAt, wn_X1⟩, wc_X1_cutAt⟩
theorem wv_X5_109 : cwd RX5 RX1 109 yX1_canCut cX1_canCut 3 (some .boolean) := ⟨⟨wl_X5_109, wi_X1_canCut, we_X1_canCut, wn_X1⟩, wc_X1_canCut⟩
theorem wv_X5_115 : cwd RX5 RX1 115 yX1_cutSide cX1_cutSide 3 (some .int) := ⟨⟨wl_X5_115, wi_X1_cutSide, we_X1_cutSide, wn_X1⟩, wc_X1_cutSide⟩
theorem wv_X5_245 : cwd RX5 RX1 245 yX1_columnOf cX1_columnOf 2 (some .int) := ⟨⟨wl_X5_245, wi_X1_columnOf, we_X1_columnOf, wn_X1⟩, wc_X1_columnOf⟩
theorem wv_X5_242 : cwd RX5 RX1 242 yX1_rowOf cX1_rowOf 2 (some .int) := ⟨⟨wl_X5_242, wi_X1_rowOf, we_X1_rowOf, wn_X1⟩, wc_X1_rowOf⟩
theorem wv_X1_97 : cwd RX1 RX1 97 yX1_cutSide cX1_cutSide 3 (some .int) := ⟨⟨wl_X1_97, wi_X1_cutSide, we_X1_cutSide, wn_X1⟩, wc_X1_cutSide⟩
theorem wv_X5_119 : cwd RX5 RX5 119 yX5_checkRectangle cX5_checkRectangle 4 (none) := ⟨⟨wl_X5_119, wi_X5_checkRectangle, we_X5_checkRectangle, wn_X5⟩, wc_X5_checkRectangle⟩
theorem wv_X5_123 : cwd RX5 RX1 123 yX1_cutRectangle cX1_cutRectangle 6 (some .int) := ⟨⟨wl_X5_123, wi_X1_cutRectangle, we_X1_cutRectangle, wn_X1⟩, wc_X1_cutRectangle⟩
theorem wv_X0_47 : cwd RX0 RX2 47 yX2_put cX2_put 3 (none) := ⟨⟨wl_X0_47, wi_X2_put, we_X2_put, wn_X2⟩, wc_X2_put⟩
theorem wv_X0_39 : cwd RX0 RX2 39 yX2_at cX2_at 2 (some .int) := ⟨⟨wl_X0_39, wi_X2_at, we_X2_at, wn_X2⟩, wc_X2_at⟩
theorem wv_X0_51 : cwd RX0 RX1 51 yX1_isTiedToShore cX1_isTiedToShore 2 (some .boolean) := ⟨⟨wl_X0_51, wi_X1_isTiedToShore, we_X1_isTiedToShore, wn_X1⟩, wc_X1_isTiedToShore⟩
theorem wv_X0_54 : cwd RX0 RX1 54 yX1_beside cX1_beside 3 (some .int) := ⟨⟨wl_X0_54, wi_X1_beside, we_X1_beside, wn_X1⟩, wc_X1_beside⟩
theorem wv_X0_35 : cwd RX0 RX1 35 yX1_isIce cX1_isIce 2 (some .boolean) := ⟨⟨wl_X0_35, wi_X1_isIce, we_X1_isIce, wn_X1⟩, wc_X1_isIce⟩
theorem wv_X0_58 : cwd RX0 RX1 58 yX1_cutAt cX1_cutAt 3 (some .int) := ⟨⟨wl_X0_58, wi_X1_cutAt, we_X1_cutAt, wn_X1⟩, wc_X1_cutAt⟩
theorem wv_X0_26 : cwd RX0 RX2 26 yX2_fill cX2_fill 3 (none) := ⟨⟨wl_X0_26, wi_X2_fill, we_X2_fill, wn_X2⟩, wc_X2_fill⟩
theorem wv_X0_29 : cwd RX0 RX1 29 yX1_cellCount cX1_cellCount 1 (some .int) := ⟨⟨wl_X0_29, wi_X1_cellCount, we_X1_cellCount, wn_X1⟩, wc_X1_cellCount⟩
theorem wv_X0_43 : cwd RX0 RX0 43 yX0_spread cX0_spread 8 (none) := ⟨⟨wl_X0_43, wi_X0_spread, we_X0_spread, wn_X0⟩, wc_X0_spread⟩
theorem wv_X0_61 : cwd RX0 RX0 61 yX0_isBlock cX0_isBlock 2 (some .boolean) := ⟨⟨wl_X0_61, wi_X0_isBlock, we_X0_isBlock, wn_X0⟩, wc_X0_isBlock⟩
theorem wv_X4_69 : cwd RX4 RX0 69 yX0_numberAt cX0_numberAt 2 (some .int) := ⟨⟨wl_X4_69, wi_X0_numberAt, we_X0_numberAt, wn_X0⟩, wc_X0_numberAt⟩
theorem wv_X4_40 : cwd RX4 RX2 40 yX2_put cX2_put 3 (none) := ⟨⟨wl_X4_40, wi_X2_put, we_X2_put, wn_X2⟩, wc_X2_put⟩
theorem wv_X4_60 : cws RX4 60 yX4_downAt cX4_downAt 1 (some .int) := ⟨⟨wl_X4_60, wt_X4_downAt, wn_X4⟩, wc_X4_downAt⟩
theorem wv_X4_74 : cws RX4 74 yX4_rightAt cX4_rightAt 1 (some .int) := ⟨⟨wl_X4_74, wt_X4_rightAt, wn_X4⟩, wc_X4_rightAt⟩
theorem wv_X4_44 : cwd RX4 RX2 44 yX2_at cX2_at 2 (some .int) := ⟨⟨wl_X4_44, wi_X2_at, we_X2_at, wn_X2⟩, wc_X2_at⟩
theorem wv_X4_55 : cwd RX4 RX1 55 yX1_rowOf cX1_rowOf 2 (some .int) := ⟨⟨wl_X4_55, wi_X1_rowOf, we_X1_rowOf, wn_X1⟩, wc_X1_rowOf⟩
theorem wv_X4_77 : cwd RX4 RX1 77 yX1_columnOf cX1_columnOf 2 (some .int) := ⟨⟨wl_X4_77, wi_X1_columnOf, we_X1_columnOf, wn_X1⟩, wc_X1_columnOf⟩
theorem wv_X4_83 : cwd RX4 RX1 83 yX1_isIce cX1_isIce 2 (some .boolean) := ⟨⟨wl_X4_83, wi_X1_isIce, we_X1_isIce, wn_X1⟩, wc_X1_isIce⟩
theorem wv_X4_48 : cws RX4 48 yX4_stepOf cX4_stepOf 1 (some .int) := ⟨⟨wl_X4_48, wt_X4_stepOf, wn_X4⟩, wc_X4_stepOf⟩
theorem wv_X4_33 : cwd RX4 RX4 33 yX4_gatherCells cX4_gatherCells 4 (none) := ⟨⟨wl_X4_33, wi_X4_gatherCells, we_X4_gatherCells, wn_X4⟩, wc_X4_gatherCells⟩
theorem wv_X4_37 : cwd RX4 RX2 37 yX2_fill cX2_fill 3 (none) := ⟨⟨wl_X4_37, wi_X2_fill, we_X2_fill, wn_X2⟩, wc_X2_fill⟩
theorem wv_X4_51 : cwd RX4 RX4 51 yX4_canLie cX4_canLie 11 (some .boolean) := ⟨⟨wl_X4_51, wi_X4_canLie, we_X4_canLie, wn_X4⟩, wc_X4_canLie⟩
theorem wv_X4_66 : cwd RX4 RX4 66 yX4_traceBack cX4_traceBack 5 (some .int) := ⟨⟨wl_X4_66, wi_X4_traceBack, we_X4_traceBack, wn_X4⟩, wc_X4_traceBack⟩
theorem wv_X1_106 : cwd RX1 RX0 106 yX0_numberAt cX0_numberAt 2 (some .int) := ⟨⟨wl_X1_106, wi_X0_numberAt, we_X0_numberAt, wn_X0⟩, wc_X0_numberAt⟩
theorem wv_X1_111 : cwd RX1 RX1 111 yX1_volumeOf cX1_volumeOf 5 (some .int) := ⟨⟨wl_X1_111, wi_X1_volumeOf, we_X1_volumeOf, wn_X1⟩, wc_X1_volumeOf⟩
theorem wv_X5_127 : cwd RX5 RX0 127 yX0_find cX0_find 3 (none) := ⟨⟨wl_X5_127, wi_X0_find, we_X0_find, wn_X0⟩, wc_X0_find⟩
theorem wv_X5_131 : cwd RX5 RX0 131 yX0_numberAt cX0_numberAt 2 (some .int) := ⟨⟨wl_X5_131, wi_X0_numberAt, we_X0_numberAt, wn_X0⟩, wc_X0_numberAt⟩
theorem wv_X5_134 : cwd RX5 RX0 134 yX0_isLoose cX0_isLoose 2 (some .boolean) := ⟨⟨wl_X5_134, wi_X0_isLoose, we_X0_isLoose, wn_X0⟩, wc_X0_isLoose⟩
theorem wv_X5_138 : cwd RX5 RX4 138 yX4_search cX4_search 8 (some .int) := ⟨⟨wl_X5_138, wi_X4_search, we_X4_search, wn_X4⟩, wc_X4_search⟩
theorem wv_X5_144 : cwd RX5 RX1 144 yX1_removeBlock cX1_removeBlock 5 (some .int) := ⟨⟨wl_X5_144, wi_X1_removeBlock, we_X1_removeBlock, wn_X1⟩, wc_X1_removeBlock⟩
theorem wv_X5_303 : cwd RX5 RX5 303 yX5_lowestFloating cX5_lowestFloating 3 (some .int) := ⟨⟨wl_X5_303, wi_X5_lowestFloating, we_X5_lowestFloating, wn_X5⟩, wc_X5_lowestFloating⟩
theorem wv_X5_306 : cwd RX5 RX0 306 yX0_forget cX0_forget 3 (none) := ⟨⟨wl_X5_306, wi_X0_forget, we_X0_forget, wn_X0⟩, wc_X0_forget⟩
theorem wv_X5_148 : cwd RX5 RX5 148 yX5_removeFloating cX5_removeFloating 4 (some .int) := ⟨⟨wl_X5_148, wi_X5_removeFloating, we_X5_removeFloating, wn_X5⟩, wc_X5_removeFloating⟩
theorem wv_X1_76 : cwd RX1 RX1 76 yX1_isIce cX1_isIce 2 (some .boolean) := ⟨⟨wl_X1_76, wi_X1_isIce, we_X1_isIce, wn_X1⟩, wc_X1_isIce⟩
theorem wv_X1_100 : cwd RX1 RX1 100 yX1_waterBeside cX1_waterBeside 5 (some .int) := ⟨⟨wl_X1_100, wi_X1_waterBeside, we_X1_waterBeside, wn_X1⟩, wc_X1_waterBeside⟩
theorem wv_X1_103 : cwd RX1 RX1 103 yX1_lossOf cX1_lossOf 4 (some .int) := ⟨⟨wl_X1_103, wi_X1_lossOf, we_X1_lossOf, wn_X1⟩, wc_X1_lossOf⟩
theorem wv_X5_159 : cwd RX5 RX1 159 yX1_meltOneDay cX1_meltOneDay 2 (none) := ⟨⟨wl_X5_159, wi_X1_meltOneDay, we_X1_meltOneDay, wn_X1⟩, wc_X1_meltOneDay⟩
theorem wv_X5_285 : cwd RX5 RX1 285 yX1_waterBeside cX1_waterBeside 5 (some .int) := ⟨⟨wl_X5_285, wi_X1_waterBeside, we_X1_waterBeside, wn_X1⟩, wc_X1_waterBeside⟩
theorem wv_X5_288 : cwd RX5 RX1 288 yX1_cutAt cX1_cutAt 3 (some .int) := ⟨⟨wl_X5_288, wi_X1_cutAt, we_X1_cutAt, wn_X1⟩, wc_X1_cutAt⟩
theorem wv_X5_164 : cwd RX5 RX5 164 yX5_cellFact cX5_cellFact 3 (some .int) := ⟨⟨wl_X5_164, wi_X5_cellFact, we_X5_cellFact, wn_X5⟩, wc_X5_cellFact⟩
theorem wv_X5_300 : cwd RX5 RX2 300 yX2_put cX2_put 3 (none) := ⟨⟨wl_X5_300, wi_X2_put, we_X2_put, wn_X2⟩, wc_X2_put⟩
theorem wv_X5_291 : cwd RX5 RX0 291 yX0_sizeOf cX0_sizeOf 4 (some .int) := ⟨⟨wl_X5_291, wi_X0_sizeOf, we_X0_sizeOf, wn_X0⟩, wc_X0_sizeOf⟩
theorem wv_X5_294 : cwd RX5 RX1 294 yX1_volumeOf cX1_volumeOf 5 (some .int) := ⟨⟨wl_X5_294, wi_X1_volumeOf, we_X1_volumeOf, wn_X1⟩, wc_X1_volumeOf⟩
theorem wv_X5_167 : cwd RX5 RX5 167 yX5_findWayOf cX5_findWayOf 2 (none) := ⟨⟨wl_X5_167, wi_X5_findWayOf, we_X5_findWayOf, wn_X5⟩, wc_X5_findWayOf⟩
theorem wv_X5_170 : cwd RX5 RX5 170 yX5_blockFact cX5_blockFact 4 (some .int) := ⟨⟨wl_X5_170, wi_X5_blockFact, we_X5_blockFact, wn_X5⟩, wc_X5_blockFact⟩
theorem wv_X0_64 : cwd RX0 RX0 64 yX0_isLoose cX0_isLoose 2 (some .boolean) := ⟨⟨wl_X0_64, wi_X0_isLoose, we_X0_isLoose, wn_X0⟩, wc_X0_isLoose⟩
theorem wv_X5_297 : cwd RX5 RX5 297 yX5_isStranded cX5_isStranded 2 (some .boolean) := ⟨⟨wl_X5_297, wi_X5_isStranded, we_X5_isStranded, wn_X5⟩, wc_X5_isStranded⟩
theorem wv_X5_206 : cwd RX5 RX1 206 yX1_iceCells cX1_iceCells 3 (some .int) := ⟨⟨wl_X5_206, wi_X1_iceCells, we_X1_iceCells, wn_X1⟩, wc_X1_iceCells⟩
theorem wv_X5_267 : cwd RX5 RX0 267 yX0_countAll cX0_countAll 3 (some .int) := ⟨⟨wl_X5_267, wi_X0_countAll, we_X0_countAll, wn_X0⟩, wc_X0_countAll⟩
theorem wv_X5_199 : cwd RX5 RX0 199 yX0_countLoose cX0_countLoose 3 (some .int) := ⟨⟨wl_X5_199, wi_X0_countLoose, we_X0_countLoose, wn_X0⟩, wc_X0_countLoose⟩
theorem wv_X5_270 : cwd RX5 RX5 270 yX5_countStranded cX5_countStranded 3 (some .int) := ⟨⟨wl_X5_270, wi_X5_countStranded, we_X5_countStranded, wn_X5⟩, wc_X5_countStranded⟩
theorem wv_X5_276 : cwd RX5 RX2 276 yX2_sum cX2_sum 3 (some .int) := ⟨⟨wl_X5_276, wi_X2_sum, we_X2_sum, wn_X2⟩, wc_X2_sum⟩
theorem wv_X5_181 : cwd RX5 RX5 181 yX5_findBlocksAndWays cX5_findBlocksAndWays 2 (none) := ⟨⟨wl_X5_181, wi_X5_findBlocksAndWays, we_X5_findBlocksAndWays, wn_X5⟩, wc_X5_findBlocksAndWays⟩
theorem wv_X5_184 : cwd RX5 RX5 184 yX5_fieldFact cX5_fieldFact 2 (some .int) := ⟨⟨wl_X5_184, wi_X5_fieldFact, we_X5_fieldFact, wn_X5⟩, wc_X5_fieldFact⟩
theorem wv_X5_187 : cwd RX5 RX1 187 yX1_keptCount cX1_keptCount 1 (some .int) := ⟨⟨wl_X5_187, wi_X1_keptCount, we_X1_keptCount, wn_X1⟩, wc_X1_keptCount⟩
theorem wv_X5_193 : cwd RX5 RX1 193 yX1_keptFact cX1_keptFact 3 (some .int) := ⟨⟨wl_X5_193, wi_X1_keptFact, we_X1_keptFact, wn_X1⟩, wc_X1_keptFact⟩
theorem wv_X5_215 : cwd RX5 RX1 215 yX1_isIce cX1_isIce 2 (some .boolean) := ⟨⟨wl_X5_215, wi_X1_isIce, we_X1_isIce, wn_X1⟩, wc_X1_isIce⟩
theorem wv_X5_202 : cwd RX5 RX5 202 yX5_hasWaterIn cX5_hasWaterIn 4 (some .boolean) := ⟨⟨wl_X5_202, wi_X5_hasWaterIn, we_X5_hasWaterIn, wn_X5⟩, wc_X5_hasWaterIn⟩
theorem wv_X5_209 : cwd RX5 RX5 209 yX5_lowestStranded cX5_lowestStranded 2 (some .int) := ⟨⟨wl_X5_209, wi_X5_lowestStranded, we_X5_lowestStranded, wn_X5⟩, wc_X5_lowestStranded⟩
theorem wv_X5_218 : cwd RX5 RX5 218 yX5_freesWay cX5_freesWay 5 (some .boolean) := ⟨⟨wl_X5_218, wi_X5_freesWay, we_X5_freesWay, wn_X5⟩, wc_X5_freesWay⟩
theorem wv_X3_30 : cwd RX3 RX2 30 yX2_put cX2_put 3 (none) := ⟨⟨wl_X3_30, wi_X2_put, we_X2_put, wn_X2⟩, wc_X2_put⟩
theorem wv_X5_231 : cwd RX5 RX3 231 yX3_add cX3_add 2 (none) := ⟨⟨wl_X5_231, wi_X3_add, we_X3_add, wn_X3⟩, wc_X3_add⟩
theorem wv_X3_34 : cwd RX3 RX2 34 yX2_at cX2_at 2 (some .int) := ⟨⟨wl_X3_34, wi_X2_at, we_X2_at, wn_X2⟩, wc_X2_at⟩
theorem wv_X3_38 : cws RX3 38 yX3_isDigit cX3_isDigit 1 (some .boolean) := ⟨⟨wl_X3_38, wt_X3_isDigit, wn_X3⟩, wc_X3_isDigit⟩
theorem wv_X3_42 : cwd RX3 RX3 42 yX3_mostDigits cX3_mostDigits 1 (some .int) := ⟨⟨wl_X3_42, wi_X3_mostDigits, we_X3_mostDigits, wn_X3⟩, wc_X3_mostDigits⟩
theorem wv_X3_46 : cwd RX3 RX3 46 yX3_leastDigits cX3_leastDigits 1 (some .int) := ⟨⟨wl_X3_46, wi_X3_leastDigits, we_X3_leastDigits, wn_X3⟩, wc_X3_leastDigits⟩
theorem wv_X5_233 : cwd RX5 RX3 233 yX3_read cX3_read 3 (some .int) := ⟨⟨wl_X5_233, wi_X3_read, we_X3_read, wn_X3⟩, wc_X3_read⟩
theorem wv_X5_248 : cwd RX5 RX3 248 yX3_digitAt cX3_digitAt 3 (some .int) := ⟨⟨wl_X5_248, wi_X3_digitAt, we_X3_digitAt, wn_X3⟩, wc_X3_digitAt⟩
theorem wv_X6_45 : cwd RX6 RX6 45 yX6_cells cX6_cells 1 (some .int) := ⟨⟨wl_X6_45, wi_X6_cells, we_X6_cells, wn_X6⟩, wc_X6_cells⟩
theorem wv_X6_49 : cws RX6 49 yX6_in cX6_in 6 (some .boolean) := ⟨⟨wl_X6_49, wt_X6_in, wn_X6⟩, wc_X6_in⟩
theorem wv_X6_63 : cwd RX6 RX6 63 yX6_save cX6_save 2 (none) := ⟨⟨wl_X6_63, wi_X6_save, we_X6_save, wn_X6⟩, wc_X6_save⟩
theorem wv_X6_31 : cwd RX6 RX6 31 yX6_makes cX6_makes 5 (none) := ⟨⟨wl_X6_31, wi_X6_makes, we_X6_makes, wn_X6⟩, wc_X6_makes⟩
theorem wv_X6_59 : cwd RX6 RX6 59 yX6_throwing cX6_throwing 2 (some .int) := ⟨⟨wl_X6_59, wi_X6_throwing, we_X6_throwing, wn_X6⟩, wc_X6_throwing⟩
theorem wv_X6_66 : cwd RX6 RX6 66 yX6_fine cX6_fine 2 (some .int) := ⟨⟨wl_X6_66, wi_X6_fine, we_X6_fine, wn_X6⟩, wc_X6_fine⟩
theorem wv_X6_35 : cwd RX6 RX6 35 yX6_puts cX6_puts 3 (none) := ⟨⟨wl_X6_35, wi_X6_puts, we_X6_puts, wn_X6⟩, wc_X6_puts⟩
theorem wv_X6_69 : cwd RX6 RX6 69 yX6_isCell cX6_isCell 2 (some .boolean) := ⟨⟨wl_X6_69, wi_X6_isCell, we_X6_isCell, wn_X6⟩, wc_X6_isCell⟩
theorem wv_X6_73 : cwd RX6 RX6 73 yX6_column cX6_column 2 (some .int) := ⟨⟨wl_X6_73, wi_X6_column, we_X6_column, wn_X6⟩, wc_X6_column⟩
theorem wv_X6_76 : cwd RX6 RX6 76 yX6_row cX6_row 2 (some .int) := ⟨⟨wl_X6_76, wi_X6_row, we_X6_row, wn_X6⟩, wc_X6_row⟩
theorem wv_X6_79 : cwd RX6 RX6 79 yX6_canSaw cX6_canSaw 3 (some .boolean) := ⟨⟨wl_X6_79, wi_X6_canSaw, we_X6_canSaw, wn_X6⟩, wc_X6_canSaw⟩
theorem wv_X6_83 : cwd RX6 RX6 83 yX6_keeper cX6_keeper 3 (some .int) := ⟨⟨wl_X6_83, wi_X6_keeper, we_X6_keeper, wn_X6⟩, wc_X6_keeper⟩
theorem wv_X6_87 : cwd RX6 RX6 87 yX6_bit cX6_bit 3 (some .int) := ⟨⟨wl_X6_87, wi_X6_bit, we_X6_bit, wn_X6⟩, wc_X6_bit⟩
theorem wv_X6_90 : cwd RX6 RX6 90 yX6_isCut cX6_isCut 3 (some .boolean) := ⟨⟨wl_X6_90, wi_X6_isCut, we_X6_isCut, wn_X6⟩, wc_X6_isCut⟩
theorem wv_X6_95 : cwd RX6 RX6 95 yX6_saws cX6_saws 3 (some .int) := ⟨⟨wl_X6_95, wi_X6_saws, we_X6_saws, wn_X6⟩, wc_X6_saws⟩
theorem wv_X6_98 : cwd RX6 RX6 98 yX6_isRectangle cX6_isRectangle 4 (some .boolean) := ⟨⟨wl_X6_98, wi_X6_isRectangle, we_X6_isRectangle, wn_X6⟩, wc_X6_isRectangle⟩
theorem wv_X6_102 : cwd RX6 RX6 102 yX6_sawsAround cX6_sawsAround 6 (some .int) := ⟨⟨wl_X6_102, wi_X6_sawsAround, we_X6_sawsAround, wn_X6⟩, wc_X6_sawsAround⟩
theorem wv_X6_106 : cwd RX6 RX6 106 yX6_laysAside cX6_laysAside 2 (none) := ⟨⟨wl_X6_106, wi_X6_laysAside, we_X6_laysAside, wn_X6⟩, wc_X6_laysAside⟩
theorem wv_X6_109 : cwd RX6 RX6 109 yX6_takesBack cX6_takesBack 2 (none) := ⟨⟨wl_X6_109, wi_X6_takesBack, we_X6_takesBack, wn_X6⟩, wc_X6_takesBack⟩
theorem wv_X6_112 : cwd RX6 RX6 112 yX6_isIce cX6_isIce 2 (some .boolean) := ⟨⟨wl_X6_112, wi_X6_isIce, we_X6_isIce, wn_X6⟩, wc_X6_isIce⟩
theorem wv_X6_115 : cwd RX6 RX6 115 yX6_hang cX6_hang 4 (some .boolean) := ⟨⟨wl_X6_115, wi_X6_hang, we_X6_hang, wn_X6⟩, wc_X6_hang⟩
theorem wv_X6_118 : cwd RX6 RX6 118 yX6_joins cX6_joins 5 (some .boolean) := ⟨⟨wl_X6_118, wi_X6_joins, we_X6_joins, wn_X6⟩, wc_X6_joins⟩
theorem wv_X6_127 : cws RX6 127 yX6_moved cX6_moved 2 (some .int) := ⟨⟨wl_X6_127, wt_X6_moved, wn_X6⟩, wc_X6_moved⟩
theorem wv_X6_121 : cwd RX6 RX6 121 yX6_mayLie cX6_mayLie 8 (some .boolean) := ⟨⟨wl_X6_121, wi_X6_mayLie, we_X6_mayLie, wn_X6⟩, wc_X6_mayLie⟩
theorem wv_X6_124 : cwd RX6 RX6 124 yX6_isBeside cX6_isBeside 6 (some .boolean) := ⟨⟨wl_X6_124, wi_X6_isBeside, we_X6_isBeside, wn_X6⟩, wc_X6_isBeside⟩
theorem wv_X6_132 : cwd RX6 RX6 132 yX6_isHeld cX6_isHeld 4 (some .boolean) := ⟨⟨wl_X6_132, wi_X6_isHeld, we_X6_isHeld, wn_X6⟩, wc_X6_isHeld⟩
theorem wv_X6_135 : cwd RX6 RX6 135 yX6_findsWays cX6_findsWays 6 (none) := ⟨⟨wl_X6_135, wi_X6_findsWays, we_X6_findsWays, wn_X6⟩, wc_X6_findsWays⟩
theorem wv_X6_139 : cwd RX6 RX6 139 yX6_way cX6_way 2 (some .int) := ⟨⟨wl_X6_139, wi_X6_way, we_X6_way, wn_X6⟩, wc_X6_way⟩
theorem wv_X6_142 : cwd RX6 RX6 142 yX6_sizeOf cX6_sizeOf 5 (some .int) := ⟨⟨wl_X6_142, wi_X6_sizeOf, we_X6_sizeOf, wn_X6⟩, wc_X6_sizeOf⟩
theorem wv_X6_146 : cwd RX6 RX6 146 yX6_findsBlocks cX6_findsBlocks 3 (none) := ⟨⟨wl_X6_146, wi_X6_findsBlocks, we_X6_findsBlocks, wn_X6⟩, wc_X6_findsBlocks⟩
theorem wv_X6_149 : cwd RX6 RX6 149 yX6_takes cX6_takes 4 (none) := ⟨⟨wl_X6_149, wi_X6_takes, we_X6_takes, wn_X6⟩, wc_X6_takes⟩
theorem wv_X6_152 : cwd RX6 RX6 152 yX6_nextLoose cX6_nextLoose 5 (some .int) := ⟨⟨wl_X6_152, wi_X6_nextLoose, we_X6_nextLoose, wn_X6⟩, wc_X6_nextLoose⟩
theorem wv_X6_155 : cwd RX6 RX6 155 yX6_takesAll cX6_takesAll 3 (some .int) := ⟨⟨wl_X6_155, wi_X6_takesAll, we_X6_takesAll, wn_X6⟩, wc_X6_takesAll⟩
theorem wv_X6_160 : cwd RX6 RX6 160 yX6_waterBeside cX6_waterBeside 4 (some .int) := ⟨⟨wl_X6_160, wi_X6_waterBeside, we_X6_waterBeside, wn_X6⟩, wc_X6_waterBeside⟩
theorem wv_X6_163 : cwd RX6 RX6 163 yX6_day cX6_day 4 (some .int) := ⟨⟨wl_X6_163, wi_X6_day, we_X6_day, wn_X6⟩, wc_X6_day⟩
theorem wv_X6_168 : cwd RX6 RX6 168 yX6_cellOf cX6_cellOf 3 (some .int) := ⟨⟨wl_X6_168, wi_X6_cellOf, we_X6_cellOf, wn_X6⟩, wc_X6_cellOf⟩
theorem wv_X6_173 : cwd RX6 RX6 173 yX6_blockOf cX6_blockOf 4 (some .int) := ⟨⟨wl_X6_173, wi_X6_blockOf, we_X6_blockOf, wn_X6⟩, wc_X6_blockOf⟩
theorem wv_X6_179 : cwd RX6 RX6 179 yX6_sum cX6_sum 5 (some .int) := ⟨⟨wl_X6_179, wi_X6_sum, we_X6_sum, wn_X6⟩, wc_X6_sum⟩
theorem wv_X6_176 : cwd RX6 RX6 176 yX6_blocks cX6_blocks 5 (some .int) := ⟨⟨wl_X6_176, wi_X6_blocks, we_X6_blocks, wn_X6⟩, wc_X6_blocks⟩
theorem wv_X6_184 : cwd RX6 RX6 184 yX6_valueOf cX6_valueOf 2 (some .int) := ⟨⟨wl_X6_184, wi_X6_valueOf, we_X6_valueOf, wn_X6⟩, wc_X6_valueOf⟩
theorem wv_X6_187 : cwd RX6 RX6 187 yX6_kept cX6_kept 1 (some .int) := ⟨⟨wl_X6_187, wi_X6_kept, we_X6_kept, wn_X6⟩, wc_X6_kept⟩
theorem wv_X6_190 : cwd RX6 RX6 190 yX6_takableNow cX6_takableNow 2 (some .int) := ⟨⟨wl_X6_190, wi_X6_takableNow, we_X6_takableNow, wn_X6⟩, wc_X6_takableNow⟩
theorem wv_X6_193 : cwd RX6 RX6 193 yX6_isWhole cX6_isWhole 4 (some .boolean) := ⟨⟨wl_X6_193, wi_X6_isWhole, we_X6_isWhole, wn_X6⟩, wc_X6_isWhole⟩
theorem wv_X6_201 : cwd RX6 RX6 201 yX6_here cX6_here 2 (some .int) := ⟨⟨wl_X6_201, wi_X6_here, we_X6_here, wn_X6⟩, wc_X6_here⟩
theorem wv_X6_208 : cwd RX6 RX6 208 yX6_behindDigits cX6_behindDigits 4 (some .int) := ⟨⟨wl_X6_208, wi_X6_behindDigits, we_X6_behindDigits, wn_X6⟩, wc_X6_behindDigits⟩
theorem wv_X6_217 : cwd RX6 RX6 217 yX6_fault cX6_fault 3 (some .int) := ⟨⟨wl_X6_217, wi_X6_fault, we_X6_fault, wn_X6⟩, wc_X6_fault⟩
theorem wv_L_7 : cwd RL RX5 7 yX5_make cX5_make 4 (some .int) := ⟨⟨wl_L_7, wi_X5_make, we_X5_make, wn_X5⟩, wc_X5_make⟩
theorem wv_L_15 : cwd RL RX5 15 yX5_lay cX5_lay 3 (some .int) := ⟨⟨wl_L_15, wi_X5_lay, we_X5_lay, wn_X5⟩, wc_X5_lay⟩
theorem wv_L_23 : cwd RL RX5 23 yX5_saw cX5_saw 3 (some .int) := ⟨⟨wl_L_23, wi_X5_saw, we_X5_saw, wn_X5⟩, wc_X5_saw⟩
theorem wv_L_26 : cwd RL RX5 26 yX5_sawAround cX5_sawAround 4 (some .int) := ⟨⟨wl_L_26, wi_X5_sawAround, we_X5_sawAround, wn_X5⟩, wc_X5_sawAround⟩
theorem wv_L_29 : cwd RL RX5 29 yX5_takeOut cX5_takeOut 3 (some .int) := ⟨⟨wl_L_29, wi_X5_takeOut, we_X5_takeOut, wn_X5⟩, wc_X5_takeOut⟩
theorem wv_L_33 : cwd RL RX5 33 yX5_setMelt cX5_setMelt 3 (some .int) := ⟨⟨wl_L_33, wi_X5_setMelt, we_X5_setMelt, wn_X5⟩, wc_X5_setMelt⟩
theorem wv_L_36 : cwd RL RX5 36 yX5_pass cX5_pass 4 (some .int) := ⟨⟨wl_L_36, wi_X5_pass, we_X5_pass, wn_X5⟩, wc_X5_pass⟩
theorem wv_L_39 : cwd RL RX5 39 yX5_cell cX5_cell 3 (some .int) := ⟨⟨wl_L_39, wi_X5_cell, we_X5_cell, wn_X5⟩, wc_X5_cell⟩
theorem wv_L_42 : cwd RL RX5 42 yX5_block cX5_block 3 (some .int) := ⟨⟨wl_L_42, wi_X5_block, we_X5_block, wn_X5⟩, wc_X5_block⟩
theorem wv_L_45 : cwd RL RX5 45 yX5_move cX5_move 4 (some .int) := ⟨⟨wl_L_45, wi_X5_move, we_X5_move, wn_X5⟩, wc_X5_move⟩
theorem wv_L_48 : cwd RL RX5 48 yX5_value cX5_value 2 (some .int) := ⟨⟨wl_L_48, wi_X5_value, we_X5_value, wn_X5⟩, wc_X5_value⟩
theorem wv_L_51 : cwd RL RX5 51 yX5_taken cX5_taken 3 (some .int) := ⟨⟨wl_L_51, wi_X5_taken, we_X5_taken, wn_X5⟩, wc_X5_taken⟩
theorem wv_L_54 : cwd RL RX5 54 yX5_cutsAround cX5_cutsAround 4 (some .int) := ⟨⟨wl_L_54, wi_X5_cutsAround, we_X5_cutsAround, wn_X5⟩, wc_X5_cutsAround⟩
theorem wv_L_57 : cwd RL RX5 57 yX5_daysWhole cX5_daysWhole 4 (some .int) := ⟨⟨wl_L_57, wi_X5_daysWhole, we_X5_daysWhole, wn_X5⟩, wc_X5_daysWhole⟩
theorem wv_L_60 : cwd RL RX5 60 yX5_append cX5_append 2 (some .int) := ⟨⟨wl_L_60, wi_X5_append, we_X5_append, wn_X5⟩, wc_X5_append⟩
theorem wv_L_63 : cwd RL RX5 63 yX5_undo cX5_undo 2 (some .int) := ⟨⟨wl_L_63, wi_X5_undo, we_X5_undo, wn_X5⟩, wc_X5_undo⟩
theorem wv_L_71 : cwsw RL 71 yL_make cL_make 6 (some .int) [(0, 12, 15, 13)] := ⟨⟨wl_L_71, wt_L_make, wn_L⟩, wc_L_make⟩
theorem wv_L_76 : cwd RL RX6 76 yX6_make cX6_make 5 (some .int) := ⟨⟨wl_L_76, wi_X6_make, we_X6_make, wn_X6⟩, wc_X6_make⟩
theorem wv_L_77 : cwd RL RX6 77 yX6_thrown cX6_thrown 1 (some .int) := ⟨⟨wl_L_77, wi_X6_thrown, we_X6_thrown, wn_X6⟩, wc_X6_thrown⟩
theorem wv_L_80 : cwsw RL 80 yL_lay cL_lay 5 (some .int) [(0, 10, 13, 19), (0, 10, 17, 13), (0, 10, 21, 21)] := ⟨⟨wl_L_80, wt_L_lay, wn_L⟩, wc_L_lay⟩
theorem wv_L_83 : cwd RL RX6 83 yX6_lay cX6_lay 3 (some .int) := ⟨⟨wl_L_83, wi_X6_lay, we_X6_lay, wn_X6⟩, wc_X6_lay⟩
theorem wv_L_84 : cwsw RL 84 yL_saw cL_saw 5 (some .int) [(0, 10, 13, 19), (0, 10, 17, 13), (0, 10, 21, 21)] := ⟨⟨wl_L_84, wt_L_saw, wn_L⟩, wc_L_saw⟩
theorem wv_L_86 : cwd RL RX6 86 yX6_saw cX6_saw 3 (some .int) := ⟨⟨wl_L_86, wi_X6_saw, we_X6_saw, wn_X6⟩, wc_X6_saw⟩
theorem wv_L_87 : cwsw RL 87 yL_sawAround cL_sawAround 6 (some .int) [(0, 12, 15, 19), (0, 12, 19, 13)] := ⟨⟨wl_L_87, wt_L_sawAround, wn_L⟩, wc_L_sawAround⟩
theorem wv_L_89 : cwd RL RX6 89 yX6_sawAround cX6_sawAround 4 (some .int) := ⟨⟨wl_L_89, wi_X6_sawAround, we_X6_sawAround, wn_X6⟩, wc_X6_sawAround⟩
theorem wv_L_90 : cwsw RL 90 yL_takeOut cL_takeOut 4 (some .int) [(0, 9, 12, 19), (0, 9, 15, 21)] := ⟨⟨wl_L_90, wt_L_takeOut, wn_L⟩, wc_L_takeOut⟩
theorem wv_L_93 : cwd RL RX6 93 yX6_takeOut cX6_takeOut 4 (some .int) := ⟨⟨wl_L_93, wi_X6_takeOut, we_X6_takeOut, wn_X6⟩, wc_X6_takeOut⟩
theorem wv_L_94 : cwd RL RX5 94 yX5_takeAll cX5_takeAll 1 (some .int) := ⟨⟨wl_L_94, wi_X5_takeAll, we_X5_takeAll, wn_X5⟩, wc_X5_takeAll⟩
theorem wv_L_97 : cwd RL RX6 97 yX6_takeAll cX6_takeAll 1 (some .int) := ⟨⟨wl_L_97, wi_X6_takeAll, we_X6_takeAll, wn_X6⟩, wc_X6_takeAll⟩
theorem wv_L_98 : cwsw RL 98 yL_setMelt cL_setMelt 4 (some .int) [(0, 9, 12, 13)] := ⟨⟨wl_L_98, wt_L_setMelt, wn_L⟩, wc_L_setMelt⟩
theorem wv_L_100 : cwd RL RX6 100 yX6_setMelt cX6_setMelt 3 (some .int) := ⟨⟨wl_L_100, wi_X6_setMelt, we_X6_setMelt, wn_X6⟩, wc_X6_setMelt⟩
theorem wv_L_101 : cwsw RL 101 yL_pass cL_pass 4 (some .int) [(0, 9, 12, 13)] := ⟨⟨wl_L_101, wt_L_pass, wn_L⟩, wc_L_pass⟩
theorem wv_L_103 : cwd RL RX6 103 yX6_pass cX6_pass 4 (some .int) := ⟨⟨wl_L_103, wi_X6_pass, we_X6_pass, wn_X6⟩, wc_X6_pass⟩
theorem wv_L_104 : cwsw RL 104 yL_cell cL_cell 5 (some .int) [(0, 10, 13, 19), (0, 10, 17, 13)] := ⟨⟨wl_L_104, wt_L_cell, wn_L⟩, wc_L_cell⟩
theorem wv_L_106 : cwd RL RX6 106 yX6_cell cX6_cell 3 (some .int) := ⟨⟨wl_L_106, wi_X6_cell, we_X6_cell, wn_X6⟩, wc_X6_cell⟩
theorem wv_L_107 : cwsw RL 107 yL_block cL_block 5 (some .int) [(0, 10, 13, 19), (0, 10, 17, 13)] := ⟨⟨wl_L_107, wt_L_block, wn_L⟩, wc_L_block⟩
theorem wv_L_109 : cwd RL RX6 109 yX6_block cX6_block 3 (some .int) := ⟨⟨wl_L_109, wi_X6_block, we_X6_block, wn_X6⟩, wc_X6_block⟩
theorem wv_L_110 : cwsw RL 110 yL_move cL_move 5 (some .int) [(0, 10, 13, 19)] := ⟨⟨wl_L_110, wt_L_move, wn_L⟩, wc_L_move⟩
theorem wv_L_112 : cwd RL RX6 112 yX6_move cX6_move 7 (some .int) := ⟨⟨wl_L_112, wi_X6_move, we_X6_move, wn_X6⟩, wc_X6_move⟩
theorem wv_L_113 : cwsw RL 113 yL_value cL_value 4 (some .int) [(0, 9, 12, 13)] := ⟨⟨wl_L_113, wt_L_value, wn_L⟩, wc_L_value⟩
theorem wv_L_115 : cwd RL RX6 115 yX6_value cX6_value 2 (some .int) := ⟨⟨wl_L_115, wi_X6_value, we_X6_value, wn_X6⟩, wc_X6_value⟩
theorem wv_L_116 : cwsw RL 116 yL_taken cL_taken 5 (some .int) [(0, 10, 13, 19), (0, 10, 17, 13)] := ⟨⟨wl_L_116, wt_L_taken, wn_L⟩, wc_L_taken⟩
theorem wv_L_118 : cwd RL RX6 118 yX6_taken cX6_taken 3 (some .int) := ⟨⟨wl_L_118, wi_X6_taken, we_X6_taken, wn_X6⟩, wc_X6_taken⟩
theorem wv_L_119 : cwsw RL 119 yL_cutsAround cL_cutsAround 6 (some .int) [(0, 12, 15, 19), (0, 12, 19, 13)] := ⟨⟨wl_L_119, wt_L_cutsAround, wn_L⟩, wc_L_cutsAround⟩
theorem wv_L_121 : cwd RL RX6 121 yX6_cutsAround cX6_cutsAround 5 (some .int) := ⟨⟨wl_L_121, wi_X6_cutsAround, we_X6_cutsAround, wn_X6⟩, wc_X6_cutsAround⟩
theorem wv_L_122 : cwd RL RX5 122 yX5_takable cX5_takable 1 (some .int) := ⟨⟨wl_L_122, wi_X5_takable, we_X5_takable, wn_X5⟩, wc_X5_takable⟩
theorem wv_L_125 : cwd RL RX6 125 yX6_takable cX6_takable 1 (some .int) := ⟨⟨wl_L_125, wi_X6_takable, we_X6_takable, wn_X6⟩, wc_X6_takable⟩
theorem wv_L_126 : cwd RL RX5 126 yX5_leftStranded cX5_leftStranded 1 (some .int) := ⟨⟨wl_L_126, wi_X5_leftStranded, we_X5_leftStranded, wn_X5⟩, wc_X5_leftStranded⟩
theorem wv_L_129 : cwd RL RX6 129 yX6_leftStranded cX6_leftStranded 3 (some .int) := ⟨⟨wl_L_129, wi_X6_leftStranded, we_X6_leftStranded, wn_X6⟩, wc_X6_leftStranded⟩
theorem wv_L_130 : cwsw RL 130 yL_daysWhole cL_daysWhole 4 (some .int) [(0, 9, 12, 19)] := ⟨⟨wl_L_130, wt_L_daysWhole, wn_L⟩, wc_L_daysWhole⟩
theorem wv_L_132 : cwd RL RX6 132 yX6_daysWhole cX6_daysWhole 6 (some .int) := ⟨⟨wl_L_132, wi_X6_daysWhole, we_X6_daysWhole, wn_X6⟩, wc_X6_daysWhole⟩
theorem wv_L_133 : cwd RL RX5 133 yX5_daysToWater cX5_daysToWater 2 (some .int) := ⟨⟨wl_L_133, wi_X5_daysToWater, we_X5_daysToWater, wn_X5⟩, wc_X5_daysToWater⟩
theorem wv_L_136 : cwd RL RX6 136 yX6_daysToWater cX6_daysToWater 4 (some .int) := ⟨⟨wl_L_136, wi_X6_daysToWater, we_X6_daysToWater, wn_X6⟩, wc_X6_daysToWater⟩
theorem wv_L_137 : cwd RL RX5 137 yX5_barredBy cX5_barredBy 3 (some .int) := ⟨⟨wl_L_137, wi_X5_barredBy, we_X5_barredBy, wn_X5⟩, wc_X5_barredBy⟩
theorem wv_L_140 : cwd RL RX6 140 yX6_barredBy cX6_barredBy 5 (some .int) := ⟨⟨wl_L_140, wi_X6_barredBy, we_X6_barredBy, wn_X6⟩, wc_X6_barredBy⟩
theorem wv_L_141 : cwd RL RX5 141 yX5_harvest cX5_harvest 1 (some .double) := ⟨⟨wl_L_141, wi_X5_harvest, we_X5_harvest, wn_X5⟩, wc_X5_harvest⟩
theorem wv_L_145 : cwd RL RX6 145 yX6_harvest cX6_harvest 5 (some .double) := ⟨⟨wl_L_145, wi_X6_harvest, we_X6_harvest, wn_X6⟩, wc_X6_harvest⟩
theorem wv_L_146 : cwsw RL 146 yL_append cL_append 4 (some .int) [(0, 9, 12, 13), (0, 9, 15, 21)] := ⟨⟨wl_L_146, wt_L_append, wn_L⟩, wc_L_append⟩
theorem wv_L_148 : cwd RL RX6 148 yX6_append cX6_append 2 (some .int) := ⟨⟨wl_L_148, wi_X6_append, we_X6_append, wn_X6⟩, wc_X6_append⟩
theorem wv_L_149 : cwd RL RX5 149 yX5_clearText cX5_clearText 2 (some .int) := ⟨⟨wl_L_149, wi_X5_clearText, we_X5_clearText, wn_X5⟩, wc_X5_clearText⟩
theorem wv_L_152 : cwd RL RX6 152 yX6_clearText cX6_clearText 2 (some .int) := ⟨⟨wl_L_152, wi_X6_clearText, we_X6_clearText, wn_X6⟩, wc_X6_clearText⟩
theorem wv_L_153 : cwd RL RX5 153 yX5_parse cX5_parse 3 (some .int) := ⟨⟨wl_L_153, wi_X5_parse, we_X5_parse, wn_X5⟩, wc_X5_parse⟩
theorem wv_L_156 : cwd RL RX6 156 yX6_parse cX6_parse 3 (some .int) := ⟨⟨wl_L_156, wi_X6_parse, we_X6_parse, wn_X6⟩, wc_X6_parse⟩
theorem wv_L_157 : cwsw RL 157 yL_undo cL_undo 3 (some .int) [(0, 8, 11, 21)] := ⟨⟨wl_L_157, wt_L_undo, wn_L⟩, wc_L_undo⟩
theorem wv_L_160 : cwd RL RX6 160 yX6_undo cX6_undo 2 (some .int) := ⟨⟨wl_L_160, wi_X6_undo, we_X6_undo, wn_X6⟩, wc_X6_undo⟩
theorem wv_L_161 : cwd RL RX5 161 yX5_digest cX5_digest 5 (some .long) := ⟨⟨wl_L_161, wi_X5_digest, we_X5_digest, wn_X5⟩, wc_X5_digest⟩
theorem wv_L_165 : cwd RL RX6 165 yX6_digest cX6_digest 5 (some .long) := ⟨⟨wl_L_165, wi_X6_digest, we_X6_digest, wn_X6⟩, wc_X6_digest⟩
