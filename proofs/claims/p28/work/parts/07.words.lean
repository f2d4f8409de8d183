theorem wu_X0 : ∀ w ∈ u_ws RX0 TX0 3, w ∈ W0 := by decide +kernel
theorem wu_X1 : ∀ w ∈ u_ws RX1 TX1 12, w ∈ W0 := by decide +kernel
theorem wu_X2 : ∀ w ∈ u_ws RX2 TX2 1, w ∈ W0 := by decide +kernel
theorem wu_X3 : ∀ w ∈ u_ws RX3 TX3 4, w ∈ W0 := by decide +kernel
theorem wu_X4 : ∀ w ∈ u_ws RX4 TX4 5, w ∈ W0 := by decide +kernel
theorem wu_X5 : ∀ w ∈ u_ws RX5 TX5 9, w ∈ W0 := by decide +kernel
theorem wf_X5_19 : Cond.fieldLink RX5 19 "IceField" "saved" "[LIceField$Ice;" ∈ W0 := W0_at (i := 183) (by decide +kernel) (by decide +kernel)
theorem wf_X2_7 : Cond.fieldLink RX2 7 "IceField$Numbers" "numbers" "[I" ∈ W0 := W0_at (i := 33) (by decide +kernel) (by decide +kernel)
theorem wl_X2_13 : Cond.methodLink RX2 13 yX2_at ∈ W0 := W0_at (i := 229) (by decide +kernel) (by decide +kernel)
theorem wi_X2_at : Cond.instanceMethod yX2_at ∈ W0 := W0_at (i := 174) (by decide +kernel) (by decide +kernel)
theorem we_X2_at : Cond.selects RX2 yX2_at yX2_at ∈ W0 := W0_at (i := 175) (by decide +kernel) (by decide +kernel)
theorem wn_X2 : Cond.initialized RX2 ∈ W0 := W0_at (i := 3) (by decide +kernel) (by decide +kernel)
theorem wc_X2_at : Cond.code yX2_at cX2_at 2 (some .int) ∈ W0 := W0_at (i := 176) (by decide +kernel) (by decide +kernel)
theorem wf_X1_11 : Cond.fieldLink RX1 11 "IceField$Ice" "width" "I" ∈ W0 := W0_at (i := 38) (by decide +kernel) (by decide +kernel)
theorem wf_X1_15 : Cond.fieldLink RX1 15 "IceField$Ice" "height" "I" ∈ W0 := W0_at (i := 41) (by decide +kernel) (by decide +kernel)
theorem wf_X1_18 : Cond.fieldLink RX1 18 "IceField$Ice" "melt" "I" ∈ W0 := W0_at (i := 44) (by decide +kernel) (by decide +kernel)
theorem wf_X1_21 : Cond.fieldLink RX1 21 "IceField$Ice" "days" "I" ∈ W0 := W0_at (i := 46) (by decide +kernel) (by decide +kernel)
theorem wf_X1_24 : Cond.fieldLink RX1 24 "IceField$Ice" "laid" "I" ∈ W0 := W0_at (i := 48) (by decide +kernel) (by decide +kernel)
theorem wf_X1_27 : Cond.fieldLink RX1 27 "IceField$Ice" "melted" "I" ∈ W0 := W0_at (i := 50) (by decide +kernel) (by decide +kernel)
theorem wf_X1_30 : Cond.fieldLink RX1 30 "IceField$Ice" "takenVolume" "I" ∈ W0 := W0_at (i := 52) (by decide +kernel) (by decide +kernel)
theorem wf_X1_33 : Cond.fieldLink RX1 33 "IceField$Ice" "takenBlocks" "I" ∈ W0 := W0_at (i := 54) (by decide +kernel) (by decide +kernel)
theorem wf_X1_41 : Cond.fieldLink RX1 41 "IceField$Ice" "thickness" "LIceField$Numbers;" ∈ W0 := W0_at (i := 56) (by decide +kernel) (by decide +kernel)
theorem wl_X1_54 : Cond.methodLink RX1 54 yX2_copyFrom ∈ W0 := W0_at (i := 225) (by decide +kernel) (by decide +kernel)
theorem wi_X2_copyFrom : Cond.instanceMethod yX2_copyFrom ∈ W0 := W0_at (i := 226) (by decide +kernel) (by decide +kernel)
theorem we_X2_copyFrom : Cond.selects RX2 yX2_copyFrom yX2_copyFrom ∈ W0 := W0_at (i := 227) (by decide +kernel) (by decide +kernel)
theorem wc_X2_copyFrom : Cond.code yX2_copyFrom cX2_copyFrom 3 (none) ∈ W0 := W0_at (i := 228) (by decide +kernel) (by decide +kernel)
theorem wf_X1_45 : Cond.fieldLink RX1 45 "IceField$Ice" "cuts" "LIceField$Numbers;" ∈ W0 := W0_at (i := 58) (by decide +kernel) (by decide +kernel)
theorem wf_X1_48 : Cond.fieldLink RX1 48 "IceField$Ice" "kept" "LIceField$Numbers;" ∈ W0 := W0_at (i := 60) (by decide +kernel) (by decide +kernel)
theorem wf_X5_23 : Cond.fieldLink RX5 23 "IceField" "nextSaved" "I" ∈ W0 := W0_at (i := 184) (by decide +kernel) (by decide +kernel)
theorem wl_X5_253 : Cond.methodLink RX5 253 yX5_savedAt ∈ W0 := W0_at (i := 217) (by decide +kernel) (by decide +kernel)
theorem wi_X5_savedAt : Cond.instanceMethod yX5_savedAt ∈ W0 := W0_at (i := 219) (by decide +kernel) (by decide +kernel)
theorem we_X5_savedAt : Cond.selects RX5 yX5_savedAt yX5_savedAt ∈ W0 := W0_se (i := 1) (by decide +kernel) (by decide +kernel)
theorem wn_X5 : Cond.initialized RX5 ∈ W0 := W0_at (i := 1) (by decide +kernel) (by decide +kernel)
theorem wc_X5_savedAt : Cond.code yX5_savedAt cX5_savedAt 2 (some (.object "IceField$Ice")) ∈ W0 := W0_at (i := 220) (by decide +kernel) (by decide +kernel)
theorem wf_X5_10 : Cond.fieldLink RX5 10 "IceField" "ice" "LIceField$Ice;" ∈ W0 := W0_at (i := 181) (by decide +kernel) (by decide +kernel)
theorem wl_X5_196 : Cond.methodLink RX5 196 yX1_copyFrom ∈ W0 := W0_at (i := 221) (by decide +kernel) (by decide +kernel)
theorem wi_X1_copyFrom : Cond.instanceMethod yX1_copyFrom ∈ W0 := W0_at (i := 222) (by decide +kernel) (by decide +kernel)
theorem we_X1_copyFrom : Cond.selects RX1 yX1_copyFrom yX1_copyFrom ∈ W0 := W0_at (i := 223) (by decide +kernel) (by decide +kernel)
theorem wn_X1 : Cond.initialized RX1 ∈ W0 := W0_at (i := 2) (by decide +kernel) (by decide +kernel)
theorem wc_X1_copyFrom : Cond.code yX1_copyFrom cX1_copyFrom 2 (none) ∈ W0 := W0_at (i := 224) (by decide +kernel) (by decide +kernel)
theorem wf_X5_27 : Cond.fieldLink RX5 27 "IceField" "savedCount" "I" ∈ W0 := W0_at (i := 185) (by decide +kernel) (by decide +kernel)
theorem wl_X1_58 : Cond.methodLink RX1 58 yX2_fill ∈ W0 := W0_at (i := 157) (by decide +kernel) (by decide +kernel)
theorem wi_X2_fill : Cond.instanceMethod yX2_fill ∈ W0 := W0_at (i := 158) (by decide +kernel) (by decide +kernel)
theorem we_X2_fill : Cond.selects RX2 yX2_fill yX2_fill ∈ W0 := W0_at (i := 159) (by decide +kernel) (by decide +kernel)
theorem wc_X2_fill : Cond.code yX2_fill cX2_fill 3 (none) ∈ W0 := W0_at (i := 160) (by decide +kernel) (by decide +kernel)
theorem wl_X1_61 : Cond.methodLink RX1 61 yX2_at ∈ W0 := W0_at (i := 173) (by decide +kernel) (by decide +kernel)
theorem wl_X1_65 : Cond.methodLink RX1 65 yX2_put ∈ W0 := W0_at (i := 177) (by decide +kernel) (by decide +kernel)
theorem wi_X2_put : Cond.instanceMethod yX2_put ∈ W0 := W0_at (i := 178) (by decide +kernel) (by decide +kernel)
theorem we_X2_put : Cond.selects RX2 yX2_put yX2_put ∈ W0 := W0_at (i := 179) (by decide +kernel) (by decide +kernel)
theorem wc_X2_put : Cond.code yX2_put cX2_put 3 (none) ∈ W0 := W0_at (i := 180) (by decide +kernel) (by decide +kernel)
theorem wl_X1_69 : Cond.methodLink RX1 69 yX1_cellCount ∈ W0 := W0_at (i := 165) (by decide +kernel) (by decide +kernel)
theorem wi_X1_cellCount : Cond.instanceMethod yX1_cellCount ∈ W0 := W0_at (i := 166) (by decide +kernel) (by decide +kernel)
theorem we_X1_cellCount : Cond.selects RX1 yX1_cellCount yX1_cellCount ∈ W0 := W0_at (i := 167) (by decide +kernel) (by decide +kernel)
theorem wc_X1_cellCount : Cond.code yX1_cellCount cX1_cellCount 1 (some .int) ∈ W0 := W0_at (i := 168) (by decide +kernel) (by decide +kernel)
theorem wl_X1_73 : Cond.methodLink RX1 73 yX1_add ∈ W0 := W0_at (i := 169) (by decide +kernel) (by decide +kernel)
theorem wi_X1_add : Cond.instanceMethod yX1_add ∈ W0 := W0_at (i := 170) (by decide +kernel) (by decide +kernel)
theorem we_X1_add : Cond.selects RX1 yX1_add yX1_add ∈ W0 := W0_at (i := 171) (by decide +kernel) (by decide +kernel)
theorem wc_X1_add : Cond.code yX1_add cX1_add 3 (none) ∈ W0 := W0_at (i := 172) (by decide +kernel) (by decide +kernel)
theorem wl_X5_70 : Cond.methodLink RX5 70 yX5_isOutside ∈ W0 := W0_at (i := 339) (by decide +kernel) (by decide +kernel)
theorem wt_X5_isOutside : Cond.static yX5_isOutside ∈ W0 := W0_at (i := 340) (by decide +kernel) (by decide +kernel)
theorem wc_X5_isOutside : Cond.code yX5_isOutside cX5_isOutside 3 (some .boolean) ∈ W0 := W0_at (i := 341) (by decide +kernel) (by decide +kernel)
theorem wl_X5_81 : Cond.methodLink RX5 81 yX5_saveState ∈ W0 := W0_at (i := 213) (by decide +kernel) (by decide +kernel)
theorem wi_X5_saveState : Cond.instanceMethod yX5_saveState ∈ W0 := W0_at (i := 215) (by decide +kernel) (by decide +kernel)
theorem we_X5_saveState : Cond.selects RX5 yX5_saveState yX5_saveState ∈ W0 := W0_se (i := 0) (by decide +kernel) (by decide +kernel)
theorem wc_X5_saveState : Cond.code yX5_saveState cX5_saveState 2 (none) ∈ W0 := W0_at (i := 216) (by decide +kernel) (by decide +kernel)
theorem wl_X5_63 : Cond.methodLink RX5 63 yX1_beginAnew ∈ W0 := W0_at (i := 153) (by decide +kernel) (by decide +kernel)
theorem wi_X1_beginAnew : Cond.instanceMethod yX1_beginAnew ∈ W0 := W0_at (i := 154) (by decide +kernel) (by decide +kernel)
theorem we_X1_beginAnew : Cond.selects RX1 yX1_beginAnew yX1_beginAnew ∈ W0 := W0_at (i := 155) (by decide +kernel) (by decide +kernel)
theorem wc_X1_beginAnew : Cond.code yX1_beginAnew cX1_beginAnew 3 (none) ∈ W0 := W0_at (i := 156) (by decide +kernel) (by decide +kernel)
theorem wl_X5_67 : Cond.methodLink RX5 67 yX1_addEverywhere ∈ W0 := W0_at (i := 161) (by decide +kernel) (by decide +kernel)
theorem wi_X1_addEverywhere : Cond.instanceMethod yX1_addEverywhere ∈ W0 := W0_at (i := 162) (by decide +kernel) (by decide +kernel)
theorem we_X1_addEverywhere : Cond.selects RX1 yX1_addEverywhere yX1_addEverywhere ∈ W0 := W0_at (i := 163) (by decide +kernel) (by decide +kernel)
theorem wc_X1_addEverywhere : Cond.code yX1_addEverywhere cX1_addEverywhere 3 (none) ∈ W0 := W0_at (i := 164) (by decide +kernel) (by decide +kernel)
theorem wf_X5_84 : Cond.fieldLink RX5 84 "IceField$Ice" "laid" "I" ∈ W0 := W0_at (i := 49) (by decide +kernel) (by decide +kernel)
theorem wl_X5_212 : Cond.methodLink RX5 212 yX1_cellCount ∈ W0 := W0_at (i := 275) (by decide +kernel) (by decide +kernel)
theorem wl_X5_87 : Cond.methodLink RX5 87 yX5_checkCell ∈ W0 := W0_at (i := 492) (by decide +kernel) (by decide +kernel)
theorem wi_X5_checkCell : Cond.instanceMethod yX5_checkCell ∈ W0 := W0_at (i := 494) (by decide +kernel) (by decide +kernel)
theorem we_X5_checkCell : Cond.selects RX5 yX5_checkCell yX5_checkCell ∈ W0 := W0_se (i := 16) (by decide +kernel) (by decide +kernel)
theorem wc_X5_checkCell : Cond.code yX5_checkCell cX5_checkCell 2 (none) ∈ W0 := W0_at (i := 495) (by decide +kernel) (by decide +kernel)
theorem wf_X5_92 : Cond.fieldLink RX5 92 "IceField$Ice" "thickness" "LIceField$Numbers;" ∈ W0 := W0_at (i := 57) (by decide +kernel) (by decide +kernel)
theorem wl_X5_95 : Cond.methodLink RX5 95 yX2_at ∈ W0 := W0_at (i := 445) (by decide +kernel) (by decide +kernel)
theorem wl_X5_104 : Cond.methodLink RX5 104 yX1_add ∈ W0 := W0_at (i := 564) (by decide +kernel) (by decide +kernel)
theorem wl_X1_80 : Cond.methodLink RX1 80 yX1_columnOf ∈ W0 := W0_at (i := 266) (by decide +kernel) (by decide +kernel)
theorem wi_X1_columnOf : Cond.instanceMethod yX1_columnOf ∈ W0 := W0_at (i := 267) (by decide +kernel) (by decide +kernel)
theorem we_X1_columnOf : Cond.selects RX1 yX1_columnOf yX1_columnOf ∈ W0 := W0_at (i := 268) (by decide +kernel) (by decide +kernel)
theorem wc_X1_columnOf : Cond.code yX1_columnOf cX1_columnOf 2 (some .int) ∈ W0 := W0_at (i := 269) (by decide +kernel) (by decide +kernel)
theorem wl_X1_83 : Cond.methodLink RX1 83 yX1_beside ∈ W0 := W0_at (i := 517) (by decide +kernel) (by decide +kernel)
theorem wi_X1_beside : Cond.instanceMethod yX1_beside ∈ W0 := W0_at (i := 263) (by decide +kernel) (by decide +kernel)
theorem we_X1_beside : Cond.selects RX1 yX1_beside yX1_beside ∈ W0 := W0_at (i := 264) (by decide +kernel) (by decide +kernel)
theorem wc_X1_beside : Cond.code yX1_beside cX1_beside 3 (some .int) ∈ W0 := W0_at (i := 265) (by decide +kernel) (by decide +kernel)
theorem wl_X1_87 : Cond.methodLink RX1 87 yX1_cutPlace ∈ W0 := W0_at (i := 258) (by decide +kernel) (by decide +kernel)
theorem wi_X1_cutPlace : Cond.instanceMethod yX1_cutPlace ∈ W0 := W0_at (i := 260) (by decide +kernel) (by decide +kernel)
theorem we_X1_cutPlace : Cond.selects RX1 yX1_cutPlace yX1_cutPlace ∈ W0 := W0_se (i := 4) (by decide +kernel) (by decide +kernel)
theorem wc_X1_cutPlace : Cond.code yX1_cutPlace cX1_cutPlace 3 (some .int) ∈ W0 := W0_at (i := 261) (by decide +kernel) (by decide +kernel)
theorem wl_X1_90 : Cond.methodLink RX1 90 yX1_canCut ∈ W0 := W0_at (i := 523) (by decide +kernel) (by decide +kernel)
theorem wi_X1_canCut : Cond.instanceMethod yX1_canCut ∈ W0 := W0_at (i := 514) (by decide +kernel) (by decide +kernel)
theorem we_X1_canCut : Cond.selects RX1 yX1_canCut yX1_canCut ∈ W0 := W0_at (i := 515) (by decide +kernel) (by decide +kernel)
theorem wc_X1_canCut : Cond.code yX1_canCut cX1_canCut 3 (some .boolean) ∈ W0 := W0_at (i := 516) (by decide +kernel) (by decide +kernel)
theorem wl_X1_94 : Cond.methodLink RX1 94 yX1_cutAt ∈ W0 := W0_at (i := 254) (by decide +kernel) (by decide +kernel)
theorem wi_X1_cutAt : Cond.instanceMethod yX1_cutAt ∈ W0 := W0_at (i := 255) (by decide +kernel) (by decide +kernel)
theorem we_X1_cutAt : Cond.selects RX1 yX1_cutAt yX1_cutAt ∈ W0 := W0_at (i := 256) (by decide +kernel) (by decide +kernel)
theorem wc_X1_cutAt : Cond.code yX1_cutAt cX1_cutAt 3 (some .int) ∈ W0 := W0_at (i := 257) (by decide +kernel) (by decide +kernel)
theorem wl_X5_109 : Cond.methodLink RX5 109 yX1_canCut ∈ W0 := W0_at (i := 513) (by decide +kernel) (by decide +kernel)
theorem wl_X5_115 : Cond.methodLink RX5 115 yX1_cutSide ∈ W0 := W0_at (i := 519) (by decide +kernel) (by decide +kernel)
theorem wi_X1_cutSide : Cond.instanceMethod yX1_cutSide ∈ W0 := W0_at (i := 520) (by decide +kernel) (by decide +kernel)
theorem we_X1_cutSide : Cond.selects RX1 yX1_cutSide yX1_cutSide ∈ W0 := W0_at (i := 521) (by decide +kernel) (by decide +kernel)
theorem wc_X1_cutSide : Cond.code yX1_cutSide cX1_cutSide 3 (some .int) ∈ W0 := W0_at (i := 522) (by decide +kernel) (by decide +kernel)
theorem wl_X5_245 : Cond.methodLink RX5 245 yX1_columnOf ∈ W0 := W0_at (i := 532) (by decide +kernel) (by decide +kernel)
theorem wf_X5_263 : Cond.fieldLink RX5 263 "IceField$Ice" "width" "I" ∈ W0 := W0_at (i := 40) (by decide +kernel) (by decide +kernel)
theorem wl_X5_242 : Cond.methodLink RX5 242 yX1_rowOf ∈ W0 := W0_at (i := 533) (by decide +kernel) (by decide +kernel)
theorem wi_X1_rowOf : Cond.instanceMethod yX1_rowOf ∈ W0 := W0_at (i := 313) (by decide +kernel) (by decide +kernel)
theorem we_X1_rowOf : Cond.selects RX1 yX1_rowOf yX1_rowOf ∈ W0 := W0_at (i := 314) (by decide +kernel) (by decide +kernel)
theorem wc_X1_rowOf : Cond.code yX1_rowOf cX1_rowOf 2 (some .int) ∈ W0 := W0_at (i := 315) (by decide +kernel) (by decide +kernel)
theorem wf_X5_264 : Cond.fieldLink RX5 264 "IceField$Ice" "height" "I" ∈ W0 := W0_at (i := 43) (by decide +kernel) (by decide +kernel)
theorem wl_X1_97 : Cond.methodLink RX1 97 yX1_cutSide ∈ W0 := W0_at (i := 539) (by decide +kernel) (by decide +kernel)
theorem wl_X5_119 : Cond.methodLink RX5 119 yX5_checkRectangle ∈ W0 := W0_at (i := 528) (by decide +kernel) (by decide +kernel)
theorem wi_X5_checkRectangle : Cond.instanceMethod yX5_checkRectangle ∈ W0 := W0_at (i := 530) (by decide +kernel) (by decide +kernel)
theorem we_X5_checkRectangle : Cond.selects RX5 yX5_checkRectangle yX5_checkRectangle ∈ W0 := W0_se (i := 17) (by decide +kernel) (by decide +kernel)
theorem wc_X5_checkRectangle : Cond.code yX5_checkRectangle cX5_checkRectangle 4 (none) ∈ W0 := W0_at (i := 531) (by decide +kernel) (by decide +kernel)
theorem wl_X5_123 : Cond.methodLink RX5 123 yX1_cutRectangle ∈ W0 := W0_at (i := 535) (by decide +kernel) (by decide +kernel)
theorem wi_X1_cutRectangle : Cond.instanceMethod yX1_cutRectangle ∈ W0 := W0_at (i := 536) (by decide +kernel) (by decide +kernel)
theorem we_X1_cutRectangle : Cond.selects RX1 yX1_cutRectangle yX1_cutRectangle ∈ W0 := W0_at (i := 537) (by decide +kernel) (by decide +kernel)
theorem wc_X1_cutRectangle : Cond.code yX1_cutRectangle cX1_cutRectangle 6 (some .int) ∈ W0 := W0_at (i := 538) (by decide +kernel) (by decide +kernel)
theorem wf_X0_14 : Cond.fieldLink RX0 14 "IceField$Blocks" "numbers" "LIceField$Numbers;" ∈ W0 := W0_at (i := 117) (by decide +kernel) (by decide +kernel)
theorem wl_X0_47 : Cond.methodLink RX0 47 yX2_put ∈ W0 := W0_at (i := 249) (by decide +kernel) (by decide +kernel)
theorem wf_X0_23 : Cond.fieldLink RX0 23 "IceField$Blocks" "queue" "LIceField$Numbers;" ∈ W0 := W0_at (i := 119) (by decide +kernel) (by decide +kernel)
theorem wl_X0_39 : Cond.methodLink RX0 39 yX2_at ∈ W0 := W0_at (i := 244) (by decide +kernel) (by decide +kernel)
theorem wl_X0_51 : Cond.methodLink RX0 51 yX1_isTiedToShore ∈ W0 := W0_at (i := 250) (by decide +kernel) (by decide +kernel)
theorem wi_X1_isTiedToShore : Cond.instanceMethod yX1_isTiedToShore ∈ W0 := W0_at (i := 251) (by decide +kernel) (by decide +kernel)
theorem we_X1_isTiedToShore : Cond.selects RX1 yX1_isTiedToShore yX1_isTiedToShore ∈ W0 := W0_at (i := 252) (by decide +kernel) (by decide +kernel)
theorem wc_X1_isTiedToShore : Cond.code yX1_isTiedToShore cX1_isTiedToShore 2 (some .boolean) ∈ W0 := W0_at (i := 253) (by decide +kernel) (by decide +kernel)
theorem wf_X0_20 : Cond.fieldLink RX0 20 "IceField$Blocks" "held" "LIceField$Numbers;" ∈ W0 := W0_at (i := 118) (by decide +kernel) (by decide +kernel)
theorem wl_X0_54 : Cond.methodLink RX0 54 yX1_beside ∈ W0 := W0_at (i := 262) (by decide +kernel) (by decide +kernel)
theorem wl_X0_35 : Cond.methodLink RX0 35 yX1_isIce ∈ W0 := W0_at (i := 240) (by decide +kernel) (by decide +kernel)
theorem wi_X1_isIce : Cond.instanceMethod yX1_isIce ∈ W0 := W0_at (i := 241) (by decide +kernel) (by decide +kernel)
theorem we_X1_isIce : Cond.selects RX1 yX1_isIce yX1_isIce ∈ W0 := W0_at (i := 242) (by decide +kernel) (by decide +kernel)
theorem wc_X1_isIce : Cond.code yX1_isIce cX1_isIce 2 (some .boolean) ∈ W0 := W0_at (i := 243) (by decide +kernel) (by decide +kernel)
theorem wl_X0_58 : Cond.methodLink RX0 58 yX1_cutAt ∈ W0 := W0_at (i := 270) (by decide +kernel) (by decide +kernel)
theorem wl_X0_26 : Cond.methodLink RX0 26 yX2_fill ∈ W0 := W0_at (i := 238) (by decide +kernel) (by decide +kernel)
theorem wl_X0_29 : Cond.methodLink RX0 29 yX1_cellCount ∈ W0 := W0_at (i := 239) (by decide +kernel) (by decide +kernel)
theorem wl_X0_43 : Cond.methodLink RX0 43 yX0_spread ∈ W0 := W0_at (i := 245) (by decide +kernel) (by decide +kernel)
theorem wi_X0_spread : Cond.instanceMethod yX0_spread ∈ W0 := W0_at (i := 247) (by decide +kernel) (by decide +kernel)
theorem we_X0_spread : Cond.selects RX0 yX0_spread yX0_spread ∈ W0 := W0_se (i := 3) (by decide +kernel) (by decide +kernel)
theorem wn_X0 : Cond.initialized RX0 ∈ W0 := W0_at (i := 5) (by decide +kernel) (by decide +kernel)
theorem wc_X0_spread : Cond.code yX0_spread cX0_spread 8 (none) ∈ W0 := W0_at (i := 248) (by decide +kernel) (by decide +kernel)
theorem wl_X0_61 : Cond.methodLink RX0 61 yX0_isBlock ∈ W0 := W0_at (i := 280) (by decide +kernel) (by decide +kernel)
theorem wi_X0_isBlock : Cond.instanceMethod yX0_isBlock ∈ W0 := W0_at (i := 282) (by decide +kernel) (by decide +kernel)
theorem we_X0_isBlock : Cond.selects RX0 yX0_isBlock yX0_isBlock ∈ W0 := W0_se (i := 6) (by decide +kernel) (by decide +kernel)
theorem wc_X0_isBlock : Cond.code yX0_isBlock cX0_isBlock 2 (some .boolean) ∈ W0 := W0_at (i := 283) (by decide +kernel) (by decide +kernel)
theorem wf_X4_23 : Cond.fieldLink RX4 23 "IceField$Way" "size" "I" ∈ W0 := W0_at (i := 137) (by decide +kernel) (by decide +kernel)
theorem wl_X4_69 : Cond.methodLink RX4 69 yX0_numberAt ∈ W0 := W0_at (i := 292) (by decide +kernel) (by decide +kernel)
theorem wi_X0_numberAt : Cond.instanceMethod yX0_numberAt ∈ W0 := W0_at (i := 293) (by decide +kernel) (by decide +kernel)
theorem we_X0_numberAt : Cond.selects RX0 yX0_numberAt yX0_numberAt ∈ W0 := W0_at (i := 294) (by decide +kernel) (by decide +kernel)
theorem wc_X0_numberAt : Cond.code yX0_numberAt cX0_numberAt 2 (some .int) ∈ W0 := W0_at (i := 295) (by decide +kernel) (by decide +kernel)
theorem wf_X4_20 : Cond.fieldLink RX4 20 "IceField$Way" "cells" "LIceField$Numbers;" ∈ W0 := W0_at (i := 136) (by decide +kernel) (by decide +kernel)
theorem wl_X4_40 : Cond.methodLink RX4 40 yX2_put ∈ W0 := W0_at (i := 296) (by decide +kernel) (by decide +kernel)
theorem wl_X4_60 : Cond.methodLink RX4 60 yX4_downAt ∈ W0 := W0_at (i := 306) (by decide +kernel) (by decide +kernel)
theorem wt_X4_downAt : Cond.static yX4_downAt ∈ W0 := W0_at (i := 307) (by decide +kernel) (by decide +kernel)
theorem wn_X4 : Cond.initialized RX4 ∈ W0 := W0_at (i := 6) (by decide +kernel) (by decide +kernel)
theorem wc_X4_downAt : Cond.code yX4_downAt cX4_downAt 1 (some .int) ∈ W0 := W0_at (i := 308) (by decide +kernel) (by decide +kernel)
theorem wl_X4_74 : Cond.methodLink RX4 74 yX4_rightAt ∈ W0 := W0_at (i := 309) (by decide +kernel) (by decide +kernel)
theorem wt_X4_rightAt : Cond.static yX4_rightAt ∈ W0 := W0_at (i := 310) (by decide +kernel) (by decide +kernel)
theorem wc_X4_rightAt : Cond.code yX4_rightAt cX4_rightAt 1 (some .int) ∈ W0 := W0_at (i := 311) (by decide +kernel) (by decide +kernel)
theorem wl_X4_44 : Cond.methodLink RX4 44 yX2_at ∈ W0 := W0_at (i := 298) (by decide +kernel) (by decide +kernel)
theorem wl_X4_55 : Cond.methodLink RX4 55 yX1_rowOf ∈ W0 := W0_at (i := 312) (by decide +kernel) (by decide +kernel)
theorem wl_X4_77 : Cond.methodLink RX4 77 yX1_columnOf ∈ W0 := W0_at (i := 316) (by decide +kernel) (by decide +kernel)
theorem wf_X4_80 : Cond.fieldLink RX4 80 "IceField$Ice" "width" "I" ∈ W0 := W0_at (i := 39) (by decide +kernel) (by decide +kernel)
theorem wf_X4_63 : Cond.fieldLink RX4 63 "IceField$Ice" "height" "I" ∈ W0 := W0_at (i := 42) (by decide +kernel) (by decide +kernel)
theorem wl_X4_83 : Cond.methodLink RX4 83 yX1_isIce ∈ W0 := W0_at (i := 317) (by decide +kernel) (by decide +kernel)
theorem wf_X4_27 : Cond.fieldLink RX4 27 "IceField$Way" "reachedBy" "LIceField$Numbers;" ∈ W0 := W0_at (i := 138) (by decide +kernel) (by decide +kernel)
theorem wl_X4_48 : Cond.methodLink RX4 48 yX4_stepOf ∈ W0 := W0_at (i := 299) (by decide +kernel) (by decide +kernel)
theorem wt_X4_stepOf : Cond.static yX4_stepOf ∈ W0 := W0_at (i := 300) (by decide +kernel) (by decide +kernel)
theorem wc_X4_stepOf : Cond.code yX4_stepOf cX4_stepOf 1 (some .int) ∈ W0 := W0_at (i := 301) (by decide +kernel) (by decide +kernel)
theorem wf_X4_16 : Cond.fieldLink RX4 16 "IceField$Way" "moves" "LIceField$Numbers;" ∈ W0 := W0_at (i := 135) (by decide +kernel) (by decide +kernel)
theorem wl_X4_33 : Cond.methodLink RX4 33 yX4_gatherCells ∈ W0 := W0_at (i := 288) (by decide +kernel) (by decide +kernel)
theorem wi_X4_gatherCells : Cond.instanceMethod yX4_gatherCells ∈ W0 := W0_at (i := 290) (by decide +kernel) (by decide +kernel)
theorem we_X4_gatherCells : Cond.selects RX4 yX4_gatherCells yX4_gatherCells ∈ W0 := W0_se (i := 7) (by decide +kernel) (by decide +kernel)
theorem wc_X4_gatherCells : Cond.code yX4_gatherCells cX4_gatherCells 4 (none) ∈ W0 := W0_at (i := 291) (by decide +kernel) (by decide +kernel)
theorem wl_X4_37 : Cond.methodLink RX4 37 yX2_fill ∈ W0 := W0_at (i := 297) (by decide +kernel) (by decide +kernel)
theorem wf_X4_30 : Cond.fieldLink RX4 30 "IceField$Way" "queue" "LIceField$Numbers;" ∈ W0 := W0_at (i := 139) (by decide +kernel) (by decide +kernel)
theorem wl_X4_51 : Cond.methodLink RX4 51 yX4_canLie ∈ W0 := W0_at (i := 302) (by decide +kernel) (by decide +kernel)
theorem wi_X4_canLie : Cond.instanceMethod yX4_canLie ∈ W0 := W0_at (i := 304) (by decide +kernel) (by decide +kernel)
theorem we_X4_canLie : Cond.selects RX4 yX4_canLie yX4_canLie ∈ W0 := W0_se (i := 8) (by decide +kernel) (by decide +kernel)
theorem wc_X4_canLie : Cond.code yX4_canLie cX4_canLie 11 (some .boolean) ∈ W0 := W0_at (i := 305) (by decide +kernel) (by decide +kernel)
theorem wl_X4_66 : Cond.methodLink RX4 66 yX4_traceBack ∈ W0 := W0_at (i := 318) (by decide +kernel) (by decide +kernel)
theorem wi_X4_traceBack : Cond.instanceMethod yX4_traceBack ∈ W0 := W0_at (i := 320) (by decide +kernel) (by decide +kernel)
theorem we_X4_traceBack : Cond.selects RX4 yX4_traceBack yX4_traceBack ∈ W0 := W0_se (i := 9) (by decide +kernel) (by decide +kernel)
theorem wc_X4_traceBack : Cond.code yX4_traceBack cX4_traceBack 5 (some .int) ∈ W0 := W0_at (i := 321) (by decide +kernel) (by decide +kernel)
theorem wl_X1_106 : Cond.methodLink RX1 106 yX0_numberAt ∈ W0 := W0_at (i := 330) (by decide +kernel) (by decide +kernel)
theorem wl_X1_111 : Cond.methodLink RX1 111 yX1_volumeOf ∈ W0 := W0_at (i := 326) (by decide +kernel) (by decide +kernel)
theorem wi_X1_volumeOf : Cond.instanceMethod yX1_volumeOf ∈ W0 := W0_at (i := 327) (by decide +kernel) (by decide +kernel)
theorem we_X1_volumeOf : Cond.selects RX1 yX1_volumeOf yX1_volumeOf ∈ W0 := W0_at (i := 328) (by decide +kernel) (by decide +kernel)
theorem wc_X1_volumeOf : Cond.code yX1_volumeOf cX1_volumeOf 5 (some .int) ∈ W0 := W0_at (i := 329) (by decide +kernel) (by decide +kernel)
theorem wf_X5_40 : Cond.fieldLink RX5 40 "IceField" "blocks" "LIceField$Blocks;" ∈ W0 := W0_at (i := 187) (by decide +kernel) (by decide +kernel)
theorem wl_X5_127 : Cond.methodLink RX5 127 yX0_find ∈ W0 := W0_at (i := 234) (by decide +kernel) (by decide +kernel)
theorem wi_X0_find : Cond.instanceMethod yX0_find ∈ W0 := W0_at (i := 235) (by decide +kernel) (by decide +kernel)
theorem we_X0_find : Cond.selects RX0 yX0_find yX0_find ∈ W0 := W0_at (i := 236) (by decide +kernel) (by decide +kernel)
theorem wc_X0_find : Cond.code yX0_find cX0_find 3 (none) ∈ W0 := W0_at (i := 237) (by decide +kernel) (by decide +kernel)
theorem wl_X5_131 : Cond.methodLink RX5 131 yX0_numberAt ∈ W0 := W0_at (i := 552) (by decide +kernel) (by decide +kernel)
theorem wl_X5_134 : Cond.methodLink RX5 134 yX0_isLoose ∈ W0 := W0_at (i := 276) (by decide +kernel) (by decide +kernel)
theorem wi_X0_isLoose : Cond.instanceMethod yX0_isLoose ∈ W0 := W0_at (i := 277) (by decide +kernel) (by decide +kernel)
theorem we_X0_isLoose : Cond.selects RX0 yX0_isLoose yX0_isLoose ∈ W0 := W0_at (i := 278) (by decide +kernel) (by decide +kernel)
theorem wc_X0_isLoose : Cond.code yX0_isLoose cX0_isLoose 2 (some .boolean) ∈ W0 := W0_at (i := 279) (by decide +kernel) (by decide +kernel)
theorem wf_X5_47 : Cond.fieldLink RX5 47 "IceField" "way" "LIceField$Way;" ∈ W0 := W0_at (i := 188) (by decide +kernel) (by decide +kernel)
theorem wl_X5_138 : Cond.methodLink RX5 138 yX4_search ∈ W0 := W0_at (i := 284) (by decide +kernel) (by decide +kernel)
theorem wi_X4_search : Cond.instanceMethod yX4_search ∈ W0 := W0_at (i := 285) (by decide +kernel) (by decide +kernel)
theorem we_X4_search : Cond.selects RX4 yX4_search yX4_search ∈ W0 := W0_at (i := 286) (by decide +kernel) (by decide +kernel)
theorem wc_X4_search : Cond.code yX4_search cX4_search 8 (some .int) ∈ W0 := W0_at (i := 287) (by decide +kernel) (by decide +kernel)
theorem wl_X5_144 : Cond.methodLink RX5 144 yX1_removeBlock ∈ W0 := W0_at (i := 322) (by decide +kernel) (by decide +kernel)
theorem wi_X1_removeBlock : Cond.instanceMethod yX1_removeBlock ∈ W0 := W0_at (i := 323) (by decide +kernel) (by decide +kernel)
theorem we_X1_removeBlock : Cond.selects RX1 yX1_removeBlock yX1_removeBlock ∈ W0 := W0_at (i := 324) (by decide +kernel) (by decide +kernel)
theorem wc_X1_removeBlock : Cond.code yX1_removeBlock cX1_removeBlock 5 (some .int) ∈ W0 := W0_at (i := 325) (by decide +kernel) (by decide +kernel)
theorem wl_X5_303 : Cond.methodLink RX5 303 yX5_lowestFloating ∈ W0 := W0_at (i := 271) (by decide +kernel) (by decide +kernel)
theorem wi_X5_lowestFloating : Cond.instanceMethod yX5_lowestFloating ∈ W0 := W0_at (i := 273) (by decide +kernel) (by decide +kernel)
theorem we_X5_lowestFloating : Cond.selects RX5 yX5_lowestFloating yX5_lowestFloating ∈ W0 := W0_se (i := 5) (by decide +kernel) (by decide +kernel)
theorem wc_X5_lowestFloating : Cond.code yX5_lowestFloating cX5_lowestFloating 3 (some .int) ∈ W0 := W0_at (i := 274) (by decide +kernel) (by decide +kernel)
theorem wl_X5_306 : Cond.methodLink RX5 306 yX0_forget ∈ W0 := W0_at (i := 331) (by decide +kernel) (by decide +kernel)
theorem wi_X0_forget : Cond.instanceMethod yX0_forget ∈ W0 := W0_at (i := 332) (by decide +kernel) (by decide +kernel)
theorem we_X0_forget : Cond.selects RX0 yX0_forget yX0_forget ∈ W0 := W0_at (i := 333) (by decide +kernel) (by decide +kernel)
theorem wc_X0_forget : Cond.code yX0_forget cX0_forget 3 (none) ∈ W0 := W0_at (i := 334) (by decide +kernel) (by decide +kernel)
theorem wl_X5_148 : Cond.methodLink RX5 148 yX5_removeFloating ∈ W0 := W0_at (i := 230) (by decide +kernel) (by decide +kernel)
theorem wi_X5_removeFloating : Cond.instanceMethod yX5_removeFloating ∈ W0 := W0_at (i := 232) (by decide +kernel) (by decide +kernel)
theorem we_X5_removeFloating : Cond.selects RX5 yX5_removeFloating yX5_removeFloating ∈ W0 := W0_se (i := 2) (by decide +kernel) (by decide +kernel)
theorem wc_X5_removeFloating : Cond.code yX5_removeFloating cX5_removeFloating 4 (some .int) ∈ W0 := W0_at (i := 233) (by decide +kernel) (by decide +kernel)
theorem wf_X5_60 : Cond.fieldLink RX5 60 "IceField$Ice" "melt" "I" ∈ W0 := W0_at (i := 45) (by decide +kernel) (by decide +kernel)
theorem wl_X1_76 : Cond.methodLink RX1 76 yX1_isIce ∈ W0 := W0_at (i := 427) (by decide +kernel) (by decide +kernel)
theorem wl_X1_100 : Cond.methodLink RX1 100 yX1_waterBeside ∈ W0 := W0_at (i := 583) (by decide +kernel) (by decide +kernel)
theorem wi_X1_waterBeside : Cond.instanceMethod yX1_waterBeside ∈ W0 := W0_at (i := 554) (by decide +kernel) (by decide +kernel)
theorem we_X1_waterBeside : Cond.selects RX1 yX1_waterBeside yX1_waterBeside ∈ W0 := W0_at (i := 555) (by decide +kernel) (by decide +kernel)
theorem wc_X1_waterBeside : Cond.code yX1_waterBeside cX1_waterBeside 5 (some .int) ∈ W0 := W0_at (i := 556) (by decide +kernel) (by decide +kernel)
theorem wf_X1_51 : Cond.fieldLink RX1 51 "IceField$Ice" "losses" "LIceField$Numbers;" ∈ W0 := W0_at (i := 61) (by decide +kernel) (by decide +kernel)
theorem wl_X1_103 : Cond.methodLink RX1 103 yX1_lossOf ∈ W0 := W0_at (i := 579) (by decide +kernel) (by decide +kernel)
theorem wi_X1_lossOf : Cond.instanceMethod yX1_lossOf ∈ W0 := W0_at (i := 581) (by decide +kernel) (by decide +kernel)
theorem we_X1_lossOf : Cond.selects RX1 yX1_lossOf yX1_lossOf ∈ W0 := W0_se (i := 19) (by decide +kernel) (by decide +kernel)
theorem wc_X1_lossOf : Cond.code yX1_lossOf cX1_lossOf 4 (some .int) ∈ W0 := W0_at (i := 582) (by decide +kernel) (by decide +kernel)
theorem wf_X5_156 : Cond.fieldLink RX5 156 "IceField$Ice" "melted" "I" ∈ W0 := W0_at (i := 51) (by decide +kernel) (by decide +kernel)
theorem wl_X5_159 : Cond.methodLink RX5 159 yX1_meltOneDay ∈ W0 := W0_at (i := 575) (by decide +kernel) (by decide +kernel)
theorem wi_X1_meltOneDay : Cond.instanceMethod yX1_meltOneDay ∈ W0 := W0_at (i := 576) (by decide +kernel) (by decide +kernel)
theorem we_X1_meltOneDay : Cond.selects RX1 yX1_meltOneDay yX1_meltOneDay ∈ W0 := W0_at (i := 577) (by decide +kernel) (by decide +kernel)
theorem wc_X1_meltOneDay : Cond.code yX1_meltOneDay cX1_meltOneDay 2 (none) ∈ W0 := W0_at (i := 578) (by decide +kernel) (by decide +kernel)
theorem wl_X5_285 : Cond.methodLink RX5 285 yX1_waterBeside ∈ W0 := W0_at (i := 553) (by decide +kernel) (by decide +kernel)
theorem wl_X5_288 : Cond.methodLink RX5 288 yX1_cutAt ∈ W0 := W0_at (i := 557) (by decide +kernel) (by decide +kernel)
theorem wl_X5_164 : Cond.methodLink RX5 164 yX5_cellFact ∈ W0 := W0_at (i := 548) (by decide +kernel) (by decide +kernel)
theorem wi_X5_cellFact : Cond.instanceMethod yX5_cellFact ∈ W0 := W0_at (i := 550) (by decide +kernel) (by decide +kernel)
theorem we_X5_cellFact : Cond.selects RX5 yX5_cellFact yX5_cellFact ∈ W0 := W0_se (i := 18) (by decide +kernel) (by decide +kernel)
theorem wc_X5_cellFact : Cond.code yX5_cellFact cX5_cellFact 3 (some .int) ∈ W0 := W0_at (i := 551) (by decide +kernel) (by decide +kernel)
theorem wf_X5_56 : Cond.fieldLink RX5 56 "IceField" "wayLengths" "LIceField$Numbers;" ∈ W0 := W0_at (i := 189) (by decide +kernel) (by decide +kernel)
theorem wl_X5_300 : Cond.methodLink RX5 300 yX2_put ∈ W0 := W0_at (i := 418) (by decide +kernel) (by decide +kernel)
theorem wl_X5_291 : Cond.methodLink RX5 291 yX0_sizeOf ∈ W0 := W0_at (i := 597) (by decide +kernel) (by decide +kernel)
theorem wi_X0_sizeOf : Cond.instanceMethod yX0_sizeOf ∈ W0 := W0_at (i := 598) (by decide +kernel) (by decide +kernel)
theorem we_X0_sizeOf : Cond.selects RX0 yX0_sizeOf yX0_sizeOf ∈ W0 := W0_at (i := 599) (by decide +kernel) (by decide +kernel)
theorem wc_X0_sizeOf : Cond.code yX0_sizeOf cX0_sizeOf 4 (some .int) ∈ W0 := W0_at (i := 600) (by decide +kernel) (by decide +kernel)
theorem wl_X5_294 : Cond.methodLink RX5 294 yX1_volumeOf ∈ W0 := W0_at (i := 601) (by decide +kernel) (by decide +kernel)
theorem wl_X5_167 : Cond.methodLink RX5 167 yX5_findWayOf ∈ W0 := W0_at (i := 414) (by decide +kernel) (by decide +kernel)
theorem wi_X5_findWayOf : Cond.instanceMethod yX5_findWayOf ∈ W0 := W0_at (i := 416) (by decide +kernel) (by decide +kernel)
theorem we_X5_findWayOf : Cond.selects RX5 yX5_findWayOf yX5_findWayOf ∈ W0 := W0_se (i := 12) (by decide +kernel) (by decide +kernel)
theorem wc_X5_findWayOf : Cond.code yX5_findWayOf cX5_findWayOf 2 (none) ∈ W0 := W0_at (i := 417) (by decide +kernel) (by decide +kernel)
theorem wl_X5_170 : Cond.methodLink RX5 170 yX5_blockFact ∈ W0 := W0_at (i := 593) (by decide +kernel) (by decide +kernel)
theorem wi_X5_blockFact : Cond.instanceMethod yX5_blockFact ∈ W0 := W0_at (i := 595) (by decide +kernel) (by decide +kernel)
theorem we_X5_blockFact : Cond.selects RX5 yX5_blockFact yX5_blockFact ∈ W0 := W0_se (i := 20) (by decide +kernel) (by decide +kernel)
theorem wc_X5_blockFact : Cond.code yX5_blockFact cX5_blockFact 4 (some .int) ∈ W0 := W0_at (i := 596) (by decide +kernel) (by decide +kernel)
theorem wl_X0_64 : Cond.methodLink RX0 64 yX0_isLoose ∈ W0 := W0_at (i := 436) (by decide +kernel) (by decide +kernel)
theorem wl_X5_297 : Cond.methodLink RX5 297 yX5_isStranded ∈ W0 := W0_at (i := 441) (by decide +kernel) (by decide +kernel)
theorem wi_X5_isStranded : Cond.instanceMethod yX5_isStranded ∈ W0 := W0_at (i := 443) (by decide +kernel) (by decide +kernel)
theorem we_X5_isStranded : Cond.selects RX5 yX5_isStranded yX5_isStranded ∈ W0 := W0_se (i := 15) (by decide +kernel) (by decide +kernel)
theorem wc_X5_isStranded : Cond.code yX5_isStranded cX5_isStranded 2 (some .boolean) ∈ W0 := W0_at (i := 444) (by decide +kernel) (by decide +kernel)
theorem wl_X5_206 : Cond.methodLink RX5 206 yX1_iceCells ∈ W0 := W0_at (i := 423) (by decide +kernel) (by decide +kernel)
theorem wi_X1_iceCells : Cond.instanceMethod yX1_iceCells ∈ W0 := W0_at (i := 424) (by decide +kernel) (by decide +kernel)
theorem we_X1_iceCells : Cond.selects RX1 yX1_iceCells yX1_iceCells ∈ W0 := W0_at (i := 425) (by decide +kernel) (by decide +kernel)
theorem wc_X1_iceCells : Cond.code yX1_iceCells cX1_iceCells 3 (some .int) ∈ W0 := W0_at (i := 426) (by decide +kernel) (by decide +kernel)
theorem wl_X5_267 : Cond.methodLink RX5 267 yX0_countAll ∈ W0 := W0_at (i := 428) (by decide +kernel) (by decide +kernel)
theorem wi_X0_countAll : Cond.instanceMethod yX0_countAll ∈ W0 := W0_at (i := 429) (by decide +kernel) (by decide +kernel)
theorem we_X0_countAll : Cond.selects RX0 yX0_countAll yX0_countAll ∈ W0 := W0_at (i := 430) (by decide +kernel) (by decide +kernel)
theorem wc_X0_countAll : Cond.code yX0_countAll cX0_countAll 3 (some .int) ∈ W0 := W0_at (i := 431) (by decide +kernel) (by decide +kernel)
theorem wl_X5_199 : Cond.methodLink RX5 199 yX0_countLoose ∈ W0 := W0_at (i := 432) (by decide +kernel) (by decide +kernel)
theorem wi_X0_countLoose : Cond.instanceMethod yX0_countLoose ∈ W0 := W0_at (i := 433) (by decide +kernel) (by decide +kernel)
theorem we_X0_countLoose : Cond.selects RX0 yX0_countLoose yX0_countLoose ∈ W0 := W0_at (i := 434) (by decide +kernel) (by decide +kernel)
theorem wc_X0_countLoose : Cond.code yX0_countLoose cX0_countLoose 3 (some .int) ∈ W0 := W0_at (i := 435) (by decide +kernel) (by decide +kernel)
theorem wl_X5_270 : Cond.methodLink RX5 270 yX5_countStranded ∈ W0 := W0_at (i := 437) (by decide +kernel) (by decide +kernel)
theorem wi_X5_countStranded : Cond.instanceMethod yX5_countStranded ∈ W0 := W0_at (i := 439) (by decide +kernel) (by decide +kernel)
theorem we_X5_countStranded : Cond.selects RX5 yX5_countStranded yX5_countStranded ∈ W0 := W0_se (i := 14) (by decide +kernel) (by decide +kernel)
theorem wc_X5_countStranded : Cond.code yX5_countStranded cX5_countStranded 3 (some .int) ∈ W0 := W0_at (i := 440) (by decide +kernel) (by decide +kernel)
theorem wf_X5_273 : Cond.fieldLink RX5 273 "IceField$Ice" "cuts" "LIceField$Numbers;" ∈ W0 := W0_at (i := 59) (by decide +kernel) (by decide +kernel)
theorem wl_X5_276 : Cond.methodLink RX5 276 yX2_sum ∈ W0 := W0_at (i := 446) (by decide +kernel) (by decide +kernel)
theorem wi_X2_sum : Cond.instanceMethod yX2_sum ∈ W0 := W0_at (i := 447) (by decide +kernel) (by decide +kernel)
theorem we_X2_sum : Cond.selects RX2 yX2_sum yX2_sum ∈ W0 := W0_at (i := 448) (by decide +kernel) (by decide +kernel)
theorem wc_X2_sum : Cond.code yX2_sum cX2_sum 3 (some .int) ∈ W0 := W0_at (i := 449) (by decide +kernel) (by decide +kernel)
theorem wf_X5_279 : Cond.fieldLink RX5 279 "IceField$Ice" "days" "I" ∈ W0 := W0_at (i := 47) (by decide +kernel) (by decide +kernel)
theorem wf_X5_221 : Cond.fieldLink RX5 221 "IceField$Ice" "takenVolume" "I" ∈ W0 := W0_at (i := 53) (by decide +kernel) (by decide +kernel)
theorem wf_X5_282 : Cond.fieldLink RX5 282 "IceField$Ice" "takenBlocks" "I" ∈ W0 := W0_at (i := 55) (by decide +kernel) (by decide +kernel)
theorem wl_X5_181 : Cond.methodLink RX5 181 yX5_findBlocksAndWays ∈ W0 := W0_at (i := 410) (by decide +kernel) (by decide +kernel)
theorem wi_X5_findBlocksAndWays : Cond.instanceMethod yX5_findBlocksAndWays ∈ W0 := W0_at (i := 412) (by decide +kernel) (by decide +kernel)
theorem we_X5_findBlocksAndWays : Cond.selects RX5 yX5_findBlocksAndWays yX5_findBlocksAndWays ∈ W0 := W0_se (i := 11) (by decide +kernel) (by decide +kernel)
theorem wc_X5_findBlocksAndWays : Cond.code yX5_findBlocksAndWays cX5_findBlocksAndWays 2 (none) ∈ W0 := W0_at (i := 413) (by decide +kernel) (by decide +kernel)
theorem wl_X5_184 : Cond.methodLink RX5 184 yX5_fieldFact ∈ W0 := W0_at (i := 419) (by decide +kernel) (by decide +kernel)
theorem wi_X5_fieldFact : Cond.instanceMethod yX5_fieldFact ∈ W0 := W0_at (i := 421) (by decide +kernel) (by decide +kernel)
theorem we_X5_fieldFact : Cond.selects RX5 yX5_fieldFact yX5_fieldFact ∈ W0 := W0_se (i := 13) (by decide +kernel) (by decide +kernel)
theorem wc_X5_fieldFact : Cond.code yX5_fieldFact cX5_fieldFact 2 (some .int) ∈ W0 := W0_at (i := 422) (by decide +kernel) (by decide +kernel)
theorem wf_X5_16 : Cond.fieldLink RX5 16 "IceField" "trial" "LIceField$Ice;" ∈ W0 := W0_at (i := 182) (by decide +kernel) (by decide +kernel)
theorem wl_X5_215 : Cond.methodLink RX5 215 yX1_isIce ∈ W0 := W0_at (i := 630) (by decide +kernel) (by decide +kernel)
theorem wl_X5_202 : Cond.methodLink RX5 202 yX5_hasWaterIn ∈ W0 := W0_at (i := 626) (by decide +kernel) (by decide +kernel)
theorem wi_X5_hasWaterIn : Cond.instanceMethod yX5_hasWaterIn ∈ W0 := W0_at (i := 628) (by decide +kernel) (by decide +kernel)
theorem we_X5_hasWaterIn : Cond.selects RX5 yX5_hasWaterIn yX5_hasWaterIn ∈ W0 := W0_se (i := 21) (by decide +kernel) (by decide +kernel)
theorem wc_X5_hasWaterIn : Cond.code yX5_hasWaterIn cX5_hasWaterIn 4 (some .boolean) ∈ W0 := W0_at (i := 629) (by decide +kernel) (by decide +kernel)
theorem wq_L_7 : Cond.constant RL 7 (1116352408) ∈ W0 := W0_at (i := 477) (by decide +kernel) (by decide +kernel)
theorem wq_L_8 : Cond.constant RL 8 (2147483647) ∈ W0 := W0_at (i := 484) (by decide +kernel) (by decide +kernel)
theorem wl_L_9 : Cond.methodLink RL 9 yX5_value ∈ W0 := W0_at (i := 335) (by decide +kernel) (by decide +kernel)
theorem wi_X5_value : Cond.instanceMethod yX5_value ∈ W0 := W0_at (i := 336) (by decide +kernel) (by decide +kernel)
theorem we_X5_value : Cond.selects RX5 yX5_value yX5_value ∈ W0 := W0_at (i := 337) (by decide +kernel) (by decide +kernel)
theorem wc_X5_value : Cond.code yX5_value cX5_value 2 (some .int) ∈ W0 := W0_at (i := 338) (by decide +kernel) (by decide +kernel)
theorem wl_L_15 : Cond.methodLink RL 15 yL_up ∈ W0 := W0_at (i := 481) (by decide +kernel) (by decide +kernel)
theorem wt_L_up : Cond.static yL_up ∈ W0 := W0_at (i := 482) (by decide +kernel) (by decide +kernel)
theorem wn_L : Cond.initialized RL ∈ W0 := W0_at (i := 0) (by decide +kernel) (by decide +kernel)
theorem wc_L_up : Cond.code yL_up cL_up 2 (some .int) ∈ W0 := W0_at (i := 483) (by decide +kernel) (by decide +kernel)
theorem wl_L_21 : Cond.methodLink RL 21 yL_turned ∈ W0 := W0_at (i := 485) (by decide +kernel) (by decide +kernel)
theorem wt_L_turned : Cond.static yL_turned ∈ W0 := W0_at (i := 486) (by decide +kernel) (by decide +kernel)
theorem wc_L_turned : Cond.code yL_turned cL_turned 2 (some .int) ∈ W0 := W0_at (i := 487) (by decide +kernel) (by decide +kernel)
theorem wl_L_27 : Cond.methodLink RL 27 yX5_cutsAround ∈ W0 := W0_at (i := 524) (by decide +kernel) (by decide +kernel)
theorem wi_X5_cutsAround : Cond.instanceMethod yX5_cutsAround ∈ W0 := W0_at (i := 525) (by decide +kernel) (by decide +kernel)
theorem we_X5_cutsAround : Cond.selects RX5 yX5_cutsAround yX5_cutsAround ∈ W0 := W0_at (i := 526) (by decide +kernel) (by decide +kernel)
theorem wc_X5_cutsAround : Cond.code yX5_cutsAround cX5_cutsAround 4 (some .int) ∈ W0 := W0_at (i := 527) (by decide +kernel) (by decide +kernel)
theorem wl_L_31 : Cond.methodLink RL 31 yX5_sawAround ∈ W0 := W0_at (i := 540) (by decide +kernel) (by decide +kernel)
theorem wi_X5_sawAround : Cond.instanceMethod yX5_sawAround ∈ W0 := W0_at (i := 541) (by decide +kernel) (by decide +kernel)
theorem we_X5_sawAround : Cond.selects RX5 yX5_sawAround yX5_sawAround ∈ W0 := W0_at (i := 542) (by decide +kernel) (by decide +kernel)
theorem wc_X5_sawAround : Cond.code yX5_sawAround cX5_sawAround 4 (some .int) ∈ W0 := W0_at (i := 543) (by decide +kernel) (by decide +kernel)
theorem wl_L_34 : Cond.methodLink RL 34 yX5_cell ∈ W0 := W0_at (i := 544) (by decide +kernel) (by decide +kernel)
theorem wi_X5_cell : Cond.instanceMethod yX5_cell ∈ W0 := W0_at (i := 545) (by decide +kernel) (by decide +kernel)
theorem we_X5_cell : Cond.selects RX5 yX5_cell yX5_cell ∈ W0 := W0_at (i := 546) (by decide +kernel) (by decide +kernel)
theorem wc_X5_cell : Cond.code yX5_cell cX5_cell 3 (some .int) ∈ W0 := W0_at (i := 547) (by decide +kernel) (by decide +kernel)
theorem wl_L_37 : Cond.methodLink RL 37 yX5_lay ∈ W0 := W0_at (i := 558) (by decide +kernel) (by decide +kernel)
theorem wi_X5_lay : Cond.instanceMethod yX5_lay ∈ W0 := W0_at (i := 559) (by decide +kernel) (by decide +kernel)
theorem we_X5_lay : Cond.selects RX5 yX5_lay yX5_lay ∈ W0 := W0_at (i := 560) (by decide +kernel) (by decide +kernel)
theorem wc_X5_lay : Cond.code yX5_lay cX5_lay 3 (some .int) ∈ W0 := W0_at (i := 561) (by decide +kernel) (by decide +kernel)
theorem wl_L_40 : Cond.methodLink RL 40 yX5_setMelt ∈ W0 := W0_at (i := 565) (by decide +kernel) (by decide +kernel)
theorem wi_X5_setMelt : Cond.instanceMethod yX5_setMelt ∈ W0 := W0_at (i := 566) (by decide +kernel) (by decide +kernel)
theorem we_X5_setMelt : Cond.selects RX5 yX5_setMelt yX5_setMelt ∈ W0 := W0_at (i := 567) (by decide +kernel) (by decide +kernel)
theorem wc_X5_setMelt : Cond.code yX5_setMelt cX5_setMelt 3 (some .int) ∈ W0 := W0_at (i := 568) (by decide +kernel) (by decide +kernel)
theorem wl_L_43 : Cond.methodLink RL 43 yX5_pass ∈ W0 := W0_at (i := 570) (by decide +kernel) (by decide +kernel)
theorem wi_X5_pass : Cond.instanceMethod yX5_pass ∈ W0 := W0_at (i := 571) (by decide +kernel) (by decide +kernel)
theorem we_X5_pass : Cond.selects RX5 yX5_pass yX5_pass ∈ W0 := W0_at (i := 572) (by decide +kernel) (by decide +kernel)
theorem wc_X5_pass : Cond.code yX5_pass cX5_pass 4 (some .int) ∈ W0 := W0_at (i := 573) (by decide +kernel) (by decide +kernel)
theorem wl_L_46 : Cond.methodLink RL 46 yX5_takeAll ∈ W0 := W0_at (i := 209) (by decide +kernel) (by decide +kernel)
theorem wi_X5_takeAll : Cond.instanceMethod yX5_takeAll ∈ W0 := W0_at (i := 210) (by decide +kernel) (by decide +kernel)
theorem we_X5_takeAll : Cond.selects RX5 yX5_takeAll yX5_takeAll ∈ W0 := W0_at (i := 211) (by decide +kernel) (by decide +kernel)
theorem wc_X5_takeAll : Cond.code yX5_takeAll cX5_takeAll 1 (some .int) ∈ W0 := W0_at (i := 212) (by decide +kernel) (by decide +kernel)
theorem wl_L_50 : Cond.methodLink RL 50 yX5_make ∈ W0 := W0_at (i := 584) (by decide +kernel) (by decide +kernel)
theorem wi_X5_make : Cond.instanceMethod yX5_make ∈ W0 := W0_at (i := 585) (by decide +kernel) (by decide +kernel)
theorem we_X5_make : Cond.selects RX5 yX5_make yX5_make ∈ W0 := W0_at (i := 586) (by decide +kernel) (by decide +kernel)
theorem wc_X5_make : Cond.code yX5_make cX5_make 4 (some .int) ∈ W0 := W0_at (i := 587) (by decide +kernel) (by decide +kernel)
theorem wl_L_53 : Cond.methodLink RL 53 yX5_block ∈ W0 := W0_at (i := 589) (by decide +kernel) (by decide +kernel)
theorem wi_X5_block : Cond.instanceMethod yX5_block ∈ W0 := W0_at (i := 590) (by decide +kernel) (by decide +kernel)
theorem we_X5_block : Cond.selects RX5 yX5_block yX5_block ∈ W0 := W0_at (i := 591) (by decide +kernel) (by decide +kernel)
theorem wc_X5_block : Cond.code yX5_block cX5_block 3 (some .int) ∈ W0 := W0_at (i := 592) (by decide +kernel) (by decide +kernel)
theorem wl_L_56 : Cond.methodLink RL 56 yX5_takeOut ∈ W0 := W0_at (i := 602) (by decide +kernel) (by decide +kernel)
theorem wi_X5_takeOut : Cond.instanceMethod yX5_takeOut ∈ W0 := W0_at (i := 603) (by decide +kernel) (by decide +kernel)
theorem we_X5_takeOut : Cond.selects RX5 yX5_takeOut yX5_takeOut ∈ W0 := W0_at (i := 604) (by decide +kernel) (by decide +kernel)
theorem wc_X5_takeOut : Cond.code yX5_takeOut cX5_takeOut 3 (some .int) ∈ W0 := W0_at (i := 605) (by decide +kernel) (by decide +kernel)
theorem wl_L_24 : Cond.methodLink RL 24 yX5_saw ∈ W0 := W0_at (i := 488) (by decide +kernel) (by decide +kernel)
theorem wi_X5_saw : Cond.instanceMethod yX5_saw ∈ W0 := W0_at (i := 489) (by decide +kernel) (by decide +kernel)
theorem we_X5_saw : Cond.selects RX5 yX5_saw yX5_saw ∈ W0 := W0_at (i := 490) (by decide +kernel) (by decide +kernel)
theorem wc_X5_saw : Cond.code yX5_saw cX5_saw 3 (some .int) ∈ W0 := W0_at (i := 491) (by decide +kernel) (by decide +kernel)
theorem wl_L_59 : Cond.methodLink RL 59 yX5_takable ∈ W0 := W0_at (i := 450) (by decide +kernel) (by decide +kernel)
theorem wi_X5_takable : Cond.instanceMethod yX5_takable ∈ W0 := W0_at (i := 451) (by decide +kernel) (by decide +kernel)
theorem we_X5_takable : Cond.selects RX5 yX5_takable yX5_takable ∈ W0 := W0_at (i := 452) (by decide +kernel) (by decide +kernel)
theorem wc_X5_takable : Cond.code yX5_takable cX5_takable 1 (some .int) ∈ W0 := W0_at (i := 453) (by decide +kernel) (by decide +kernel)
theorem wl_L_62 : Cond.methodLink RL 62 yX5_leftStranded ∈ W0 := W0_at (i := 610) (by decide +kernel) (by decide +kernel)
theorem wi_X5_leftStranded : Cond.instanceMethod yX5_leftStranded ∈ W0 := W0_at (i := 611) (by decide +kernel) (by decide +kernel)
theorem we_X5_leftStranded : Cond.selects RX5 yX5_leftStranded yX5_leftStranded ∈ W0 := W0_at (i := 612) (by decide +kernel) (by decide +kernel)
theorem wc_X5_leftStranded : Cond.code yX5_leftStranded cX5_leftStranded 1 (some .int) ∈ W0 := W0_at (i := 613) (by decide +kernel) (by decide +kernel)
theorem wl_L_65 : Cond.methodLink RL 65 yX5_daysToWater ∈ W0 := W0_at (i := 614) (by decide +kernel) (by decide +kernel)
theorem wi_X5_daysToWater : Cond.instanceMethod yX5_daysToWater ∈ W0 := W0_at (i := 615) (by decide +kernel) (by decide +kernel)
theorem we_X5_daysToWater : Cond.selects RX5 yX5_daysToWater yX5_daysToWater ∈ W0 := W0_at (i := 616) (by decide +kernel) (by decide +kernel)
theorem wc_X5_daysToWater : Cond.code yX5_daysToWater cX5_daysToWater 2 (some .int) ∈ W0 := W0_at (i := 617) (by decide +kernel) (by decide +kernel)
theorem wl_L_68 : Cond.methodLink RL 68 yX5_harvest ∈ W0 := W0_at (i := 618) (by decide +kernel) (by decide +kernel)
theorem wi_X5_harvest : Cond.instanceMethod yX5_harvest ∈ W0 := W0_at (i := 619) (by decide +kernel) (by decide +kernel)
theorem we_X5_harvest : Cond.selects RX5 yX5_harvest yX5_harvest ∈ W0 := W0_at (i := 620) (by decide +kernel) (by decide +kernel)
theorem wc_X5_harvest : Cond.code yX5_harvest cX5_harvest 1 (some .double) ∈ W0 := W0_at (i := 621) (by decide +kernel) (by decide +kernel)
theorem wl_L_72 : Cond.methodLink RL 72 yX5_daysWhole ∈ W0 := W0_at (i := 622) (by decide +kernel) (by decide +kernel)
theorem wi_X5_daysWhole : Cond.instanceMethod yX5_daysWhole ∈ W0 := W0_at (i := 623) (by decide +kernel) (by decide +kernel)
theorem we_X5_daysWhole : Cond.selects RX5 yX5_daysWhole yX5_daysWhole ∈ W0 := W0_at (i := 624) (by decide +kernel) (by decide +kernel)
theorem wc_X5_daysWhole : Cond.code yX5_daysWhole cX5_daysWhole 4 (some .int) ∈ W0 := W0_at (i := 625) (by decide +kernel) (by decide +kernel)
theorem wl_L_76 : Cond.methodLink RL 76 yL_cell ∈ W0 := W0_at (i := 474) (by decide +kernel) (by decide +kernel)
theorem wt_L_cell : Cond.static yL_cell ∈ W0 := W0_at (i := 475) (by decide +kernel) (by decide +kernel)
theorem wc_L_cell : Cond.code yL_cell cL_cell 2 (some .int) ∈ W0 := W0_at (i := 476) (by decide +kernel) (by decide +kernel)
theorem wl_L_79 : Cond.methodLink RL 79 yL_isStep ∈ W0 := W0_at (i := 478) (by decide +kernel) (by decide +kernel)
theorem wt_L_isStep : Cond.static yL_isStep ∈ W0 := W0_at (i := 479) (by decide +kernel) (by decide +kernel)
theorem wc_L_isStep : Cond.code yL_isStep cL_isStep 11 (some .boolean) ∈ W0 := W0_at (i := 480) (by decide +kernel) (by decide +kernel)
theorem wl_L_83 : Cond.methodLink RL 83 yL_areAlike ∈ W0 := W0_at (i := 607) (by decide +kernel) (by decide +kernel)
theorem wt_L_areAlike : Cond.static yL_areAlike ∈ W0 := W0_at (i := 608) (by decide +kernel) (by decide +kernel)
theorem wc_L_areAlike : Cond.code yL_areAlike cL_areAlike 8 (some .boolean) ∈ W0 := W0_at (i := 609) (by decide +kernel) (by decide +kernel)
theorem wl_L_87 : Cond.methodLink RL 87 yL_isSound ∈ W0 := W0_at (i := 631) (by decide +kernel) (by decide +kernel)
theorem wt_L_isSound : Cond.static yL_isSound ∈ W0 := W0_at (i := 632) (by decide +kernel) (by decide +kernel)
theorem wc_L_isSound : Cond.code yL_isSound cL_isSound 9 (some .boolean) ∈ W0 := W0_at (i := 633) (by decide +kernel) (by decide +kernel)
theorem wl_L_91 : Cond.methodLink RL 91 yX5_undo ∈ W0 := W0_at (i := 454) (by decide +kernel) (by decide +kernel)
theorem wi_X5_undo : Cond.instanceMethod yX5_undo ∈ W0 := W0_at (i := 455) (by decide +kernel) (by decide +kernel)
theorem we_X5_undo : Cond.selects RX5 yX5_undo yX5_undo ∈ W0 := W0_at (i := 456) (by decide +kernel) (by decide +kernel)
theorem wc_X5_undo : Cond.code yX5_undo cX5_undo 2 (some .int) ∈ W0 := W0_at (i := 457) (by decide +kernel) (by decide +kernel)
theorem wv_X2_13 : cwd RX2 RX2 13 yX2_at cX2_at 2 (some .int) := ⟨⟨wl_X2_13, wi_X2_at, we_X2_at, wn_X2⟩, wc_X2_at⟩
theorem wv_X1_54 : cwd RX1 RX2 54 yX2_copyFrom cX2_copyFrom 3 (none) := ⟨⟨wl_X1_54, wi_X2_copyFrom, we_X2_copyFrom, wn_X2⟩, wc_X2_copyFrom⟩
theorem wv_X5_253 : cwd RX5 RX5 253 yX5_savedAt cX5_savedAt 2 (some (.object "IceField$Ice")) := ⟨⟨wl_X5_253, wi_X5_savedAt, we_X5_savedAt, wn_X5⟩, wc_X5_savedAt⟩
theorem wv_X5_196 : cwd RX5 RX1 196 yX1_copyFrom cX1_copyFrom 2 (none) := ⟨⟨wl_X5_196, wi_X1_copyFrom, we_X1_copyFrom, wn_X1⟩, wc_X1_copyFrom⟩
theorem wv_X1_58 : cwd RX1 RX2 58 yX2_fill cX2_fill 3 (none) := ⟨⟨wl_X1_58, wi_X2_fill, we_X2_fill, wn_X2⟩, wc_X2_fill⟩
theorem wv_X1_61 : cwd RX1 RX2 61 yX2_at cX2_at 2 (some .int) := ⟨⟨wl_X1_61, wi_X2_at, we_X2_at, wn_X2⟩, wc_X2_at⟩
theorem wv_X1_65 : cwd RX1 RX2 65 yX2_put cX2_put 3 (none) := ⟨⟨wl_X1_65, wi_X2_put, we_X2_put, wn_X2⟩, wc_X2_put⟩
theorem wv_X1_69 : cwd RX1 RX1 69 yX1_cellCount cX1_cellCount 1 (some .int) := ⟨⟨wl_X1_69, wi_X1_cellCount, we_X1_cellCount, wn_X1⟩, wc_X1_cellCount⟩
theorem wv_X1_73 : cwd RX1 RX1 73 yX1_add cX1_add 3 (none) := ⟨⟨wl_X1_73, wi_X1_add, we_X1_add, wn_X1⟩, wc_X1_add⟩
theorem wv_X5_70 : cws RX5 70 yX5_isOutside cX5_isOutside 3 (some .boolean) := ⟨⟨wl_X5_70, wt_X5_isOutside, wn_X5⟩, wc_X5_isOutside⟩
theorem wv_X5_81 : cwd RX5 RX5 81 yX5_saveState cX5_saveState 2 (none) := ⟨⟨wl_X5_81, wi_X5_saveState, we_X5_saveState, wn_X5⟩, wc_X5_saveState⟩
theorem wv_X5_63 : cwd RX5 RX1 63 yX1_beginAnew cX1_beginAnew 3 (none) := ⟨⟨wl_X5_63, wi_X1_beginAnew, we_X1_beginAnew, wn_X1⟩, wc_X1_beginAnew⟩
theorem wv_X5_67 : cwd RX5 RX1 67 yX1_addEverywhere cX1_addEverywhere 3 (none) := ⟨⟨wl_X5_67, wi_X1_addEverywhere, we_X1_addEverywhere, wn_X1⟩, wc_X1_addEverywhere⟩
theorem wv_X5_212 : cwd RX5 RX1 212 yX1_cellCount cX1_cellCount 1 (some .int) := ⟨⟨wl_X5_212, wi_X1_cellCount, we_X1_cellCount, wn_X1⟩, wc_X1_cellCount⟩
theorem wv_X5_87 : cwd RX5 RX5 87 yX5_checkCell cX5_checkCell 2 (none) := ⟨⟨wl_X5_87, wi_X5_checkCell, we_X5_checkCell, wn_X5⟩, wc_X5_checkCell⟩
theorem wv_X5_95 : cwd RX5 RX2 95 yX2_at cX2_at 2 (some .int) := ⟨⟨wl_X5_95, wi_X2_at, we_X2_at, wn_X2⟩, wc_X2_at⟩
theorem wv_X5_104 : cwd RX5 RX1 104 yX1_add cX1_add 3 (none) := ⟨⟨wl_X5_104, wi_X1_add, we_X1_add, wn_X1⟩, wc_X1_add⟩
theorem wv_X1_80 : cwd RX1 RX1 80 yX1_columnOf cX1_columnOf 2 (some .int) := ⟨⟨wl_X1_80, wi_X1_columnOf, we_X1_columnOf, wn_X1⟩, wc_X1_columnOf⟩
theorem wv_X1_83 : cwd RX1 RX1 83 yX1_beside cX1_beside 3 (some .int) := ⟨⟨wl_X1_83, wi_X1_beside, we_X1_beside, wn_X1⟩, wc_X1_beside⟩
theorem wv_X1_87 : cwd RX1 RX1 87 yX1_cutPlace cX1_cutPlace 3 (some .int) := ⟨⟨wl_X1_87, wi_X1_cutPlace, we_X1_cutPlace, wn_X1⟩, wc_X1_cutPlace⟩
theorem wv_X1_90 : cwd RX1 RX1 90 yX1_canCut cX1_canCut 3 (some .boolean) := ⟨⟨wl_X1_90, wi_X1_canCut, we_X1_canCut, wn_X1⟩, wc_X1_canCut⟩
theorem wv_X1_94 : cwd RX1 RX1 94 yX1_cutAt cX1_cutAt 3 (some .int) := ⟨⟨wl_X1_94, wi_X1_cutAt, we_X1_cutAt, wn_X1⟩, wc_X1_cutAt⟩
theorem wv_X5_109 : cwd RX5 RX1 109 yX1_canCut cX1_canCut 3 (some .boolean) := ⟨⟨wl_X5_109, wi_X1_canCut, we_X1_canCut, wn_X1⟩, wc_X1_canCut⟩
theorem wv_X5_115 : cwd RX5 RX1 115 yX1_cutSide cX1_cutSide 3 (some .int) := ⟨⟨wl_X5_115, wi_X1_cutSide, we_X1_cutSide, wn_X1⟩, wc_X1_cutSide⟩
theorem wv_X5_245 : cwd RX5 RX1 245 yX1_columnOf cX1_columnOf 2 (some .int) := ⟨⟨wl_X5_245, wi_X1_columnOf, we_X1_columnOf, wn_X1⟩, wc_X1_columnOf⟩
theorem wv_X5_242 : cwd RX5 RX1 242 yX1_rowOf cX1_rowOf 2 (some .int) := ⟨⟨wl_X5_242, wi_X1_rowOf, we_X1_rowOf, wn_X1⟩, wc_X1_rowOf⟩
theorem wv_X1_97 : cwd RX1 RX1 97 yX1_cutSide cX1_cutSide 3 (some .int) := ⟨⟨wl_X1_97, wi_X1_cutSide, we_X1_cutSide, wn_X1⟩, wc_X1_cutSide⟩
theorem wv_X5_119 : cwd RX5 RX5 119 yX5_checkRectangle cX5_checkRectangle 4 (none) := ⟨⟨wl_X5_119, wi_X5_checkRectangle, we_X5_checkRectangle, wn_X5⟩, wc_X5_checkRectangle⟩
theorem wv_X5_123 : cwd RX5 RX1 123 yX1_cutRectangle cX1_cutRectangle 6 (some .int) := ⟨⟨wl_X5_123, wi_X1_cutRectangle, we_X1_cutRectangle, wn_X1⟩, wc_X1_cutRectangle⟩
theorem wv_X0_47 : cwd RX0 RX2 47 yX2_put cX2_put 3 (none) := ⟨⟨wl_X0_47, wi_X2_put, we_X2_put, wn_X2⟩, wc_X2_put⟩
theorem wv_X0_39 : cwd RX0 RX2 39 yX2_at cX2_at 2 (some .int) := ⟨⟨wl_X0_39, wi_X2_at, we_X2_at, wn_X2⟩, wc_X2_at⟩
theorem wv_X0_51 : cwd RX0 RX1 51 yX1_isTiedToShore cX1_isTiedToShore 2 (some .boolean) := ⟨⟨wl_X0_51, wi_X1_isTiedToShore, we_X1_isTiedToShore, wn_X1⟩, wc_X1_isTiedToShore⟩
theorem wv_X0_54 : cwd RX0 RX1 54 yX1_beside cX1_beside 3 (some .int) := ⟨⟨wl_X0_54, wi_X1_beside, we_X1_beside, wn_X1⟩, wc_X1_beside⟩
theorem wv_X0_35 : cwd RX0 RX1 35 yX1_isIce cX1_isIce 2 (some .boolean) := ⟨⟨wl_X0_35, wi_X1_isIce, we_X1_isIce, wn_X1⟩, wc_X1_isIce⟩
theorem wv_X0_58 : cwd RX0 RX1 58 yX1_cutAt cX1_cutAt 3 (some .int) := ⟨⟨wl_X0_58, wi_X1_cutAt, we_X1_cutAt, wn_X1⟩, wc_X1_cutAt⟩
theorem wv_X0_26 : cwd RX0 RX2 26 yX2_fill cX2_fill 3 (none) := ⟨⟨wl_X0_26, wi_X2_fill, we_X2_fill, wn_X2⟩, wc_X2_fill⟩
theorem wv_X0_29 : cwd RX0 RX1 29 yX1_cellCount cX1_cellCount 1 (some .int) := ⟨⟨wl_X0_29, wi_X1_cellCount, we_X1_cellCount, wn_X1⟩, wc_X1_cellCount⟩
theorem wv_X0_43 : cwd RX0 RX0 43 yX0_spread cX0_spread 8 (none) := ⟨⟨wl_X0_43, wi_X0_spread, we_X0_spread, wn_X0⟩, wc_X0_spread⟩
theorem wv_X0_61 : cwd RX0 RX0 61 yX0_isBlock cX0_isBlock 2 (some .boolean) := ⟨⟨wl_X0_61, wi_X0_isBlock, we_X0_isBlock, wn_X0⟩, wc_X0_isBlock⟩
theorem wv_X4_69 : cwd RX4 RX0 69 yX0_numberAt cX0_numberAt 2 (some .int) := ⟨⟨wl_X4_69, wi_X0_numberAt, we_X0_numberAt, wn_X0⟩, wc_X0_numberAt⟩
theorem wv_X4_40 : cwd RX4 RX2 40 yX2_put cX2_put 3 (none) := ⟨⟨wl_X4_40, wi_X2_put, we_X2_put, wn_X2⟩, wc_X2_put⟩
theorem wv_X4_60 : cws RX4 60 yX4_downAt cX4_downAt 1 (some .int) := ⟨⟨wl_X4_60, wt_X4_downAt, wn_X4⟩, wc_X4_downAt⟩
theorem wv_X4_74 : cws RX4 74 yX4_rightAt cX4_rightAt 1 (some .int) := ⟨⟨wl_X4_74, wt_X4_rightAt, wn_X4⟩, wc_X4_rightAt⟩
theorem wv_X4_44 : cwd RX4 RX2 44 yX2_at cX2_at 2 (some .int) := ⟨⟨wl_X4_44, wi_X2_at, we_X2_at, wn_X2⟩, wc_X2_at⟩
theorem wv_X4_55 : cwd RX4 RX1 55 yX1_rowOf cX1_rowOf 2 (some .int) := ⟨⟨wl_X4_55, wi_X1_rowOf, we_X1_rowOf, wn_X1⟩, wc_X1_rowOf⟩
theorem wv_X4_77 : cwd RX4 RX1 77 yX1_columnOf cX1_columnOf 2 (some .int) := ⟨⟨wl_X4_77, wi_X1_columnOf, we_X1_columnOf, wn_X1⟩, wc_X1_columnOf⟩
theorem wv_X4_83 : cwd RX4 RX1 83 yX1_isIce cX1_isIce 2 (some .boolean) := ⟨⟨wl_X4_83, wi_X1_isIce, we_X1_isIce, wn_X1⟩, wc_X1_isIce⟩
theorem wv_X4_48 : cws RX4 48 yX4_stepOf cX4_stepOf 1 (some .int) := ⟨⟨wl_X4_48, wt_X4_stepOf, wn_X4⟩, wc_X4_stepOf⟩
theorem wv_X4_33 : cwd RX4 RX4 33 yX4_gatherCells cX4_gatherCells 4 (none) := ⟨⟨wl_X4_33, wi_X4_gatherCells, we_X4_gatherCells, wn_X4⟩, wc_X4_gatherCells⟩
theorem wv_X4_37 : cwd RX4 RX2 37 yX2_fill cX2_fill 3 (none) := ⟨⟨wl_X4_37, wi_X2_fill, we_X2_fill, wn_X2⟩, wc_X2_fill⟩
theorem wv_X4_51 : cwd RX4 RX4 51 yX4_canLie cX4_canLie 11 (some .boolean) := ⟨⟨wl_X4_51, wi_X4_canLie, we_X4_canLie, wn_X4⟩, wc_X4_canLie⟩
theorem wv_X4_66 : cwd RX4 RX4 66 yX4_traceBack cX4_traceBack 5 (some .int) := ⟨⟨wl_X4_66, wi_X4_traceBack, we_X4_traceBack, wn_X4⟩, wc_X4_traceBack⟩
theorem wv_X1_106 : cwd RX1 RX0 106 yX0_numberAt cX0_numberAt 2 (some .int) := ⟨⟨wl_X1_106, wi_X0_numberAt, we_X0_numberAt, wn_X0⟩, wc_X0_numberAt⟩
theorem wv_X1_111 : cwd RX1 RX1 111 yX1_volumeOf cX1_volumeOf 5 (some .int) := ⟨⟨wl_X1_111, wi_X1_volumeOf, we_X1_volumeOf, wn_X1⟩, wc_X1_volumeOf⟩
theorem wv_X5_127 : cwd RX5 RX0 127 yX0_find cX0_find 3 (none) := ⟨⟨wl_X5_127, wi_X0_find, we_X0_find, wn_X0⟩, wc_X0_find⟩
theorem wv_X5_131 : cwd RX5 RX0 131 yX0_numberAt cX0_numberAt 2 (some .int) := ⟨⟨wl_X5_131, wi_X0_numberAt, we_X0_numberAt, wn_X0⟩, wc_X0_numberAt⟩
theorem wv_X5_134 : cwd RX5 RX0 134 yX0_isLoose cX0_isLoose 2 (some .boolean) := ⟨⟨wl_X5_134, wi_X0_isLoose, we_X0_isLoose, wn_X0⟩, wc_X0_isLoose⟩
theorem wv_X5_138 : cwd RX5 RX4 138 yX4_search cX4_search 8 (some .int) := ⟨⟨wl_X5_138, wi_X4_search, we_X4_search, wn_X4⟩, wc_X4_search⟩
theorem wv_X5_144 : cwd RX5 RX1 144 yX1_removeBlock cX1_removeBlock 5 (some .int) := ⟨⟨wl_X5_144, wi_X1_removeBlock, we_X1_removeBlock, wn_X1⟩, wc_X1_removeBlock⟩
theorem wv_X5_303 : cwd RX5 RX5 303 yX5_lowestFloating cX5_lowestFloating 3 (some .int) := ⟨⟨wl_X5_303, wi_X5_lowestFloating, we_X5_lowestFloating, wn_X5⟩, wc_X5_lowestFloating⟩
theorem wv_X5_306 : cwd RX5 RX0 306 yX0_forget cX0_forget 3 (none) := ⟨⟨wl_X5_306, wi_X0_forget, we_X0_forget, wn_X0⟩, wc_X0_forget⟩
theorem wv_X5_148 : cwd RX5 RX5 148 yX5_removeFloating cX5_removeFloating 4 (some .int) := ⟨⟨wl_X5_148, wi_X5_removeFloating, we_X5_removeFloating, wn_X5⟩, wc_X5_removeFloating⟩
theorem wv_X1_76 : cwd RX1 RX1 76 yX1_isIce cX1_isIce 2 (some .boolean) := ⟨⟨wl_X1_76, wi_X1_isIce, we_X1_isIce, wn_X1⟩, wc_X1_isIce⟩
theorem wv_X1_100 : cwd RX1 RX1 100 yX1_waterBeside cX1_waterBeside 5 (some .int) := ⟨⟨wl_X1_100, wi_X1_waterBeside, we_X1_waterBeside, wn_X1⟩, wc_X1_waterBeside⟩
theorem wv_X1_103 : cwd RX1 RX1 103 yX1_lossOf cX1_lossOf 4 (some .int) := ⟨⟨wl_X1_103, wi_X1_lossOf, we_X1_lossOf, wn_X1⟩, wc_X1_lossOf⟩
theorem wv_X5_159 : cwd RX5 RX1 159 yX1_meltOneDay cX1_meltOneDay 2 (none) := ⟨⟨wl_X5_159, wi_X1_meltOneDay, we_X1_meltOneDay, wn_X1⟩, wc_X1_meltOneDay⟩
theorem wv_X5_285 : cwd RX5 RX1 285 yX1_waterBeside cX1_waterBeside 5 (some .int) := ⟨⟨wl_X5_285, wi_X1_waterBeside, we_X1_waterBeside, wn_X1⟩, wc_X1_waterBeside⟩
theorem wv_X5_288 : cwd RX5 RX1 288 yX1_cutAt cX1_cutAt 3 (some .int) := ⟨⟨wl_X5_288, wi_X1_cutAt, we_X1_cutAt, wn_X1⟩, wc_X1_cutAt⟩
theorem wv_X5_164 : cwd RX5 RX5 164 yX5_cellFact cX5_cellFact 3 (some .int) := ⟨⟨wl_X5_164, wi_X5_cellFact, we_X5_cellFact, wn_X5⟩, wc_X5_cellFact⟩
theorem wv_X5_300 : cwd RX5 RX2 300 yX2_put cX2_put 3 (none) := ⟨⟨wl_X5_300, wi_X2_put, we_X2_put, wn_X2⟩, wc_X2_put⟩
theorem wv_X5_291 : cwd RX5 RX0 291 yX0_sizeOf cX0_sizeOf 4 (some .int) := ⟨⟨wl_X5_291, wi_X0_sizeOf, we_X0_sizeOf, wn_X0⟩, wc_X0_sizeOf⟩
theorem wv_X5_294 : cwd RX5 RX1 294 yX1_volumeOf cX1_volumeOf 5 (some .int) := ⟨⟨wl_X5_294, wi_X1_volumeOf, we_X1_volumeOf, wn_X1⟩, wc_X1_volumeOf⟩
theorem wv_X5_167 : cwd RX5 RX5 167 yX5_findWayOf cX5_findWayOf 2 (none) := ⟨⟨wl_X5_167, wi_X5_findWayOf, we_X5_findWayOf, wn_X5⟩, wc_X5_findWayOf⟩
theorem wv_X5_170 : cwd RX5 RX5 170 yX5_blockFact cX5_blockFact 4 (some .int) := ⟨⟨wl_X5_170, wi_X5_blockFact, we_X5_blockFact, wn_X5⟩, wc_X5_blockFact⟩
theorem wv_X0_64 : cwd RX0 RX0 64 yX0_isLoose cX0_isLoose 2 (some .boolean) := ⟨⟨wl_X0_64, wi_X0_isLoose, we_X0_isLoose, wn_X0⟩, wc_X0_isLoose⟩
theorem wv_X5_297 : cwd RX5 RX5 297 yX5_isStranded cX5_isStranded 2 (some .boolean) := ⟨⟨wl_X5_297, wi_X5_isStranded, we_X5_isStranded, wn_X5⟩, wc_X5_isStranded⟩
theorem wv_X5_206 : cwd RX5 RX1 206 yX1_iceCells cX1_iceCells 3 (some .int) := ⟨⟨wl_X5_206, wi_X1_iceCells, we_X1_iceCells, wn_X1⟩, wc_X1_iceCells⟩
theorem wv_X5_267 : cwd RX5 RX0 267 yX0_countAll cX0_countAll 3 (some .int) := ⟨⟨wl_X5_267, wi_X0_countAll, we_X0_countAll, wn_X0⟩, wc_X0_countAll⟩
theorem wv_X5_199 : cwd RX5 RX0 199 yX0_countLoose cX0_countLoose 3 (some .int) := ⟨⟨wl_X5_199, wi_X0_countLoose, we_X0_countLoose, wn_X0⟩, wc_X0_countLoose⟩
theorem wv_X5_270 : cwd RX5 RX5 270 yX5_countStranded cX5_countStranded 3 (some .int) := ⟨⟨wl_X5_270, wi_X5_countStranded, we_X5_countStranded, wn_X5⟩, wc_X5_countStranded⟩
theorem wv_X5_276 : cwd RX5 RX2 276 yX2_sum cX2_sum 3 (some .int) := ⟨⟨wl_X5_276, wi_X2_sum, we_X2_sum, wn_X2⟩, wc_X2_sum⟩
theorem wv_X5_181 : cwd RX5 RX5 181 yX5_findBlocksAndWays cX5_findBlocksAndWays 2 (none) := ⟨⟨wl_X5_181, wi_X5_findBlocksAndWays, we_X5_findBlocksAndWays, wn_X5⟩, wc_X5_findBlocksAndWays⟩
theorem wv_X5_184 : cwd RX5 RX5 184 yX5_fieldFact cX5_fieldFact 2 (some .int) := ⟨⟨wl_X5_184, wi_X5_fieldFact, we_X5_fieldFact, wn_X5⟩, wc_X5_fieldFact⟩
theorem wv_X5_215 : cwd RX5 RX1 215 yX1_isIce cX1_isIce 2 (some .boolean) := ⟨⟨wl_X5_215, wi_X1_isIce, we_X1_isIce, wn_X1⟩, wc_X1_isIce⟩
theorem wv_X5_202 : cwd RX5 RX5 202 yX5_hasWaterIn cX5_hasWaterIn 4 (some .boolean) := ⟨⟨wl_X5_202, wi_X5_hasWaterIn, we_X5_hasWaterIn, wn_X5⟩, wc_X5_hasWaterIn⟩
theorem wv_L_9 : cwd RL RX5 9 yX5_value cX5_value 2 (some .int) := ⟨⟨wl_L_9, wi_X5_value, we_X5_value, wn_X5⟩, wc_X5_value⟩
theorem wv_L_15 : cws RL 15 yL_up cL_up 2 (some .int) := ⟨⟨wl_L_15, wt_L_up, wn_L⟩, wc_L_up⟩
theorem wv_L_21 : cws RL 21 yL_turned cL_turned 2 (some .int) := ⟨⟨wl_L_21, wt_L_turned, wn_L⟩, wc_L_turned⟩
theorem wv_L_27 : cwd RL RX5 27 yX5_cutsAround cX5_cutsAround 4 (some .int) := ⟨⟨wl_L_27, wi_X5_cutsAround, we_X5_cutsAround, wn_X5⟩, wc_X5_cutsAround⟩
theorem wv_L_31 : cwd RL RX5 31 yX5_sawAround cX5_sawAround 4 (some .int) := ⟨⟨wl_L_31, wi_X5_sawAround, we_X5_sawAround, wn_X5⟩, wc_X5_sawAround⟩
theorem wv_L_34 : cwd RL RX5 34 yX5_cell cX5_cell 3 (some .int) := ⟨⟨wl_L_34, wi_X5_cell, we_X5_cell, wn_X5⟩, wc_X5_cell⟩
theorem wv_L_37 : cwd RL RX5 37 yX5_lay cX5_lay 3 (some .int) := ⟨⟨wl_L_37, wi_X5_lay, we_X5_lay, wn_X5⟩, wc_X5_lay⟩
theorem wv_L_40 : cwd RL RX5 40 yX5_setMelt cX5_setMelt 3 (some .int) := ⟨⟨wl_L_40, wi_X5_setMelt, we_X5_setMelt, wn_X5⟩, wc_X5_setMelt⟩
theorem wv_L_43 : cwd RL RX5 43 yX5_pass cX5_pass 4 (some .int) := ⟨⟨wl_L_43, wi_X5_pass, we_X5_pass, wn_X5⟩, wc_X5_pass⟩
theorem wv_L_46 : cwd RL RX5 46 yX5_takeAll cX5_takeAll 1 (some .int) := ⟨⟨wl_L_46, wi_X5_takeAll, we_X5_takeAll, wn_X5⟩, wc_X5_takeAll⟩
theorem wv_L_50 : cwd RL RX5 50 yX5_make cX5_make 4 (some .int) := ⟨⟨wl_L_50, wi_X5_make, we_X5_make, wn_X5⟩, wc_X5_make⟩
theorem wv_L_53 : cwd RL RX5 53 yX5_block cX5_block 3 (some .int) := ⟨⟨wl_L_53, wi_X5_block, we_X5_block, wn_X5⟩, wc_X5_block⟩
theorem wv_L_56 : cwd RL RX5 56 yX5_takeOut cX5_takeOut 3 (some .int) := ⟨⟨wl_L_56, wi_X5_takeOut, we_X5_takeOut, wn_X5⟩, wc_X5_takeOut⟩
theorem wv_L_24 : cwd RL RX5 24 yX5_saw cX5_saw 3 (some .int) := ⟨⟨wl_L_24, wi_X5_saw, we_X5_saw, wn_X5⟩, wc_X5_saw⟩
theorem wv_L_59 : cwd RL RX5 59 yX5_takable cX5_takable 1 (some .int) := ⟨⟨wl_L_59, wi_X5_takable, we_X5_takable, wn_X5⟩, wc_X5_takable⟩
theorem wv_L_62 : cwd RL RX5 62 yX5_leftStranded cX5_leftStranded 1 (some .int) := ⟨⟨wl_L_62, wi_X5_leftStranded, we_X5_leftStranded, wn_X5⟩, wc_X5_leftStranded⟩
theorem wv_L_65 : cwd RL RX5 65 yX5_daysToWater cX5_daysToWater 2 (some .int) := ⟨⟨wl_L_65, wi_X5_daysToWater, we_X5_daysToWater, wn_X5⟩, wc_X5_daysToWater⟩
theorem wv_L_68 : cwd RL RX5 68 yX5_harvest cX5_harvest 1 (some .double) := ⟨⟨wl_L_68, wi_X5_harvest, we_X5_harvest, wn_X5⟩, wc_X5_harvest⟩
theorem wv_L_72 : cwd RL RX5 72 yX5_daysWhole cX5_daysWhole 4 (some .int) := ⟨⟨wl_L_72, wi_X5_daysWhole, we_X5_daysWhole, wn_X5⟩, wc_X5_daysWhole⟩
theorem wv_L_76 : cws RL 76 yL_cell cL_cell 2 (some .int) := ⟨⟨wl_L_76, wt_L_cell, wn_L⟩, wc_L_cell⟩
theorem wv_L_79 : cws RL 79 yL_isStep cL_isStep 11 (some .boolean) := ⟨⟨wl_L_79, wt_L_isStep, wn_L⟩, wc_L_isStep⟩
theorem wv_L_83 : cws RL 83 yL_areAlike cL_areAlike 8 (some .boolean) := ⟨⟨wl_L_83, wt_L_areAlike, wn_L⟩, wc_L_areAlike⟩
theorem wv_L_87 : cws RL 87 yL_isSound cL_isSound 9 (some .boolean) := ⟨⟨wl_L_87, wt_L_isSound, wn_L⟩, wc_L_isSound⟩
theorem wv_L_91 : cwd RL RX5 91 yX5_undo cX5_undo 2 (some .int) := ⟨⟨wl_L_91, wi_X5_undo, we_X5_undo, wn_X5⟩, wc_X5_undo⟩
