section
-- ===== PART A: goes FIRST, ahead of the names: the tables' words, and 'selects' of the private methods out of them =====
/-- a private method of a class that the tables say can be made, by its rows of tables_1 -/
def lw_okq (q : MethodName × Nat) : Prop := (q.1.cls ≠ "java/lang/invoke/MethodHandle" ∧ q.1.cls ≠ "java/lang/invoke/VarHandle") ∧ Cond.instantiable q.1.cls q.2 ∈ tables_1 ∧ Cond.privateMethod q.1 ∈ tables_1 ∧ Cond.instanceMethod q.1 ∈ tables_1
theorem lw_p0 : lw_okq (⟨"IceField", "saveState", "()V"⟩, 9) := ⟨⟨by decide +kernel, by decide +kernel⟩, List.mem_of_getElem? (i := 15) (by decide +kernel), List.mem_of_getElem? (i := 219) (by decide +kernel), List.mem_of_getElem? (i := 220) (by decide +kernel)⟩
theorem lw_p1 : lw_okq (⟨"IceField", "savedAt", "(I)LIceField$Ice;"⟩, 9) := ⟨⟨by decide +kernel, by decide +kernel⟩, List.mem_of_getElem? (i := 15) (by decide +kernel), List.mem_of_getElem? (i := 223) (by decide +kernel), List.mem_of_getElem? (i := 224) (by decide +kernel)⟩
theorem lw_p2 : lw_okq (⟨"IceField", "removeFloating", "(LIceField$Ice;)I"⟩, 9) := ⟨⟨by decide +kernel, by decide +kernel⟩, List.mem_of_getElem? (i := 15) (by decide +kernel), List.mem_of_getElem? (i := 236) (by decide +kernel), List.mem_of_getElem? (i := 237) (by decide +kernel)⟩
theorem lw_p3 : lw_okq (⟨"IceField$Blocks", "spread", "(LIceField$Ice;I)V"⟩, 3) := ⟨⟨by decide +kernel, by decide +kernel⟩, List.mem_of_getElem? (i := 114) (by decide +kernel), List.mem_of_getElem? (i := 251) (by decide +kernel), List.mem_of_getElem? (i := 252) (by decide +kernel)⟩
theorem lw_p4 : lw_okq (⟨"IceField$Ice", "cutPlace", "(II)I"⟩, 12) := ⟨⟨by decide +kernel, by decide +kernel⟩, List.mem_of_getElem? (i := 23) (by decide +kernel), List.mem_of_getElem? (i := 264) (by decide +kernel), List.mem_of_getElem? (i := 265) (by decide +kernel)⟩
theorem lw_p5 : lw_okq (⟨"IceField", "lowestFloating", "(LIceField$Ice;)I"⟩, 9) := ⟨⟨by decide +kernel, by decide +kernel⟩, List.mem_of_getElem? (i := 15) (by decide +kernel), List.mem_of_getElem? (i := 277) (by decide +kernel), List.mem_of_getElem? (i := 278) (by decide +kernel)⟩
theorem lw_p6 : lw_okq (⟨"IceField$Blocks", "isBlock", "(I)Z"⟩, 3) := ⟨⟨by decide +kernel, by decide +kernel⟩, List.mem_of_getElem? (i := 114) (by decide +kernel), List.mem_of_getElem? (i := 286) (by decide +kernel), List.mem_of_getElem? (i := 287) (by decide +kernel)⟩
theorem lw_p7 : lw_okq (⟨"IceField$Way", "gatherCells", "(LIceField$Blocks;I)V"⟩, 5) := ⟨⟨by decide +kernel, by decide +kernel⟩, List.mem_of_getElem? (i := 132) (by decide +kernel), List.mem_of_getElem? (i := 294) (by decide +kernel), List.mem_of_getElem? (i := 295) (by decide +kernel)⟩
theorem lw_p8 : lw_okq (⟨"IceField$Way", "canLie", "(LIceField$Ice;LIceField$Blocks;II)Z"⟩, 5) := ⟨⟨by decide +kernel, by decide +kernel⟩, List.mem_of_getElem? (i := 132) (by decide +kernel), List.mem_of_getElem? (i := 308) (by decide +kernel), List.mem_of_getElem? (i := 309) (by decide +kernel)⟩
theorem lw_p9 : lw_okq (⟨"IceField$Way", "traceBack", "(I)I"⟩, 5) := ⟨⟨by decide +kernel, by decide +kernel⟩, List.mem_of_getElem? (i := 132) (by decide +kernel), List.mem_of_getElem? (i := 324) (by decide +kernel), List.mem_of_getElem? (i := 325) (by decide +kernel)⟩
theorem lw_p10 : lw_okq (⟨"IceField$Ice", "lossOf", "(I)I"⟩, 12) := ⟨⟨by decide +kernel, by decide +kernel⟩, List.mem_of_getElem? (i := 23) (by decide +kernel), List.mem_of_getElem? (i := 367) (by decide +kernel), List.mem_of_getElem? (i := 368) (by decide +kernel)⟩
theorem lw_p11 : lw_okq (⟨"IceField", "findBlocksAndWays", "()V"⟩, 9) := ⟨⟨by decide +kernel, by decide +kernel⟩, List.mem_of_getElem? (i := 15) (by decide +kernel), List.mem_of_getElem? (i := 380) (by decide +kernel), List.mem_of_getElem? (i := 381) (by decide +kernel)⟩
theorem lw_p12 : lw_okq (⟨"IceField", "findWayOf", "(I)V"⟩, 9) := ⟨⟨by decide +kernel, by decide +kernel⟩, List.mem_of_getElem? (i := 15) (by decide +kernel), List.mem_of_getElem? (i := 384) (by decide +kernel), List.mem_of_getElem? (i := 385) (by decide +kernel)⟩
theorem lw_p13 : lw_okq (⟨"IceField", "lowestStranded", "()I"⟩, 9) := ⟨⟨by decide +kernel, by decide +kernel⟩, List.mem_of_getElem? (i := 15) (by decide +kernel), List.mem_of_getElem? (i := 389) (by decide +kernel), List.mem_of_getElem? (i := 390) (by decide +kernel)⟩
theorem lw_p14 : lw_okq (⟨"IceField", "isStranded", "(I)Z"⟩, 9) := ⟨⟨by decide +kernel, by decide +kernel⟩, List.mem_of_getElem? (i := 15) (by decide +kernel), List.mem_of_getElem? (i := 393) (by decide +kernel), List.mem_of_getElem? (i := 394) (by decide +kernel)⟩
theorem lw_p15 : lw_okq (⟨"IceField", "freesWay", "(II)Z"⟩, 9) := ⟨⟨by decide +kernel, by decide +kernel⟩, List.mem_of_getElem? (i := 15) (by decide +kernel), List.mem_of_getElem? (i := 400) (by decide +kernel), List.mem_of_getElem? (i := 401) (by decide +kernel)⟩
def lw_privs_1 : List (MethodName × Nat) := [(⟨"IceField", "saveState", "()V"⟩, 9), (⟨"IceField", "savedAt", "(I)LIceField$Ice;"⟩, 9), (⟨"IceField", "removeFloating", "(LIceField$Ice;)I"⟩, 9), (⟨"IceField$Blocks", "spread", "(LIceField$Ice;I)V"⟩, 3), (⟨"IceField$Ice", "cutPlace", "(II)I"⟩, 12), (⟨"IceField", "lowestFloating", "(LIceField$Ice;)I"⟩, 9), (⟨"IceField$Blocks", "isBlock", "(I)Z"⟩, 3), (⟨"IceField$Way", "gatherCells", "(LIceField$Blocks;I)V"⟩, 5), (⟨"IceField$Way", "canLie", "(LIceField$Ice;LIceField$Blocks;II)Z"⟩, 5), (⟨"IceField$Way", "traceBack", "(I)I"⟩, 5), (⟨"IceField$Ice", "lossOf", "(I)I"⟩, 12), (⟨"IceField", "findBlocksAndWays", "()V"⟩, 9), (⟨"IceField", "findWayOf", "(I)V"⟩, 9), (⟨"IceField", "lowestStranded", "()I"⟩, 9), (⟨"IceField", "isStranded", "(I)Z"⟩, 9), (⟨"IceField", "freesWay", "(II)Z"⟩, 9)]
theorem lw_r1 : ∀ q ∈ lw_privs_1, lw_okq q := List.forall_mem_cons.mpr ⟨lw_p0, List.forall_mem_cons.mpr ⟨lw_p1, List.forall_mem_cons.mpr ⟨lw_p2, List.forall_mem_cons.mpr ⟨lw_p3, List.forall_mem_cons.mpr ⟨lw_p4, List.forall_mem_cons.mpr ⟨lw_p5, List.forall_mem_cons.mpr ⟨lw_p6, List.forall_mem_cons.mpr ⟨lw_p7, List.forall_mem_cons.mpr ⟨lw_p8, List.forall_mem_cons.mpr ⟨lw_p9, List.forall_mem_cons.mpr ⟨lw_p10, List.forall_mem_cons.mpr ⟨lw_p11, List.forall_mem_cons.mpr ⟨lw_p12, List.forall_mem_cons.mpr ⟨lw_p13, List.forall_mem_cons.mpr ⟨lw_p14, List.forall_mem_cons.mpr ⟨lw_p15, fun _ h => absurd h List.not_mem_nil⟩⟩⟩⟩⟩⟩⟩⟩⟩⟩⟩⟩⟩⟩⟩⟩
theorem lw_p16 : lw_okq (⟨"IceField$Text", "mostDigits", "()I"⟩, 4) := ⟨⟨by decide +kernel, by decide +kernel⟩, List.mem_of_getElem? (i := 90) (by decide +kernel), List.mem_of_getElem? (i := 424) (by decide +kernel), List.mem_of_getElem? (i := 425) (by decide +kernel)⟩
theorem lw_p17 : lw_okq (⟨"IceField$Text", "leastDigits", "()I"⟩, 4) := ⟨⟨by decide +kernel, by decide +kernel⟩, List.mem_of_getElem? (i := 90) (by decide +kernel), List.mem_of_getElem? (i := 428) (by decide +kernel), List.mem_of_getElem? (i := 429) (by decide +kernel)⟩
theorem lw_p18 : lw_okq (⟨"IceField", "fieldFact", "(I)I"⟩, 9) := ⟨⟨by decide +kernel, by decide +kernel⟩, List.mem_of_getElem? (i := 15) (by decide +kernel), List.mem_of_getElem? (i := 445) (by decide +kernel), List.mem_of_getElem? (i := 446) (by decide +kernel)⟩
theorem lw_p19 : lw_okq (⟨"IceField", "countStranded", "()I"⟩, 9) := ⟨⟨by decide +kernel, by decide +kernel⟩, List.mem_of_getElem? (i := 15) (by decide +kernel), List.mem_of_getElem? (i := 453) (by decide +kernel), List.mem_of_getElem? (i := 454) (by decide +kernel)⟩
theorem lw_p20 : lw_okq (⟨"IceField", "cellFact", "(II)I"⟩, 9) := ⟨⟨by decide +kernel, by decide +kernel⟩, List.mem_of_getElem? (i := 15) (by decide +kernel), List.mem_of_getElem? (i := 461) (by decide +kernel), List.mem_of_getElem? (i := 462) (by decide +kernel)⟩
theorem lw_p21 : lw_okq (⟨"IceField", "blockFact", "(II)I"⟩, 9) := ⟨⟨by decide +kernel, by decide +kernel⟩, List.mem_of_getElem? (i := 15) (by decide +kernel), List.mem_of_getElem? (i := 467) (by decide +kernel), List.mem_of_getElem? (i := 468) (by decide +kernel)⟩
theorem lw_p22 : lw_okq (⟨"java/lang/Throwable", "fillInStackTrace", "(I)Ljava/lang/Throwable;"⟩, 6) := ⟨⟨by decide +kernel, by decide +kernel⟩, List.mem_of_getElem? (i := 533) (by decide +kernel), List.mem_of_getElem? (i := 531) (by decide +kernel), List.mem_of_getElem? (i := 532) (by decide +kernel)⟩
theorem lw_p23 : lw_okq (⟨"IceField", "checkCell", "(I)V"⟩, 9) := ⟨⟨by decide +kernel, by decide +kernel⟩, List.mem_of_getElem? (i := 15) (by decide +kernel), List.mem_of_getElem? (i := 572) (by decide +kernel), List.mem_of_getElem? (i := 573) (by decide +kernel)⟩
theorem lw_p24 : lw_okq (⟨"IceField", "checkRectangle", "(III)V"⟩, 9) := ⟨⟨by decide +kernel, by decide +kernel⟩, List.mem_of_getElem? (i := 15) (by decide +kernel), List.mem_of_getElem? (i := 634) (by decide +kernel), List.mem_of_getElem? (i := 635) (by decide +kernel)⟩
theorem lw_p25 : lw_okq (⟨"IceField", "hasWaterIn", "(LIceField$Ice;I)Z"⟩, 9) := ⟨⟨by decide +kernel, by decide +kernel⟩, List.mem_of_getElem? (i := 15) (by decide +kernel), List.mem_of_getElem? (i := 720) (by decide +kernel), List.mem_of_getElem? (i := 721) (by decide +kernel)⟩
theorem lw_p26 : lw_okq (⟨"IceFieldModel", "makes", "(II)V"⟩, 12) := ⟨⟨by decide +kernel, by decide +kernel⟩, List.mem_of_getElem? (i := 746) (by decide +kernel), List.mem_of_getElem? (i := 752) (by decide +kernel), List.mem_of_getElem? (i := 753) (by decide +kernel)⟩
theorem lw_p27 : lw_okq (⟨"IceFieldModel", "puts", "(II)V"⟩, 12) := ⟨⟨by decide +kernel, by decide +kernel⟩, List.mem_of_getElem? (i := 746) (by decide +kernel), List.mem_of_getElem? (i := 756) (by decide +kernel), List.mem_of_getElem? (i := 757) (by decide +kernel)⟩
theorem lw_p28 : lw_okq (⟨"IceFieldModel", "throwing", "(I)I"⟩, 12) := ⟨⟨by decide +kernel, by decide +kernel⟩, List.mem_of_getElem? (i := 746) (by decide +kernel), List.mem_of_getElem? (i := 811) (by decide +kernel), List.mem_of_getElem? (i := 812) (by decide +kernel)⟩
theorem lw_p29 : lw_okq (⟨"IceFieldModel", "save", "()V"⟩, 12) := ⟨⟨by decide +kernel, by decide +kernel⟩, List.mem_of_getElem? (i := 746) (by decide +kernel), List.mem_of_getElem? (i := 815) (by decide +kernel), List.mem_of_getElem? (i := 816) (by decide +kernel)⟩
theorem lw_p30 : lw_okq (⟨"IceFieldModel", "fine", "(I)I"⟩, 12) := ⟨⟨by decide +kernel, by decide +kernel⟩, List.mem_of_getElem? (i := 746) (by decide +kernel), List.mem_of_getElem? (i := 819) (by decide +kernel), List.mem_of_getElem? (i := 820) (by decide +kernel)⟩
theorem lw_p31 : lw_okq (⟨"IceFieldModel", "isCell", "(I)Z"⟩, 12) := ⟨⟨by decide +kernel, by decide +kernel⟩, List.mem_of_getElem? (i := 746) (by decide +kernel), List.mem_of_getElem? (i := 827) (by decide +kernel), List.mem_of_getElem? (i := 828) (by decide +kernel)⟩
def lw_privs_2 : List (MethodName × Nat) := [(⟨"IceField$Text", "mostDigits", "()I"⟩, 4), (⟨"IceField$Text", "leastDigits", "()I"⟩, 4), (⟨"IceField", "fieldFact", "(I)I"⟩, 9), (⟨"IceField", "countStranded", "()I"⟩, 9), (⟨"IceField", "cellFact", "(II)I"⟩, 9), (⟨"IceField", "blockFact", "(II)I"⟩, 9), (⟨"java/lang/Throwable", "fillInStackTrace", "(I)Ljava/lang/Throwable;"⟩, 6), (⟨"IceField", "checkCell", "(I)V"⟩, 9), (⟨"IceField", "checkRectangle", "(III)V"⟩, 9), (⟨"IceField", "hasWaterIn", "(LIceField$Ice;I)Z"⟩, 9), (⟨"IceFieldModel", "makes", "(II)V"⟩, 12), (⟨"IceFieldModel", "puts", "(II)V"⟩, 12), (⟨"IceFieldModel", "throwing", "(I)I"⟩, 12), (⟨"IceFieldModel", "save", "()V"⟩, 12), (⟨"IceFieldModel", "fine", "(I)I"⟩, 12), (⟨"IceFieldModel", "isCell", "(I)Z"⟩, 12)]
theorem lw_r2 : ∀ q ∈ lw_privs_2, lw_okq q := List.forall_mem_cons.mpr ⟨lw_p16, List.forall_mem_cons.mpr ⟨lw_p17, List.forall_mem_cons.mpr ⟨lw_p18, List.forall_mem_cons.mpr ⟨lw_p19, List.forall_mem_cons.mpr ⟨lw_p20, List.forall_mem_cons.mpr ⟨lw_p21, List.forall_mem_cons.mpr ⟨lw_p22, List.forall_mem_cons.mpr ⟨lw_p23, List.forall_mem_cons.mpr ⟨lw_p24, List.forall_mem_cons.mpr ⟨lw_p25, List.forall_mem_cons.mpr ⟨lw_p26, List.forall_mem_cons.mpr ⟨lw_p27, List.forall_mem_cons.mpr ⟨lw_p28, List.forall_mem_cons.mpr ⟨lw_p29, List.forall_mem_cons.mpr ⟨lw_p30, List.forall_mem_cons.mpr ⟨lw_p31, fun _ h => absurd h List.not_mem_nil⟩⟩⟩⟩⟩⟩⟩⟩⟩⟩⟩⟩⟩⟩⟩⟩
theorem lw_p32 : lw_okq (⟨"IceFieldModel", "cells", "()I"⟩, 12) := ⟨⟨by decide +kernel, by decide +kernel⟩, List.mem_of_getElem? (i := 746) (by decide +kernel), List.mem_of_getElem? (i := 831) (by decide +kernel), List.mem_of_getElem? (i := 832) (by decide +kernel)⟩
theorem lw_p33 : lw_okq (⟨"IceFieldModel", "canSaw", "(II)Z"⟩, 12) := ⟨⟨by decide +kernel, by decide +kernel⟩, List.mem_of_getElem? (i := 746) (by decide +kernel), List.mem_of_getElem? (i := 840) (by decide +kernel), List.mem_of_getElem? (i := 841) (by decide +kernel)⟩
theorem lw_p34 : lw_okq (⟨"IceFieldModel", "column", "(I)I"⟩, 12) := ⟨⟨by decide +kernel, by decide +kernel⟩, List.mem_of_getElem? (i := 746) (by decide +kernel), List.mem_of_getElem? (i := 844) (by decide +kernel), List.mem_of_getElem? (i := 845) (by decide +kernel)⟩
theorem lw_p35 : lw_okq (⟨"IceFieldModel", "row", "(I)I"⟩, 12) := ⟨⟨by decide +kernel, by decide +kernel⟩, List.mem_of_getElem? (i := 746) (by decide +kernel), List.mem_of_getElem? (i := 848) (by decide +kernel), List.mem_of_getElem? (i := 849) (by decide +kernel)⟩
theorem lw_p36 : lw_okq (⟨"IceFieldModel", "saws", "(II)I"⟩, 12) := ⟨⟨by decide +kernel, by decide +kernel⟩, List.mem_of_getElem? (i := 746) (by decide +kernel), List.mem_of_getElem? (i := 852) (by decide +kernel), List.mem_of_getElem? (i := 853) (by decide +kernel)⟩
theorem lw_p37 : lw_okq (⟨"IceFieldModel", "isCut", "(II)Z"⟩, 12) := ⟨⟨by decide +kernel, by decide +kernel⟩, List.mem_of_getElem? (i := 746) (by decide +kernel), List.mem_of_getElem? (i := 856) (by decide +kernel), List.mem_of_getElem? (i := 857) (by decide +kernel)⟩
theorem lw_p38 : lw_okq (⟨"IceFieldModel", "keeper", "(II)I"⟩, 12) := ⟨⟨by decide +kernel, by decide +kernel⟩, List.mem_of_getElem? (i := 746) (by decide +kernel), List.mem_of_getElem? (i := 860) (by decide +kernel), List.mem_of_getElem? (i := 861) (by decide +kernel)⟩
theorem lw_p39 : lw_okq (⟨"IceFieldModel", "bit", "(II)I"⟩, 12) := ⟨⟨by decide +kernel, by decide +kernel⟩, List.mem_of_getElem? (i := 746) (by decide +kernel), List.mem_of_getElem? (i := 864) (by decide +kernel), List.mem_of_getElem? (i := 865) (by decide +kernel)⟩
theorem lw_p40 : lw_okq (⟨"IceFieldModel", "isRectangle", "(III)Z"⟩, 12) := ⟨⟨by decide +kernel, by decide +kernel⟩, List.mem_of_getElem? (i := 746) (by decide +kernel), List.mem_of_getElem? (i := 872) (by decide +kernel), List.mem_of_getElem? (i := 873) (by decide +kernel)⟩
theorem lw_p41 : lw_okq (⟨"IceFieldModel", "sawsAround", "(III)I"⟩, 12) := ⟨⟨by decide +kernel, by decide +kernel⟩, List.mem_of_getElem? (i := 746) (by decide +kernel), List.mem_of_getElem? (i := 876) (by decide +kernel), List.mem_of_getElem? (i := 877) (by decide +kernel)⟩
theorem lw_p42 : lw_okq (⟨"IceFieldModel", "laysAside", "()V"⟩, 12) := ⟨⟨by decide +kernel, by decide +kernel⟩, List.mem_of_getElem? (i := 746) (by decide +kernel), List.mem_of_getElem? (i := 884) (by decide +kernel), List.mem_of_getElem? (i := 885) (by decide +kernel)⟩
theorem lw_p43 : lw_okq (⟨"IceFieldModel", "takesBack", "()V"⟩, 12) := ⟨⟨by decide +kernel, by decide +kernel⟩, List.mem_of_getElem? (i := 746) (by decide +kernel), List.mem_of_getElem? (i := 888) (by decide +kernel), List.mem_of_getElem? (i := 889) (by decide +kernel)⟩
theorem lw_p44 : lw_okq (⟨"IceFieldModel", "findsBlocks", "()V"⟩, 12) := ⟨⟨by decide +kernel, by decide +kernel⟩, List.mem_of_getElem? (i := 746) (by decide +kernel), List.mem_of_getElem? (i := 896) (by decide +kernel), List.mem_of_getElem? (i := 897) (by decide +kernel)⟩
theorem lw_p45 : lw_okq (⟨"IceFieldModel", "isIce", "(I)Z"⟩, 12) := ⟨⟨by decide +kernel, by decide +kernel⟩, List.mem_of_getElem? (i := 746) (by decide +kernel), List.mem_of_getElem? (i := 900) (by decide +kernel), List.mem_of_getElem? (i := 901) (by decide +kernel)⟩
theorem lw_p46 : lw_okq (⟨"IceFieldModel", "hang", "(III)Z"⟩, 12) := ⟨⟨by decide +kernel, by decide +kernel⟩, List.mem_of_getElem? (i := 746) (by decide +kernel), List.mem_of_getElem? (i := 904) (by decide +kernel), List.mem_of_getElem? (i := 905) (by decide +kernel)⟩
theorem lw_p47 : lw_okq (⟨"IceFieldModel", "joins", "(II)Z"⟩, 12) := ⟨⟨by decide +kernel, by decide +kernel⟩, List.mem_of_getElem? (i := 746) (by decide +kernel), List.mem_of_getElem? (i := 908) (by decide +kernel), List.mem_of_getElem? (i := 909) (by decide +kernel)⟩
def lw_privs_3 : List (MethodName × Nat) := [(⟨"IceFieldModel", "cells", "()I"⟩, 12), (⟨"IceFieldModel", "canSaw", "(II)Z"⟩, 12), (⟨"IceFieldModel", "column", "(I)I"⟩, 12), (⟨"IceFieldModel", "row", "(I)I"⟩, 12), (⟨"IceFieldModel", "saws", "(II)I"⟩, 12), (⟨"IceFieldModel", "isCut", "(II)Z"⟩, 12), (⟨"IceFieldModel", "keeper", "(II)I"⟩, 12), (⟨"IceFieldModel", "bit", "(II)I"⟩, 12), (⟨"IceFieldModel", "isRectangle", "(III)Z"⟩, 12), (⟨"IceFieldModel", "sawsAround", "(III)I"⟩, 12), (⟨"IceFieldModel", "laysAside", "()V"⟩, 12), (⟨"IceFieldModel", "takesBack", "()V"⟩, 12), (⟨"IceFieldModel", "findsBlocks", "()V"⟩, 12), (⟨"IceFieldModel", "isIce", "(I)Z"⟩, 12), (⟨"IceFieldModel", "hang", "(III)Z"⟩, 12), (⟨"IceFieldModel", "joins", "(II)Z"⟩, 12)]
theorem lw_r3 : ∀ q ∈ lw_privs_3, lw_okq q := List.forall_mem_cons.mpr ⟨lw_p32, List.forall_mem_cons.mpr ⟨lw_p33, List.forall_mem_cons.mpr ⟨lw_p34, List.forall_mem_cons.mpr ⟨lw_p35, List.forall_mem_cons.mpr ⟨lw_p36, List.forall_mem_cons.mpr ⟨lw_p37, List.forall_mem_cons.mpr ⟨lw_p38, List.forall_mem_cons.mpr ⟨lw_p39, List.forall_mem_cons.mpr ⟨lw_p40, List.forall_mem_cons.mpr ⟨lw_p41, List.forall_mem_cons.mpr ⟨lw_p42, List.forall_mem_cons.mpr ⟨lw_p43, List.forall_mem_cons.mpr ⟨lw_p44, List.forall_mem_cons.mpr ⟨lw_p45, List.forall_mem_cons.mpr ⟨lw_p46, List.forall_mem_cons.mpr ⟨lw_p47, fun _ h => absurd h List.not_mem_nil⟩⟩⟩⟩⟩⟩⟩⟩⟩⟩⟩⟩⟩⟩⟩⟩
theorem lw_p48 : lw_okq (⟨"IceFieldModel", "way", "(I)I"⟩, 12) := ⟨⟨by decide +kernel, by decide +kernel⟩, List.mem_of_getElem? (i := 746) (by decide +kernel), List.mem_of_getElem? (i := 912) (by decide +kernel), List.mem_of_getElem? (i := 913) (by decide +kernel)⟩
theorem lw_p49 : lw_okq (⟨"IceFieldModel", "isHeld", "(I)Z"⟩, 12) := ⟨⟨by decide +kernel, by decide +kernel⟩, List.mem_of_getElem? (i := 746) (by decide +kernel), List.mem_of_getElem? (i := 916) (by decide +kernel), List.mem_of_getElem? (i := 917) (by decide +kernel)⟩
theorem lw_p50 : lw_okq (⟨"IceFieldModel", "findsWays", "(I)V"⟩, 12) := ⟨⟨by decide +kernel, by decide +kernel⟩, List.mem_of_getElem? (i := 746) (by decide +kernel), List.mem_of_getElem? (i := 920) (by decide +kernel), List.mem_of_getElem? (i := 921) (by decide +kernel)⟩
theorem lw_p51 : lw_okq (⟨"IceFieldModel", "mayLie", "(III)Z"⟩, 12) := ⟨⟨by decide +kernel, by decide +kernel⟩, List.mem_of_getElem? (i := 746) (by decide +kernel), List.mem_of_getElem? (i := 924) (by decide +kernel), List.mem_of_getElem? (i := 925) (by decide +kernel)⟩
theorem lw_p52 : lw_okq (⟨"IceFieldModel", "isBeside", "(II)Z"⟩, 12) := ⟨⟨by decide +kernel, by decide +kernel⟩, List.mem_of_getElem? (i := 746) (by decide +kernel), List.mem_of_getElem? (i := 928) (by decide +kernel), List.mem_of_getElem? (i := 929) (by decide +kernel)⟩
theorem lw_p53 : lw_okq (⟨"IceFieldModel", "sizeOf", "(IZ)I"⟩, 12) := ⟨⟨by decide +kernel, by decide +kernel⟩, List.mem_of_getElem? (i := 746) (by decide +kernel), List.mem_of_getElem? (i := 936) (by decide +kernel), List.mem_of_getElem? (i := 937) (by decide +kernel)⟩
theorem lw_p54 : lw_okq (⟨"IceFieldModel", "takes", "(I)V"⟩, 12) := ⟨⟨by decide +kernel, by decide +kernel⟩, List.mem_of_getElem? (i := 746) (by decide +kernel), List.mem_of_getElem? (i := 940) (by decide +kernel), List.mem_of_getElem? (i := 941) (by decide +kernel)⟩
theorem lw_p55 : lw_okq (⟨"IceFieldModel", "takesAll", "()I"⟩, 12) := ⟨⟨by decide +kernel, by decide +kernel⟩, List.mem_of_getElem? (i := 746) (by decide +kernel), List.mem_of_getElem? (i := 948) (by decide +kernel), List.mem_of_getElem? (i := 949) (by decide +kernel)⟩
theorem lw_p56 : lw_okq (⟨"IceFieldModel", "nextLoose", "(IZ)I"⟩, 12) := ⟨⟨by decide +kernel, by decide +kernel⟩, List.mem_of_getElem? (i := 746) (by decide +kernel), List.mem_of_getElem? (i := 952) (by decide +kernel), List.mem_of_getElem? (i := 953) (by decide +kernel)⟩
theorem lw_p57 : lw_okq (⟨"IceFieldModel", "day", "()I"⟩, 12) := ⟨⟨by decide +kernel, by decide +kernel⟩, List.mem_of_getElem? (i := 746) (by decide +kernel), List.mem_of_getElem? (i := 965) (by decide +kernel), List.mem_of_getElem? (i := 966) (by decide +kernel)⟩
theorem lw_p58 : lw_okq (⟨"IceFieldModel", "waterBeside", "(I)I"⟩, 12) := ⟨⟨by decide +kernel, by decide +kernel⟩, List.mem_of_getElem? (i := 746) (by decide +kernel), List.mem_of_getElem? (i := 969) (by decide +kernel), List.mem_of_getElem? (i := 970) (by decide +kernel)⟩
theorem lw_p59 : lw_okq (⟨"IceFieldModel", "cellOf", "(II)I"⟩, 12) := ⟨⟨by decide +kernel, by decide +kernel⟩, List.mem_of_getElem? (i := 746) (by decide +kernel), List.mem_of_getElem? (i := 978) (by decide +kernel), List.mem_of_getElem? (i := 979) (by decide +kernel)⟩
theorem lw_p60 : lw_okq (⟨"IceFieldModel", "blockOf", "(II)I"⟩, 12) := ⟨⟨by decide +kernel, by decide +kernel⟩, List.mem_of_getElem? (i := 746) (by decide +kernel), List.mem_of_getElem? (i := 987) (by decide +kernel), List.mem_of_getElem? (i := 988) (by decide +kernel)⟩
theorem lw_p61 : lw_okq (⟨"IceFieldModel", "valueOf", "(I)I"⟩, 12) := ⟨⟨by decide +kernel, by decide +kernel⟩, List.mem_of_getElem? (i := 746) (by decide +kernel), List.mem_of_getElem? (i := 1000) (by decide +kernel), List.mem_of_getElem? (i := 1001) (by decide +kernel)⟩
theorem lw_p62 : lw_okq (⟨"IceFieldModel", "blocks", "(I)I"⟩, 12) := ⟨⟨by decide +kernel, by decide +kernel⟩, List.mem_of_getElem? (i := 746) (by decide +kernel), List.mem_of_getElem? (i := 1004) (by decide +kernel), List.mem_of_getElem? (i := 1005) (by decide +kernel)⟩
theorem lw_p63 : lw_okq (⟨"IceFieldModel", "sum", "(I)I"⟩, 12) := ⟨⟨by decide +kernel, by decide +kernel⟩, List.mem_of_getElem? (i := 746) (by decide +kernel), List.mem_of_getElem? (i := 1008) (by decide +kernel), List.mem_of_getElem? (i := 1009) (by decide +kernel)⟩
def lw_privs_4 : List (MethodName × Nat) := [(⟨"IceFieldModel", "way", "(I)I"⟩, 12), (⟨"IceFieldModel", "isHeld", "(I)Z"⟩, 12), (⟨"IceFieldModel", "findsWays", "(I)V"⟩, 12), (⟨"IceFieldModel", "mayLie", "(III)Z"⟩, 12), (⟨"IceFieldModel", "isBeside", "(II)Z"⟩, 12), (⟨"IceFieldModel", "sizeOf", "(IZ)I"⟩, 12), (⟨"IceFieldModel", "takes", "(I)V"⟩, 12), (⟨"IceFieldModel", "takesAll", "()I"⟩, 12), (⟨"IceFieldModel", "nextLoose", "(IZ)I"⟩, 12), (⟨"IceFieldModel", "day", "()I"⟩, 12), (⟨"IceFieldModel", "waterBeside", "(I)I"⟩, 12), (⟨"IceFieldModel", "cellOf", "(II)I"⟩, 12), (⟨"IceFieldModel", "blockOf", "(II)I"⟩, 12), (⟨"IceFieldModel", "valueOf", "(I)I"⟩, 12), (⟨"IceFieldModel", "blocks", "(I)I"⟩, 12), (⟨"IceFieldModel", "sum", "(I)I"⟩, 12)]
theorem lw_r4 : ∀ q ∈ lw_privs_4, lw_okq q := List.forall_mem_cons.mpr ⟨lw_p48, List.forall_mem_cons.mpr ⟨lw_p49, List.forall_mem_cons.mpr ⟨lw_p50, List.forall_mem_cons.mpr ⟨lw_p51, List.forall_mem_cons.mpr ⟨lw_p52, List.forall_mem_cons.mpr ⟨lw_p53, List.forall_mem_cons.mpr ⟨lw_p54, List.forall_mem_cons.mpr ⟨lw_p55, List.forall_mem_cons.mpr ⟨lw_p56, List.forall_mem_cons.mpr ⟨lw_p57, List.forall_mem_cons.mpr ⟨lw_p58, List.forall_mem_cons.mpr ⟨lw_p59, List.forall_mem_cons.mpr ⟨lw_p60, List.forall_mem_cons.mpr ⟨lw_p61, List.forall_mem_cons.mpr ⟨lw_p62, List.forall_mem_cons.mpr ⟨lw_p63, fun _ h => absurd h List.not_mem_nil⟩⟩⟩⟩⟩⟩⟩⟩⟩⟩⟩⟩⟩⟩⟩⟩
theorem lw_p64 : lw_okq (⟨"IceFieldModel", "kept", "()I"⟩, 12) := ⟨⟨by decide +kernel, by decide +kernel⟩, List.mem_of_getElem? (i := 746) (by decide +kernel), List.mem_of_getElem? (i := 1016) (by decide +kernel), List.mem_of_getElem? (i := 1017) (by decide +kernel)⟩
theorem lw_p65 : lw_okq (⟨"IceFieldModel", "takableNow", "()I"⟩, 12) := ⟨⟨by decide +kernel, by decide +kernel⟩, List.mem_of_getElem? (i := 746) (by decide +kernel), List.mem_of_getElem? (i := 1024) (by decide +kernel), List.mem_of_getElem? (i := 1025) (by decide +kernel)⟩
theorem lw_p66 : lw_okq (⟨"IceFieldModel", "isWhole", "(I)Z"⟩, 12) := ⟨⟨by decide +kernel, by decide +kernel⟩, List.mem_of_getElem? (i := 746) (by decide +kernel), List.mem_of_getElem? (i := 1036) (by decide +kernel), List.mem_of_getElem? (i := 1037) (by decide +kernel)⟩
theorem lw_p67 : lw_okq (⟨"IceFieldModel", "fault", "()I"⟩, 12) := ⟨⟨by decide +kernel, by decide +kernel⟩, List.mem_of_getElem? (i := 746) (by decide +kernel), List.mem_of_getElem? (i := 1065) (by decide +kernel), List.mem_of_getElem? (i := 1066) (by decide +kernel)⟩
theorem lw_p68 : lw_okq (⟨"IceFieldModel", "behindDigits", "(II)I"⟩, 12) := ⟨⟨by decide +kernel, by decide +kernel⟩, List.mem_of_getElem? (i := 746) (by decide +kernel), List.mem_of_getElem? (i := 1069) (by decide +kernel), List.mem_of_getElem? (i := 1070) (by decide +kernel)⟩
theorem lw_p69 : lw_okq (⟨"IceFieldModel", "here", "(I)I"⟩, 12) := ⟨⟨by decide +kernel, by decide +kernel⟩, List.mem_of_getElem? (i := 746) (by decide +kernel), List.mem_of_getElem? (i := 1073) (by decide +kernel), List.mem_of_getElem? (i := 1074) (by decide +kernel)⟩
def lw_privs_5 : List (MethodName × Nat) := [(⟨"IceFieldModel", "kept", "()I"⟩, 12), (⟨"IceFieldModel", "takableNow", "()I"⟩, 12), (⟨"IceFieldModel", "isWhole", "(I)Z"⟩, 12), (⟨"IceFieldModel", "fault", "()I"⟩, 12), (⟨"IceFieldModel", "behindDigits", "(II)I"⟩, 12), (⟨"IceFieldModel", "here", "(I)I"⟩, 12)]
theorem lw_r5 : ∀ q ∈ lw_privs_5, lw_okq q := List.forall_mem_cons.mpr ⟨lw_p64, List.forall_mem_cons.mpr ⟨lw_p65, List.forall_mem_cons.mpr ⟨lw_p66, List.forall_mem_cons.mpr ⟨lw_p67, List.forall_mem_cons.mpr ⟨lw_p68, List.forall_mem_cons.mpr ⟨lw_p69, fun _ h => absurd h List.not_mem_nil⟩⟩⟩⟩⟩⟩
def lw_privs : List (MethodName × Nat) := lw_privs_1 ++ (lw_privs_2 ++ (lw_privs_3 ++ (lw_privs_4 ++ (lw_privs_5))))
def lw_tbl : List Cond := k2_sels lw_privs ++ tables_1
theorem lw_privs_ok : ∀ q ∈ lw_privs, lw_okq q := by
  show ∀ q ∈ lw_privs_1 ++ (lw_privs_2 ++ (lw_privs_3 ++ (lw_privs_4 ++ (lw_privs_5)))), lw_okq q
  exact List.forall_mem_append.mpr ⟨lw_r1, List.forall_mem_append.mpr ⟨lw_r2, List.forall_mem_append.mpr ⟨lw_r3, List.forall_mem_append.mpr ⟨lw_r4, lw_r5⟩⟩⟩⟩
/-- the streams that the claim lets the run draw from -/
abbrev lw_cs : List Choice := [Jvm.Choice.named "NaN.bits"]
theorem lw_bits : nanBits ∈ lw_cs := by first | decide | exact List.mem_cons_self | simp [lw_cs, nanBits]
end
section
/-! ===== BEGIN words of one list among another's, by their places ===== -/
theorem goodIn_r {big : List Cond} (ws : List Cond) (ps : List Nat) (hp : ws = ps.filterMap (fun i => big[i]?)) (h : ws.all goodWord = true) : GoodIn big ws := by
  intro w hw
  have h1 := List.all_eq_true.mp h w hw
  rw [hp] at hw
  obtain ⟨i, -, hi⟩ := List.mem_filterMap.mp hw
  have hm : w ∈ big := by first | exact List.mem_of_getElem? hi | exact List.getElem?_mem hi
  exact ⟨hm, good_of_word h1⟩
theorem goodIn_app {big a b : List Cond} (ha : GoodIn big a) (hb : GoodIn big b) : GoodIn big (a ++ b) := fun w h => (List.mem_append.mp h).elim (ha w) (hb w)
theorem goodIn_ca {big a b : List Cond} {c : Cond} (ha : GoodIn big (c :: a)) (hb : GoodIn big b) : GoodIn big (c :: (a ++ b)) := fun w h => (List.mem_cons.mp h).elim (fun e => ha w (List.mem_cons.mpr (Or.inl e))) (fun h => (List.mem_append.mp h).elim (fun h => ha w (List.mem_cons.mpr (Or.inr h))) (hb w))
theorem goodIn_sub {big ws : List Cond} (hm : ∀ w ∈ ws, w ∈ big) (h : ws.all goodWord = true) : GoodIn big ws := fun w hw => ⟨hm w hw, good_of_word (List.all_eq_true.mp h w hw)⟩
/-! ===== END ===== -/

/-! ===== BEGIN exceptions that leave a method, and their catching by the caller (launches without stack traces) ===== -/
section VXA
/-! The laws vx_back, vx_callV, vx_callS, vx_callSW, vx_throw0, vx_throwS follow proofs of the library, with one case more: JvmDerived/Free/Laws.lean (Back.of_free), Shelf42/LK1.lean (callV, callS), Shelf/KitTraced.lean (throwNew0V, throwNewS). -/
/-- where a method has thrown q: the class by its name, the cell, what was written, the world -/
def vx_T (XC : String → State → State → Prop) (st : State) (q : Addr) (t : State) (mc ms : Nat) (free : Addr → Prop) : Prop :=
  ∃ (E : String) (ce : Cell) (L : List Loc), XC E st t ∧ t.heap[q]? = some ce ∧ ce.vm = .none ∧ st.vm.findClass E = some ce.cls ∧ st.WarmedH t.vm ∧ st.sameButNew ({ t with vm := st.vm } : State) L mc ms ∧ ∀ z ∈ L, free z.base
def vx_Q (Qc : Array Value → State → Outcome → State → Prop) (XC : String → State → State → Prop) (mc ms : Nat) (free : Addr → Prop) : Array Value → State → Outcome → State → Prop := fun a st o t =>
  (Qc a st o t ∧ ∃ L, FrameEnd st o t L mc ms ∧ ∀ q ∈ L, free q.base) ∨ ∃ q, o = .threw q ∧ vx_T XC st q t mc ms free
/-- a callee that returns or throws -/
def vx_Met (l : Launch) (y : MethodName) (ws : List Cond) (rm : Room) (Pc : Array Value → State → Prop) (Qc : Array Value → State → Outcome → State → Prop) (XC : String → State → State → Prop) (mc ms : Nat) (free : Addr → Prop) : Prop :=
  MetFree l y (headSpec ws rm) Pc (fun _ _ _ _ _ => True) (vx_Q Qc XC mc ms free)
def vx_Post (XC : String → State → State → Prop) (mc ms : Nat) (free : Addr → Prop) : Pt → Array Value → Addr → Pt → Prop := fun A a q B =>
  ∃ (g : JFrame) (mk : MethodId) (t : State) (L : List Loc) (E : String) (ce : Cell), B.U.heap = t.heap ∧ B.U.vm = t.vm ∧ XC E (A.U.calling g mk a) t ∧ t.heap[q]? = some ce ∧ ce.vm = .none ∧ A.U.vm.findClass E = some ce.cls ∧ B.locs = A.locs ++ L ∧ (∀ z ∈ L, free z.base) ∧ B.cells = A.cells + mc ∧ B.slots = A.slots + ms
def vx_Back (l : Launch) (R : Room) (p : Program) (e : Env) (below : List Frame) (s : State) (sargs : Array Value) (y : MethodName) (len W9 : Nat)
    (Pre : Pt → Array Value → Prop) (Post : Pt → Array Value → Option Value → Pt → Prop) (PostX : Pt → Array Value → Addr → Pt → Prop) : Prop :=
  ∀ (m : MethodId) (meth : Method) (c : Code) (A : Pt) (g : JFrame) (ig : Instr) (mk : MethodId) (a : Array Value),
    Stand p l e R s m sargs below meth c A.U A.locs A.cells A.slots → g.method = m → g.locals.size = c.maxLocals → decode c.code g.pc = .ok (ig, len) →
    2 * g.monitorRoom + (g.stack.map fun v => v.category).sum ≤ W9 → A.U.methodNamed? y = some mk → Pre A a →
    (∃ (v : Option Value) (B : Pt), Stand p l e R s m sargs below meth c B.U B.locs B.cells B.slots ∧ Post A a v B ∧
      Steps p.tables e below (doInvoke e (A.U.setTop g) [] mk a).1 (B.U.setTop { g with pc := g.pc + len, stack := v.toList ++ g.stack })) ∨
    (∃ (q : Addr) (B : Pt), Stand p l e R s m sargs below meth c B.U B.locs B.cells B.slots ∧ PostX A a q B ∧
      Steps p.tables e below (doInvoke e (A.U.setTop g) [] mk a).1 ((B.U.setTop g).pushFrame (.throwing q)))
section Payer
variable {l : Launch} {R : Room} {p : Program} {e : Env} {below : List Frame} {s : State} {sargs : Array Value} {y : MethodName} {len W9 : Nat}
theorem vx_back {ws : List Cond} {rm : Room} {Pc : Array Value → State → Prop} {Qc : Array Value → State → Outcome → State → Prop} {XC : String → State → State → Prop} {mc ms : Nat} {free : Addr → Prop} {bytes : ByteArray} {maxL : Nat} {ret : Option FieldType}
    (hM : vx_Met l y ws rm Pc Qc XC mc ms free) (hblind : FrameBlind Pc) (hrc : rm.cells = mc) (hrs : rm.slots = ms)
    (hframes : rm.frames + 1 ≤ R.frames) (hlocals : W9 + (maxL + 11) + rm.locals ≤ R.locals)
    (hws : ∀ w ∈ ws, ∀ a' U, s.WarmedH U.vm → w.before a' U = true) (hcode : Cond.code y bytes maxL ret ∈ ws) (hinit : ∀ a' U, s.WarmedH U.vm → (Cond.initialized y.cls).before a' U = true) :
    vx_Back l R p e below s sargs y len W9 (PreOf R mc ms Pc) (PostOf Qc mc ms free) (vx_Post XC mc ms free) := by
  intro m meth c A g ig mk a X hg hsize hdg hW hn hp
  have h1 : (headSpec ws rm).pre.before a A.U = true := atoms_intro fun w hw => hws w hw _ _ X.warmed
  have h2 : (Cond.code y bytes maxL ret).before a A.U = true := hws _ hcode _ _ X.warmed
  have h3 : (Cond.initialized y.cls).before a A.U = true := hinit _ _ X.warmed
  have h4 : A.cells + (headSpec ws rm).room.cells ≤ R.cells := by rw [show (headSpec ws rm).room.cells = mc from hrc]; exact hp.1
  have h5 : A.slots + (headSpec ws rm).room.slots ≤ R.slots := by rw [show (headSpec ws rm).room.slots = ms from hrs]; exact hp.2.1
  have hPc : Pc a (A.U.calling g mk a) := hblind _ _ _ _ hp.2.2
  obtain ⟨U, Ls, c0, s0⟩ := A
  dsimp only [Pt.U, Pt.locs, Pt.cells, Pt.slots] at h1 h2 h3 h4 h5 X hn hPc ⊢
  obtain ⟨methY, cY, hmY, hcY, -, hlY, -, -, -, -⟩ := Cond.code_spec hn h2
  obtain ⟨kY, hkY, -⟩ := className_of_methodNamed hn
  have hinitY : kY.init = .initialized := Cond.initialized_spec (findClass_of_methodNamed hn) hkY h3
  have h : At U g.method c below := by rw [hg]; exact X.here
  have hlocals9 : W9 + (maxL + 11) + (headSpec ws rm).room.locals ≤ R.locals := hlocals
  have happ : (headSpec ws rm).appliesLoose y e.platform (U.calling g mk a) = true :=
    Spec.appliesLoose_calling (g := g) h hdg hn hkY hinitY
      (X.room_calling (g := g) (R' := (headSpec ws rm).room) hsize hmY hcY hframes (by rw [hlY]; omega) h4 h5) h1
  obtain ⟨mid, hmid⟩ := h.above
  have hfr : (U.setTop g).frames = (.java g :: mid) ++ below := by rw [State.frames_setTop' g h.top, hmid]; rfl
  obtain ⟨o, s₂, hsteps, -, hend, hq⟩ := Steps.callFree hM p X.admits X.cas X.clock (acts := []) hfr happ hPc trivial
  have hq' : vx_Q Qc XC mc ms free a (U.calling g mk a) o s₂ := hq
  rw [State.frames_setTop' g h.top] at hend
  obtain ⟨g₀, hg0⟩ := Option.isSome_iff_exists.mp h.top
  obtain ⟨r, hr⟩ := State.topJava?_eq_some.mp hg0
  have hr' : (({ U with heap := s₂.heap, slotsUsed := s₂.slotsUsed } : State).setVm s₂.vm).frames = .java g₀ :: r := hr
  rcases hq' with ⟨hqc, L, hfe, hL⟩ | ⟨q, rfl, E, ce, L, hx, hce, hcv, hcl, hW₂, hsm, hL⟩
  · obtain ⟨⟨v, rfl⟩, hW₂, e2, q2, q3, q4, q5, q6⟩ := id hfe
    have e3 : s₂ = ({ (U.calling g mk a).setFrames s₂.frames with heap := s₂.heap, slotsUsed := s₂.slotsUsed } : State).setVm s₂.vm := by
      have : s₂ = ({ s₂ with vm := (U.calling g mk a).vm } : State).setVm s₂.vm := rfl
      rw [e2] at this
      exact this
    obtain ⟨c₂, i₂, len₂, hc₂, hd₂, hf₂⟩ := hend
    have hW' : U.WarmedH s₂.vm := hW₂
    have hcc : c₂ = c := by
      have h1 : s₂.code? g.method = U.code? g.method := by
        rw [State.code?_eq, State.code?_eq, hW'.alike.method?]
      exact Option.some.inj (hc₂.symm.trans (h1.trans h.code))
    subst hcc
    have hlen : len₂ = len := by rw [hdg] at hd₂; cases hd₂; rfl
    subst hlen
    have hs₂ : s₂ = (({ U with heap := s₂.heap, slotsUsed := s₂.slotsUsed } : State).setVm s₂.vm).setTop { g with pc := g.pc + len₂, stack := v.toList ++ g.stack } := by
      refine e3.trans ?_
      rw [hf₂, State.calling_eq h.top, State.setFrames_setFrames, State.setTop_of_frames _ hr', hr]
      rfl
    have hsame : U.sameButNew ({ U with heap := s₂.heap, slotsUsed := s₂.slotsUsed } : State) L mc ms := by
      refine ⟨?_, q2, q3, q4, q5, q6⟩
      obtain ⟨t, ht, -⟩ := State.frames_cons hr
      show ({ U with heap := s₂.heap, slotsUsed := s₂.slotsUsed } : State) = { U.setFrames U.frames with heap := s₂.heap, slotsUsed := s₂.slotsUsed }
      rw [State.setFrames_self ht]
    subst hg
    refine Or.inl ⟨v, ⟨(({ U with heap := s₂.heap, slotsUsed := s₂.slotsUsed } : State).setVm s₂.vm), Ls ++ L, c0 + mc, s0 + ms⟩,
      ⟨X.admits, X.cas, X.clock, X.frames, X.room, X.hears, X.method, X.code, (X.here.setHeapUsed s₂.heap s₂.slotsUsed).setVm hW'.alike, X.tail, State.WarmedH.trans X.warmed hW', X.limits, X.bytes, X.same.trans (hsame.setVm s.vm)⟩,
      ⟨g, mk, s₂, L, rfl, rfl, hqc, rfl, hL, rfl, rfl⟩, ?_⟩
    show Steps p.tables e below _ ((({ U with heap := s₂.heap, slotsUsed := s₂.slotsUsed } : State).setVm s₂.vm).setTop { g with pc := g.pc + len₂, stack := v.toList ++ g.stack })
    rw [← hs₂]
    exact hsteps
  · obtain ⟨e2, q2, q3, q4, q5, q6⟩ := id hsm
    have e3 : s₂ = ({ (U.calling g mk a).setFrames s₂.frames with heap := s₂.heap, slotsUsed := s₂.slotsUsed } : State).setVm s₂.vm := by
      have : s₂ = ({ s₂ with vm := (U.calling g mk a).vm } : State).setVm s₂.vm := rfl
      rw [e2] at this
      exact this
    have hf₂ : s₂.frames = .throwing q :: .java g :: U.frames.tail := hend
    have hW' : U.WarmedH s₂.vm := hW₂
    have hs₂ : s₂ = ((({ U with heap := s₂.heap, slotsUsed := s₂.slotsUsed } : State).setVm s₂.vm).setTop g).pushFrame (.throwing q) := by
      refine e3.trans ?_
      rw [hf₂, State.calling_eq h.top, State.setFrames_setFrames, State.pushFrame, State.frames_setTop _ hr', State.setTop_of_frames _ hr', State.setFrames_setFrames, hr]
      rfl
    have hsame : U.sameButNew ({ U with heap := s₂.heap, slotsUsed := s₂.slotsUsed } : State) L mc ms := by
      refine ⟨?_, q2, q3, q4, q5, q6⟩
      obtain ⟨t, ht, -⟩ := State.frames_cons hr
      show ({ U with heap := s₂.heap, slotsUsed := s₂.slotsUsed } : State) = { U.setFrames U.frames with heap := s₂.heap, slotsUsed := s₂.slotsUsed }
      rw [State.setFrames_self ht]
    subst hg
    refine Or.inr ⟨q, ⟨(({ U with heap := s₂.heap, slotsUsed := s₂.slotsUsed } : State).setVm s₂.vm), Ls ++ L, c0 + mc, s0 + ms⟩,
      ⟨X.admits, X.cas, X.clock, X.frames, X.room, X.hears, X.method, X.code, (X.here.setHeapUsed s₂.heap s₂.slotsUsed).setVm hW'.alike, X.tail, State.WarmedH.trans X.warmed hW', X.limits, X.bytes, X.same.trans (hsame.setVm s.vm)⟩,
      ⟨g, mk, s₂, L, E, ce, rfl, rfl, hx, hce, hcv, hcl, rfl, hL, rfl, rfl⟩, ?_⟩
    show Steps p.tables e below _ (((({ U with heap := s₂.heap, slotsUsed := s₂.slotsUsed } : State).setVm s₂.vm).setTop g).pushFrame (.throwing q))
    rw [← hs₂]
    exact hsteps
end Payer
section Calls
variable {p : Program} {l : Launch} {e : Env} {R : Room} {s : State} {m : MethodId} {args : Array Value} {below : List Frame} {meth : Method} {c : Code} {T : State} {locs : List Loc} {cells slots : Nat}
theorem vx_callV (X : Stand p l e R s m args below meth c T locs cells slots) (hexec : p.tables.exec = Jvm.exec) {own C : String} {index : Nat} {y : MethodName} {bytes : ByteArray} {maxL : Nat} {ret : Option FieldType}
    (hown : s.vm.findClass own = some m.cls) (hlink : (Cond.methodLink own index y).before args s = true) (hinst : (Cond.instanceMethod y).before args s = true) (hsel : (Cond.selects C y y).before args s = true)
    (hcode : (Cond.code y bytes maxL ret).before args s = true) (hy : y.cls ≠ "java/lang/invoke/MethodHandle" ∧ y.cls ≠ "java/lang/invoke/VarHandle")
    {W9 : Nat} {Pre : Pt → Array Value → Prop} {Post : Pt → Array Value → Option Value → Pt → Prop} {PostX : Pt → Array Value → Addr → Pt → Prop} (hK : vx_Back l R p e below s args y 3 W9 Pre Post PostX)
    {b : Addr} {cellB : Cell} (hcell : T.heap[b]? = some cellB) (hobj : cellB.vm.isStatics = false) (hcls : s.vm.findClass C = some cellB.cls)
    {g : JFrame} (hg : g.method = m) (hsize : g.locals.size = c.maxLocals) {argsL rest : List Value} (hlen : ∀ sig, parseMethodDescriptor y.desc = some sig → argsL.length = sig.parameters.length)
    (hstack : g.stack = argsL.reverse ++ .ref b :: rest) (hW : 2 * g.monitorRoom + (rest.map fun v => v.category).sum ≤ W9) (hdg : decode c.code g.pc = .ok (.invokevirtual index, 3))
    (hpre : ∀ vm₁, s.WarmedH vm₁ → Pre ⟨T.setVm vm₁, locs, cells, slots⟩ (Value.ref b :: argsL).toArray) :
    (∃ (v : Option Value) (vm₁ : Vm) (B : Pt), s.WarmedH vm₁ ∧ Stand p l e R s m args below meth c B.U B.locs B.cells B.slots ∧ Post ⟨T.setVm vm₁, locs, cells, slots⟩ (Value.ref b :: argsL).toArray v B ∧
      ∀ target, Steps p.tables e below (B.U.setTop { g with pc := g.pc + 3, stack := v.toList ++ rest }) target → Steps p.tables e below (T.setTop g) target) ∨
    (∃ (q : Addr) (vm₁ : Vm) (B : Pt), s.WarmedH vm₁ ∧ Stand p l e R s m args below meth c B.U B.locs B.cells B.slots ∧ PostX ⟨T.setVm vm₁, locs, cells, slots⟩ (Value.ref b :: argsL).toArray q B ∧
      Steps p.tables e below (T.setTop g) ((B.U.setTop { g with stack := rest }).pushFrame (.throwing q))) := by
  obtain ⟨mk, methM, hnamed, hmethM, hstM, habM⟩ := Cond.instanceMethod_spec hinst
  obtain ⟨methM', cM, hmethM', -, -, -, -, -, -, hsigM⟩ := Cond.code_spec hnamed hcode
  cases hmethM.symm.trans hmethM'
  obtain ⟨c2, r2, m2, q1, q2, q3, q4, kP, hkP, hkPi⟩ := Cond.selects_spec hsel
  cases hcls.symm.trans q1
  cases (State.methodFound?_of_named hnamed hy).symm.trans q2
  cases hnamed.symm.trans q3
  have hselP : selectMethod e.platform s.vm cellB.cls mk = .method mk := by rw [Launch.admits_selectMethod X.admits]; exact q4
  obtain ⟨vm₁, X₁, hstep₁⟩ := X.invokevirtual hexec hown hlink hnamed hmethM hstM hkP hkPi hy (a := b) (cell := cellB) hcell
    (fun z h => by rw [h] at hobj; cases hobj) hselP hmethM habM hkP hkPi (g := g) hg (argsL := argsL) (rest := rest) (hlen _ hsigM) hstack hdg
  rcases hK m meth c ⟨T.setVm vm₁, locs, cells, slots⟩ { g with stack := rest } (.invokevirtual index) mk (Value.ref b :: argsL).toArray X₁ hg hsize hdg hW (X₁.named hnamed) (hpre vm₁ X₁.warmed) with ⟨v, B, X', hpost, hsteps⟩ | ⟨q, B, X', hpost, hsteps⟩
  · exact Or.inl ⟨v, vm₁, B, X₁.warmed, X', hpost, fun target h => hstep₁ _ fun acts => by rw [doInvoke_state]; exact hsteps.trans h⟩
  · exact Or.inr ⟨q, vm₁, B, X₁.warmed, X', hpost, hstep₁ _ fun acts => by rw [doInvoke_state]; exact hsteps⟩
theorem vx_callS (X : Stand p l e R s m args below meth c T locs cells slots) (hexec : p.tables.exec = Jvm.exec) {own : String} {index : Nat} {y : MethodName} {bytes : ByteArray} {maxL : Nat} {ret : Option FieldType}
    (hown : s.vm.findClass own = some m.cls) (hlink : (Cond.methodLink own index y).before args s = true) (hstat : (Cond.static y).before args s = true) (hinit : (Cond.initialized y.cls).before args s = true)
    (hcode : (Cond.code y bytes maxL ret).before args s = true) (hy : y.cls ≠ "java/lang/invoke/MethodHandle" ∧ y.cls ≠ "java/lang/invoke/VarHandle")
    {W9 : Nat} {Pre : Pt → Array Value → Prop} {Post : Pt → Array Value → Option Value → Pt → Prop} {PostX : Pt → Array Value → Addr → Pt → Prop} (hK : vx_Back l R p e below s args y 3 W9 Pre Post PostX)
    {g : JFrame} (hg : g.method = m) (hsize : g.locals.size = c.maxLocals) {argsL rest : List Value} (hlen : ∀ sig, parseMethodDescriptor y.desc = some sig → argsL.length = sig.parameters.length)
    (hstack : g.stack = argsL.reverse ++ rest) (hW : 2 * g.monitorRoom + (rest.map fun v => v.category).sum ≤ W9) (hdg : decode c.code g.pc = .ok (.invokestatic index, 3))
    (hpre : ∀ vm₁, s.WarmedH vm₁ → Pre ⟨T.setVm vm₁, locs, cells, slots⟩ argsL.toArray) :
    (∃ (v : Option Value) (vm₁ : Vm) (B : Pt), s.WarmedH vm₁ ∧ Stand p l e R s m args below meth c B.U B.locs B.cells B.slots ∧ Post ⟨T.setVm vm₁, locs, cells, slots⟩ argsL.toArray v B ∧
      ∀ target, Steps p.tables e below (B.U.setTop { g with pc := g.pc + 3, stack := v.toList ++ rest }) target → Steps p.tables e below (T.setTop g) target) ∨
    (∃ (q : Addr) (vm₁ : Vm) (B : Pt), s.WarmedH vm₁ ∧ Stand p l e R s m args below meth c B.U B.locs B.cells B.slots ∧ PostX ⟨T.setVm vm₁, locs, cells, slots⟩ argsL.toArray q B ∧
      Steps p.tables e below (T.setTop g) ((B.U.setTop { g with stack := rest }).pushFrame (.throwing q))) := by
  obtain ⟨mk, hnamed⟩ := Cond.code_named hcode
  obtain ⟨methM, cM, hmethM, -, -, -, -, -, -, hsigM⟩ := Cond.code_spec hnamed hcode
  have hstatic : methM.isStatic = true := Cond.static_spec hnamed hmethM hstat
  obtain ⟨kP, hkP, -⟩ := className_of_methodNamed hnamed
  have hinitP : kP.init = .initialized := Cond.initialized_spec (findClass_of_methodNamed hnamed) hkP hinit
  obtain ⟨vm₁, X₁, hstep₁⟩ := X.invokestatic hexec hown hlink hnamed hmethM hstatic hkP hinitP hy (g := g) hg (argsL := argsL) (rest := rest) (hlen _ hsigM) hstack hdg
  rcases hK m meth c ⟨T.setVm vm₁, locs, cells, slots⟩ { g with stack := rest } (.invokestatic index) mk argsL.toArray X₁ hg hsize hdg hW (X₁.named hnamed) (hpre vm₁ X₁.warmed) with ⟨v, B, X', hpost, hsteps⟩ | ⟨q, B, X', hpost, hsteps⟩
  · exact Or.inl ⟨v, vm₁, B, X₁.warmed, X', hpost, fun target h => hstep₁ _ fun acts => by rw [doInvoke_state]; exact hsteps.trans h⟩
  · exact Or.inr ⟨q, vm₁, B, X₁.warmed, X', hpost, hstep₁ _ fun acts => by rw [doInvoke_state]; exact hsteps⟩
end Calls
theorem vx_cls {s : State} {T : State} {vm₁ : Vm} {E : String} {k : ClassId} (hW : s.WarmedH vm₁) (h : (T.setVm vm₁).vm.findClass E = some k) : s.vm.findClass E = some k := by
  have h1 : vm₁.findClass E = some k := h
  rw [hW.alike.findClass] at h1
  exact h1
/-- the method's frame g, with q thrown over it -/
def vx_W (p : Program) (l : Launch) (e : Env) (R : Room) (s : State) (m : MethodId) (args : Array Value) (below : List Frame) (meth : Method) (c : Code) (H : Heap) (locs : List Loc) (cells slots : Nat) (Q : State → Prop) (g : JFrame) (q : Addr) : Prop :=
  ∀ T : State, T.heap = H → Stand p l e R s m args below meth c T locs cells slots → ∃ t, Steps p.tables e below ((T.setTop g).pushFrame (.throwing q)) t ∧ Q t
def vx_Run (p : Program) (l : Launch) (e : Env) (R : Room) (s : State) (m : MethodId) (args : Array Value) (below : List Frame) (meth : Method) (c : Code) (H : Heap) (locs : List Loc) (cells slots mc ms : Nat) (g : JFrame) (rest : List Value) (Qa : State → Outcome → State → Prop) (XC : String → State → State → Prop) (free : Addr → Prop) : Prop :=
  ∀ T : State, T.heap = H → Stand p l e R s m args below meth c T locs cells slots →
    (∃ (v : Option Value) (st₀ t T' : State) (L : List Loc), st₀.heap = H ∧ Stand p l e R s m args below meth c T' (locs ++ L) (cells + mc) (slots + ms) ∧ (∀ q ∈ L, free q.base) ∧ T'.heap = t.heap ∧ T'.vm = t.vm ∧ Qa st₀ (.returned v) t ∧
      Goes p e below T g T' { g with pc := g.pc + 3, stack := v.toList ++ rest }) ∨
    (∃ (q : Addr) (st₀ t T' : State) (L : List Loc) (E : String) (ce : Cell), st₀.heap = H ∧ Stand p l e R s m args below meth c T' (locs ++ L) (cells + mc) (slots + ms) ∧ (∀ z ∈ L, free z.base) ∧ T'.heap = t.heap ∧ T'.vm = t.vm ∧ XC E st₀ t ∧ t.heap[q]? = some ce ∧ ce.vm = .none ∧ s.vm.findClass E = some ce.cls ∧
      Steps p.tables e below (T.setTop g) ((T'.setTop { g with stack := rest }).pushFrame (.throwing q)))
def vx_X {S : Type} (px : S → Prop) (B : String → S → State → Prop) (A : Nat → Prop) : String → State → State → Prop := fun E st t => ∃ u : S, px u ∧ B E u t ∧ va_F A st t
section Runs
variable {p : Program} {l : Launch} {e : Env} {R : Room} {s : State} {m : MethodId} {args : Array Value} {below : List Frame} {meth : Method} {c : Code} {H : Heap} {locs : List Loc} {cells slots : Nat}
variable {y : MethodName} {bytes cc : ByteArray} {maxL nL mc ms n index : Nat} {ret : Option FieldType} {ws : List Cond} {rm : Room} {Pc : Array Value → State → Prop} {Qc : Array Value → State → Outcome → State → Prop} {XC : String → State → State → Prop} {free : Addr → Prop} {Ts : List Cond} {own C : String} {b : Addr} {As rest : List Value} {g : JFrame}
theorem vx_callBack (cb : CallB R s args own index y bytes maxL ret ws rm mc ms n) (hM : vx_Met l y ws rm Pc Qc XC mc ms free) (hbl : FrameBlind Pc) : vx_Back l R p e below s args y 3 8 (PreOf R mc ms Pc) (PostOf Qc mc ms free) (vx_Post XC mc ms free) := by
  obtain ⟨hrc, hrs, hfr, hlo, hws, hcw, -, hini, -⟩ := cb
  exact vx_back (bytes := bytes) (maxL := maxL) (ret := ret) hM hbl hrc hrs hfr hlo hws hcw (fun a' U hW => word_at hW (Or.inl (by first | rfl | simp [Cond.onTables, Cond.keeps, Cond.steady])) hini)
theorem vx_runV (S : CallFix p m c cc nL s args Ts own) (hM : vx_Met l y ws rm Pc Qc XC mc ms free) (cw : CallW R s args own C index y bytes maxL ret ws rm mc ms n) (hp : PreV s H C b Pc As)
    (hg : g.method = m) (hn : As.length = n) (hsize : g.locals.size = nL) (hstack : g.stack = As.reverse ++ .ref b :: rest) (hW : 2 * g.monitorRoom + (rest.map fun v => v.category).sum ≤ 8) (hdg : decode cc g.pc = .ok (.invokevirtual index, 3)) (hf : cells + mc ≤ R.cells ∧ slots + ms ≤ R.slots) :
    vx_Run p l e R s m args below meth c H locs cells slots mc ms g rest (Qc (Value.ref b :: As).toArray) XC free := by
  have hK : vx_Back l R p e below s args y 3 8 (PreOf R mc ms Pc) (PostOf Qc mc ms free) (vx_Post XC mc ms free) := vx_callBack cw.1 hM hp.1
  obtain ⟨⟨-, -, -, -, -, -, hcode, -, hy, hlen, hl⟩, hin, hse⟩ := cw
  obtain ⟨hx, hb, hml, ho, -⟩ := S
  obtain ⟨-, ⟨cellB, hcB, hoB, hclB⟩, hPc⟩ := hp
  intro T hT X
  rcases vx_callV X hx (C := C) (bytes := bytes) (maxL := maxL) (ret := ret) ho hl hin hse hcode hy hK (by rw [hT]; exact hcB) hoB hclB hg (hsize.trans hml.symm) (argsL := As) (rest := rest) (fun sig h => hn.trans (hlen sig h)) hstack hW (by rw [hb]; exact hdg)
    (fun vm₁ hW₁ => ⟨hf.1, hf.2, hPc (T.setVm vm₁) hT hW₁⟩) with ⟨v, vm₁, ⟨U', l2, c2, s2⟩, hW₁, X', ⟨g', mk, t, L, e1, e2, hq, h1, hL, h2, h3⟩, st⟩ | ⟨q, vm₁, ⟨U', l2, c2, s2⟩, hW₁, X', ⟨g', mk, t, L, E, ce, e1, e2, hq, hce, hcv, hcl, h1, hL, h2, h3⟩, st⟩
  · dsimp only [Pt.U, Pt.locs, Pt.cells, Pt.slots] at X' e1 e2 h1 h2 h3 st
    subst h1; subst h2; subst h3
    exact Or.inl ⟨v, (T.setVm vm₁).calling g' mk (Value.ref b :: As).toArray, t, U', L, hT, X', hL, e1, e2, hq, st⟩
  · dsimp only [Pt.U, Pt.locs, Pt.cells, Pt.slots] at X' e1 e2 h1 h2 h3 st hcl
    subst h1; subst h2; subst h3
    exact Or.inr ⟨q, (T.setVm vm₁).calling g' mk (Value.ref b :: As).toArray, t, U', L, E, ce, hT, X', hL, e1, e2, hq, hce, hcv, vx_cls hW₁ hcl, st⟩
theorem vx_runS (S : CallFix p m c cc nL s args Ts own) (hM : vx_Met l y ws rm Pc Qc XC mc ms free) (cw : CallB R s args own index y bytes maxL ret ws rm mc ms n ∧ (Cond.static y).before args s = true) (hp : PreS s H Pc As)
    (hg : g.method = m) (hn : As.length = n) (hsize : g.locals.size = nL) (hstack : g.stack = As.reverse ++ rest) (hW : 2 * g.monitorRoom + (rest.map fun v => v.category).sum ≤ 8) (hdg : decode cc g.pc = .ok (.invokestatic index, 3)) (hf : cells + mc ≤ R.cells ∧ slots + ms ≤ R.slots) :
    vx_Run p l e R s m args below meth c H locs cells slots mc ms g rest (Qc As.toArray) XC free := by
  have hK : vx_Back l R p e below s args y 3 8 (PreOf R mc ms Pc) (PostOf Qc mc ms free) (vx_Post XC mc ms free) := vx_callBack cw.1 hM hp.1
  obtain ⟨⟨-, -, -, -, -, -, hcode, hini, hy, hlen, hl⟩, hstt⟩ := cw
  obtain ⟨hx, hb, hml, ho, -⟩ := S
  intro T hT X
  rcases vx_callS X hx (bytes := bytes) (maxL := maxL) (ret := ret) ho hl hstt hini hcode hy hK hg (hsize.trans hml.symm) (argsL := As) (rest := rest) (fun sig h => hn.trans (hlen sig h)) hstack hW (by rw [hb]; exact hdg)
    (fun vm₁ hW₁ => ⟨hf.1, hf.2, hp.2 (T.setVm vm₁) hT hW₁⟩) with ⟨v, vm₁, ⟨U', l2, c2, s2⟩, hW₁, X', ⟨g', mk, t, L, e1, e2, hq, h1, hL, h2, h3⟩, st⟩ | ⟨q, vm₁, ⟨U', l2, c2, s2⟩, hW₁, X', ⟨g', mk, t, L, E, ce, e1, e2, hq, hce, hcv, hcl, h1, hL, h2, h3⟩, st⟩
  · dsimp only [Pt.U, Pt.locs, Pt.cells, Pt.slots] at X' e1 e2 h1 h2 h3 st
    subst h1; subst h2; subst h3
    exact Or.inl ⟨v, (T.setVm vm₁).calling g' mk As.toArray, t, U', L, hT, X', hL, e1, e2, hq, st⟩
  · dsimp only [Pt.U, Pt.locs, Pt.cells, Pt.slots] at X' e1 e2 h1 h2 h3 st hcl
    subst h1; subst h2; subst h3
    exact Or.inr ⟨q, (T.setVm vm₁).calling g' mk As.toArray, t, U', L, E, ce, hT, X', hL, e1, e2, hq, hce, hcv, vx_cls hW₁ hcl, st⟩
end Runs
section Rows
variable {p : Program} {l : Launch} {e : Env} {R : Room} {s : State} {m : MethodId} {args : Array Value} {below : List Frame} {meth : Method} {c : Code} {H : Heap} {locs : List Loc} {cells slots : Nat} {Q : State → Prop}
variable {mc ms : Nat} {free : Addr → Prop} {A0 A1 : Nat → Prop} {H0 : Heap} {a : Array Value} {pc : Nat} {ls : Array Slot} {st0 rest : List Value}
theorem vx_keep {st₀ t T' : State} {L : List Loc} (h0 : st₀.heap = H) (e1 : T'.heap = t.heap) (hS : va_S A0 H0 H locs) (hA : ∀ q, q < H.size → A1 q → A0 q) (hf : ∀ q, free q → A0 q) (hL : ∀ q ∈ L, free q.base) (hF : va_F A1 st₀ t) :
    H.size ≤ T'.heap.size ∧ (∀ q : Nat, q < H.size → ¬ A1 q → T'.heap[q]? = H[q]?) ∧ va_S A0 H0 T'.heap (locs ++ L) := by
  obtain ⟨hz, hk⟩ := hF
  rw [h0] at hz hk
  exact ⟨by rw [e1]; exact hz, fun q h1 h2 => by rw [e1]; exact hk q h1 h2,
    ⟨Nat.le_trans hS.1 (by rw [e1]; exact hz), fun q h1 h2 => by rw [e1, hk q (Nat.lt_of_lt_of_le h1 hS.1) (fun z => h2 (hA q (Nat.lt_of_lt_of_le h1 hS.1) z))]; exact hS.2.1 q h1 h2, fun q hq => by
      rcases List.mem_append.mp hq with h | h
      · exact hS.2.2 q h
      · exact hf _ (hL q h)⟩⟩
theorem vx_calli {S SX : Type} {post : Int32 → S → Prop} {px : SX → Prop} {B : S → State → Prop} {BX : String → SX → State → Prop} {AX : Nat → Prop} (hr : vx_Run p l e R s m args below meth c H locs cells slots mc ms (F0 m pc ls st0) rest (va_Qi post B A1 a) (vx_X px BX AX) free) (hS : va_S A0 H0 H locs) (hA : ∀ q, q < H.size → A1 q → A0 q) (hf : ∀ q, free q → A0 q) (hAX : ∀ q, q < H.size → AX q → A0 q)
    (kx : ∀ (E : String) (ce : Cell) (q9 : Addr) (u : SX) (t : State) (H1 : Heap) (locs1 : List Loc), t.heap = H1 → s.vm.Alike t.vm → px u → BX E u t → H.size ≤ H1.size → (∀ q : Nat, q < H.size → ¬ AX q → H1[q]? = H[q]?) → va_S A0 H0 H1 locs1 → H1[q9]? = some ce → ce.vm = .none → s.vm.findClass E = some ce.cls → vx_W p l e R s m args below meth c H1 locs1 (cells + mc) (slots + ms) Q (F0 m pc ls rest) q9)
    (kk : ∀ (r : Int32) (u : S) (t : State) (H1 : Heap) (locs1 : List Loc), t.heap = H1 → s.vm.Alike t.vm → post r u → B u t → H.size ≤ H1.size → (∀ q : Nat, q < H.size → ¬ A1 q → H1[q]? = H[q]?) → va_S A0 H0 H1 locs1 → W p l e R s m args below meth c H1 locs1 (cells + mc) (slots + ms) Q (F0 m (pc + 3) ls (.int r :: rest))) : W p l e R s m args below meth c H locs cells slots Q (F0 m pc ls st0) := by
  intro T hT X
  rcases hr T hT X with ⟨v, st₀, t, T', L, h0, X', hL, e1, e2, ⟨⟨r, u, hv, hp, hb⟩, hF⟩, st⟩ | ⟨q, st₀, t, T', L, E, ce, h0, X', hL, e1, e2, ⟨u, hp, hb, hF⟩, hce, hcv, hcl, st⟩
  · cases hv
    obtain ⟨k1, k2, k3⟩ := vx_keep h0 e1 hS hA hf hL hF
    obtain ⟨t2, a1, b1⟩ := kk r u t T'.heap (locs ++ L) e1.symm (by rw [← e2]; exact X'.warmed.alike) hp hb k1 k2 k3 T' rfl X'
    exact ⟨t2, st t2 a1, b1⟩
  · obtain ⟨k1, k2, k3⟩ := vx_keep h0 e1 hS hAX hf hL hF
    obtain ⟨t2, a1, b1⟩ := kx E ce q u t T'.heap (locs ++ L) e1.symm (by rw [← e2]; exact X'.warmed.alike) hp hb k1 k2 k3 (by rw [e1]; exact hce) hcv hcl T' rfl X'
    exact ⟨t2, st.trans a1, b1⟩
theorem vx_calll {S SX : Type} {post : Int64 → S → Prop} {px : SX → Prop} {B : S → State → Prop} {BX : String → SX → State → Prop} {AX : Nat → Prop} (hr : vx_Run p l e R s m args below meth c H locs cells slots mc ms (F0 m pc ls st0) rest (va_Ql post B A1 a) (vx_X px BX AX) free) (hS : va_S A0 H0 H locs) (hA : ∀ q, q < H.size → A1 q → A0 q) (hf : ∀ q, free q → A0 q) (hAX : ∀ q, q < H.size → AX q → A0 q)
    (kx : ∀ (E : String) (ce : Cell) (q9 : Addr) (u : SX) (t : State) (H1 : Heap) (locs1 : List Loc), t.heap = H1 → s.vm.Alike t.vm → px u → BX E u t → H.size ≤ H1.size → (∀ q : Nat, q < H.size → ¬ AX q → H1[q]? = H[q]?) → va_S A0 H0 H1 locs1 → H1[q9]? = some ce → ce.vm = .none → s.vm.findClass E = some ce.cls → vx_W p l e R s m args below meth c H1 locs1 (cells + mc) (slots + ms) Q (F0 m pc ls rest) q9)
    (kk : ∀ (r : Int64) (u : S) (t : State) (H1 : Heap) (locs1 : List Loc), t.heap = H1 → s.vm.Alike t.vm → post r u → B u t → H.size ≤ H1.size → (∀ q : Nat, q < H.size → ¬ A1 q → H1[q]? = H[q]?) → va_S A0 H0 H1 locs1 → W p l e R s m args below meth c H1 locs1 (cells + mc) (slots + ms) Q (F0 m (pc + 3) ls (.long r :: rest))) : W p l e R s m args below meth c H locs cells slots Q (F0 m pc ls st0) := by
  intro T hT X
  rcases hr T hT X with ⟨v, st₀, t, T', L, h0, X', hL, e1, e2, ⟨⟨r, u, hv, hp, hb⟩, hF⟩, st⟩ | ⟨q, st₀, t, T', L, E, ce, h0, X', hL, e1, e2, ⟨u, hp, hb, hF⟩, hce, hcv, hcl, st⟩
  · cases hv
    obtain ⟨k1, k2, k3⟩ := vx_keep h0 e1 hS hA hf hL hF
    obtain ⟨t2, a1, b1⟩ := kk r u t T'.heap (locs ++ L) e1.symm (by rw [← e2]; exact X'.warmed.alike) hp hb k1 k2 k3 T' rfl X'
    exact ⟨t2, st t2 a1, b1⟩
  · obtain ⟨k1, k2, k3⟩ := vx_keep h0 e1 hS hAX hf hL hF
    obtain ⟨t2, a1, b1⟩ := kx E ce q u t T'.heap (locs ++ L) e1.symm (by rw [← e2]; exact X'.warmed.alike) hp hb k1 k2 k3 (by rw [e1]; exact hce) hcv hcl T' rfl X'
    exact ⟨t2, st.trans a1, b1⟩
theorem vx_callf {S SX : Type} {post : UInt32 → S → Prop} {px : SX → Prop} {B : S → State → Prop} {BX : String → SX → State → Prop} {AX : Nat → Prop} (hr : vx_Run p l e R s m args below meth c H locs cells slots mc ms (F0 m pc ls st0) rest (va_Qf post B A1 a) (vx_X px BX AX) free) (hS : va_S A0 H0 H locs) (hA : ∀ q, q < H.size → A1 q → A0 q) (hf : ∀ q, free q → A0 q) (hAX : ∀ q, q < H.size → AX q → A0 q)
    (kx : ∀ (E : String) (ce : Cell) (q9 : Addr) (u : SX) (t : State) (H1 : Heap) (locs1 : List Loc), t.heap = H1 → s.vm.Alike t.vm → px u → BX E u t → H.size ≤ H1.size → (∀ q : Nat, q < H.size → ¬ AX q → H1[q]? = H[q]?) → va_S A0 H0 H1 locs1 → H1[q9]? = some ce → ce.vm = .none → s.vm.findClass E = some ce.cls → vx_W p l e R s m args below meth c H1 locs1 (cells + mc) (slots + ms) Q (F0 m pc ls rest) q9)
    (kk : ∀ (r : UInt32) (u : S) (t : State) (H1 : Heap) (locs1 : List Loc), t.heap = H1 → s.vm.Alike t.vm → post r u → B u t → H.size ≤ H1.size → (∀ q : Nat, q < H.size → ¬ A1 q → H1[q]? = H[q]?) → va_S A0 H0 H1 locs1 → W p l e R s m args below meth c H1 locs1 (cells + mc) (slots + ms) Q (F0 m (pc + 3) ls (.float r :: rest))) : W p l e R s m args below meth c H locs cells slots Q (F0 m pc ls st0) := by
  intro T hT X
  rcases hr T hT X with ⟨v, st₀, t, T', L, h0, X', hL, e1, e2, ⟨⟨r, u, hv, hp, hb⟩, hF⟩, st⟩ | ⟨q, st₀, t, T', L, E, ce, h0, X', hL, e1, e2, ⟨u, hp, hb, hF⟩, hce, hcv, hcl, st⟩
  · cases hv
    obtain ⟨k1, k2, k3⟩ := vx_keep h0 e1 hS hA hf hL hF
    obtain ⟨t2, a1, b1⟩ := kk r u t T'.heap (locs ++ L) e1.symm (by rw [← e2]; exact X'.warmed.alike) hp hb k1 k2 k3 T' rfl X'
    exact ⟨t2, st t2 a1, b1⟩
  · obtain ⟨k1, k2, k3⟩ := vx_keep h0 e1 hS hAX hf hL hF
    obtain ⟨t2, a1, b1⟩ := kx E ce q u t T'.heap (locs ++ L) e1.symm (by rw [← e2]; exact X'.warmed.alike) hp hb k1 k2 k3 (by rw [e1]; exact hce) hcv hcl T' rfl X'
    exact ⟨t2, st.trans a1, b1⟩
theorem vx_calld {S SX : Type} {post : UInt64 → S → Prop} {px : SX → Prop} {B : S → State → Prop} {BX : String → SX → State → Prop} {AX : Nat → Prop} (hr : vx_Run p l e R s m args below meth c H locs cells slots mc ms (F0 m pc ls st0) rest (va_Qd post B A1 a) (vx_X px BX AX) free) (hS : va_S A0 H0 H locs) (hA : ∀ q, q < H.size → A1 q → A0 q) (hf : ∀ q, free q → A0 q) (hAX : ∀ q, q < H.size → AX q → A0 q)
    (kx : ∀ (E : String) (ce : Cell) (q9 : Addr) (u : SX) (t : State) (H1 : Heap) (locs1 : List Loc), t.heap = H1 → s.vm.Alike t.vm → px u → BX E u t → H.size ≤ H1.size → (∀ q : Nat, q < H.size → ¬ AX q → H1[q]? = H[q]?) → va_S A0 H0 H1 locs1 → H1[q9]? = some ce → ce.vm = .none → s.vm.findClass E = some ce.cls → vx_W p l e R s m args below meth c H1 locs1 (cells + mc) (slots + ms) Q (F0 m pc ls rest) q9)
    (kk : ∀ (r : UInt64) (u : S) (t : State) (H1 : Heap) (locs1 : List Loc), t.heap = H1 → s.vm.Alike t.vm → post r u → B u t → H.size ≤ H1.size → (∀ q : Nat, q < H.size → ¬ A1 q → H1[q]? = H[q]?) → va_S A0 H0 H1 locs1 → W p l e R s m args below meth c H1 locs1 (cells + mc) (slots + ms) Q (F0 m (pc + 3) ls (.double r :: rest))) : W p l e R s m args below meth c H locs cells slots Q (F0 m pc ls st0) := by
  intro T hT X
  rcases hr T hT X with ⟨v, st₀, t, T', L, h0, X', hL, e1, e2, ⟨⟨r, u, hv, hp, hb⟩, hF⟩, st⟩ | ⟨q, st₀, t, T', L, E, ce, h0, X', hL, e1, e2, ⟨u, hp, hb, hF⟩, hce, hcv, hcl, st⟩
  · cases hv
    obtain ⟨k1, k2, k3⟩ := vx_keep h0 e1 hS hA hf hL hF
    obtain ⟨t2, a1, b1⟩ := kk r u t T'.heap (locs ++ L) e1.symm (by rw [← e2]; exact X'.warmed.alike) hp hb k1 k2 k3 T' rfl X'
    exact ⟨t2, st t2 a1, b1⟩
  · obtain ⟨k1, k2, k3⟩ := vx_keep h0 e1 hS hAX hf hL hF
    obtain ⟨t2, a1, b1⟩ := kx E ce q u t T'.heap (locs ++ L) e1.symm (by rw [← e2]; exact X'.warmed.alike) hp hb k1 k2 k3 (by rw [e1]; exact hce) hcv hcl T' rfl X'
    exact ⟨t2, st.trans a1, b1⟩
theorem vx_callv {S SX : Type} {post : S → Prop} {px : SX → Prop} {B : S → State → Prop} {BX : String → SX → State → Prop} {AX : Nat → Prop} (hr : vx_Run p l e R s m args below meth c H locs cells slots mc ms (F0 m pc ls st0) rest (va_Qv post B A1 a) (vx_X px BX AX) free) (hS : va_S A0 H0 H locs) (hA : ∀ q, q < H.size → A1 q → A0 q) (hf : ∀ q, free q → A0 q) (hAX : ∀ q, q < H.size → AX q → A0 q)
    (kx : ∀ (E : String) (ce : Cell) (q9 : Addr) (u : SX) (t : State) (H1 : Heap) (locs1 : List Loc), t.heap = H1 → s.vm.Alike t.vm → px u → BX E u t → H.size ≤ H1.size → (∀ q : Nat, q < H.size → ¬ AX q → H1[q]? = H[q]?) → va_S A0 H0 H1 locs1 → H1[q9]? = some ce → ce.vm = .none → s.vm.findClass E = some ce.cls → vx_W p l e R s m args below meth c H1 locs1 (cells + mc) (slots + ms) Q (F0 m pc ls rest) q9)
    (kk : ∀ (u : S) (t : State) (H1 : Heap) (locs1 : List Loc), t.heap = H1 → s.vm.Alike t.vm → post u → B u t → H.size ≤ H1.size → (∀ q : Nat, q < H.size → ¬ A1 q → H1[q]? = H[q]?) → va_S A0 H0 H1 locs1 → W p l e R s m args below meth c H1 locs1 (cells + mc) (slots + ms) Q (F0 m (pc + 3) ls (rest))) : W p l e R s m args below meth c H locs cells slots Q (F0 m pc ls st0) := by
  intro T hT X
  rcases hr T hT X with ⟨v, st₀, t, T', L, h0, X', hL, e1, e2, ⟨⟨u, hv, hp, hb⟩, hF⟩, st⟩ | ⟨q, st₀, t, T', L, E, ce, h0, X', hL, e1, e2, ⟨u, hp, hb, hF⟩, hce, hcv, hcl, st⟩
  · cases hv
    obtain ⟨k1, k2, k3⟩ := vx_keep h0 e1 hS hA hf hL hF
    obtain ⟨t2, a1, b1⟩ := kk u t T'.heap (locs ++ L) e1.symm (by rw [← e2]; exact X'.warmed.alike) hp hb k1 k2 k3 T' rfl X'
    exact ⟨t2, st t2 a1, b1⟩
  · obtain ⟨k1, k2, k3⟩ := vx_keep h0 e1 hS hAX hf hL hF
    obtain ⟨t2, a1, b1⟩ := kx E ce q u t T'.heap (locs ++ L) e1.symm (by rw [← e2]; exact X'.warmed.alike) hp hb k1 k2 k3 (by rw [e1]; exact hce) hcv hcl T' rfl X'
    exact ⟨t2, st.trans a1, b1⟩
/-- caught by the row x of this method's table; the rows ahead don't take it -/
theorem vx_catch {own name : String} {E : String} {ce : Cell} {q : Addr} (hown : s.vm.findClass own = some m.cls) (pre : List ExceptionTableEntry) (x : ExceptionTableEntry) (suf : List ExceptionTableEntry) (hsplit : c.exceptionTable.toList = pre ++ x :: suf)
    (hpass : ∀ z ∈ pre, covers z pc = false ∨ (z.catchType ≠ 0 ∧ ∃ nm : String, (Cond.classLink own z.catchType nm).before args s = true ∧ va_Nc E nm s)) (hx : covers x pc = true) (h0 : x.catchType ≠ 0)
    (hlink : (Cond.classLink own x.catchType name).before args s = true) (hcast : (Cond.castable E name).before args s = true) (hcell : H[q]? = some ce) (hv : ce.vm = .none) (hcl : s.vm.findClass E = some ce.cls)
    (kk : W p l e R s m args below meth c H locs cells slots Q (F0 m x.handlerPc ls [.ref q])) : vx_W p l e R s m args below meth c H locs cells slots Q (F0 m pc ls rest) q := by
  intro T hT X
  have hpl : e.platform.magicAccessors = ({} : Platform).magicAccessors := by rw [X.admits.platform]
  obtain ⟨c3, c4, hc3, hc4, hasg⟩ := Cond.castable_spec hcast
  cases Option.some.inj (hc3.symm.trans hcl)
  obtain ⟨c5, hc5, hcl5⟩ := Cond.classLink_spec hown hlink e.platform hpl
  cases Option.some.inj (hc4.symm.trans hc5)
  obtain ⟨vm', X', st⟩ := X.thenCaughtThrough q (g := F0 m pc ls rest) rfl (Steps.refl _) (by rw [hT]; exact hcell) (by rw [hv]; rfl) (by obtain ⟨k9, h9, -⟩ := Vm.findClass_spec hcl; exact ⟨k9, h9⟩) pre x suf hsplit
    (fun z hz => by
      rcases hpass z hz with h | ⟨hz0, nm, hl1, hn1⟩
      · exact Or.inl h
      · obtain ⟨c6, hc6, hcl6⟩ := Cond.classLink_spec hown hl1 e.platform hpl
        obtain ⟨a8, b8, h1, h2, h3⟩ := hn1
        cases Option.some.inj (h1.symm.trans hcl)
        cases Option.some.inj (h2.symm.trans hc6)
        exact Or.inr ⟨hz0, _, hcl6, h3⟩) hx (Or.inr ⟨h0, c4, hcl5, hasg⟩)
  obtain ⟨t, a1, b1⟩ := kk (T.setVm vm') hT X'
  exact ⟨t, st.trans a1, b1⟩
end Rows
section Ends
variable {p : Program} {l : Launch} {e : Env} {R : Room} {s : State} {m : MethodId} {args : Array Value} {below : List Frame} {meth : Method} {c : Code} {H : Heap} {locs : List Loc} {cells slots : Nat} {Q : State → Prop}
variable {mc ms : Nat} {free : Addr → Prop} {A0 A1 : Nat → Prop} {H0 : Heap} {a : Array Value} {ls : Array Slot} {st0 rest : List Value}
variable {Qc : Array Value → State → Outcome → State → Prop} {XC : String → State → State → Prop}
/-- what a body that may throw owes at its end -/
def vx_MQ (below : List Frame) (Qc : Array Value → State → Outcome → State → Prop) (XC : String → State → State → Prop) (a : Array Value) (s : State) (mc ms : Nat) (free : Addr → Prop) : State → Prop := fun t =>
  ∃ o, t.status = .running ∧ Ended t below o ∧ vx_Q Qc XC mc ms free a s o t
theorem vx_ret {g : JFrame} {mc ms : Nat} (k : W p l e R s m args below meth c H locs cells slots (MQ below Qc args s mc ms free) g) : W p l e R s m args below meth c H locs cells slots (vx_MQ below Qc XC args s mc ms free) g := by
  intro T hT X
  obtain ⟨t, a1, o, b1, b2, b3, b4⟩ := k T hT X
  exact ⟨t, a1, o, b1, b2, Or.inl ⟨b3, b4⟩⟩
/-- not caught here: it goes on to the caller -/
theorem vx_widen {g : JFrame} {q : Addr} {k n : Nat} (h1 : cells ≤ k) (h2 : slots ≤ n) (kk : vx_W p l e R s m args below meth c H locs k n Q g q) : vx_W p l e R s m args below meth c H locs cells slots Q g q := fun T hT X => kk T hT (stand_widen X h1 h2)
theorem vx_out {pc : Nat} {E : String} {ce : Cell} {q : Addr} {mc ms : Nat} (hout : ∀ x ∈ c.exceptionTable.toList, covers x pc = false) (hlocks : meth.locks = false) (hcell : H[q]? = some ce) (hv : ce.vm = .none) (hcl : s.vm.findClass E = some ce.cls)
    (hx : ∀ t : State, t.heap = H → s.vm.Alike t.vm → XC E s t) (hf : ∀ z ∈ locs, free z.base) (hc : cells ≤ mc) (hs : slots ≤ ms) :
    vx_W p l e R s m args below meth c H locs cells slots (vx_MQ below Qc XC args s mc ms free) (F0 m pc ls rest) q := by
  intro T hT X
  obtain ⟨st1, hrun, hend, hW, hsm⟩ := X.leaveThrown q (g := F0 m pc ls rest) rfl rfl rfl hout hlocks
  have hcell9 : (T.setFrames (.throwing q :: below)).heap[q]? = some ce := by
    show T.heap[q]? = some ce
    rw [hT]; exact hcell
  exact ⟨_, st1, .threw q, hrun, hend, Or.inr ⟨q, rfl, E, ce, locs, hx _ hT hW.alike, hcell9, hv, hcl, hW, hsm.mono hc hs, hf⟩⟩
theorem vx_frame {U : State} {k n : Nat} (h : s.sameButNew ({ U with vm := s.vm } : State) locs k n) : s.heap.size ≤ U.heap.size ∧ ∀ q : Nat, q < s.heap.size → (∀ z ∈ locs, z.base ≠ q) → U.heap[q]? = s.heap[q]? := by
  obtain ⟨-, h2, -, -, -, h6⟩ := h
  refine ⟨h2, fun q hq hz => ?_⟩
  obtain ⟨c9, e1, e2, e3, e4⟩ := h6 q _ (Array.getElem?_eq_getElem hq)
  have hs : c9.slots = (s.heap[q]).slots := Array.ext_getElem? fun i => e4 i fun hm => hz _ hm rfl
  have h9 : c9 = s.heap[q] := by
    rw [hs] at e2
    exact e2
  have e5 : U.heap[q]? = some c9 := e1
  rw [e5, h9, Array.getElem?_eq_getElem hq]
/-- the words of a throw but the four that speak of the heap -/
def vx_no (w : Cond) : Bool := decide (w ≠ .isRef (.static Bundle.tN "UNASSIGNED_STACK" Bundle.steD)) && decide (w ≠ .isRef (.static Bundle.tN "SUPPRESSED_SENTINEL" Bundle.listD)) && decide (w ≠ .laysStatic Bundle.tN "UNASSIGNED_STACK" Bundle.steD) && decide (w ≠ .laysStatic Bundle.tN "SUPPRESSED_SENTINEL" Bundle.listD)
def vx_at0 (own : String) (ic : Nat) (X : String) (names : List String) : List Cond := (Bundle.ownAtoms0 own ic X names).filter vx_no
def vx_atS (own : String) (ic : Nat) (X : String) (names : List String) : List Cond := (Bundle.ownAtoms own ic X names).filter vx_no
/-- a word that the tables alone decide, or a good one -/
def vx_ot (w : Cond) : Bool := w.onTables || goodWord w
theorem vx_ot_at {args a' : Array Value} {s U : State} {w : Cond} (hW : s.WarmedH U.vm) (hvm : s.vm = U.vm) (hg : vx_ot w = true) (h : w.before args s = true) : w.before a' U = true := by
  simp only [vx_ot, Bool.or_eq_true] at hg
  rcases hg with hg | hg
  · exact va_tabs hg hvm h
  · exact word_at hW (good_of_word hg) h
/-- a list's words: the good ones out of the method's own list, the others by premises of their own -/
theorem vx_hat {args : Array Value} {s : State} {L B : List Cond} (h1 : ∀ w ∈ L.filter goodWord, w.before args s = true) (h2 : ∀ w ∈ L.filter (fun w => !goodWord w), w ∈ B) (h3 : ∀ w ∈ B, w.before args s = true) : ∀ w ∈ L, w.before args s = true := by
  intro w hw
  by_cases g : goodWord w = true
  · exact h1 w (List.mem_filter.mpr ⟨hw, g⟩)
  · refine h3 w (h2 w (List.mem_filter.mpr ⟨hw, ?_⟩))
    show (!goodWord w) = true
    cases hgw : goodWord w
    · rfl
    · exact absurd hgw g
theorem vx_c {args : Array Value} {s : State} {w : Cond} {B : List Cond} (h : w.before args s = true) (t : ∀ w ∈ B, w.before args s = true) : ∀ w' ∈ w :: B, w'.before args s = true := fun w' h' => (List.mem_cons.mp h').elim (fun e => by rw [e]; exact h) (t w')
theorem vx_n {args : Array Value} {s : State} : ∀ w ∈ ([] : List Cond), w.before args s = true := fun _ h => nomatch h
theorem vx_own {args : Array Value} {s : State} {L : List Cond} (h1 : ∀ w ∈ L.filter vx_no, w.before args s = true)
    (hU : (Cond.isRef (.static Bundle.tN "UNASSIGNED_STACK" Bundle.steD)).before args s = true) (hN : (Cond.isRef (.static Bundle.tN "SUPPRESSED_SENTINEL" Bundle.listD)).before args s = true)
    (lU : (Cond.laysStatic Bundle.tN "UNASSIGNED_STACK" Bundle.steD).before args s = true) (lN : (Cond.laysStatic Bundle.tN "SUPPRESSED_SENTINEL" Bundle.listD).before args s = true) : ∀ w ∈ L, w.before args s = true := by
  intro w hw
  by_cases e1 : w = .isRef (.static Bundle.tN "UNASSIGNED_STACK" Bundle.steD)
  · rw [e1]; exact hU
  · by_cases e2 : w = .isRef (.static Bundle.tN "SUPPRESSED_SENTINEL" Bundle.listD)
    · rw [e2]; exact hN
    · by_cases e3 : w = .laysStatic Bundle.tN "UNASSIGNED_STACK" Bundle.steD
      · rw [e3]; exact lU
      · by_cases e4 : w = .laysStatic Bundle.tN "SUPPRESSED_SENTINEL" Bundle.listD
        · rw [e4]; exact lN
        · exact h1 w (List.mem_filter.mpr ⟨hw, by unfold vx_no; rw [decide_eq_true e1, decide_eq_true e2, decide_eq_true e3, decide_eq_true e4]; rfl⟩)
/-- where a static field lies, its class's statics cell in H -/
def vx_L (C n d : String) (A : Nat → Prop) (U : State) (H : Heap) : Prop := ∃ (c : ClassId) (k : Class) (i : Nat) (f : Field) (a : Nat) (cell : Cell), U.vm.findClass C = some c ∧ U.fieldFound? C n d = some (c, k, i, f) ∧ f.isStatic = true ∧ k.statics = some a ∧ H[a]? = some cell ∧ cell.vm.isStatics = true ∧ cell.cls = c ∧ f.slot < cell.slots.size ∧ k.staticTypes[f.slot]? = some f.type ∧ ¬ A a
theorem vx_L.moved {C n d : String} {A : Nat → Prop} {u U : State} {H : Heap} (hvm : u.vm.Alike U.vm) (h : vx_L C n d A u H) : vx_L C n d A U H := by
  obtain ⟨c, k, i, f, a, cell, h1, h2, h3, h4, h5, h6, h7, h8, h9, h10⟩ := h
  obtain ⟨k', hi', he⟩ := State.fieldFound?_setVm hvm h2
  exact ⟨c, k', i, f, a, cell, by rw [hvm.findClass]; exact h1, hi', h3, by rw [he]; exact h4, h5, h6, h7, h8, by rw [he]; exact h9, h10⟩
theorem vx_L.kept {C n d : String} {A : Nat → Prop} {U : State} {H H1 : Heap} (h : vx_L C n d A U H) (hq : ∀ a : Nat, a < H.size → ¬ A a → H1[a]? = H[a]?) : vx_L C n d A U H1 := by
  obtain ⟨c, k, i, f, a, cell, h1, h2, h3, h4, h5, h6, h7, h8, h9, h10⟩ := h
  exact ⟨c, k, i, f, a, cell, h1, h2, h3, h4, by rw [hq a (Array.getElem?_eq_some_iff.mp h5).1 h10]; exact h5, h6, h7, h8, h9, h10⟩
theorem vx_L.narrow {C n d : String} {A B : Nat → Prop} {U : State} {H : Heap} (h : vx_L C n d A U H) (hAB : ∀ q, B q → A q) : vx_L C n d B U H := by
  obtain ⟨c, k, i, f, a, cell, h1, h2, h3, h4, h5, h6, h7, h8, h9, h10⟩ := h
  exact ⟨c, k, i, f, a, cell, h1, h2, h3, h4, h5, h6, h7, h8, h9, fun z => h10 (hAB _ z)⟩
theorem vx_L.word {C n d : String} {A : Nat → Prop} {s : State} {args : Array Value} (h : vx_L C n d A s s.heap) : (Cond.laysStatic C n d).before args s = true := by
  obtain ⟨c, k, i, f, a, cell, h1, h2, h3, h4, h5, h6, h7, h8, h9, -⟩ := h
  show (Cond.laysStatic C n d).holds args s none s [] = true
  exact Cond.laysStatic_of h1 h2 h3 h4 h5 h6 h7 h8 h9
/-- .. and what it holds: null or some reference -/
def vx_Zq (C n d : String) (A : Nat → Prop) (U : State) (H : Heap) : Prop := va_Zq C n d A U H ∧ vx_L C n d A U H
theorem vx_Zq.moved {C n d : String} {A : Nat → Prop} {u U : State} {H : Heap} (hvm : u.vm.Alike U.vm) (h : vx_Zq C n d A u H) : vx_Zq C n d A U H := ⟨va_Zq.moved hvm h.1, vx_L.moved hvm h.2⟩
theorem vx_Zq.kept {C n d : String} {A : Nat → Prop} {U : State} {H H1 : Heap} (h : vx_Zq C n d A U H) (hq : ∀ a : Nat, a < H.size → ¬ A a → H1[a]? = H[a]?) : vx_Zq C n d A U H1 := ⟨va_Zq.kept h.1 hq, vx_L.kept h.2 hq⟩
theorem vx_Zq.narrow {C n d : String} {A B : Nat → Prop} {U : State} {H : Heap} (h : vx_Zq C n d A U H) (hAB : ∀ q, B q → A q) : vx_Zq C n d B U H := ⟨va_Zq.narrow h.1 hAB, vx_L.narrow h.2 hAB⟩
theorem vx_Zqof {args : Array Value} {s : State} {C n d : String} {A : Nat → Prop} (hl : (Cond.laysStatic C n d).before args s = true) (hini : (Cond.initialized C).before args s = true) (h : (Cond.isRef (.static C n d)).before args s = true) (hA : ∀ a : Nat, a < s.heap.size → ¬ A a) : vx_Zq C n d A s s.heap := by
  refine ⟨va_Zqof hl hini h hA, ?_⟩
  obtain ⟨c, k, i, f, a, cell, h1, h2, h3, h4, h5, h6, h7, h8, h9⟩ := Cond.laysStatic_spec hl
  exact ⟨c, k, i, f, a, cell, h1, h2, h3, h4, h5, h6, h7, h8, h9, hA a (Array.getElem?_eq_some_iff.mp h5).1⟩
theorem vx_isRef {C n d : String} {v : Value} {A : Nat → Prop} {s : State} {args : Array Value} (h : va_Z C n d v A s s.heap) (hv : v.isRef = true) : (Cond.isRef (.static C n d)).before args s = true := by
  obtain ⟨cf, kf, fi, f, a, cell, h1, h2, h3, h4, h5, h6, h7, -⟩ := h
  have he : (Term.static C n d).eval args s none [] s = some v := by
    simp [Term.eval, State.fieldNamed?, h1, h2, h4, h5, h6, h7]
  simp only [Cond.before, Cond.holds, Cond.value, he]
  cases v <;> simp_all [Value.isRef]
theorem vx_isRefq {C n d : String} {A : Nat → Prop} {s : State} {args : Array Value} (h : va_Zq C n d A s s.heap) : (Cond.isRef (.static C n d)).before args s = true := by
  rcases h with h | ⟨t, h⟩
  · exact vx_isRef h rfl
  · exact vx_isRef h rfl
/-- the same frame, seen from here: as if the method were called anew in this heap -/
theorem vx_rebase {T : State} (X : Stand p l e R s m args below meth c T locs cells slots) {R' : Room} (hf : R'.frames ≤ R.frames) (hl : R'.locals ≤ R.locals) (hc : cells + R'.cells ≤ R.cells) (hs : slots + R'.slots ≤ R.slots) :
    Stand p l e R' ((T.setVm s.vm).setFrames (.invoking m args :: below)) m args below meth c T [] 0 0 := by
  have htop : (T.setVm s.vm).topJava?.isSome := X.here.top
  have hF : ((T.setVm s.vm).setFrames (.invoking m args :: below)).frames = .invoking m args :: below := State.frames_setFrames _ (State.cur_lt_of_top htop)
  obtain ⟨g₀, hg0⟩ := Option.isSome_iff_exists.mp htop
  obtain ⟨r, hr⟩ := State.topJava?_eq_some.mp hg0
  have hl9 : e.platform.stackLimits (T.setVm s.vm).me = e.platform.stackLimits s.me := X.limits
  have hb9 : (T.setVm s.vm).me.stackBytes = s.me.stackBytes := X.bytes
  refine ⟨X.admits, X.cas, X.clock, hF, ?_, X.hears, X.method, X.code, X.here, X.tail, X.warmed, ?_, ?_, ?_⟩
  · have h := X.room
    have hU : ((T.setVm s.vm).setFrames (.invoking m args :: below)).localsInUse = s.localsInUse := by
      rw [State.localsInUse_invoking hF (meth := meth) (c := c) X.method X.code, State.localsInUse_invoking X.frames X.method X.code]
    simp only [State.hasRoom, Bool.and_eq_true, decide_eq_true_eq] at h ⊢
    obtain ⟨⟨⟨⟨h1, h2, h3, h4, h5, h6⟩, h7⟩, h8⟩, h9⟩ := h
    rw [X.frames, List.length_cons] at h2 h3
    have q1 := X.heapSize
    have q2 := X.used
    simp only [hF, hU, List.length_cons, State.stackLimits_setFrames, State.stackBytes_setFrames, hl9, hb9]
    refine ⟨⟨⟨⟨by omega, by omega, by omega, by omega, by omega, h6⟩, ?_⟩, ?_⟩, X.book⟩
    · show T.heap.size + R'.cells ≤ e.platform.maxCells
      omega
    · show T.slotsUsed + R'.slots ≤ e.platform.maxSlots
      omega
  · rw [State.stackLimits_setFrames]; rfl
  · rw [State.stackBytes_setFrames]; rfl
  · refine ⟨?_, Nat.le_refl _, Nat.le_refl _, ?_, ?_, fun a c9 h9 => ⟨c9, h9, rfl, rfl, fun _ _ => rfl⟩⟩
    · obtain ⟨t, ht, -⟩ := State.frames_cons hr
      show T.setVm s.vm = { ((T.setVm s.vm).setFrames (.invoking m args :: below)).setFrames (T.setVm s.vm).frames with heap := T.heap, slotsUsed := T.slotsUsed }
      rw [State.setFrames_setFrames, State.setFrames_self ht]
      rfl
    · show T.slotsUsed = T.slotsUsed + ((T.heap.toList.drop T.heap.size).map (·.slots.size)).sum
      rw [List.drop_eq_nil_of_le (Nat.le_of_eq Array.length_toList)]
      rfl
    · show ((T.heap.toList.drop T.heap.size).map (·.slots.size)).sum ≤ 0
      rw [List.drop_eq_nil_of_le (Nat.le_of_eq Array.length_toList)]
      exact Nat.le_refl _
/-- 'throw new E()': new; dup; invokespecial; athrow -/
theorem vx_throw0 {cc : ByteArray} {pc : Nat} (hexec : p.tables.exec = Jvm.exec) (hb : c.code = cc) (hl : l.stackTraces = false) {own cls : String} {names : List String} {ik ic mc ms : Nat} {A : Nat → Prop}
    (hown : s.vm.findClass own = some m.cls) (hcls : Bundle.fit cls = true) (hnames : ∀ n ∈ names, Bundle.fit n = true)
    (hk : (Cond.classLink own ik cls).before args s = true) (hini : (Cond.initialized cls).before args s = true) (hat : ∀ w ∈ vx_at0 own ic cls names, w.before args s = true)
    (hgood : ∀ w ∈ Cond.classLink own ik cls :: Cond.initialized cls :: vx_at0 own ic cls names, vx_ot w = true)
    (hU : vx_Zq Bundle.tN "UNASSIGNED_STACK" Bundle.steD A s s.heap) (hN : vx_Zq Bundle.tN "SUPPRESSED_SENTINEL" Bundle.listD A s s.heap) (hS : va_S A s.heap H locs) (hsize : ls.size = c.maxLocals)
    (d0 : decode cc pc = .ok (.new ik, 3)) (d3 : decode cc (pc + 3) = .ok (.dup, 1)) (d4 : decode cc (pc + 4) = .ok (.invokespecial ic, 3)) (d7 : decode cc (pc + 7) = .ok (.athrow, 1))
    (hout : ∀ x ∈ c.exceptionTable.toList, covers x (pc + 7) = false)
    (hRframes : names.length + 3 < R.frames) (hRlocals : (rest.map fun v => v.category).sum + (13 * (names.length + 1) + 42) ≤ R.locals) (hRcells : cells + 1 ≤ R.cells) (hRslots : slots + 6 ≤ R.slots) (hlocks : meth.locks = false)
    (hx : ∀ t : State, s.vm.Alike t.vm → H.size ≤ t.heap.size → (∀ q : Nat, q < H.size → t.heap[q]? = H[q]?) → XC cls s t)
    (hf : ∀ z ∈ locs, free z.base) (hc : cells + 1 ≤ mc) (hs : slots + 6 ≤ ms) :
    W p l e R s m args below meth c H locs cells slots (vx_MQ below Qc XC args s mc ms free) (F0 m pc ls rest) := by
  intro T hT X
  have htr : e.platform.stackTraces = false := (show e.platform.stackTraces = l.stackTraces by rw [X.admits.platform]).trans hl
  have Y := vx_rebase X (R' := { frames := R.frames, locals := R.locals, cells := 1, slots := 6 }) (Nat.le_refl _) (Nat.le_refl _) hRcells hRslots
  obtain ⟨s', hA⟩ : ∃ z, z = (T.setVm s.vm).setFrames (.invoking m args :: below) := ⟨_, rfl⟩
  rw [← hA] at Y
  have hvm : s'.vm = s.vm := by rw [hA]; rfl
  have hhp : s'.heap = H := by rw [hA]; exact hT
  have hW0 : s.WarmedH s'.vm := by rw [hvm]; exact State.WarmedH.refl s
  have hat' : ∀ w ∈ vx_at0 own ic cls names, w.before args s' = true := fun w hw => vx_ot_at hW0 hvm.symm (hgood w (List.mem_cons_of_mem _ (List.mem_cons_of_mem _ hw))) (hat w hw)
  have hk' : (Cond.classLink own ik cls).before args s' = true := vx_ot_at hW0 hvm.symm (hgood _ List.mem_cons_self) hk
  have hini' : (Cond.initialized cls).before args s' = true := vx_ot_at hW0 hvm.symm (hgood _ (List.mem_cons_of_mem _ List.mem_cons_self)) hini
  have hU' : vx_Zq Bundle.tN "UNASSIGNED_STACK" Bundle.steD A s' s'.heap := by rw [hhp]; exact vx_Zq.moved hW0.alike (hU.kept hS.2.1)
  have hN' : vx_Zq Bundle.tN "SUPPRESSED_SENTINEL" Bundle.listD A s' s'.heap := by rw [hhp]; exact vx_Zq.moved hW0.alike (hN.kept hS.2.1)
  have h : ∀ w ∈ Bundle.ownAtoms0 own ic cls names, w.before args s' = true := vx_own hat' (vx_isRefq hU'.1) (vx_isRefq hN'.1) hU'.2.word hN'.2.word
  have hown' : s'.vm.findClass own = some m.cls := by rw [hvm]; exact hown
  have hins : (Cond.instantiable cls 6).before args s' = true := h _ (by simp [Bundle.ownAtoms0])
  obtain ⟨vm₁, cX, kX, hfX, hkX, -, -, X₁, st1⟩ := Y.newCold hexec (own := own) (C := cls) (index := ik) (n := 6) hown' hk' hins hini'
    (g := F0 m pc ls rest) rfl (by rw [hb]; exact d0) (Nat.le_refl _) (Nat.le_refl _)
  generalize hT1 : (T.setVm vm₁).pushCell { cls := cX, slots := kX.instanceTypes.map defaultValue, vm := .none } = T1 at X₁ st1
  have hcat : (Value.ref T.heap.size).category = 1 := rfl
  have hcellA : T1.heap[T.heap.size]? = some (freshCell cX kX) := by rw [← hT1]; exact State.heap_pushCell_size _ _
  have d3' : decode c.code (pc + 3) = .ok (.dup, 1) := by rw [hb]; exact d3
  obtain ⟨U, hsteps, hrun, hend, hW, hsame, ce, hce, hO⟩ := X₁.ctorThrow0 hexec htr (own := own) (cls := cls) (names := names) (ic := ic) hown' hcls hnames h (fun x hx => nomatch hx) hfX hkX hcellA (by rw [hhp, hT]; exact Nat.le_refl _)
    (g := { method := m, pc := pc + 4, locals := ls, stack := .ref T.heap.size :: .ref T.heap.size :: rest, locked := none }) rfl hsize rfl rfl (rest := rest) rfl
    (by rw [hb]; exact d4) (by rw [hb]; exact d7) hout hRframes (by simp only [List.map_cons, List.sum_cons, hcat]; omega) hlocks
  obtain ⟨f1, f2⟩ := vx_frame hsame
  rw [hhp] at f1 f2
  have hWs : s.WarmedH U.vm := State.WarmedH.trans hW0 hW
  have hcl : s.vm.findClass cls = some ce.cls := by
    have h9 := hO.cls
    rw [hvm] at h9
    exact h9
  have hall : s.sameButNew ({ U with vm := s.vm } : State) locs mc ms := by
    subst hA
    obtain ⟨e1, e2⟩ := hsame
    rw [State.setFrames_setFrames] at e1
    have h2 : (T.setVm s.vm).sameButNew ({ U with vm := s.vm } : State) [] (0 + 1) (0 + 6) := ⟨e1, e2⟩
    have h3 := X.same.trans h2
    rw [List.append_nil] at h3
    exact h3.mono hc hs
  refine ⟨U, ?_, .threw T.heap.size, hrun, hend, Or.inr ⟨T.heap.size, rfl, cls, ce, locs, hx U hWs.alike f1 (fun q hq => f2 q hq (fun z hz => nomatch hz)), hce, hO.vm, hcl, hWs, hall, hf⟩⟩
  refine st1 _ ?_
  show Steps p.tables e below (T1.setTop { method := m, pc := pc + 3, locals := ls, stack := .ref T.heap.size :: rest, locked := none }) _
  jvm_step X₁.here [X₁.here.top, hexec, d3', Value.category]
  exact hsteps
/-- 'throw new E("text")': new; dup; ldc; invokespecial; athrow -/
theorem vx_throwS {cc : ByteArray} {pc : Nat} (hexec : p.tables.exec = Jvm.exec) (hb : c.code = cc) (hl : l.stackTraces = false) {own cls text : String} {names : List String} {ik is ic mc ms sa : Nat} {A : Nat → Prop}
    (hown : s.vm.findClass own = some m.cls) (hcls : Bundle.fit cls = true) (hnames : ∀ n ∈ names, Bundle.fit n = true)
    (hk : (Cond.classLink own ik cls).before args s = true) (hini : (Cond.initialized cls).before args s = true) (hstr : vk_R own is text sa s) (hat : ∀ w ∈ vx_atS own ic cls names, w.before args s = true)
    (hgood : ∀ w ∈ Cond.classLink own ik cls :: Cond.initialized cls :: vx_atS own ic cls names, vx_ot w = true)
    (hU : vx_Zq Bundle.tN "UNASSIGNED_STACK" Bundle.steD A s s.heap) (hN : vx_Zq Bundle.tN "SUPPRESSED_SENTINEL" Bundle.listD A s s.heap) (hS : va_S A s.heap H locs) (hsize : ls.size = c.maxLocals)
    (d0 : decode cc pc = .ok (.new ik, 3)) (d3 : decode cc (pc + 3) = .ok (.dup, 1)) (d4 : decode cc (pc + 4) = .ok (.ldc is, 2)) (d6 : decode cc (pc + 6) = .ok (.invokespecial ic, 3)) (d9 : decode cc (pc + 9) = .ok (.athrow, 1))
    (hout : ∀ x ∈ c.exceptionTable.toList, covers x (pc + 9) = false)
    (hRframes : names.length + 3 < R.frames) (hRlocals : (rest.map fun v => v.category).sum + (13 * (names.length + 1) + 43) ≤ R.locals) (hRcells : cells + 1 ≤ R.cells) (hRslots : slots + 6 ≤ R.slots) (hlocks : meth.locks = false)
    (hx : ∀ t : State, s.vm.Alike t.vm → H.size ≤ t.heap.size → (∀ q : Nat, q < H.size → t.heap[q]? = H[q]?) → XC cls s t)
    (hf : ∀ z ∈ locs, free z.base) (hc : cells + 1 ≤ mc) (hs : slots + 6 ≤ ms) :
    W p l e R s m args below meth c H locs cells slots (vx_MQ below Qc XC args s mc ms free) (F0 m pc ls rest) := by
  intro T hT X
  have htr : e.platform.stackTraces = false := (show e.platform.stackTraces = l.stackTraces by rw [X.admits.platform]).trans hl
  have Y := vx_rebase X (R' := { frames := R.frames, locals := R.locals, cells := 1, slots := 6 }) (Nat.le_refl _) (Nat.le_refl _) hRcells hRslots
  obtain ⟨s', hA⟩ : ∃ z, z = (T.setVm s.vm).setFrames (.invoking m args :: below) := ⟨_, rfl⟩
  rw [← hA] at Y
  have hvm : s'.vm = s.vm := by rw [hA]; rfl
  have hhp : s'.heap = H := by rw [hA]; exact hT
  have hW0 : s.WarmedH s'.vm := by rw [hvm]; exact State.WarmedH.refl s
  have hat' : ∀ w ∈ vx_atS own ic cls names, w.before args s' = true := fun w hw => vx_ot_at hW0 hvm.symm (hgood w (List.mem_cons_of_mem _ (List.mem_cons_of_mem _ hw))) (hat w hw)
  have hk' : (Cond.classLink own ik cls).before args s' = true := vx_ot_at hW0 hvm.symm (hgood _ List.mem_cons_self) hk
  have hini' : (Cond.initialized cls).before args s' = true := vx_ot_at hW0 hvm.symm (hgood _ (List.mem_cons_of_mem _ List.mem_cons_self)) hini
  have hU' : vx_Zq Bundle.tN "UNASSIGNED_STACK" Bundle.steD A s' s'.heap := by rw [hhp]; exact vx_Zq.moved hW0.alike (hU.kept hS.2.1)
  have hN' : vx_Zq Bundle.tN "SUPPRESSED_SENTINEL" Bundle.listD A s' s'.heap := by rw [hhp]; exact vx_Zq.moved hW0.alike (hN.kept hS.2.1)
  have h : ∀ w ∈ Bundle.ownAtoms own ic cls names, w.before args s' = true := vx_own hat' (vx_isRefq hU'.1) (vx_isRefq hN'.1) hU'.2.word hN'.2.word
  have hown' : s'.vm.findClass own = some m.cls := by rw [hvm]; exact hown
  have hins : (Cond.instantiable cls 6).before args s' = true := h _ (by simp [Bundle.ownAtoms])
  obtain ⟨vm₁, cX, kX, hfX, hkX, -, -, X₁, st1⟩ := Y.newCold hexec (own := own) (C := cls) (index := ik) (n := 6) hown' hk' hins hini'
    (g := F0 m pc ls rest) rfl (by rw [hb]; exact d0) (Nat.le_refl _) (Nat.le_refl _)
  generalize hT1 : (T.setVm vm₁).pushCell { cls := cX, slots := kX.instanceTypes.map defaultValue, vm := .none } = T1 at X₁ st1
  have hcat : (Value.ref T.heap.size).category = 1 := rfl
  have hcellA : T1.heap[T.heap.size]? = some (freshCell cX kX) := by rw [← hT1]; exact State.heap_pushCell_size _ _
  have d3' : decode c.code (pc + 3) = .ok (.dup, 1) := by rw [hb]; exact d3
  have d4' : decode c.code (pc + 4) = .ok (.ldc is, 2) := by rw [hb]; exact d4
  have hstr' : vk_R own is text sa s' := vk_R.warm hW0 hstr
  obtain ⟨U, hsteps, hrun, hend, hW, hsame, ce, hce, hO⟩ := X₁.ctorThrowS hexec htr (own := own) (cls := cls) (names := names) (ic := ic) hown' hcls hnames h (fun x hx => nomatch hx) hfX hkX hcellA (by rw [hhp, hT]; exact Nat.le_refl _) (msg := .ref sa) rfl
    (g := { method := m, pc := pc + 6, locals := ls, stack := .ref sa :: .ref T.heap.size :: .ref T.heap.size :: rest, locked := none }) rfl hsize rfl rfl (rest := rest) rfl
    (by rw [hb]; exact d6) (by rw [hb]; exact d9) hout hRframes (by simp only [List.map_cons, List.sum_cons, hcat]; omega) hlocks
  obtain ⟨f1, f2⟩ := vx_frame hsame
  rw [hhp] at f1 f2
  have hWs : s.WarmedH U.vm := State.WarmedH.trans hW0 hW
  have hcl : s.vm.findClass cls = some ce.cls := by
    have h9 := hO.cls
    rw [hvm] at h9
    exact h9
  have hall : s.sameButNew ({ U with vm := s.vm } : State) locs mc ms := by
    subst hA
    obtain ⟨e1, e2⟩ := hsame
    rw [State.setFrames_setFrames] at e1
    have h2 : (T.setVm s.vm).sameButNew ({ U with vm := s.vm } : State) [] (0 + 1) (0 + 6) := ⟨e1, e2⟩
    have h3 := X.same.trans h2
    rw [List.append_nil] at h3
    exact h3.mono hc hs
  refine ⟨U, ?_, .threw T.heap.size, hrun, hend, Or.inr ⟨T.heap.size, rfl, cls, ce, locs, hx U hWs.alike f1 (fun q hq => f2 q hq (fun z hz => nomatch hz)), hce, hO.vm, hcl, hWs, hall, hf⟩⟩
  refine st1 _ ?_
  show Steps p.tables e below (T1.setTop { method := m, pc := pc + 3, locals := ls, stack := .ref T.heap.size :: rest, locked := none }) _
  jvm_step X₁.here [X₁.here.top, hexec, d3', Value.category]
  exact X₁.ldcString hexec (own := own) (text := text) (index := is) (a := sa) hown' hstr'.1 hstr'.2
    (g := { method := m, pc := pc + 4, locals := ls, stack := .ref T.heap.size :: .ref T.heap.size :: rest, locked := none }) rfl d4' _ hsteps
/-- 'throw new E("text")', the text by a wide index -/
theorem vx_throwSW {cc : ByteArray} {pc : Nat} (hexec : p.tables.exec = Jvm.exec) (hb : c.code = cc) (hl : l.stackTraces = false) {own cls text : String} {names : List String} {ik is ic mc ms sa : Nat} {A : Nat → Prop}
    (hown : s.vm.findClass own = some m.cls) (hcls : Bundle.fit cls = true) (hnames : ∀ n ∈ names, Bundle.fit n = true)
    (hk : (Cond.classLink own ik cls).before args s = true) (hini : (Cond.initialized cls).before args s = true) (hstr : vk_R own is text sa s) (hat : ∀ w ∈ vx_atS own ic cls names, w.before args s = true)
    (hgood : ∀ w ∈ Cond.classLink own ik cls :: Cond.initialized cls :: vx_atS own ic cls names, vx_ot w = true)
    (hU : vx_Zq Bundle.tN "UNASSIGNED_STACK" Bundle.steD A s s.heap) (hN : vx_Zq Bundle.tN "SUPPRESSED_SENTINEL" Bundle.listD A s s.heap) (hS : va_S A s.heap H locs) (hsize : ls.size = c.maxLocals)
    (d0 : decode cc pc = .ok (.new ik, 3)) (d3 : decode cc (pc + 3) = .ok (.dup, 1)) (d4 : decode cc (pc + 4) = .ok (.ldc_w is, 3)) (d7 : decode cc (pc + 7) = .ok (.invokespecial ic, 3)) (d10 : decode cc (pc + 10) = .ok (.athrow, 1))
    (hout : ∀ x ∈ c.exceptionTable.toList, covers x (pc + 10) = false)
    (hRframes : names.length + 3 < R.frames) (hRlocals : (rest.map fun v => v.category).sum + (13 * (names.length + 1) + 43) ≤ R.locals) (hRcells : cells + 1 ≤ R.cells) (hRslots : slots + 6 ≤ R.slots) (hlocks : meth.locks = false)
    (hx : ∀ t : State, s.vm.Alike t.vm → H.size ≤ t.heap.size → (∀ q : Nat, q < H.size → t.heap[q]? = H[q]?) → XC cls s t)
    (hf : ∀ z ∈ locs, free z.base) (hc : cells + 1 ≤ mc) (hs : slots + 6 ≤ ms) :
    W p l e R s m args below meth c H locs cells slots (vx_MQ below Qc XC args s mc ms free) (F0 m pc ls rest) := by
  intro T hT X
  have htr : e.platform.stackTraces = false := (show e.platform.stackTraces = l.stackTraces by rw [X.admits.platform]).trans hl
  have Y := vx_rebase X (R' := { frames := R.frames, locals := R.locals, cells := 1, slots := 6 }) (Nat.le_refl _) (Nat.le_refl _) hRcells hRslots
  obtain ⟨s', hA⟩ : ∃ z, z = (T.setVm s.vm).setFrames (.invoking m args :: below) := ⟨_, rfl⟩
  rw [← hA] at Y
  have hvm : s'.vm = s.vm := by rw [hA]; rfl
  have hhp : s'.heap = H := by rw [hA]; exact hT
  have hW0 : s.WarmedH s'.vm := by rw [hvm]; exact State.WarmedH.refl s
  have hat' : ∀ w ∈ vx_atS own ic cls names, w.before args s' = true := fun w hw => vx_ot_at hW0 hvm.symm (hgood w (List.mem_cons_of_mem _ (List.mem_cons_of_mem _ hw))) (hat w hw)
  have hk' : (Cond.classLink own ik cls).before args s' = true := vx_ot_at hW0 hvm.symm (hgood _ List.mem_cons_self) hk
  have hini' : (Cond.initialized cls).before args s' = true := vx_ot_at hW0 hvm.symm (hgood _ (List.mem_cons_of_mem _ List.mem_cons_self)) hini
  have hU' : vx_Zq Bundle.tN "UNASSIGNED_STACK" Bundle.steD A s' s'.heap := by rw [hhp]; exact vx_Zq.moved hW0.alike (hU.kept hS.2.1)
  have hN' : vx_Zq Bundle.tN "SUPPRESSED_SENTINEL" Bundle.listD A s' s'.heap := by rw [hhp]; exact vx_Zq.moved hW0.alike (hN.kept hS.2.1)
  have h : ∀ w ∈ Bundle.ownAtoms own ic cls names, w.before args s' = true := vx_own hat' (vx_isRefq hU'.1) (vx_isRefq hN'.1) hU'.2.word hN'.2.word
  have hown' : s'.vm.findClass own = some m.cls := by rw [hvm]; exact hown
  have hins : (Cond.instantiable cls 6).before args s' = true := h _ (by simp [Bundle.ownAtoms])
  obtain ⟨vm₁, cX, kX, hfX, hkX, -, -, X₁, st1⟩ := Y.newCold hexec (own := own) (C := cls) (index := ik) (n := 6) hown' hk' hins hini'
    (g := F0 m pc ls rest) rfl (by rw [hb]; exact d0) (Nat.le_refl _) (Nat.le_refl _)
  generalize hT1 : (T.setVm vm₁).pushCell { cls := cX, slots := kX.instanceTypes.map defaultValue, vm := .none } = T1 at X₁ st1
  have hcat : (Value.ref T.heap.size).category = 1 := rfl
  have hcellA : T1.heap[T.heap.size]? = some (freshCell cX kX) := by rw [← hT1]; exact State.heap_pushCell_size _ _
  have d3' : decode c.code (pc + 3) = .ok (.dup, 1) := by rw [hb]; exact d3
  have d4' : decode c.code (pc + 4) = .ok (.ldc_w is, 3) := by rw [hb]; exact d4
  have hstr' : vk_R own is text sa s' := vk_R.warm hW0 hstr
  obtain ⟨U, hsteps, hrun, hend, hW, hsame, ce, hce, hO⟩ := X₁.ctorThrowS hexec htr (own := own) (cls := cls) (names := names) (ic := ic) hown' hcls hnames h (fun x hx => nomatch hx) hfX hkX hcellA (by rw [hhp, hT]; exact Nat.le_refl _) (msg := .ref sa) rfl
    (g := { method := m, pc := pc + 7, locals := ls, stack := .ref sa :: .ref T.heap.size :: .ref T.heap.size :: rest, locked := none }) rfl hsize rfl rfl (rest := rest) rfl
    (by rw [hb]; exact d7) (by rw [hb]; exact d10) hout hRframes (by simp only [List.map_cons, List.sum_cons, hcat]; omega) hlocks
  obtain ⟨f1, f2⟩ := vx_frame hsame
  rw [hhp] at f1 f2
  have hWs : s.WarmedH U.vm := State.WarmedH.trans hW0 hW
  have hcl : s.vm.findClass cls = some ce.cls := by
    have h9 := hO.cls
    rw [hvm] at h9
    exact h9
  have hall : s.sameButNew ({ U with vm := s.vm } : State) locs mc ms := by
    subst hA
    obtain ⟨e1, e2⟩ := hsame
    rw [State.setFrames_setFrames] at e1
    have h2 : (T.setVm s.vm).sameButNew ({ U with vm := s.vm } : State) [] (0 + 1) (0 + 6) := ⟨e1, e2⟩
    have h3 := X.same.trans h2
    rw [List.append_nil] at h3
    exact h3.mono hc hs
  refine ⟨U, ?_, .threw T.heap.size, hrun, hend, Or.inr ⟨T.heap.size, rfl, cls, ce, locs, hx U hWs.alike f1 (fun q hq => f2 q hq (fun z hz => nomatch hz)), hce, hO.vm, hcl, hWs, hall, hf⟩⟩
  refine st1 _ ?_
  show Steps p.tables e below (T1.setTop { method := m, pc := pc + 3, locals := ls, stack := .ref T.heap.size :: rest, locked := none }) _
  jvm_step X₁.here [X₁.here.top, hexec, d3', Value.category]
  exact X₁.ldcStringW hexec (own := own) (text := text) (index := is) (a := sa) hown' hstr'.1 hstr'.2
    (g := { method := m, pc := pc + 4, locals := ls, stack := .ref T.heap.size :: .ref T.heap.size :: rest, locked := none }) rfl d4' _ hsteps
end Ends
section Bodies
variable {l : Launch}
theorem vx_ofW {y : MethodName} {ws ws' : List Cond} {rm : Room} {Pc : Array Value → State → Prop} {Qc : Array Value → State → Outcome → State → Prop} {XC : String → State → State → Prop} {mc ms : Nat} {free : Addr → Prop} {cc : ByteArray} {maxL : Nat} {ret : Option FieldType}
    (hy : plainName y.cls = true) (hw : ws = Cond.code y cc maxL ret :: ws')
    (body : ∀ p e s m args below meth c s₁, BodyLoose p l y (headSpec ws rm) cc maxL ret e s m args below meth c s₁ → c.maxLocals = maxL → (∀ x ∈ c.exceptionTable.toList, False) → Pc args s →
      W p l e (headSpec ws rm).room s m args below meth c s.heap [] 0 0 (vx_MQ below Qc XC args s mc ms free) (entryFrame m args maxL)) : vx_Met l y ws rm Pc Qc XC mc ms free := by
  refine MetFree.of_bodyS (code := cc) (maxLocals := maxL) (ret := ret) hy ?_ ?_
  · intro args s m h hn
    obtain ⟨meth, c, h1, h2, h3, h4, h5, h6, -, -⟩ := Cond.code_spec hn (atoms_spec (ws := ws) h _ (by rw [hw]; exact List.mem_cons_self))
    exact ⟨meth, c, h1, h2, h3, h4, h5, h6⟩
  · intro p e s m args below meth c s₁ B hml hP _
    have hh0 : s₁.heap = s.heap := by rw [B.state]; rfl
    have ht : ∀ x ∈ c.exceptionTable.toList, False := by
      obtain ⟨meth9, c9, h1, h2, -, -, -, -, h7, -⟩ := Cond.code_spec B.named (atoms_spec (ws := ws) B.pre _ (by rw [hw]; exact List.mem_cons_self))
      cases Option.some.inj (h1.symm.trans B.method)
      cases Option.some.inj (h2.symm.trans (Stand.of_body B).code)
      intro x hx
      rw [Array.isEmpty_iff.mp h7] at hx
      cases hx
    obtain ⟨t, a1, o, b1, b2, b3⟩ := body p e s m args below meth c s₁ B hml ht hP s₁ hh0 (Stand.of_body B)
    exact ⟨t, o, a1, b1, b2, b3⟩
/-- the table of a body with handlers -/
theorem vx_table {p : Program} {x y : MethodName} {S : Spec} {cc bytes : ByteArray} {maxL maxL' : Nat} {ret ret' : Option FieldType} {e : Env} {s s₁ : State} {m : MethodId} {args : Array Value} {below : List Frame} {meth : Method} {c : Code} {hh : List (Nat × Nat × Nat × Nat)}
    (B : BodyLoose p l y S cc maxL ret e s m args below meth c s₁) (h : (Cond.codeWith y bytes maxL' ret' hh).before args s = true) : c.exceptionTable.toList = tableOf hh := by
  obtain ⟨m9, meth9, c9, hn9, h1, h2, -, -, h6, -⟩ := Cond.codeWith_spec h
  cases Option.some.inj (hn9.symm.trans B.named)
  cases Option.some.inj (h1.symm.trans B.method)
  cases Option.some.inj (h2.symm.trans (Stand.of_body B).code)
  rw [← h6, table_eq]
end Bodies
end VXA
/-! ===== END ===== -/
/-! ===== BEGIN a static call of a method with an exception table ===== -/
section VXS
variable {p : Program} {l : Launch} {e : Env} {R : Room} {s : State} {m : MethodId} {args : Array Value} {below : List Frame} {meth : Method} {c : Code} {T : State} {H : Heap} {locs : List Loc} {cells slots : Nat}
abbrev vx_CSW (R : Room) (s : State) (args : Array Value) (own : String) (index : Nat) (y : MethodName) (bytes : ByteArray) (maxL : Nat) (ret : Option FieldType) (hh : List (Nat × Nat × Nat × Nat)) (ws : List Cond) (rm : Room) (mc ms n : Nat) : Prop :=
  (rm.cells = mc ∧ rm.slots = ms ∧ rm.frames + 1 ≤ R.frames ∧ 8 + (maxL + 11) + rm.locals ≤ R.locals ∧ (∀ w ∈ ws, ∀ (a' : Array Value) (U : State), s.WarmedH U.vm → w.before a' U = true) ∧ Cond.codeWith y bytes maxL ret hh ∈ ws) ∧
  (Cond.codeWith y bytes maxL ret hh).before args s = true ∧ (Cond.initialized y.cls).before args s = true ∧ (y.cls ≠ "java/lang/invoke/MethodHandle" ∧ y.cls ≠ "java/lang/invoke/VarHandle") ∧
  (∀ sig, parseMethodDescriptor y.desc = some sig → n = sig.parameters.length) ∧ (Cond.methodLink own index y).before args s = true ∧ (Cond.static y).before args s = true
theorem vx_cwSW {own : String} {index maxL mc ms : Nat} {y : MethodName} {bytes : ByteArray} {ret : Option FieldType} {hh : List (Nat × Nat × Nat × Nat)} {Ts ws ws' : List Cond} {rm : Room} (n : Nat) (ht : ∀ w ∈ Ts, w.before args s = true) (hT : GoodIn Ts (va_wsS own index y ws)) (hw : ws = Cond.codeWith y bytes maxL ret hh :: ws') (hrc : rm.cells = mc) (hrs : rm.slots = ms)
    (hd : y.cls ≠ "java/lang/invoke/MethodHandle" ∧ y.cls ≠ "java/lang/invoke/VarHandle" ∧ (parseMethodDescriptor y.desc).map (fun d => d.parameters.length) = some n) (hR : rm.frames + 1 ≤ R.frames ∧ 8 + (maxL + 11) + rm.locals ≤ R.locals) :
    vx_CSW R s args own index y bytes maxL ret hh ws rm mc ms n := by
  have ok : ∀ w ∈ va_wsS own index y ws, w.before args s = true := fun w h => ht w (hT w h).1
  have hG : GoodIn Ts ws := fun w h => hT w (by unfold va_wsS; exact List.mem_append_right _ h)
  have hc : Cond.codeWith y bytes maxL ret hh ∈ ws := by rw [hw]; exact List.mem_cons_self
  refine ⟨⟨hrc, hrs, hR.1, hR.2, pay_in ht hG, hc⟩, ht _ (hG _ hc).1, ok _ (by simp [va_wsS]), ⟨hd.1, hd.2.1⟩, fun sig h => ?_, ok _ (by simp [va_wsS]), ok _ (by simp [va_wsS])⟩
  have h2 := hd.2.2
  rw [h] at h2
  exact (Option.some.inj h2).symm
theorem vx_callSW (X : Stand p l e R s m args below meth c T locs cells slots) (hexec : p.tables.exec = Jvm.exec) {own : String} {index : Nat} {y : MethodName} {bytes : ByteArray} {maxL : Nat} {ret : Option FieldType} {hh : List (Nat × Nat × Nat × Nat)}
    (hown : s.vm.findClass own = some m.cls) (hlink : (Cond.methodLink own index y).before args s = true) (hstat : (Cond.static y).before args s = true) (hinit : (Cond.initialized y.cls).before args s = true)
    (hcode : (Cond.codeWith y bytes maxL ret hh).before args s = true) (hy : y.cls ≠ "java/lang/invoke/MethodHandle" ∧ y.cls ≠ "java/lang/invoke/VarHandle")
    {W9 : Nat} {Pre : Pt → Array Value → Prop} {Post : Pt → Array Value → Option Value → Pt → Prop} (hK : Back l R p e below s args y 3 W9 Pre Post)
    {g : JFrame} (hg : g.method = m) (hsize : g.locals.size = c.maxLocals) {argsL rest : List Value} (hlen : ∀ sig, parseMethodDescriptor y.desc = some sig → argsL.length = sig.parameters.length)
    (hstack : g.stack = argsL.reverse ++ rest) (hW : 2 * g.monitorRoom + (rest.map fun v => v.category).sum ≤ W9) (hdg : decode c.code g.pc = .ok (.invokestatic index, 3))
    (hpre : ∀ vm₁, s.WarmedH vm₁ → Pre ⟨T.setVm vm₁, locs, cells, slots⟩ argsL.toArray) :
    ∃ (v : Option Value) (vm₁ : Vm) (B : Pt), s.WarmedH vm₁ ∧ Stand p l e R s m args below meth c B.U B.locs B.cells B.slots ∧ Post ⟨T.setVm vm₁, locs, cells, slots⟩ argsL.toArray v B ∧
      ∀ target, Steps p.tables e below (B.U.setTop { g with pc := g.pc + 3, stack := v.toList ++ rest }) target → Steps p.tables e below (T.setTop g) target := by
  obtain ⟨mk, methM, cM, hnamed, hmethM, -, -, -, -, -, -, hsigM⟩ := Cond.codeWith_spec hcode
  have hstatic : methM.isStatic = true := Cond.static_spec hnamed hmethM hstat
  obtain ⟨kP, hkP, -⟩ := className_of_methodNamed hnamed
  have hinitP : kP.init = .initialized := Cond.initialized_spec (findClass_of_methodNamed hnamed) hkP hinit
  obtain ⟨vm₁, X₁, hstep₁⟩ := X.invokestatic hexec hown hlink hnamed hmethM hstatic hkP hinitP hy (g := g) hg (argsL := argsL) (rest := rest) (hlen _ hsigM) hstack hdg
  obtain ⟨v, B, X', hpost, hsteps⟩ := hK m meth c ⟨T.setVm vm₁, locs, cells, slots⟩ { g with stack := rest } (.invokestatic index) mk argsL.toArray X₁ hg hsize hdg hW (X₁.named hnamed) (hpre vm₁ X₁.warmed)
  exact ⟨v, vm₁, B, X₁.warmed, X', hpost, fun target h => hstep₁ _ fun acts => by rw [doInvoke_state]; exact hsteps.trans h⟩
theorem vx_runSW {y : MethodName} {bytes cc : ByteArray} {maxL nL mc ms n index : Nat} {ret : Option FieldType} {hh : List (Nat × Nat × Nat × Nat)} {ws : List Cond} {rm : Room} {Pc : Array Value → State → Prop} {Qc : Array Value → State → Outcome → State → Prop} {free : Addr → Prop} {Ts : List Cond} {own : String} {As rest : List Value} {g : JFrame}
    (S : CallFix p m c cc nL s args Ts own) (hM : Met l y ws rm Pc Qc mc ms free) (cw : vx_CSW R s args own index y bytes maxL ret hh ws rm mc ms n) (hp : PreS s H Pc As)
    (hg : g.method = m) (hn : As.length = n) (hsize : g.locals.size = nL) (hstack : g.stack = As.reverse ++ rest) (hW : 2 * g.monitorRoom + (rest.map fun v => v.category).sum ≤ 8) (hdg : decode cc g.pc = .ok (.invokestatic index, 3)) (hf : cells + mc ≤ R.cells ∧ slots + ms ≤ R.slots) :
    va_Run p l e R s m args below meth c H locs cells slots mc ms g rest (Qc As.toArray) (free) := by
  obtain ⟨⟨hrc, hrs, hfr, hlo, hws, hcw⟩, hcode, hini, hy, hlen, hl, hstt⟩ := cw
  have hK : Back l R p e below s args y 3 8 (PreOf R mc ms Pc) (PostOf Qc mc ms free) := va_backW (hh := hh) (bytes := bytes) (maxL := maxL) (ret := ret) hM hp.1 hrc hrs hfr hlo hws hcw (fun a' U hW => word_at hW (Or.inl (by first | rfl | simp [Cond.onTables, Cond.keeps, Cond.steady])) hini)
  obtain ⟨hx, hb, hml, ho, -⟩ := S
  intro T hT X
  obtain ⟨v, vm₁, ⟨U', l2, c2, s2⟩, hW₁, X', ⟨g', mk, t, L, e1, e2, hq, h1, hL, h2, h3⟩, st⟩ := vx_callSW X hx (hh := hh) (bytes := bytes) (maxL := maxL) (ret := ret) ho hl hstt hini hcode hy hK hg (hsize.trans hml.symm) (argsL := As) (rest := rest) (fun sig h => hn.trans (hlen sig h)) hstack hW (by rw [hb]; exact hdg)
    (fun vm₁ hW₁ => ⟨hf.1, hf.2, hp.2 (T.setVm vm₁) hT hW₁⟩)
  dsimp only [Pt.U, Pt.locs, Pt.cells, Pt.slots] at X' e1 e2 h1 h2 h3 st
  subst h1; subst h2; subst h3
  exact ⟨v, (T.setVm vm₁).calling g' mk As.toArray, t, U', L, hT, X', hL, e1, e2, hq, st⟩
/-- not caught here, past rows that name other classes: it goes on to the caller -/
theorem vx_outP {p : Program} {l : Launch} {e : Env} {R : Room} {s : State} {m : MethodId} {args : Array Value} {below : List Frame} {meth : Method} {c : Code} {H : Heap} {locs : List Loc} {cells slots : Nat} {free : Addr → Prop} {ls : Array Slot} {rest : List Value} {Qc : Array Value → State → Outcome → State → Prop} {XC : String → State → State → Prop}
    {pc : Nat} {own E : String} {ce : Cell} {q : Addr} {mc ms : Nat} (hown : s.vm.findClass own = some m.cls) (hlocks : meth.locks = false)
    (hpass : ∀ z ∈ c.exceptionTable.toList, covers z pc = false ∨ (z.catchType ≠ 0 ∧ ∃ nm : String, (Cond.classLink own z.catchType nm).before args s = true ∧ va_Nc E nm s)) (hcell : H[q]? = some ce) (hv : ce.vm = .none) (hcl : s.vm.findClass E = some ce.cls)
    (hx : ∀ t : State, t.heap = H → s.vm.Alike t.vm → XC E s t) (hf : ∀ z ∈ locs, free z.base) (hc : cells ≤ mc) (hs : slots ≤ ms) :
    vx_W p l e R s m args below meth c H locs cells slots (vx_MQ below Qc XC args s mc ms free) (F0 m pc ls rest) q := by
  intro T hT X
  have hpl : e.platform.magicAccessors = ({} : Platform).magicAccessors := by rw [X.admits.platform]
  obtain ⟨vm', hW', X', st⟩ := X.outThrough hlocks q (g := F0 m pc ls rest) rfl rfl rfl (cell := ce) (by rw [hT]; exact hcell) (by rw [hv]; rfl)
    (by obtain ⟨k9, h9, -⟩ := Vm.findClass_spec hcl; exact ⟨k9, h9⟩) (fun z hz => by
      rcases hpass z hz with h | ⟨hz0, nm, hl1, hn1⟩
      · exact Or.inl h
      · obtain ⟨c6, hc6, hcl6⟩ := Cond.classLink_spec hown hl1 e.platform hpl
        obtain ⟨a8, b8, h1, h2, h3⟩ := hn1
        cases Option.some.inj (h1.symm.trans hcl)
        cases Option.some.inj (h2.symm.trans hc6)
        exact Or.inr ⟨hz0, _, hcl6, h3⟩)
  obtain ⟨g₀, hfr⟩ := X'.frames_eq
  have hcell9 : ((T.setVm vm').setFrames (.throwing q :: below)).heap[q]? = some ce := by
    show T.heap[q]? = some ce
    rw [hT]; exact hcell
  have hend : Ended ((T.setVm vm').setFrames (.throwing q :: below)) below (.threw q) := State.frames_setFrames _ (State.cur_lt_of_frames hfr)
  refine ⟨(T.setVm vm').setFrames (.throwing q :: below), ?_, .threw q, X'.here.running, hend, Or.inr ⟨q, rfl, E, ce, locs, hx _ hT (X'.ends _).1.alike, hcell9, hv, hcl, (X'.ends _).1, (X'.ends _).2.mono hc hs, hf⟩⟩
  rw [X.pushThrowing_eq]
  exact st
/-- a thing of a world lies in the heap -/
theorem vx_lt {D : va_G} {cl : List vw_C} {ws : va_W} {H1 : Heap} (h : va_P D cl ws H1) {k : Nat} {q : Nat × va_E} (hk : ws[k]? = some q) : q.1 < H1.size := (h k q hk).lt
end VXS
/-! ===== END ===== -/
/-! ===== BEGIN methods with a table of their own: called by a name, returning or throwing ===== -/
section VXH
/-! vx_backW, vx_callVX, vx_callSX, vx_callVW, vx_runVW, vx_runVX, vx_runSX, vx_ofWH follow the same proofs as their sisters above (Free/Laws.lean, Shelf42/LK1.lean); vx_outP calls Shelf42/NT130.lean (outThrough). -/
section
variable {l : Launch} {R : Room} {p : Program} {e : Env} {below : List Frame} {s : State} {sargs : Array Value} {y : MethodName} {len W9 : Nat}
theorem vx_backW {ws : List Cond} {rm : Room} {Pc : Array Value → State → Prop} {Qc : Array Value → State → Outcome → State → Prop} {XC : String → State → State → Prop} {mc ms : Nat} {free : Addr → Prop} {bytes : ByteArray} {maxL : Nat} {ret : Option FieldType} {hh : List (Nat × Nat × Nat × Nat)}
    (hM : vx_Met l y ws rm Pc Qc XC mc ms free) (hblind : FrameBlind Pc) (hrc : rm.cells = mc) (hrs : rm.slots = ms)
    (hframes : rm.frames + 1 ≤ R.frames) (hlocals : W9 + (maxL + 11) + rm.locals ≤ R.locals)
    (hws : ∀ w ∈ ws, ∀ a' U, s.WarmedH U.vm → w.before a' U = true) (hcode : Cond.codeWith y bytes maxL ret hh ∈ ws) (hinit : ∀ a' U, s.WarmedH U.vm → (Cond.initialized y.cls).before a' U = true) :
    vx_Back l R p e below s sargs y len W9 (PreOf R mc ms Pc) (PostOf Qc mc ms free) (vx_Post XC mc ms free) := by
  intro m meth c A g ig mk a X hg hsize hdg hW hn hp
  have h1 : (headSpec ws rm).pre.before a A.U = true := atoms_intro fun w hw => hws w hw _ _ X.warmed
  have h2 : (Cond.codeWith y bytes maxL ret hh).before a A.U = true := hws _ hcode _ _ X.warmed
  have h3 : (Cond.initialized y.cls).before a A.U = true := hinit _ _ X.warmed
  have h4 : A.cells + (headSpec ws rm).room.cells ≤ R.cells := by rw [show (headSpec ws rm).room.cells = mc from hrc]; exact hp.1
  have h5 : A.slots + (headSpec ws rm).room.slots ≤ R.slots := by rw [show (headSpec ws rm).room.slots = ms from hrs]; exact hp.2.1
  have hPc : Pc a (A.U.calling g mk a) := hblind _ _ _ _ hp.2.2
  obtain ⟨U, Ls, c0, s0⟩ := A
  dsimp only [Pt.U, Pt.locs, Pt.cells, Pt.slots] at h1 h2 h3 h4 h5 X hn hPc ⊢
  obtain ⟨m9, methY, cY, hn9, hmY, hcY, -, hlY, -⟩ := Cond.codeWith_spec h2
  cases Option.some.inj (hn9.symm.trans hn)
  obtain ⟨kY, hkY, -⟩ := className_of_methodNamed hn
  have hinitY : kY.init = .initialized := Cond.initialized_spec (findClass_of_methodNamed hn) hkY h3
  have h : At U g.method c below := by rw [hg]; exact X.here
  have hlocals9 : W9 + (maxL + 11) + (headSpec ws rm).room.locals ≤ R.locals := hlocals
  have happ : (headSpec ws rm).appliesLoose y e.platform (U.calling g mk a) = true :=
    Spec.appliesLoose_calling (g := g) h hdg hn hkY hinitY
      (X.room_calling (g := g) (R' := (headSpec ws rm).room) hsize hmY hcY hframes (by rw [hlY]; omega) h4 h5) h1
  obtain ⟨mid, hmid⟩ := h.above
  have hfr : (U.setTop g).frames = (.java g :: mid) ++ below := by rw [State.frames_setTop' g h.top, hmid]; rfl
  obtain ⟨o, s₂, hsteps, -, hend, hq⟩ := Steps.callFree hM p X.admits X.cas X.clock (acts := []) hfr happ hPc trivial
  have hq' : vx_Q Qc XC mc ms free a (U.calling g mk a) o s₂ := hq
  rw [State.frames_setTop' g h.top] at hend
  obtain ⟨g₀, hg0⟩ := Option.isSome_iff_exists.mp h.top
  obtain ⟨r, hr⟩ := State.topJava?_eq_some.mp hg0
  have hr' : (({ U with heap := s₂.heap, slotsUsed := s₂.slotsUsed } : State).setVm s₂.vm).frames = .java g₀ :: r := hr
  rcases hq' with ⟨hqc, L, hfe, hL⟩ | ⟨q, rfl, E, ce, L, hx, hce, hcv, hcl, hW₂, hsm, hL⟩
  · obtain ⟨⟨v, rfl⟩, hW₂, e2, q2, q3, q4, q5, q6⟩ := id hfe
    have e3 : s₂ = ({ (U.calling g mk a).setFrames s₂.frames with heap := s₂.heap, slotsUsed := s₂.slotsUsed } : State).setVm s₂.vm := by
      have : s₂ = ({ s₂ with vm := (U.calling g mk a).vm } : State).setVm s₂.vm := rfl
      rw [e2] at this
      exact this
    obtain ⟨c₂, i₂, len₂, hc₂, hd₂, hf₂⟩ := hend
    have hW' : U.WarmedH s₂.vm := hW₂
    have hcc : c₂ = c := by
      have h1 : s₂.code? g.method = U.code? g.method := by
        rw [State.code?_eq, State.code?_eq, hW'.alike.method?]
      exact Option.some.inj (hc₂.symm.trans (h1.trans h.code))
    subst hcc
    have hlen : len₂ = len := by rw [hdg] at hd₂; cases hd₂; rfl
    subst hlen
    have hs₂ : s₂ = (({ U with heap := s₂.heap, slotsUsed := s₂.slotsUsed } : State).setVm s₂.vm).setTop { g with pc := g.pc + len₂, stack := v.toList ++ g.stack } := by
      refine e3.trans ?_
      rw [hf₂, State.calling_eq h.top, State.setFrames_setFrames, State.setTop_of_frames _ hr', hr]
      rfl
    have hsame : U.sameButNew ({ U with heap := s₂.heap, slotsUsed := s₂.slotsUsed } : State) L mc ms := by
      refine ⟨?_, q2, q3, q4, q5, q6⟩
      obtain ⟨t, ht, -⟩ := State.frames_cons hr
      show ({ U with heap := s₂.heap, slotsUsed := s₂.slotsUsed } : State) = { U.setFrames U.frames with heap := s₂.heap, slotsUsed := s₂.slotsUsed }
      rw [State.setFrames_self ht]
    subst hg
    refine Or.inl ⟨v, ⟨(({ U with heap := s₂.heap, slotsUsed := s₂.slotsUsed } : State).setVm s₂.vm), Ls ++ L, c0 + mc, s0 + ms⟩,
      ⟨X.admits, X.cas, X.clock, X.frames, X.room, X.hears, X.method, X.code, (X.here.setHeapUsed s₂.heap s₂.slotsUsed).setVm hW'.alike, X.tail, State.WarmedH.trans X.warmed hW', X.limits, X.bytes, X.same.trans (hsame.setVm s.vm)⟩,
      ⟨g, mk, s₂, L, rfl, rfl, hqc, rfl, hL, rfl, rfl⟩, ?_⟩
    show Steps p.tables e below _ ((({ U with heap := s₂.heap, slotsUsed := s₂.slotsUsed } : State).setVm s₂.vm).setTop { g with pc := g.pc + len₂, stack := v.toList ++ g.stack })
    rw [← hs₂]
    exact hsteps
  · obtain ⟨e2, q2, q3, q4, q5, q6⟩ := id hsm
    have e3 : s₂ = ({ (U.calling g mk a).setFrames s₂.frames with heap := s₂.heap, slotsUsed := s₂.slotsUsed } : State).setVm s₂.vm := by
      have : s₂ = ({ s₂ with vm := (U.calling g mk a).vm } : State).setVm s₂.vm := rfl
      rw [e2] at this
      exact this
    have hf₂ : s₂.frames = .throwing q :: .java g :: U.frames.tail := hend
    have hW' : U.WarmedH s₂.vm := hW₂
    have hs₂ : s₂ = ((({ U with heap := s₂.heap, slotsUsed := s₂.slotsUsed } : State).setVm s₂.vm).setTop g).pushFrame (.throwing q) := by
      refine e3.trans ?_
      rw [hf₂, State.calling_eq h.top, State.setFrames_setFrames, State.pushFrame, State.frames_setTop _ hr', State.setTop_of_frames _ hr', State.setFrames_setFrames, hr]
      rfl
    have hsame : U.sameButNew ({ U with heap := s₂.heap, slotsUsed := s₂.slotsUsed } : State) L mc ms := by
      refine ⟨?_, q2, q3, q4, q5, q6⟩
      obtain ⟨t, ht, -⟩ := State.frames_cons hr
      show ({ U with heap := s₂.heap, slotsUsed := s₂.slotsUsed } : State) = { U.setFrames U.frames with heap := s₂.heap, slotsUsed := s₂.slotsUsed }
      rw [State.setFrames_self ht]
    subst hg
    refine Or.inr ⟨q, ⟨(({ U with heap := s₂.heap, slotsUsed := s₂.slotsUsed } : State).setVm s₂.vm), Ls ++ L, c0 + mc, s0 + ms⟩,
      ⟨X.admits, X.cas, X.clock, X.frames, X.room, X.hears, X.method, X.code, (X.here.setHeapUsed s₂.heap s₂.slotsUsed).setVm hW'.alike, X.tail, State.WarmedH.trans X.warmed hW', X.limits, X.bytes, X.same.trans (hsame.setVm s.vm)⟩,
      ⟨g, mk, s₂, L, E, ce, rfl, rfl, hx, hce, hcv, hcl, rfl, hL, rfl, rfl⟩, ?_⟩
    show Steps p.tables e below _ (((({ U with heap := s₂.heap, slotsUsed := s₂.slotsUsed } : State).setVm s₂.vm).setTop g).pushFrame (.throwing q))
    rw [← hs₂]
    exact hsteps
end
variable {p : Program} {l : Launch} {e : Env} {R : Room} {s : State} {m : MethodId} {args : Array Value} {below : List Frame} {meth : Method} {c : Code} {T : State} {H : Heap} {locs : List Loc} {cells slots : Nat}
theorem vx_callVX (X : Stand p l e R s m args below meth c T locs cells slots) (hexec : p.tables.exec = Jvm.exec) {own C : String} {index : Nat} {y : MethodName} {bytes : ByteArray} {maxL : Nat} {ret : Option FieldType} {hh : List (Nat × Nat × Nat × Nat)}
    (hown : s.vm.findClass own = some m.cls) (hlink : (Cond.methodLink own index y).before args s = true) (hinst : (Cond.instanceMethod y).before args s = true) (hsel : (Cond.selects C y y).before args s = true)
    (hcode : (Cond.codeWith y bytes maxL ret hh).before args s = true) (hy : y.cls ≠ "java/lang/invoke/MethodHandle" ∧ y.cls ≠ "java/lang/invoke/VarHandle")
    {W9 : Nat} {Pre : Pt → Array Value → Prop} {Post : Pt → Array Value → Option Value → Pt → Prop} {PostX : Pt → Array Value → Addr → Pt → Prop} (hK : vx_Back l R p e below s args y 3 W9 Pre Post PostX)
    {b : Addr} {cellB : Cell} (hcell : T.heap[b]? = some cellB) (hobj : cellB.vm.isStatics = false) (hcls : s.vm.findClass C = some cellB.cls)
    {g : JFrame} (hg : g.method = m) (hsize : g.locals.size = c.maxLocals) {argsL rest : List Value} (hlen : ∀ sig, parseMethodDescriptor y.desc = some sig → argsL.length = sig.parameters.length)
    (hstack : g.stack = argsL.reverse ++ .ref b :: rest) (hW : 2 * g.monitorRoom + (rest.map fun v => v.category).sum ≤ W9) (hdg : decode c.code g.pc = .ok (.invokevirtual index, 3))
    (hpre : ∀ vm₁, s.WarmedH vm₁ → Pre ⟨T.setVm vm₁, locs, cells, slots⟩ (Value.ref b :: argsL).toArray) :
    (∃ (v : Option Value) (vm₁ : Vm) (B : Pt), s.WarmedH vm₁ ∧ Stand p l e R s m args below meth c B.U B.locs B.cells B.slots ∧ Post ⟨T.setVm vm₁, locs, cells, slots⟩ (Value.ref b :: argsL).toArray v B ∧
      ∀ target, Steps p.tables e below (B.U.setTop { g with pc := g.pc + 3, stack := v.toList ++ rest }) target → Steps p.tables e below (T.setTop g) target) ∨
    (∃ (q : Addr) (vm₁ : Vm) (B : Pt), s.WarmedH vm₁ ∧ Stand p l e R s m args below meth c B.U B.locs B.cells B.slots ∧ PostX ⟨T.setVm vm₁, locs, cells, slots⟩ (Value.ref b :: argsL).toArray q B ∧
      Steps p.tables e below (T.setTop g) ((B.U.setTop { g with stack := rest }).pushFrame (.throwing q))) := by
  obtain ⟨mk, methM, hnamed, hmethM, hstM, habM⟩ := Cond.instanceMethod_spec hinst
  obtain ⟨m8, methM', cM, hn8, hmethM', -, -, -, -, -, -, hsigM⟩ := Cond.codeWith_spec hcode
  cases Option.some.inj (hn8.symm.trans hnamed)
  cases hmethM.symm.trans hmethM'
  obtain ⟨c2, r2, m2, q1, q2, q3, q4, kP, hkP, hkPi⟩ := Cond.selects_spec hsel
  cases hcls.symm.trans q1
  cases (State.methodFound?_of_named hnamed hy).symm.trans q2
  cases hnamed.symm.trans q3
  have hselP : selectMethod e.platform s.vm cellB.cls mk = .method mk := by rw [Launch.admits_selectMethod X.admits]; exact q4
  obtain ⟨vm₁, X₁, hstep₁⟩ := X.invokevirtual hexec hown hlink hnamed hmethM hstM hkP hkPi hy (a := b) (cell := cellB) hcell
    (fun z h => by rw [h] at hobj; cases hobj) hselP hmethM habM hkP hkPi (g := g) hg (argsL := argsL) (rest := rest) (hlen _ hsigM) hstack hdg
  rcases hK m meth c ⟨T.setVm vm₁, locs, cells, slots⟩ { g with stack := rest } (.invokevirtual index) mk (Value.ref b :: argsL).toArray X₁ hg hsize hdg hW (X₁.named hnamed) (hpre vm₁ X₁.warmed) with ⟨v, B, X', hpost, hsteps⟩ | ⟨q, B, X', hpost, hsteps⟩
  · exact Or.inl ⟨v, vm₁, B, X₁.warmed, X', hpost, fun target h => hstep₁ _ fun acts => by rw [doInvoke_state]; exact hsteps.trans h⟩
  · exact Or.inr ⟨q, vm₁, B, X₁.warmed, X', hpost, hstep₁ _ fun acts => by rw [doInvoke_state]; exact hsteps⟩
theorem vx_callSX (X : Stand p l e R s m args below meth c T locs cells slots) (hexec : p.tables.exec = Jvm.exec) {own : String} {index : Nat} {y : MethodName} {bytes : ByteArray} {maxL : Nat} {ret : Option FieldType} {hh : List (Nat × Nat × Nat × Nat)}
    (hown : s.vm.findClass own = some m.cls) (hlink : (Cond.methodLink own index y).before args s = true) (hstat : (Cond.static y).before args s = true) (hinit : (Cond.initialized y.cls).before args s = true)
    (hcode : (Cond.codeWith y bytes maxL ret hh).before args s = true) (hy : y.cls ≠ "java/lang/invoke/MethodHandle" ∧ y.cls ≠ "java/lang/invoke/VarHandle")
    {W9 : Nat} {Pre : Pt → Array Value → Prop} {Post : Pt → Array Value → Option Value → Pt → Prop} {PostX : Pt → Array Value → Addr → Pt → Prop} (hK : vx_Back l R p e below s args y 3 W9 Pre Post PostX)
    {g : JFrame} (hg : g.method = m) (hsize : g.locals.size = c.maxLocals) {argsL rest : List Value} (hlen : ∀ sig, parseMethodDescriptor y.desc = some sig → argsL.length = sig.parameters.length)
    (hstack : g.stack = argsL.reverse ++ rest) (hW : 2 * g.monitorRoom + (rest.map fun v => v.category).sum ≤ W9) (hdg : decode c.code g.pc = .ok (.invokestatic index, 3))
    (hpre : ∀ vm₁, s.WarmedH vm₁ → Pre ⟨T.setVm vm₁, locs, cells, slots⟩ argsL.toArray) :
    (∃ (v : Option Value) (vm₁ : Vm) (B : Pt), s.WarmedH vm₁ ∧ Stand p l e R s m args below meth c B.U B.locs B.cells B.slots ∧ Post ⟨T.setVm vm₁, locs, cells, slots⟩ argsL.toArray v B ∧
      ∀ target, Steps p.tables e below (B.U.setTop { g with pc := g.pc + 3, stack := v.toList ++ rest }) target → Steps p.tables e below (T.setTop g) target) ∨
    (∃ (q : Addr) (vm₁ : Vm) (B : Pt), s.WarmedH vm₁ ∧ Stand p l e R s m args below meth c B.U B.locs B.cells B.slots ∧ PostX ⟨T.setVm vm₁, locs, cells, slots⟩ argsL.toArray q B ∧
      Steps p.tables e below (T.setTop g) ((B.U.setTop { g with stack := rest }).pushFrame (.throwing q))) := by
  obtain ⟨mk, methM, cM, hnamed, hmethM, -, -, -, -, -, -, hsigM⟩ := Cond.codeWith_spec hcode
  have hstatic : methM.isStatic = true := Cond.static_spec hnamed hmethM hstat
  obtain ⟨kP, hkP, -⟩ := className_of_methodNamed hnamed
  have hinitP : kP.init = .initialized := Cond.initialized_spec (findClass_of_methodNamed hnamed) hkP hinit
  obtain ⟨vm₁, X₁, hstep₁⟩ := X.invokestatic hexec hown hlink hnamed hmethM hstatic hkP hinitP hy (g := g) hg (argsL := argsL) (rest := rest) (hlen _ hsigM) hstack hdg
  rcases hK m meth c ⟨T.setVm vm₁, locs, cells, slots⟩ { g with stack := rest } (.invokestatic index) mk argsL.toArray X₁ hg hsize hdg hW (X₁.named hnamed) (hpre vm₁ X₁.warmed) with ⟨v, B, X', hpost, hsteps⟩ | ⟨q, B, X', hpost, hsteps⟩
  · exact Or.inl ⟨v, vm₁, B, X₁.warmed, X', hpost, fun target h => hstep₁ _ fun acts => by rw [doInvoke_state]; exact hsteps.trans h⟩
  · exact Or.inr ⟨q, vm₁, B, X₁.warmed, X', hpost, hstep₁ _ fun acts => by rw [doInvoke_state]; exact hsteps⟩
theorem vx_callVW (X : Stand p l e R s m args below meth c T locs cells slots) (hexec : p.tables.exec = Jvm.exec) {own C : String} {index : Nat} {y : MethodName} {bytes : ByteArray} {maxL : Nat} {ret : Option FieldType} {hh : List (Nat × Nat × Nat × Nat)}
    (hown : s.vm.findClass own = some m.cls) (hlink : (Cond.methodLink own index y).before args s = true) (hinst : (Cond.instanceMethod y).before args s = true) (hsel : (Cond.selects C y y).before args s = true)
    (hcode : (Cond.codeWith y bytes maxL ret hh).before args s = true) (hy : y.cls ≠ "java/lang/invoke/MethodHandle" ∧ y.cls ≠ "java/lang/invoke/VarHandle")
    {W9 : Nat} {Pre : Pt → Array Value → Prop} {Post : Pt → Array Value → Option Value → Pt → Prop} (hK : Back l R p e below s args y 3 W9 Pre Post)
    {b : Addr} {cellB : Cell} (hcell : T.heap[b]? = some cellB) (hobj : cellB.vm.isStatics = false) (hcls : s.vm.findClass C = some cellB.cls)
    {g : JFrame} (hg : g.method = m) (hsize : g.locals.size = c.maxLocals) {argsL rest : List Value} (hlen : ∀ sig, parseMethodDescriptor y.desc = some sig → argsL.length = sig.parameters.length)
    (hstack : g.stack = argsL.reverse ++ .ref b :: rest) (hW : 2 * g.monitorRoom + (rest.map fun v => v.category).sum ≤ W9) (hdg : decode c.code g.pc = .ok (.invokevirtual index, 3))
    (hpre : ∀ vm₁, s.WarmedH vm₁ → Pre ⟨T.setVm vm₁, locs, cells, slots⟩ (Value.ref b :: argsL).toArray) :
    ∃ (v : Option Value) (vm₁ : Vm) (B : Pt), s.WarmedH vm₁ ∧ Stand p l e R s m args below meth c B.U B.locs B.cells B.slots ∧ Post ⟨T.setVm vm₁, locs, cells, slots⟩ (Value.ref b :: argsL).toArray v B ∧
      ∀ target, Steps p.tables e below (B.U.setTop { g with pc := g.pc + 3, stack := v.toList ++ rest }) target → Steps p.tables e below (T.setTop g) target := by
  obtain ⟨mk, methM, hnamed, hmethM, hstM, habM⟩ := Cond.instanceMethod_spec hinst
  obtain ⟨m8, methM', cM, hn8, hmethM', -, -, -, -, -, -, hsigM⟩ := Cond.codeWith_spec hcode
  cases Option.some.inj (hn8.symm.trans hnamed)
  cases hmethM.symm.trans hmethM'
  obtain ⟨c2, r2, m2, q1, q2, q3, q4, kP, hkP, hkPi⟩ := Cond.selects_spec hsel
  cases hcls.symm.trans q1
  cases (State.methodFound?_of_named hnamed hy).symm.trans q2
  cases hnamed.symm.trans q3
  have hselP : selectMethod e.platform s.vm cellB.cls mk = .method mk := by rw [Launch.admits_selectMethod X.admits]; exact q4
  obtain ⟨vm₁, X₁, hstep₁⟩ := X.invokevirtual hexec hown hlink hnamed hmethM hstM hkP hkPi hy (a := b) (cell := cellB) hcell
    (fun z h => by rw [h] at hobj; cases hobj) hselP hmethM habM hkP hkPi (g := g) hg (argsL := argsL) (rest := rest) (hlen _ hsigM) hstack hdg
  obtain ⟨v, B, X', hpost, hsteps⟩ := hK m meth c ⟨T.setVm vm₁, locs, cells, slots⟩ { g with stack := rest } (.invokevirtual index) mk (Value.ref b :: argsL).toArray X₁ hg hsize hdg hW (X₁.named hnamed) (hpre vm₁ X₁.warmed)
  exact ⟨v, vm₁, B, X₁.warmed, X', hpost, fun target h => hstep₁ _ fun acts => by rw [doInvoke_state]; exact hsteps.trans h⟩
abbrev vx_CVW (R : Room) (s : State) (args : Array Value) (own C : String) (index : Nat) (y : MethodName) (bytes : ByteArray) (maxL : Nat) (ret : Option FieldType) (hh : List (Nat × Nat × Nat × Nat)) (ws : List Cond) (rm : Room) (mc ms n : Nat) : Prop :=
  (rm.cells = mc ∧ rm.slots = ms ∧ rm.frames + 1 ≤ R.frames ∧ 8 + (maxL + 11) + rm.locals ≤ R.locals ∧ (∀ w ∈ ws, ∀ (a' : Array Value) (U : State), s.WarmedH U.vm → w.before a' U = true) ∧ Cond.codeWith y bytes maxL ret hh ∈ ws) ∧
  (Cond.codeWith y bytes maxL ret hh).before args s = true ∧ (Cond.initialized y.cls).before args s = true ∧ (y.cls ≠ "java/lang/invoke/MethodHandle" ∧ y.cls ≠ "java/lang/invoke/VarHandle") ∧
  (∀ sig, parseMethodDescriptor y.desc = some sig → n = sig.parameters.length) ∧ (Cond.methodLink own index y).before args s = true ∧ (Cond.instanceMethod y).before args s = true ∧ (Cond.selects C y y).before args s = true
theorem vx_cwVW {own C : String} {index maxL mc ms : Nat} {y : MethodName} {bytes : ByteArray} {ret : Option FieldType} {hh : List (Nat × Nat × Nat × Nat)} {Ts ws ws' : List Cond} {rm : Room} (n : Nat) (ht : ∀ w ∈ Ts, w.before args s = true) (hT : GoodIn Ts (wsV own index C y ws)) (hw : ws = Cond.codeWith y bytes maxL ret hh :: ws') (hrc : rm.cells = mc) (hrs : rm.slots = ms)
    (hd : y.cls = C ∧ y.cls ≠ "java/lang/invoke/MethodHandle" ∧ y.cls ≠ "java/lang/invoke/VarHandle" ∧ (parseMethodDescriptor y.desc).map (fun d => d.parameters.length) = some n) (hR : rm.frames + 1 ≤ R.frames ∧ 8 + (maxL + 11) + rm.locals ≤ R.locals) :
    vx_CVW R s args own C index y bytes maxL ret hh ws rm mc ms n := by
  obtain ⟨hC, hd⟩ := hd
  subst hC
  have ok : ∀ w ∈ wsV own index y.cls y ws, w.before args s = true := fun w h => ht w (hT w h).1
  have hG : GoodIn Ts ws := fun w h => hT w (by unfold wsV; exact List.mem_append_right _ h)
  have hc : Cond.codeWith y bytes maxL ret hh ∈ ws := by rw [hw]; exact List.mem_cons_self
  refine ⟨⟨hrc, hrs, hR.1, hR.2, pay_in ht hG, hc⟩, ht _ (hG _ hc).1, ok _ (by simp [wsV]), ⟨hd.1, hd.2.1⟩, fun sig h => ?_, ok _ (by simp [wsV]), ok _ (by simp [wsV]), ok _ (by simp [wsV])⟩
  have h2 := hd.2.2
  rw [h] at h2
  exact (Option.some.inj h2).symm
theorem vx_runVW {y : MethodName} {bytes cc : ByteArray} {maxL nL mc ms n index : Nat} {ret : Option FieldType} {hh : List (Nat × Nat × Nat × Nat)} {ws : List Cond} {rm : Room} {Pc : Array Value → State → Prop} {Qc : Array Value → State → Outcome → State → Prop} {free : Addr → Prop} {Ts : List Cond} {own C : String} {b : Addr} {As rest : List Value} {g : JFrame}
    (S : CallFix p m c cc nL s args Ts own) (hM : Met l y ws rm Pc Qc mc ms free) (cw : vx_CVW R s args own C index y bytes maxL ret hh ws rm mc ms n) (hp : PreV s H C b Pc As)
    (hg : g.method = m) (hn : As.length = n) (hsize : g.locals.size = nL) (hstack : g.stack = As.reverse ++ .ref b :: rest) (hW : 2 * g.monitorRoom + (rest.map fun v => v.category).sum ≤ 8) (hdg : decode cc g.pc = .ok (.invokevirtual index, 3)) (hf : cells + mc ≤ R.cells ∧ slots + ms ≤ R.slots) :
    va_Run p l e R s m args below meth c H locs cells slots mc ms g rest (Qc (Value.ref b :: As).toArray) free := by
  obtain ⟨⟨hrc, hrs, hfr, hlo, hws, hcw⟩, hcode, hini, hy, hlen, hl, hin, hse⟩ := cw
  have hK : Back l R p e below s args y 3 8 (PreOf R mc ms Pc) (PostOf Qc mc ms free) := va_backW (hh := hh) (bytes := bytes) (maxL := maxL) (ret := ret) hM hp.1 hrc hrs hfr hlo hws hcw (fun a' U hW => word_at hW (Or.inl (by first | rfl | simp [Cond.onTables, Cond.keeps, Cond.steady])) hini)
  obtain ⟨hx, hb, hml, ho, -⟩ := S
  obtain ⟨-, ⟨cellB, hcB, hoB, hclB⟩, hPc⟩ := hp
  intro T hT X
  obtain ⟨v, vm₁, ⟨U', l2, c2, s2⟩, hW₁, X', ⟨g', mk, t, L, e1, e2, hq, h1, hL, h2, h3⟩, st⟩ := vx_callVW X hx (C := C) (hh := hh) (bytes := bytes) (maxL := maxL) (ret := ret) ho hl hin hse hcode hy hK (by rw [hT]; exact hcB) hoB hclB hg (hsize.trans hml.symm) (argsL := As) (rest := rest) (fun sig h => hn.trans (hlen sig h)) hstack hW (by rw [hb]; exact hdg)
    (fun vm₁ hW₁ => ⟨hf.1, hf.2, hPc (T.setVm vm₁) hT hW₁⟩)
  dsimp only [Pt.U, Pt.locs, Pt.cells, Pt.slots] at X' e1 e2 h1 h2 h3 st
  subst h1; subst h2; subst h3
  exact ⟨v, (T.setVm vm₁).calling g' mk (Value.ref b :: As).toArray, t, U', L, hT, X', hL, e1, e2, hq, st⟩
section
variable {y : MethodName} {bytes cc : ByteArray} {maxL nL mc ms n index : Nat} {ret : Option FieldType} {ws : List Cond} {rm : Room} {Pc : Array Value → State → Prop} {Qc : Array Value → State → Outcome → State → Prop} {XC : String → State → State → Prop} {free : Addr → Prop} {Ts : List Cond} {own C : String} {b : Addr} {As rest : List Value} {g : JFrame}
theorem vx_runVX {hh : List (Nat × Nat × Nat × Nat)} (S : CallFix p m c cc nL s args Ts own) (hM : vx_Met l y ws rm Pc Qc XC mc ms free) (cw : vx_CVW R s args own C index y bytes maxL ret hh ws rm mc ms n) (hp : PreV s H C b Pc As)
    (hg : g.method = m) (hn : As.length = n) (hsize : g.locals.size = nL) (hstack : g.stack = As.reverse ++ .ref b :: rest) (hW : 2 * g.monitorRoom + (rest.map fun v => v.category).sum ≤ 8) (hdg : decode cc g.pc = .ok (.invokevirtual index, 3)) (hf : cells + mc ≤ R.cells ∧ slots + ms ≤ R.slots) :
    vx_Run p l e R s m args below meth c H locs cells slots mc ms g rest (Qc (Value.ref b :: As).toArray) XC free := by
  obtain ⟨⟨hrc, hrs, hfr, hlo, hws, hcw⟩, hcode, hini, hy, hlen, hl, hin, hse⟩ := cw
  have hK : vx_Back l R p e below s args y 3 8 (PreOf R mc ms Pc) (PostOf Qc mc ms free) (vx_Post XC mc ms free) := vx_backW (hh := hh) (bytes := bytes) (maxL := maxL) (ret := ret) hM hp.1 hrc hrs hfr hlo hws hcw (fun a' U hW => word_at hW (Or.inl (by first | rfl | simp [Cond.onTables, Cond.keeps, Cond.steady])) hini)
  obtain ⟨hx, hb, hml, ho, -⟩ := S
  obtain ⟨-, ⟨cellB, hcB, hoB, hclB⟩, hPc⟩ := hp
  intro T hT X
  rcases vx_callVX X hx (C := C) (hh := hh) (bytes := bytes) (maxL := maxL) (ret := ret) ho hl hin hse hcode hy hK (by rw [hT]; exact hcB) hoB hclB hg (hsize.trans hml.symm) (argsL := As) (rest := rest) (fun sig h => hn.trans (hlen sig h)) hstack hW (by rw [hb]; exact hdg)
    (fun vm₁ hW₁ => ⟨hf.1, hf.2, hPc (T.setVm vm₁) hT hW₁⟩) with ⟨v, vm₁, ⟨U', l2, c2, s2⟩, hW₁, X', ⟨g', mk, t, L, e1, e2, hq, h1, hL, h2, h3⟩, st⟩ | ⟨q, vm₁, ⟨U', l2, c2, s2⟩, hW₁, X', ⟨g', mk, t, L, E, ce, e1, e2, hq, hce, hcv, hcl, h1, hL, h2, h3⟩, st⟩
  · dsimp only [Pt.U, Pt.locs, Pt.cells, Pt.slots] at X' e1 e2 h1 h2 h3 st
    subst h1; subst h2; subst h3
    exact Or.inl ⟨v, (T.setVm vm₁).calling g' mk (Value.ref b :: As).toArray, t, U', L, hT, X', hL, e1, e2, hq, st⟩
  · dsimp only [Pt.U, Pt.locs, Pt.cells, Pt.slots] at X' e1 e2 h1 h2 h3 st hcl
    subst h1; subst h2; subst h3
    exact Or.inr ⟨q, (T.setVm vm₁).calling g' mk (Value.ref b :: As).toArray, t, U', L, E, ce, hT, X', hL, e1, e2, hq, hce, hcv, vx_cls hW₁ hcl, st⟩
theorem vx_runSX {hh : List (Nat × Nat × Nat × Nat)} (S : CallFix p m c cc nL s args Ts own) (hM : vx_Met l y ws rm Pc Qc XC mc ms free) (cw : vx_CSW R s args own index y bytes maxL ret hh ws rm mc ms n) (hp : PreS s H Pc As)
    (hg : g.method = m) (hn : As.length = n) (hsize : g.locals.size = nL) (hstack : g.stack = As.reverse ++ rest) (hW : 2 * g.monitorRoom + (rest.map fun v => v.category).sum ≤ 8) (hdg : decode cc g.pc = .ok (.invokestatic index, 3)) (hf : cells + mc ≤ R.cells ∧ slots + ms ≤ R.slots) :
    vx_Run p l e R s m args below meth c H locs cells slots mc ms g rest (Qc As.toArray) XC free := by
  obtain ⟨⟨hrc, hrs, hfr, hlo, hws, hcw⟩, hcode, hini, hy, hlen, hl, hstt⟩ := cw
  have hK : vx_Back l R p e below s args y 3 8 (PreOf R mc ms Pc) (PostOf Qc mc ms free) (vx_Post XC mc ms free) := vx_backW (hh := hh) (bytes := bytes) (maxL := maxL) (ret := ret) hM hp.1 hrc hrs hfr hlo hws hcw (fun a' U hW => word_at hW (Or.inl (by first | rfl | simp [Cond.onTables, Cond.keeps, Cond.steady])) hini)
  obtain ⟨hx, hb, hml, ho, -⟩ := S
  intro T hT X
  rcases vx_callSX X hx (hh := hh) (bytes := bytes) (maxL := maxL) (ret := ret) ho hl hstt hini hcode hy hK hg (hsize.trans hml.symm) (argsL := As) (rest := rest) (fun sig h => hn.trans (hlen sig h)) hstack hW (by rw [hb]; exact hdg)
    (fun vm₁ hW₁ => ⟨hf.1, hf.2, hp.2 (T.setVm vm₁) hT hW₁⟩) with ⟨v, vm₁, ⟨U', l2, c2, s2⟩, hW₁, X', ⟨g', mk, t, L, e1, e2, hq, h1, hL, h2, h3⟩, st⟩ | ⟨q, vm₁, ⟨U', l2, c2, s2⟩, hW₁, X', ⟨g', mk, t, L, E, ce, e1, e2, hq, hce, hcv, hcl, h1, hL, h2, h3⟩, st⟩
  · dsimp only [Pt.U, Pt.locs, Pt.cells, Pt.slots] at X' e1 e2 h1 h2 h3 st
    subst h1; subst h2; subst h3
    exact Or.inl ⟨v, (T.setVm vm₁).calling g' mk As.toArray, t, U', L, hT, X', hL, e1, e2, hq, st⟩
  · dsimp only [Pt.U, Pt.locs, Pt.cells, Pt.slots] at X' e1 e2 h1 h2 h3 st hcl
    subst h1; subst h2; subst h3
    exact Or.inr ⟨q, (T.setVm vm₁).calling g' mk As.toArray, t, U', L, E, ce, hT, X', hL, e1, e2, hq, hce, hcv, vx_cls hW₁ hcl, st⟩
end
end VXH
theorem vx_ofWH {l : Launch} {y : MethodName} {ws ws' : List Cond} {rm : Room} {Pc : Array Value → State → Prop} {Qc : Array Value → State → Outcome → State → Prop} {XC : String → State → State → Prop} {mc ms : Nat} {free : Addr → Prop} {cc : ByteArray} {maxL : Nat} {ret : Option FieldType} {hh : List (Nat × Nat × Nat × Nat)}
    (hy : plainName y.cls = true) (hw : ws = Cond.codeWith y cc maxL ret hh :: ws')
    (body : ∀ p e s m args below meth c s₁, BodyLoose p l y (headSpec ws rm) cc maxL ret e s m args below meth c s₁ → c.maxLocals = maxL → Pc args s →
      W p l e (headSpec ws rm).room s m args below meth c s.heap [] 0 0 (vx_MQ below Qc XC args s mc ms free) (entryFrame m args maxL)) : vx_Met l y ws rm Pc Qc XC mc ms free := by
  refine MetFree.of_bodyS (code := cc) (maxLocals := maxL) (ret := ret) hy ?_ ?_
  · intro args s m h hn
    obtain ⟨m9, meth, c, hn9, h1, h2, h3, h4, -, h5, h6, -⟩ := Cond.codeWith_spec (atoms_spec (ws := ws) h _ (by rw [hw]; exact List.mem_cons_self))
    cases hn.symm.trans hn9
    exact ⟨meth, c, h1, h2, h3, h4, h5, h6⟩
  · intro p e s m args below meth c s₁ B hml hP _
    have hh0 : s₁.heap = s.heap := by rw [B.state]; rfl
    obtain ⟨t, a1, o, b1, b2, b3⟩ := body p e s m args below meth c s₁ B hml hP s₁ hh0 (Stand.of_body B)
    exact ⟨t, o, a1, b1, b2, b3⟩
/-! ===== END ===== -/
end
section
def RX0 : String := "IceField$Blocks"
def TX0 : u_T := fun k => match k with
  | 0 => ("IceField$Blocks", "numbers", "LIceField$Numbers;", true)
  | 1 => ("IceField$Blocks", "held", "LIceField$Numbers;", true)
  | _ => ("IceField$Blocks", "queue", "LIceField$Numbers;", true)
def tyX0 : Nat → FieldType := fun k => match k with
  | 0 => .object "IceField$Numbers"
  | 1 => .object "IceField$Numbers"
  | _ => .object "IceField$Numbers"
abbrev wsX00 : List Cond := u_ws RX0 TX0 3
theorem nmX0 : ∀ a, a < 3 → ∀ b, b < 3 → a ≠ b → (TX0 a).2.1 ≠ (TX0 b).2.1 := by decide +kernel
theorem tyX0_ok : ∀ k, k < 3 → parseFieldDescriptor (TX0 k).2.2.1 = some (tyX0 k) := by decide +kernel
abbrev cX0_init : ByteArray := prog_2_method_1_code
def yX0_init : MethodName := ⟨RX0, "<init>", "()V"⟩
abbrev cX0_find : ByteArray := prog_2_method_2_code
def yX0_find : MethodName := ⟨RX0, "find", "(LIceField$Ice;)V"⟩
abbrev cX0_spread : ByteArray := prog_2_method_3_code
def yX0_spread : MethodName := ⟨RX0, "spread", "(LIceField$Ice;I)V"⟩
abbrev cX0_numberAt : ByteArray := prog_2_method_4_code
def yX0_numberAt : MethodName := ⟨RX0, "numberAt", "(I)I"⟩
abbrev cX0_isBlock : ByteArray := prog_2_method_5_code
def yX0_isBlock : MethodName := ⟨RX0, "isBlock", "(I)Z"⟩
abbrev cX0_isLoose : ByteArray := prog_2_method_6_code
def yX0_isLoose : MethodName := ⟨RX0, "isLoose", "(I)Z"⟩
abbrev cX0_sizeOf : ByteArray := prog_2_method_7_code
def yX0_sizeOf : MethodName := ⟨RX0, "sizeOf", "(I)I"⟩
abbrev cX0_countAll : ByteArray := prog_2_method_8_code
def yX0_countAll : MethodName := ⟨RX0, "countAll", "()I"⟩
abbrev cX0_countLoose : ByteArray := prog_2_method_9_code
def yX0_countLoose : MethodName := ⟨RX0, "countLoose", "()I"⟩
abbrev cX0_forget : ByteArray := prog_2_method_10_code
def yX0_forget : MethodName := ⟨RX0, "forget", "(I)V"⟩
def RX1 : String := "IceField$Ice"
def TX1 : u_T := fun k => match k with
  | 0 => ("IceField$Ice", "width", "I", false)
  | 1 => ("IceField$Ice", "height", "I", false)
  | 2 => ("IceField$Ice", "melt", "I", false)
  | 3 => ("IceField$Ice", "days", "I", false)
  | 4 => ("IceField$Ice", "laid", "I", false)
  | 5 => ("IceField$Ice", "melted", "I", false)
  | 6 => ("IceField$Ice", "takenVolume", "I", false)
  | 7 => ("IceField$Ice", "takenBlocks", "I", false)
  | 8 => ("IceField$Ice", "thickness", "LIceField$Numbers;", true)
  | 9 => ("IceField$Ice", "cuts", "LIceField$Numbers;", true)
  | 10 => ("IceField$Ice", "kept", "LIceField$Numbers;", true)
  | _ => ("IceField$Ice", "losses", "LIceField$Numbers;", true)
def tyX1 : Nat → FieldType := fun k => match k with
  | 0 => .int
  | 1 => .int
  | 2 => .int
  | 3 => .int
  | 4 => .int
  | 5 => .int
  | 6 => .int
  | 7 => .int
  | 8 => .object "IceField$Numbers"
  | 9 => .object "IceField$Numbers"
  | 10 => .object "IceField$Numbers"
  | _ => .object "IceField$Numbers"
abbrev wsX10 : List Cond := u_ws RX1 TX1 12
theorem nmX1 : ∀ a, a < 12 → ∀ b, b < 12 → a ≠ b → (TX1 a).2.1 ≠ (TX1 b).2.1 := by decide +kernel
theorem tyX1_ok : ∀ k, k < 12 → parseFieldDescriptor (TX1 k).2.2.1 = some (tyX1 k) := by decide +kernel
abbrev cX1_init : ByteArray := prog_3_method_1_code
def yX1_init : MethodName := ⟨RX1, "<init>", "()V"⟩
abbrev cX1_copyFrom : ByteArray := prog_3_method_2_code
def yX1_copyFrom : MethodName := ⟨RX1, "copyFrom", "(LIceField$Ice;)V"⟩
abbrev cX1_beginAnew : ByteArray := prog_3_method_3_code
def yX1_beginAnew : MethodName := ⟨RX1, "beginAnew", "(II)V"⟩
abbrev cX1_add : ByteArray := prog_3_method_4_code
def yX1_add : MethodName := ⟨RX1, "add", "(II)V"⟩
abbrev cX1_addEverywhere : ByteArray := prog_3_method_5_code
def yX1_addEverywhere : MethodName := ⟨RX1, "addEverywhere", "(I)V"⟩
abbrev cX1_cellCount : ByteArray := prog_3_method_6_code
def yX1_cellCount : MethodName := ⟨RX1, "cellCount", "()I"⟩
abbrev cX1_rowOf : ByteArray := prog_3_method_7_code
def yX1_rowOf : MethodName := ⟨RX1, "rowOf", "(I)I"⟩
abbrev cX1_columnOf : ByteArray := prog_3_method_8_code
def yX1_columnOf : MethodName := ⟨RX1, "columnOf", "(I)I"⟩
abbrev cX1_isIce : ByteArray := prog_3_method_9_code
def yX1_isIce : MethodName := ⟨RX1, "isIce", "(I)Z"⟩
abbrev cX1_iceCells : ByteArray := prog_3_method_10_code
def yX1_iceCells : MethodName := ⟨RX1, "iceCells", "()I"⟩
abbrev cX1_beside : ByteArray := prog_3_method_11_code
def yX1_beside : MethodName := ⟨RX1, "beside", "(II)I"⟩
abbrev cX1_canCut : ByteArray := prog_3_method_12_code
def yX1_canCut : MethodName := ⟨RX1, "canCut", "(II)Z"⟩
abbrev cX1_cutPlace : ByteArray := prog_3_method_13_code
def yX1_cutPlace : MethodName := ⟨RX1, "cutPlace", "(II)I"⟩
abbrev cX1_cutAt : ByteArray := prog_3_method_14_code
def yX1_cutAt : MethodName := ⟨RX1, "cutAt", "(II)I"⟩
abbrev cX1_cutSide : ByteArray := prog_3_method_15_code
def yX1_cutSide : MethodName := ⟨RX1, "cutSide", "(II)I"⟩
abbrev cX1_cutRectangle : ByteArray := prog_3_method_16_code
def yX1_cutRectangle : MethodName := ⟨RX1, "cutRectangle", "(III)I"⟩
abbrev cX1_isTiedToShore : ByteArray := prog_3_method_17_code
def yX1_isTiedToShore : MethodName := ⟨RX1, "isTiedToShore", "(I)Z"⟩
abbrev cX1_waterBeside : ByteArray := prog_3_method_18_code
def yX1_waterBeside : MethodName := ⟨RX1, "waterBeside", "(I)I"⟩
abbrev cX1_lossOf : ByteArray := prog_3_method_19_code
def yX1_lossOf : MethodName := ⟨RX1, "lossOf", "(I)I"⟩
abbrev cX1_meltOneDay : ByteArray := prog_3_method_20_code
def yX1_meltOneDay : MethodName := ⟨RX1, "meltOneDay", "()V"⟩
abbrev cX1_volumeOf : ByteArray := prog_3_method_21_code
def yX1_volumeOf : MethodName := ⟨RX1, "volumeOf", "(LIceField$Blocks;I)I"⟩
abbrev cX1_removeBlock : ByteArray := prog_3_method_22_code
def yX1_removeBlock : MethodName := ⟨RX1, "removeBlock", "(LIceField$Blocks;I)I"⟩
abbrev cX1_keptCount : ByteArray := prog_3_method_23_code
def yX1_keptCount : MethodName := ⟨RX1, "keptCount", "()I"⟩
abbrev cX1_keptFact : ByteArray := prog_3_method_24_code
def yX1_keptFact : MethodName := ⟨RX1, "keptFact", "(II)I"⟩
def RX2 : String := "IceField$Numbers"
def TX2 : u_T := fun k => match k with
  | _ => ("IceField$Numbers", "numbers", "[I", true)
def tyX2 : Nat → FieldType := fun k => match k with
  | _ => .array .int
abbrev wsX20 : List Cond := u_ws RX2 TX2 1
theorem nmX2 : ∀ a, a < 1 → ∀ b, b < 1 → a ≠ b → (TX2 a).2.1 ≠ (TX2 b).2.1 := by decide +kernel
theorem tyX2_ok : ∀ k, k < 1 → parseFieldDescriptor (TX2 k).2.2.1 = some (tyX2 k) := by decide +kernel
abbrev cX2_init : ByteArray := prog_4_method_1_code
def yX2_init : MethodName := ⟨RX2, "<init>", "(I)V"⟩
abbrev cX2_at : ByteArray := prog_4_method_2_code
def yX2_at : MethodName := ⟨RX2, "at", "(I)I"⟩
abbrev cX2_put : ByteArray := prog_4_method_3_code
def yX2_put : MethodName := ⟨RX2, "put", "(II)V"⟩
abbrev cX2_fill : ByteArray := prog_4_method_4_code
def yX2_fill : MethodName := ⟨RX2, "fill", "(I)V"⟩
abbrev cX2_copyFrom : ByteArray := prog_4_method_5_code
def yX2_copyFrom : MethodName := ⟨RX2, "copyFrom", "(LIceField$Numbers;)V"⟩
abbrev cX2_sum : ByteArray := prog_4_method_6_code
def yX2_sum : MethodName := ⟨RX2, "sum", "()I"⟩
def RX3 : String := "IceField$Text"
def TX3 : u_T := fun k => match k with
  | 0 => ("IceField$Text", "bytes", "LIceField$Numbers;", true)
  | 1 => ("IceField$Text", "length", "I", false)
  | 2 => ("IceField$Text", "width", "I", false)
  | _ => ("IceField$Text", "height", "I", false)
def tyX3 : Nat → FieldType := fun k => match k with
  | 0 => .object "IceField$Numbers"
  | 1 => .int
  | 2 => .int
  | _ => .int
abbrev wsX30 : List Cond := u_ws RX3 TX3 4
theorem nmX3 : ∀ a, a < 4 → ∀ b, b < 4 → a ≠ b → (TX3 a).2.1 ≠ (TX3 b).2.1 := by decide +kernel
theorem tyX3_ok : ∀ k, k < 4 → parseFieldDescriptor (TX3 k).2.2.1 = some (tyX3 k) := by decide +kernel
abbrev cX3_init : ByteArray := prog_5_method_1_code
def yX3_init : MethodName := ⟨RX3, "<init>", "()V"⟩
abbrev cX3_add : ByteArray := prog_5_method_2_code
def yX3_add : MethodName := ⟨RX3, "add", "(I)V"⟩
abbrev cX3_read : ByteArray := prog_5_method_3_code
def yX3_read : MethodName := ⟨RX3, "read", "()I"⟩
abbrev cX3_mostDigits : ByteArray := prog_5_method_4_code
def yX3_mostDigits : MethodName := ⟨RX3, "mostDigits", "()I"⟩
abbrev cX3_leastDigits : ByteArray := prog_5_method_5_code
def yX3_leastDigits : MethodName := ⟨RX3, "leastDigits", "()I"⟩
abbrev cX3_isDigit : ByteArray := prog_5_method_6_code
def yX3_isDigit : MethodName := ⟨RX3, "isDigit", "(I)Z"⟩
abbrev cX3_digitAt : ByteArray := prog_5_method_7_code
def yX3_digitAt : MethodName := ⟨RX3, "digitAt", "(II)I"⟩
def RX4 : String := "IceField$Way"
def TX4 : u_T := fun k => match k with
  | 0 => ("IceField$Way", "moves", "LIceField$Numbers;", true)
  | 1 => ("IceField$Way", "cells", "LIceField$Numbers;", true)
  | 2 => ("IceField$Way", "size", "I", false)
  | 3 => ("IceField$Way", "reachedBy", "LIceField$Numbers;", true)
  | _ => ("IceField$Way", "queue", "LIceField$Numbers;", true)
def tyX4 : Nat → FieldType := fun k => match k with
  | 0 => .object "IceField$Numbers"
  | 1 => .object "IceField$Numbers"
  | 2 => .int
  | 3 => .object "IceField$Numbers"
  | _ => .object "IceField$Numbers"
abbrev wsX40 : List Cond := u_ws RX4 TX4 5
theorem nmX4 : ∀ a, a < 5 → ∀ b, b < 5 → a ≠ b → (TX4 a).2.1 ≠ (TX4 b).2.1 := by decide +kernel
theorem tyX4_ok : ∀ k, k < 5 → parseFieldDescriptor (TX4 k).2.2.1 = some (tyX4 k) := by decide +kernel
abbrev cX4_init : ByteArray := prog_6_method_1_code
def yX4_init : MethodName := ⟨RX4, "<init>", "()V"⟩
abbrev cX4_search : ByteArray := prog_6_method_2_code
def yX4_search : MethodName := ⟨RX4, "search", "(LIceField$Ice;LIceField$Blocks;I)I"⟩
abbrev cX4_gatherCells : ByteArray := prog_6_method_3_code
def yX4_gatherCells : MethodName := ⟨RX4, "gatherCells", "(LIceField$Blocks;I)V"⟩
abbrev cX4_canLie : ByteArray := prog_6_method_4_code
def yX4_canLie : MethodName := ⟨RX4, "canLie", "(LIceField$Ice;LIceField$Blocks;II)Z"⟩
abbrev cX4_traceBack : ByteArray := prog_6_method_5_code
def yX4_traceBack : MethodName := ⟨RX4, "traceBack", "(I)I"⟩
abbrev cX4_stepOf : ByteArray := prog_6_method_6_code
def yX4_stepOf : MethodName := ⟨RX4, "stepOf", "(I)I"⟩
abbrev cX4_downAt : ByteArray := prog_6_method_7_code
def yX4_downAt : MethodName := ⟨RX4, "downAt", "(I)I"⟩
abbrev cX4_rightAt : ByteArray := prog_6_method_8_code
def yX4_rightAt : MethodName := ⟨RX4, "rightAt", "(I)I"⟩
def RX5 : String := "IceField"
def TX5 : u_T := fun k => match k with
  | 0 => ("IceField", "ice", "LIceField$Ice;", true)
  | 1 => ("IceField", "trial", "LIceField$Ice;", true)
  | 2 => ("IceField", "saved", "[LIceField$Ice;", true)
  | 3 => ("IceField", "nextSaved", "I", false)
  | 4 => ("IceField", "savedCount", "I", false)
  | 5 => ("IceField", "text", "LIceField$Text;", true)
  | 6 => ("IceField", "blocks", "LIceField$Blocks;", true)
  | 7 => ("IceField", "way", "LIceField$Way;", true)
  | _ => ("IceField", "wayLengths", "LIceField$Numbers;", true)
def tyX5 : Nat → FieldType := fun k => match k with
  | 0 => .object "IceField$Ice"
  | 1 => .object "IceField$Ice"
  | 2 => .array (.object "IceField$Ice")
  | 3 => .int
  | 4 => .int
  | 5 => .object "IceField$Text"
  | 6 => .object "IceField$Blocks"
  | 7 => .object "IceField$Way"
  | _ => .object "IceField$Numbers"
abbrev wsX50 : List Cond := u_ws RX5 TX5 9
theorem nmX5 : ∀ a, a < 9 → ∀ b, b < 9 → a ≠ b → (TX5 a).2.1 ≠ (TX5 b).2.1 := by decide +kernel
theorem tyX5_ok : ∀ k, k < 9 → parseFieldDescriptor (TX5 k).2.2.1 = some (tyX5 k) := by decide +kernel
abbrev cX5_init : ByteArray := prog_1_method_1_code
def yX5_init : MethodName := ⟨RX5, "<init>", "()V"⟩
abbrev cX5_make : ByteArray := prog_1_method_2_code
def yX5_make : MethodName := ⟨RX5, "make", "(III)I"⟩
abbrev cX5_lay : ByteArray := prog_1_method_3_code
def yX5_lay : MethodName := ⟨RX5, "lay", "(II)I"⟩
abbrev cX5_saw : ByteArray := prog_1_method_4_code
def yX5_saw : MethodName := ⟨RX5, "saw", "(II)I"⟩
abbrev cX5_sawAround : ByteArray := prog_1_method_5_code
def yX5_sawAround : MethodName := ⟨RX5, "sawAround", "(III)I"⟩
abbrev cX5_takeOut : ByteArray := prog_1_method_6_code
def yX5_takeOut : MethodName := ⟨RX5, "takeOut", "(I)I"⟩
abbrev cX5_takeAll : ByteArray := prog_1_method_7_code
def yX5_takeAll : MethodName := ⟨RX5, "takeAll", "()I"⟩
abbrev cX5_setMelt : ByteArray := prog_1_method_8_code
def yX5_setMelt : MethodName := ⟨RX5, "setMelt", "(I)I"⟩
abbrev cX5_pass : ByteArray := prog_1_method_9_code
def yX5_pass : MethodName := ⟨RX5, "pass", "(I)I"⟩
abbrev cX5_cell : ByteArray := prog_1_method_10_code
def yX5_cell : MethodName := ⟨RX5, "cell", "(II)I"⟩
abbrev cX5_block : ByteArray := prog_1_method_11_code
def yX5_block : MethodName := ⟨RX5, "block", "(II)I"⟩
abbrev cX5_move : ByteArray := prog_1_method_12_code
def yX5_move : MethodName := ⟨RX5, "move", "(II)I"⟩
abbrev cX5_value : ByteArray := prog_1_method_13_code
def yX5_value : MethodName := ⟨RX5, "value", "(I)I"⟩
abbrev cX5_taken : ByteArray := prog_1_method_14_code
def yX5_taken : MethodName := ⟨RX5, "taken", "(II)I"⟩
abbrev cX5_cutsAround : ByteArray := prog_1_method_15_code
def yX5_cutsAround : MethodName := ⟨RX5, "cutsAround", "(III)I"⟩
abbrev cX5_takable : ByteArray := prog_1_method_16_code
def yX5_takable : MethodName := ⟨RX5, "takable", "()I"⟩
abbrev cX5_leftStranded : ByteArray := prog_1_method_17_code
def yX5_leftStranded : MethodName := ⟨RX5, "leftStranded", "()I"⟩
abbrev cX5_daysWhole : ByteArray := prog_1_method_18_code
def yX5_daysWhole : MethodName := ⟨RX5, "daysWhole", "(I)I"⟩
abbrev cX5_daysToWater : ByteArray := prog_1_method_19_code
def yX5_daysToWater : MethodName := ⟨RX5, "daysToWater", "()I"⟩
abbrev cX5_barredBy : ByteArray := prog_1_method_20_code
def yX5_barredBy : MethodName := ⟨RX5, "barredBy", "()I"⟩
abbrev cX5_harvest : ByteArray := prog_1_method_21_code
def yX5_harvest : MethodName := ⟨RX5, "harvest", "()D"⟩
abbrev cX5_append : ByteArray := prog_1_method_22_code
def yX5_append : MethodName := ⟨RX5, "append", "(I)I"⟩
abbrev cX5_clearText : ByteArray := prog_1_method_23_code
def yX5_clearText : MethodName := ⟨RX5, "clearText", "()I"⟩
abbrev cX5_parse : ByteArray := prog_1_method_24_code
def yX5_parse : MethodName := ⟨RX5, "parse", "()I"⟩
abbrev cX5_undo : ByteArray := prog_1_method_25_code
def yX5_undo : MethodName := ⟨RX5, "undo", "()I"⟩
abbrev cX5_digest : ByteArray := prog_1_method_26_code
def yX5_digest : MethodName := ⟨RX5, "digest", "()J"⟩
abbrev cX5_isOutside : ByteArray := prog_1_method_27_code
def yX5_isOutside : MethodName := ⟨RX5, "isOutside", "(III)Z"⟩
abbrev cX5_checkCell : ByteArray := prog_1_method_28_code
def yX5_checkCell : MethodName := ⟨RX5, "checkCell", "(I)V"⟩
abbrev cX5_checkRectangle : ByteArray := prog_1_method_29_code
def yX5_checkRectangle : MethodName := ⟨RX5, "checkRectangle", "(III)V"⟩
abbrev cX5_saveState : ByteArray := prog_1_method_30_code
def yX5_saveState : MethodName := ⟨RX5, "saveState", "()V"⟩
abbrev cX5_savedAt : ByteArray := prog_1_method_31_code
def yX5_savedAt : MethodName := ⟨RX5, "savedAt", "(I)LIceField$Ice;"⟩
abbrev cX5_fieldFact : ByteArray := prog_1_method_32_code
def yX5_fieldFact : MethodName := ⟨RX5, "fieldFact", "(I)I"⟩
abbrev cX5_cellFact : ByteArray := prog_1_method_33_code
def yX5_cellFact : MethodName := ⟨RX5, "cellFact", "(II)I"⟩
abbrev cX5_blockFact : ByteArray := prog_1_method_34_code
def yX5_blockFact : MethodName := ⟨RX5, "blockFact", "(II)I"⟩
abbrev cX5_countStranded : ByteArray := prog_1_method_35_code
def yX5_countStranded : MethodName := ⟨RX5, "countStranded", "()I"⟩
abbrev cX5_findWayOf : ByteArray := prog_1_method_36_code
def yX5_findWayOf : MethodName := ⟨RX5, "findWayOf", "(I)V"⟩
abbrev cX5_findBlocksAndWays : ByteArray := prog_1_method_37_code
def yX5_findBlocksAndWays : MethodName := ⟨RX5, "findBlocksAndWays", "()V"⟩
abbrev cX5_isStranded : ByteArray := prog_1_method_38_code
def yX5_isStranded : MethodName := ⟨RX5, "isStranded", "(I)Z"⟩
abbrev cX5_lowestStranded : ByteArray := prog_1_method_39_code
def yX5_lowestStranded : MethodName := ⟨RX5, "lowestStranded", "()I"⟩
abbrev cX5_lowestFloating : ByteArray := prog_1_method_40_code
def yX5_lowestFloating : MethodName := ⟨RX5, "lowestFloating", "(LIceField$Ice;)I"⟩
abbrev cX5_removeFloating : ByteArray := prog_1_method_41_code
def yX5_removeFloating : MethodName := ⟨RX5, "removeFloating", "(LIceField$Ice;)I"⟩
abbrev cX5_hasWaterIn : ByteArray := prog_1_method_42_code
def yX5_hasWaterIn : MethodName := ⟨RX5, "hasWaterIn", "(LIceField$Ice;I)Z"⟩
abbrev cX5_freesWay : ByteArray := prog_1_method_43_code
def yX5_freesWay : MethodName := ⟨RX5, "freesWay", "(II)Z"⟩
def RX6 : String := "IceFieldModel"
def TX6 : u_T := fun k => match k with
  | 0 => ("IceFieldModel", "all", "[I", true)
  | 1 => ("IceFieldModel", "saved", "[I", true)
  | 2 => ("IceFieldModel", "aside", "[I", true)
  | 3 => ("IceFieldModel", "savedMany", "I", false)
  | 4 => ("IceFieldModel", "threw", "I", false)
  | 5 => ("IceFieldModel", "block", "[I", true)
  | 6 => ("IceFieldModel", "far", "[I", true)
  | 7 => ("IceFieldModel", "loses", "[I", true)
  | 8 => ("IceFieldModel", "text", "[I", true)
  | 9 => ("IceFieldModel", "textLong", "I", false)
  | 10 => ("IceFieldModel", "readWidth", "I", false)
  | _ => ("IceFieldModel", "readHeight", "I", false)
def tyX6 : Nat → FieldType := fun k => match k with
  | 0 => .array .int
  | 1 => .array .int
  | 2 => .array .int
  | 3 => .int
  | 4 => .int
  | 5 => .array .int
  | 6 => .array .int
  | 7 => .array .int
  | 8 => .array .int
  | 9 => .int
  | 10 => .int
  | _ => .int
abbrev wsX60 : List Cond := u_ws RX6 TX6 12
theorem nmX6 : ∀ a, a < 12 → ∀ b, b < 12 → a ≠ b → (TX6 a).2.1 ≠ (TX6 b).2.1 := by decide +kernel
theorem tyX6_ok : ∀ k, k < 12 → parseFieldDescriptor (TX6 k).2.2.1 = some (tyX6 k) := by decide +kernel
abbrev cX6_init : ByteArray := prog_8_method_1_code
def yX6_init : MethodName := ⟨RX6, "<init>", "()V"⟩
abbrev cX6_thrown : ByteArray := prog_8_method_2_code
def yX6_thrown : MethodName := ⟨RX6, "thrown", "()I"⟩
abbrev cX6_in : ByteArray := prog_8_method_3_code
def yX6_in : MethodName := ⟨RX6, "in", "(JJJ)Z"⟩
abbrev cX6_fine : ByteArray := prog_8_method_4_code
def yX6_fine : MethodName := ⟨RX6, "fine", "(I)I"⟩
abbrev cX6_throwing : ByteArray := prog_8_method_5_code
def yX6_throwing : MethodName := ⟨RX6, "throwing", "(I)I"⟩
abbrev cX6_save : ByteArray := prog_8_method_6_code
def yX6_save : MethodName := ⟨RX6, "save", "()V"⟩
abbrev cX6_laysAside : ByteArray := prog_8_method_7_code
def yX6_laysAside : MethodName := ⟨RX6, "laysAside", "()V"⟩
abbrev cX6_takesBack : ByteArray := prog_8_method_8_code
def yX6_takesBack : MethodName := ⟨RX6, "takesBack", "()V"⟩
abbrev cX6_makes : ByteArray := prog_8_method_9_code
def yX6_makes : MethodName := ⟨RX6, "makes", "(II)V"⟩
abbrev cX6_puts : ByteArray := prog_8_method_10_code
def yX6_puts : MethodName := ⟨RX6, "puts", "(II)V"⟩
abbrev cX6_cells : ByteArray := prog_8_method_11_code
def yX6_cells : MethodName := ⟨RX6, "cells", "()I"⟩
abbrev cX6_isCell : ByteArray := prog_8_method_12_code
def yX6_isCell : MethodName := ⟨RX6, "isCell", "(I)Z"⟩
abbrev cX6_row : ByteArray := prog_8_method_13_code
def yX6_row : MethodName := ⟨RX6, "row", "(I)I"⟩
abbrev cX6_column : ByteArray := prog_8_method_14_code
def yX6_column : MethodName := ⟨RX6, "column", "(I)I"⟩
abbrev cX6_isIce : ByteArray := prog_8_method_15_code
def yX6_isIce : MethodName := ⟨RX6, "isIce", "(I)Z"⟩
abbrev cX6_make : ByteArray := prog_8_method_16_code
def yX6_make : MethodName := ⟨RX6, "make", "(III)I"⟩
abbrev cX6_lay : ByteArray := prog_8_method_17_code
def yX6_lay : MethodName := ⟨RX6, "lay", "(II)I"⟩
abbrev cX6_canSaw : ByteArray := prog_8_method_18_code
def yX6_canSaw : MethodName := ⟨RX6, "canSaw", "(II)Z"⟩
abbrev cX6_keeper : ByteArray := prog_8_method_19_code
def yX6_keeper : MethodName := ⟨RX6, "keeper", "(II)I"⟩
abbrev cX6_bit : ByteArray := prog_8_method_20_code
def yX6_bit : MethodName := ⟨RX6, "bit", "(II)I"⟩
abbrev cX6_isCut : ByteArray := prog_8_method_21_code
def yX6_isCut : MethodName := ⟨RX6, "isCut", "(II)Z"⟩
abbrev cX6_saws : ByteArray := prog_8_method_22_code
def yX6_saws : MethodName := ⟨RX6, "saws", "(II)I"⟩
abbrev cX6_saw : ByteArray := prog_8_method_23_code
def yX6_saw : MethodName := ⟨RX6, "saw", "(II)I"⟩
abbrev cX6_isRectangle : ByteArray := prog_8_method_24_code
def yX6_isRectangle : MethodName := ⟨RX6, "isRectangle", "(III)Z"⟩
abbrev cX6_sawsAround : ByteArray := prog_8_method_25_code
def yX6_sawsAround : MethodName := ⟨RX6, "sawsAround", "(III)I"⟩
abbrev cX6_sawAround : ByteArray := prog_8_method_26_code
def yX6_sawAround : MethodName := ⟨RX6, "sawAround", "(III)I"⟩
abbrev cX6_cutsAround : ByteArray := prog_8_method_27_code
def yX6_cutsAround : MethodName := ⟨RX6, "cutsAround", "(III)I"⟩
abbrev cX6_hang : ByteArray := prog_8_method_28_code
def yX6_hang : MethodName := ⟨RX6, "hang", "(III)Z"⟩
abbrev cX6_joins : ByteArray := prog_8_method_29_code
def yX6_joins : MethodName := ⟨RX6, "joins", "(II)Z"⟩
abbrev cX6_findsBlocks : ByteArray := prog_8_method_30_code
def yX6_findsBlocks : MethodName := ⟨RX6, "findsBlocks", "()V"⟩
abbrev cX6_isHeld : ByteArray := prog_8_method_31_code
def yX6_isHeld : MethodName := ⟨RX6, "isHeld", "(I)Z"⟩
abbrev cX6_sizeOf : ByteArray := prog_8_method_32_code
def yX6_sizeOf : MethodName := ⟨RX6, "sizeOf", "(IZ)I"⟩
abbrev cX6_mayLie : ByteArray := prog_8_method_33_code
def yX6_mayLie : MethodName := ⟨RX6, "mayLie", "(III)Z"⟩
abbrev cX6_findsWays : ByteArray := prog_8_method_34_code
def yX6_findsWays : MethodName := ⟨RX6, "findsWays", "(I)V"⟩
abbrev cX6_moved : ByteArray := prog_8_method_35_code
def yX6_moved : MethodName := ⟨RX6, "moved", "(II)I"⟩
abbrev cX6_isBeside : ByteArray := prog_8_method_36_code
def yX6_isBeside : MethodName := ⟨RX6, "isBeside", "(II)Z"⟩
abbrev cX6_way : ByteArray := prog_8_method_37_code
def yX6_way : MethodName := ⟨RX6, "way", "(I)I"⟩
abbrev cX6_nextLoose : ByteArray := prog_8_method_38_code
def yX6_nextLoose : MethodName := ⟨RX6, "nextLoose", "(IZ)I"⟩
abbrev cX6_takes : ByteArray := prog_8_method_39_code
def yX6_takes : MethodName := ⟨RX6, "takes", "(I)V"⟩
abbrev cX6_takeOut : ByteArray := prog_8_method_40_code
def yX6_takeOut : MethodName := ⟨RX6, "takeOut", "(I)I"⟩
abbrev cX6_takesAll : ByteArray := prog_8_method_41_code
def yX6_takesAll : MethodName := ⟨RX6, "takesAll", "()I"⟩
abbrev cX6_takeAll : ByteArray := prog_8_method_42_code
def yX6_takeAll : MethodName := ⟨RX6, "takeAll", "()I"⟩
abbrev cX6_setMelt : ByteArray := prog_8_method_43_code
def yX6_setMelt : MethodName := ⟨RX6, "setMelt", "(I)I"⟩
abbrev cX6_waterBeside : ByteArray := prog_8_method_44_code
def yX6_waterBeside : MethodName := ⟨RX6, "waterBeside", "(I)I"⟩
abbrev cX6_day : ByteArray := prog_8_method_45_code
def yX6_day : MethodName := ⟨RX6, "day", "()I"⟩
abbrev cX6_pass : ByteArray := prog_8_method_46_code
def yX6_pass : MethodName := ⟨RX6, "pass", "(I)I"⟩
abbrev cX6_cellOf : ByteArray := prog_8_method_47_code
def yX6_cellOf : MethodName := ⟨RX6, "cellOf", "(II)I"⟩
abbrev cX6_cell : ByteArray := prog_8_method_48_code
def yX6_cell : MethodName := ⟨RX6, "cell", "(II)I"⟩
abbrev cX6_blockOf : ByteArray := prog_8_method_49_code
def yX6_blockOf : MethodName := ⟨RX6, "blockOf", "(II)I"⟩
abbrev cX6_block : ByteArray := prog_8_method_50_code
def yX6_block : MethodName := ⟨RX6, "block", "(II)I"⟩
abbrev cX6_move : ByteArray := prog_8_method_51_code
def yX6_move : MethodName := ⟨RX6, "move", "(II)I"⟩
abbrev cX6_blocks : ByteArray := prog_8_method_52_code
def yX6_blocks : MethodName := ⟨RX6, "blocks", "(I)I"⟩
abbrev cX6_sum : ByteArray := prog_8_method_53_code
def yX6_sum : MethodName := ⟨RX6, "sum", "(I)I"⟩
abbrev cX6_valueOf : ByteArray := prog_8_method_54_code
def yX6_valueOf : MethodName := ⟨RX6, "valueOf", "(I)I"⟩
abbrev cX6_value : ByteArray := prog_8_method_55_code
def yX6_value : MethodName := ⟨RX6, "value", "(I)I"⟩
abbrev cX6_kept : ByteArray := prog_8_method_56_code
def yX6_kept : MethodName := ⟨RX6, "kept", "()I"⟩
abbrev cX6_taken : ByteArray := prog_8_method_57_code
def yX6_taken : MethodName := ⟨RX6, "taken", "(II)I"⟩
abbrev cX6_takableNow : ByteArray := prog_8_method_58_code
def yX6_takableNow : MethodName := ⟨RX6, "takableNow", "()I"⟩
abbrev cX6_takable : ByteArray := prog_8_method_59_code
def yX6_takable : MethodName := ⟨RX6, "takable", "()I"⟩
abbrev cX6_leftStranded : ByteArray := prog_8_method_60_code
def yX6_leftStranded : MethodName := ⟨RX6, "leftStranded", "()I"⟩
abbrev cX6_isWhole : ByteArray := prog_8_method_61_code
def yX6_isWhole : MethodName := ⟨RX6, "isWhole", "(I)Z"⟩
abbrev cX6_daysWhole : ByteArray := prog_8_method_62_code
def yX6_daysWhole : MethodName := ⟨RX6, "daysWhole", "(I)I"⟩
abbrev cX6_daysToWater : ByteArray := prog_8_method_63_code
def yX6_daysToWater : MethodName := ⟨RX6, "daysToWater", "()I"⟩
abbrev cX6_barredBy : ByteArray := prog_8_method_64_code
def yX6_barredBy : MethodName := ⟨RX6, "barredBy", "()I"⟩
abbrev cX6_harvest : ByteArray := prog_8_method_65_code
def yX6_harvest : MethodName := ⟨RX6, "harvest", "()D"⟩
abbrev cX6_append : ByteArray := prog_8_method_66_code
def yX6_append : MethodName := ⟨RX6, "append", "(I)I"⟩
abbrev cX6_clearText : ByteArray := prog_8_method_67_code
def yX6_clearText : MethodName := ⟨RX6, "clearText", "()I"⟩
abbrev cX6_here : ByteArray := prog_8_method_68_code
def yX6_here : MethodName := ⟨RX6, "here", "(I)I"⟩
abbrev cX6_behindDigits : ByteArray := prog_8_method_69_code
def yX6_behindDigits : MethodName := ⟨RX6, "behindDigits", "(II)I"⟩
abbrev cX6_fault : ByteArray := prog_8_method_70_code
def yX6_fault : MethodName := ⟨RX6, "fault", "()I"⟩
abbrev cX6_parse : ByteArray := prog_8_method_71_code
def yX6_parse : MethodName := ⟨RX6, "parse", "()I"⟩
abbrev cX6_undo : ByteArray := prog_8_method_72_code
def yX6_undo : MethodName := ⟨RX6, "undo", "()I"⟩
abbrev cX6_digest : ByteArray := prog_8_method_73_code
def yX6_digest : MethodName := ⟨RX6, "digest", "()J"⟩
def RL : String := "IceFieldLaw"
abbrev cL_make : ByteArray := method_3_code
def yL_make : MethodName := ⟨RL, "make", "(LIceField;III[J)I"⟩
abbrev cL_lay : ByteArray := method_4_code
def yL_lay : MethodName := ⟨RL, "lay", "(LIceField;II[J)I"⟩
abbrev cL_saw : ByteArray := method_5_code
def yL_saw : MethodName := ⟨RL, "saw", "(LIceField;II[J)I"⟩
abbrev cL_sawAround : ByteArray := method_6_code
def yL_sawAround : MethodName := ⟨RL, "sawAround", "(LIceField;III[J)I"⟩
abbrev cL_takeOut : ByteArray := method_7_code
def yL_takeOut : MethodName := ⟨RL, "takeOut", "(LIceField;I[J)I"⟩
abbrev cL_setMelt : ByteArray := method_8_code
def yL_setMelt : MethodName := ⟨RL, "setMelt", "(LIceField;I[J)I"⟩
abbrev cL_pass : ByteArray := method_9_code
def yL_pass : MethodName := ⟨RL, "pass", "(LIceField;I[J)I"⟩
abbrev cL_cell : ByteArray := method_10_code
def yL_cell : MethodName := ⟨RL, "cell", "(LIceField;II[J)I"⟩
abbrev cL_block : ByteArray := method_11_code
def yL_block : MethodName := ⟨RL, "block", "(LIceField;II[J)I"⟩
abbrev cL_move : ByteArray := method_12_code
def yL_move : MethodName := ⟨RL, "move", "(LIceField;II[J)I"⟩
abbrev cL_value : ByteArray := method_13_code
def yL_value : MethodName := ⟨RL, "value", "(LIceField;I[J)I"⟩
abbrev cL_taken : ByteArray := method_14_code
def yL_taken : MethodName := ⟨RL, "taken", "(LIceField;II[J)I"⟩
abbrev cL_cutsAround : ByteArray := method_15_code
def yL_cutsAround : MethodName := ⟨RL, "cutsAround", "(LIceField;III[J)I"⟩
abbrev cL_daysWhole : ByteArray := method_16_code
def yL_daysWhole : MethodName := ⟨RL, "daysWhole", "(LIceField;I[J)I"⟩
abbrev cL_append : ByteArray := method_17_code
def yL_append : MethodName := ⟨RL, "append", "(LIceField;I[J)I"⟩
abbrev cL_undo : ByteArray := method_18_code
def yL_undo : MethodName := ⟨RL, "undo", "(LIceField;[J)I"⟩
abbrev cL_law : ByteArray := code
def yL_law : MethodName := ⟨RL, "law", "([I)Z"⟩
abbrev vwCl : List vw_C := [(RX0, TX0, 3), (RX1, TX1, 12), (RX2, TX2, 1), (RX3, TX3, 4), (RX4, TX4, 5), (RX5, TX5, 9), (RX6, TX6, 12)]
end
section
theorem dX0_init_0 : decode cX0_init 0 = .ok (.aload_n 0, 1) := by decide +kernel
theorem dX0_init_1 : decode cX0_init 1 = .ok (.invokespecial 3, 3) := by decide +kernel
theorem dX0_init_4 : decode cX0_init 4 = .ok (.aload_n 0, 1) := by decide +kernel
theorem dX0_init_5 : decode cX0_init 5 = .ok (.new 9, 3) := by decide +kernel
theorem dX0_init_8 : decode cX0_init 8 = .ok (.dup, 1) := by decide +kernel
theorem dX0_init_9 : decode cX0_init 9 = .ok (.bipush 49, 2) := by decide +kernel
theorem dX0_init_11 : decode cX0_init 11 = .ok (.invokespecial 11, 3) := by decide +kernel
theorem dX0_init_14 : decode cX0_init 14 = .ok (.putfield 14, 3) := by decide +kernel
theorem dX0_init_17 : decode cX0_init 17 = .ok (.aload_n 0, 1) := by decide +kernel
theorem dX0_init_18 : decode cX0_init 18 = .ok (.new 9, 3) := by decide +kernel
theorem dX0_init_21 : decode cX0_init 21 = .ok (.dup, 1) := by decide +kernel
theorem dX0_init_22 : decode cX0_init 22 = .ok (.bipush 49, 2) := by decide +kernel
theorem dX0_init_24 : decode cX0_init 24 = .ok (.invokespecial 11, 3) := by decide +kernel
theorem dX0_init_27 : decode cX0_init 27 = .ok (.putfield 20, 3) := by decide +kernel
theorem dX0_init_30 : decode cX0_init 30 = .ok (.aload_n 0, 1) := by decide +kernel
theorem dX0_init_31 : decode cX0_init 31 = .ok (.new 9, 3) := by decide +kernel
theorem dX0_init_34 : decode cX0_init 34 = .ok (.dup, 1) := by decide +kernel
theorem dX0_init_35 : decode cX0_init 35 = .ok (.bipush 49, 2) := by decide +kernel
theorem dX0_init_37 : decode cX0_init 37 = .ok (.invokespecial 11, 3) := by decide +kernel
theorem dX0_init_40 : decode cX0_init 40 = .ok (.putfield 23, 3) := by decide +kernel
theorem dX0_init_43 : decode cX0_init 43 = .ok (.return_, 1) := by decide +kernel
theorem dX0_find_0 : decode cX0_find 0 = .ok (.aload_n 0, 1) := by decide +kernel
theorem dX0_find_1 : decode cX0_find 1 = .ok (.getfield 14, 3) := by decide +kernel
theorem dX0_find_4 : decode cX0_find 4 = .ok (.iconst (-1), 1) := by decide +kernel
theorem dX0_find_5 : decode cX0_find 5 = .ok (.invokevirtual 26, 3) := by decide +kernel
theorem dX0_find_8 : decode cX0_find 8 = .ok (.aload_n 0, 1) := by decide +kernel
theorem dX0_find_9 : decode cX0_find 9 = .ok (.getfield 20, 3) := by decide +kernel
theorem dX0_find_12 : decode cX0_find 12 = .ok (.iconst 0, 1) := by decide +kernel
theorem dX0_find_13 : decode cX0_find 13 = .ok (.invokevirtual 26, 3) := by decide +kernel
theorem dX0_find_16 : decode cX0_find 16 = .ok (.iconst 0, 1) := by decide +kernel
theorem dX0_find_17 : decode cX0_find 17 = .ok (.istore_n 2, 1) := by decide +kernel
theorem dX0_find_18 : decode cX0_find 18 = .ok (.iload_n 2, 1) := by decide +kernel
theorem dX0_find_19 : decode cX0_find 19 = .ok (.aload_n 1, 1) := by decide +kernel
theorem dX0_find_20 : decode cX0_find 20 = .ok (.invokevirtual 29, 3) := by decide +kernel
theorem dX0_find_23 : decode cX0_find 23 = .ok (.if_icmp .ge 35, 3) := by decide +kernel
theorem dX0_find_26 : decode cX0_find 26 = .ok (.aload_n 1, 1) := by decide +kernel
theorem dX0_find_27 : decode cX0_find 27 = .ok (.iload_n 2, 1) := by decide +kernel
theorem dX0_find_28 : decode cX0_find 28 = .ok (.invokevirtual 35, 3) := by decide +kernel
theorem dX0_find_31 : decode cX0_find 31 = .ok (.ifCond .eq 21, 3) := by decide +kernel
theorem dX0_find_34 : decode cX0_find 34 = .ok (.aload_n 0, 1) := by decide +kernel
theorem dX0_find_35 : decode cX0_find 35 = .ok (.getfield 14, 3) := by decide +kernel
theorem dX0_find_38 : decode cX0_find 38 = .ok (.iload_n 2, 1) := by decide +kernel
theorem dX0_find_39 : decode cX0_find 39 = .ok (.invokevirtual 39, 3) := by decide +kernel
theorem dX0_find_42 : decode cX0_find 42 = .ok (.iconst (-1), 1) := by decide +kernel
theorem dX0_find_43 : decode cX0_find 43 = .ok (.if_icmp .ne 9, 3) := by decide +kernel
theorem dX0_find_46 : decode cX0_find 46 = .ok (.aload_n 0, 1) := by decide +kernel
theorem dX0_find_47 : decode cX0_find 47 = .ok (.aload_n 1, 1) := by decide +kernel
theorem dX0_find_48 : decode cX0_find 48 = .ok (.iload_n 2, 1) := by decide +kernel
theorem dX0_find_49 : decode cX0_find 49 = .ok (.invokevirtual 43, 3) := by decide +kernel
theorem dX0_find_52 : decode cX0_find 52 = .ok (.iinc 2 1, 3) := by decide +kernel
theorem dX0_find_55 : decode cX0_find 55 = .ok (.goto (-37), 3) := by decide +kernel
theorem dX0_find_58 : decode cX0_find 58 = .ok (.return_, 1) := by decide +kernel
theorem dX0_spread_0 : decode cX0_spread 0 = .ok (.aload_n 0, 1) := by decide +kernel
theorem dX0_spread_1 : decode cX0_spread 1 = .ok (.getfield 14, 3) := by decide +kernel
theorem dX0_spread_4 : decode cX0_spread 4 = .ok (.iload_n 2, 1) := by decide +kernel
theorem dX0_spread_5 : decode cX0_spread 5 = .ok (.iload_n 2, 1) := by decide +kernel
theorem dX0_spread_6 : decode cX0_spread 6 = .ok (.invokevirtual 47, 3) := by decide +kernel
theorem dX0_spread_9 : decode cX0_spread 9 = .ok (.aload_n 0, 1) := by decide +kernel
theorem dX0_spread_10 : decode cX0_spread 10 = .ok (.getfield 23, 3) := by decide +kernel
theorem dX0_spread_13 : decode cX0_spread 13 = .ok (.iconst 0, 1) := by decide +kernel
theorem dX0_spread_14 : decode cX0_spread 14 = .ok (.iload_n 2, 1) := by decide +kernel
theorem dX0_spread_15 : decode cX0_spread 15 = .ok (.invokevirtual 47, 3) := by decide +kernel
theorem dX0_spread_18 : decode cX0_spread 18 = .ok (.iconst 1, 1) := by decide +kernel
theorem dX0_spread_19 : decode cX0_spread 19 = .ok (.istore_n 3, 1) := by decide +kernel
theorem dX0_spread_20 : decode cX0_spread 20 = .ok (.iconst 0, 1) := by decide +kernel
theorem dX0_spread_21 : decode cX0_spread 21 = .ok (.istore 4, 2) := by decide +kernel
theorem dX0_spread_23 : decode cX0_spread 23 = .ok (.iload 4, 2) := by decide +kernel
theorem dX0_spread_25 : decode cX0_spread 25 = .ok (.iload_n 3, 1) := by decide +kernel
theorem dX0_spread_26 : decode cX0_spread 26 = .ok (.if_icmp .ge 132, 3) := by decide +kernel
theorem dX0_spread_29 : decode cX0_spread 29 = .ok (.iload 4, 2) := by decide +kernel
theorem dX0_spread_31 : decode cX0_spread 31 = .ok (.bipush 49, 2) := by decide +kernel
theorem dX0_spread_33 : decode cX0_spread 33 = .ok (.if_icmp .ge 125, 3) := by decide +kernel
theorem dX0_spread_36 : decode cX0_spread 36 = .ok (.aload_n 0, 1) := by decide +kernel
theorem dX0_spread_37 : decode cX0_spread 37 = .ok (.getfield 23, 3) := by decide +kernel
theorem dX0_spread_40 : decode cX0_spread 40 = .ok (.iload 4, 2) := by decide +kernel
theorem dX0_spread_42 : decode cX0_spread 42 = .ok (.invokevirtual 39, 3) := by decide +kernel
theorem dX0_spread_45 : decode cX0_spread 45 = .ok (.istore 5, 2) := by decide +kernel
theorem dX0_spread_47 : decode cX0_spread 47 = .ok (.aload_n 1, 1) := by decide +kernel
theorem dX0_spread_48 : decode cX0_spread 48 = .ok (.iload 5, 2) := by decide +kernel
theorem dX0_spread_50 : decode cX0_spread 50 = .ok (.invokevirtual 51, 3) := by decide +kernel
theorem dX0_spread_53 : decode cX0_spread 53 = .ok (.ifCond .eq 12, 3) := by decide +kernel
theorem dX0_spread_56 : decode cX0_spread 56 = .ok (.aload_n 0, 1) := by decide +kernel
theorem dX0_spread_57 : decode cX0_spread 57 = .ok (.getfield 20, 3) := by decide +kernel
theorem dX0_spread_60 : decode cX0_spread 60 = .ok (.iload_n 2, 1) := by decide +kernel
theorem dX0_spread_61 : decode cX0_spread 61 = .ok (.iconst 1, 1) := by decide +kernel
theorem dX0_spread_62 : decode cX0_spread 62 = .ok (.invokevirtual 47, 3) := by decide +kernel
theorem dX0_spread_65 : decode cX0_spread 65 = .ok (.iconst 0, 1) := by decide +kernel
theorem dX0_spread_66 : decode cX0_spread 66 = .ok (.istore 6, 2) := by decide +kernel
theorem dX0_spread_68 : decode cX0_spread 68 = .ok (.iload 6, 2) := by decide +kernel
theorem dX0_spread_70 : decode cX0_spread 70 = .ok (.iconst 4, 1) := by decide +kernel
theorem dX0_spread_71 : decode cX0_spread 71 = .ok (.if_icmp .ge 81, 3) := by decide +kernel
theorem dX0_spread_74 : decode cX0_spread 74 = .ok (.aload_n 1, 1) := by decide +kernel
theorem dX0_spread_75 : decode cX0_spread 75 = .ok (.iload 5, 2) := by decide +kernel
theorem dX0_spread_77 : decode cX0_spread 77 = .ok (.iload 6, 2) := by decide +kernel
theorem dX0_spread_79 : decode cX0_spread 79 = .ok (.invokevirtual 54, 3) := by decide +kernel
theorem dX0_spread_82 : decode cX0_spread 82 = .ok (.istore 7, 2) := by decide +kernel
theorem dX0_spread_84 : decode cX0_spread 84 = .ok (.iload 7, 2) := by decide +kernel
theorem dX0_spread_86 : decode cX0_spread 86 = .ok (.iconst (-1), 1) := by decide +kernel
theorem dX0_spread_87 : decode cX0_spread 87 = .ok (.if_icmp .eq 59, 3) := by decide +kernel
theorem dX0_spread_90 : decode cX0_spread 90 = .ok (.aload_n 1, 1) := by decide +kernel
theorem dX0_spread_91 : decode cX0_spread 91 = .ok (.iload 7, 2) := by decide +kernel
theorem dX0_spread_93 : decode cX0_spread 93 = .ok (.invokevirtual 35, 3) := by decide +kernel
theorem dX0_spread_96 : decode cX0_spread 96 = .ok (.ifCond .eq 50, 3) := by decide +kernel
theorem dX0_spread_99 : decode cX0_spread 99 = .ok (.aload_n 0, 1) := by decide +kernel
theorem dX0_spread_100 : decode cX0_spread 100 = .ok (.getfield 14, 3) := by decide +kernel
theorem dX0_spread_103 : decode cX0_spread 103 = .ok (.iload 7, 2) := by decide +kernel
theorem dX0_spread_105 : decode cX0_spread 105 = .ok (.invokevirtual 39, 3) := by decide +kernel
theorem dX0_spread_108 : decode cX0_spread 108 = .ok (.iconst (-1), 1) := by decide +kernel
theorem dX0_spread_109 : decode cX0_spread 109 = .ok (.if_icmp .ne 37, 3) := by decide +kernel
theorem dX0_spread_112 : decode cX0_spread 112 = .ok (.aload_n 1, 1) := by decide +kernel
theorem dX0_spread_113 : decode cX0_spread 113 = .ok (.iload 5, 2) := by decide +kernel
theorem dX0_spread_115 : decode cX0_spread 115 = .ok (.iload 6, 2) := by decide +kernel
theorem dX0_spread_117 : decode cX0_spread 117 = .ok (.invokevirtual 58, 3) := by decide +kernel
theorem dX0_spread_120 : decode cX0_spread 120 = .ok (.ifCond .ne 26, 3) := by decide +kernel
theorem dX0_spread_123 : decode cX0_spread 123 = .ok (.aload_n 0, 1) := by decide +kernel
theorem dX0_spread_124 : decode cX0_spread 124 = .ok (.getfield 14, 3) := by decide +kernel
theorem dX0_spread_127 : decode cX0_spread 127 = .ok (.iload 7, 2) := by decide +kernel
theorem dX0_spread_129 : decode cX0_spread 129 = .ok (.iload_n 2, 1) := by decide +kernel
theorem dX0_spread_130 : decode cX0_spread 130 = .ok (.invokevirtual 47, 3) := by decide +kernel
theorem dX0_spread_133 : decode cX0_spread 133 = .ok (.aload_n 0, 1) := by decide +kernel
theorem dX0_spread_134 : decode cX0_spread 134 = .ok (.getfield 23, 3) := by decide +kernel
theorem dX0_spread_137 : decode cX0_spread 137 = .ok (.iload_n 3, 1) := by decide +kernel
theorem dX0_spread_138 : decode cX0_spread 138 = .ok (.iload 7, 2) := by decide +kernel
theorem dX0_spread_140 : decode cX0_spread 140 = .ok (.invokevirtual 47, 3) := by decide +kernel
theorem dX0_spread_143 : decode cX0_spread 143 = .ok (.iinc 3 1, 3) := by decide +kernel
theorem dX0_spread_146 : decode cX0_spread 146 = .ok (.iinc 6 1, 3) := by decide +kernel
theorem dX0_spread_149 : decode cX0_spread 149 = .ok (.goto (-81), 3) := by decide +kernel
theorem dX0_spread_152 : decode cX0_spread 152 = .ok (.iinc 4 1, 3) := by decide +kernel
theorem dX0_spread_155 : decode cX0_spread 155 = .ok (.goto (-132), 3) := by decide +kernel
theorem dX0_spread_158 : decode cX0_spread 158 = .ok (.return_, 1) := by decide +kernel
theorem dX0_numberAt_0 : decode cX0_numberAt 0 = .ok (.aload_n 0, 1) := by decide +kernel
theorem dX0_numberAt_1 : decode cX0_numberAt 1 = .ok (.getfield 14, 3) := by decide +kernel
theorem dX0_numberAt_4 : decode cX0_numberAt 4 = .ok (.iload_n 1, 1) := by decide +kernel
theorem dX0_numberAt_5 : decode cX0_numberAt 5 = .ok (.invokevirtual 39, 3) := by decide +kernel
theorem dX0_numberAt_8 : decode cX0_numberAt 8 = .ok (.ireturn, 1) := by decide +kernel
theorem dX0_isBlock_0 : decode cX0_isBlock 0 = .ok (.iload_n 1, 1) := by decide +kernel
theorem dX0_isBlock_1 : decode cX0_isBlock 1 = .ok (.ifCond .lt 25, 3) := by decide +kernel
theorem dX0_isBlock_4 : decode cX0_isBlock 4 = .ok (.iload_n 1, 1) := by decide +kernel
theorem dX0_isBlock_5 : decode cX0_isBlock 5 = .ok (.bipush 49, 2) := by decide +kernel
theorem dX0_isBlock_7 : decode cX0_isBlock 7 = .ok (.if_icmp .ge 19, 3) := by decide +kernel
theorem dX0_isBlock_10 : decode cX0_isBlock 10 = .ok (.aload_n 0, 1) := by decide +kernel
theorem dX0_isBlock_11 : decode cX0_isBlock 11 = .ok (.getfield 14, 3) := by decide +kernel
theorem dX0_isBlock_14 : decode cX0_isBlock 14 = .ok (.iload_n 1, 1) := by decide +kernel
theorem dX0_isBlock_15 : decode cX0_isBlock 15 = .ok (.invokevirtual 39, 3) := by decide +kernel
theorem dX0_isBlock_18 : decode cX0_isBlock 18 = .ok (.iload_n 1, 1) := by decide +kernel
theorem dX0_isBlock_19 : decode cX0_isBlock 19 = .ok (.if_icmp .ne 7, 3) := by decide +kernel
theorem dX0_isBlock_22 : decode cX0_isBlock 22 = .ok (.iconst 1, 1) := by decide +kernel
theorem dX0_isBlock_23 : decode cX0_isBlock 23 = .ok (.goto 4, 3) := by decide +kernel
theorem dX0_isBlock_26 : decode cX0_isBlock 26 = .ok (.iconst 0, 1) := by decide +kernel
theorem dX0_isBlock_27 : decode cX0_isBlock 27 = .ok (.ireturn, 1) := by decide +kernel
theorem dX0_isLoose_0 : decode cX0_isLoose 0 = .ok (.aload_n 0, 1) := by decide +kernel
theorem dX0_isLoose_1 : decode cX0_isLoose 1 = .ok (.iload_n 1, 1) := by decide +kernel
theorem dX0_isLoose_2 : decode cX0_isLoose 2 = .ok (.invokevirtual 61, 3) := by decide +kernel
theorem dX0_isLoose_5 : decode cX0_isLoose 5 = .ok (.ifCond .eq 18, 3) := by decide +kernel
theorem dX0_isLoose_8 : decode cX0_isLoose 8 = .ok (.aload_n 0, 1) := by decide +kernel
theorem dX0_isLoose_9 : decode cX0_isLoose 9 = .ok (.getfield 20, 3) := by decide +kernel
theorem dX0_isLoose_12 : decode cX0_isLoose 12 = .ok (.iload_n 1, 1) := by decide +kernel
theorem dX0_isLoose_13 : decode cX0_isLoose 13 = .ok (.invokevirtual 39, 3) := by decide +kernel
theorem dX0_isLoose_16 : decode cX0_isLoose 16 = .ok (.ifCond .ne 7, 3) := by decide +kernel
theorem dX0_isLoose_19 : decode cX0_isLoose 19 = .ok (.iconst 1, 1) := by decide +kernel
theorem dX0_isLoose_20 : decode cX0_isLoose 20 = .ok (.goto 4, 3) := by decide +kernel
theorem dX0_isLoose_23 : decode cX0_isLoose 23 = .ok (.iconst 0, 1) := by decide +kernel
theorem dX0_isLoose_24 : decode cX0_isLoose 24 = .ok (.ireturn, 1) := by decide +kernel
theorem dX0_sizeOf_0 : decode cX0_sizeOf 0 = .ok (.iconst 0, 1) := by decide +kernel
theorem dX0_sizeOf_1 : decode cX0_sizeOf 1 = .ok (.istore_n 2, 1) := by decide +kernel
theorem dX0_sizeOf_2 : decode cX0_sizeOf 2 = .ok (.iconst 0, 1) := by decide +kernel
theorem dX0_sizeOf_3 : decode cX0_sizeOf 3 = .ok (.istore_n 3, 1) := by decide +kernel
theorem dX0_sizeOf_4 : decode cX0_sizeOf 4 = .ok (.iload_n 3, 1) := by decide +kernel
theorem dX0_sizeOf_5 : decode cX0_sizeOf 5 = .ok (.bipush 49, 2) := by decide +kernel
theorem dX0_sizeOf_7 : decode cX0_sizeOf 7 = .ok (.if_icmp .ge 24, 3) := by decide +kernel
theorem dX0_sizeOf_10 : decode cX0_sizeOf 10 = .ok (.aload_n 0, 1) := by decide +kernel
theorem dX0_sizeOf_11 : decode cX0_sizeOf 11 = .ok (.getfield 14, 3) := by decide +kernel
theorem dX0_sizeOf_14 : decode cX0_sizeOf 14 = .ok (.iload_n 3, 1) := by decide +kernel
theorem dX0_sizeOf_15 : decode cX0_sizeOf 15 = .ok (.invokevirtual 39, 3) := by decide +kernel
theorem dX0_sizeOf_18 : decode cX0_sizeOf 18 = .ok (.iload_n 1, 1) := by decide +kernel
theorem dX0_sizeOf_19 : decode cX0_sizeOf 19 = .ok (.if_icmp .ne 6, 3) := by decide +kernel
theorem dX0_sizeOf_22 : decode cX0_sizeOf 22 = .ok (.iinc 2 1, 3) := by decide +kernel
theorem dX0_sizeOf_25 : decode cX0_sizeOf 25 = .ok (.iinc 3 1, 3) := by decide +kernel
theorem dX0_sizeOf_28 : decode cX0_sizeOf 28 = .ok (.goto (-24), 3) := by decide +kernel
theorem dX0_sizeOf_31 : decode cX0_sizeOf 31 = .ok (.iload_n 2, 1) := by decide +kernel
theorem dX0_sizeOf_32 : decode cX0_sizeOf 32 = .ok (.ireturn, 1) := by decide +kernel
theorem dX0_countAll_0 : decode cX0_countAll 0 = .ok (.iconst 0, 1) := by decide +kernel
theorem dX0_countAll_1 : decode cX0_countAll 1 = .ok (.istore_n 1, 1) := by decide +kernel
theorem dX0_countAll_2 : decode cX0_countAll 2 = .ok (.iconst 0, 1) := by decide +kernel
theorem dX0_countAll_3 : decode cX0_countAll 3 = .ok (.istore_n 2, 1) := by decide +kernel
theorem dX0_countAll_4 : decode cX0_countAll 4 = .ok (.iload_n 2, 1) := by decide +kernel
theorem dX0_countAll_5 : decode cX0_countAll 5 = .ok (.bipush 49, 2) := by decide +kernel
theorem dX0_countAll_7 : decode cX0_countAll 7 = .ok (.if_icmp .ge 20, 3) := by decide +kernel
theorem dX0_countAll_10 : decode cX0_countAll 10 = .ok (.aload_n 0, 1) := by decide +kernel
theorem dX0_countAll_11 : decode cX0_countAll 11 = .ok (.iload_n 2, 1) := by decide +kernel
theorem dX0_countAll_12 : decode cX0_countAll 12 = .ok (.invokevirtual 61, 3) := by decide +kernel
theorem dX0_countAll_15 : decode cX0_countAll 15 = .ok (.ifCond .eq 6, 3) := by decide +kernel
theorem dX0_countAll_18 : decode cX0_countAll 18 = .ok (.iinc 1 1, 3) := by decide +kernel
theorem dX0_countAll_21 : decode cX0_countAll 21 = .ok (.iinc 2 1, 3) := by decide +kernel
theorem dX0_countAll_24 : decode cX0_countAll 24 = .ok (.goto (-20), 3) := by decide +kernel
theorem dX0_countAll_27 : decode cX0_countAll 27 = .ok (.iload_n 1, 1) := by decide +kernel
theorem dX0_countAll_28 : decode cX0_countAll 28 = .ok (.ireturn, 1) := by decide +kernel
theorem dX0_countLoose_0 : decode cX0_countLoose 0 = .ok (.iconst 0, 1) := by decide +kernel
theorem dX0_countLoose_1 : decode cX0_countLoose 1 = .ok (.istore_n 1, 1) := by decide +kernel
theorem dX0_countLoose_2 : decode cX0_countLoose 2 = .ok (.iconst 0, 1) := by decide +kernel
theorem dX0_countLoose_3 : decode cX0_countLoose 3 = .ok (.istore_n 2, 1) := by decide +kernel
theorem dX0_countLoose_4 : decode cX0_countLoose 4 = .ok (.iload_n 2, 1) := by decide +kernel
theorem dX0_countLoose_5 : decode cX0_countLoose 5 = .ok (.bipush 49, 2) := by decide +kernel
theorem dX0_countLoose_7 : decode cX0_countLoose 7 = .ok (.if_icmp .ge 20, 3) := by decide +kernel
theorem dX0_countLoose_10 : decode cX0_countLoose 10 = .ok (.aload_n 0, 1) := by decide +kernel
theorem dX0_countLoose_11 : decode cX0_countLoose 11 = .ok (.iload_n 2, 1) := by decide +kernel
theorem dX0_countLoose_12 : decode cX0_countLoose 12 = .ok (.invokevirtual 64, 3) := by decide +kernel
theorem dX0_countLoose_15 : decode cX0_countLoose 15 = .ok (.ifCond .eq 6, 3) := by decide +kernel
theorem dX0_countLoose_18 : decode cX0_countLoose 18 = .ok (.iinc 1 1, 3) := by decide +kernel
theorem dX0_countLoose_21 : decode cX0_countLoose 21 = .ok (.iinc 2 1, 3) := by decide +kernel
theorem dX0_countLoose_24 : decode cX0_countLoose 24 = .ok (.goto (-20), 3) := by decide +kernel
theorem dX0_countLoose_27 : decode cX0_countLoose 27 = .ok (.iload_n 1, 1) := by decide +kernel
theorem dX0_countLoose_28 : decode cX0_countLoose 28 = .ok (.ireturn, 1) := by decide +kernel
theorem dX0_forget_0 : decode cX0_forget 0 = .ok (.iconst 0, 1) := by decide +kernel
theorem dX0_forget_1 : decode cX0_forget 1 = .ok (.istore_n 2, 1) := by decide +kernel
theorem dX0_forget_2 : decode cX0_forget 2 = .ok (.iload_n 2, 1) := by decide +kernel
theorem dX0_forget_3 : decode cX0_forget 3 = .ok (.bipush 49, 2) := by decide +kernel
theorem dX0_forget_5 : decode cX0_forget 5 = .ok (.if_icmp .ge 30, 3) := by decide +kernel
theorem dX0_forget_8 : decode cX0_forget 8 = .ok (.aload_n 0, 1) := by decide +kernel
theorem dX0_forget_9 : decode cX0_forget 9 = .ok (.getfield 14, 3) := by decide +kernel
theorem dX0_forget_12 : decode cX0_forget 12 = .ok (.iload_n 2, 1) := by decide +kernel
theorem dX0_forget_13 : decode cX0_forget 13 = .ok (.invokevirtual 39, 3) := by decide +kernel
theorem dX0_forget_16 : decode cX0_forget 16 = .ok (.iload_n 1, 1) := by decide +kernel
theorem dX0_forget_17 : decode cX0_forget 17 = .ok (.if_icmp .ne 12, 3) := by decide +kernel
theorem dX0_forget_20 : decode cX0_forget 20 = .ok (.aload_n 0, 1) := by decide +kernel
theorem dX0_forget_21 : decode cX0_forget 21 = .ok (.getfield 14, 3) := by decide +kernel
theorem dX0_forget_24 : decode cX0_forget 24 = .ok (.iload_n 2, 1) := by decide +kernel
theorem dX0_forget_25 : decode cX0_forget 25 = .ok (.iconst (-1), 1) := by decide +kernel
theorem dX0_forget_26 : decode cX0_forget 26 = .ok (.invokevirtual 47, 3) := by decide +kernel
theorem dX0_forget_29 : decode cX0_forget 29 = .ok (.iinc 2 1, 3) := by decide +kernel
theorem dX0_forget_32 : decode cX0_forget 32 = .ok (.goto (-30), 3) := by decide +kernel
theorem dX0_forget_35 : decode cX0_forget 35 = .ok (.return_, 1) := by decide +kernel
theorem dX1_init_0 : decode cX1_init 0 = .ok (.aload_n 0, 1) := by decide +kernel
theorem dX1_init_1 : decode cX1_init 1 = .ok (.invokespecial 5, 3) := by decide +kernel
theorem dX1_init_4 : decode cX1_init 4 = .ok (.aload_n 0, 1) := by decide +kernel
theorem dX1_init_5 : decode cX1_init 5 = .ok (.iconst 2, 1) := by decide +kernel
theorem dX1_init_6 : decode cX1_init 6 = .ok (.putfield 11, 3) := by decide +kernel
theorem dX1_init_9 : decode cX1_init 9 = .ok (.aload_n 0, 1) := by decide +kernel
theorem dX1_init_10 : decode cX1_init 10 = .ok (.iconst 2, 1) := by decide +kernel
theorem dX1_init_11 : decode cX1_init 11 = .ok (.putfield 15, 3) := by decide +kernel
theorem dX1_init_14 : decode cX1_init 14 = .ok (.aload_n 0, 1) := by decide +kernel
theorem dX1_init_15 : decode cX1_init 15 = .ok (.iconst 0, 1) := by decide +kernel
theorem dX1_init_16 : decode cX1_init 16 = .ok (.putfield 18, 3) := by decide +kernel
theorem dX1_init_19 : decode cX1_init 19 = .ok (.aload_n 0, 1) := by decide +kernel
theorem dX1_init_20 : decode cX1_init 20 = .ok (.iconst 0, 1) := by decide +kernel
theorem dX1_init_21 : decode cX1_init 21 = .ok (.putfield 21, 3) := by decide +kernel
theorem dX1_init_24 : decode cX1_init 24 = .ok (.aload_n 0, 1) := by decide +kernel
theorem dX1_init_25 : decode cX1_init 25 = .ok (.iconst 0, 1) := by decide +kernel
theorem dX1_init_26 : decode cX1_init 26 = .ok (.putfield 24, 3) := by decide +kernel
theorem dX1_init_29 : decode cX1_init 29 = .ok (.aload_n 0, 1) := by decide +kernel
theorem dX1_init_30 : decode cX1_init 30 = .ok (.iconst 0, 1) := by decide +kernel
theorem dX1_init_31 : decode cX1_init 31 = .ok (.putfield 27, 3) := by decide +kernel
theorem dX1_init_34 : decode cX1_init 34 = .ok (.aload_n 0, 1) := by decide +kernel
theorem dX1_init_35 : decode cX1_init 35 = .ok (.iconst 0, 1) := by decide +kernel
theorem dX1_init_36 : decode cX1_init 36 = .ok (.putfield 30, 3) := by decide +kernel
theorem dX1_init_39 : decode cX1_init 39 = .ok (.aload_n 0, 1) := by decide +kernel
theorem dX1_init_40 : decode cX1_init 40 = .ok (.iconst 0, 1) := by decide +kernel
theorem dX1_init_41 : decode cX1_init 41 = .ok (.putfield 33, 3) := by decide +kernel
theorem dX1_init_44 : decode cX1_init 44 = .ok (.aload_n 0, 1) := by decide +kernel
theorem dX1_init_45 : decode cX1_init 45 = .ok (.new 36, 3) := by decide +kernel
theorem dX1_init_48 : decode cX1_init 48 = .ok (.dup, 1) := by decide +kernel
theorem dX1_init_49 : decode cX1_init 49 = .ok (.bipush 49, 2) := by decide +kernel
theorem dX1_init_51 : decode cX1_init 51 = .ok (.invokespecial 38, 3) := by decide +kernel
theorem dX1_init_54 : decode cX1_init 54 = .ok (.putfield 41, 3) := by decide +kernel
theorem dX1_init_57 : decode cX1_init 57 = .ok (.aload_n 0, 1) := by decide +kernel
theorem dX1_init_58 : decode cX1_init 58 = .ok (.new 36, 3) := by decide +kernel
theorem dX1_init_61 : decode cX1_init 61 = .ok (.dup, 1) := by decide +kernel
theorem dX1_init_62 : decode cX1_init 62 = .ok (.bipush 106, 2) := by decide +kernel
theorem dX1_init_64 : decode cX1_init 64 = .ok (.invokespecial 38, 3) := by decide +kernel
theorem dX1_init_67 : decode cX1_init 67 = .ok (.putfield 45, 3) := by decide +kernel
theorem dX1_init_70 : decode cX1_init 70 = .ok (.aload_n 0, 1) := by decide +kernel
theorem dX1_init_71 : decode cX1_init 71 = .ok (.new 36, 3) := by decide +kernel
theorem dX1_init_74 : decode cX1_init 74 = .ok (.dup, 1) := by decide +kernel
theorem dX1_init_75 : decode cX1_init 75 = .ok (.bipush 120, 2) := by decide +kernel
theorem dX1_init_77 : decode cX1_init 77 = .ok (.invokespecial 38, 3) := by decide +kernel
theorem dX1_init_80 : decode cX1_init 80 = .ok (.putfield 48, 3) := by decide +kernel
theorem dX1_init_83 : decode cX1_init 83 = .ok (.aload_n 0, 1) := by decide +kernel
theorem dX1_init_84 : decode cX1_init 84 = .ok (.new 36, 3) := by decide +kernel
theorem dX1_init_87 : decode cX1_init 87 = .ok (.dup, 1) := by decide +kernel
theorem dX1_init_88 : decode cX1_init 88 = .ok (.bipush 49, 2) := by decide +kernel
theorem dX1_init_90 : decode cX1_init 90 = .ok (.invokespecial 38, 3) := by decide +kernel
theorem dX1_init_93 : decode cX1_init 93 = .ok (.putfield 51, 3) := by decide +kernel
theorem dX1_init_96 : decode cX1_init 96 = .ok (.return_, 1) := by decide +kernel
theorem dX1_copyFrom_0 : decode cX1_copyFrom 0 = .ok (.aload_n 0, 1) := by decide +kernel
theorem dX1_copyFrom_1 : decode cX1_copyFrom 1 = .ok (.aload_n 1, 1) := by decide +kernel
theorem dX1_copyFrom_2 : decode cX1_copyFrom 2 = .ok (.getfield 11, 3) := by decide +kernel
theorem dX1_copyFrom_5 : decode cX1_copyFrom 5 = .ok (.putfield 11, 3) := by decide +kernel
theorem dX1_copyFrom_8 : decode cX1_copyFrom 8 = .ok (.aload_n 0, 1) := by decide +kernel
theorem dX1_copyFrom_9 : decode cX1_copyFrom 9 = .ok (.aload_n 1, 1) := by decide +kernel
theorem dX1_copyFrom_10 : decode cX1_copyFrom 10 = .ok (.getfield 15, 3) := by decide +kernel
theorem dX1_copyFrom_13 : decode cX1_copyFrom 13 = .ok (.putfield 15, 3) := by decide +kernel
theorem dX1_copyFrom_16 : decode cX1_copyFrom 16 = .ok (.aload_n 0, 1) := by decide +kernel
theorem dX1_copyFrom_17 : decode cX1_copyFrom 17 = .ok (.aload_n 1, 1) := by decide +kernel
theorem dX1_copyFrom_18 : decode cX1_copyFrom 18 = .ok (.getfield 18, 3) := by decide +kernel
theorem dX1_copyFrom_21 : decode cX1_copyFrom 21 = .ok (.putfield 18, 3) := by decide +kernel
theorem dX1_copyFrom_24 : decode cX1_copyFrom 24 = .ok (.aload_n 0, 1) := by decide +kernel
theorem dX1_copyFrom_25 : decode cX1_copyFrom 25 = .ok (.aload_n 1, 1) := by decide +kernel
theorem dX1_copyFrom_26 : decode cX1_copyFrom 26 = .ok (.getfield 21, 3) := by decide +kernel
theorem dX1_copyFrom_29 : decode cX1_copyFrom 29 = .ok (.putfield 21, 3) := by decide +kernel
theorem dX1_copyFrom_32 : decode cX1_copyFrom 32 = .ok (.aload_n 0, 1) := by decide +kernel
theorem dX1_copyFrom_33 : decode cX1_copyFrom 33 = .ok (.aload_n 1, 1) := by decide +kernel
theorem dX1_copyFrom_34 : decode cX1_copyFrom 34 = .ok (.getfield 24, 3) := by decide +kernel
theorem dX1_copyFrom_37 : decode cX1_copyFrom 37 = .ok (.putfield 24, 3) := by decide +kernel
theorem dX1_copyFrom_40 : decode cX1_copyFrom 40 = .ok (.aload_n 0, 1) := by decide +kernel
theorem dX1_copyFrom_41 : decode cX1_copyFrom 41 = .ok (.aload_n 1, 1) := by decide +kernel
theorem dX1_copyFrom_42 : decode cX1_copyFrom 42 = .ok (.getfield 27, 3) := by decide +kernel
theorem dX1_copyFrom_45 : decode cX1_copyFrom 45 = .ok (.putfield 27, 3) := by decide +kernel
theorem dX1_copyFrom_48 : decode cX1_copyFrom 48 = .ok (.aload_n 0, 1) := by decide +kernel
theorem dX1_copyFrom_49 : decode cX1_copyFrom 49 = .ok (.aload_n 1, 1) := by decide +kernel
theorem dX1_copyFrom_50 : decode cX1_copyFrom 50 = .ok (.getfield 30, 3) := by decide +kernel
theorem dX1_copyFrom_53 : decode cX1_copyFrom 53 = .ok (.putfield 30, 3) := by decide +kernel
theorem dX1_copyFrom_56 : decode cX1_copyFrom 56 = .ok (.aload_n 0, 1) := by decide +kernel
theorem dX1_copyFrom_57 : decode cX1_copyFrom 57 = .ok (.aload_n 1, 1) := by decide +kernel
theorem dX1_copyFrom_58 : decode cX1_copyFrom 58 = .ok (.getfield 33, 3) := by decide +kernel
theorem dX1_copyFrom_61 : decode cX1_copyFrom 61 = .ok (.putfield 33, 3) := by decide +kernel
theorem dX1_copyFrom_64 : decode cX1_copyFrom 64 = .ok (.aload_n 0, 1) := by decide +kernel
theorem dX1_copyFrom_65 : decode cX1_copyFrom 65 = .ok (.getfield 41, 3) := by decide +kernel
theorem dX1_copyFrom_68 : decode cX1_copyFrom 68 = .ok (.aload_n 1, 1) := by decide +kernel
theorem dX1_copyFrom_69 : decode cX1_copyFrom 69 = .ok (.getfield 41, 3) := by decide +kernel
theorem dX1_copyFrom_72 : decode cX1_copyFrom 72 = .ok (.invokevirtual 54, 3) := by decide +kernel
theorem dX1_copyFrom_75 : decode cX1_copyFrom 75 = .ok (.aload_n 0, 1) := by decide +kernel
theorem dX1_copyFrom_76 : decode cX1_copyFrom 76 = .ok (.getfield 45, 3) := by decide +kernel
theorem dX1_copyFrom_79 : decode cX1_copyFrom 79 = .ok (.aload_n 1, 1) := by decide +kernel
theorem dX1_copyFrom_80 : decode cX1_copyFrom 80 = .ok (.getfield 45, 3) := by decide +kernel
theorem dX1_copyFrom_83 : decode cX1_copyFrom 83 = .ok (.invokevirtual 54, 3) := by decide +kernel
theorem dX1_copyFrom_86 : decode cX1_copyFrom 86 = .ok (.aload_n 0, 1) := by decide +kernel
theorem dX1_copyFrom_87 : decode cX1_copyFrom 87 = .ok (.getfield 48, 3) := by decide +kernel
theorem dX1_copyFrom_90 : decode cX1_copyFrom 90 = .ok (.aload_n 1, 1) := by decide +kernel
theorem dX1_copyFrom_91 : decode cX1_copyFrom 91 = .ok (.getfield 48, 3) := by decide +kernel
theorem dX1_copyFrom_94 : decode cX1_copyFrom 94 = .ok (.invokevirtual 54, 3) := by decide +kernel
theorem dX1_copyFrom_97 : decode cX1_copyFrom 97 = .ok (.return_, 1) := by decide +kernel
theorem dX1_beginAnew_0 : decode cX1_beginAnew 0 = .ok (.aload_n 0, 1) := by decide +kernel
theorem dX1_beginAnew_1 : decode cX1_beginAnew 1 = .ok (.iload_n 1, 1) := by decide +kernel
theorem dX1_beginAnew_2 : decode cX1_beginAnew 2 = .ok (.putfield 11, 3) := by decide +kernel
theorem dX1_beginAnew_5 : decode cX1_beginAnew 5 = .ok (.aload_n 0, 1) := by decide +kernel
theorem dX1_beginAnew_6 : decode cX1_beginAnew 6 = .ok (.iload_n 2, 1) := by decide +kernel
theorem dX1_beginAnew_7 : decode cX1_beginAnew 7 = .ok (.putfield 15, 3) := by decide +kernel
theorem dX1_beginAnew_10 : decode cX1_beginAnew 10 = .ok (.aload_n 0, 1) := by decide +kernel
theorem dX1_beginAnew_11 : decode cX1_beginAnew 11 = .ok (.iconst 0, 1) := by decide +kernel
theorem dX1_beginAnew_12 : decode cX1_beginAnew 12 = .ok (.putfield 21, 3) := by decide +kernel
theorem dX1_beginAnew_15 : decode cX1_beginAnew 15 = .ok (.aload_n 0, 1) := by decide +kernel
theorem dX1_beginAnew_16 : decode cX1_beginAnew 16 = .ok (.iconst 0, 1) := by decide +kernel
theorem dX1_beginAnew_17 : decode cX1_beginAnew 17 = .ok (.putfield 24, 3) := by decide +kernel
theorem dX1_beginAnew_20 : decode cX1_beginAnew 20 = .ok (.aload_n 0, 1) := by decide +kernel
theorem dX1_beginAnew_21 : decode cX1_beginAnew 21 = .ok (.iconst 0, 1) := by decide +kernel
theorem dX1_beginAnew_22 : decode cX1_beginAnew 22 = .ok (.putfield 27, 3) := by decide +kernel
theorem dX1_beginAnew_25 : decode cX1_beginAnew 25 = .ok (.aload_n 0, 1) := by decide +kernel
theorem dX1_beginAnew_26 : decode cX1_beginAnew 26 = .ok (.iconst 0, 1) := by decide +kernel
theorem dX1_beginAnew_27 : decode cX1_beginAnew 27 = .ok (.putfield 30, 3) := by decide +kernel
theorem dX1_beginAnew_30 : decode cX1_beginAnew 30 = .ok (.aload_n 0, 1) := by decide +kernel
theorem dX1_beginAnew_31 : decode cX1_beginAnew 31 = .ok (.iconst 0, 1) := by decide +kernel
theorem dX1_beginAnew_32 : decode cX1_beginAnew 32 = .ok (.putfield 33, 3) := by decide +kernel
theorem dX1_beginAnew_35 : decode cX1_beginAnew 35 = .ok (.aload_n 0, 1) := by decide +kernel
theorem dX1_beginAnew_36 : decode cX1_beginAnew 36 = .ok (.getfield 41, 3) := by decide +kernel
theorem dX1_beginAnew_39 : decode cX1_beginAnew 39 = .ok (.iconst 0, 1) := by decide +kernel
theorem dX1_beginAnew_40 : decode cX1_beginAnew 40 = .ok (.invokevirtual 58, 3) := by decide +kernel
theorem dX1_beginAnew_43 : decode cX1_beginAnew 43 = .ok (.aload_n 0, 1) := by decide +kernel
theorem dX1_beginAnew_44 : decode cX1_beginAnew 44 = .ok (.getfield 45, 3) := by decide +kernel
theorem dX1_beginAnew_47 : decode cX1_beginAnew 47 = .ok (.iconst 0, 1) := by decide +kernel
theorem dX1_beginAnew_48 : decode cX1_beginAnew 48 = .ok (.invokevirtual 58, 3) := by decide +kernel
theorem dX1_beginAnew_51 : decode cX1_beginAnew 51 = .ok (.aload_n 0, 1) := by decide +kernel
theorem dX1_beginAnew_52 : decode cX1_beginAnew 52 = .ok (.getfield 48, 3) := by decide +kernel
theorem dX1_beginAnew_55 : decode cX1_beginAnew 55 = .ok (.iconst 0, 1) := by decide +kernel
theorem dX1_beginAnew_56 : decode cX1_beginAnew 56 = .ok (.invokevirtual 58, 3) := by decide +kernel
theorem dX1_beginAnew_59 : decode cX1_beginAnew 59 = .ok (.return_, 1) := by decide +kernel
theorem dX1_add_0 : decode cX1_add 0 = .ok (.aload_n 0, 1) := by decide +kernel
theorem dX1_add_1 : decode cX1_add 1 = .ok (.getfield 41, 3) := by decide +kernel
theorem dX1_add_4 : decode cX1_add 4 = .ok (.iload_n 1, 1) := by decide +kernel
theorem dX1_add_5 : decode cX1_add 5 = .ok (.aload_n 0, 1) := by decide +kernel
theorem dX1_add_6 : decode cX1_add 6 = .ok (.getfield 41, 3) := by decide +kernel
theorem dX1_add_9 : decode cX1_add 9 = .ok (.iload_n 1, 1) := by decide +kernel
theorem dX1_add_10 : decode cX1_add 10 = .ok (.invokevirtual 61, 3) := by decide +kernel
theorem dX1_add_13 : decode cX1_add 13 = .ok (.iload_n 2, 1) := by decide +kernel
theorem dX1_add_14 : decode cX1_add 14 = .ok (.iadd, 1) := by decide +kernel
theorem dX1_add_15 : decode cX1_add 15 = .ok (.invokevirtual 65, 3) := by decide +kernel
theorem dX1_add_18 : decode cX1_add 18 = .ok (.aload_n 0, 1) := by decide +kernel
theorem dX1_add_19 : decode cX1_add 19 = .ok (.dup, 1) := by decide +kernel
theorem dX1_add_20 : decode cX1_add 20 = .ok (.getfield 24, 3) := by decide +kernel
theorem dX1_add_23 : decode cX1_add 23 = .ok (.iload_n 2, 1) := by decide +kernel
theorem dX1_add_24 : decode cX1_add 24 = .ok (.iadd, 1) := by decide +kernel
theorem dX1_add_25 : decode cX1_add 25 = .ok (.putfield 24, 3) := by decide +kernel
theorem dX1_add_28 : decode cX1_add 28 = .ok (.return_, 1) := by decide +kernel
theorem dX1_addEverywhere_0 : decode cX1_addEverywhere 0 = .ok (.iconst 0, 1) := by decide +kernel
theorem dX1_addEverywhere_1 : decode cX1_addEverywhere 1 = .ok (.istore_n 2, 1) := by decide +kernel
theorem dX1_addEverywhere_2 : decode cX1_addEverywhere 2 = .ok (.iload_n 2, 1) := by decide +kernel
theorem dX1_addEverywhere_3 : decode cX1_addEverywhere 3 = .ok (.aload_n 0, 1) := by decide +kernel
theorem dX1_addEverywhere_4 : decode cX1_addEverywhere 4 = .ok (.invokevirtual 69, 3) := by decide +kernel
theorem dX1_addEverywhere_7 : decode cX1_addEverywhere 7 = .ok (.if_icmp .ge 15, 3) := by decide +kernel
theorem dX1_addEverywhere_10 : decode cX1_addEverywhere 10 = .ok (.aload_n 0, 1) := by decide +kernel
theorem dX1_addEverywhere_11 : decode cX1_addEverywhere 11 = .ok (.iload_n 2, 1) := by decide +kernel
theorem dX1_addEverywhere_12 : decode cX1_addEverywhere 12 = .ok (.iload_n 1, 1) := by decide +kernel
theorem dX1_addEverywhere_13 : decode cX1_addEverywhere 13 = .ok (.invokevirtual 73, 3) := by decide +kernel
theorem dX1_addEverywhere_16 : decode cX1_addEverywhere 16 = .ok (.iinc 2 1, 3) := by decide +kernel
theorem dX1_addEverywhere_19 : decode cX1_addEverywhere 19 = .ok (.goto (-17), 3) := by decide +kernel
theorem dX1_addEverywhere_22 : decode cX1_addEverywhere 22 = .ok (.return_, 1) := by decide +kernel
theorem dX1_cellCount_0 : decode cX1_cellCount 0 = .ok (.aload_n 0, 1) := by decide +kernel
theorem dX1_cellCount_1 : decode cX1_cellCount 1 = .ok (.getfield 11, 3) := by decide +kernel
theorem dX1_cellCount_4 : decode cX1_cellCount 4 = .ok (.aload_n 0, 1) := by decide +kernel
theorem dX1_cellCount_5 : decode cX1_cellCount 5 = .ok (.getfield 15, 3) := by decide +kernel
theorem dX1_cellCount_8 : decode cX1_cellCount 8 = .ok (.imul, 1) := by decide +kernel
theorem dX1_cellCount_9 : decode cX1_cellCount 9 = .ok (.ireturn, 1) := by decide +kernel
theorem dX1_rowOf_0 : decode cX1_rowOf 0 = .ok (.aload_n 0, 1) := by decide +kernel
theorem dX1_rowOf_1 : decode cX1_rowOf 1 = .ok (.getfield 11, 3) := by decide +kernel
theorem dX1_rowOf_4 : decode cX1_rowOf 4 = .ok (.ifCond .le 12, 3) := by decide +kernel
theorem dX1_rowOf_7 : decode cX1_rowOf 7 = .ok (.iload_n 1, 1) := by decide +kernel
theorem dX1_rowOf_8 : decode cX1_rowOf 8 = .ok (.aload_n 0, 1) := by decide +kernel
theorem dX1_rowOf_9 : decode cX1_rowOf 9 = .ok (.getfield 11, 3) := by decide +kernel
theorem dX1_rowOf_12 : decode cX1_rowOf 12 = .ok (.idiv, 1) := by decide +kernel
theorem dX1_rowOf_13 : decode cX1_rowOf 13 = .ok (.goto 4, 3) := by decide +kernel
theorem dX1_rowOf_16 : decode cX1_rowOf 16 = .ok (.iconst 0, 1) := by decide +kernel
theorem dX1_rowOf_17 : decode cX1_rowOf 17 = .ok (.ireturn, 1) := by decide +kernel
theorem dX1_columnOf_0 : decode cX1_columnOf 0 = .ok (.aload_n 0, 1) := by decide +kernel
theorem dX1_columnOf_1 : decode cX1_columnOf 1 = .ok (.getfield 11, 3) := by decide +kernel
theorem dX1_columnOf_4 : decode cX1_columnOf 4 = .ok (.ifCond .le 12, 3) := by decide +kernel
theorem dX1_columnOf_7 : decode cX1_columnOf 7 = .ok (.iload_n 1, 1) := by decide +kernel
theorem dX1_columnOf_8 : decode cX1_columnOf 8 = .ok (.aload_n 0, 1) := by decide +kernel
theorem dX1_columnOf_9 : decode cX1_columnOf 9 = .ok (.getfield 11, 3) := by decide +kernel
theorem dX1_columnOf_12 : decode cX1_columnOf 12 = .ok (.irem, 1) := by decide +kernel
theorem dX1_columnOf_13 : decode cX1_columnOf 13 = .ok (.goto 4, 3) := by decide +kernel
theorem dX1_columnOf_16 : decode cX1_columnOf 16 = .ok (.iconst 0, 1) := by decide +kernel
theorem dX1_columnOf_17 : decode cX1_columnOf 17 = .ok (.ireturn, 1) := by decide +kernel
theorem dX1_isIce_0 : decode cX1_isIce 0 = .ok (.aload_n 0, 1) := by decide +kernel
theorem dX1_isIce_1 : decode cX1_isIce 1 = .ok (.getfield 41, 3) := by decide +kernel
theorem dX1_isIce_4 : decode cX1_isIce 4 = .ok (.iload_n 1, 1) := by decide +kernel
theorem dX1_isIce_5 : decode cX1_isIce 5 = .ok (.invokevirtual 61, 3) := by decide +kernel
theorem dX1_isIce_8 : decode cX1_isIce 8 = .ok (.ifCond .le 7, 3) := by decide +kernel
theorem dX1_isIce_11 : decode cX1_isIce 11 = .ok (.iconst 1, 1) := by decide +kernel
theorem dX1_isIce_12 : decode cX1_isIce 12 = .ok (.goto 4, 3) := by decide +kernel
theorem dX1_isIce_15 : decode cX1_isIce 15 = .ok (.iconst 0, 1) := by decide +kernel
theorem dX1_isIce_16 : decode cX1_isIce 16 = .ok (.ireturn, 1) := by decide +kernel
theorem dX1_iceCells_0 : decode cX1_iceCells 0 = .ok (.iconst 0, 1) := by decide +kernel
theorem dX1_iceCells_1 : decode cX1_iceCells 1 = .ok (.istore_n 1, 1) := by decide +kernel
theorem dX1_iceCells_2 : decode cX1_iceCells 2 = .ok (.iconst 0, 1) := by decide +kernel
theorem dX1_iceCells_3 : decode cX1_iceCells 3 = .ok (.istore_n 2, 1) := by decide +kernel
theorem dX1_iceCells_4 : decode cX1_iceCells 4 = .ok (.iload_n 2, 1) := by decide +kernel
theorem dX1_iceCells_5 : decode cX1_iceCells 5 = .ok (.aload_n 0, 1) := by decide +kernel
theorem dX1_iceCells_6 : decode cX1_iceCells 6 = .ok (.invokevirtual 69, 3) := by decide +kernel
theorem dX1_iceCells_9 : decode cX1_iceCells 9 = .ok (.if_icmp .ge 20, 3) := by decide +kernel
theorem dX1_iceCells_12 : decode cX1_iceCells 12 = .ok (.aload_n 0, 1) := by decide +kernel
theorem dX1_iceCells_13 : decode cX1_iceCells 13 = .ok (.iload_n 2, 1) := by decide +kernel
theorem dX1_iceCells_14 : decode cX1_iceCells 14 = .ok (.invokevirtual 76, 3) := by decide +kernel
theorem dX1_iceCells_17 : decode cX1_iceCells 17 = .ok (.ifCond .eq 6, 3) := by decide +kernel
theorem dX1_iceCells_20 : decode cX1_iceCells 20 = .ok (.iinc 1 1, 3) := by decide +kernel
theorem dX1_iceCells_23 : decode cX1_iceCells 23 = .ok (.iinc 2 1, 3) := by decide +kernel
theorem dX1_iceCells_26 : decode cX1_iceCells 26 = .ok (.goto (-22), 3) := by decide +kernel
theorem dX1_iceCells_29 : decode cX1_iceCells 29 = .ok (.iload_n 1, 1) := by decide +kernel
theorem dX1_iceCells_30 : decode cX1_iceCells 30 = .ok (.ireturn, 1) := by decide +kernel
theorem dX1_beside_0 : decode cX1_beside 0 = .ok (.iload_n 2, 1) := by decide +kernel
theorem dX1_beside_1 : decode cX1_beside 1 = .ok (.tableswitch 112 0 3 #[31, 53, 77, 96], 31) := by decide +kernel
theorem dX1_beside_32 : decode cX1_beside 32 = .ok (.aload_n 0, 1) := by decide +kernel
theorem dX1_beside_33 : decode cX1_beside 33 = .ok (.iload_n 1, 1) := by decide +kernel
theorem dX1_beside_34 : decode cX1_beside 34 = .ok (.invokevirtual 80, 3) := by decide +kernel
theorem dX1_beside_37 : decode cX1_beside 37 = .ok (.aload_n 0, 1) := by decide +kernel
theorem dX1_beside_38 : decode cX1_beside 38 = .ok (.getfield 11, 3) := by decide +kernel
theorem dX1_beside_41 : decode cX1_beside 41 = .ok (.iconst 1, 1) := by decide +kernel
theorem dX1_beside_42 : decode cX1_beside 42 = .ok (.isub, 1) := by decide +kernel
theorem dX1_beside_43 : decode cX1_beside 43 = .ok (.if_icmp .ge 9, 3) := by decide +kernel
theorem dX1_beside_46 : decode cX1_beside 46 = .ok (.iload_n 1, 1) := by decide +kernel
theorem dX1_beside_47 : decode cX1_beside 47 = .ok (.iconst 1, 1) := by decide +kernel
theorem dX1_beside_48 : decode cX1_beside 48 = .ok (.iadd, 1) := by decide +kernel
theorem dX1_beside_49 : decode cX1_beside 49 = .ok (.goto 4, 3) := by decide +kernel
theorem dX1_beside_52 : decode cX1_beside 52 = .ok (.iconst (-1), 1) := by decide +kernel
theorem dX1_beside_53 : decode cX1_beside 53 = .ok (.ireturn, 1) := by decide +kernel
theorem dX1_beside_54 : decode cX1_beside 54 = .ok (.iload_n 1, 1) := by decide +kernel
theorem dX1_beside_55 : decode cX1_beside 55 = .ok (.aload_n 0, 1) := by decide +kernel
theorem dX1_beside_56 : decode cX1_beside 56 = .ok (.getfield 11, 3) := by decide +kernel
theorem dX1_beside_59 : decode cX1_beside 59 = .ok (.iadd, 1) := by decide +kernel
theorem dX1_beside_60 : decode cX1_beside 60 = .ok (.aload_n 0, 1) := by decide +kernel
theorem dX1_beside_61 : decode cX1_beside 61 = .ok (.invokevirtual 69, 3) := by decide +kernel
theorem dX1_beside_64 : decode cX1_beside 64 = .ok (.if_icmp .ge 12, 3) := by decide +kernel
theorem dX1_beside_67 : decode cX1_beside 67 = .ok (.iload_n 1, 1) := by decide +kernel
theorem dX1_beside_68 : decode cX1_beside 68 = .ok (.aload_n 0, 1) := by decide +kernel
theorem dX1_beside_69 : decode cX1_beside 69 = .ok (.getfield 11, 3) := by decide +kernel
theorem dX1_beside_72 : decode cX1_beside 72 = .ok (.iadd, 1) := by decide +kernel
theorem dX1_beside_73 : decode cX1_beside 73 = .ok (.goto 4, 3) := by decide +kernel
theorem dX1_beside_76 : decode cX1_beside 76 = .ok (.iconst (-1), 1) := by decide +kernel
theorem dX1_beside_77 : decode cX1_beside 77 = .ok (.ireturn, 1) := by decide +kernel
theorem dX1_beside_78 : decode cX1_beside 78 = .ok (.iload_n 1, 1) := by decide +kernel
theorem dX1_beside_79 : decode cX1_beside 79 = .ok (.aload_n 0, 1) := by decide +kernel
theorem dX1_beside_80 : decode cX1_beside 80 = .ok (.getfield 11, 3) := by decide +kernel
theorem dX1_beside_83 : decode cX1_beside 83 = .ok (.if_icmp .lt 12, 3) := by decide +kernel
theorem dX1_beside_86 : decode cX1_beside 86 = .ok (.iload_n 1, 1) := by decide +kernel
theorem dX1_beside_87 : decode cX1_beside 87 = .ok (.aload_n 0, 1) := by decide +kernel
theorem dX1_beside_88 : decode cX1_beside 88 = .ok (.getfield 11, 3) := by decide +kernel
theorem dX1_beside_91 : decode cX1_beside 91 = .ok (.isub, 1) := by decide +kernel
theorem dX1_beside_92 : decode cX1_beside 92 = .ok (.goto 4, 3) := by decide +kernel
theorem dX1_beside_95 : decode cX1_beside 95 = .ok (.iconst (-1), 1) := by decide +kernel
theorem dX1_beside_96 : decode cX1_beside 96 = .ok (.ireturn, 1) := by decide +kernel
theorem dX1_beside_97 : decode cX1_beside 97 = .ok (.aload_n 0, 1) := by decide +kernel
theorem dX1_beside_98 : decode cX1_beside 98 = .ok (.iload_n 1, 1) := by decide +kernel
theorem dX1_beside_99 : decode cX1_beside 99 = .ok (.invokevirtual 80, 3) := by decide +kernel
theorem dX1_beside_102 : decode cX1_beside 102 = .ok (.ifCond .le 9, 3) := by decide +kernel
theorem dX1_beside_105 : decode cX1_beside 105 = .ok (.iload_n 1, 1) := by decide +kernel
theorem dX1_beside_106 : decode cX1_beside 106 = .ok (.iconst 1, 1) := by decide +kernel
theorem dX1_beside_107 : decode cX1_beside 107 = .ok (.isub, 1) := by decide +kernel
theorem dX1_beside_108 : decode cX1_beside 108 = .ok (.goto 4, 3) := by decide +kernel
theorem dX1_beside_111 : decode cX1_beside 111 = .ok (.iconst (-1), 1) := by decide +kernel
theorem dX1_beside_112 : decode cX1_beside 112 = .ok (.ireturn, 1) := by decide +kernel
theorem dX1_beside_113 : decode cX1_beside 113 = .ok (.iconst (-1), 1) := by decide +kernel
theorem dX1_beside_114 : decode cX1_beside 114 = .ok (.ireturn, 1) := by decide +kernel
theorem dX1_canCut_0 : decode cX1_canCut 0 = .ok (.iload_n 2, 1) := by decide +kernel
theorem dX1_canCut_1 : decode cX1_canCut 1 = .ok (.iconst 2, 1) := by decide +kernel
theorem dX1_canCut_2 : decode cX1_canCut 2 = .ok (.if_icmp .eq 13, 3) := by decide +kernel
theorem dX1_canCut_5 : decode cX1_canCut 5 = .ok (.aload_n 0, 1) := by decide +kernel
theorem dX1_canCut_6 : decode cX1_canCut 6 = .ok (.iload_n 1, 1) := by decide +kernel
theorem dX1_canCut_7 : decode cX1_canCut 7 = .ok (.iload_n 2, 1) := by decide +kernel
theorem dX1_canCut_8 : decode cX1_canCut 8 = .ok (.invokevirtual 83, 3) := by decide +kernel
theorem dX1_canCut_11 : decode cX1_canCut 11 = .ok (.iconst (-1), 1) := by decide +kernel
theorem dX1_canCut_12 : decode cX1_canCut 12 = .ok (.if_icmp .eq 7, 3) := by decide +kernel
theorem dX1_canCut_15 : decode cX1_canCut 15 = .ok (.iconst 1, 1) := by decide +kernel
theorem dX1_canCut_16 : decode cX1_canCut 16 = .ok (.goto 4, 3) := by decide +kernel
theorem dX1_canCut_19 : decode cX1_canCut 19 = .ok (.iconst 0, 1) := by decide +kernel
theorem dX1_canCut_20 : decode cX1_canCut 20 = .ok (.ireturn, 1) := by decide +kernel
theorem dX1_cutPlace_0 : decode cX1_cutPlace 0 = .ok (.iload_n 2, 1) := by decide +kernel
theorem dX1_cutPlace_1 : decode cX1_cutPlace 1 = .ok (.tableswitch 50 0 3 #[31, 38, 50, 45], 31) := by decide +kernel
theorem dX1_cutPlace_32 : decode cX1_cutPlace 32 = .ok (.bipush 56, 2) := by decide +kernel
theorem dX1_cutPlace_34 : decode cX1_cutPlace 34 = .ok (.iload_n 1, 1) := by decide +kernel
theorem dX1_cutPlace_35 : decode cX1_cutPlace 35 = .ok (.iadd, 1) := by decide +kernel
theorem dX1_cutPlace_36 : decode cX1_cutPlace 36 = .ok (.iconst 1, 1) := by decide +kernel
theorem dX1_cutPlace_37 : decode cX1_cutPlace 37 = .ok (.iadd, 1) := by decide +kernel
theorem dX1_cutPlace_38 : decode cX1_cutPlace 38 = .ok (.ireturn, 1) := by decide +kernel
theorem dX1_cutPlace_39 : decode cX1_cutPlace 39 = .ok (.iload_n 1, 1) := by decide +kernel
theorem dX1_cutPlace_40 : decode cX1_cutPlace 40 = .ok (.aload_n 0, 1) := by decide +kernel
theorem dX1_cutPlace_41 : decode cX1_cutPlace 41 = .ok (.getfield 11, 3) := by decide +kernel
theorem dX1_cutPlace_44 : decode cX1_cutPlace 44 = .ok (.iadd, 1) := by decide +kernel
theorem dX1_cutPlace_45 : decode cX1_cutPlace 45 = .ok (.ireturn, 1) := by decide +kernel
theorem dX1_cutPlace_46 : decode cX1_cutPlace 46 = .ok (.bipush 56, 2) := by decide +kernel
theorem dX1_cutPlace_48 : decode cX1_cutPlace 48 = .ok (.iload_n 1, 1) := by decide +kernel
theorem dX1_cutPlace_49 : decode cX1_cutPlace 49 = .ok (.iadd, 1) := by decide +kernel
theorem dX1_cutPlace_50 : decode cX1_cutPlace 50 = .ok (.ireturn, 1) := by decide +kernel
theorem dX1_cutPlace_51 : decode cX1_cutPlace 51 = .ok (.iload_n 1, 1) := by decide +kernel
theorem dX1_cutPlace_52 : decode cX1_cutPlace 52 = .ok (.ireturn, 1) := by decide +kernel
theorem dX1_cutAt_0 : decode cX1_cutAt 0 = .ok (.aload_n 0, 1) := by decide +kernel
theorem dX1_cutAt_1 : decode cX1_cutAt 1 = .ok (.getfield 45, 3) := by decide +kernel
theorem dX1_cutAt_4 : decode cX1_cutAt 4 = .ok (.aload_n 0, 1) := by decide +kernel
theorem dX1_cutAt_5 : decode cX1_cutAt 5 = .ok (.iload_n 1, 1) := by decide +kernel
theorem dX1_cutAt_6 : decode cX1_cutAt 6 = .ok (.iload_n 2, 1) := by decide +kernel
theorem dX1_cutAt_7 : decode cX1_cutAt 7 = .ok (.invokevirtual 87, 3) := by decide +kernel
theorem dX1_cutAt_10 : decode cX1_cutAt 10 = .ok (.invokevirtual 61, 3) := by decide +kernel
theorem dX1_cutAt_13 : decode cX1_cutAt 13 = .ok (.ireturn, 1) := by decide +kernel
theorem dX1_cutSide_0 : decode cX1_cutSide 0 = .ok (.aload_n 0, 1) := by decide +kernel
theorem dX1_cutSide_1 : decode cX1_cutSide 1 = .ok (.iload_n 1, 1) := by decide +kernel
theorem dX1_cutSide_2 : decode cX1_cutSide 2 = .ok (.iload_n 2, 1) := by decide +kernel
theorem dX1_cutSide_3 : decode cX1_cutSide 3 = .ok (.invokevirtual 90, 3) := by decide +kernel
theorem dX1_cutSide_6 : decode cX1_cutSide 6 = .ok (.ifCond .eq 13, 3) := by decide +kernel
theorem dX1_cutSide_9 : decode cX1_cutSide 9 = .ok (.aload_n 0, 1) := by decide +kernel
theorem dX1_cutSide_10 : decode cX1_cutSide 10 = .ok (.iload_n 1, 1) := by decide +kernel
theorem dX1_cutSide_11 : decode cX1_cutSide 11 = .ok (.iload_n 2, 1) := by decide +kernel
theorem dX1_cutSide_12 : decode cX1_cutSide 12 = .ok (.invokevirtual 94, 3) := by decide +kernel
theorem dX1_cutSide_15 : decode cX1_cutSide 15 = .ok (.iconst 1, 1) := by decide +kernel
theorem dX1_cutSide_16 : decode cX1_cutSide 16 = .ok (.if_icmp .ne 5, 3) := by decide +kernel
theorem dX1_cutSide_19 : decode cX1_cutSide 19 = .ok (.iconst 0, 1) := by decide +kernel
theorem dX1_cutSide_20 : decode cX1_cutSide 20 = .ok (.ireturn, 1) := by decide +kernel
theorem dX1_cutSide_21 : decode cX1_cutSide 21 = .ok (.aload_n 0, 1) := by decide +kernel
theorem dX1_cutSide_22 : decode cX1_cutSide 22 = .ok (.getfield 45, 3) := by decide +kernel
theorem dX1_cutSide_25 : decode cX1_cutSide 25 = .ok (.aload_n 0, 1) := by decide +kernel
theorem dX1_cutSide_26 : decode cX1_cutSide 26 = .ok (.iload_n 1, 1) := by decide +kernel
theorem dX1_cutSide_27 : decode cX1_cutSide 27 = .ok (.iload_n 2, 1) := by decide +kernel
theorem dX1_cutSide_28 : decode cX1_cutSide 28 = .ok (.invokevirtual 87, 3) := by decide +kernel
theorem dX1_cutSide_31 : decode cX1_cutSide 31 = .ok (.iconst 1, 1) := by decide +kernel
theorem dX1_cutSide_32 : decode cX1_cutSide 32 = .ok (.invokevirtual 65, 3) := by decide +kernel
theorem dX1_cutSide_35 : decode cX1_cutSide 35 = .ok (.iconst 1, 1) := by decide +kernel
theorem dX1_cutSide_36 : decode cX1_cutSide 36 = .ok (.ireturn, 1) := by decide +kernel
theorem dX1_cutRectangle_0 : decode cX1_cutRectangle 0 = .ok (.iconst 0, 1) := by decide +kernel
theorem dX1_cutRectangle_1 : decode cX1_cutRectangle 1 = .ok (.istore 4, 2) := by decide +kernel
theorem dX1_cutRectangle_3 : decode cX1_cutRectangle 3 = .ok (.iconst 0, 1) := by decide +kernel
theorem dX1_cutRectangle_4 : decode cX1_cutRectangle 4 = .ok (.istore 5, 2) := by decide +kernel
theorem dX1_cutRectangle_6 : decode cX1_cutRectangle 6 = .ok (.iload 5, 2) := by decide +kernel
theorem dX1_cutRectangle_8 : decode cX1_cutRectangle 8 = .ok (.iload_n 2, 1) := by decide +kernel
theorem dX1_cutRectangle_9 : decode cX1_cutRectangle 9 = .ok (.if_icmp .ge 46, 3) := by decide +kernel
theorem dX1_cutRectangle_12 : decode cX1_cutRectangle 12 = .ok (.iload 4, 2) := by decide +kernel
theorem dX1_cutRectangle_14 : decode cX1_cutRectangle 14 = .ok (.aload_n 0, 1) := by decide +kernel
theorem dX1_cutRectangle_15 : decode cX1_cutRectangle 15 = .ok (.iload_n 1, 1) := by decide +kernel
theorem dX1_cutRectangle_16 : decode cX1_cutRectangle 16 = .ok (.iload 5, 2) := by decide +kernel
theorem dX1_cutRectangle_18 : decode cX1_cutRectangle 18 = .ok (.iadd, 1) := by decide +kernel
theorem dX1_cutRectangle_19 : decode cX1_cutRectangle 19 = .ok (.iconst 2, 1) := by decide +kernel
theorem dX1_cutRectangle_20 : decode cX1_cutRectangle 20 = .ok (.invokevirtual 97, 3) := by decide +kernel
theorem dX1_cutRectangle_23 : decode cX1_cutRectangle 23 = .ok (.iadd, 1) := by decide +kernel
theorem dX1_cutRectangle_24 : decode cX1_cutRectangle 24 = .ok (.istore 4, 2) := by decide +kernel
theorem dX1_cutRectangle_26 : decode cX1_cutRectangle 26 = .ok (.iload 4, 2) := by decide +kernel
theorem dX1_cutRectangle_28 : decode cX1_cutRectangle 28 = .ok (.aload_n 0, 1) := by decide +kernel
theorem dX1_cutRectangle_29 : decode cX1_cutRectangle 29 = .ok (.iload_n 1, 1) := by decide +kernel
theorem dX1_cutRectangle_30 : decode cX1_cutRectangle 30 = .ok (.iload_n 3, 1) := by decide +kernel
theorem dX1_cutRectangle_31 : decode cX1_cutRectangle 31 = .ok (.iconst 1, 1) := by decide +kernel
theorem dX1_cutRectangle_32 : decode cX1_cutRectangle 32 = .ok (.isub, 1) := by decide +kernel
theorem dX1_cutRectangle_33 : decode cX1_cutRectangle 33 = .ok (.aload_n 0, 1) := by decide +kernel
theorem dX1_cutRectangle_34 : decode cX1_cutRectangle 34 = .ok (.getfield 11, 3) := by decide +kernel
theorem dX1_cutRectangle_37 : decode cX1_cutRectangle 37 = .ok (.imul, 1) := by decide +kernel
theorem dX1_cutRectangle_38 : decode cX1_cutRectangle 38 = .ok (.iadd, 1) := by decide +kernel
theorem dX1_cutRectangle_39 : decode cX1_cutRectangle 39 = .ok (.iload 5, 2) := by decide +kernel
theorem dX1_cutRectangle_41 : decode cX1_cutRectangle 41 = .ok (.iadd, 1) := by decide +kernel
theorem dX1_cutRectangle_42 : decode cX1_cutRectangle 42 = .ok (.iconst 1, 1) := by decide +kernel
theorem dX1_cutRectangle_43 : decode cX1_cutRectangle 43 = .ok (.invokevirtual 97, 3) := by decide +kernel
theorem dX1_cutRectangle_46 : decode cX1_cutRectangle 46 = .ok (.iadd, 1) := by decide +kernel
theorem dX1_cutRectangle_47 : decode cX1_cutRectangle 47 = .ok (.istore 4, 2) := by decide +kernel
theorem dX1_cutRectangle_49 : decode cX1_cutRectangle 49 = .ok (.iinc 5 1, 3) := by decide +kernel
theorem dX1_cutRectangle_52 : decode cX1_cutRectangle 52 = .ok (.goto (-46), 3) := by decide +kernel
theorem dX1_cutRectangle_55 : decode cX1_cutRectangle 55 = .ok (.iconst 0, 1) := by decide +kernel
theorem dX1_cutRectangle_56 : decode cX1_cutRectangle 56 = .ok (.istore 5, 2) := by decide +kernel
theorem dX1_cutRectangle_58 : decode cX1_cutRectangle 58 = .ok (.iload 5, 2) := by decide +kernel
theorem dX1_cutRectangle_60 : decode cX1_cutRectangle 60 = .ok (.iload_n 3, 1) := by decide +kernel
theorem dX1_cutRectangle_61 : decode cX1_cutRectangle 61 = .ok (.if_icmp .ge 51, 3) := by decide +kernel
theorem dX1_cutRectangle_64 : decode cX1_cutRectangle 64 = .ok (.iload 4, 2) := by decide +kernel
theorem dX1_cutRectangle_66 : decode cX1_cutRectangle 66 = .ok (.aload_n 0, 1) := by decide +kernel
theorem dX1_cutRectangle_67 : decode cX1_cutRectangle 67 = .ok (.iload_n 1, 1) := by decide +kernel
theorem dX1_cutRectangle_68 : decode cX1_cutRectangle 68 = .ok (.iload 5, 2) := by decide +kernel
theorem dX1_cutRectangle_70 : decode cX1_cutRectangle 70 = .ok (.aload_n 0, 1) := by decide +kernel
theorem dX1_cutRectangle_71 : decode cX1_cutRectangle 71 = .ok (.getfield 11, 3) := by decide +kernel
theorem dX1_cutRectangle_74 : decode cX1_cutRectangle 74 = .ok (.imul, 1) := by decide +kernel
theorem dX1_cutRectangle_75 : decode cX1_cutRectangle 75 = .ok (.iadd, 1) := by decide +kernel
theorem dX1_cutRectangle_76 : decode cX1_cutRectangle 76 = .ok (.iconst 3, 1) := by decide +kernel
theorem dX1_cutRectangle_77 : decode cX1_cutRectangle 77 = .ok (.invokevirtual 97, 3) := by decide +kernel
theorem dX1_cutRectangle_80 : decode cX1_cutRectangle 80 = .ok (.iadd, 1) := by decide +kernel
theorem dX1_cutRectangle_81 : decode cX1_cutRectangle 81 = .ok (.istore 4, 2) := by decide +kernel
theorem dX1_cutRectangle_83 : decode cX1_cutRectangle 83 = .ok (.iload 4, 2) := by decide +kernel
theorem dX1_cutRectangle_85 : decode cX1_cutRectangle 85 = .ok (.aload_n 0, 1) := by decide +kernel
theorem dX1_cutRectangle_86 : decode cX1_cutRectangle 86 = .ok (.iload_n 1, 1) := by decide +kernel
theorem dX1_cutRectangle_87 : decode cX1_cutRectangle 87 = .ok (.iload 5, 2) := by decide +kernel
theorem dX1_cutRectangle_89 : decode cX1_cutRectangle 89 = .ok (.aload_n 0, 1) := by decide +kernel
theorem dX1_cutRectangle_90 : decode cX1_cutRectangle 90 = .ok (.getfield 11, 3) := by decide +kernel
theorem dX1_cutRectangle_93 : decode cX1_cutRectangle 93 = .ok (.imul, 1) := by decide +kernel
theorem dX1_cutRectangle_94 : decode cX1_cutRectangle 94 = .ok (.iadd, 1) := by decide +kernel
theorem dX1_cutRectangle_95 : decode cX1_cutRectangle 95 = .ok (.iload_n 2, 1) := by decide +kernel
theorem dX1_cutRectangle_96 : decode cX1_cutRectangle 96 = .ok (.iadd, 1) := by decide +kernel
theorem dX1_cutRectangle_97 : decode cX1_cutRectangle 97 = .ok (.iconst 1, 1) := by decide +kernel
theorem dX1_cutRectangle_98 : decode cX1_cutRectangle 98 = .ok (.isub, 1) := by decide +kernel
theorem dX1_cutRectangle_99 : decode cX1_cutRectangle 99 = .ok (.iconst 0, 1) := by decide +kernel
theorem dX1_cutRectangle_100 : decode cX1_cutRectangle 100 = .ok (.invokevirtual 97, 3) := by decide +kernel
theorem dX1_cutRectangle_103 : decode cX1_cutRectangle 103 = .ok (.iadd, 1) := by decide +kernel
theorem dX1_cutRectangle_104 : decode cX1_cutRectangle 104 = .ok (.istore 4, 2) := by decide +kernel
theorem dX1_cutRectangle_106 : decode cX1_cutRectangle 106 = .ok (.iinc 5 1, 3) := by decide +kernel
theorem dX1_cutRectangle_109 : decode cX1_cutRectangle 109 = .ok (.goto (-51), 3) := by decide +kernel
theorem dX1_cutRectangle_112 : decode cX1_cutRectangle 112 = .ok (.iload 4, 2) := by decide +kernel
theorem dX1_cutRectangle_114 : decode cX1_cutRectangle 114 = .ok (.ireturn, 1) := by decide +kernel
theorem dX1_isTiedToShore_0 : decode cX1_isTiedToShore 0 = .ok (.iload_n 1, 1) := by decide +kernel
theorem dX1_isTiedToShore_1 : decode cX1_isTiedToShore 1 = .ok (.aload_n 0, 1) := by decide +kernel
theorem dX1_isTiedToShore_2 : decode cX1_isTiedToShore 2 = .ok (.getfield 11, 3) := by decide +kernel
theorem dX1_isTiedToShore_5 : decode cX1_isTiedToShore 5 = .ok (.if_icmp .ge 16, 3) := by decide +kernel
theorem dX1_isTiedToShore_8 : decode cX1_isTiedToShore 8 = .ok (.aload_n 0, 1) := by decide +kernel
theorem dX1_isTiedToShore_9 : decode cX1_isTiedToShore 9 = .ok (.iload_n 1, 1) := by decide +kernel
theorem dX1_isTiedToShore_10 : decode cX1_isTiedToShore 10 = .ok (.iconst 2, 1) := by decide +kernel
theorem dX1_isTiedToShore_11 : decode cX1_isTiedToShore 11 = .ok (.invokevirtual 94, 3) := by decide +kernel
theorem dX1_isTiedToShore_14 : decode cX1_isTiedToShore 14 = .ok (.ifCond .ne 7, 3) := by decide +kernel
theorem dX1_isTiedToShore_17 : decode cX1_isTiedToShore 17 = .ok (.iconst 1, 1) := by decide +kernel
theorem dX1_isTiedToShore_18 : decode cX1_isTiedToShore 18 = .ok (.goto 4, 3) := by decide +kernel
theorem dX1_isTiedToShore_21 : decode cX1_isTiedToShore 21 = .ok (.iconst 0, 1) := by decide +kernel
theorem dX1_isTiedToShore_22 : decode cX1_isTiedToShore 22 = .ok (.ireturn, 1) := by decide +kernel
theorem dX1_waterBeside_0 : decode cX1_waterBeside 0 = .ok (.iconst 0, 1) := by decide +kernel
theorem dX1_waterBeside_1 : decode cX1_waterBeside 1 = .ok (.istore_n 2, 1) := by decide +kernel
theorem dX1_waterBeside_2 : decode cX1_waterBeside 2 = .ok (.iconst 0, 1) := by decide +kernel
theorem dX1_waterBeside_3 : decode cX1_waterBeside 3 = .ok (.istore_n 3, 1) := by decide +kernel
theorem dX1_waterBeside_4 : decode cX1_waterBeside 4 = .ok (.iload_n 3, 1) := by decide +kernel
theorem dX1_waterBeside_5 : decode cX1_waterBeside 5 = .ok (.iconst 4, 1) := by decide +kernel
theorem dX1_waterBeside_6 : decode cX1_waterBeside 6 = .ok (.if_icmp .ge 43, 3) := by decide +kernel
theorem dX1_waterBeside_9 : decode cX1_waterBeside 9 = .ok (.aload_n 0, 1) := by decide +kernel
theorem dX1_waterBeside_10 : decode cX1_waterBeside 10 = .ok (.iload_n 1, 1) := by decide +kernel
theorem dX1_waterBeside_11 : decode cX1_waterBeside 11 = .ok (.iload_n 3, 1) := by decide +kernel
theorem dX1_waterBeside_12 : decode cX1_waterBeside 12 = .ok (.invokevirtual 83, 3) := by decide +kernel
theorem dX1_waterBeside_15 : decode cX1_waterBeside 15 = .ok (.istore 4, 2) := by decide +kernel
theorem dX1_waterBeside_17 : decode cX1_waterBeside 17 = .ok (.iload 4, 2) := by decide +kernel
theorem dX1_waterBeside_19 : decode cX1_waterBeside 19 = .ok (.iconst (-1), 1) := by decide +kernel
theorem dX1_waterBeside_20 : decode cX1_waterBeside 20 = .ok (.if_icmp .ne 11, 3) := by decide +kernel
theorem dX1_waterBeside_23 : decode cX1_waterBeside 23 = .ok (.iload_n 3, 1) := by decide +kernel
theorem dX1_waterBeside_24 : decode cX1_waterBeside 24 = .ok (.iconst 1, 1) := by decide +kernel
theorem dX1_waterBeside_25 : decode cX1_waterBeside 25 = .ok (.if_icmp .ne 18, 3) := by decide +kernel
theorem dX1_waterBeside_28 : decode cX1_waterBeside 28 = .ok (.goto 12, 3) := by decide +kernel
theorem dX1_waterBeside_31 : decode cX1_waterBeside 31 = .ok (.aload_n 0, 1) := by decide +kernel
theorem dX1_waterBeside_32 : decode cX1_waterBeside 32 = .ok (.iload 4, 2) := by decide +kernel
theorem dX1_waterBeside_34 : decode cX1_waterBeside 34 = .ok (.invokevirtual 76, 3) := by decide +kernel
theorem dX1_waterBeside_37 : decode cX1_waterBeside 37 = .ok (.ifCond .ne 6, 3) := by decide +kernel
theorem dX1_waterBeside_40 : decode cX1_waterBeside 40 = .ok (.iinc 2 1, 3) := by decide +kernel
theorem dX1_waterBeside_43 : decode cX1_waterBeside 43 = .ok (.iinc 3 1, 3) := by decide +kernel
theorem dX1_waterBeside_46 : decode cX1_waterBeside 46 = .ok (.goto (-42), 3) := by decide +kernel
theorem dX1_waterBeside_49 : decode cX1_waterBeside 49 = .ok (.iload_n 2, 1) := by decide +kernel
theorem dX1_waterBeside_50 : decode cX1_waterBeside 50 = .ok (.ireturn, 1) := by decide +kernel
theorem dX1_lossOf_0 : decode cX1_lossOf 0 = .ok (.aload_n 0, 1) := by decide +kernel
theorem dX1_lossOf_1 : decode cX1_lossOf 1 = .ok (.iload_n 1, 1) := by decide +kernel
theorem dX1_lossOf_2 : decode cX1_lossOf 2 = .ok (.invokevirtual 100, 3) := by decide +kernel
theorem dX1_lossOf_5 : decode cX1_lossOf 5 = .ok (.iconst 2, 1) := by decide +kernel
theorem dX1_lossOf_6 : decode cX1_lossOf 6 = .ok (.if_icmp .lt 12, 3) := by decide +kernel
theorem dX1_lossOf_9 : decode cX1_lossOf 9 = .ok (.aload_n 0, 1) := by decide +kernel
theorem dX1_lossOf_10 : decode cX1_lossOf 10 = .ok (.getfield 18, 3) := by decide +kernel
theorem dX1_lossOf_13 : decode cX1_lossOf 13 = .ok (.iconst 1, 1) := by decide +kernel
theorem dX1_lossOf_14 : decode cX1_lossOf 14 = .ok (.iadd, 1) := by decide +kernel
theorem dX1_lossOf_15 : decode cX1_lossOf 15 = .ok (.goto 7, 3) := by decide +kernel
theorem dX1_lossOf_18 : decode cX1_lossOf 18 = .ok (.aload_n 0, 1) := by decide +kernel
theorem dX1_lossOf_19 : decode cX1_lossOf 19 = .ok (.getfield 18, 3) := by decide +kernel
theorem dX1_lossOf_22 : decode cX1_lossOf 22 = .ok (.istore_n 2, 1) := by decide +kernel
theorem dX1_lossOf_23 : decode cX1_lossOf 23 = .ok (.aload_n 0, 1) := by decide +kernel
theorem dX1_lossOf_24 : decode cX1_lossOf 24 = .ok (.getfield 41, 3) := by decide +kernel
theorem dX1_lossOf_27 : decode cX1_lossOf 27 = .ok (.iload_n 1, 1) := by decide +kernel
theorem dX1_lossOf_28 : decode cX1_lossOf 28 = .ok (.invokevirtual 61, 3) := by decide +kernel
theorem dX1_lossOf_31 : decode cX1_lossOf 31 = .ok (.istore_n 3, 1) := by decide +kernel
theorem dX1_lossOf_32 : decode cX1_lossOf 32 = .ok (.iload_n 2, 1) := by decide +kernel
theorem dX1_lossOf_33 : decode cX1_lossOf 33 = .ok (.iload_n 3, 1) := by decide +kernel
theorem dX1_lossOf_34 : decode cX1_lossOf 34 = .ok (.if_icmp .ge 7, 3) := by decide +kernel
theorem dX1_lossOf_37 : decode cX1_lossOf 37 = .ok (.iload_n 2, 1) := by decide +kernel
theorem dX1_lossOf_38 : decode cX1_lossOf 38 = .ok (.goto 4, 3) := by decide +kernel
theorem dX1_lossOf_41 : decode cX1_lossOf 41 = .ok (.iload_n 3, 1) := by decide +kernel
theorem dX1_lossOf_42 : decode cX1_lossOf 42 = .ok (.ireturn, 1) := by decide +kernel
theorem dX1_meltOneDay_0 : decode cX1_meltOneDay 0 = .ok (.iconst 0, 1) := by decide +kernel
theorem dX1_meltOneDay_1 : decode cX1_meltOneDay 1 = .ok (.istore_n 1, 1) := by decide +kernel
theorem dX1_meltOneDay_2 : decode cX1_meltOneDay 2 = .ok (.iload_n 1, 1) := by decide +kernel
theorem dX1_meltOneDay_3 : decode cX1_meltOneDay 3 = .ok (.aload_n 0, 1) := by decide +kernel
theorem dX1_meltOneDay_4 : decode cX1_meltOneDay 4 = .ok (.invokevirtual 69, 3) := by decide +kernel
theorem dX1_meltOneDay_7 : decode cX1_meltOneDay 7 = .ok (.if_icmp .ge 22, 3) := by decide +kernel
theorem dX1_meltOneDay_10 : decode cX1_meltOneDay 10 = .ok (.aload_n 0, 1) := by decide +kernel
theorem dX1_meltOneDay_11 : decode cX1_meltOneDay 11 = .ok (.getfield 51, 3) := by decide +kernel
theorem dX1_meltOneDay_14 : decode cX1_meltOneDay 14 = .ok (.iload_n 1, 1) := by decide +kernel
theorem dX1_meltOneDay_15 : decode cX1_meltOneDay 15 = .ok (.aload_n 0, 1) := by decide +kernel
theorem dX1_meltOneDay_16 : decode cX1_meltOneDay 16 = .ok (.iload_n 1, 1) := by decide +kernel
theorem dX1_meltOneDay_17 : decode cX1_meltOneDay 17 = .ok (.invokevirtual 103, 3) := by decide +kernel
theorem dX1_meltOneDay_20 : decode cX1_meltOneDay 20 = .ok (.invokevirtual 65, 3) := by decide +kernel
theorem dX1_meltOneDay_23 : decode cX1_meltOneDay 23 = .ok (.iinc 1 1, 3) := by decide +kernel
theorem dX1_meltOneDay_26 : decode cX1_meltOneDay 26 = .ok (.goto (-24), 3) := by decide +kernel
theorem dX1_meltOneDay_29 : decode cX1_meltOneDay 29 = .ok (.iconst 0, 1) := by decide +kernel
theorem dX1_meltOneDay_30 : decode cX1_meltOneDay 30 = .ok (.istore_n 1, 1) := by decide +kernel
theorem dX1_meltOneDay_31 : decode cX1_meltOneDay 31 = .ok (.iload_n 1, 1) := by decide +kernel
theorem dX1_meltOneDay_32 : decode cX1_meltOneDay 32 = .ok (.aload_n 0, 1) := by decide +kernel
theorem dX1_meltOneDay_33 : decode cX1_meltOneDay 33 = .ok (.invokevirtual 69, 3) := by decide +kernel
theorem dX1_meltOneDay_36 : decode cX1_meltOneDay 36 = .ok (.if_icmp .ge 51, 3) := by decide +kernel
theorem dX1_meltOneDay_39 : decode cX1_meltOneDay 39 = .ok (.aload_n 0, 1) := by decide +kernel
theorem dX1_meltOneDay_40 : decode cX1_meltOneDay 40 = .ok (.getfield 41, 3) := by decide +kernel
theorem dX1_meltOneDay_43 : decode cX1_meltOneDay 43 = .ok (.iload_n 1, 1) := by decide +kernel
theorem dX1_meltOneDay_44 : decode cX1_meltOneDay 44 = .ok (.aload_n 0, 1) := by decide +kernel
theorem dX1_meltOneDay_45 : decode cX1_meltOneDay 45 = .ok (.getfield 41, 3) := by decide +kernel
theorem dX1_meltOneDay_48 : decode cX1_meltOneDay 48 = .ok (.iload_n 1, 1) := by decide +kernel
theorem dX1_meltOneDay_49 : decode cX1_meltOneDay 49 = .ok (.invokevirtual 61, 3) := by decide +kernel
theorem dX1_meltOneDay_52 : decode cX1_meltOneDay 52 = .ok (.aload_n 0, 1) := by decide +kernel
theorem dX1_meltOneDay_53 : decode cX1_meltOneDay 53 = .ok (.getfield 51, 3) := by decide +kernel
theorem dX1_meltOneDay_56 : decode cX1_meltOneDay 56 = .ok (.iload_n 1, 1) := by decide +kernel
theorem dX1_meltOneDay_57 : decode cX1_meltOneDay 57 = .ok (.invokevirtual 61, 3) := by decide +kernel
theorem dX1_meltOneDay_60 : decode cX1_meltOneDay 60 = .ok (.isub, 1) := by decide +kernel
theorem dX1_meltOneDay_61 : decode cX1_meltOneDay 61 = .ok (.invokevirtual 65, 3) := by decide +kernel
theorem dX1_meltOneDay_64 : decode cX1_meltOneDay 64 = .ok (.aload_n 0, 1) := by decide +kernel
theorem dX1_meltOneDay_65 : decode cX1_meltOneDay 65 = .ok (.dup, 1) := by decide +kernel
theorem dX1_meltOneDay_66 : decode cX1_meltOneDay 66 = .ok (.getfield 27, 3) := by decide +kernel
theorem dX1_meltOneDay_69 : decode cX1_meltOneDay 69 = .ok (.aload_n 0, 1) := by decide +kernel
theorem dX1_meltOneDay_70 : decode cX1_meltOneDay 70 = .ok (.getfield 51, 3) := by decide +kernel
theorem dX1_meltOneDay_73 : decode cX1_meltOneDay 73 = .ok (.iload_n 1, 1) := by decide +kernel
theorem dX1_meltOneDay_74 : decode cX1_meltOneDay 74 = .ok (.invokevirtual 61, 3) := by decide +kernel
theorem dX1_meltOneDay_77 : decode cX1_meltOneDay 77 = .ok (.iadd, 1) := by decide +kernel
theorem dX1_meltOneDay_78 : decode cX1_meltOneDay 78 = .ok (.putfield 27, 3) := by decide +kernel
theorem dX1_meltOneDay_81 : decode cX1_meltOneDay 81 = .ok (.iinc 1 1, 3) := by decide +kernel
theorem dX1_meltOneDay_84 : decode cX1_meltOneDay 84 = .ok (.goto (-53), 3) := by decide +kernel
theorem dX1_meltOneDay_87 : decode cX1_meltOneDay 87 = .ok (.aload_n 0, 1) := by decide +kernel
theorem dX1_meltOneDay_88 : decode cX1_meltOneDay 88 = .ok (.dup, 1) := by decide +kernel
theorem dX1_meltOneDay_89 : decode cX1_meltOneDay 89 = .ok (.getfield 21, 3) := by decide +kernel
theorem dX1_meltOneDay_92 : decode cX1_meltOneDay 92 = .ok (.iconst 1, 1) := by decide +kernel
theorem dX1_meltOneDay_93 : decode cX1_meltOneDay 93 = .ok (.iadd, 1) := by decide +kernel
theorem dX1_meltOneDay_94 : decode cX1_meltOneDay 94 = .ok (.putfield 21, 3) := by decide +kernel
theorem dX1_meltOneDay_97 : decode cX1_meltOneDay 97 = .ok (.return_, 1) := by decide +kernel
theorem dX1_volumeOf_0 : decode cX1_volumeOf 0 = .ok (.iconst 0, 1) := by decide +kernel
theorem dX1_volumeOf_1 : decode cX1_volumeOf 1 = .ok (.istore_n 3, 1) := by decide +kernel
theorem dX1_volumeOf_2 : decode cX1_volumeOf 2 = .ok (.iconst 0, 1) := by decide +kernel
theorem dX1_volumeOf_3 : decode cX1_volumeOf 3 = .ok (.istore 4, 2) := by decide +kernel
theorem dX1_volumeOf_5 : decode cX1_volumeOf 5 = .ok (.iload 4, 2) := by decide +kernel
theorem dX1_volumeOf_7 : decode cX1_volumeOf 7 = .ok (.aload_n 0, 1) := by decide +kernel
theorem dX1_volumeOf_8 : decode cX1_volumeOf 8 = .ok (.invokevirtual 69, 3) := by decide +kernel
theorem dX1_volumeOf_11 : decode cX1_volumeOf 11 = .ok (.if_icmp .ge 31, 3) := by decide +kernel
theorem dX1_volumeOf_14 : decode cX1_volumeOf 14 = .ok (.aload_n 1, 1) := by decide +kernel
theorem dX1_volumeOf_15 : decode cX1_volumeOf 15 = .ok (.iload 4, 2) := by decide +kernel
theorem dX1_volumeOf_17 : decode cX1_volumeOf 17 = .ok (.invokevirtual 106, 3) := by decide +kernel
theorem dX1_volumeOf_20 : decode cX1_volumeOf 20 = .ok (.iload_n 2, 1) := by decide +kernel
theorem dX1_volumeOf_21 : decode cX1_volumeOf 21 = .ok (.if_icmp .ne 15, 3) := by decide +kernel
theorem dX1_volumeOf_24 : decode cX1_volumeOf 24 = .ok (.iload_n 3, 1) := by decide +kernel
theorem dX1_volumeOf_25 : decode cX1_volumeOf 25 = .ok (.aload_n 0, 1) := by decide +kernel
theorem dX1_volumeOf_26 : decode cX1_volumeOf 26 = .ok (.getfield 41, 3) := by decide +kernel
theorem dX1_volumeOf_29 : decode cX1_volumeOf 29 = .ok (.iload 4, 2) := by decide +kernel
theorem dX1_volumeOf_31 : decode cX1_volumeOf 31 = .ok (.invokevirtual 61, 3) := by decide +kernel
theorem dX1_volumeOf_34 : decode cX1_volumeOf 34 = .ok (.iadd, 1) := by decide +kernel
theorem dX1_volumeOf_35 : decode cX1_volumeOf 35 = .ok (.istore_n 3, 1) := by decide +kernel
theorem dX1_volumeOf_36 : decode cX1_volumeOf 36 = .ok (.iinc 4 1, 3) := by decide +kernel
theorem dX1_volumeOf_39 : decode cX1_volumeOf 39 = .ok (.goto (-34), 3) := by decide +kernel
theorem dX1_volumeOf_42 : decode cX1_volumeOf 42 = .ok (.iload_n 3, 1) := by decide +kernel
theorem dX1_volumeOf_43 : decode cX1_volumeOf 43 = .ok (.ireturn, 1) := by decide +kernel
theorem dX1_removeBlock_0 : decode cX1_removeBlock 0 = .ok (.aload_n 0, 1) := by decide +kernel
theorem dX1_removeBlock_1 : decode cX1_removeBlock 1 = .ok (.aload_n 1, 1) := by decide +kernel
theorem dX1_removeBlock_2 : decode cX1_removeBlock 2 = .ok (.iload_n 2, 1) := by decide +kernel
theorem dX1_removeBlock_3 : decode cX1_removeBlock 3 = .ok (.invokevirtual 111, 3) := by decide +kernel
theorem dX1_removeBlock_6 : decode cX1_removeBlock 6 = .ok (.istore_n 3, 1) := by decide +kernel
theorem dX1_removeBlock_7 : decode cX1_removeBlock 7 = .ok (.iconst 0, 1) := by decide +kernel
theorem dX1_removeBlock_8 : decode cX1_removeBlock 8 = .ok (.istore 4, 2) := by decide +kernel
theorem dX1_removeBlock_10 : decode cX1_removeBlock 10 = .ok (.iload 4, 2) := by decide +kernel
theorem dX1_removeBlock_12 : decode cX1_removeBlock 12 = .ok (.aload_n 0, 1) := by decide +kernel
theorem dX1_removeBlock_13 : decode cX1_removeBlock 13 = .ok (.invokevirtual 69, 3) := by decide +kernel
theorem dX1_removeBlock_16 : decode cX1_removeBlock 16 = .ok (.if_icmp .ge 29, 3) := by decide +kernel
theorem dX1_removeBlock_19 : decode cX1_removeBlock 19 = .ok (.aload_n 1, 1) := by decide +kernel
theorem dX1_removeBlock_20 : decode cX1_removeBlock 20 = .ok (.iload 4, 2) := by decide +kernel
theorem dX1_removeBlock_22 : decode cX1_removeBlock 22 = .ok (.invokevirtual 106, 3) := by decide +kernel
theorem dX1_removeBlock_25 : decode cX1_removeBlock 25 = .ok (.iload_n 2, 1) := by decide +kernel
theorem dX1_removeBlock_26 : decode cX1_removeBlock 26 = .ok (.if_icmp .ne 13, 3) := by decide +kernel
theorem dX1_removeBlock_29 : decode cX1_removeBlock 29 = .ok (.aload_n 0, 1) := by decide +kernel
theorem dX1_removeBlock_30 : decode cX1_removeBlock 30 = .ok (.getfield 41, 3) := by decide +kernel
theorem dX1_removeBlock_33 : decode cX1_removeBlock 33 = .ok (.iload 4, 2) := by decide +kernel
theorem dX1_removeBlock_35 : decode cX1_removeBlock 35 = .ok (.iconst 0, 1) := by decide +kernel
theorem dX1_removeBlock_36 : decode cX1_removeBlock 36 = .ok (.invokevirtual 65, 3) := by decide +kernel
theorem dX1_removeBlock_39 : decode cX1_removeBlock 39 = .ok (.iinc 4 1, 3) := by decide +kernel
theorem dX1_removeBlock_42 : decode cX1_removeBlock 42 = .ok (.goto (-32), 3) := by decide +kernel
theorem dX1_removeBlock_45 : decode cX1_removeBlock 45 = .ok (.aload_n 0, 1) := by decide +kernel
theorem dX1_removeBlock_46 : decode cX1_removeBlock 46 = .ok (.getfield 33, 3) := by decide +kernel
theorem dX1_removeBlock_49 : decode cX1_removeBlock 49 = .ok (.bipush 40, 2) := by decide +kernel
theorem dX1_removeBlock_51 : decode cX1_removeBlock 51 = .ok (.if_icmp .ge 52, 3) := by decide +kernel
theorem dX1_removeBlock_54 : decode cX1_removeBlock 54 = .ok (.aload_n 0, 1) := by decide +kernel
theorem dX1_removeBlock_55 : decode cX1_removeBlock 55 = .ok (.getfield 48, 3) := by decide +kernel
theorem dX1_removeBlock_58 : decode cX1_removeBlock 58 = .ok (.iconst 3, 1) := by decide +kernel
theorem dX1_removeBlock_59 : decode cX1_removeBlock 59 = .ok (.aload_n 0, 1) := by decide +kernel
theorem dX1_removeBlock_60 : decode cX1_removeBlock 60 = .ok (.getfield 33, 3) := by decide +kernel
theorem dX1_removeBlock_63 : decode cX1_removeBlock 63 = .ok (.imul, 1) := by decide +kernel
theorem dX1_removeBlock_64 : decode cX1_removeBlock 64 = .ok (.iload_n 2, 1) := by decide +kernel
theorem dX1_removeBlock_65 : decode cX1_removeBlock 65 = .ok (.invokevirtual 65, 3) := by decide +kernel
theorem dX1_removeBlock_68 : decode cX1_removeBlock 68 = .ok (.aload_n 0, 1) := by decide +kernel
theorem dX1_removeBlock_69 : decode cX1_removeBlock 69 = .ok (.getfield 48, 3) := by decide +kernel
theorem dX1_removeBlock_72 : decode cX1_removeBlock 72 = .ok (.iconst 3, 1) := by decide +kernel
theorem dX1_removeBlock_73 : decode cX1_removeBlock 73 = .ok (.aload_n 0, 1) := by decide +kernel
theorem dX1_removeBlock_74 : decode cX1_removeBlock 74 = .ok (.getfield 33, 3) := by decide +kernel
theorem dX1_removeBlock_77 : decode cX1_removeBlock 77 = .ok (.imul, 1) := by decide +kernel
theorem dX1_removeBlock_78 : decode cX1_removeBlock 78 = .ok (.iconst 1, 1) := by decide +kernel
theorem dX1_removeBlock_79 : decode cX1_removeBlock 79 = .ok (.iadd, 1) := by decide +kernel
theorem dX1_removeBlock_80 : decode cX1_removeBlock 80 = .ok (.iload_n 3, 1) := by decide +kernel
theorem dX1_removeBlock_81 : decode cX1_removeBlock 81 = .ok (.invokevirtual 65, 3) := by decide +kernel
theorem dX1_removeBlock_84 : decode cX1_removeBlock 84 = .ok (.aload_n 0, 1) := by decide +kernel
theorem dX1_removeBlock_85 : decode cX1_removeBlock 85 = .ok (.getfield 48, 3) := by decide +kernel
theorem dX1_removeBlock_88 : decode cX1_removeBlock 88 = .ok (.iconst 3, 1) := by decide +kernel
theorem dX1_removeBlock_89 : decode cX1_removeBlock 89 = .ok (.aload_n 0, 1) := by decide +kernel
theorem dX1_removeBlock_90 : decode cX1_removeBlock 90 = .ok (.getfield 33, 3) := by decide +kernel
theorem dX1_removeBlock_93 : decode cX1_removeBlock 93 = .ok (.imul, 1) := by decide +kernel
theorem dX1_removeBlock_94 : decode cX1_removeBlock 94 = .ok (.iconst 2, 1) := by decide +kernel
theorem dX1_removeBlock_95 : decode cX1_removeBlock 95 = .ok (.iadd, 1) := by decide +kernel
theorem dX1_removeBlock_96 : decode cX1_removeBlock 96 = .ok (.aload_n 0, 1) := by decide +kernel
theorem dX1_removeBlock_97 : decode cX1_removeBlock 97 = .ok (.getfield 21, 3) := by decide +kernel
theorem dX1_removeBlock_100 : decode cX1_removeBlock 100 = .ok (.invokevirtual 65, 3) := by decide +kernel
theorem dX1_removeBlock_103 : decode cX1_removeBlock 103 = .ok (.aload_n 0, 1) := by decide +kernel
theorem dX1_removeBlock_104 : decode cX1_removeBlock 104 = .ok (.dup, 1) := by decide +kernel
theorem dX1_removeBlock_105 : decode cX1_removeBlock 105 = .ok (.getfield 33, 3) := by decide +kernel
theorem dX1_removeBlock_108 : decode cX1_removeBlock 108 = .ok (.iconst 1, 1) := by decide +kernel
theorem dX1_removeBlock_109 : decode cX1_removeBlock 109 = .ok (.iadd, 1) := by decide +kernel
theorem dX1_removeBlock_110 : decode cX1_removeBlock 110 = .ok (.putfield 33, 3) := by decide +kernel
theorem dX1_removeBlock_113 : decode cX1_removeBlock 113 = .ok (.aload_n 0, 1) := by decide +kernel
theorem dX1_removeBlock_114 : decode cX1_removeBlock 114 = .ok (.dup, 1) := by decide +kernel
theorem dX1_removeBlock_115 : decode cX1_removeBlock 115 = .ok (.getfield 30, 3) := by decide +kernel
theorem dX1_removeBlock_118 : decode cX1_removeBlock 118 = .ok (.iload_n 3, 1) := by decide +kernel
theorem dX1_removeBlock_119 : decode cX1_removeBlock 119 = .ok (.iadd, 1) := by decide +kernel
theorem dX1_removeBlock_120 : decode cX1_removeBlock 120 = .ok (.putfield 30, 3) := by decide +kernel
theorem dX1_removeBlock_123 : decode cX1_removeBlock 123 = .ok (.iload_n 3, 1) := by decide +kernel
theorem dX1_removeBlock_124 : decode cX1_removeBlock 124 = .ok (.ireturn, 1) := by decide +kernel
theorem dX1_keptCount_0 : decode cX1_keptCount 0 = .ok (.aload_n 0, 1) := by decide +kernel
theorem dX1_keptCount_1 : decode cX1_keptCount 1 = .ok (.getfield 33, 3) := by decide +kernel
theorem dX1_keptCount_4 : decode cX1_keptCount 4 = .ok (.bipush 40, 2) := by decide +kernel
theorem dX1_keptCount_6 : decode cX1_keptCount 6 = .ok (.if_icmp .ge 10, 3) := by decide +kernel
theorem dX1_keptCount_9 : decode cX1_keptCount 9 = .ok (.aload_n 0, 1) := by decide +kernel
theorem dX1_keptCount_10 : decode cX1_keptCount 10 = .ok (.getfield 33, 3) := by decide +kernel
theorem dX1_keptCount_13 : decode cX1_keptCount 13 = .ok (.goto 5, 3) := by decide +kernel
theorem dX1_keptCount_16 : decode cX1_keptCount 16 = .ok (.bipush 40, 2) := by decide +kernel
theorem dX1_keptCount_18 : decode cX1_keptCount 18 = .ok (.ireturn, 1) := by decide +kernel
theorem dX1_keptFact_0 : decode cX1_keptFact 0 = .ok (.aload_n 0, 1) := by decide +kernel
theorem dX1_keptFact_1 : decode cX1_keptFact 1 = .ok (.getfield 48, 3) := by decide +kernel
theorem dX1_keptFact_4 : decode cX1_keptFact 4 = .ok (.iconst 3, 1) := by decide +kernel
theorem dX1_keptFact_5 : decode cX1_keptFact 5 = .ok (.iload_n 1, 1) := by decide +kernel
theorem dX1_keptFact_6 : decode cX1_keptFact 6 = .ok (.imul, 1) := by decide +kernel
theorem dX1_keptFact_7 : decode cX1_keptFact 7 = .ok (.iload_n 2, 1) := by decide +kernel
theorem dX1_keptFact_8 : decode cX1_keptFact 8 = .ok (.iadd, 1) := by decide +kernel
theorem dX1_keptFact_9 : decode cX1_keptFact 9 = .ok (.invokevirtual 61, 3) := by decide +kernel
theorem dX1_keptFact_12 : decode cX1_keptFact 12 = .ok (.ireturn, 1) := by decide +kernel
theorem dX2_init_0 : decode cX2_init 0 = .ok (.aload_n 0, 1) := by decide +kernel
theorem dX2_init_1 : decode cX2_init 1 = .ok (.invokespecial 1, 3) := by decide +kernel
theorem dX2_init_4 : decode cX2_init 4 = .ok (.aload_n 0, 1) := by decide +kernel
theorem dX2_init_5 : decode cX2_init 5 = .ok (.iload_n 1, 1) := by decide +kernel
theorem dX2_init_6 : decode cX2_init 6 = .ok (.ifCond .ge 7, 3) := by decide +kernel
theorem dX2_init_9 : decode cX2_init 9 = .ok (.iconst 0, 1) := by decide +kernel
theorem dX2_init_10 : decode cX2_init 10 = .ok (.goto 4, 3) := by decide +kernel
theorem dX2_init_13 : decode cX2_init 13 = .ok (.iload_n 1, 1) := by decide +kernel
theorem dX2_init_14 : decode cX2_init 14 = .ok (.newarray .int, 2) := by decide +kernel
theorem dX2_init_16 : decode cX2_init 16 = .ok (.putfield 7, 3) := by decide +kernel
theorem dX2_init_19 : decode cX2_init 19 = .ok (.return_, 1) := by decide +kernel
theorem dX2_at_0 : decode cX2_at 0 = .ok (.iload_n 1, 1) := by decide +kernel
theorem dX2_at_1 : decode cX2_at 1 = .ok (.ifCond .lt 21, 3) := by decide +kernel
theorem dX2_at_4 : decode cX2_at 4 = .ok (.iload_n 1, 1) := by decide +kernel
theorem dX2_at_5 : decode cX2_at 5 = .ok (.aload_n 0, 1) := by decide +kernel
theorem dX2_at_6 : decode cX2_at 6 = .ok (.getfield 7, 3) := by decide +kernel
theorem dX2_at_9 : decode cX2_at 9 = .ok (.arraylength, 1) := by decide +kernel
theorem dX2_at_10 : decode cX2_at 10 = .ok (.if_icmp .ge 12, 3) := by decide +kernel
theorem dX2_at_13 : decode cX2_at 13 = .ok (.aload_n 0, 1) := by decide +kernel
theorem dX2_at_14 : decode cX2_at 14 = .ok (.getfield 7, 3) := by decide +kernel
theorem dX2_at_17 : decode cX2_at 17 = .ok (.iload_n 1, 1) := by decide +kernel
theorem dX2_at_18 : decode cX2_at 18 = .ok (.iaload, 1) := by decide +kernel
theorem dX2_at_19 : decode cX2_at 19 = .ok (.goto 4, 3) := by decide +kernel
theorem dX2_at_22 : decode cX2_at 22 = .ok (.iconst 0, 1) := by decide +kernel
theorem dX2_at_23 : decode cX2_at 23 = .ok (.ireturn, 1) := by decide +kernel
theorem dX2_put_0 : decode cX2_put 0 = .ok (.iload_n 1, 1) := by decide +kernel
theorem dX2_put_1 : decode cX2_put 1 = .ok (.ifCond .lt 19, 3) := by decide +kernel
theorem dX2_put_4 : decode cX2_put 4 = .ok (.iload_n 1, 1) := by decide +kernel
theorem dX2_put_5 : decode cX2_put 5 = .ok (.aload_n 0, 1) := by decide +kernel
theorem dX2_put_6 : decode cX2_put 6 = .ok (.getfield 7, 3) := by decide +kernel
theorem dX2_put_9 : decode cX2_put 9 = .ok (.arraylength, 1) := by decide +kernel
theorem dX2_put_10 : decode cX2_put 10 = .ok (.if_icmp .ge 10, 3) := by decide +kernel
theorem dX2_put_13 : decode cX2_put 13 = .ok (.aload_n 0, 1) := by decide +kernel
theorem dX2_put_14 : decode cX2_put 14 = .ok (.getfield 7, 3) := by decide +kernel
theorem dX2_put_17 : decode cX2_put 17 = .ok (.iload_n 1, 1) := by decide +kernel
theorem dX2_put_18 : decode cX2_put 18 = .ok (.iload_n 2, 1) := by decide +kernel
theorem dX2_put_19 : decode cX2_put 19 = .ok (.iastore, 1) := by decide +kernel
theorem dX2_put_20 : decode cX2_put 20 = .ok (.return_, 1) := by decide +kernel
theorem dX2_fill_0 : decode cX2_fill 0 = .ok (.iconst 0, 1) := by decide +kernel
theorem dX2_fill_1 : decode cX2_fill 1 = .ok (.istore_n 2, 1) := by decide +kernel
theorem dX2_fill_2 : decode cX2_fill 2 = .ok (.iload_n 2, 1) := by decide +kernel
theorem dX2_fill_3 : decode cX2_fill 3 = .ok (.aload_n 0, 1) := by decide +kernel
theorem dX2_fill_4 : decode cX2_fill 4 = .ok (.getfield 7, 3) := by decide +kernel
theorem dX2_fill_7 : decode cX2_fill 7 = .ok (.arraylength, 1) := by decide +kernel
theorem dX2_fill_8 : decode cX2_fill 8 = .ok (.if_icmp .ge 16, 3) := by decide +kernel
theorem dX2_fill_11 : decode cX2_fill 11 = .ok (.aload_n 0, 1) := by decide +kernel
theorem dX2_fill_12 : decode cX2_fill 12 = .ok (.getfield 7, 3) := by decide +kernel
theorem dX2_fill_15 : decode cX2_fill 15 = .ok (.iload_n 2, 1) := by decide +kernel
theorem dX2_fill_16 : decode cX2_fill 16 = .ok (.iload_n 1, 1) := by decide +kernel
theorem dX2_fill_17 : decode cX2_fill 17 = .ok (.iastore, 1) := by decide +kernel
theorem dX2_fill_18 : decode cX2_fill 18 = .ok (.iinc 2 1, 3) := by decide +kernel
theorem dX2_fill_21 : decode cX2_fill 21 = .ok (.goto (-19), 3) := by decide +kernel
theorem dX2_fill_24 : decode cX2_fill 24 = .ok (.return_, 1) := by decide +kernel
theorem dX2_copyFrom_0 : decode cX2_copyFrom 0 = .ok (.iconst 0, 1) := by decide +kernel
theorem dX2_copyFrom_1 : decode cX2_copyFrom 1 = .ok (.istore_n 2, 1) := by decide +kernel
theorem dX2_copyFrom_2 : decode cX2_copyFrom 2 = .ok (.iload_n 2, 1) := by decide +kernel
theorem dX2_copyFrom_3 : decode cX2_copyFrom 3 = .ok (.aload_n 0, 1) := by decide +kernel
theorem dX2_copyFrom_4 : decode cX2_copyFrom 4 = .ok (.getfield 7, 3) := by decide +kernel
theorem dX2_copyFrom_7 : decode cX2_copyFrom 7 = .ok (.arraylength, 1) := by decide +kernel
theorem dX2_copyFrom_8 : decode cX2_copyFrom 8 = .ok (.if_icmp .ge 20, 3) := by decide +kernel
theorem dX2_copyFrom_11 : decode cX2_copyFrom 11 = .ok (.aload_n 0, 1) := by decide +kernel
theorem dX2_copyFrom_12 : decode cX2_copyFrom 12 = .ok (.getfield 7, 3) := by decide +kernel
theorem dX2_copyFrom_15 : decode cX2_copyFrom 15 = .ok (.iload_n 2, 1) := by decide +kernel
theorem dX2_copyFrom_16 : decode cX2_copyFrom 16 = .ok (.aload_n 1, 1) := by decide +kernel
theorem dX2_copyFrom_17 : decode cX2_copyFrom 17 = .ok (.iload_n 2, 1) := by decide +kernel
theorem dX2_copyFrom_18 : decode cX2_copyFrom 18 = .ok (.invokevirtual 13, 3) := by decide +kernel
theorem dX2_copyFrom_21 : decode cX2_copyFrom 21 = .ok (.iastore, 1) := by decide +kernel
theorem dX2_copyFrom_22 : decode cX2_copyFrom 22 = .ok (.iinc 2 1, 3) := by decide +kernel
theorem dX2_copyFrom_25 : decode cX2_copyFrom 25 = .ok (.goto (-23), 3) := by decide +kernel
theorem dX2_copyFrom_28 : decode cX2_copyFrom 28 = .ok (.return_, 1) := by decide +kernel
theorem dX2_sum_0 : decode cX2_sum 0 = .ok (.iconst 0, 1) := by decide +kernel
theorem dX2_sum_1 : decode cX2_sum 1 = .ok (.istore_n 1, 1) := by decide +kernel
theorem dX2_sum_2 : decode cX2_sum 2 = .ok (.iconst 0, 1) := by decide +kernel
theorem dX2_sum_3 : decode cX2_sum 3 = .ok (.istore_n 2, 1) := by decide +kernel
theorem dX2_sum_4 : decode cX2_sum 4 = .ok (.iload_n 2, 1) := by decide +kernel
theorem dX2_sum_5 : decode cX2_sum 5 = .ok (.aload_n 0, 1) := by decide +kernel
theorem dX2_sum_6 : decode cX2_sum 6 = .ok (.getfield 7, 3) := by decide +kernel
theorem dX2_sum_9 : decode cX2_sum 9 = .ok (.arraylength, 1) := by decide +kernel
theorem dX2_sum_10 : decode cX2_sum 10 = .ok (.if_icmp .ge 18, 3) := by decide +kernel
theorem dX2_sum_13 : decode cX2_sum 13 = .ok (.iload_n 1, 1) := by decide +kernel
theorem dX2_sum_14 : decode cX2_sum 14 = .ok (.aload_n 0, 1) := by decide +kernel
theorem dX2_sum_15 : decode cX2_sum 15 = .ok (.getfield 7, 3) := by decide +kernel
theorem dX2_sum_18 : decode cX2_sum 18 = .ok (.iload_n 2, 1) := by decide +kernel
theorem dX2_sum_19 : decode cX2_sum 19 = .ok (.iaload, 1) := by decide +kernel
theorem dX2_sum_20 : decode cX2_sum 20 = .ok (.iadd, 1) := by decide +kernel
theorem dX2_sum_21 : decode cX2_sum 21 = .ok (.istore_n 1, 1) := by decide +kernel
theorem dX2_sum_22 : decode cX2_sum 22 = .ok (.iinc 2 1, 3) := by decide +kernel
theorem dX2_sum_25 : decode cX2_sum 25 = .ok (.goto (-21), 3) := by decide +kernel
theorem dX2_sum_28 : decode cX2_sum 28 = .ok (.iload_n 1, 1) := by decide +kernel
theorem dX2_sum_29 : decode cX2_sum 29 = .ok (.ireturn, 1) := by decide +kernel
theorem dX3_init_0 : decode cX3_init 0 = .ok (.aload_n 0, 1) := by decide +kernel
theorem dX3_init_1 : decode cX3_init 1 = .ok (.invokespecial 3, 3) := by decide +kernel
theorem dX3_init_4 : decode cX3_init 4 = .ok (.aload_n 0, 1) := by decide +kernel
theorem dX3_init_5 : decode cX3_init 5 = .ok (.new 9, 3) := by decide +kernel
theorem dX3_init_8 : decode cX3_init 8 = .ok (.dup, 1) := by decide +kernel
theorem dX3_init_9 : decode cX3_init 9 = .ok (.bipush 60, 2) := by decide +kernel
theorem dX3_init_11 : decode cX3_init 11 = .ok (.invokespecial 11, 3) := by decide +kernel
theorem dX3_init_14 : decode cX3_init 14 = .ok (.putfield 14, 3) := by decide +kernel
theorem dX3_init_17 : decode cX3_init 17 = .ok (.aload_n 0, 1) := by decide +kernel
theorem dX3_init_18 : decode cX3_init 18 = .ok (.iconst 0, 1) := by decide +kernel
theorem dX3_init_19 : decode cX3_init 19 = .ok (.putfield 20, 3) := by decide +kernel
theorem dX3_init_22 : decode cX3_init 22 = .ok (.aload_n 0, 1) := by decide +kernel
theorem dX3_init_23 : decode cX3_init 23 = .ok (.iconst 0, 1) := by decide +kernel
theorem dX3_init_24 : decode cX3_init 24 = .ok (.putfield 24, 3) := by decide +kernel
theorem dX3_init_27 : decode cX3_init 27 = .ok (.aload_n 0, 1) := by decide +kernel
theorem dX3_init_28 : decode cX3_init 28 = .ok (.iconst 0, 1) := by decide +kernel
theorem dX3_init_29 : decode cX3_init 29 = .ok (.putfield 27, 3) := by decide +kernel
theorem dX3_init_32 : decode cX3_init 32 = .ok (.return_, 1) := by decide +kernel
theorem dX3_add_0 : decode cX3_add 0 = .ok (.aload_n 0, 1) := by decide +kernel
theorem dX3_add_1 : decode cX3_add 1 = .ok (.getfield 14, 3) := by decide +kernel
theorem dX3_add_4 : decode cX3_add 4 = .ok (.aload_n 0, 1) := by decide +kernel
theorem dX3_add_5 : decode cX3_add 5 = .ok (.getfield 20, 3) := by decide +kernel
theorem dX3_add_8 : decode cX3_add 8 = .ok (.iload_n 1, 1) := by decide +kernel
theorem dX3_add_9 : decode cX3_add 9 = .ok (.invokevirtual 30, 3) := by decide +kernel
theorem dX3_add_12 : decode cX3_add 12 = .ok (.aload_n 0, 1) := by decide +kernel
theorem dX3_add_13 : decode cX3_add 13 = .ok (.dup, 1) := by decide +kernel
theorem dX3_add_14 : decode cX3_add 14 = .ok (.getfield 20, 3) := by decide +kernel
theorem dX3_add_17 : decode cX3_add 17 = .ok (.iconst 1, 1) := by decide +kernel
theorem dX3_add_18 : decode cX3_add 18 = .ok (.iadd, 1) := by decide +kernel
theorem dX3_add_19 : decode cX3_add 19 = .ok (.putfield 20, 3) := by decide +kernel
theorem dX3_add_22 : decode cX3_add 22 = .ok (.return_, 1) := by decide +kernel
theorem dX3_read_0 : decode cX3_read 0 = .ok (.aload_n 0, 1) := by decide +kernel
theorem dX3_read_1 : decode cX3_read 1 = .ok (.iconst 0, 1) := by decide +kernel
theorem dX3_read_2 : decode cX3_read 2 = .ok (.putfield 24, 3) := by decide +kernel
theorem dX3_read_5 : decode cX3_read 5 = .ok (.aload_n 0, 1) := by decide +kernel
theorem dX3_read_6 : decode cX3_read 6 = .ok (.iconst 1, 1) := by decide +kernel
theorem dX3_read_7 : decode cX3_read 7 = .ok (.putfield 27, 3) := by decide +kernel
theorem dX3_read_10 : decode cX3_read 10 = .ok (.iconst 0, 1) := by decide +kernel
theorem dX3_read_11 : decode cX3_read 11 = .ok (.istore_n 1, 1) := by decide +kernel
theorem dX3_read_12 : decode cX3_read 12 = .ok (.iconst 0, 1) := by decide +kernel
theorem dX3_read_13 : decode cX3_read 13 = .ok (.istore_n 2, 1) := by decide +kernel
theorem dX3_read_14 : decode cX3_read 14 = .ok (.iload_n 2, 1) := by decide +kernel
theorem dX3_read_15 : decode cX3_read 15 = .ok (.aload_n 0, 1) := by decide +kernel
theorem dX3_read_16 : decode cX3_read 16 = .ok (.getfield 20, 3) := by decide +kernel
theorem dX3_read_19 : decode cX3_read 19 = .ok (.if_icmp .ge 95, 3) := by decide +kernel
theorem dX3_read_22 : decode cX3_read 22 = .ok (.iload_n 2, 1) := by decide +kernel
theorem dX3_read_23 : decode cX3_read 23 = .ok (.bipush 60, 2) := by decide +kernel
theorem dX3_read_25 : decode cX3_read 25 = .ok (.if_icmp .ge 89, 3) := by decide +kernel
theorem dX3_read_28 : decode cX3_read 28 = .ok (.aload_n 0, 1) := by decide +kernel
theorem dX3_read_29 : decode cX3_read 29 = .ok (.getfield 14, 3) := by decide +kernel
theorem dX3_read_32 : decode cX3_read 32 = .ok (.iload_n 2, 1) := by decide +kernel
theorem dX3_read_33 : decode cX3_read 33 = .ok (.invokevirtual 34, 3) := by decide +kernel
theorem dX3_read_36 : decode cX3_read 36 = .ok (.invokestatic 38, 3) := by decide +kernel
theorem dX3_read_39 : decode cX3_read 39 = .ok (.ifCond .eq 17, 3) := by decide +kernel
theorem dX3_read_42 : decode cX3_read 42 = .ok (.iload_n 1, 1) := by decide +kernel
theorem dX3_read_43 : decode cX3_read 43 = .ok (.aload_n 0, 1) := by decide +kernel
theorem dX3_read_44 : decode cX3_read 44 = .ok (.invokevirtual 42, 3) := by decide +kernel
theorem dX3_read_47 : decode cX3_read 47 = .ok (.if_icmp .ge 9, 3) := by decide +kernel
theorem dX3_read_50 : decode cX3_read 50 = .ok (.iinc 1 1, 3) := by decide +kernel
theorem dX3_read_53 : decode cX3_read 53 = .ok (.goto 55, 3) := by decide +kernel
theorem dX3_read_56 : decode cX3_read 56 = .ok (.aload_n 0, 1) := by decide +kernel
theorem dX3_read_57 : decode cX3_read 57 = .ok (.getfield 14, 3) := by decide +kernel
theorem dX3_read_60 : decode cX3_read 60 = .ok (.iload_n 2, 1) := by decide +kernel
theorem dX3_read_61 : decode cX3_read 61 = .ok (.invokevirtual 34, 3) := by decide +kernel
theorem dX3_read_64 : decode cX3_read 64 = .ok (.bipush 47, 2) := by decide +kernel
theorem dX3_read_66 : decode cX3_read 66 = .ok (.if_icmp .ne 40, 3) := by decide +kernel
theorem dX3_read_69 : decode cX3_read 69 = .ok (.iload_n 1, 1) := by decide +kernel
theorem dX3_read_70 : decode cX3_read 70 = .ok (.aload_n 0, 1) := by decide +kernel
theorem dX3_read_71 : decode cX3_read 71 = .ok (.invokevirtual 46, 3) := by decide +kernel
theorem dX3_read_74 : decode cX3_read 74 = .ok (.if_icmp .lt 32, 3) := by decide +kernel
theorem dX3_read_77 : decode cX3_read 77 = .ok (.aload_n 0, 1) := by decide +kernel
theorem dX3_read_78 : decode cX3_read 78 = .ok (.getfield 27, 3) := by decide +kernel
theorem dX3_read_81 : decode cX3_read 81 = .ok (.bipush 7, 2) := by decide +kernel
theorem dX3_read_83 : decode cX3_read 83 = .ok (.if_icmp .ge 23, 3) := by decide +kernel
theorem dX3_read_86 : decode cX3_read 86 = .ok (.aload_n 0, 1) := by decide +kernel
theorem dX3_read_87 : decode cX3_read 87 = .ok (.iload_n 1, 1) := by decide +kernel
theorem dX3_read_88 : decode cX3_read 88 = .ok (.putfield 24, 3) := by decide +kernel
theorem dX3_read_91 : decode cX3_read 91 = .ok (.aload_n 0, 1) := by decide +kernel
theorem dX3_read_92 : decode cX3_read 92 = .ok (.dup, 1) := by decide +kernel
theorem dX3_read_93 : decode cX3_read 93 = .ok (.getfield 27, 3) := by decide +kernel
theorem dX3_read_96 : decode cX3_read 96 = .ok (.iconst 1, 1) := by decide +kernel
theorem dX3_read_97 : decode cX3_read 97 = .ok (.iadd, 1) := by decide +kernel
theorem dX3_read_98 : decode cX3_read 98 = .ok (.putfield 27, 3) := by decide +kernel
theorem dX3_read_101 : decode cX3_read 101 = .ok (.iconst 0, 1) := by decide +kernel
theorem dX3_read_102 : decode cX3_read 102 = .ok (.istore_n 1, 1) := by decide +kernel
theorem dX3_read_103 : decode cX3_read 103 = .ok (.goto 5, 3) := by decide +kernel
theorem dX3_read_106 : decode cX3_read 106 = .ok (.iload_n 2, 1) := by decide +kernel
theorem dX3_read_107 : decode cX3_read 107 = .ok (.ireturn, 1) := by decide +kernel
theorem dX3_read_108 : decode cX3_read 108 = .ok (.iinc 2 1, 3) := by decide +kernel
theorem dX3_read_111 : decode cX3_read 111 = .ok (.goto (-97), 3) := by decide +kernel
theorem dX3_read_114 : decode cX3_read 114 = .ok (.aload_n 0, 1) := by decide +kernel
theorem dX3_read_115 : decode cX3_read 115 = .ok (.getfield 27, 3) := by decide +kernel
theorem dX3_read_118 : decode cX3_read 118 = .ok (.iconst 2, 1) := by decide +kernel
theorem dX3_read_119 : decode cX3_read 119 = .ok (.if_icmp .lt 15, 3) := by decide +kernel
theorem dX3_read_122 : decode cX3_read 122 = .ok (.iload_n 1, 1) := by decide +kernel
theorem dX3_read_123 : decode cX3_read 123 = .ok (.aload_n 0, 1) := by decide +kernel
theorem dX3_read_124 : decode cX3_read 124 = .ok (.getfield 24, 3) := by decide +kernel
theorem dX3_read_127 : decode cX3_read 127 = .ok (.if_icmp .ne 7, 3) := by decide +kernel
theorem dX3_read_130 : decode cX3_read 130 = .ok (.iconst (-1), 1) := by decide +kernel
theorem dX3_read_131 : decode cX3_read 131 = .ok (.goto 7, 3) := by decide +kernel
theorem dX3_read_134 : decode cX3_read 134 = .ok (.aload_n 0, 1) := by decide +kernel
theorem dX3_read_135 : decode cX3_read 135 = .ok (.getfield 20, 3) := by decide +kernel
theorem dX3_read_138 : decode cX3_read 138 = .ok (.ireturn, 1) := by decide +kernel
theorem dX3_mostDigits_0 : decode cX3_mostDigits 0 = .ok (.aload_n 0, 1) := by decide +kernel
theorem dX3_mostDigits_1 : decode cX3_mostDigits 1 = .ok (.getfield 27, 3) := by decide +kernel
theorem dX3_mostDigits_4 : decode cX3_mostDigits 4 = .ok (.iconst 1, 1) := by decide +kernel
theorem dX3_mostDigits_5 : decode cX3_mostDigits 5 = .ok (.if_icmp .ne 8, 3) := by decide +kernel
theorem dX3_mostDigits_8 : decode cX3_mostDigits 8 = .ok (.bipush 7, 2) := by decide +kernel
theorem dX3_mostDigits_10 : decode cX3_mostDigits 10 = .ok (.goto 7, 3) := by decide +kernel
theorem dX3_mostDigits_13 : decode cX3_mostDigits 13 = .ok (.aload_n 0, 1) := by decide +kernel
theorem dX3_mostDigits_14 : decode cX3_mostDigits 14 = .ok (.getfield 24, 3) := by decide +kernel
theorem dX3_mostDigits_17 : decode cX3_mostDigits 17 = .ok (.ireturn, 1) := by decide +kernel
theorem dX3_leastDigits_0 : decode cX3_leastDigits 0 = .ok (.aload_n 0, 1) := by decide +kernel
theorem dX3_leastDigits_1 : decode cX3_leastDigits 1 = .ok (.getfield 27, 3) := by decide +kernel
theorem dX3_leastDigits_4 : decode cX3_leastDigits 4 = .ok (.iconst 1, 1) := by decide +kernel
theorem dX3_leastDigits_5 : decode cX3_leastDigits 5 = .ok (.if_icmp .ne 7, 3) := by decide +kernel
theorem dX3_leastDigits_8 : decode cX3_leastDigits 8 = .ok (.iconst 2, 1) := by decide +kernel
theorem dX3_leastDigits_9 : decode cX3_leastDigits 9 = .ok (.goto 7, 3) := by decide +kernel
theorem dX3_leastDigits_12 : decode cX3_leastDigits 12 = .ok (.aload_n 0, 1) := by decide +kernel
theorem dX3_leastDigits_13 : decode cX3_leastDigits 13 = .ok (.getfield 24, 3) := by decide +kernel
theorem dX3_leastDigits_16 : decode cX3_leastDigits 16 = .ok (.ireturn, 1) := by decide +kernel
theorem dX3_isDigit_0 : decode cX3_isDigit 0 = .ok (.iload_n 0, 1) := by decide +kernel
theorem dX3_isDigit_1 : decode cX3_isDigit 1 = .ok (.bipush 48, 2) := by decide +kernel
theorem dX3_isDigit_3 : decode cX3_isDigit 3 = .ok (.if_icmp .lt 13, 3) := by decide +kernel
theorem dX3_isDigit_6 : decode cX3_isDigit 6 = .ok (.iload_n 0, 1) := by decide +kernel
theorem dX3_isDigit_7 : decode cX3_isDigit 7 = .ok (.bipush 57, 2) := by decide +kernel
theorem dX3_isDigit_9 : decode cX3_isDigit 9 = .ok (.if_icmp .gt 7, 3) := by decide +kernel
theorem dX3_isDigit_12 : decode cX3_isDigit 12 = .ok (.iconst 1, 1) := by decide +kernel
theorem dX3_isDigit_13 : decode cX3_isDigit 13 = .ok (.goto 4, 3) := by decide +kernel
theorem dX3_isDigit_16 : decode cX3_isDigit 16 = .ok (.iconst 0, 1) := by decide +kernel
theorem dX3_isDigit_17 : decode cX3_isDigit 17 = .ok (.ireturn, 1) := by decide +kernel
theorem dX3_digitAt_0 : decode cX3_digitAt 0 = .ok (.aload_n 0, 1) := by decide +kernel
theorem dX3_digitAt_1 : decode cX3_digitAt 1 = .ok (.getfield 14, 3) := by decide +kernel
theorem dX3_digitAt_4 : decode cX3_digitAt 4 = .ok (.iload_n 1, 1) := by decide +kernel
theorem dX3_digitAt_5 : decode cX3_digitAt 5 = .ok (.aload_n 0, 1) := by decide +kernel
theorem dX3_digitAt_6 : decode cX3_digitAt 6 = .ok (.getfield 24, 3) := by decide +kernel
theorem dX3_digitAt_9 : decode cX3_digitAt 9 = .ok (.iconst 1, 1) := by decide +kernel
theorem dX3_digitAt_10 : decode cX3_digitAt 10 = .ok (.iadd, 1) := by decide +kernel
theorem dX3_digitAt_11 : decode cX3_digitAt 11 = .ok (.imul, 1) := by decide +kernel
theorem dX3_digitAt_12 : decode cX3_digitAt 12 = .ok (.iload_n 2, 1) := by decide +kernel
theorem dX3_digitAt_13 : decode cX3_digitAt 13 = .ok (.iadd, 1) := by decide +kernel
theorem dX3_digitAt_14 : decode cX3_digitAt 14 = .ok (.invokevirtual 34, 3) := by decide +kernel
theorem dX3_digitAt_17 : decode cX3_digitAt 17 = .ok (.bipush 48, 2) := by decide +kernel
theorem dX3_digitAt_19 : decode cX3_digitAt 19 = .ok (.isub, 1) := by decide +kernel
theorem dX3_digitAt_20 : decode cX3_digitAt 20 = .ok (.ireturn, 1) := by decide +kernel
theorem dX4_init_0 : decode cX4_init 0 = .ok (.aload_n 0, 1) := by decide +kernel
theorem dX4_init_1 : decode cX4_init 1 = .ok (.invokespecial 5, 3) := by decide +kernel
theorem dX4_init_4 : decode cX4_init 4 = .ok (.aload_n 0, 1) := by decide +kernel
theorem dX4_init_5 : decode cX4_init 5 = .ok (.new 11, 3) := by decide +kernel
theorem dX4_init_8 : decode cX4_init 8 = .ok (.dup, 1) := by decide +kernel
theorem dX4_init_9 : decode cX4_init 9 = .ok (.sipush 240, 3) := by decide +kernel
theorem dX4_init_12 : decode cX4_init 12 = .ok (.invokespecial 13, 3) := by decide +kernel
theorem dX4_init_15 : decode cX4_init 15 = .ok (.putfield 16, 3) := by decide +kernel
theorem dX4_init_18 : decode cX4_init 18 = .ok (.aload_n 0, 1) := by decide +kernel
theorem dX4_init_19 : decode cX4_init 19 = .ok (.new 11, 3) := by decide +kernel
theorem dX4_init_22 : decode cX4_init 22 = .ok (.dup, 1) := by decide +kernel
theorem dX4_init_23 : decode cX4_init 23 = .ok (.bipush 49, 2) := by decide +kernel
theorem dX4_init_25 : decode cX4_init 25 = .ok (.invokespecial 13, 3) := by decide +kernel
theorem dX4_init_28 : decode cX4_init 28 = .ok (.putfield 20, 3) := by decide +kernel
theorem dX4_init_31 : decode cX4_init 31 = .ok (.aload_n 0, 1) := by decide +kernel
theorem dX4_init_32 : decode cX4_init 32 = .ok (.iconst 0, 1) := by decide +kernel
theorem dX4_init_33 : decode cX4_init 33 = .ok (.putfield 23, 3) := by decide +kernel
theorem dX4_init_36 : decode cX4_init 36 = .ok (.aload_n 0, 1) := by decide +kernel
theorem dX4_init_37 : decode cX4_init 37 = .ok (.new 11, 3) := by decide +kernel
theorem dX4_init_40 : decode cX4_init 40 = .ok (.dup, 1) := by decide +kernel
theorem dX4_init_41 : decode cX4_init 41 = .ok (.sipush 240, 3) := by decide +kernel
theorem dX4_init_44 : decode cX4_init 44 = .ok (.invokespecial 13, 3) := by decide +kernel
theorem dX4_init_47 : decode cX4_init 47 = .ok (.putfield 27, 3) := by decide +kernel
theorem dX4_init_50 : decode cX4_init 50 = .ok (.aload_n 0, 1) := by decide +kernel
theorem dX4_init_51 : decode cX4_init 51 = .ok (.new 11, 3) := by decide +kernel
theorem dX4_init_54 : decode cX4_init 54 = .ok (.dup, 1) := by decide +kernel
theorem dX4_init_55 : decode cX4_init 55 = .ok (.sipush 240, 3) := by decide +kernel
theorem dX4_init_58 : decode cX4_init 58 = .ok (.invokespecial 13, 3) := by decide +kernel
theorem dX4_init_61 : decode cX4_init 61 = .ok (.putfield 30, 3) := by decide +kernel
theorem dX4_init_64 : decode cX4_init 64 = .ok (.return_, 1) := by decide +kernel
theorem dX4_search_0 : decode cX4_search 0 = .ok (.aload_n 0, 1) := by decide +kernel
theorem dX4_search_1 : decode cX4_search 1 = .ok (.aload_n 2, 1) := by decide +kernel
theorem dX4_search_2 : decode cX4_search 2 = .ok (.iload_n 3, 1) := by decide +kernel
theorem dX4_search_3 : decode cX4_search 3 = .ok (.invokevirtual 33, 3) := by decide +kernel
theorem dX4_search_6 : decode cX4_search 6 = .ok (.aload_n 0, 1) := by decide +kernel
theorem dX4_search_7 : decode cX4_search 7 = .ok (.getfield 27, 3) := by decide +kernel
theorem dX4_search_10 : decode cX4_search 10 = .ok (.iconst (-1), 1) := by decide +kernel
theorem dX4_search_11 : decode cX4_search 11 = .ok (.invokevirtual 37, 3) := by decide +kernel
theorem dX4_search_14 : decode cX4_search 14 = .ok (.aload_n 0, 1) := by decide +kernel
theorem dX4_search_15 : decode cX4_search 15 = .ok (.getfield 27, 3) := by decide +kernel
theorem dX4_search_18 : decode cX4_search 18 = .ok (.bipush 112, 2) := by decide +kernel
theorem dX4_search_20 : decode cX4_search 20 = .ok (.iconst 4, 1) := by decide +kernel
theorem dX4_search_21 : decode cX4_search 21 = .ok (.invokevirtual 40, 3) := by decide +kernel
theorem dX4_search_24 : decode cX4_search 24 = .ok (.aload_n 0, 1) := by decide +kernel
theorem dX4_search_25 : decode cX4_search 25 = .ok (.getfield 30, 3) := by decide +kernel
theorem dX4_search_28 : decode cX4_search 28 = .ok (.iconst 0, 1) := by decide +kernel
theorem dX4_search_29 : decode cX4_search 29 = .ok (.bipush 112, 2) := by decide +kernel
theorem dX4_search_31 : decode cX4_search 31 = .ok (.invokevirtual 40, 3) := by decide +kernel
theorem dX4_search_34 : decode cX4_search 34 = .ok (.iconst 1, 1) := by decide +kernel
theorem dX4_search_35 : decode cX4_search 35 = .ok (.istore 4, 2) := by decide +kernel
theorem dX4_search_37 : decode cX4_search 37 = .ok (.iconst 0, 1) := by decide +kernel
theorem dX4_search_38 : decode cX4_search 38 = .ok (.istore 5, 2) := by decide +kernel
theorem dX4_search_40 : decode cX4_search 40 = .ok (.iload 5, 2) := by decide +kernel
theorem dX4_search_42 : decode cX4_search 42 = .ok (.iload 4, 2) := by decide +kernel
theorem dX4_search_44 : decode cX4_search 44 = .ok (.if_icmp .ge 124, 3) := by decide +kernel
theorem dX4_search_47 : decode cX4_search 47 = .ok (.iload 5, 2) := by decide +kernel
theorem dX4_search_49 : decode cX4_search 49 = .ok (.sipush 240, 3) := by decide +kernel
theorem dX4_search_52 : decode cX4_search 52 = .ok (.if_icmp .ge 116, 3) := by decide +kernel
theorem dX4_search_55 : decode cX4_search 55 = .ok (.iconst 0, 1) := by decide +kernel
theorem dX4_search_56 : decode cX4_search 56 = .ok (.istore 6, 2) := by decide +kernel
theorem dX4_search_58 : decode cX4_search 58 = .ok (.iload 6, 2) := by decide +kernel
theorem dX4_search_60 : decode cX4_search 60 = .ok (.iconst 4, 1) := by decide +kernel
theorem dX4_search_61 : decode cX4_search 61 = .ok (.if_icmp .ge 101, 3) := by decide +kernel
theorem dX4_search_64 : decode cX4_search 64 = .ok (.aload_n 0, 1) := by decide +kernel
theorem dX4_search_65 : decode cX4_search 65 = .ok (.getfield 30, 3) := by decide +kernel
theorem dX4_search_68 : decode cX4_search 68 = .ok (.iload 5, 2) := by decide +kernel
theorem dX4_search_70 : decode cX4_search 70 = .ok (.invokevirtual 44, 3) := by decide +kernel
theorem dX4_search_73 : decode cX4_search 73 = .ok (.iload 6, 2) := by decide +kernel
theorem dX4_search_75 : decode cX4_search 75 = .ok (.invokestatic 48, 3) := by decide +kernel
theorem dX4_search_78 : decode cX4_search 78 = .ok (.iadd, 1) := by decide +kernel
theorem dX4_search_79 : decode cX4_search 79 = .ok (.istore 7, 2) := by decide +kernel
theorem dX4_search_81 : decode cX4_search 81 = .ok (.aload_n 0, 1) := by decide +kernel
theorem dX4_search_82 : decode cX4_search 82 = .ok (.getfield 27, 3) := by decide +kernel
theorem dX4_search_85 : decode cX4_search 85 = .ok (.iload 7, 2) := by decide +kernel
theorem dX4_search_87 : decode cX4_search 87 = .ok (.invokevirtual 44, 3) := by decide +kernel
theorem dX4_search_90 : decode cX4_search 90 = .ok (.iconst (-1), 1) := by decide +kernel
theorem dX4_search_91 : decode cX4_search 91 = .ok (.if_icmp .ne 65, 3) := by decide +kernel
theorem dX4_search_94 : decode cX4_search 94 = .ok (.aload_n 0, 1) := by decide +kernel
theorem dX4_search_95 : decode cX4_search 95 = .ok (.aload_n 1, 1) := by decide +kernel
theorem dX4_search_96 : decode cX4_search 96 = .ok (.aload_n 2, 1) := by decide +kernel
theorem dX4_search_97 : decode cX4_search 97 = .ok (.iload_n 3, 1) := by decide +kernel
theorem dX4_search_98 : decode cX4_search 98 = .ok (.iload 7, 2) := by decide +kernel
theorem dX4_search_100 : decode cX4_search 100 = .ok (.invokevirtual 51, 3) := by decide +kernel
theorem dX4_search_103 : decode cX4_search 103 = .ok (.ifCond .eq 53, 3) := by decide +kernel
theorem dX4_search_106 : decode cX4_search 106 = .ok (.aload_n 0, 1) := by decide +kernel
theorem dX4_search_107 : decode cX4_search 107 = .ok (.getfield 27, 3) := by decide +kernel
theorem dX4_search_110 : decode cX4_search 110 = .ok (.iload 7, 2) := by decide +kernel
theorem dX4_search_112 : decode cX4_search 112 = .ok (.iload 6, 2) := by decide +kernel
theorem dX4_search_114 : decode cX4_search 114 = .ok (.invokevirtual 40, 3) := by decide +kernel
theorem dX4_search_117 : decode cX4_search 117 = .ok (.aload_n 1, 1) := by decide +kernel
theorem dX4_search_118 : decode cX4_search 118 = .ok (.iload_n 3, 1) := by decide +kernel
theorem dX4_search_119 : decode cX4_search 119 = .ok (.invokevirtual 55, 3) := by decide +kernel
theorem dX4_search_122 : decode cX4_search 122 = .ok (.iload 7, 2) := by decide +kernel
theorem dX4_search_124 : decode cX4_search 124 = .ok (.invokestatic 60, 3) := by decide +kernel
theorem dX4_search_127 : decode cX4_search 127 = .ok (.iadd, 1) := by decide +kernel
theorem dX4_search_128 : decode cX4_search 128 = .ok (.aload_n 1, 1) := by decide +kernel
theorem dX4_search_129 : decode cX4_search 129 = .ok (.getfield 63, 3) := by decide +kernel
theorem dX4_search_132 : decode cX4_search 132 = .ok (.if_icmp .lt 10, 3) := by decide +kernel
theorem dX4_search_135 : decode cX4_search 135 = .ok (.aload_n 0, 1) := by decide +kernel
theorem dX4_search_136 : decode cX4_search 136 = .ok (.iload 7, 2) := by decide +kernel
theorem dX4_search_138 : decode cX4_search 138 = .ok (.invokevirtual 66, 3) := by decide +kernel
theorem dX4_search_141 : decode cX4_search 141 = .ok (.ireturn, 1) := by decide +kernel
theorem dX4_search_142 : decode cX4_search 142 = .ok (.aload_n 0, 1) := by decide +kernel
theorem dX4_search_143 : decode cX4_search 143 = .ok (.getfield 30, 3) := by decide +kernel
theorem dX4_search_146 : decode cX4_search 146 = .ok (.iload 4, 2) := by decide +kernel
theorem dX4_search_148 : decode cX4_search 148 = .ok (.iload 7, 2) := by decide +kernel
theorem dX4_search_150 : decode cX4_search 150 = .ok (.invokevirtual 40, 3) := by decide +kernel
theorem dX4_search_153 : decode cX4_search 153 = .ok (.iinc 4 1, 3) := by decide +kernel
theorem dX4_search_156 : decode cX4_search 156 = .ok (.iinc 6 1, 3) := by decide +kernel
theorem dX4_search_159 : decode cX4_search 159 = .ok (.goto (-101), 3) := by decide +kernel
theorem dX4_search_162 : decode cX4_search 162 = .ok (.iinc 5 1, 3) := by decide +kernel
theorem dX4_search_165 : decode cX4_search 165 = .ok (.goto (-125), 3) := by decide +kernel
theorem dX4_search_168 : decode cX4_search 168 = .ok (.iconst (-1), 1) := by decide +kernel
theorem dX4_search_169 : decode cX4_search 169 = .ok (.ireturn, 1) := by decide +kernel
theorem dX4_gatherCells_0 : decode cX4_gatherCells 0 = .ok (.aload_n 0, 1) := by decide +kernel
theorem dX4_gatherCells_1 : decode cX4_gatherCells 1 = .ok (.iconst 0, 1) := by decide +kernel
theorem dX4_gatherCells_2 : decode cX4_gatherCells 2 = .ok (.putfield 23, 3) := by decide +kernel
theorem dX4_gatherCells_5 : decode cX4_gatherCells 5 = .ok (.iconst 0, 1) := by decide +kernel
theorem dX4_gatherCells_6 : decode cX4_gatherCells 6 = .ok (.istore_n 3, 1) := by decide +kernel
theorem dX4_gatherCells_7 : decode cX4_gatherCells 7 = .ok (.iload_n 3, 1) := by decide +kernel
theorem dX4_gatherCells_8 : decode cX4_gatherCells 8 = .ok (.bipush 49, 2) := by decide +kernel
theorem dX4_gatherCells_10 : decode cX4_gatherCells 10 = .ok (.if_icmp .ge 40, 3) := by decide +kernel
theorem dX4_gatherCells_13 : decode cX4_gatherCells 13 = .ok (.aload_n 1, 1) := by decide +kernel
theorem dX4_gatherCells_14 : decode cX4_gatherCells 14 = .ok (.iload_n 3, 1) := by decide +kernel
theorem dX4_gatherCells_15 : decode cX4_gatherCells 15 = .ok (.invokevirtual 69, 3) := by decide +kernel
theorem dX4_gatherCells_18 : decode cX4_gatherCells 18 = .ok (.iload_n 2, 1) := by decide +kernel
theorem dX4_gatherCells_19 : decode cX4_gatherCells 19 = .ok (.if_icmp .ne 25, 3) := by decide +kernel
theorem dX4_gatherCells_22 : decode cX4_gatherCells 22 = .ok (.aload_n 0, 1) := by decide +kernel
theorem dX4_gatherCells_23 : decode cX4_gatherCells 23 = .ok (.getfield 20, 3) := by decide +kernel
theorem dX4_gatherCells_26 : decode cX4_gatherCells 26 = .ok (.aload_n 0, 1) := by decide +kernel
theorem dX4_gatherCells_27 : decode cX4_gatherCells 27 = .ok (.getfield 23, 3) := by decide +kernel
theorem dX4_gatherCells_30 : decode cX4_gatherCells 30 = .ok (.iload_n 3, 1) := by decide +kernel
theorem dX4_gatherCells_31 : decode cX4_gatherCells 31 = .ok (.invokevirtual 40, 3) := by decide +kernel
theorem dX4_gatherCells_34 : decode cX4_gatherCells 34 = .ok (.aload_n 0, 1) := by decide +kernel
theorem dX4_gatherCells_35 : decode cX4_gatherCells 35 = .ok (.dup, 1) := by decide +kernel
theorem dX4_gatherCells_36 : decode cX4_gatherCells 36 = .ok (.getfield 23, 3) := by decide +kernel
theorem dX4_gatherCells_39 : decode cX4_gatherCells 39 = .ok (.iconst 1, 1) := by decide +kernel
theorem dX4_gatherCells_40 : decode cX4_gatherCells 40 = .ok (.iadd, 1) := by decide +kernel
theorem dX4_gatherCells_41 : decode cX4_gatherCells 41 = .ok (.putfield 23, 3) := by decide +kernel
theorem dX4_gatherCells_44 : decode cX4_gatherCells 44 = .ok (.iinc 3 1, 3) := by decide +kernel
theorem dX4_gatherCells_47 : decode cX4_gatherCells 47 = .ok (.goto (-40), 3) := by decide +kernel
theorem dX4_gatherCells_50 : decode cX4_gatherCells 50 = .ok (.return_, 1) := by decide +kernel
theorem dX4_canLie_0 : decode cX4_canLie 0 = .ok (.iload 4, 2) := by decide +kernel
theorem dX4_canLie_2 : decode cX4_canLie 2 = .ok (.invokestatic 60, 3) := by decide +kernel
theorem dX4_canLie_5 : decode cX4_canLie 5 = .ok (.istore 5, 2) := by decide +kernel
theorem dX4_canLie_7 : decode cX4_canLie 7 = .ok (.iload 4, 2) := by decide +kernel
theorem dX4_canLie_9 : decode cX4_canLie 9 = .ok (.invokestatic 74, 3) := by decide +kernel
theorem dX4_canLie_12 : decode cX4_canLie 12 = .ok (.istore 6, 2) := by decide +kernel
theorem dX4_canLie_14 : decode cX4_canLie 14 = .ok (.iconst 0, 1) := by decide +kernel
theorem dX4_canLie_15 : decode cX4_canLie 15 = .ok (.istore 7, 2) := by decide +kernel
theorem dX4_canLie_17 : decode cX4_canLie 17 = .ok (.iload 7, 2) := by decide +kernel
theorem dX4_canLie_19 : decode cX4_canLie 19 = .ok (.aload_n 0, 1) := by decide +kernel
theorem dX4_canLie_20 : decode cX4_canLie 20 = .ok (.getfield 23, 3) := by decide +kernel
theorem dX4_canLie_23 : decode cX4_canLie 23 = .ok (.if_icmp .ge 108, 3) := by decide +kernel
theorem dX4_canLie_26 : decode cX4_canLie 26 = .ok (.aload_n 1, 1) := by decide +kernel
theorem dX4_canLie_27 : decode cX4_canLie 27 = .ok (.aload_n 0, 1) := by decide +kernel
theorem dX4_canLie_28 : decode cX4_canLie 28 = .ok (.getfield 20, 3) := by decide +kernel
theorem dX4_canLie_31 : decode cX4_canLie 31 = .ok (.iload 7, 2) := by decide +kernel
theorem dX4_canLie_33 : decode cX4_canLie 33 = .ok (.invokevirtual 44, 3) := by decide +kernel
theorem dX4_canLie_36 : decode cX4_canLie 36 = .ok (.invokevirtual 55, 3) := by decide +kernel
theorem dX4_canLie_39 : decode cX4_canLie 39 = .ok (.iload 5, 2) := by decide +kernel
theorem dX4_canLie_41 : decode cX4_canLie 41 = .ok (.iadd, 1) := by decide +kernel
theorem dX4_canLie_42 : decode cX4_canLie 42 = .ok (.istore 8, 2) := by decide +kernel
theorem dX4_canLie_44 : decode cX4_canLie 44 = .ok (.aload_n 1, 1) := by decide +kernel
theorem dX4_canLie_45 : decode cX4_canLie 45 = .ok (.aload_n 0, 1) := by decide +kernel
theorem dX4_canLie_46 : decode cX4_canLie 46 = .ok (.getfield 20, 3) := by decide +kernel
theorem dX4_canLie_49 : decode cX4_canLie 49 = .ok (.iload 7, 2) := by decide +kernel
theorem dX4_canLie_51 : decode cX4_canLie 51 = .ok (.invokevirtual 44, 3) := by decide +kernel
theorem dX4_canLie_54 : decode cX4_canLie 54 = .ok (.invokevirtual 77, 3) := by decide +kernel
theorem dX4_canLie_57 : decode cX4_canLie 57 = .ok (.iload 6, 2) := by decide +kernel
theorem dX4_canLie_59 : decode cX4_canLie 59 = .ok (.iadd, 1) := by decide +kernel
theorem dX4_canLie_60 : decode cX4_canLie 60 = .ok (.istore 9, 2) := by decide +kernel
theorem dX4_canLie_62 : decode cX4_canLie 62 = .ok (.iload 8, 2) := by decide +kernel
theorem dX4_canLie_64 : decode cX4_canLie 64 = .ok (.ifCond .lt 17, 3) := by decide +kernel
theorem dX4_canLie_67 : decode cX4_canLie 67 = .ok (.iload 9, 2) := by decide +kernel
theorem dX4_canLie_69 : decode cX4_canLie 69 = .ok (.ifCond .lt 12, 3) := by decide +kernel
theorem dX4_canLie_72 : decode cX4_canLie 72 = .ok (.iload 9, 2) := by decide +kernel
theorem dX4_canLie_74 : decode cX4_canLie 74 = .ok (.aload_n 1, 1) := by decide +kernel
theorem dX4_canLie_75 : decode cX4_canLie 75 = .ok (.getfield 80, 3) := by decide +kernel
theorem dX4_canLie_78 : decode cX4_canLie 78 = .ok (.if_icmp .lt 5, 3) := by decide +kernel
theorem dX4_canLie_81 : decode cX4_canLie 81 = .ok (.iconst 0, 1) := by decide +kernel
theorem dX4_canLie_82 : decode cX4_canLie 82 = .ok (.ireturn, 1) := by decide +kernel
theorem dX4_canLie_83 : decode cX4_canLie 83 = .ok (.iload 8, 2) := by decide +kernel
theorem dX4_canLie_85 : decode cX4_canLie 85 = .ok (.aload_n 1, 1) := by decide +kernel
theorem dX4_canLie_86 : decode cX4_canLie 86 = .ok (.getfield 80, 3) := by decide +kernel
theorem dX4_canLie_89 : decode cX4_canLie 89 = .ok (.imul, 1) := by decide +kernel
theorem dX4_canLie_90 : decode cX4_canLie 90 = .ok (.iload 9, 2) := by decide +kernel
theorem dX4_canLie_92 : decode cX4_canLie 92 = .ok (.iadd, 1) := by decide +kernel
theorem dX4_canLie_93 : decode cX4_canLie 93 = .ok (.istore 10, 2) := by decide +kernel
theorem dX4_canLie_95 : decode cX4_canLie 95 = .ok (.iload 8, 2) := by decide +kernel
theorem dX4_canLie_97 : decode cX4_canLie 97 = .ok (.aload_n 1, 1) := by decide +kernel
theorem dX4_canLie_98 : decode cX4_canLie 98 = .ok (.getfield 63, 3) := by decide +kernel
theorem dX4_canLie_101 : decode cX4_canLie 101 = .ok (.if_icmp .ge 24, 3) := by decide +kernel
theorem dX4_canLie_104 : decode cX4_canLie 104 = .ok (.aload_n 1, 1) := by decide +kernel
theorem dX4_canLie_105 : decode cX4_canLie 105 = .ok (.iload 10, 2) := by decide +kernel
theorem dX4_canLie_107 : decode cX4_canLie 107 = .ok (.invokevirtual 83, 3) := by decide +kernel
theorem dX4_canLie_110 : decode cX4_canLie 110 = .ok (.ifCond .eq 15, 3) := by decide +kernel
theorem dX4_canLie_113 : decode cX4_canLie 113 = .ok (.aload_n 2, 1) := by decide +kernel
theorem dX4_canLie_114 : decode cX4_canLie 114 = .ok (.iload 10, 2) := by decide +kernel
theorem dX4_canLie_116 : decode cX4_canLie 116 = .ok (.invokevirtual 69, 3) := by decide +kernel
theorem dX4_canLie_119 : decode cX4_canLie 119 = .ok (.iload_n 3, 1) := by decide +kernel
theorem dX4_canLie_120 : decode cX4_canLie 120 = .ok (.if_icmp .eq 5, 3) := by decide +kernel
theorem dX4_canLie_123 : decode cX4_canLie 123 = .ok (.iconst 0, 1) := by decide +kernel
theorem dX4_canLie_124 : decode cX4_canLie 124 = .ok (.ireturn, 1) := by decide +kernel
theorem dX4_canLie_125 : decode cX4_canLie 125 = .ok (.iinc 7 1, 3) := by decide +kernel
theorem dX4_canLie_128 : decode cX4_canLie 128 = .ok (.goto (-111), 3) := by decide +kernel
theorem dX4_canLie_131 : decode cX4_canLie 131 = .ok (.iconst 1, 1) := by decide +kernel
theorem dX4_canLie_132 : decode cX4_canLie 132 = .ok (.ireturn, 1) := by decide +kernel
theorem dX4_traceBack_0 : decode cX4_traceBack 0 = .ok (.iconst 0, 1) := by decide +kernel
theorem dX4_traceBack_1 : decode cX4_traceBack 1 = .ok (.istore_n 2, 1) := by decide +kernel
theorem dX4_traceBack_2 : decode cX4_traceBack 2 = .ok (.iload_n 1, 1) := by decide +kernel
theorem dX4_traceBack_3 : decode cX4_traceBack 3 = .ok (.istore_n 3, 1) := by decide +kernel
theorem dX4_traceBack_4 : decode cX4_traceBack 4 = .ok (.iconst 0, 1) := by decide +kernel
theorem dX4_traceBack_5 : decode cX4_traceBack 5 = .ok (.istore 4, 2) := by decide +kernel
theorem dX4_traceBack_7 : decode cX4_traceBack 7 = .ok (.iload 4, 2) := by decide +kernel
theorem dX4_traceBack_9 : decode cX4_traceBack 9 = .ok (.sipush 240, 3) := by decide +kernel
theorem dX4_traceBack_12 : decode cX4_traceBack 12 = .ok (.if_icmp .ge 32, 3) := by decide +kernel
theorem dX4_traceBack_15 : decode cX4_traceBack 15 = .ok (.iload_n 3, 1) := by decide +kernel
theorem dX4_traceBack_16 : decode cX4_traceBack 16 = .ok (.bipush 112, 2) := by decide +kernel
theorem dX4_traceBack_18 : decode cX4_traceBack 18 = .ok (.if_icmp .eq 26, 3) := by decide +kernel
theorem dX4_traceBack_21 : decode cX4_traceBack 21 = .ok (.iinc 2 1, 3) := by decide +kernel
theorem dX4_traceBack_24 : decode cX4_traceBack 24 = .ok (.iload_n 3, 1) := by decide +kernel
theorem dX4_traceBack_25 : decode cX4_traceBack 25 = .ok (.aload_n 0, 1) := by decide +kernel
theorem dX4_traceBack_26 : decode cX4_traceBack 26 = .ok (.getfield 27, 3) := by decide +kernel
theorem dX4_traceBack_29 : decode cX4_traceBack 29 = .ok (.iload_n 3, 1) := by decide +kernel
theorem dX4_traceBack_30 : decode cX4_traceBack 30 = .ok (.invokevirtual 44, 3) := by decide +kernel
theorem dX4_traceBack_33 : decode cX4_traceBack 33 = .ok (.invokestatic 48, 3) := by decide +kernel
theorem dX4_traceBack_36 : decode cX4_traceBack 36 = .ok (.isub, 1) := by decide +kernel
theorem dX4_traceBack_37 : decode cX4_traceBack 37 = .ok (.istore_n 3, 1) := by decide +kernel
theorem dX4_traceBack_38 : decode cX4_traceBack 38 = .ok (.iinc 4 1, 3) := by decide +kernel
theorem dX4_traceBack_41 : decode cX4_traceBack 41 = .ok (.goto (-34), 3) := by decide +kernel
theorem dX4_traceBack_44 : decode cX4_traceBack 44 = .ok (.iload_n 1, 1) := by decide +kernel
theorem dX4_traceBack_45 : decode cX4_traceBack 45 = .ok (.istore_n 3, 1) := by decide +kernel
theorem dX4_traceBack_46 : decode cX4_traceBack 46 = .ok (.iload_n 2, 1) := by decide +kernel
theorem dX4_traceBack_47 : decode cX4_traceBack 47 = .ok (.iconst 1, 1) := by decide +kernel
theorem dX4_traceBack_48 : decode cX4_traceBack 48 = .ok (.isub, 1) := by decide +kernel
theorem dX4_traceBack_49 : decode cX4_traceBack 49 = .ok (.istore 4, 2) := by decide +kernel
theorem dX4_traceBack_51 : decode cX4_traceBack 51 = .ok (.iload 4, 2) := by decide +kernel
theorem dX4_traceBack_53 : decode cX4_traceBack 53 = .ok (.ifCond .lt 40, 3) := by decide +kernel
theorem dX4_traceBack_56 : decode cX4_traceBack 56 = .ok (.aload_n 0, 1) := by decide +kernel
theorem dX4_traceBack_57 : decode cX4_traceBack 57 = .ok (.getfield 16, 3) := by decide +kernel
theorem dX4_traceBack_60 : decode cX4_traceBack 60 = .ok (.iload 4, 2) := by decide +kernel
theorem dX4_traceBack_62 : decode cX4_traceBack 62 = .ok (.aload_n 0, 1) := by decide +kernel
theorem dX4_traceBack_63 : decode cX4_traceBack 63 = .ok (.getfield 27, 3) := by decide +kernel
theorem dX4_traceBack_66 : decode cX4_traceBack 66 = .ok (.iload_n 3, 1) := by decide +kernel
theorem dX4_traceBack_67 : decode cX4_traceBack 67 = .ok (.invokevirtual 44, 3) := by decide +kernel
theorem dX4_traceBack_70 : decode cX4_traceBack 70 = .ok (.invokevirtual 40, 3) := by decide +kernel
theorem dX4_traceBack_73 : decode cX4_traceBack 73 = .ok (.iload_n 3, 1) := by decide +kernel
theorem dX4_traceBack_74 : decode cX4_traceBack 74 = .ok (.aload_n 0, 1) := by decide +kernel
theorem dX4_traceBack_75 : decode cX4_traceBack 75 = .ok (.getfield 27, 3) := by decide +kernel
theorem dX4_traceBack_78 : decode cX4_traceBack 78 = .ok (.iload_n 3, 1) := by decide +kernel
theorem dX4_traceBack_79 : decode cX4_traceBack 79 = .ok (.invokevirtual 44, 3) := by decide +kernel
theorem dX4_traceBack_82 : decode cX4_traceBack 82 = .ok (.invokestatic 48, 3) := by decide +kernel
theorem dX4_traceBack_85 : decode cX4_traceBack 85 = .ok (.isub, 1) := by decide +kernel
theorem dX4_traceBack_86 : decode cX4_traceBack 86 = .ok (.istore_n 3, 1) := by decide +kernel
theorem dX4_traceBack_87 : decode cX4_traceBack 87 = .ok (.iinc 4 (-1), 3) := by decide +kernel
theorem dX4_traceBack_90 : decode cX4_traceBack 90 = .ok (.goto (-39), 3) := by decide +kernel
theorem dX4_traceBack_93 : decode cX4_traceBack 93 = .ok (.iload_n 2, 1) := by decide +kernel
theorem dX4_traceBack_94 : decode cX4_traceBack 94 = .ok (.ireturn, 1) := by decide +kernel
theorem dX4_stepOf_0 : decode cX4_stepOf 0 = .ok (.iload_n 0, 1) := by decide +kernel
theorem dX4_stepOf_1 : decode cX4_stepOf 1 = .ok (.tableswitch 41 0 3 #[31, 33, 35, 38], 31) := by decide +kernel
theorem dX4_stepOf_32 : decode cX4_stepOf 32 = .ok (.iconst (-1), 1) := by decide +kernel
theorem dX4_stepOf_33 : decode cX4_stepOf 33 = .ok (.ireturn, 1) := by decide +kernel
theorem dX4_stepOf_34 : decode cX4_stepOf 34 = .ok (.iconst 1, 1) := by decide +kernel
theorem dX4_stepOf_35 : decode cX4_stepOf 35 = .ok (.ireturn, 1) := by decide +kernel
theorem dX4_stepOf_36 : decode cX4_stepOf 36 = .ok (.bipush (-15), 2) := by decide +kernel
theorem dX4_stepOf_38 : decode cX4_stepOf 38 = .ok (.ireturn, 1) := by decide +kernel
theorem dX4_stepOf_39 : decode cX4_stepOf 39 = .ok (.bipush 15, 2) := by decide +kernel
theorem dX4_stepOf_41 : decode cX4_stepOf 41 = .ok (.ireturn, 1) := by decide +kernel
theorem dX4_stepOf_42 : decode cX4_stepOf 42 = .ok (.iconst 0, 1) := by decide +kernel
theorem dX4_stepOf_43 : decode cX4_stepOf 43 = .ok (.ireturn, 1) := by decide +kernel
theorem dX4_downAt_0 : decode cX4_downAt 0 = .ok (.iload_n 0, 1) := by decide +kernel
theorem dX4_downAt_1 : decode cX4_downAt 1 = .ok (.bipush 15, 2) := by decide +kernel
theorem dX4_downAt_3 : decode cX4_downAt 3 = .ok (.idiv, 1) := by decide +kernel
theorem dX4_downAt_4 : decode cX4_downAt 4 = .ok (.bipush 7, 2) := by decide +kernel
theorem dX4_downAt_6 : decode cX4_downAt 6 = .ok (.isub, 1) := by decide +kernel
theorem dX4_downAt_7 : decode cX4_downAt 7 = .ok (.ireturn, 1) := by decide +kernel
theorem dX4_rightAt_0 : decode cX4_rightAt 0 = .ok (.iload_n 0, 1) := by decide +kernel
theorem dX4_rightAt_1 : decode cX4_rightAt 1 = .ok (.bipush 15, 2) := by decide +kernel
theorem dX4_rightAt_3 : decode cX4_rightAt 3 = .ok (.irem, 1) := by decide +kernel
theorem dX4_rightAt_4 : decode cX4_rightAt 4 = .ok (.bipush 7, 2) := by decide +kernel
theorem dX4_rightAt_6 : decode cX4_rightAt 6 = .ok (.isub, 1) := by decide +kernel
theorem dX4_rightAt_7 : decode cX4_rightAt 7 = .ok (.ireturn, 1) := by decide +kernel
theorem dX5_init_0 : decode cX5_init 0 = .ok (.aload_n 0, 1) := by decide +kernel
theorem dX5_init_1 : decode cX5_init 1 = .ok (.invokespecial 1, 3) := by decide +kernel
theorem dX5_init_4 : decode cX5_init 4 = .ok (.aload_n 0, 1) := by decide +kernel
theorem dX5_init_5 : decode cX5_init 5 = .ok (.new 7, 3) := by decide +kernel
theorem dX5_init_8 : decode cX5_init 8 = .ok (.dup, 1) := by decide +kernel
theorem dX5_init_9 : decode cX5_init 9 = .ok (.invokespecial 9, 3) := by decide +kernel
theorem dX5_init_12 : decode cX5_init 12 = .ok (.putfield 10, 3) := by decide +kernel
theorem dX5_init_15 : decode cX5_init 15 = .ok (.aload_n 0, 1) := by decide +kernel
theorem dX5_init_16 : decode cX5_init 16 = .ok (.new 7, 3) := by decide +kernel
theorem dX5_init_19 : decode cX5_init 19 = .ok (.dup, 1) := by decide +kernel
theorem dX5_init_20 : decode cX5_init 20 = .ok (.invokespecial 9, 3) := by decide +kernel
theorem dX5_init_23 : decode cX5_init 23 = .ok (.putfield 16, 3) := by decide +kernel
theorem dX5_init_26 : decode cX5_init 26 = .ok (.aload_n 0, 1) := by decide +kernel
theorem dX5_init_27 : decode cX5_init 27 = .ok (.iconst 4, 1) := by decide +kernel
theorem dX5_init_28 : decode cX5_init 28 = .ok (.anewarray 7, 3) := by decide +kernel
theorem dX5_init_31 : decode cX5_init 31 = .ok (.putfield 19, 3) := by decide +kernel
theorem dX5_init_34 : decode cX5_init 34 = .ok (.aload_n 0, 1) := by decide +kernel
theorem dX5_init_35 : decode cX5_init 35 = .ok (.iconst 0, 1) := by decide +kernel
theorem dX5_init_36 : decode cX5_init 36 = .ok (.putfield 23, 3) := by decide +kernel
theorem dX5_init_39 : decode cX5_init 39 = .ok (.aload_n 0, 1) := by decide +kernel
theorem dX5_init_40 : decode cX5_init 40 = .ok (.iconst 0, 1) := by decide +kernel
theorem dX5_init_41 : decode cX5_init 41 = .ok (.putfield 27, 3) := by decide +kernel
theorem dX5_init_44 : decode cX5_init 44 = .ok (.aload_n 0, 1) := by decide +kernel
theorem dX5_init_45 : decode cX5_init 45 = .ok (.new 30, 3) := by decide +kernel
theorem dX5_init_48 : decode cX5_init 48 = .ok (.dup, 1) := by decide +kernel
theorem dX5_init_49 : decode cX5_init 49 = .ok (.invokespecial 32, 3) := by decide +kernel
theorem dX5_init_52 : decode cX5_init 52 = .ok (.putfield 33, 3) := by decide +kernel
theorem dX5_init_55 : decode cX5_init 55 = .ok (.aload_n 0, 1) := by decide +kernel
theorem dX5_init_56 : decode cX5_init 56 = .ok (.new 37, 3) := by decide +kernel
theorem dX5_init_59 : decode cX5_init 59 = .ok (.dup, 1) := by decide +kernel
theorem dX5_init_60 : decode cX5_init 60 = .ok (.invokespecial 39, 3) := by decide +kernel
theorem dX5_init_63 : decode cX5_init 63 = .ok (.putfield 40, 3) := by decide +kernel
theorem dX5_init_66 : decode cX5_init 66 = .ok (.aload_n 0, 1) := by decide +kernel
theorem dX5_init_67 : decode cX5_init 67 = .ok (.new 44, 3) := by decide +kernel
theorem dX5_init_70 : decode cX5_init 70 = .ok (.dup, 1) := by decide +kernel
theorem dX5_init_71 : decode cX5_init 71 = .ok (.invokespecial 46, 3) := by decide +kernel
theorem dX5_init_74 : decode cX5_init 74 = .ok (.putfield 47, 3) := by decide +kernel
theorem dX5_init_77 : decode cX5_init 77 = .ok (.aload_n 0, 1) := by decide +kernel
theorem dX5_init_78 : decode cX5_init 78 = .ok (.new 51, 3) := by decide +kernel
theorem dX5_init_81 : decode cX5_init 81 = .ok (.dup, 1) := by decide +kernel
theorem dX5_init_82 : decode cX5_init 82 = .ok (.bipush 49, 2) := by decide +kernel
theorem dX5_init_84 : decode cX5_init 84 = .ok (.invokespecial 53, 3) := by decide +kernel
theorem dX5_init_87 : decode cX5_init 87 = .ok (.putfield 56, 3) := by decide +kernel
theorem dX5_init_90 : decode cX5_init 90 = .ok (.iconst 0, 1) := by decide +kernel
theorem dX5_init_91 : decode cX5_init 91 = .ok (.istore_n 1, 1) := by decide +kernel
theorem dX5_init_92 : decode cX5_init 92 = .ok (.iload_n 1, 1) := by decide +kernel
theorem dX5_init_93 : decode cX5_init 93 = .ok (.aload_n 0, 1) := by decide +kernel
theorem dX5_init_94 : decode cX5_init 94 = .ok (.getfield 19, 3) := by decide +kernel
theorem dX5_init_97 : decode cX5_init 97 = .ok (.arraylength, 1) := by decide +kernel
theorem dX5_init_98 : decode cX5_init 98 = .ok (.if_icmp .ge 22, 3) := by decide +kernel
theorem dX5_init_101 : decode cX5_init 101 = .ok (.aload_n 0, 1) := by decide +kernel
theorem dX5_init_102 : decode cX5_init 102 = .ok (.getfield 19, 3) := by decide +kernel
theorem dX5_init_105 : decode cX5_init 105 = .ok (.iload_n 1, 1) := by decide +kernel
theorem dX5_init_106 : decode cX5_init 106 = .ok (.new 7, 3) := by decide +kernel
theorem dX5_init_109 : decode cX5_init 109 = .ok (.dup, 1) := by decide +kernel
theorem dX5_init_110 : decode cX5_init 110 = .ok (.invokespecial 9, 3) := by decide +kernel
theorem dX5_init_113 : decode cX5_init 113 = .ok (.aastore, 1) := by decide +kernel
theorem dX5_init_114 : decode cX5_init 114 = .ok (.iinc 1 1, 3) := by decide +kernel
theorem dX5_init_117 : decode cX5_init 117 = .ok (.goto (-25), 3) := by decide +kernel
theorem dX5_init_120 : decode cX5_init 120 = .ok (.aload_n 0, 1) := by decide +kernel
theorem dX5_init_121 : decode cX5_init 121 = .ok (.getfield 10, 3) := by decide +kernel
theorem dX5_init_124 : decode cX5_init 124 = .ok (.iconst 1, 1) := by decide +kernel
theorem dX5_init_125 : decode cX5_init 125 = .ok (.putfield 60, 3) := by decide +kernel
theorem dX5_init_128 : decode cX5_init 128 = .ok (.aload_n 0, 1) := by decide +kernel
theorem dX5_init_129 : decode cX5_init 129 = .ok (.getfield 10, 3) := by decide +kernel
theorem dX5_init_132 : decode cX5_init 132 = .ok (.iconst 4, 1) := by decide +kernel
theorem dX5_init_133 : decode cX5_init 133 = .ok (.iconst 4, 1) := by decide +kernel
theorem dX5_init_134 : decode cX5_init 134 = .ok (.invokevirtual 63, 3) := by decide +kernel
theorem dX5_init_137 : decode cX5_init 137 = .ok (.aload_n 0, 1) := by decide +kernel
theorem dX5_init_138 : decode cX5_init 138 = .ok (.getfield 10, 3) := by decide +kernel
theorem dX5_init_141 : decode cX5_init 141 = .ok (.bipush 10, 2) := by decide +kernel
theorem dX5_init_143 : decode cX5_init 143 = .ok (.invokevirtual 67, 3) := by decide +kernel
theorem dX5_init_146 : decode cX5_init 146 = .ok (.return_, 1) := by decide +kernel
theorem dX5_make_0 : decode cX5_make 0 = .ok (.iload_n 1, 1) := by decide +kernel
theorem dX5_make_1 : decode cX5_make 1 = .ok (.iconst 2, 1) := by decide +kernel
theorem dX5_make_2 : decode cX5_make 2 = .ok (.bipush 7, 2) := by decide +kernel
theorem dX5_make_4 : decode cX5_make 4 = .ok (.invokestatic 70, 3) := by decide +kernel
theorem dX5_make_7 : decode cX5_make 7 = .ok (.ifCond .ne 23, 3) := by decide +kernel
theorem dX5_make_10 : decode cX5_make 10 = .ok (.iload_n 2, 1) := by decide +kernel
theorem dX5_make_11 : decode cX5_make 11 = .ok (.iconst 2, 1) := by decide +kernel
theorem dX5_make_12 : decode cX5_make 12 = .ok (.bipush 7, 2) := by decide +kernel
theorem dX5_make_14 : decode cX5_make 14 = .ok (.invokestatic 70, 3) := by decide +kernel
theorem dX5_make_17 : decode cX5_make 17 = .ok (.ifCond .ne 13, 3) := by decide +kernel
theorem dX5_make_20 : decode cX5_make 20 = .ok (.iload_n 3, 1) := by decide +kernel
theorem dX5_make_21 : decode cX5_make 21 = .ok (.iconst 0, 1) := by decide +kernel
theorem dX5_make_22 : decode cX5_make 22 = .ok (.bipush 50, 2) := by decide +kernel
theorem dX5_make_24 : decode cX5_make 24 = .ok (.invokestatic 70, 3) := by decide +kernel
theorem dX5_make_27 : decode cX5_make 27 = .ok (.ifCond .eq 13, 3) := by decide +kernel
theorem dX5_make_30 : decode cX5_make 30 = .ok (.new 74, 3) := by decide +kernel
theorem dX5_make_33 : decode cX5_make 33 = .ok (.dup, 1) := by decide +kernel
theorem dX5_make_34 : decode cX5_make 34 = .ok (.ldc 76, 2) := by decide +kernel
theorem dX5_make_36 : decode cX5_make 36 = .ok (.invokespecial 78, 3) := by decide +kernel
theorem dX5_make_39 : decode cX5_make 39 = .ok (.athrow, 1) := by decide +kernel
theorem dX5_make_40 : decode cX5_make 40 = .ok (.aload_n 0, 1) := by decide +kernel
theorem dX5_make_41 : decode cX5_make 41 = .ok (.invokevirtual 81, 3) := by decide +kernel
theorem dX5_make_44 : decode cX5_make 44 = .ok (.aload_n 0, 1) := by decide +kernel
theorem dX5_make_45 : decode cX5_make 45 = .ok (.getfield 10, 3) := by decide +kernel
theorem dX5_make_48 : decode cX5_make 48 = .ok (.iload_n 1, 1) := by decide +kernel
theorem dX5_make_49 : decode cX5_make 49 = .ok (.iload_n 2, 1) := by decide +kernel
theorem dX5_make_50 : decode cX5_make 50 = .ok (.invokevirtual 63, 3) := by decide +kernel
theorem dX5_make_53 : decode cX5_make 53 = .ok (.aload_n 0, 1) := by decide +kernel
theorem dX5_make_54 : decode cX5_make 54 = .ok (.getfield 10, 3) := by decide +kernel
theorem dX5_make_57 : decode cX5_make 57 = .ok (.iload_n 3, 1) := by decide +kernel
theorem dX5_make_58 : decode cX5_make 58 = .ok (.invokevirtual 67, 3) := by decide +kernel
theorem dX5_make_61 : decode cX5_make 61 = .ok (.aload_n 0, 1) := by decide +kernel
theorem dX5_make_62 : decode cX5_make 62 = .ok (.getfield 10, 3) := by decide +kernel
theorem dX5_make_65 : decode cX5_make 65 = .ok (.getfield 84, 3) := by decide +kernel
theorem dX5_make_68 : decode cX5_make 68 = .ok (.ireturn, 1) := by decide +kernel
theorem dX5_lay_0 : decode cX5_lay 0 = .ok (.aload_n 0, 1) := by decide +kernel
theorem dX5_lay_1 : decode cX5_lay 1 = .ok (.iload_n 1, 1) := by decide +kernel
theorem dX5_lay_2 : decode cX5_lay 2 = .ok (.invokevirtual 87, 3) := by decide +kernel
theorem dX5_lay_5 : decode cX5_lay 5 = .ok (.iload_n 2, 1) := by decide +kernel
theorem dX5_lay_6 : decode cX5_lay 6 = .ok (.iconst 1, 1) := by decide +kernel
theorem dX5_lay_7 : decode cX5_lay 7 = .ok (.bipush 50, 2) := by decide +kernel
theorem dX5_lay_9 : decode cX5_lay 9 = .ok (.invokestatic 70, 3) := by decide +kernel
theorem dX5_lay_12 : decode cX5_lay 12 = .ok (.ifCond .eq 13, 3) := by decide +kernel
theorem dX5_lay_15 : decode cX5_lay 15 = .ok (.new 74, 3) := by decide +kernel
theorem dX5_lay_18 : decode cX5_lay 18 = .ok (.dup, 1) := by decide +kernel
theorem dX5_lay_19 : decode cX5_lay 19 = .ok (.ldc 90, 2) := by decide +kernel
theorem dX5_lay_21 : decode cX5_lay 21 = .ok (.invokespecial 78, 3) := by decide +kernel
theorem dX5_lay_24 : decode cX5_lay 24 = .ok (.athrow, 1) := by decide +kernel
theorem dX5_lay_25 : decode cX5_lay 25 = .ok (.aload_n 0, 1) := by decide +kernel
theorem dX5_lay_26 : decode cX5_lay 26 = .ok (.getfield 10, 3) := by decide +kernel
theorem dX5_lay_29 : decode cX5_lay 29 = .ok (.getfield 92, 3) := by decide +kernel
theorem dX5_lay_32 : decode cX5_lay 32 = .ok (.iload_n 1, 1) := by decide +kernel
theorem dX5_lay_33 : decode cX5_lay 33 = .ok (.invokevirtual 95, 3) := by decide +kernel
theorem dX5_lay_36 : decode cX5_lay 36 = .ok (.iload_n 2, 1) := by decide +kernel
theorem dX5_lay_37 : decode cX5_lay 37 = .ok (.iadd, 1) := by decide +kernel
theorem dX5_lay_38 : decode cX5_lay 38 = .ok (.bipush 50, 2) := by decide +kernel
theorem dX5_lay_40 : decode cX5_lay 40 = .ok (.if_icmp .le 13, 3) := by decide +kernel
theorem dX5_lay_43 : decode cX5_lay 43 = .ok (.new 99, 3) := by decide +kernel
theorem dX5_lay_46 : decode cX5_lay 46 = .ok (.dup, 1) := by decide +kernel
theorem dX5_lay_47 : decode cX5_lay 47 = .ok (.ldc 101, 2) := by decide +kernel
theorem dX5_lay_49 : decode cX5_lay 49 = .ok (.invokespecial 103, 3) := by decide +kernel
theorem dX5_lay_52 : decode cX5_lay 52 = .ok (.athrow, 1) := by decide +kernel
theorem dX5_lay_53 : decode cX5_lay 53 = .ok (.aload_n 0, 1) := by decide +kernel
theorem dX5_lay_54 : decode cX5_lay 54 = .ok (.invokevirtual 81, 3) := by decide +kernel
theorem dX5_lay_57 : decode cX5_lay 57 = .ok (.aload_n 0, 1) := by decide +kernel
theorem dX5_lay_58 : decode cX5_lay 58 = .ok (.getfield 10, 3) := by decide +kernel
theorem dX5_lay_61 : decode cX5_lay 61 = .ok (.iload_n 1, 1) := by decide +kernel
theorem dX5_lay_62 : decode cX5_lay 62 = .ok (.iload_n 2, 1) := by decide +kernel
theorem dX5_lay_63 : decode cX5_lay 63 = .ok (.invokevirtual 104, 3) := by decide +kernel
theorem dX5_lay_66 : decode cX5_lay 66 = .ok (.aload_n 0, 1) := by decide +kernel
theorem dX5_lay_67 : decode cX5_lay 67 = .ok (.getfield 10, 3) := by decide +kernel
theorem dX5_lay_70 : decode cX5_lay 70 = .ok (.getfield 92, 3) := by decide +kernel
theorem dX5_lay_73 : decode cX5_lay 73 = .ok (.iload_n 1, 1) := by decide +kernel
theorem dX5_lay_74 : decode cX5_lay 74 = .ok (.invokevirtual 95, 3) := by decide +kernel
theorem dX5_lay_77 : decode cX5_lay 77 = .ok (.ireturn, 1) := by decide +kernel
theorem dX5_saw_0 : decode cX5_saw 0 = .ok (.aload_n 0, 1) := by decide +kernel
theorem dX5_saw_1 : decode cX5_saw 1 = .ok (.iload_n 1, 1) := by decide +kernel
theorem dX5_saw_2 : decode cX5_saw 2 = .ok (.invokevirtual 87, 3) := by decide +kernel
theorem dX5_saw_5 : decode cX5_saw 5 = .ok (.iload_n 2, 1) := by decide +kernel
theorem dX5_saw_6 : decode cX5_saw 6 = .ok (.iconst 0, 1) := by decide +kernel
theorem dX5_saw_7 : decode cX5_saw 7 = .ok (.iconst 3, 1) := by decide +kernel
theorem dX5_saw_8 : decode cX5_saw 8 = .ok (.invokestatic 70, 3) := by decide +kernel
theorem dX5_saw_11 : decode cX5_saw 11 = .ok (.ifCond .eq 13, 3) := by decide +kernel
theorem dX5_saw_14 : decode cX5_saw 14 = .ok (.new 74, 3) := by decide +kernel
theorem dX5_saw_17 : decode cX5_saw 17 = .ok (.dup, 1) := by decide +kernel
theorem dX5_saw_18 : decode cX5_saw 18 = .ok (.ldc 107, 2) := by decide +kernel
theorem dX5_saw_20 : decode cX5_saw 20 = .ok (.invokespecial 78, 3) := by decide +kernel
theorem dX5_saw_23 : decode cX5_saw 23 = .ok (.athrow, 1) := by decide +kernel
theorem dX5_saw_24 : decode cX5_saw 24 = .ok (.aload_n 0, 1) := by decide +kernel
theorem dX5_saw_25 : decode cX5_saw 25 = .ok (.getfield 10, 3) := by decide +kernel
theorem dX5_saw_28 : decode cX5_saw 28 = .ok (.iload_n 1, 1) := by decide +kernel
theorem dX5_saw_29 : decode cX5_saw 29 = .ok (.iload_n 2, 1) := by decide +kernel
theorem dX5_saw_30 : decode cX5_saw 30 = .ok (.invokevirtual 109, 3) := by decide +kernel
theorem dX5_saw_33 : decode cX5_saw 33 = .ok (.ifCond .ne 13, 3) := by decide +kernel
theorem dX5_saw_36 : decode cX5_saw 36 = .ok (.new 99, 3) := by decide +kernel
theorem dX5_saw_39 : decode cX5_saw 39 = .ok (.dup, 1) := by decide +kernel
theorem dX5_saw_40 : decode cX5_saw 40 = .ok (.ldc 113, 2) := by decide +kernel
theorem dX5_saw_42 : decode cX5_saw 42 = .ok (.invokespecial 103, 3) := by decide +kernel
theorem dX5_saw_45 : decode cX5_saw 45 = .ok (.athrow, 1) := by decide +kernel
theorem dX5_saw_46 : decode cX5_saw 46 = .ok (.aload_n 0, 1) := by decide +kernel
theorem dX5_saw_47 : decode cX5_saw 47 = .ok (.invokevirtual 81, 3) := by decide +kernel
theorem dX5_saw_50 : decode cX5_saw 50 = .ok (.aload_n 0, 1) := by decide +kernel
theorem dX5_saw_51 : decode cX5_saw 51 = .ok (.getfield 10, 3) := by decide +kernel
theorem dX5_saw_54 : decode cX5_saw 54 = .ok (.iload_n 1, 1) := by decide +kernel
theorem dX5_saw_55 : decode cX5_saw 55 = .ok (.iload_n 2, 1) := by decide +kernel
theorem dX5_saw_56 : decode cX5_saw 56 = .ok (.invokevirtual 115, 3) := by decide +kernel
theorem dX5_saw_59 : decode cX5_saw 59 = .ok (.ireturn, 1) := by decide +kernel
theorem dX5_sawAround_0 : decode cX5_sawAround 0 = .ok (.aload_n 0, 1) := by decide +kernel
theorem dX5_sawAround_1 : decode cX5_sawAround 1 = .ok (.iload_n 1, 1) := by decide +kernel
theorem dX5_sawAround_2 : decode cX5_sawAround 2 = .ok (.iload_n 2, 1) := by decide +kernel
theorem dX5_sawAround_3 : decode cX5_sawAround 3 = .ok (.iload_n 3, 1) := by decide +kernel
theorem dX5_sawAround_4 : decode cX5_sawAround 4 = .ok (.invokevirtual 119, 3) := by decide +kernel
theorem dX5_sawAround_7 : decode cX5_sawAround 7 = .ok (.aload_n 0, 1) := by decide +kernel
theorem dX5_sawAround_8 : decode cX5_sawAround 8 = .ok (.invokevirtual 81, 3) := by decide +kernel
theorem dX5_sawAround_11 : decode cX5_sawAround 11 = .ok (.aload_n 0, 1) := by decide +kernel
theorem dX5_sawAround_12 : decode cX5_sawAround 12 = .ok (.getfield 10, 3) := by decide +kernel
theorem dX5_sawAround_15 : decode cX5_sawAround 15 = .ok (.iload_n 1, 1) := by decide +kernel
theorem dX5_sawAround_16 : decode cX5_sawAround 16 = .ok (.iload_n 2, 1) := by decide +kernel
theorem dX5_sawAround_17 : decode cX5_sawAround 17 = .ok (.iload_n 3, 1) := by decide +kernel
theorem dX5_sawAround_18 : decode cX5_sawAround 18 = .ok (.invokevirtual 123, 3) := by decide +kernel
theorem dX5_sawAround_21 : decode cX5_sawAround 21 = .ok (.ireturn, 1) := by decide +kernel
theorem dX5_takeOut_0 : decode cX5_takeOut 0 = .ok (.aload_n 0, 1) := by decide +kernel
theorem dX5_takeOut_1 : decode cX5_takeOut 1 = .ok (.iload_n 1, 1) := by decide +kernel
theorem dX5_takeOut_2 : decode cX5_takeOut 2 = .ok (.invokevirtual 87, 3) := by decide +kernel
theorem dX5_takeOut_5 : decode cX5_takeOut 5 = .ok (.aload_n 0, 1) := by decide +kernel
theorem dX5_takeOut_6 : decode cX5_takeOut 6 = .ok (.getfield 40, 3) := by decide +kernel
theorem dX5_takeOut_9 : decode cX5_takeOut 9 = .ok (.aload_n 0, 1) := by decide +kernel
theorem dX5_takeOut_10 : decode cX5_takeOut 10 = .ok (.getfield 10, 3) := by decide +kernel
theorem dX5_takeOut_13 : decode cX5_takeOut 13 = .ok (.invokevirtual 127, 3) := by decide +kernel
theorem dX5_takeOut_16 : decode cX5_takeOut 16 = .ok (.aload_n 0, 1) := by decide +kernel
theorem dX5_takeOut_17 : decode cX5_takeOut 17 = .ok (.getfield 40, 3) := by decide +kernel
theorem dX5_takeOut_20 : decode cX5_takeOut 20 = .ok (.iload_n 1, 1) := by decide +kernel
theorem dX5_takeOut_21 : decode cX5_takeOut 21 = .ok (.invokevirtual 131, 3) := by decide +kernel
theorem dX5_takeOut_24 : decode cX5_takeOut 24 = .ok (.istore_n 2, 1) := by decide +kernel
theorem dX5_takeOut_25 : decode cX5_takeOut 25 = .ok (.aload_n 0, 1) := by decide +kernel
theorem dX5_takeOut_26 : decode cX5_takeOut 26 = .ok (.getfield 40, 3) := by decide +kernel
theorem dX5_takeOut_29 : decode cX5_takeOut 29 = .ok (.iload_n 2, 1) := by decide +kernel
theorem dX5_takeOut_30 : decode cX5_takeOut 30 = .ok (.invokevirtual 134, 3) := by decide +kernel
theorem dX5_takeOut_33 : decode cX5_takeOut 33 = .ok (.ifCond .eq 23, 3) := by decide +kernel
theorem dX5_takeOut_36 : decode cX5_takeOut 36 = .ok (.aload_n 0, 1) := by decide +kernel
theorem dX5_takeOut_37 : decode cX5_takeOut 37 = .ok (.getfield 47, 3) := by decide +kernel
theorem dX5_takeOut_40 : decode cX5_takeOut 40 = .ok (.aload_n 0, 1) := by decide +kernel
theorem dX5_takeOut_41 : decode cX5_takeOut 41 = .ok (.getfield 10, 3) := by decide +kernel
theorem dX5_takeOut_44 : decode cX5_takeOut 44 = .ok (.aload_n 0, 1) := by decide +kernel
theorem dX5_takeOut_45 : decode cX5_takeOut 45 = .ok (.getfield 40, 3) := by decide +kernel
theorem dX5_takeOut_48 : decode cX5_takeOut 48 = .ok (.iload_n 2, 1) := by decide +kernel
theorem dX5_takeOut_49 : decode cX5_takeOut 49 = .ok (.invokevirtual 138, 3) := by decide +kernel
theorem dX5_takeOut_52 : decode cX5_takeOut 52 = .ok (.iconst (-1), 1) := by decide +kernel
theorem dX5_takeOut_53 : decode cX5_takeOut 53 = .ok (.if_icmp .ne 13, 3) := by decide +kernel
theorem dX5_takeOut_56 : decode cX5_takeOut 56 = .ok (.new 99, 3) := by decide +kernel
theorem dX5_takeOut_59 : decode cX5_takeOut 59 = .ok (.dup, 1) := by decide +kernel
theorem dX5_takeOut_60 : decode cX5_takeOut 60 = .ok (.ldc 142, 2) := by decide +kernel
theorem dX5_takeOut_62 : decode cX5_takeOut 62 = .ok (.invokespecial 103, 3) := by decide +kernel
theorem dX5_takeOut_65 : decode cX5_takeOut 65 = .ok (.athrow, 1) := by decide +kernel
theorem dX5_takeOut_66 : decode cX5_takeOut 66 = .ok (.aload_n 0, 1) := by decide +kernel
theorem dX5_takeOut_67 : decode cX5_takeOut 67 = .ok (.invokevirtual 81, 3) := by decide +kernel
theorem dX5_takeOut_70 : decode cX5_takeOut 70 = .ok (.aload_n 0, 1) := by decide +kernel
theorem dX5_takeOut_71 : decode cX5_takeOut 71 = .ok (.getfield 10, 3) := by decide +kernel
theorem dX5_takeOut_74 : decode cX5_takeOut 74 = .ok (.aload_n 0, 1) := by decide +kernel
theorem dX5_takeOut_75 : decode cX5_takeOut 75 = .ok (.getfield 40, 3) := by decide +kernel
theorem dX5_takeOut_78 : decode cX5_takeOut 78 = .ok (.iload_n 2, 1) := by decide +kernel
theorem dX5_takeOut_79 : decode cX5_takeOut 79 = .ok (.invokevirtual 144, 3) := by decide +kernel
theorem dX5_takeOut_82 : decode cX5_takeOut 82 = .ok (.ireturn, 1) := by decide +kernel
theorem dX5_takeAll_0 : decode cX5_takeAll 0 = .ok (.aload_n 0, 1) := by decide +kernel
theorem dX5_takeAll_1 : decode cX5_takeAll 1 = .ok (.invokevirtual 81, 3) := by decide +kernel
theorem dX5_takeAll_4 : decode cX5_takeAll 4 = .ok (.aload_n 0, 1) := by decide +kernel
theorem dX5_takeAll_5 : decode cX5_takeAll 5 = .ok (.aload_n 0, 1) := by decide +kernel
theorem dX5_takeAll_6 : decode cX5_takeAll 6 = .ok (.getfield 10, 3) := by decide +kernel
theorem dX5_takeAll_9 : decode cX5_takeAll 9 = .ok (.invokevirtual 148, 3) := by decide +kernel
theorem dX5_takeAll_12 : decode cX5_takeAll 12 = .ok (.ireturn, 1) := by decide +kernel
theorem dX5_setMelt_0 : decode cX5_setMelt 0 = .ok (.iload_n 1, 1) := by decide +kernel
theorem dX5_setMelt_1 : decode cX5_setMelt 1 = .ok (.iconst 0, 1) := by decide +kernel
theorem dX5_setMelt_2 : decode cX5_setMelt 2 = .ok (.bipush 9, 2) := by decide +kernel
theorem dX5_setMelt_4 : decode cX5_setMelt 4 = .ok (.invokestatic 70, 3) := by decide +kernel
theorem dX5_setMelt_7 : decode cX5_setMelt 7 = .ok (.ifCond .eq 13, 3) := by decide +kernel
theorem dX5_setMelt_10 : decode cX5_setMelt 10 = .ok (.new 74, 3) := by decide +kernel
theorem dX5_setMelt_13 : decode cX5_setMelt 13 = .ok (.dup, 1) := by decide +kernel
theorem dX5_setMelt_14 : decode cX5_setMelt 14 = .ok (.ldc 152, 2) := by decide +kernel
theorem dX5_setMelt_16 : decode cX5_setMelt 16 = .ok (.invokespecial 78, 3) := by decide +kernel
theorem dX5_setMelt_19 : decode cX5_setMelt 19 = .ok (.athrow, 1) := by decide +kernel
theorem dX5_setMelt_20 : decode cX5_setMelt 20 = .ok (.aload_n 0, 1) := by decide +kernel
theorem dX5_setMelt_21 : decode cX5_setMelt 21 = .ok (.invokevirtual 81, 3) := by decide +kernel
theorem dX5_setMelt_24 : decode cX5_setMelt 24 = .ok (.aload_n 0, 1) := by decide +kernel
theorem dX5_setMelt_25 : decode cX5_setMelt 25 = .ok (.getfield 10, 3) := by decide +kernel
theorem dX5_setMelt_28 : decode cX5_setMelt 28 = .ok (.getfield 60, 3) := by decide +kernel
theorem dX5_setMelt_31 : decode cX5_setMelt 31 = .ok (.istore_n 2, 1) := by decide +kernel
theorem dX5_setMelt_32 : decode cX5_setMelt 32 = .ok (.aload_n 0, 1) := by decide +kernel
theorem dX5_setMelt_33 : decode cX5_setMelt 33 = .ok (.getfield 10, 3) := by decide +kernel
theorem dX5_setMelt_36 : decode cX5_setMelt 36 = .ok (.iload_n 1, 1) := by decide +kernel
theorem dX5_setMelt_37 : decode cX5_setMelt 37 = .ok (.putfield 60, 3) := by decide +kernel
theorem dX5_setMelt_40 : decode cX5_setMelt 40 = .ok (.iload_n 2, 1) := by decide +kernel
theorem dX5_setMelt_41 : decode cX5_setMelt 41 = .ok (.ireturn, 1) := by decide +kernel
theorem dX5_pass_0 : decode cX5_pass 0 = .ok (.iload_n 1, 1) := by decide +kernel
theorem dX5_pass_1 : decode cX5_pass 1 = .ok (.iconst 1, 1) := by decide +kernel
theorem dX5_pass_2 : decode cX5_pass 2 = .ok (.bipush 50, 2) := by decide +kernel
theorem dX5_pass_4 : decode cX5_pass 4 = .ok (.invokestatic 70, 3) := by decide +kernel
theorem dX5_pass_7 : decode cX5_pass 7 = .ok (.ifCond .eq 13, 3) := by decide +kernel
theorem dX5_pass_10 : decode cX5_pass 10 = .ok (.new 74, 3) := by decide +kernel
theorem dX5_pass_13 : decode cX5_pass 13 = .ok (.dup, 1) := by decide +kernel
theorem dX5_pass_14 : decode cX5_pass 14 = .ok (.ldc 154, 2) := by decide +kernel
theorem dX5_pass_16 : decode cX5_pass 16 = .ok (.invokespecial 78, 3) := by decide +kernel
theorem dX5_pass_19 : decode cX5_pass 19 = .ok (.athrow, 1) := by decide +kernel
theorem dX5_pass_20 : decode cX5_pass 20 = .ok (.aload_n 0, 1) := by decide +kernel
theorem dX5_pass_21 : decode cX5_pass 21 = .ok (.invokevirtual 81, 3) := by decide +kernel
theorem dX5_pass_24 : decode cX5_pass 24 = .ok (.aload_n 0, 1) := by decide +kernel
theorem dX5_pass_25 : decode cX5_pass 25 = .ok (.getfield 10, 3) := by decide +kernel
theorem dX5_pass_28 : decode cX5_pass 28 = .ok (.getfield 156, 3) := by decide +kernel
theorem dX5_pass_31 : decode cX5_pass 31 = .ok (.istore_n 2, 1) := by decide +kernel
theorem dX5_pass_32 : decode cX5_pass 32 = .ok (.iconst 0, 1) := by decide +kernel
theorem dX5_pass_33 : decode cX5_pass 33 = .ok (.istore_n 3, 1) := by decide +kernel
theorem dX5_pass_34 : decode cX5_pass 34 = .ok (.iload_n 3, 1) := by decide +kernel
theorem dX5_pass_35 : decode cX5_pass 35 = .ok (.iload_n 1, 1) := by decide +kernel
theorem dX5_pass_36 : decode cX5_pass 36 = .ok (.if_icmp .ge 16, 3) := by decide +kernel
theorem dX5_pass_39 : decode cX5_pass 39 = .ok (.aload_n 0, 1) := by decide +kernel
theorem dX5_pass_40 : decode cX5_pass 40 = .ok (.getfield 10, 3) := by decide +kernel
theorem dX5_pass_43 : decode cX5_pass 43 = .ok (.invokevirtual 159, 3) := by decide +kernel
theorem dX5_pass_46 : decode cX5_pass 46 = .ok (.iinc 3 1, 3) := by decide +kernel
theorem dX5_pass_49 : decode cX5_pass 49 = .ok (.goto (-15), 3) := by decide +kernel
theorem dX5_pass_52 : decode cX5_pass 52 = .ok (.aload_n 0, 1) := by decide +kernel
theorem dX5_pass_53 : decode cX5_pass 53 = .ok (.getfield 10, 3) := by decide +kernel
theorem dX5_pass_56 : decode cX5_pass 56 = .ok (.getfield 156, 3) := by decide +kernel
theorem dX5_pass_59 : decode cX5_pass 59 = .ok (.iload_n 2, 1) := by decide +kernel
theorem dX5_pass_60 : decode cX5_pass 60 = .ok (.isub, 1) := by decide +kernel
theorem dX5_pass_61 : decode cX5_pass 61 = .ok (.ireturn, 1) := by decide +kernel
theorem dX5_cell_0 : decode cX5_cell 0 = .ok (.aload_n 0, 1) := by decide +kernel
theorem dX5_cell_1 : decode cX5_cell 1 = .ok (.iload_n 1, 1) := by decide +kernel
theorem dX5_cell_2 : decode cX5_cell 2 = .ok (.invokevirtual 87, 3) := by decide +kernel
theorem dX5_cell_5 : decode cX5_cell 5 = .ok (.iload_n 2, 1) := by decide +kernel
theorem dX5_cell_6 : decode cX5_cell 6 = .ok (.iconst 0, 1) := by decide +kernel
theorem dX5_cell_7 : decode cX5_cell 7 = .ok (.bipush 6, 2) := by decide +kernel
theorem dX5_cell_9 : decode cX5_cell 9 = .ok (.invokestatic 70, 3) := by decide +kernel
theorem dX5_cell_12 : decode cX5_cell 12 = .ok (.ifCond .eq 13, 3) := by decide +kernel
theorem dX5_cell_15 : decode cX5_cell 15 = .ok (.new 74, 3) := by decide +kernel
theorem dX5_cell_18 : decode cX5_cell 18 = .ok (.dup, 1) := by decide +kernel
theorem dX5_cell_19 : decode cX5_cell 19 = .ok (.ldc 162, 2) := by decide +kernel
theorem dX5_cell_21 : decode cX5_cell 21 = .ok (.invokespecial 78, 3) := by decide +kernel
theorem dX5_cell_24 : decode cX5_cell 24 = .ok (.athrow, 1) := by decide +kernel
theorem dX5_cell_25 : decode cX5_cell 25 = .ok (.iload_n 2, 1) := by decide +kernel
theorem dX5_cell_26 : decode cX5_cell 26 = .ok (.iconst 5, 1) := by decide +kernel
theorem dX5_cell_27 : decode cX5_cell 27 = .ok (.if_icmp .ne 14, 3) := by decide +kernel
theorem dX5_cell_30 : decode cX5_cell 30 = .ok (.aload_n 0, 1) := by decide +kernel
theorem dX5_cell_31 : decode cX5_cell 31 = .ok (.getfield 40, 3) := by decide +kernel
theorem dX5_cell_34 : decode cX5_cell 34 = .ok (.aload_n 0, 1) := by decide +kernel
theorem dX5_cell_35 : decode cX5_cell 35 = .ok (.getfield 10, 3) := by decide +kernel
theorem dX5_cell_38 : decode cX5_cell 38 = .ok (.invokevirtual 127, 3) := by decide +kernel
theorem dX5_cell_41 : decode cX5_cell 41 = .ok (.aload_n 0, 1) := by decide +kernel
theorem dX5_cell_42 : decode cX5_cell 42 = .ok (.iload_n 1, 1) := by decide +kernel
theorem dX5_cell_43 : decode cX5_cell 43 = .ok (.iload_n 2, 1) := by decide +kernel
theorem dX5_cell_44 : decode cX5_cell 44 = .ok (.invokevirtual 164, 3) := by decide +kernel
theorem dX5_cell_47 : decode cX5_cell 47 = .ok (.ireturn, 1) := by decide +kernel
theorem dX5_block_0 : decode cX5_block 0 = .ok (.aload_n 0, 1) := by decide +kernel
theorem dX5_block_1 : decode cX5_block 1 = .ok (.iload_n 1, 1) := by decide +kernel
theorem dX5_block_2 : decode cX5_block 2 = .ok (.invokevirtual 87, 3) := by decide +kernel
theorem dX5_block_5 : decode cX5_block 5 = .ok (.iload_n 2, 1) := by decide +kernel
theorem dX5_block_6 : decode cX5_block 6 = .ok (.iconst 0, 1) := by decide +kernel
theorem dX5_block_7 : decode cX5_block 7 = .ok (.iconst 4, 1) := by decide +kernel
theorem dX5_block_8 : decode cX5_block 8 = .ok (.invokestatic 70, 3) := by decide +kernel
theorem dX5_block_11 : decode cX5_block 11 = .ok (.ifCond .eq 13, 3) := by decide +kernel
theorem dX5_block_14 : decode cX5_block 14 = .ok (.new 74, 3) := by decide +kernel
theorem dX5_block_17 : decode cX5_block 17 = .ok (.dup, 1) := by decide +kernel
theorem dX5_block_18 : decode cX5_block 18 = .ok (.ldc 162, 2) := by decide +kernel
theorem dX5_block_20 : decode cX5_block 20 = .ok (.invokespecial 78, 3) := by decide +kernel
theorem dX5_block_23 : decode cX5_block 23 = .ok (.athrow, 1) := by decide +kernel
theorem dX5_block_24 : decode cX5_block 24 = .ok (.aload_n 0, 1) := by decide +kernel
theorem dX5_block_25 : decode cX5_block 25 = .ok (.getfield 40, 3) := by decide +kernel
theorem dX5_block_28 : decode cX5_block 28 = .ok (.aload_n 0, 1) := by decide +kernel
theorem dX5_block_29 : decode cX5_block 29 = .ok (.getfield 10, 3) := by decide +kernel
theorem dX5_block_32 : decode cX5_block 32 = .ok (.invokevirtual 127, 3) := by decide +kernel
theorem dX5_block_35 : decode cX5_block 35 = .ok (.iload_n 2, 1) := by decide +kernel
theorem dX5_block_36 : decode cX5_block 36 = .ok (.iconst 4, 1) := by decide +kernel
theorem dX5_block_37 : decode cX5_block 37 = .ok (.if_icmp .ne 15, 3) := by decide +kernel
theorem dX5_block_40 : decode cX5_block 40 = .ok (.aload_n 0, 1) := by decide +kernel
theorem dX5_block_41 : decode cX5_block 41 = .ok (.aload_n 0, 1) := by decide +kernel
theorem dX5_block_42 : decode cX5_block 42 = .ok (.getfield 40, 3) := by decide +kernel
theorem dX5_block_45 : decode cX5_block 45 = .ok (.iload_n 1, 1) := by decide +kernel
theorem dX5_block_46 : decode cX5_block 46 = .ok (.invokevirtual 131, 3) := by decide +kernel
theorem dX5_block_49 : decode cX5_block 49 = .ok (.invokevirtual 167, 3) := by decide +kernel
theorem dX5_block_52 : decode cX5_block 52 = .ok (.aload_n 0, 1) := by decide +kernel
theorem dX5_block_53 : decode cX5_block 53 = .ok (.iload_n 1, 1) := by decide +kernel
theorem dX5_block_54 : decode cX5_block 54 = .ok (.iload_n 2, 1) := by decide +kernel
theorem dX5_block_55 : decode cX5_block 55 = .ok (.invokevirtual 170, 3) := by decide +kernel
theorem dX5_block_58 : decode cX5_block 58 = .ok (.ireturn, 1) := by decide +kernel
theorem dX5_move_0 : decode cX5_move 0 = .ok (.aload_n 0, 1) := by decide +kernel
theorem dX5_move_1 : decode cX5_move 1 = .ok (.iload_n 1, 1) := by decide +kernel
theorem dX5_move_2 : decode cX5_move 2 = .ok (.invokevirtual 87, 3) := by decide +kernel
theorem dX5_move_5 : decode cX5_move 5 = .ok (.iload_n 2, 1) := by decide +kernel
theorem dX5_move_6 : decode cX5_move 6 = .ok (.ifCond .ge 13, 3) := by decide +kernel
theorem dX5_move_9 : decode cX5_move 9 = .ok (.new 173, 3) := by decide +kernel
theorem dX5_move_12 : decode cX5_move 12 = .ok (.dup, 1) := by decide +kernel
theorem dX5_move_13 : decode cX5_move 13 = .ok (.ldc 175, 2) := by decide +kernel
theorem dX5_move_15 : decode cX5_move 15 = .ok (.invokespecial 177, 3) := by decide +kernel
theorem dX5_move_18 : decode cX5_move 18 = .ok (.athrow, 1) := by decide +kernel
theorem dX5_move_19 : decode cX5_move 19 = .ok (.aload_n 0, 1) := by decide +kernel
theorem dX5_move_20 : decode cX5_move 20 = .ok (.getfield 40, 3) := by decide +kernel
theorem dX5_move_23 : decode cX5_move 23 = .ok (.aload_n 0, 1) := by decide +kernel
theorem dX5_move_24 : decode cX5_move 24 = .ok (.getfield 10, 3) := by decide +kernel
theorem dX5_move_27 : decode cX5_move 27 = .ok (.invokevirtual 127, 3) := by decide +kernel
theorem dX5_move_30 : decode cX5_move 30 = .ok (.aload_n 0, 1) := by decide +kernel
theorem dX5_move_31 : decode cX5_move 31 = .ok (.getfield 40, 3) := by decide +kernel
theorem dX5_move_34 : decode cX5_move 34 = .ok (.iload_n 1, 1) := by decide +kernel
theorem dX5_move_35 : decode cX5_move 35 = .ok (.invokevirtual 131, 3) := by decide +kernel
theorem dX5_move_38 : decode cX5_move 38 = .ok (.istore_n 3, 1) := by decide +kernel
theorem dX5_move_39 : decode cX5_move 39 = .ok (.aload_n 0, 1) := by decide +kernel
theorem dX5_move_40 : decode cX5_move 40 = .ok (.getfield 40, 3) := by decide +kernel
theorem dX5_move_43 : decode cX5_move 43 = .ok (.iload_n 3, 1) := by decide +kernel
theorem dX5_move_44 : decode cX5_move 44 = .ok (.invokevirtual 134, 3) := by decide +kernel
theorem dX5_move_47 : decode cX5_move 47 = .ok (.ifCond .ne 5, 3) := by decide +kernel
theorem dX5_move_50 : decode cX5_move 50 = .ok (.iconst (-1), 1) := by decide +kernel
theorem dX5_move_51 : decode cX5_move 51 = .ok (.ireturn, 1) := by decide +kernel
theorem dX5_move_52 : decode cX5_move 52 = .ok (.iload_n 2, 1) := by decide +kernel
theorem dX5_move_53 : decode cX5_move 53 = .ok (.aload_n 0, 1) := by decide +kernel
theorem dX5_move_54 : decode cX5_move 54 = .ok (.getfield 47, 3) := by decide +kernel
theorem dX5_move_57 : decode cX5_move 57 = .ok (.aload_n 0, 1) := by decide +kernel
theorem dX5_move_58 : decode cX5_move 58 = .ok (.getfield 10, 3) := by decide +kernel
theorem dX5_move_61 : decode cX5_move 61 = .ok (.aload_n 0, 1) := by decide +kernel
theorem dX5_move_62 : decode cX5_move 62 = .ok (.getfield 40, 3) := by decide +kernel
theorem dX5_move_65 : decode cX5_move 65 = .ok (.iload_n 3, 1) := by decide +kernel
theorem dX5_move_66 : decode cX5_move 66 = .ok (.invokevirtual 138, 3) := by decide +kernel
theorem dX5_move_69 : decode cX5_move 69 = .ok (.if_icmp .ge 17, 3) := by decide +kernel
theorem dX5_move_72 : decode cX5_move 72 = .ok (.aload_n 0, 1) := by decide +kernel
theorem dX5_move_73 : decode cX5_move 73 = .ok (.getfield 47, 3) := by decide +kernel
theorem dX5_move_76 : decode cX5_move 76 = .ok (.getfield 178, 3) := by decide +kernel
theorem dX5_move_79 : decode cX5_move 79 = .ok (.iload_n 2, 1) := by decide +kernel
theorem dX5_move_80 : decode cX5_move 80 = .ok (.invokevirtual 95, 3) := by decide +kernel
theorem dX5_move_83 : decode cX5_move 83 = .ok (.goto 4, 3) := by decide +kernel
theorem dX5_move_86 : decode cX5_move 86 = .ok (.iconst (-1), 1) := by decide +kernel
theorem dX5_move_87 : decode cX5_move 87 = .ok (.ireturn, 1) := by decide +kernel
theorem dX5_value_0 : decode cX5_value 0 = .ok (.iload_n 1, 1) := by decide +kernel
theorem dX5_value_1 : decode cX5_value 1 = .ok (.iconst 0, 1) := by decide +kernel
theorem dX5_value_2 : decode cX5_value 2 = .ok (.bipush 13, 2) := by decide +kernel
theorem dX5_value_4 : decode cX5_value 4 = .ok (.invokestatic 70, 3) := by decide +kernel
theorem dX5_value_7 : decode cX5_value 7 = .ok (.ifCond .eq 13, 3) := by decide +kernel
theorem dX5_value_10 : decode cX5_value 10 = .ok (.new 74, 3) := by decide +kernel
theorem dX5_value_13 : decode cX5_value 13 = .ok (.dup, 1) := by decide +kernel
theorem dX5_value_14 : decode cX5_value 14 = .ok (.ldc 162, 2) := by decide +kernel
theorem dX5_value_16 : decode cX5_value 16 = .ok (.invokespecial 78, 3) := by decide +kernel
theorem dX5_value_19 : decode cX5_value 19 = .ok (.athrow, 1) := by decide +kernel
theorem dX5_value_20 : decode cX5_value 20 = .ok (.iload_n 1, 1) := by decide +kernel
theorem dX5_value_21 : decode cX5_value 21 = .ok (.iconst 3, 1) := by decide +kernel
theorem dX5_value_22 : decode cX5_value 22 = .ok (.iconst 5, 1) := by decide +kernel
theorem dX5_value_23 : decode cX5_value 23 = .ok (.invokestatic 70, 3) := by decide +kernel
theorem dX5_value_26 : decode cX5_value 26 = .ok (.ifCond .ne 7, 3) := by decide +kernel
theorem dX5_value_29 : decode cX5_value 29 = .ok (.aload_n 0, 1) := by decide +kernel
theorem dX5_value_30 : decode cX5_value 30 = .ok (.invokevirtual 181, 3) := by decide +kernel
theorem dX5_value_33 : decode cX5_value 33 = .ok (.aload_n 0, 1) := by decide +kernel
theorem dX5_value_34 : decode cX5_value 34 = .ok (.iload_n 1, 1) := by decide +kernel
theorem dX5_value_35 : decode cX5_value 35 = .ok (.invokevirtual 184, 3) := by decide +kernel
theorem dX5_value_38 : decode cX5_value 38 = .ok (.ireturn, 1) := by decide +kernel
theorem dX5_taken_0 : decode cX5_taken 0 = .ok (.iload_n 1, 1) := by decide +kernel
theorem dX5_taken_1 : decode cX5_taken 1 = .ok (.iconst 0, 1) := by decide +kernel
theorem dX5_taken_2 : decode cX5_taken 2 = .ok (.aload_n 0, 1) := by decide +kernel
theorem dX5_taken_3 : decode cX5_taken 3 = .ok (.getfield 10, 3) := by decide +kernel
theorem dX5_taken_6 : decode cX5_taken 6 = .ok (.invokevirtual 187, 3) := by decide +kernel
theorem dX5_taken_9 : decode cX5_taken 9 = .ok (.iconst 1, 1) := by decide +kernel
theorem dX5_taken_10 : decode cX5_taken 10 = .ok (.isub, 1) := by decide +kernel
theorem dX5_taken_11 : decode cX5_taken 11 = .ok (.invokestatic 70, 3) := by decide +kernel
theorem dX5_taken_14 : decode cX5_taken 14 = .ok (.ifCond .eq 13, 3) := by decide +kernel
theorem dX5_taken_17 : decode cX5_taken 17 = .ok (.new 173, 3) := by decide +kernel
theorem dX5_taken_20 : decode cX5_taken 20 = .ok (.dup, 1) := by decide +kernel
theorem dX5_taken_21 : decode cX5_taken 21 = .ok (.ldc 191, 2) := by decide +kernel
theorem dX5_taken_23 : decode cX5_taken 23 = .ok (.invokespecial 177, 3) := by decide +kernel
theorem dX5_taken_26 : decode cX5_taken 26 = .ok (.athrow, 1) := by decide +kernel
theorem dX5_taken_27 : decode cX5_taken 27 = .ok (.iload_n 2, 1) := by decide +kernel
theorem dX5_taken_28 : decode cX5_taken 28 = .ok (.iconst 0, 1) := by decide +kernel
theorem dX5_taken_29 : decode cX5_taken 29 = .ok (.iconst 2, 1) := by decide +kernel
theorem dX5_taken_30 : decode cX5_taken 30 = .ok (.invokestatic 70, 3) := by decide +kernel
theorem dX5_taken_33 : decode cX5_taken 33 = .ok (.ifCond .eq 13, 3) := by decide +kernel
theorem dX5_taken_36 : decode cX5_taken 36 = .ok (.new 74, 3) := by decide +kernel
theorem dX5_taken_39 : decode cX5_taken 39 = .ok (.dup, 1) := by decide +kernel
theorem dX5_taken_40 : decode cX5_taken 40 = .ok (.ldc 162, 2) := by decide +kernel
theorem dX5_taken_42 : decode cX5_taken 42 = .ok (.invokespecial 78, 3) := by decide +kernel
theorem dX5_taken_45 : decode cX5_taken 45 = .ok (.athrow, 1) := by decide +kernel
theorem dX5_taken_46 : decode cX5_taken 46 = .ok (.aload_n 0, 1) := by decide +kernel
theorem dX5_taken_47 : decode cX5_taken 47 = .ok (.getfield 10, 3) := by decide +kernel
theorem dX5_taken_50 : decode cX5_taken 50 = .ok (.iload_n 1, 1) := by decide +kernel
theorem dX5_taken_51 : decode cX5_taken 51 = .ok (.iload_n 2, 1) := by decide +kernel
theorem dX5_taken_52 : decode cX5_taken 52 = .ok (.invokevirtual 193, 3) := by decide +kernel
theorem dX5_taken_55 : decode cX5_taken 55 = .ok (.ireturn, 1) := by decide +kernel
theorem dX5_cutsAround_0 : decode cX5_cutsAround 0 = .ok (.aload_n 0, 1) := by decide +kernel
theorem dX5_cutsAround_1 : decode cX5_cutsAround 1 = .ok (.iload_n 1, 1) := by decide +kernel
theorem dX5_cutsAround_2 : decode cX5_cutsAround 2 = .ok (.iload_n 2, 1) := by decide +kernel
theorem dX5_cutsAround_3 : decode cX5_cutsAround 3 = .ok (.iload_n 3, 1) := by decide +kernel
theorem dX5_cutsAround_4 : decode cX5_cutsAround 4 = .ok (.invokevirtual 119, 3) := by decide +kernel
theorem dX5_cutsAround_7 : decode cX5_cutsAround 7 = .ok (.aload_n 0, 1) := by decide +kernel
theorem dX5_cutsAround_8 : decode cX5_cutsAround 8 = .ok (.getfield 16, 3) := by decide +kernel
theorem dX5_cutsAround_11 : decode cX5_cutsAround 11 = .ok (.aload_n 0, 1) := by decide +kernel
theorem dX5_cutsAround_12 : decode cX5_cutsAround 12 = .ok (.getfield 10, 3) := by decide +kernel
theorem dX5_cutsAround_15 : decode cX5_cutsAround 15 = .ok (.invokevirtual 196, 3) := by decide +kernel
theorem dX5_cutsAround_18 : decode cX5_cutsAround 18 = .ok (.aload_n 0, 1) := by decide +kernel
theorem dX5_cutsAround_19 : decode cX5_cutsAround 19 = .ok (.getfield 16, 3) := by decide +kernel
theorem dX5_cutsAround_22 : decode cX5_cutsAround 22 = .ok (.iload_n 1, 1) := by decide +kernel
theorem dX5_cutsAround_23 : decode cX5_cutsAround 23 = .ok (.iload_n 2, 1) := by decide +kernel
theorem dX5_cutsAround_24 : decode cX5_cutsAround 24 = .ok (.iload_n 3, 1) := by decide +kernel
theorem dX5_cutsAround_25 : decode cX5_cutsAround 25 = .ok (.invokevirtual 123, 3) := by decide +kernel
theorem dX5_cutsAround_28 : decode cX5_cutsAround 28 = .ok (.ireturn, 1) := by decide +kernel
theorem dX5_takable_0 : decode cX5_takable 0 = .ok (.aload_n 0, 1) := by decide +kernel
theorem dX5_takable_1 : decode cX5_takable 1 = .ok (.getfield 16, 3) := by decide +kernel
theorem dX5_takable_4 : decode cX5_takable 4 = .ok (.aload_n 0, 1) := by decide +kernel
theorem dX5_takable_5 : decode cX5_takable 5 = .ok (.getfield 10, 3) := by decide +kernel
theorem dX5_takable_8 : decode cX5_takable 8 = .ok (.invokevirtual 196, 3) := by decide +kernel
theorem dX5_takable_11 : decode cX5_takable 11 = .ok (.aload_n 0, 1) := by decide +kernel
theorem dX5_takable_12 : decode cX5_takable 12 = .ok (.aload_n 0, 1) := by decide +kernel
theorem dX5_takable_13 : decode cX5_takable 13 = .ok (.getfield 16, 3) := by decide +kernel
theorem dX5_takable_16 : decode cX5_takable 16 = .ok (.invokevirtual 148, 3) := by decide +kernel
theorem dX5_takable_19 : decode cX5_takable 19 = .ok (.ireturn, 1) := by decide +kernel
theorem dX5_leftStranded_0 : decode cX5_leftStranded 0 = .ok (.aload_n 0, 1) := by decide +kernel
theorem dX5_leftStranded_1 : decode cX5_leftStranded 1 = .ok (.getfield 16, 3) := by decide +kernel
theorem dX5_leftStranded_4 : decode cX5_leftStranded 4 = .ok (.aload_n 0, 1) := by decide +kernel
theorem dX5_leftStranded_5 : decode cX5_leftStranded 5 = .ok (.getfield 10, 3) := by decide +kernel
theorem dX5_leftStranded_8 : decode cX5_leftStranded 8 = .ok (.invokevirtual 196, 3) := by decide +kernel
theorem dX5_leftStranded_11 : decode cX5_leftStranded 11 = .ok (.aload_n 0, 1) := by decide +kernel
theorem dX5_leftStranded_12 : decode cX5_leftStranded 12 = .ok (.aload_n 0, 1) := by decide +kernel
theorem dX5_leftStranded_13 : decode cX5_leftStranded 13 = .ok (.getfield 16, 3) := by decide +kernel
theorem dX5_leftStranded_16 : decode cX5_leftStranded 16 = .ok (.invokevirtual 148, 3) := by decide +kernel
theorem dX5_leftStranded_19 : decode cX5_leftStranded 19 = .ok (.pop, 1) := by decide +kernel
theorem dX5_leftStranded_20 : decode cX5_leftStranded 20 = .ok (.aload_n 0, 1) := by decide +kernel
theorem dX5_leftStranded_21 : decode cX5_leftStranded 21 = .ok (.getfield 40, 3) := by decide +kernel
theorem dX5_leftStranded_24 : decode cX5_leftStranded 24 = .ok (.invokevirtual 199, 3) := by decide +kernel
theorem dX5_leftStranded_27 : decode cX5_leftStranded 27 = .ok (.ireturn, 1) := by decide +kernel
theorem dX5_daysWhole_0 : decode cX5_daysWhole 0 = .ok (.aload_n 0, 1) := by decide +kernel
theorem dX5_daysWhole_1 : decode cX5_daysWhole 1 = .ok (.iload_n 1, 1) := by decide +kernel
theorem dX5_daysWhole_2 : decode cX5_daysWhole 2 = .ok (.invokevirtual 87, 3) := by decide +kernel
theorem dX5_daysWhole_5 : decode cX5_daysWhole 5 = .ok (.aload_n 0, 1) := by decide +kernel
theorem dX5_daysWhole_6 : decode cX5_daysWhole 6 = .ok (.getfield 40, 3) := by decide +kernel
theorem dX5_daysWhole_9 : decode cX5_daysWhole 9 = .ok (.aload_n 0, 1) := by decide +kernel
theorem dX5_daysWhole_10 : decode cX5_daysWhole 10 = .ok (.getfield 10, 3) := by decide +kernel
theorem dX5_daysWhole_13 : decode cX5_daysWhole 13 = .ok (.invokevirtual 127, 3) := by decide +kernel
theorem dX5_daysWhole_16 : decode cX5_daysWhole 16 = .ok (.aload_n 0, 1) := by decide +kernel
theorem dX5_daysWhole_17 : decode cX5_daysWhole 17 = .ok (.getfield 40, 3) := by decide +kernel
theorem dX5_daysWhole_20 : decode cX5_daysWhole 20 = .ok (.iload_n 1, 1) := by decide +kernel
theorem dX5_daysWhole_21 : decode cX5_daysWhole 21 = .ok (.invokevirtual 131, 3) := by decide +kernel
theorem dX5_daysWhole_24 : decode cX5_daysWhole 24 = .ok (.istore_n 2, 1) := by decide +kernel
theorem dX5_daysWhole_25 : decode cX5_daysWhole 25 = .ok (.aload_n 0, 1) := by decide +kernel
theorem dX5_daysWhole_26 : decode cX5_daysWhole 26 = .ok (.getfield 40, 3) := by decide +kernel
theorem dX5_daysWhole_29 : decode cX5_daysWhole 29 = .ok (.iload_n 2, 1) := by decide +kernel
theorem dX5_daysWhole_30 : decode cX5_daysWhole 30 = .ok (.invokevirtual 134, 3) := by decide +kernel
theorem dX5_daysWhole_33 : decode cX5_daysWhole 33 = .ok (.ifCond .ne 5, 3) := by decide +kernel
theorem dX5_daysWhole_36 : decode cX5_daysWhole 36 = .ok (.iconst (-1), 1) := by decide +kernel
theorem dX5_daysWhole_37 : decode cX5_daysWhole 37 = .ok (.ireturn, 1) := by decide +kernel
theorem dX5_daysWhole_38 : decode cX5_daysWhole 38 = .ok (.aload_n 0, 1) := by decide +kernel
theorem dX5_daysWhole_39 : decode cX5_daysWhole 39 = .ok (.getfield 16, 3) := by decide +kernel
theorem dX5_daysWhole_42 : decode cX5_daysWhole 42 = .ok (.aload_n 0, 1) := by decide +kernel
theorem dX5_daysWhole_43 : decode cX5_daysWhole 43 = .ok (.getfield 10, 3) := by decide +kernel
theorem dX5_daysWhole_46 : decode cX5_daysWhole 46 = .ok (.invokevirtual 196, 3) := by decide +kernel
theorem dX5_daysWhole_49 : decode cX5_daysWhole 49 = .ok (.iconst 1, 1) := by decide +kernel
theorem dX5_daysWhole_50 : decode cX5_daysWhole 50 = .ok (.istore_n 3, 1) := by decide +kernel
theorem dX5_daysWhole_51 : decode cX5_daysWhole 51 = .ok (.iload_n 3, 1) := by decide +kernel
theorem dX5_daysWhole_52 : decode cX5_daysWhole 52 = .ok (.bipush 60, 2) := by decide +kernel
theorem dX5_daysWhole_54 : decode cX5_daysWhole 54 = .ok (.if_icmp .gt 30, 3) := by decide +kernel
theorem dX5_daysWhole_57 : decode cX5_daysWhole 57 = .ok (.aload_n 0, 1) := by decide +kernel
theorem dX5_daysWhole_58 : decode cX5_daysWhole 58 = .ok (.getfield 16, 3) := by decide +kernel
theorem dX5_daysWhole_61 : decode cX5_daysWhole 61 = .ok (.invokevirtual 159, 3) := by decide +kernel
theorem dX5_daysWhole_64 : decode cX5_daysWhole 64 = .ok (.aload_n 0, 1) := by decide +kernel
theorem dX5_daysWhole_65 : decode cX5_daysWhole 65 = .ok (.aload_n 0, 1) := by decide +kernel
theorem dX5_daysWhole_66 : decode cX5_daysWhole 66 = .ok (.getfield 16, 3) := by decide +kernel
theorem dX5_daysWhole_69 : decode cX5_daysWhole 69 = .ok (.iload_n 2, 1) := by decide +kernel
theorem dX5_daysWhole_70 : decode cX5_daysWhole 70 = .ok (.invokevirtual 202, 3) := by decide +kernel
theorem dX5_daysWhole_73 : decode cX5_daysWhole 73 = .ok (.ifCond .eq 5, 3) := by decide +kernel
theorem dX5_daysWhole_76 : decode cX5_daysWhole 76 = .ok (.iload_n 3, 1) := by decide +kernel
theorem dX5_daysWhole_77 : decode cX5_daysWhole 77 = .ok (.ireturn, 1) := by decide +kernel
theorem dX5_daysWhole_78 : decode cX5_daysWhole 78 = .ok (.iinc 3 1, 3) := by decide +kernel
theorem dX5_daysWhole_81 : decode cX5_daysWhole 81 = .ok (.goto (-30), 3) := by decide +kernel
theorem dX5_daysWhole_84 : decode cX5_daysWhole 84 = .ok (.iconst (-1), 1) := by decide +kernel
theorem dX5_daysWhole_85 : decode cX5_daysWhole 85 = .ok (.ireturn, 1) := by decide +kernel
theorem dX5_daysToWater_0 : decode cX5_daysToWater 0 = .ok (.aload_n 0, 1) := by decide +kernel
theorem dX5_daysToWater_1 : decode cX5_daysToWater 1 = .ok (.getfield 16, 3) := by decide +kernel
theorem dX5_daysToWater_4 : decode cX5_daysToWater 4 = .ok (.aload_n 0, 1) := by decide +kernel
theorem dX5_daysToWater_5 : decode cX5_daysToWater 5 = .ok (.getfield 10, 3) := by decide +kernel
theorem dX5_daysToWater_8 : decode cX5_daysToWater 8 = .ok (.invokevirtual 196, 3) := by decide +kernel
theorem dX5_daysToWater_11 : decode cX5_daysToWater 11 = .ok (.iconst 0, 1) := by decide +kernel
theorem dX5_daysToWater_12 : decode cX5_daysToWater 12 = .ok (.istore_n 1, 1) := by decide +kernel
theorem dX5_daysToWater_13 : decode cX5_daysToWater 13 = .ok (.iload_n 1, 1) := by decide +kernel
theorem dX5_daysToWater_14 : decode cX5_daysToWater 14 = .ok (.bipush 60, 2) := by decide +kernel
theorem dX5_daysToWater_16 : decode cX5_daysToWater 16 = .ok (.if_icmp .gt 28, 3) := by decide +kernel
theorem dX5_daysToWater_19 : decode cX5_daysToWater 19 = .ok (.aload_n 0, 1) := by decide +kernel
theorem dX5_daysToWater_20 : decode cX5_daysToWater 20 = .ok (.getfield 16, 3) := by decide +kernel
theorem dX5_daysToWater_23 : decode cX5_daysToWater 23 = .ok (.invokevirtual 206, 3) := by decide +kernel
theorem dX5_daysToWater_26 : decode cX5_daysToWater 26 = .ok (.ifCond .ne 5, 3) := by decide +kernel
theorem dX5_daysToWater_29 : decode cX5_daysToWater 29 = .ok (.iload_n 1, 1) := by decide +kernel
theorem dX5_daysToWater_30 : decode cX5_daysToWater 30 = .ok (.ireturn, 1) := by decide +kernel
theorem dX5_daysToWater_31 : decode cX5_daysToWater 31 = .ok (.aload_n 0, 1) := by decide +kernel
theorem dX5_daysToWater_32 : decode cX5_daysToWater 32 = .ok (.getfield 16, 3) := by decide +kernel
theorem dX5_daysToWater_35 : decode cX5_daysToWater 35 = .ok (.invokevirtual 159, 3) := by decide +kernel
theorem dX5_daysToWater_38 : decode cX5_daysToWater 38 = .ok (.iinc 1 1, 3) := by decide +kernel
theorem dX5_daysToWater_41 : decode cX5_daysToWater 41 = .ok (.goto (-28), 3) := by decide +kernel
theorem dX5_daysToWater_44 : decode cX5_daysToWater 44 = .ok (.iconst (-1), 1) := by decide +kernel
theorem dX5_daysToWater_45 : decode cX5_daysToWater 45 = .ok (.ireturn, 1) := by decide +kernel
theorem dX5_barredBy_0 : decode cX5_barredBy 0 = .ok (.aload_n 0, 1) := by decide +kernel
theorem dX5_barredBy_1 : decode cX5_barredBy 1 = .ok (.invokevirtual 181, 3) := by decide +kernel
theorem dX5_barredBy_4 : decode cX5_barredBy 4 = .ok (.aload_n 0, 1) := by decide +kernel
theorem dX5_barredBy_5 : decode cX5_barredBy 5 = .ok (.invokevirtual 209, 3) := by decide +kernel
theorem dX5_barredBy_8 : decode cX5_barredBy 8 = .ok (.istore_n 1, 1) := by decide +kernel
theorem dX5_barredBy_9 : decode cX5_barredBy 9 = .ok (.iload_n 1, 1) := by decide +kernel
theorem dX5_barredBy_10 : decode cX5_barredBy 10 = .ok (.iconst (-1), 1) := by decide +kernel
theorem dX5_barredBy_11 : decode cX5_barredBy 11 = .ok (.if_icmp .ne 5, 3) := by decide +kernel
theorem dX5_barredBy_14 : decode cX5_barredBy 14 = .ok (.iconst (-1), 1) := by decide +kernel
theorem dX5_barredBy_15 : decode cX5_barredBy 15 = .ok (.ireturn, 1) := by decide +kernel
theorem dX5_barredBy_16 : decode cX5_barredBy 16 = .ok (.aload_n 0, 1) := by decide +kernel
theorem dX5_barredBy_17 : decode cX5_barredBy 17 = .ok (.getfield 16, 3) := by decide +kernel
theorem dX5_barredBy_20 : decode cX5_barredBy 20 = .ok (.aload_n 0, 1) := by decide +kernel
theorem dX5_barredBy_21 : decode cX5_barredBy 21 = .ok (.getfield 10, 3) := by decide +kernel
theorem dX5_barredBy_24 : decode cX5_barredBy 24 = .ok (.invokevirtual 196, 3) := by decide +kernel
theorem dX5_barredBy_27 : decode cX5_barredBy 27 = .ok (.iconst 0, 1) := by decide +kernel
theorem dX5_barredBy_28 : decode cX5_barredBy 28 = .ok (.istore_n 2, 1) := by decide +kernel
theorem dX5_barredBy_29 : decode cX5_barredBy 29 = .ok (.iload_n 2, 1) := by decide +kernel
theorem dX5_barredBy_30 : decode cX5_barredBy 30 = .ok (.aload_n 0, 1) := by decide +kernel
theorem dX5_barredBy_31 : decode cX5_barredBy 31 = .ok (.getfield 10, 3) := by decide +kernel
theorem dX5_barredBy_34 : decode cX5_barredBy 34 = .ok (.invokevirtual 212, 3) := by decide +kernel
theorem dX5_barredBy_37 : decode cX5_barredBy 37 = .ok (.if_icmp .ge 43, 3) := by decide +kernel
theorem dX5_barredBy_40 : decode cX5_barredBy 40 = .ok (.aload_n 0, 1) := by decide +kernel
theorem dX5_barredBy_41 : decode cX5_barredBy 41 = .ok (.getfield 10, 3) := by decide +kernel
theorem dX5_barredBy_44 : decode cX5_barredBy 44 = .ok (.iload_n 2, 1) := by decide +kernel
theorem dX5_barredBy_45 : decode cX5_barredBy 45 = .ok (.invokevirtual 215, 3) := by decide +kernel
theorem dX5_barredBy_48 : decode cX5_barredBy 48 = .ok (.ifCond .eq 26, 3) := by decide +kernel
theorem dX5_barredBy_51 : decode cX5_barredBy 51 = .ok (.aload_n 0, 1) := by decide +kernel
theorem dX5_barredBy_52 : decode cX5_barredBy 52 = .ok (.getfield 40, 3) := by decide +kernel
theorem dX5_barredBy_55 : decode cX5_barredBy 55 = .ok (.iload_n 2, 1) := by decide +kernel
theorem dX5_barredBy_56 : decode cX5_barredBy 56 = .ok (.invokevirtual 131, 3) := by decide +kernel
theorem dX5_barredBy_59 : decode cX5_barredBy 59 = .ok (.iload_n 1, 1) := by decide +kernel
theorem dX5_barredBy_60 : decode cX5_barredBy 60 = .ok (.if_icmp .eq 14, 3) := by decide +kernel
theorem dX5_barredBy_63 : decode cX5_barredBy 63 = .ok (.aload_n 0, 1) := by decide +kernel
theorem dX5_barredBy_64 : decode cX5_barredBy 64 = .ok (.iload_n 2, 1) := by decide +kernel
theorem dX5_barredBy_65 : decode cX5_barredBy 65 = .ok (.iload_n 1, 1) := by decide +kernel
theorem dX5_barredBy_66 : decode cX5_barredBy 66 = .ok (.invokevirtual 218, 3) := by decide +kernel
theorem dX5_barredBy_69 : decode cX5_barredBy 69 = .ok (.ifCond .eq 5, 3) := by decide +kernel
theorem dX5_barredBy_72 : decode cX5_barredBy 72 = .ok (.iload_n 2, 1) := by decide +kernel
theorem dX5_barredBy_73 : decode cX5_barredBy 73 = .ok (.ireturn, 1) := by decide +kernel
theorem dX5_barredBy_74 : decode cX5_barredBy 74 = .ok (.iinc 2 1, 3) := by decide +kernel
theorem dX5_barredBy_77 : decode cX5_barredBy 77 = .ok (.goto (-48), 3) := by decide +kernel
theorem dX5_barredBy_80 : decode cX5_barredBy 80 = .ok (.iconst (-1), 1) := by decide +kernel
theorem dX5_barredBy_81 : decode cX5_barredBy 81 = .ok (.ireturn, 1) := by decide +kernel
theorem dX5_harvest_0 : decode cX5_harvest 0 = .ok (.aload_n 0, 1) := by decide +kernel
theorem dX5_harvest_1 : decode cX5_harvest 1 = .ok (.getfield 10, 3) := by decide +kernel
theorem dX5_harvest_4 : decode cX5_harvest 4 = .ok (.getfield 84, 3) := by decide +kernel
theorem dX5_harvest_7 : decode cX5_harvest 7 = .ok (.ifCond .ne 7, 3) := by decide +kernel
theorem dX5_harvest_10 : decode cX5_harvest 10 = .ok (.dconst 0, 1) := by decide +kernel
theorem dX5_harvest_11 : decode cX5_harvest 11 = .ok (.goto 20, 3) := by decide +kernel
theorem dX5_harvest_14 : decode cX5_harvest 14 = .ok (.aload_n 0, 1) := by decide +kernel
theorem dX5_harvest_15 : decode cX5_harvest 15 = .ok (.getfield 10, 3) := by decide +kernel
theorem dX5_harvest_18 : decode cX5_harvest 18 = .ok (.getfield 221, 3) := by decide +kernel
theorem dX5_harvest_21 : decode cX5_harvest 21 = .ok (.i2d, 1) := by decide +kernel
theorem dX5_harvest_22 : decode cX5_harvest 22 = .ok (.aload_n 0, 1) := by decide +kernel
theorem dX5_harvest_23 : decode cX5_harvest 23 = .ok (.getfield 10, 3) := by decide +kernel
theorem dX5_harvest_26 : decode cX5_harvest 26 = .ok (.getfield 84, 3) := by decide +kernel
theorem dX5_harvest_29 : decode cX5_harvest 29 = .ok (.i2d, 1) := by decide +kernel
theorem dX5_harvest_30 : decode cX5_harvest 30 = .ok (.ddiv, 1) := by decide +kernel
theorem dX5_harvest_31 : decode cX5_harvest 31 = .ok (.dreturn, 1) := by decide +kernel
theorem dX5_append_0 : decode cX5_append 0 = .ok (.iload_n 1, 1) := by decide +kernel
theorem dX5_append_1 : decode cX5_append 1 = .ok (.iconst 0, 1) := by decide +kernel
theorem dX5_append_2 : decode cX5_append 2 = .ok (.bipush 127, 2) := by decide +kernel
theorem dX5_append_4 : decode cX5_append 4 = .ok (.invokestatic 70, 3) := by decide +kernel
theorem dX5_append_7 : decode cX5_append 7 = .ok (.ifCond .eq 13, 3) := by decide +kernel
theorem dX5_append_10 : decode cX5_append 10 = .ok (.new 74, 3) := by decide +kernel
theorem dX5_append_13 : decode cX5_append 13 = .ok (.dup, 1) := by decide +kernel
theorem dX5_append_14 : decode cX5_append 14 = .ok (.ldc 224, 2) := by decide +kernel
theorem dX5_append_16 : decode cX5_append 16 = .ok (.invokespecial 78, 3) := by decide +kernel
theorem dX5_append_19 : decode cX5_append 19 = .ok (.athrow, 1) := by decide +kernel
theorem dX5_append_20 : decode cX5_append 20 = .ok (.aload_n 0, 1) := by decide +kernel
theorem dX5_append_21 : decode cX5_append 21 = .ok (.getfield 33, 3) := by decide +kernel
theorem dX5_append_24 : decode cX5_append 24 = .ok (.getfield 226, 3) := by decide +kernel
theorem dX5_append_27 : decode cX5_append 27 = .ok (.bipush 60, 2) := by decide +kernel
theorem dX5_append_29 : decode cX5_append 29 = .ok (.if_icmp .lt 13, 3) := by decide +kernel
theorem dX5_append_32 : decode cX5_append 32 = .ok (.new 99, 3) := by decide +kernel
theorem dX5_append_35 : decode cX5_append 35 = .ok (.dup, 1) := by decide +kernel
theorem dX5_append_36 : decode cX5_append 36 = .ok (.ldc 229, 2) := by decide +kernel
theorem dX5_append_38 : decode cX5_append 38 = .ok (.invokespecial 103, 3) := by decide +kernel
theorem dX5_append_41 : decode cX5_append 41 = .ok (.athrow, 1) := by decide +kernel
theorem dX5_append_42 : decode cX5_append 42 = .ok (.aload_n 0, 1) := by decide +kernel
theorem dX5_append_43 : decode cX5_append 43 = .ok (.getfield 33, 3) := by decide +kernel
theorem dX5_append_46 : decode cX5_append 46 = .ok (.iload_n 1, 1) := by decide +kernel
theorem dX5_append_47 : decode cX5_append 47 = .ok (.invokevirtual 231, 3) := by decide +kernel
theorem dX5_append_50 : decode cX5_append 50 = .ok (.aload_n 0, 1) := by decide +kernel
theorem dX5_append_51 : decode cX5_append 51 = .ok (.getfield 33, 3) := by decide +kernel
theorem dX5_append_54 : decode cX5_append 54 = .ok (.getfield 226, 3) := by decide +kernel
theorem dX5_append_57 : decode cX5_append 57 = .ok (.ireturn, 1) := by decide +kernel
theorem dX5_clearText_0 : decode cX5_clearText 0 = .ok (.aload_n 0, 1) := by decide +kernel
theorem dX5_clearText_1 : decode cX5_clearText 1 = .ok (.getfield 33, 3) := by decide +kernel
theorem dX5_clearText_4 : decode cX5_clearText 4 = .ok (.getfield 226, 3) := by decide +kernel
theorem dX5_clearText_7 : decode cX5_clearText 7 = .ok (.istore_n 1, 1) := by decide +kernel
theorem dX5_clearText_8 : decode cX5_clearText 8 = .ok (.aload_n 0, 1) := by decide +kernel
theorem dX5_clearText_9 : decode cX5_clearText 9 = .ok (.getfield 33, 3) := by decide +kernel
theorem dX5_clearText_12 : decode cX5_clearText 12 = .ok (.iconst 0, 1) := by decide +kernel
theorem dX5_clearText_13 : decode cX5_clearText 13 = .ok (.putfield 226, 3) := by decide +kernel
theorem dX5_clearText_16 : decode cX5_clearText 16 = .ok (.iload_n 1, 1) := by decide +kernel
theorem dX5_clearText_17 : decode cX5_clearText 17 = .ok (.ireturn, 1) := by decide +kernel
theorem dX5_parse_0 : decode cX5_parse 0 = .ok (.aload_n 0, 1) := by decide +kernel
theorem dX5_parse_1 : decode cX5_parse 1 = .ok (.getfield 33, 3) := by decide +kernel
theorem dX5_parse_4 : decode cX5_parse 4 = .ok (.invokevirtual 233, 3) := by decide +kernel
theorem dX5_parse_7 : decode cX5_parse 7 = .ok (.istore_n 1, 1) := by decide +kernel
theorem dX5_parse_8 : decode cX5_parse 8 = .ok (.iload_n 1, 1) := by decide +kernel
theorem dX5_parse_9 : decode cX5_parse 9 = .ok (.iconst (-1), 1) := by decide +kernel
theorem dX5_parse_10 : decode cX5_parse 10 = .ok (.if_icmp .eq 8, 3) := by decide +kernel
theorem dX5_parse_13 : decode cX5_parse 13 = .ok (.bipush (-10), 2) := by decide +kernel
theorem dX5_parse_15 : decode cX5_parse 15 = .ok (.iload_n 1, 1) := by decide +kernel
theorem dX5_parse_16 : decode cX5_parse 16 = .ok (.isub, 1) := by decide +kernel
theorem dX5_parse_17 : decode cX5_parse 17 = .ok (.ireturn, 1) := by decide +kernel
theorem dX5_parse_18 : decode cX5_parse 18 = .ok (.aload_n 0, 1) := by decide +kernel
theorem dX5_parse_19 : decode cX5_parse 19 = .ok (.invokevirtual 81, 3) := by decide +kernel
theorem dX5_parse_22 : decode cX5_parse 22 = .ok (.aload_n 0, 1) := by decide +kernel
theorem dX5_parse_23 : decode cX5_parse 23 = .ok (.getfield 10, 3) := by decide +kernel
theorem dX5_parse_26 : decode cX5_parse 26 = .ok (.aload_n 0, 1) := by decide +kernel
theorem dX5_parse_27 : decode cX5_parse 27 = .ok (.getfield 33, 3) := by decide +kernel
theorem dX5_parse_30 : decode cX5_parse 30 = .ok (.getfield 236, 3) := by decide +kernel
theorem dX5_parse_33 : decode cX5_parse 33 = .ok (.aload_n 0, 1) := by decide +kernel
theorem dX5_parse_34 : decode cX5_parse 34 = .ok (.getfield 33, 3) := by decide +kernel
theorem dX5_parse_37 : decode cX5_parse 37 = .ok (.getfield 239, 3) := by decide +kernel
theorem dX5_parse_40 : decode cX5_parse 40 = .ok (.invokevirtual 63, 3) := by decide +kernel
theorem dX5_parse_43 : decode cX5_parse 43 = .ok (.iconst 0, 1) := by decide +kernel
theorem dX5_parse_44 : decode cX5_parse 44 = .ok (.istore_n 2, 1) := by decide +kernel
theorem dX5_parse_45 : decode cX5_parse 45 = .ok (.iload_n 2, 1) := by decide +kernel
theorem dX5_parse_46 : decode cX5_parse 46 = .ok (.aload_n 0, 1) := by decide +kernel
theorem dX5_parse_47 : decode cX5_parse 47 = .ok (.getfield 10, 3) := by decide +kernel
theorem dX5_parse_50 : decode cX5_parse 50 = .ok (.invokevirtual 212, 3) := by decide +kernel
theorem dX5_parse_53 : decode cX5_parse 53 = .ok (.if_icmp .ge 40, 3) := by decide +kernel
theorem dX5_parse_56 : decode cX5_parse 56 = .ok (.aload_n 0, 1) := by decide +kernel
theorem dX5_parse_57 : decode cX5_parse 57 = .ok (.getfield 10, 3) := by decide +kernel
theorem dX5_parse_60 : decode cX5_parse 60 = .ok (.iload_n 2, 1) := by decide +kernel
theorem dX5_parse_61 : decode cX5_parse 61 = .ok (.aload_n 0, 1) := by decide +kernel
theorem dX5_parse_62 : decode cX5_parse 62 = .ok (.getfield 33, 3) := by decide +kernel
theorem dX5_parse_65 : decode cX5_parse 65 = .ok (.aload_n 0, 1) := by decide +kernel
theorem dX5_parse_66 : decode cX5_parse 66 = .ok (.getfield 10, 3) := by decide +kernel
theorem dX5_parse_69 : decode cX5_parse 69 = .ok (.iload_n 2, 1) := by decide +kernel
theorem dX5_parse_70 : decode cX5_parse 70 = .ok (.invokevirtual 242, 3) := by decide +kernel
theorem dX5_parse_73 : decode cX5_parse 73 = .ok (.aload_n 0, 1) := by decide +kernel
theorem dX5_parse_74 : decode cX5_parse 74 = .ok (.getfield 10, 3) := by decide +kernel
theorem dX5_parse_77 : decode cX5_parse 77 = .ok (.iload_n 2, 1) := by decide +kernel
theorem dX5_parse_78 : decode cX5_parse 78 = .ok (.invokevirtual 245, 3) := by decide +kernel
theorem dX5_parse_81 : decode cX5_parse 81 = .ok (.invokevirtual 248, 3) := by decide +kernel
theorem dX5_parse_84 : decode cX5_parse 84 = .ok (.invokevirtual 104, 3) := by decide +kernel
theorem dX5_parse_87 : decode cX5_parse 87 = .ok (.iinc 2 1, 3) := by decide +kernel
theorem dX5_parse_90 : decode cX5_parse 90 = .ok (.goto (-45), 3) := by decide +kernel
theorem dX5_parse_93 : decode cX5_parse 93 = .ok (.aload_n 0, 1) := by decide +kernel
theorem dX5_parse_94 : decode cX5_parse 94 = .ok (.getfield 10, 3) := by decide +kernel
theorem dX5_parse_97 : decode cX5_parse 97 = .ok (.getfield 84, 3) := by decide +kernel
theorem dX5_parse_100 : decode cX5_parse 100 = .ok (.ireturn, 1) := by decide +kernel
theorem dX5_undo_0 : decode cX5_undo 0 = .ok (.aload_n 0, 1) := by decide +kernel
theorem dX5_undo_1 : decode cX5_undo 1 = .ok (.getfield 27, 3) := by decide +kernel
theorem dX5_undo_4 : decode cX5_undo 4 = .ok (.ifCond .gt 13, 3) := by decide +kernel
theorem dX5_undo_7 : decode cX5_undo 7 = .ok (.new 99, 3) := by decide +kernel
theorem dX5_undo_10 : decode cX5_undo 10 = .ok (.dup, 1) := by decide +kernel
theorem dX5_undo_11 : decode cX5_undo 11 = .ok (.ldc 251, 2) := by decide +kernel
theorem dX5_undo_13 : decode cX5_undo 13 = .ok (.invokespecial 103, 3) := by decide +kernel
theorem dX5_undo_16 : decode cX5_undo 16 = .ok (.athrow, 1) := by decide +kernel
theorem dX5_undo_17 : decode cX5_undo 17 = .ok (.aload_n 0, 1) := by decide +kernel
theorem dX5_undo_18 : decode cX5_undo 18 = .ok (.aload_n 0, 1) := by decide +kernel
theorem dX5_undo_19 : decode cX5_undo 19 = .ok (.getfield 23, 3) := by decide +kernel
theorem dX5_undo_22 : decode cX5_undo 22 = .ok (.iconst 4, 1) := by decide +kernel
theorem dX5_undo_23 : decode cX5_undo 23 = .ok (.iadd, 1) := by decide +kernel
theorem dX5_undo_24 : decode cX5_undo 24 = .ok (.iconst 1, 1) := by decide +kernel
theorem dX5_undo_25 : decode cX5_undo 25 = .ok (.isub, 1) := by decide +kernel
theorem dX5_undo_26 : decode cX5_undo 26 = .ok (.iconst 4, 1) := by decide +kernel
theorem dX5_undo_27 : decode cX5_undo 27 = .ok (.irem, 1) := by decide +kernel
theorem dX5_undo_28 : decode cX5_undo 28 = .ok (.putfield 23, 3) := by decide +kernel
theorem dX5_undo_31 : decode cX5_undo 31 = .ok (.aload_n 0, 1) := by decide +kernel
theorem dX5_undo_32 : decode cX5_undo 32 = .ok (.dup, 1) := by decide +kernel
theorem dX5_undo_33 : decode cX5_undo 33 = .ok (.getfield 27, 3) := by decide +kernel
theorem dX5_undo_36 : decode cX5_undo 36 = .ok (.iconst 1, 1) := by decide +kernel
theorem dX5_undo_37 : decode cX5_undo 37 = .ok (.isub, 1) := by decide +kernel
theorem dX5_undo_38 : decode cX5_undo 38 = .ok (.putfield 27, 3) := by decide +kernel
theorem dX5_undo_41 : decode cX5_undo 41 = .ok (.aload_n 0, 1) := by decide +kernel
theorem dX5_undo_42 : decode cX5_undo 42 = .ok (.aload_n 0, 1) := by decide +kernel
theorem dX5_undo_43 : decode cX5_undo 43 = .ok (.getfield 23, 3) := by decide +kernel
theorem dX5_undo_46 : decode cX5_undo 46 = .ok (.invokevirtual 253, 3) := by decide +kernel
theorem dX5_undo_49 : decode cX5_undo 49 = .ok (.astore_n 1, 1) := by decide +kernel
theorem dX5_undo_50 : decode cX5_undo 50 = .ok (.aload_n 1, 1) := by decide +kernel
theorem dX5_undo_51 : decode cX5_undo 51 = .ok (.ifnull 11, 3) := by decide +kernel
theorem dX5_undo_54 : decode cX5_undo 54 = .ok (.aload_n 0, 1) := by decide +kernel
theorem dX5_undo_55 : decode cX5_undo 55 = .ok (.getfield 10, 3) := by decide +kernel
theorem dX5_undo_58 : decode cX5_undo 58 = .ok (.aload_n 1, 1) := by decide +kernel
theorem dX5_undo_59 : decode cX5_undo 59 = .ok (.invokevirtual 196, 3) := by decide +kernel
theorem dX5_undo_62 : decode cX5_undo 62 = .ok (.aload_n 0, 1) := by decide +kernel
theorem dX5_undo_63 : decode cX5_undo 63 = .ok (.getfield 27, 3) := by decide +kernel
theorem dX5_undo_66 : decode cX5_undo 66 = .ok (.ireturn, 1) := by decide +kernel
theorem dX5_digest_0 : decode cX5_digest 0 = .ok (.ldc2_w 257, 3) := by decide +kernel
theorem dX5_digest_3 : decode cX5_digest 3 = .ok (.aload_n 0, 1) := by decide +kernel
theorem dX5_digest_4 : decode cX5_digest 4 = .ok (.getfield 33, 3) := by decide +kernel
theorem dX5_digest_7 : decode cX5_digest 7 = .ok (.getfield 226, 3) := by decide +kernel
theorem dX5_digest_10 : decode cX5_digest 10 = .ok (.i2l, 1) := by decide +kernel
theorem dX5_digest_11 : decode cX5_digest 11 = .ok (.ladd, 1) := by decide +kernel
theorem dX5_digest_12 : decode cX5_digest 12 = .ok (.lstore_n 1, 1) := by decide +kernel
theorem dX5_digest_13 : decode cX5_digest 13 = .ok (.aload_n 0, 1) := by decide +kernel
theorem dX5_digest_14 : decode cX5_digest 14 = .ok (.invokevirtual 181, 3) := by decide +kernel
theorem dX5_digest_17 : decode cX5_digest 17 = .ok (.iconst 0, 1) := by decide +kernel
theorem dX5_digest_18 : decode cX5_digest 18 = .ok (.istore_n 3, 1) := by decide +kernel
theorem dX5_digest_19 : decode cX5_digest 19 = .ok (.iload_n 3, 1) := by decide +kernel
theorem dX5_digest_20 : decode cX5_digest 20 = .ok (.bipush 14, 2) := by decide +kernel
theorem dX5_digest_22 : decode cX5_digest 22 = .ok (.if_icmp .ge 22, 3) := by decide +kernel
theorem dX5_digest_25 : decode cX5_digest 25 = .ok (.ldc2_w 259, 3) := by decide +kernel
theorem dX5_digest_28 : decode cX5_digest 28 = .ok (.lload_n 1, 1) := by decide +kernel
theorem dX5_digest_29 : decode cX5_digest 29 = .ok (.lmul, 1) := by decide +kernel
theorem dX5_digest_30 : decode cX5_digest 30 = .ok (.aload_n 0, 1) := by decide +kernel
theorem dX5_digest_31 : decode cX5_digest 31 = .ok (.iload_n 3, 1) := by decide +kernel
theorem dX5_digest_32 : decode cX5_digest 32 = .ok (.invokevirtual 184, 3) := by decide +kernel
theorem dX5_digest_35 : decode cX5_digest 35 = .ok (.i2l, 1) := by decide +kernel
theorem dX5_digest_36 : decode cX5_digest 36 = .ok (.ladd, 1) := by decide +kernel
theorem dX5_digest_37 : decode cX5_digest 37 = .ok (.lstore_n 1, 1) := by decide +kernel
theorem dX5_digest_38 : decode cX5_digest 38 = .ok (.iinc 3 1, 3) := by decide +kernel
theorem dX5_digest_41 : decode cX5_digest 41 = .ok (.goto (-22), 3) := by decide +kernel
theorem dX5_digest_44 : decode cX5_digest 44 = .ok (.iconst 0, 1) := by decide +kernel
theorem dX5_digest_45 : decode cX5_digest 45 = .ok (.istore_n 3, 1) := by decide +kernel
theorem dX5_digest_46 : decode cX5_digest 46 = .ok (.iload_n 3, 1) := by decide +kernel
theorem dX5_digest_47 : decode cX5_digest 47 = .ok (.aload_n 0, 1) := by decide +kernel
theorem dX5_digest_48 : decode cX5_digest 48 = .ok (.getfield 10, 3) := by decide +kernel
theorem dX5_digest_51 : decode cX5_digest 51 = .ok (.invokevirtual 212, 3) := by decide +kernel
theorem dX5_digest_54 : decode cX5_digest 54 = .ok (.if_icmp .ge 68, 3) := by decide +kernel
theorem dX5_digest_57 : decode cX5_digest 57 = .ok (.iconst 0, 1) := by decide +kernel
theorem dX5_digest_58 : decode cX5_digest 58 = .ok (.istore 4, 2) := by decide +kernel
theorem dX5_digest_60 : decode cX5_digest 60 = .ok (.iload 4, 2) := by decide +kernel
theorem dX5_digest_62 : decode cX5_digest 62 = .ok (.bipush 7, 2) := by decide +kernel
theorem dX5_digest_64 : decode cX5_digest 64 = .ok (.if_icmp .ge 24, 3) := by decide +kernel
theorem dX5_digest_67 : decode cX5_digest 67 = .ok (.ldc2_w 259, 3) := by decide +kernel
theorem dX5_digest_70 : decode cX5_digest 70 = .ok (.lload_n 1, 1) := by decide +kernel
theorem dX5_digest_71 : decode cX5_digest 71 = .ok (.lmul, 1) := by decide +kernel
theorem dX5_digest_72 : decode cX5_digest 72 = .ok (.aload_n 0, 1) := by decide +kernel
theorem dX5_digest_73 : decode cX5_digest 73 = .ok (.iload_n 3, 1) := by decide +kernel
theorem dX5_digest_74 : decode cX5_digest 74 = .ok (.iload 4, 2) := by decide +kernel
theorem dX5_digest_76 : decode cX5_digest 76 = .ok (.invokevirtual 164, 3) := by decide +kernel
theorem dX5_digest_79 : decode cX5_digest 79 = .ok (.i2l, 1) := by decide +kernel
theorem dX5_digest_80 : decode cX5_digest 80 = .ok (.ladd, 1) := by decide +kernel
theorem dX5_digest_81 : decode cX5_digest 81 = .ok (.lstore_n 1, 1) := by decide +kernel
theorem dX5_digest_82 : decode cX5_digest 82 = .ok (.iinc 4 1, 3) := by decide +kernel
theorem dX5_digest_85 : decode cX5_digest 85 = .ok (.goto (-25), 3) := by decide +kernel
theorem dX5_digest_88 : decode cX5_digest 88 = .ok (.ldc2_w 259, 3) := by decide +kernel
theorem dX5_digest_91 : decode cX5_digest 91 = .ok (.lload_n 1, 1) := by decide +kernel
theorem dX5_digest_92 : decode cX5_digest 92 = .ok (.lmul, 1) := by decide +kernel
theorem dX5_digest_93 : decode cX5_digest 93 = .ok (.aload_n 0, 1) := by decide +kernel
theorem dX5_digest_94 : decode cX5_digest 94 = .ok (.iload_n 3, 1) := by decide +kernel
theorem dX5_digest_95 : decode cX5_digest 95 = .ok (.iconst 3, 1) := by decide +kernel
theorem dX5_digest_96 : decode cX5_digest 96 = .ok (.invokevirtual 170, 3) := by decide +kernel
theorem dX5_digest_99 : decode cX5_digest 99 = .ok (.i2l, 1) := by decide +kernel
theorem dX5_digest_100 : decode cX5_digest 100 = .ok (.ladd, 1) := by decide +kernel
theorem dX5_digest_101 : decode cX5_digest 101 = .ok (.lstore_n 1, 1) := by decide +kernel
theorem dX5_digest_102 : decode cX5_digest 102 = .ok (.ldc2_w 259, 3) := by decide +kernel
theorem dX5_digest_105 : decode cX5_digest 105 = .ok (.lload_n 1, 1) := by decide +kernel
theorem dX5_digest_106 : decode cX5_digest 106 = .ok (.lmul, 1) := by decide +kernel
theorem dX5_digest_107 : decode cX5_digest 107 = .ok (.aload_n 0, 1) := by decide +kernel
theorem dX5_digest_108 : decode cX5_digest 108 = .ok (.iload_n 3, 1) := by decide +kernel
theorem dX5_digest_109 : decode cX5_digest 109 = .ok (.iconst 4, 1) := by decide +kernel
theorem dX5_digest_110 : decode cX5_digest 110 = .ok (.invokevirtual 170, 3) := by decide +kernel
theorem dX5_digest_113 : decode cX5_digest 113 = .ok (.i2l, 1) := by decide +kernel
theorem dX5_digest_114 : decode cX5_digest 114 = .ok (.ladd, 1) := by decide +kernel
theorem dX5_digest_115 : decode cX5_digest 115 = .ok (.lstore_n 1, 1) := by decide +kernel
theorem dX5_digest_116 : decode cX5_digest 116 = .ok (.iinc 3 1, 3) := by decide +kernel
theorem dX5_digest_119 : decode cX5_digest 119 = .ok (.goto (-73), 3) := by decide +kernel
theorem dX5_digest_122 : decode cX5_digest 122 = .ok (.iconst 0, 1) := by decide +kernel
theorem dX5_digest_123 : decode cX5_digest 123 = .ok (.istore_n 3, 1) := by decide +kernel
theorem dX5_digest_124 : decode cX5_digest 124 = .ok (.iload_n 3, 1) := by decide +kernel
theorem dX5_digest_125 : decode cX5_digest 125 = .ok (.aload_n 0, 1) := by decide +kernel
theorem dX5_digest_126 : decode cX5_digest 126 = .ok (.getfield 10, 3) := by decide +kernel
theorem dX5_digest_129 : decode cX5_digest 129 = .ok (.invokevirtual 187, 3) := by decide +kernel
theorem dX5_digest_132 : decode cX5_digest 132 = .ok (.if_icmp .ge 42, 3) := by decide +kernel
theorem dX5_digest_135 : decode cX5_digest 135 = .ok (.iconst 0, 1) := by decide +kernel
theorem dX5_digest_136 : decode cX5_digest 136 = .ok (.istore 4, 2) := by decide +kernel
theorem dX5_digest_138 : decode cX5_digest 138 = .ok (.iload 4, 2) := by decide +kernel
theorem dX5_digest_140 : decode cX5_digest 140 = .ok (.iconst 3, 1) := by decide +kernel
theorem dX5_digest_141 : decode cX5_digest 141 = .ok (.if_icmp .ge 27, 3) := by decide +kernel
theorem dX5_digest_144 : decode cX5_digest 144 = .ok (.ldc2_w 259, 3) := by decide +kernel
theorem dX5_digest_147 : decode cX5_digest 147 = .ok (.lload_n 1, 1) := by decide +kernel
theorem dX5_digest_148 : decode cX5_digest 148 = .ok (.lmul, 1) := by decide +kernel
theorem dX5_digest_149 : decode cX5_digest 149 = .ok (.aload_n 0, 1) := by decide +kernel
theorem dX5_digest_150 : decode cX5_digest 150 = .ok (.getfield 10, 3) := by decide +kernel
theorem dX5_digest_153 : decode cX5_digest 153 = .ok (.iload_n 3, 1) := by decide +kernel
theorem dX5_digest_154 : decode cX5_digest 154 = .ok (.iload 4, 2) := by decide +kernel
theorem dX5_digest_156 : decode cX5_digest 156 = .ok (.invokevirtual 193, 3) := by decide +kernel
theorem dX5_digest_159 : decode cX5_digest 159 = .ok (.i2l, 1) := by decide +kernel
theorem dX5_digest_160 : decode cX5_digest 160 = .ok (.ladd, 1) := by decide +kernel
theorem dX5_digest_161 : decode cX5_digest 161 = .ok (.lstore_n 1, 1) := by decide +kernel
theorem dX5_digest_162 : decode cX5_digest 162 = .ok (.iinc 4 1, 3) := by decide +kernel
theorem dX5_digest_165 : decode cX5_digest 165 = .ok (.goto (-27), 3) := by decide +kernel
theorem dX5_digest_168 : decode cX5_digest 168 = .ok (.iinc 3 1, 3) := by decide +kernel
theorem dX5_digest_171 : decode cX5_digest 171 = .ok (.goto (-47), 3) := by decide +kernel
theorem dX5_digest_174 : decode cX5_digest 174 = .ok (.aload_n 0, 1) := by decide +kernel
theorem dX5_digest_175 : decode cX5_digest 175 = .ok (.getfield 16, 3) := by decide +kernel
theorem dX5_digest_178 : decode cX5_digest 178 = .ok (.aload_n 0, 1) := by decide +kernel
theorem dX5_digest_179 : decode cX5_digest 179 = .ok (.getfield 10, 3) := by decide +kernel
theorem dX5_digest_182 : decode cX5_digest 182 = .ok (.invokevirtual 196, 3) := by decide +kernel
theorem dX5_digest_185 : decode cX5_digest 185 = .ok (.ldc2_w 259, 3) := by decide +kernel
theorem dX5_digest_188 : decode cX5_digest 188 = .ok (.lload_n 1, 1) := by decide +kernel
theorem dX5_digest_189 : decode cX5_digest 189 = .ok (.lmul, 1) := by decide +kernel
theorem dX5_digest_190 : decode cX5_digest 190 = .ok (.aload_n 0, 1) := by decide +kernel
theorem dX5_digest_191 : decode cX5_digest 191 = .ok (.aload_n 0, 1) := by decide +kernel
theorem dX5_digest_192 : decode cX5_digest 192 = .ok (.getfield 16, 3) := by decide +kernel
theorem dX5_digest_195 : decode cX5_digest 195 = .ok (.invokevirtual 148, 3) := by decide +kernel
theorem dX5_digest_198 : decode cX5_digest 198 = .ok (.i2l, 1) := by decide +kernel
theorem dX5_digest_199 : decode cX5_digest 199 = .ok (.ladd, 1) := by decide +kernel
theorem dX5_digest_200 : decode cX5_digest 200 = .ok (.lstore_n 1, 1) := by decide +kernel
theorem dX5_digest_201 : decode cX5_digest 201 = .ok (.ldc2_w 259, 3) := by decide +kernel
theorem dX5_digest_204 : decode cX5_digest 204 = .ok (.lload_n 1, 1) := by decide +kernel
theorem dX5_digest_205 : decode cX5_digest 205 = .ok (.lmul, 1) := by decide +kernel
theorem dX5_digest_206 : decode cX5_digest 206 = .ok (.aload_n 0, 1) := by decide +kernel
theorem dX5_digest_207 : decode cX5_digest 207 = .ok (.getfield 27, 3) := by decide +kernel
theorem dX5_digest_210 : decode cX5_digest 210 = .ok (.i2l, 1) := by decide +kernel
theorem dX5_digest_211 : decode cX5_digest 211 = .ok (.ladd, 1) := by decide +kernel
theorem dX5_digest_212 : decode cX5_digest 212 = .ok (.lreturn, 1) := by decide +kernel
theorem dX5_isOutside_0 : decode cX5_isOutside 0 = .ok (.iload_n 0, 1) := by decide +kernel
theorem dX5_isOutside_1 : decode cX5_isOutside 1 = .ok (.iload_n 1, 1) := by decide +kernel
theorem dX5_isOutside_2 : decode cX5_isOutside 2 = .ok (.if_icmp .lt 8, 3) := by decide +kernel
theorem dX5_isOutside_5 : decode cX5_isOutside 5 = .ok (.iload_n 0, 1) := by decide +kernel
theorem dX5_isOutside_6 : decode cX5_isOutside 6 = .ok (.iload_n 2, 1) := by decide +kernel
theorem dX5_isOutside_7 : decode cX5_isOutside 7 = .ok (.if_icmp .le 7, 3) := by decide +kernel
theorem dX5_isOutside_10 : decode cX5_isOutside 10 = .ok (.iconst 1, 1) := by decide +kernel
theorem dX5_isOutside_11 : decode cX5_isOutside 11 = .ok (.goto 4, 3) := by decide +kernel
theorem dX5_isOutside_14 : decode cX5_isOutside 14 = .ok (.iconst 0, 1) := by decide +kernel
theorem dX5_isOutside_15 : decode cX5_isOutside 15 = .ok (.ireturn, 1) := by decide +kernel
theorem dX5_checkCell_0 : decode cX5_checkCell 0 = .ok (.iload_n 1, 1) := by decide +kernel
theorem dX5_checkCell_1 : decode cX5_checkCell 1 = .ok (.iconst 0, 1) := by decide +kernel
theorem dX5_checkCell_2 : decode cX5_checkCell 2 = .ok (.aload_n 0, 1) := by decide +kernel
theorem dX5_checkCell_3 : decode cX5_checkCell 3 = .ok (.getfield 10, 3) := by decide +kernel
theorem dX5_checkCell_6 : decode cX5_checkCell 6 = .ok (.invokevirtual 212, 3) := by decide +kernel
theorem dX5_checkCell_9 : decode cX5_checkCell 9 = .ok (.iconst 1, 1) := by decide +kernel
theorem dX5_checkCell_10 : decode cX5_checkCell 10 = .ok (.isub, 1) := by decide +kernel
theorem dX5_checkCell_11 : decode cX5_checkCell 11 = .ok (.invokestatic 70, 3) := by decide +kernel
theorem dX5_checkCell_14 : decode cX5_checkCell 14 = .ok (.ifCond .eq 14, 3) := by decide +kernel
theorem dX5_checkCell_17 : decode cX5_checkCell 17 = .ok (.new 173, 3) := by decide +kernel
theorem dX5_checkCell_20 : decode cX5_checkCell 20 = .ok (.dup, 1) := by decide +kernel
theorem dX5_checkCell_21 : decode cX5_checkCell 21 = .ok (.ldc_w 261, 3) := by decide +kernel
theorem dX5_checkCell_24 : decode cX5_checkCell 24 = .ok (.invokespecial 177, 3) := by decide +kernel
theorem dX5_checkCell_27 : decode cX5_checkCell 27 = .ok (.athrow, 1) := by decide +kernel
theorem dX5_checkCell_28 : decode cX5_checkCell 28 = .ok (.return_, 1) := by decide +kernel
theorem dX5_checkRectangle_0 : decode cX5_checkRectangle 0 = .ok (.aload_n 0, 1) := by decide +kernel
theorem dX5_checkRectangle_1 : decode cX5_checkRectangle 1 = .ok (.iload_n 1, 1) := by decide +kernel
theorem dX5_checkRectangle_2 : decode cX5_checkRectangle 2 = .ok (.invokevirtual 87, 3) := by decide +kernel
theorem dX5_checkRectangle_5 : decode cX5_checkRectangle 5 = .ok (.iload_n 2, 1) := by decide +kernel
theorem dX5_checkRectangle_6 : decode cX5_checkRectangle 6 = .ok (.iconst 1, 1) := by decide +kernel
theorem dX5_checkRectangle_7 : decode cX5_checkRectangle 7 = .ok (.bipush 7, 2) := by decide +kernel
theorem dX5_checkRectangle_9 : decode cX5_checkRectangle 9 = .ok (.invokestatic 70, 3) := by decide +kernel
theorem dX5_checkRectangle_12 : decode cX5_checkRectangle 12 = .ok (.ifCond .ne 53, 3) := by decide +kernel
theorem dX5_checkRectangle_15 : decode cX5_checkRectangle 15 = .ok (.iload_n 3, 1) := by decide +kernel
theorem dX5_checkRectangle_16 : decode cX5_checkRectangle 16 = .ok (.iconst 1, 1) := by decide +kernel
theorem dX5_checkRectangle_17 : decode cX5_checkRectangle 17 = .ok (.bipush 7, 2) := by decide +kernel
theorem dX5_checkRectangle_19 : decode cX5_checkRectangle 19 = .ok (.invokestatic 70, 3) := by decide +kernel
theorem dX5_checkRectangle_22 : decode cX5_checkRectangle 22 = .ok (.ifCond .ne 43, 3) := by decide +kernel
theorem dX5_checkRectangle_25 : decode cX5_checkRectangle 25 = .ok (.aload_n 0, 1) := by decide +kernel
theorem dX5_checkRectangle_26 : decode cX5_checkRectangle 26 = .ok (.getfield 10, 3) := by decide +kernel
theorem dX5_checkRectangle_29 : decode cX5_checkRectangle 29 = .ok (.iload_n 1, 1) := by decide +kernel
theorem dX5_checkRectangle_30 : decode cX5_checkRectangle 30 = .ok (.invokevirtual 245, 3) := by decide +kernel
theorem dX5_checkRectangle_33 : decode cX5_checkRectangle 33 = .ok (.iload_n 2, 1) := by decide +kernel
theorem dX5_checkRectangle_34 : decode cX5_checkRectangle 34 = .ok (.iadd, 1) := by decide +kernel
theorem dX5_checkRectangle_35 : decode cX5_checkRectangle 35 = .ok (.aload_n 0, 1) := by decide +kernel
theorem dX5_checkRectangle_36 : decode cX5_checkRectangle 36 = .ok (.getfield 10, 3) := by decide +kernel
theorem dX5_checkRectangle_39 : decode cX5_checkRectangle 39 = .ok (.getfield 263, 3) := by decide +kernel
theorem dX5_checkRectangle_42 : decode cX5_checkRectangle 42 = .ok (.if_icmp .gt 23, 3) := by decide +kernel
theorem dX5_checkRectangle_45 : decode cX5_checkRectangle 45 = .ok (.aload_n 0, 1) := by decide +kernel
theorem dX5_checkRectangle_46 : decode cX5_checkRectangle 46 = .ok (.getfield 10, 3) := by decide +kernel
theorem dX5_checkRectangle_49 : decode cX5_checkRectangle 49 = .ok (.iload_n 1, 1) := by decide +kernel
theorem dX5_checkRectangle_50 : decode cX5_checkRectangle 50 = .ok (.invokevirtual 242, 3) := by decide +kernel
theorem dX5_checkRectangle_53 : decode cX5_checkRectangle 53 = .ok (.iload_n 3, 1) := by decide +kernel
theorem dX5_checkRectangle_54 : decode cX5_checkRectangle 54 = .ok (.iadd, 1) := by decide +kernel
theorem dX5_checkRectangle_55 : decode cX5_checkRectangle 55 = .ok (.aload_n 0, 1) := by decide +kernel
theorem dX5_checkRectangle_56 : decode cX5_checkRectangle 56 = .ok (.getfield 10, 3) := by decide +kernel
theorem dX5_checkRectangle_59 : decode cX5_checkRectangle 59 = .ok (.getfield 264, 3) := by decide +kernel
theorem dX5_checkRectangle_62 : decode cX5_checkRectangle 62 = .ok (.if_icmp .le 14, 3) := by decide +kernel
theorem dX5_checkRectangle_65 : decode cX5_checkRectangle 65 = .ok (.new 74, 3) := by decide +kernel
theorem dX5_checkRectangle_68 : decode cX5_checkRectangle 68 = .ok (.dup, 1) := by decide +kernel
theorem dX5_checkRectangle_69 : decode cX5_checkRectangle 69 = .ok (.ldc_w 265, 3) := by decide +kernel
theorem dX5_checkRectangle_72 : decode cX5_checkRectangle 72 = .ok (.invokespecial 78, 3) := by decide +kernel
theorem dX5_checkRectangle_75 : decode cX5_checkRectangle 75 = .ok (.athrow, 1) := by decide +kernel
theorem dX5_checkRectangle_76 : decode cX5_checkRectangle 76 = .ok (.return_, 1) := by decide +kernel
theorem dX5_saveState_0 : decode cX5_saveState 0 = .ok (.aload_n 0, 1) := by decide +kernel
theorem dX5_saveState_1 : decode cX5_saveState 1 = .ok (.aload_n 0, 1) := by decide +kernel
theorem dX5_saveState_2 : decode cX5_saveState 2 = .ok (.getfield 23, 3) := by decide +kernel
theorem dX5_saveState_5 : decode cX5_saveState 5 = .ok (.invokevirtual 253, 3) := by decide +kernel
theorem dX5_saveState_8 : decode cX5_saveState 8 = .ok (.astore_n 1, 1) := by decide +kernel
theorem dX5_saveState_9 : decode cX5_saveState 9 = .ok (.aload_n 1, 1) := by decide +kernel
theorem dX5_saveState_10 : decode cX5_saveState 10 = .ok (.ifnull 11, 3) := by decide +kernel
theorem dX5_saveState_13 : decode cX5_saveState 13 = .ok (.aload_n 1, 1) := by decide +kernel
theorem dX5_saveState_14 : decode cX5_saveState 14 = .ok (.aload_n 0, 1) := by decide +kernel
theorem dX5_saveState_15 : decode cX5_saveState 15 = .ok (.getfield 10, 3) := by decide +kernel
theorem dX5_saveState_18 : decode cX5_saveState 18 = .ok (.invokevirtual 196, 3) := by decide +kernel
theorem dX5_saveState_21 : decode cX5_saveState 21 = .ok (.aload_n 0, 1) := by decide +kernel
theorem dX5_saveState_22 : decode cX5_saveState 22 = .ok (.aload_n 0, 1) := by decide +kernel
theorem dX5_saveState_23 : decode cX5_saveState 23 = .ok (.getfield 23, 3) := by decide +kernel
theorem dX5_saveState_26 : decode cX5_saveState 26 = .ok (.iconst 1, 1) := by decide +kernel
theorem dX5_saveState_27 : decode cX5_saveState 27 = .ok (.iadd, 1) := by decide +kernel
theorem dX5_saveState_28 : decode cX5_saveState 28 = .ok (.iconst 4, 1) := by decide +kernel
theorem dX5_saveState_29 : decode cX5_saveState 29 = .ok (.irem, 1) := by decide +kernel
theorem dX5_saveState_30 : decode cX5_saveState 30 = .ok (.putfield 23, 3) := by decide +kernel
theorem dX5_saveState_33 : decode cX5_saveState 33 = .ok (.aload_n 0, 1) := by decide +kernel
theorem dX5_saveState_34 : decode cX5_saveState 34 = .ok (.getfield 27, 3) := by decide +kernel
theorem dX5_saveState_37 : decode cX5_saveState 37 = .ok (.iconst 4, 1) := by decide +kernel
theorem dX5_saveState_38 : decode cX5_saveState 38 = .ok (.if_icmp .ge 13, 3) := by decide +kernel
theorem dX5_saveState_41 : decode cX5_saveState 41 = .ok (.aload_n 0, 1) := by decide +kernel
theorem dX5_saveState_42 : decode cX5_saveState 42 = .ok (.dup, 1) := by decide +kernel
theorem dX5_saveState_43 : decode cX5_saveState 43 = .ok (.getfield 27, 3) := by decide +kernel
theorem dX5_saveState_46 : decode cX5_saveState 46 = .ok (.iconst 1, 1) := by decide +kernel
theorem dX5_saveState_47 : decode cX5_saveState 47 = .ok (.iadd, 1) := by decide +kernel
theorem dX5_saveState_48 : decode cX5_saveState 48 = .ok (.putfield 27, 3) := by decide +kernel
theorem dX5_saveState_51 : decode cX5_saveState 51 = .ok (.return_, 1) := by decide +kernel
theorem dX5_savedAt_0 : decode cX5_savedAt 0 = .ok (.iload_n 1, 1) := by decide +kernel
theorem dX5_savedAt_1 : decode cX5_savedAt 1 = .ok (.ifCond .lt 21, 3) := by decide +kernel
theorem dX5_savedAt_4 : decode cX5_savedAt 4 = .ok (.iload_n 1, 1) := by decide +kernel
theorem dX5_savedAt_5 : decode cX5_savedAt 5 = .ok (.aload_n 0, 1) := by decide +kernel
theorem dX5_savedAt_6 : decode cX5_savedAt 6 = .ok (.getfield 19, 3) := by decide +kernel
theorem dX5_savedAt_9 : decode cX5_savedAt 9 = .ok (.arraylength, 1) := by decide +kernel
theorem dX5_savedAt_10 : decode cX5_savedAt 10 = .ok (.if_icmp .ge 12, 3) := by decide +kernel
theorem dX5_savedAt_13 : decode cX5_savedAt 13 = .ok (.aload_n 0, 1) := by decide +kernel
theorem dX5_savedAt_14 : decode cX5_savedAt 14 = .ok (.getfield 19, 3) := by decide +kernel
theorem dX5_savedAt_17 : decode cX5_savedAt 17 = .ok (.iload_n 1, 1) := by decide +kernel
theorem dX5_savedAt_18 : decode cX5_savedAt 18 = .ok (.aaload, 1) := by decide +kernel
theorem dX5_savedAt_19 : decode cX5_savedAt 19 = .ok (.goto 4, 3) := by decide +kernel
theorem dX5_savedAt_22 : decode cX5_savedAt 22 = .ok (.aconst_null, 1) := by decide +kernel
theorem dX5_savedAt_23 : decode cX5_savedAt 23 = .ok (.areturn, 1) := by decide +kernel
theorem dX5_fieldFact_0 : decode cX5_fieldFact 0 = .ok (.iload_n 1, 1) := by decide +kernel
theorem dX5_fieldFact_1 : decode cX5_fieldFact 1 = .ok (.tableswitch 174 0 12 #[67, 75, 83, 91, 99, 107, 112, 123, 131, 139, 147, 158, 166], 67) := by decide +kernel
theorem dX5_fieldFact_68 : decode cX5_fieldFact 68 = .ok (.aload_n 0, 1) := by decide +kernel
theorem dX5_fieldFact_69 : decode cX5_fieldFact 69 = .ok (.getfield 10, 3) := by decide +kernel
theorem dX5_fieldFact_72 : decode cX5_fieldFact 72 = .ok (.getfield 263, 3) := by decide +kernel
theorem dX5_fieldFact_75 : decode cX5_fieldFact 75 = .ok (.ireturn, 1) := by decide +kernel
theorem dX5_fieldFact_76 : decode cX5_fieldFact 76 = .ok (.aload_n 0, 1) := by decide +kernel
theorem dX5_fieldFact_77 : decode cX5_fieldFact 77 = .ok (.getfield 10, 3) := by decide +kernel
theorem dX5_fieldFact_80 : decode cX5_fieldFact 80 = .ok (.getfield 264, 3) := by decide +kernel
theorem dX5_fieldFact_83 : decode cX5_fieldFact 83 = .ok (.ireturn, 1) := by decide +kernel
theorem dX5_fieldFact_84 : decode cX5_fieldFact 84 = .ok (.aload_n 0, 1) := by decide +kernel
theorem dX5_fieldFact_85 : decode cX5_fieldFact 85 = .ok (.getfield 10, 3) := by decide +kernel
theorem dX5_fieldFact_88 : decode cX5_fieldFact 88 = .ok (.invokevirtual 206, 3) := by decide +kernel
theorem dX5_fieldFact_91 : decode cX5_fieldFact 91 = .ok (.ireturn, 1) := by decide +kernel
theorem dX5_fieldFact_92 : decode cX5_fieldFact 92 = .ok (.aload_n 0, 1) := by decide +kernel
theorem dX5_fieldFact_93 : decode cX5_fieldFact 93 = .ok (.getfield 40, 3) := by decide +kernel
theorem dX5_fieldFact_96 : decode cX5_fieldFact 96 = .ok (.invokevirtual 267, 3) := by decide +kernel
theorem dX5_fieldFact_99 : decode cX5_fieldFact 99 = .ok (.ireturn, 1) := by decide +kernel
theorem dX5_fieldFact_100 : decode cX5_fieldFact 100 = .ok (.aload_n 0, 1) := by decide +kernel
theorem dX5_fieldFact_101 : decode cX5_fieldFact 101 = .ok (.getfield 40, 3) := by decide +kernel
theorem dX5_fieldFact_104 : decode cX5_fieldFact 104 = .ok (.invokevirtual 199, 3) := by decide +kernel
theorem dX5_fieldFact_107 : decode cX5_fieldFact 107 = .ok (.ireturn, 1) := by decide +kernel
theorem dX5_fieldFact_108 : decode cX5_fieldFact 108 = .ok (.aload_n 0, 1) := by decide +kernel
theorem dX5_fieldFact_109 : decode cX5_fieldFact 109 = .ok (.invokevirtual 270, 3) := by decide +kernel
theorem dX5_fieldFact_112 : decode cX5_fieldFact 112 = .ok (.ireturn, 1) := by decide +kernel
theorem dX5_fieldFact_113 : decode cX5_fieldFact 113 = .ok (.aload_n 0, 1) := by decide +kernel
theorem dX5_fieldFact_114 : decode cX5_fieldFact 114 = .ok (.getfield 10, 3) := by decide +kernel
theorem dX5_fieldFact_117 : decode cX5_fieldFact 117 = .ok (.getfield 273, 3) := by decide +kernel
theorem dX5_fieldFact_120 : decode cX5_fieldFact 120 = .ok (.invokevirtual 276, 3) := by decide +kernel
theorem dX5_fieldFact_123 : decode cX5_fieldFact 123 = .ok (.ireturn, 1) := by decide +kernel
theorem dX5_fieldFact_124 : decode cX5_fieldFact 124 = .ok (.aload_n 0, 1) := by decide +kernel
theorem dX5_fieldFact_125 : decode cX5_fieldFact 125 = .ok (.getfield 10, 3) := by decide +kernel
theorem dX5_fieldFact_128 : decode cX5_fieldFact 128 = .ok (.getfield 60, 3) := by decide +kernel
theorem dX5_fieldFact_131 : decode cX5_fieldFact 131 = .ok (.ireturn, 1) := by decide +kernel
theorem dX5_fieldFact_132 : decode cX5_fieldFact 132 = .ok (.aload_n 0, 1) := by decide +kernel
theorem dX5_fieldFact_133 : decode cX5_fieldFact 133 = .ok (.getfield 10, 3) := by decide +kernel
theorem dX5_fieldFact_136 : decode cX5_fieldFact 136 = .ok (.getfield 279, 3) := by decide +kernel
theorem dX5_fieldFact_139 : decode cX5_fieldFact 139 = .ok (.ireturn, 1) := by decide +kernel
theorem dX5_fieldFact_140 : decode cX5_fieldFact 140 = .ok (.aload_n 0, 1) := by decide +kernel
theorem dX5_fieldFact_141 : decode cX5_fieldFact 141 = .ok (.getfield 10, 3) := by decide +kernel
theorem dX5_fieldFact_144 : decode cX5_fieldFact 144 = .ok (.getfield 84, 3) := by decide +kernel
theorem dX5_fieldFact_147 : decode cX5_fieldFact 147 = .ok (.ireturn, 1) := by decide +kernel
theorem dX5_fieldFact_148 : decode cX5_fieldFact 148 = .ok (.aload_n 0, 1) := by decide +kernel
theorem dX5_fieldFact_149 : decode cX5_fieldFact 149 = .ok (.getfield 10, 3) := by decide +kernel
theorem dX5_fieldFact_152 : decode cX5_fieldFact 152 = .ok (.getfield 92, 3) := by decide +kernel
theorem dX5_fieldFact_155 : decode cX5_fieldFact 155 = .ok (.invokevirtual 276, 3) := by decide +kernel
theorem dX5_fieldFact_158 : decode cX5_fieldFact 158 = .ok (.ireturn, 1) := by decide +kernel
theorem dX5_fieldFact_159 : decode cX5_fieldFact 159 = .ok (.aload_n 0, 1) := by decide +kernel
theorem dX5_fieldFact_160 : decode cX5_fieldFact 160 = .ok (.getfield 10, 3) := by decide +kernel
theorem dX5_fieldFact_163 : decode cX5_fieldFact 163 = .ok (.getfield 221, 3) := by decide +kernel
theorem dX5_fieldFact_166 : decode cX5_fieldFact 166 = .ok (.ireturn, 1) := by decide +kernel
theorem dX5_fieldFact_167 : decode cX5_fieldFact 167 = .ok (.aload_n 0, 1) := by decide +kernel
theorem dX5_fieldFact_168 : decode cX5_fieldFact 168 = .ok (.getfield 10, 3) := by decide +kernel
theorem dX5_fieldFact_171 : decode cX5_fieldFact 171 = .ok (.getfield 156, 3) := by decide +kernel
theorem dX5_fieldFact_174 : decode cX5_fieldFact 174 = .ok (.ireturn, 1) := by decide +kernel
theorem dX5_fieldFact_175 : decode cX5_fieldFact 175 = .ok (.aload_n 0, 1) := by decide +kernel
theorem dX5_fieldFact_176 : decode cX5_fieldFact 176 = .ok (.getfield 10, 3) := by decide +kernel
theorem dX5_fieldFact_179 : decode cX5_fieldFact 179 = .ok (.getfield 282, 3) := by decide +kernel
theorem dX5_fieldFact_182 : decode cX5_fieldFact 182 = .ok (.ireturn, 1) := by decide +kernel
theorem dX5_cellFact_0 : decode cX5_cellFact 0 = .ok (.iload_n 2, 1) := by decide +kernel
theorem dX5_cellFact_1 : decode cX5_cellFact 1 = .ok (.lookupswitch 65 #[(0, 35), (5, 47), (6, 56)], 35) := by decide +kernel
theorem dX5_cellFact_36 : decode cX5_cellFact 36 = .ok (.aload_n 0, 1) := by decide +kernel
theorem dX5_cellFact_37 : decode cX5_cellFact 37 = .ok (.getfield 10, 3) := by decide +kernel
theorem dX5_cellFact_40 : decode cX5_cellFact 40 = .ok (.getfield 92, 3) := by decide +kernel
theorem dX5_cellFact_43 : decode cX5_cellFact 43 = .ok (.iload_n 1, 1) := by decide +kernel
theorem dX5_cellFact_44 : decode cX5_cellFact 44 = .ok (.invokevirtual 95, 3) := by decide +kernel
theorem dX5_cellFact_47 : decode cX5_cellFact 47 = .ok (.ireturn, 1) := by decide +kernel
theorem dX5_cellFact_48 : decode cX5_cellFact 48 = .ok (.aload_n 0, 1) := by decide +kernel
theorem dX5_cellFact_49 : decode cX5_cellFact 49 = .ok (.getfield 40, 3) := by decide +kernel
theorem dX5_cellFact_52 : decode cX5_cellFact 52 = .ok (.iload_n 1, 1) := by decide +kernel
theorem dX5_cellFact_53 : decode cX5_cellFact 53 = .ok (.invokevirtual 131, 3) := by decide +kernel
theorem dX5_cellFact_56 : decode cX5_cellFact 56 = .ok (.ireturn, 1) := by decide +kernel
theorem dX5_cellFact_57 : decode cX5_cellFact 57 = .ok (.aload_n 0, 1) := by decide +kernel
theorem dX5_cellFact_58 : decode cX5_cellFact 58 = .ok (.getfield 10, 3) := by decide +kernel
theorem dX5_cellFact_61 : decode cX5_cellFact 61 = .ok (.iload_n 1, 1) := by decide +kernel
theorem dX5_cellFact_62 : decode cX5_cellFact 62 = .ok (.invokevirtual 285, 3) := by decide +kernel
theorem dX5_cellFact_65 : decode cX5_cellFact 65 = .ok (.ireturn, 1) := by decide +kernel
theorem dX5_cellFact_66 : decode cX5_cellFact 66 = .ok (.aload_n 0, 1) := by decide +kernel
theorem dX5_cellFact_67 : decode cX5_cellFact 67 = .ok (.getfield 10, 3) := by decide +kernel
theorem dX5_cellFact_70 : decode cX5_cellFact 70 = .ok (.iload_n 1, 1) := by decide +kernel
theorem dX5_cellFact_71 : decode cX5_cellFact 71 = .ok (.iload_n 2, 1) := by decide +kernel
theorem dX5_cellFact_72 : decode cX5_cellFact 72 = .ok (.iconst 1, 1) := by decide +kernel
theorem dX5_cellFact_73 : decode cX5_cellFact 73 = .ok (.isub, 1) := by decide +kernel
theorem dX5_cellFact_74 : decode cX5_cellFact 74 = .ok (.invokevirtual 288, 3) := by decide +kernel
theorem dX5_cellFact_77 : decode cX5_cellFact 77 = .ok (.ireturn, 1) := by decide +kernel
theorem dX5_blockFact_0 : decode cX5_blockFact 0 = .ok (.aload_n 0, 1) := by decide +kernel
theorem dX5_blockFact_1 : decode cX5_blockFact 1 = .ok (.getfield 40, 3) := by decide +kernel
theorem dX5_blockFact_4 : decode cX5_blockFact 4 = .ok (.iload_n 1, 1) := by decide +kernel
theorem dX5_blockFact_5 : decode cX5_blockFact 5 = .ok (.invokevirtual 131, 3) := by decide +kernel
theorem dX5_blockFact_8 : decode cX5_blockFact 8 = .ok (.istore_n 3, 1) := by decide +kernel
theorem dX5_blockFact_9 : decode cX5_blockFact 9 = .ok (.iload_n 3, 1) := by decide +kernel
theorem dX5_blockFact_10 : decode cX5_blockFact 10 = .ok (.iconst (-1), 1) := by decide +kernel
theorem dX5_blockFact_11 : decode cX5_blockFact 11 = .ok (.if_icmp .ne 5, 3) := by decide +kernel
theorem dX5_blockFact_14 : decode cX5_blockFact 14 = .ok (.iconst (-1), 1) := by decide +kernel
theorem dX5_blockFact_15 : decode cX5_blockFact 15 = .ok (.ireturn, 1) := by decide +kernel
theorem dX5_blockFact_16 : decode cX5_blockFact 16 = .ok (.iload_n 2, 1) := by decide +kernel
theorem dX5_blockFact_17 : decode cX5_blockFact 17 = .ok (.tableswitch 72 0 3 #[31, 33, 42, 55], 31) := by decide +kernel
theorem dX5_blockFact_48 : decode cX5_blockFact 48 = .ok (.iload_n 3, 1) := by decide +kernel
theorem dX5_blockFact_49 : decode cX5_blockFact 49 = .ok (.ireturn, 1) := by decide +kernel
theorem dX5_blockFact_50 : decode cX5_blockFact 50 = .ok (.aload_n 0, 1) := by decide +kernel
theorem dX5_blockFact_51 : decode cX5_blockFact 51 = .ok (.getfield 40, 3) := by decide +kernel
theorem dX5_blockFact_54 : decode cX5_blockFact 54 = .ok (.iload_n 3, 1) := by decide +kernel
theorem dX5_blockFact_55 : decode cX5_blockFact 55 = .ok (.invokevirtual 291, 3) := by decide +kernel
theorem dX5_blockFact_58 : decode cX5_blockFact 58 = .ok (.ireturn, 1) := by decide +kernel
theorem dX5_blockFact_59 : decode cX5_blockFact 59 = .ok (.aload_n 0, 1) := by decide +kernel
theorem dX5_blockFact_60 : decode cX5_blockFact 60 = .ok (.getfield 10, 3) := by decide +kernel
theorem dX5_blockFact_63 : decode cX5_blockFact 63 = .ok (.aload_n 0, 1) := by decide +kernel
theorem dX5_blockFact_64 : decode cX5_blockFact 64 = .ok (.getfield 40, 3) := by decide +kernel
theorem dX5_blockFact_67 : decode cX5_blockFact 67 = .ok (.iload_n 3, 1) := by decide +kernel
theorem dX5_blockFact_68 : decode cX5_blockFact 68 = .ok (.invokevirtual 294, 3) := by decide +kernel
theorem dX5_blockFact_71 : decode cX5_blockFact 71 = .ok (.ireturn, 1) := by decide +kernel
theorem dX5_blockFact_72 : decode cX5_blockFact 72 = .ok (.aload_n 0, 1) := by decide +kernel
theorem dX5_blockFact_73 : decode cX5_blockFact 73 = .ok (.getfield 40, 3) := by decide +kernel
theorem dX5_blockFact_76 : decode cX5_blockFact 76 = .ok (.iload_n 3, 1) := by decide +kernel
theorem dX5_blockFact_77 : decode cX5_blockFact 77 = .ok (.invokevirtual 134, 3) := by decide +kernel
theorem dX5_blockFact_80 : decode cX5_blockFact 80 = .ok (.ifCond .eq 7, 3) := by decide +kernel
theorem dX5_blockFact_83 : decode cX5_blockFact 83 = .ok (.iconst 0, 1) := by decide +kernel
theorem dX5_blockFact_84 : decode cX5_blockFact 84 = .ok (.goto 4, 3) := by decide +kernel
theorem dX5_blockFact_87 : decode cX5_blockFact 87 = .ok (.iconst 1, 1) := by decide +kernel
theorem dX5_blockFact_88 : decode cX5_blockFact 88 = .ok (.ireturn, 1) := by decide +kernel
theorem dX5_blockFact_89 : decode cX5_blockFact 89 = .ok (.aload_n 0, 1) := by decide +kernel
theorem dX5_blockFact_90 : decode cX5_blockFact 90 = .ok (.getfield 56, 3) := by decide +kernel
theorem dX5_blockFact_93 : decode cX5_blockFact 93 = .ok (.iload_n 3, 1) := by decide +kernel
theorem dX5_blockFact_94 : decode cX5_blockFact 94 = .ok (.invokevirtual 95, 3) := by decide +kernel
theorem dX5_blockFact_97 : decode cX5_blockFact 97 = .ok (.ireturn, 1) := by decide +kernel
theorem dX5_countStranded_0 : decode cX5_countStranded 0 = .ok (.iconst 0, 1) := by decide +kernel
theorem dX5_countStranded_1 : decode cX5_countStranded 1 = .ok (.istore_n 1, 1) := by decide +kernel
theorem dX5_countStranded_2 : decode cX5_countStranded 2 = .ok (.iconst 0, 1) := by decide +kernel
theorem dX5_countStranded_3 : decode cX5_countStranded 3 = .ok (.istore_n 2, 1) := by decide +kernel
theorem dX5_countStranded_4 : decode cX5_countStranded 4 = .ok (.iload_n 2, 1) := by decide +kernel
theorem dX5_countStranded_5 : decode cX5_countStranded 5 = .ok (.aload_n 0, 1) := by decide +kernel
theorem dX5_countStranded_6 : decode cX5_countStranded 6 = .ok (.getfield 10, 3) := by decide +kernel
theorem dX5_countStranded_9 : decode cX5_countStranded 9 = .ok (.invokevirtual 212, 3) := by decide +kernel
theorem dX5_countStranded_12 : decode cX5_countStranded 12 = .ok (.if_icmp .ge 20, 3) := by decide +kernel
theorem dX5_countStranded_15 : decode cX5_countStranded 15 = .ok (.aload_n 0, 1) := by decide +kernel
theorem dX5_countStranded_16 : decode cX5_countStranded 16 = .ok (.iload_n 2, 1) := by decide +kernel
theorem dX5_countStranded_17 : decode cX5_countStranded 17 = .ok (.invokevirtual 297, 3) := by decide +kernel
theorem dX5_countStranded_20 : decode cX5_countStranded 20 = .ok (.ifCond .eq 6, 3) := by decide +kernel
theorem dX5_countStranded_23 : decode cX5_countStranded 23 = .ok (.iinc 1 1, 3) := by decide +kernel
theorem dX5_countStranded_26 : decode cX5_countStranded 26 = .ok (.iinc 2 1, 3) := by decide +kernel
theorem dX5_countStranded_29 : decode cX5_countStranded 29 = .ok (.goto (-25), 3) := by decide +kernel
theorem dX5_countStranded_32 : decode cX5_countStranded 32 = .ok (.iload_n 1, 1) := by decide +kernel
theorem dX5_countStranded_33 : decode cX5_countStranded 33 = .ok (.ireturn, 1) := by decide +kernel
theorem dX5_findWayOf_0 : decode cX5_findWayOf 0 = .ok (.aload_n 0, 1) := by decide +kernel
theorem dX5_findWayOf_1 : decode cX5_findWayOf 1 = .ok (.getfield 56, 3) := by decide +kernel
theorem dX5_findWayOf_4 : decode cX5_findWayOf 4 = .ok (.iload_n 1, 1) := by decide +kernel
theorem dX5_findWayOf_5 : decode cX5_findWayOf 5 = .ok (.aload_n 0, 1) := by decide +kernel
theorem dX5_findWayOf_6 : decode cX5_findWayOf 6 = .ok (.getfield 40, 3) := by decide +kernel
theorem dX5_findWayOf_9 : decode cX5_findWayOf 9 = .ok (.iload_n 1, 1) := by decide +kernel
theorem dX5_findWayOf_10 : decode cX5_findWayOf 10 = .ok (.invokevirtual 134, 3) := by decide +kernel
theorem dX5_findWayOf_13 : decode cX5_findWayOf 13 = .ok (.ifCond .eq 22, 3) := by decide +kernel
theorem dX5_findWayOf_16 : decode cX5_findWayOf 16 = .ok (.aload_n 0, 1) := by decide +kernel
theorem dX5_findWayOf_17 : decode cX5_findWayOf 17 = .ok (.getfield 47, 3) := by decide +kernel
theorem dX5_findWayOf_20 : decode cX5_findWayOf 20 = .ok (.aload_n 0, 1) := by decide +kernel
theorem dX5_findWayOf_21 : decode cX5_findWayOf 21 = .ok (.getfield 10, 3) := by decide +kernel
theorem dX5_findWayOf_24 : decode cX5_findWayOf 24 = .ok (.aload_n 0, 1) := by decide +kernel
theorem dX5_findWayOf_25 : decode cX5_findWayOf 25 = .ok (.getfield 40, 3) := by decide +kernel
theorem dX5_findWayOf_28 : decode cX5_findWayOf 28 = .ok (.iload_n 1, 1) := by decide +kernel
theorem dX5_findWayOf_29 : decode cX5_findWayOf 29 = .ok (.invokevirtual 138, 3) := by decide +kernel
theorem dX5_findWayOf_32 : decode cX5_findWayOf 32 = .ok (.goto 4, 3) := by decide +kernel
theorem dX5_findWayOf_35 : decode cX5_findWayOf 35 = .ok (.iconst (-1), 1) := by decide +kernel
theorem dX5_findWayOf_36 : decode cX5_findWayOf 36 = .ok (.invokevirtual 300, 3) := by decide +kernel
theorem dX5_findWayOf_39 : decode cX5_findWayOf 39 = .ok (.return_, 1) := by decide +kernel
theorem dX5_findBlocksAndWays_0 : decode cX5_findBlocksAndWays 0 = .ok (.aload_n 0, 1) := by decide +kernel
theorem dX5_findBlocksAndWays_1 : decode cX5_findBlocksAndWays 1 = .ok (.getfield 40, 3) := by decide +kernel
theorem dX5_findBlocksAndWays_4 : decode cX5_findBlocksAndWays 4 = .ok (.aload_n 0, 1) := by decide +kernel
theorem dX5_findBlocksAndWays_5 : decode cX5_findBlocksAndWays 5 = .ok (.getfield 10, 3) := by decide +kernel
theorem dX5_findBlocksAndWays_8 : decode cX5_findBlocksAndWays 8 = .ok (.invokevirtual 127, 3) := by decide +kernel
theorem dX5_findBlocksAndWays_11 : decode cX5_findBlocksAndWays 11 = .ok (.iconst 0, 1) := by decide +kernel
theorem dX5_findBlocksAndWays_12 : decode cX5_findBlocksAndWays 12 = .ok (.istore_n 1, 1) := by decide +kernel
theorem dX5_findBlocksAndWays_13 : decode cX5_findBlocksAndWays 13 = .ok (.iload_n 1, 1) := by decide +kernel
theorem dX5_findBlocksAndWays_14 : decode cX5_findBlocksAndWays 14 = .ok (.aload_n 0, 1) := by decide +kernel
theorem dX5_findBlocksAndWays_15 : decode cX5_findBlocksAndWays 15 = .ok (.getfield 10, 3) := by decide +kernel
theorem dX5_findBlocksAndWays_18 : decode cX5_findBlocksAndWays 18 = .ok (.invokevirtual 212, 3) := by decide +kernel
theorem dX5_findBlocksAndWays_21 : decode cX5_findBlocksAndWays 21 = .ok (.if_icmp .ge 14, 3) := by decide +kernel
theorem dX5_findBlocksAndWays_24 : decode cX5_findBlocksAndWays 24 = .ok (.aload_n 0, 1) := by decide +kernel
theorem dX5_findBlocksAndWays_25 : decode cX5_findBlocksAndWays 25 = .ok (.iload_n 1, 1) := by decide +kernel
theorem dX5_findBlocksAndWays_26 : decode cX5_findBlocksAndWays 26 = .ok (.invokevirtual 167, 3) := by decide +kernel
theorem dX5_findBlocksAndWays_29 : decode cX5_findBlocksAndWays 29 = .ok (.iinc 1 1, 3) := by decide +kernel
theorem dX5_findBlocksAndWays_32 : decode cX5_findBlocksAndWays 32 = .ok (.goto (-19), 3) := by decide +kernel
theorem dX5_findBlocksAndWays_35 : decode cX5_findBlocksAndWays 35 = .ok (.return_, 1) := by decide +kernel
theorem dX5_isStranded_0 : decode cX5_isStranded 0 = .ok (.aload_n 0, 1) := by decide +kernel
theorem dX5_isStranded_1 : decode cX5_isStranded 1 = .ok (.getfield 40, 3) := by decide +kernel
theorem dX5_isStranded_4 : decode cX5_isStranded 4 = .ok (.iload_n 1, 1) := by decide +kernel
theorem dX5_isStranded_5 : decode cX5_isStranded 5 = .ok (.invokevirtual 134, 3) := by decide +kernel
theorem dX5_isStranded_8 : decode cX5_isStranded 8 = .ok (.ifCond .eq 19, 3) := by decide +kernel
theorem dX5_isStranded_11 : decode cX5_isStranded 11 = .ok (.aload_n 0, 1) := by decide +kernel
theorem dX5_isStranded_12 : decode cX5_isStranded 12 = .ok (.getfield 56, 3) := by decide +kernel
theorem dX5_isStranded_15 : decode cX5_isStranded 15 = .ok (.iload_n 1, 1) := by decide +kernel
theorem dX5_isStranded_16 : decode cX5_isStranded 16 = .ok (.invokevirtual 95, 3) := by decide +kernel
theorem dX5_isStranded_19 : decode cX5_isStranded 19 = .ok (.iconst (-1), 1) := by decide +kernel
theorem dX5_isStranded_20 : decode cX5_isStranded 20 = .ok (.if_icmp .ne 7, 3) := by decide +kernel
theorem dX5_isStranded_23 : decode cX5_isStranded 23 = .ok (.iconst 1, 1) := by decide +kernel
theorem dX5_isStranded_24 : decode cX5_isStranded 24 = .ok (.goto 4, 3) := by decide +kernel
theorem dX5_isStranded_27 : decode cX5_isStranded 27 = .ok (.iconst 0, 1) := by decide +kernel
theorem dX5_isStranded_28 : decode cX5_isStranded 28 = .ok (.ireturn, 1) := by decide +kernel
theorem dX5_lowestStranded_0 : decode cX5_lowestStranded 0 = .ok (.iconst 0, 1) := by decide +kernel
theorem dX5_lowestStranded_1 : decode cX5_lowestStranded 1 = .ok (.istore_n 1, 1) := by decide +kernel
theorem dX5_lowestStranded_2 : decode cX5_lowestStranded 2 = .ok (.iload_n 1, 1) := by decide +kernel
theorem dX5_lowestStranded_3 : decode cX5_lowestStranded 3 = .ok (.aload_n 0, 1) := by decide +kernel
theorem dX5_lowestStranded_4 : decode cX5_lowestStranded 4 = .ok (.getfield 10, 3) := by decide +kernel
theorem dX5_lowestStranded_7 : decode cX5_lowestStranded 7 = .ok (.invokevirtual 212, 3) := by decide +kernel
theorem dX5_lowestStranded_10 : decode cX5_lowestStranded 10 = .ok (.if_icmp .ge 19, 3) := by decide +kernel
theorem dX5_lowestStranded_13 : decode cX5_lowestStranded 13 = .ok (.aload_n 0, 1) := by decide +kernel
theorem dX5_lowestStranded_14 : decode cX5_lowestStranded 14 = .ok (.iload_n 1, 1) := by decide +kernel
theorem dX5_lowestStranded_15 : decode cX5_lowestStranded 15 = .ok (.invokevirtual 297, 3) := by decide +kernel
theorem dX5_lowestStranded_18 : decode cX5_lowestStranded 18 = .ok (.ifCond .eq 5, 3) := by decide +kernel
theorem dX5_lowestStranded_21 : decode cX5_lowestStranded 21 = .ok (.iload_n 1, 1) := by decide +kernel
theorem dX5_lowestStranded_22 : decode cX5_lowestStranded 22 = .ok (.ireturn, 1) := by decide +kernel
theorem dX5_lowestStranded_23 : decode cX5_lowestStranded 23 = .ok (.iinc 1 1, 3) := by decide +kernel
theorem dX5_lowestStranded_26 : decode cX5_lowestStranded 26 = .ok (.goto (-24), 3) := by decide +kernel
theorem dX5_lowestStranded_29 : decode cX5_lowestStranded 29 = .ok (.iconst (-1), 1) := by decide +kernel
theorem dX5_lowestStranded_30 : decode cX5_lowestStranded 30 = .ok (.ireturn, 1) := by decide +kernel
theorem dX5_lowestFloating_0 : decode cX5_lowestFloating 0 = .ok (.iconst 0, 1) := by decide +kernel
theorem dX5_lowestFloating_1 : decode cX5_lowestFloating 1 = .ok (.istore_n 2, 1) := by decide +kernel
theorem dX5_lowestFloating_2 : decode cX5_lowestFloating 2 = .ok (.iload_n 2, 1) := by decide +kernel
theorem dX5_lowestFloating_3 : decode cX5_lowestFloating 3 = .ok (.aload_n 1, 1) := by decide +kernel
theorem dX5_lowestFloating_4 : decode cX5_lowestFloating 4 = .ok (.invokevirtual 212, 3) := by decide +kernel
theorem dX5_lowestFloating_7 : decode cX5_lowestFloating 7 = .ok (.if_icmp .ge 39, 3) := by decide +kernel
theorem dX5_lowestFloating_10 : decode cX5_lowestFloating 10 = .ok (.aload_n 0, 1) := by decide +kernel
theorem dX5_lowestFloating_11 : decode cX5_lowestFloating 11 = .ok (.getfield 40, 3) := by decide +kernel
theorem dX5_lowestFloating_14 : decode cX5_lowestFloating 14 = .ok (.iload_n 2, 1) := by decide +kernel
theorem dX5_lowestFloating_15 : decode cX5_lowestFloating 15 = .ok (.invokevirtual 134, 3) := by decide +kernel
theorem dX5_lowestFloating_18 : decode cX5_lowestFloating 18 = .ok (.ifCond .eq 22, 3) := by decide +kernel
theorem dX5_lowestFloating_21 : decode cX5_lowestFloating 21 = .ok (.aload_n 0, 1) := by decide +kernel
theorem dX5_lowestFloating_22 : decode cX5_lowestFloating 22 = .ok (.getfield 47, 3) := by decide +kernel
theorem dX5_lowestFloating_25 : decode cX5_lowestFloating 25 = .ok (.aload_n 1, 1) := by decide +kernel
theorem dX5_lowestFloating_26 : decode cX5_lowestFloating 26 = .ok (.aload_n 0, 1) := by decide +kernel
theorem dX5_lowestFloating_27 : decode cX5_lowestFloating 27 = .ok (.getfield 40, 3) := by decide +kernel
theorem dX5_lowestFloating_30 : decode cX5_lowestFloating 30 = .ok (.iload_n 2, 1) := by decide +kernel
theorem dX5_lowestFloating_31 : decode cX5_lowestFloating 31 = .ok (.invokevirtual 138, 3) := by decide +kernel
theorem dX5_lowestFloating_34 : decode cX5_lowestFloating 34 = .ok (.iconst (-1), 1) := by decide +kernel
theorem dX5_lowestFloating_35 : decode cX5_lowestFloating 35 = .ok (.if_icmp .eq 5, 3) := by decide +kernel
theorem dX5_lowestFloating_38 : decode cX5_lowestFloating 38 = .ok (.iload_n 2, 1) := by decide +kernel
theorem dX5_lowestFloating_39 : decode cX5_lowestFloating 39 = .ok (.ireturn, 1) := by decide +kernel
theorem dX5_lowestFloating_40 : decode cX5_lowestFloating 40 = .ok (.iinc 2 1, 3) := by decide +kernel
theorem dX5_lowestFloating_43 : decode cX5_lowestFloating 43 = .ok (.goto (-41), 3) := by decide +kernel
theorem dX5_lowestFloating_46 : decode cX5_lowestFloating 46 = .ok (.iconst (-1), 1) := by decide +kernel
theorem dX5_lowestFloating_47 : decode cX5_lowestFloating 47 = .ok (.ireturn, 1) := by decide +kernel
theorem dX5_removeFloating_0 : decode cX5_removeFloating 0 = .ok (.aload_n 0, 1) := by decide +kernel
theorem dX5_removeFloating_1 : decode cX5_removeFloating 1 = .ok (.getfield 40, 3) := by decide +kernel
theorem dX5_removeFloating_4 : decode cX5_removeFloating 4 = .ok (.aload_n 1, 1) := by decide +kernel
theorem dX5_removeFloating_5 : decode cX5_removeFloating 5 = .ok (.invokevirtual 127, 3) := by decide +kernel
theorem dX5_removeFloating_8 : decode cX5_removeFloating 8 = .ok (.iconst 0, 1) := by decide +kernel
theorem dX5_removeFloating_9 : decode cX5_removeFloating 9 = .ok (.istore_n 2, 1) := by decide +kernel
theorem dX5_removeFloating_10 : decode cX5_removeFloating 10 = .ok (.iload_n 2, 1) := by decide +kernel
theorem dX5_removeFloating_11 : decode cX5_removeFloating 11 = .ok (.bipush 49, 2) := by decide +kernel
theorem dX5_removeFloating_13 : decode cX5_removeFloating 13 = .ok (.if_icmp .ge 40, 3) := by decide +kernel
theorem dX5_removeFloating_16 : decode cX5_removeFloating 16 = .ok (.aload_n 0, 1) := by decide +kernel
theorem dX5_removeFloating_17 : decode cX5_removeFloating 17 = .ok (.aload_n 1, 1) := by decide +kernel
theorem dX5_removeFloating_18 : decode cX5_removeFloating 18 = .ok (.invokevirtual 303, 3) := by decide +kernel
theorem dX5_removeFloating_21 : decode cX5_removeFloating 21 = .ok (.istore_n 3, 1) := by decide +kernel
theorem dX5_removeFloating_22 : decode cX5_removeFloating 22 = .ok (.iload_n 3, 1) := by decide +kernel
theorem dX5_removeFloating_23 : decode cX5_removeFloating 23 = .ok (.iconst (-1), 1) := by decide +kernel
theorem dX5_removeFloating_24 : decode cX5_removeFloating 24 = .ok (.if_icmp .ne 5, 3) := by decide +kernel
theorem dX5_removeFloating_27 : decode cX5_removeFloating 27 = .ok (.iload_n 2, 1) := by decide +kernel
theorem dX5_removeFloating_28 : decode cX5_removeFloating 28 = .ok (.ireturn, 1) := by decide +kernel
theorem dX5_removeFloating_29 : decode cX5_removeFloating 29 = .ok (.aload_n 1, 1) := by decide +kernel
theorem dX5_removeFloating_30 : decode cX5_removeFloating 30 = .ok (.aload_n 0, 1) := by decide +kernel
theorem dX5_removeFloating_31 : decode cX5_removeFloating 31 = .ok (.getfield 40, 3) := by decide +kernel
theorem dX5_removeFloating_34 : decode cX5_removeFloating 34 = .ok (.iload_n 3, 1) := by decide +kernel
theorem dX5_removeFloating_35 : decode cX5_removeFloating 35 = .ok (.invokevirtual 144, 3) := by decide +kernel
theorem dX5_removeFloating_38 : decode cX5_removeFloating 38 = .ok (.pop, 1) := by decide +kernel
theorem dX5_removeFloating_39 : decode cX5_removeFloating 39 = .ok (.aload_n 0, 1) := by decide +kernel
theorem dX5_removeFloating_40 : decode cX5_removeFloating 40 = .ok (.getfield 40, 3) := by decide +kernel
theorem dX5_removeFloating_43 : decode cX5_removeFloating 43 = .ok (.iload_n 3, 1) := by decide +kernel
theorem dX5_removeFloating_44 : decode cX5_removeFloating 44 = .ok (.invokevirtual 306, 3) := by decide +kernel
theorem dX5_removeFloating_47 : decode cX5_removeFloating 47 = .ok (.iinc 2 1, 3) := by decide +kernel
theorem dX5_removeFloating_50 : decode cX5_removeFloating 50 = .ok (.goto (-40), 3) := by decide +kernel
theorem dX5_removeFloating_53 : decode cX5_removeFloating 53 = .ok (.bipush 49, 2) := by decide +kernel
theorem dX5_removeFloating_55 : decode cX5_removeFloating 55 = .ok (.ireturn, 1) := by decide +kernel
theorem dX5_hasWaterIn_0 : decode cX5_hasWaterIn 0 = .ok (.iconst 0, 1) := by decide +kernel
theorem dX5_hasWaterIn_1 : decode cX5_hasWaterIn 1 = .ok (.istore_n 3, 1) := by decide +kernel
theorem dX5_hasWaterIn_2 : decode cX5_hasWaterIn 2 = .ok (.iload_n 3, 1) := by decide +kernel
theorem dX5_hasWaterIn_3 : decode cX5_hasWaterIn 3 = .ok (.aload_n 1, 1) := by decide +kernel
theorem dX5_hasWaterIn_4 : decode cX5_hasWaterIn 4 = .ok (.invokevirtual 212, 3) := by decide +kernel
theorem dX5_hasWaterIn_7 : decode cX5_hasWaterIn 7 = .ok (.if_icmp .ge 31, 3) := by decide +kernel
theorem dX5_hasWaterIn_10 : decode cX5_hasWaterIn 10 = .ok (.aload_n 0, 1) := by decide +kernel
theorem dX5_hasWaterIn_11 : decode cX5_hasWaterIn 11 = .ok (.getfield 40, 3) := by decide +kernel
theorem dX5_hasWaterIn_14 : decode cX5_hasWaterIn 14 = .ok (.iload_n 3, 1) := by decide +kernel
theorem dX5_hasWaterIn_15 : decode cX5_hasWaterIn 15 = .ok (.invokevirtual 131, 3) := by decide +kernel
theorem dX5_hasWaterIn_18 : decode cX5_hasWaterIn 18 = .ok (.iload_n 2, 1) := by decide +kernel
theorem dX5_hasWaterIn_19 : decode cX5_hasWaterIn 19 = .ok (.if_icmp .ne 13, 3) := by decide +kernel
theorem dX5_hasWaterIn_22 : decode cX5_hasWaterIn 22 = .ok (.aload_n 1, 1) := by decide +kernel
theorem dX5_hasWaterIn_23 : decode cX5_hasWaterIn 23 = .ok (.iload_n 3, 1) := by decide +kernel
theorem dX5_hasWaterIn_24 : decode cX5_hasWaterIn 24 = .ok (.invokevirtual 215, 3) := by decide +kernel
theorem dX5_hasWaterIn_27 : decode cX5_hasWaterIn 27 = .ok (.ifCond .ne 5, 3) := by decide +kernel
theorem dX5_hasWaterIn_30 : decode cX5_hasWaterIn 30 = .ok (.iconst 1, 1) := by decide +kernel
theorem dX5_hasWaterIn_31 : decode cX5_hasWaterIn 31 = .ok (.ireturn, 1) := by decide +kernel
theorem dX5_hasWaterIn_32 : decode cX5_hasWaterIn 32 = .ok (.iinc 3 1, 3) := by decide +kernel
theorem dX5_hasWaterIn_35 : decode cX5_hasWaterIn 35 = .ok (.goto (-33), 3) := by decide +kernel
theorem dX5_hasWaterIn_38 : decode cX5_hasWaterIn 38 = .ok (.iconst 0, 1) := by decide +kernel
theorem dX5_hasWaterIn_39 : decode cX5_hasWaterIn 39 = .ok (.ireturn, 1) := by decide +kernel
theorem dX5_freesWay_0 : decode cX5_freesWay 0 = .ok (.aload_n 0, 1) := by decide +kernel
theorem dX5_freesWay_1 : decode cX5_freesWay 1 = .ok (.getfield 16, 3) := by decide +kernel
theorem dX5_freesWay_4 : decode cX5_freesWay 4 = .ok (.getfield 92, 3) := by decide +kernel
theorem dX5_freesWay_7 : decode cX5_freesWay 7 = .ok (.iload_n 1, 1) := by decide +kernel
theorem dX5_freesWay_8 : decode cX5_freesWay 8 = .ok (.invokevirtual 95, 3) := by decide +kernel
theorem dX5_freesWay_11 : decode cX5_freesWay 11 = .ok (.istore_n 3, 1) := by decide +kernel
theorem dX5_freesWay_12 : decode cX5_freesWay 12 = .ok (.aload_n 0, 1) := by decide +kernel
theorem dX5_freesWay_13 : decode cX5_freesWay 13 = .ok (.getfield 16, 3) := by decide +kernel
theorem dX5_freesWay_16 : decode cX5_freesWay 16 = .ok (.getfield 92, 3) := by decide +kernel
theorem dX5_freesWay_19 : decode cX5_freesWay 19 = .ok (.iload_n 1, 1) := by decide +kernel
theorem dX5_freesWay_20 : decode cX5_freesWay 20 = .ok (.iconst 0, 1) := by decide +kernel
theorem dX5_freesWay_21 : decode cX5_freesWay 21 = .ok (.invokevirtual 300, 3) := by decide +kernel
theorem dX5_freesWay_24 : decode cX5_freesWay 24 = .ok (.aload_n 0, 1) := by decide +kernel
theorem dX5_freesWay_25 : decode cX5_freesWay 25 = .ok (.getfield 47, 3) := by decide +kernel
theorem dX5_freesWay_28 : decode cX5_freesWay 28 = .ok (.aload_n 0, 1) := by decide +kernel
theorem dX5_freesWay_29 : decode cX5_freesWay 29 = .ok (.getfield 16, 3) := by decide +kernel
theorem dX5_freesWay_32 : decode cX5_freesWay 32 = .ok (.aload_n 0, 1) := by decide +kernel
theorem dX5_freesWay_33 : decode cX5_freesWay 33 = .ok (.getfield 40, 3) := by decide +kernel
theorem dX5_freesWay_36 : decode cX5_freesWay 36 = .ok (.iload_n 2, 1) := by decide +kernel
theorem dX5_freesWay_37 : decode cX5_freesWay 37 = .ok (.invokevirtual 138, 3) := by decide +kernel
theorem dX5_freesWay_40 : decode cX5_freesWay 40 = .ok (.iconst (-1), 1) := by decide +kernel
theorem dX5_freesWay_41 : decode cX5_freesWay 41 = .ok (.if_icmp .eq 7, 3) := by decide +kernel
theorem dX5_freesWay_44 : decode cX5_freesWay 44 = .ok (.iconst 1, 1) := by decide +kernel
theorem dX5_freesWay_45 : decode cX5_freesWay 45 = .ok (.goto 4, 3) := by decide +kernel
theorem dX5_freesWay_48 : decode cX5_freesWay 48 = .ok (.iconst 0, 1) := by decide +kernel
theorem dX5_freesWay_49 : decode cX5_freesWay 49 = .ok (.istore 4, 2) := by decide +kernel
theorem dX5_freesWay_51 : decode cX5_freesWay 51 = .ok (.aload_n 0, 1) := by decide +kernel
theorem dX5_freesWay_52 : decode cX5_freesWay 52 = .ok (.getfield 16, 3) := by decide +kernel
theorem dX5_freesWay_55 : decode cX5_freesWay 55 = .ok (.getfield 92, 3) := by decide +kernel
theorem dX5_freesWay_58 : decode cX5_freesWay 58 = .ok (.iload_n 1, 1) := by decide +kernel
theorem dX5_freesWay_59 : decode cX5_freesWay 59 = .ok (.iload_n 3, 1) := by decide +kernel
theorem dX5_freesWay_60 : decode cX5_freesWay 60 = .ok (.invokevirtual 300, 3) := by decide +kernel
theorem dX5_freesWay_63 : decode cX5_freesWay 63 = .ok (.iload 4, 2) := by decide +kernel
theorem dX5_freesWay_65 : decode cX5_freesWay 65 = .ok (.ireturn, 1) := by decide +kernel
theorem dX6_init_0 : decode cX6_init 0 = .ok (.aload_n 0, 1) := by decide +kernel
theorem dX6_init_1 : decode cX6_init 1 = .ok (.invokespecial 1, 3) := by decide +kernel
theorem dX6_init_4 : decode cX6_init 4 = .ok (.aload_n 0, 1) := by decide +kernel
theorem dX6_init_5 : decode cX6_init 5 = .ok (.sipush 226, 3) := by decide +kernel
theorem dX6_init_8 : decode cX6_init 8 = .ok (.newarray .int, 2) := by decide +kernel
theorem dX6_init_10 : decode cX6_init 10 = .ok (.putfield 7, 3) := by decide +kernel
theorem dX6_init_13 : decode cX6_init 13 = .ok (.aload_n 0, 1) := by decide +kernel
theorem dX6_init_14 : decode cX6_init 14 = .ok (.sipush 904, 3) := by decide +kernel
theorem dX6_init_17 : decode cX6_init 17 = .ok (.newarray .int, 2) := by decide +kernel
theorem dX6_init_19 : decode cX6_init 19 = .ok (.putfield 13, 3) := by decide +kernel
theorem dX6_init_22 : decode cX6_init 22 = .ok (.aload_n 0, 1) := by decide +kernel
theorem dX6_init_23 : decode cX6_init 23 = .ok (.sipush 226, 3) := by decide +kernel
theorem dX6_init_26 : decode cX6_init 26 = .ok (.newarray .int, 2) := by decide +kernel
theorem dX6_init_28 : decode cX6_init 28 = .ok (.putfield 16, 3) := by decide +kernel
theorem dX6_init_31 : decode cX6_init 31 = .ok (.aload_n 0, 1) := by decide +kernel
theorem dX6_init_32 : decode cX6_init 32 = .ok (.bipush 49, 2) := by decide +kernel
theorem dX6_init_34 : decode cX6_init 34 = .ok (.newarray .int, 2) := by decide +kernel
theorem dX6_init_36 : decode cX6_init 36 = .ok (.putfield 19, 3) := by decide +kernel
theorem dX6_init_39 : decode cX6_init 39 = .ok (.aload_n 0, 1) := by decide +kernel
theorem dX6_init_40 : decode cX6_init 40 = .ok (.sipush 225, 3) := by decide +kernel
theorem dX6_init_43 : decode cX6_init 43 = .ok (.newarray .int, 2) := by decide +kernel
theorem dX6_init_45 : decode cX6_init 45 = .ok (.putfield 22, 3) := by decide +kernel
theorem dX6_init_48 : decode cX6_init 48 = .ok (.aload_n 0, 1) := by decide +kernel
theorem dX6_init_49 : decode cX6_init 49 = .ok (.bipush 49, 2) := by decide +kernel
theorem dX6_init_51 : decode cX6_init 51 = .ok (.newarray .int, 2) := by decide +kernel
theorem dX6_init_53 : decode cX6_init 53 = .ok (.putfield 25, 3) := by decide +kernel
theorem dX6_init_56 : decode cX6_init 56 = .ok (.aload_n 0, 1) := by decide +kernel
theorem dX6_init_57 : decode cX6_init 57 = .ok (.bipush 60, 2) := by decide +kernel
theorem dX6_init_59 : decode cX6_init 59 = .ok (.newarray .int, 2) := by decide +kernel
theorem dX6_init_61 : decode cX6_init 61 = .ok (.putfield 28, 3) := by decide +kernel
theorem dX6_init_64 : decode cX6_init 64 = .ok (.aload_n 0, 1) := by decide +kernel
theorem dX6_init_65 : decode cX6_init 65 = .ok (.getfield 7, 3) := by decide +kernel
theorem dX6_init_68 : decode cX6_init 68 = .ok (.iconst 2, 1) := by decide +kernel
theorem dX6_init_69 : decode cX6_init 69 = .ok (.iconst 1, 1) := by decide +kernel
theorem dX6_init_70 : decode cX6_init 70 = .ok (.iastore, 1) := by decide +kernel
theorem dX6_init_71 : decode cX6_init 71 = .ok (.aload_n 0, 1) := by decide +kernel
theorem dX6_init_72 : decode cX6_init 72 = .ok (.iconst 4, 1) := by decide +kernel
theorem dX6_init_73 : decode cX6_init 73 = .ok (.iconst 4, 1) := by decide +kernel
theorem dX6_init_74 : decode cX6_init 74 = .ok (.invokevirtual 31, 3) := by decide +kernel
theorem dX6_init_77 : decode cX6_init 77 = .ok (.iconst 0, 1) := by decide +kernel
theorem dX6_init_78 : decode cX6_init 78 = .ok (.istore_n 1, 1) := by decide +kernel
theorem dX6_init_79 : decode cX6_init 79 = .ok (.iload_n 1, 1) := by decide +kernel
theorem dX6_init_80 : decode cX6_init 80 = .ok (.bipush 16, 2) := by decide +kernel
theorem dX6_init_82 : decode cX6_init 82 = .ok (.if_icmp .ge 16, 3) := by decide +kernel
theorem dX6_init_85 : decode cX6_init 85 = .ok (.aload_n 0, 1) := by decide +kernel
theorem dX6_init_86 : decode cX6_init 86 = .ok (.iload_n 1, 1) := by decide +kernel
theorem dX6_init_87 : decode cX6_init 87 = .ok (.bipush 10, 2) := by decide +kernel
theorem dX6_init_89 : decode cX6_init 89 = .ok (.invokevirtual 35, 3) := by decide +kernel
theorem dX6_init_92 : decode cX6_init 92 = .ok (.iinc 1 1, 3) := by decide +kernel
theorem dX6_init_95 : decode cX6_init 95 = .ok (.goto (-16), 3) := by decide +kernel
theorem dX6_init_98 : decode cX6_init 98 = .ok (.return_, 1) := by decide +kernel
theorem dX6_thrown_0 : decode cX6_thrown 0 = .ok (.aload_n 0, 1) := by decide +kernel
theorem dX6_thrown_1 : decode cX6_thrown 1 = .ok (.getfield 38, 3) := by decide +kernel
theorem dX6_thrown_4 : decode cX6_thrown 4 = .ok (.ireturn, 1) := by decide +kernel
theorem dX6_in_0 : decode cX6_in 0 = .ok (.lload_n 0, 1) := by decide +kernel
theorem dX6_in_1 : decode cX6_in 1 = .ok (.lload_n 2, 1) := by decide +kernel
theorem dX6_in_2 : decode cX6_in 2 = .ok (.lcmp, 1) := by decide +kernel
theorem dX6_in_3 : decode cX6_in 3 = .ok (.ifCond .lt 14, 3) := by decide +kernel
theorem dX6_in_6 : decode cX6_in 6 = .ok (.lload_n 0, 1) := by decide +kernel
theorem dX6_in_7 : decode cX6_in 7 = .ok (.lload 4, 2) := by decide +kernel
theorem dX6_in_9 : decode cX6_in 9 = .ok (.lcmp, 1) := by decide +kernel
theorem dX6_in_10 : decode cX6_in 10 = .ok (.ifCond .gt 7, 3) := by decide +kernel
theorem dX6_in_13 : decode cX6_in 13 = .ok (.iconst 1, 1) := by decide +kernel
theorem dX6_in_14 : decode cX6_in 14 = .ok (.goto 4, 3) := by decide +kernel
theorem dX6_in_17 : decode cX6_in 17 = .ok (.iconst 0, 1) := by decide +kernel
theorem dX6_in_18 : decode cX6_in 18 = .ok (.ireturn, 1) := by decide +kernel
theorem dX6_fine_0 : decode cX6_fine 0 = .ok (.aload_n 0, 1) := by decide +kernel
theorem dX6_fine_1 : decode cX6_fine 1 = .ok (.iconst 0, 1) := by decide +kernel
theorem dX6_fine_2 : decode cX6_fine 2 = .ok (.putfield 38, 3) := by decide +kernel
theorem dX6_fine_5 : decode cX6_fine 5 = .ok (.iload_n 1, 1) := by decide +kernel
theorem dX6_fine_6 : decode cX6_fine 6 = .ok (.ireturn, 1) := by decide +kernel
theorem dX6_throwing_0 : decode cX6_throwing 0 = .ok (.aload_n 0, 1) := by decide +kernel
theorem dX6_throwing_1 : decode cX6_throwing 1 = .ok (.iload_n 1, 1) := by decide +kernel
theorem dX6_throwing_2 : decode cX6_throwing 2 = .ok (.putfield 38, 3) := by decide +kernel
theorem dX6_throwing_5 : decode cX6_throwing 5 = .ok (.iconst 0, 1) := by decide +kernel
theorem dX6_throwing_6 : decode cX6_throwing 6 = .ok (.ireturn, 1) := by decide +kernel
theorem dX6_save_0 : decode cX6_save 0 = .ok (.aload_n 0, 1) := by decide +kernel
theorem dX6_save_1 : decode cX6_save 1 = .ok (.getfield 42, 3) := by decide +kernel
theorem dX6_save_4 : decode cX6_save 4 = .ok (.iconst 4, 1) := by decide +kernel
theorem dX6_save_5 : decode cX6_save 5 = .ok (.if_icmp .ne 44, 3) := by decide +kernel
theorem dX6_save_8 : decode cX6_save 8 = .ok (.iconst 0, 1) := by decide +kernel
theorem dX6_save_9 : decode cX6_save 9 = .ok (.istore_n 1, 1) := by decide +kernel
theorem dX6_save_10 : decode cX6_save 10 = .ok (.iload_n 1, 1) := by decide +kernel
theorem dX6_save_11 : decode cX6_save 11 = .ok (.sipush 678, 3) := by decide +kernel
theorem dX6_save_14 : decode cX6_save 14 = .ok (.if_icmp .ge 25, 3) := by decide +kernel
theorem dX6_save_17 : decode cX6_save 17 = .ok (.aload_n 0, 1) := by decide +kernel
theorem dX6_save_18 : decode cX6_save 18 = .ok (.getfield 13, 3) := by decide +kernel
theorem dX6_save_21 : decode cX6_save 21 = .ok (.iload_n 1, 1) := by decide +kernel
theorem dX6_save_22 : decode cX6_save 22 = .ok (.aload_n 0, 1) := by decide +kernel
theorem dX6_save_23 : decode cX6_save 23 = .ok (.getfield 13, 3) := by decide +kernel
theorem dX6_save_26 : decode cX6_save 26 = .ok (.iload_n 1, 1) := by decide +kernel
theorem dX6_save_27 : decode cX6_save 27 = .ok (.sipush 226, 3) := by decide +kernel
theorem dX6_save_30 : decode cX6_save 30 = .ok (.iadd, 1) := by decide +kernel
theorem dX6_save_31 : decode cX6_save 31 = .ok (.iaload, 1) := by decide +kernel
theorem dX6_save_32 : decode cX6_save 32 = .ok (.iastore, 1) := by decide +kernel
theorem dX6_save_33 : decode cX6_save 33 = .ok (.iinc 1 1, 3) := by decide +kernel
theorem dX6_save_36 : decode cX6_save 36 = .ok (.goto (-26), 3) := by decide +kernel
theorem dX6_save_39 : decode cX6_save 39 = .ok (.aload_n 0, 1) := by decide +kernel
theorem dX6_save_40 : decode cX6_save 40 = .ok (.dup, 1) := by decide +kernel
theorem dX6_save_41 : decode cX6_save 41 = .ok (.getfield 42, 3) := by decide +kernel
theorem dX6_save_44 : decode cX6_save 44 = .ok (.iconst 1, 1) := by decide +kernel
theorem dX6_save_45 : decode cX6_save 45 = .ok (.isub, 1) := by decide +kernel
theorem dX6_save_46 : decode cX6_save 46 = .ok (.putfield 42, 3) := by decide +kernel
theorem dX6_save_49 : decode cX6_save 49 = .ok (.iconst 0, 1) := by decide +kernel
theorem dX6_save_50 : decode cX6_save 50 = .ok (.istore_n 1, 1) := by decide +kernel
theorem dX6_save_51 : decode cX6_save 51 = .ok (.iload_n 1, 1) := by decide +kernel
theorem dX6_save_52 : decode cX6_save 52 = .ok (.sipush 226, 3) := by decide +kernel
theorem dX6_save_55 : decode cX6_save 55 = .ok (.if_icmp .ge 30, 3) := by decide +kernel
theorem dX6_save_58 : decode cX6_save 58 = .ok (.aload_n 0, 1) := by decide +kernel
theorem dX6_save_59 : decode cX6_save 59 = .ok (.getfield 13, 3) := by decide +kernel
theorem dX6_save_62 : decode cX6_save 62 = .ok (.sipush 226, 3) := by decide +kernel
theorem dX6_save_65 : decode cX6_save 65 = .ok (.aload_n 0, 1) := by decide +kernel
theorem dX6_save_66 : decode cX6_save 66 = .ok (.getfield 42, 3) := by decide +kernel
theorem dX6_save_69 : decode cX6_save 69 = .ok (.imul, 1) := by decide +kernel
theorem dX6_save_70 : decode cX6_save 70 = .ok (.iload_n 1, 1) := by decide +kernel
theorem dX6_save_71 : decode cX6_save 71 = .ok (.iadd, 1) := by decide +kernel
theorem dX6_save_72 : decode cX6_save 72 = .ok (.aload_n 0, 1) := by decide +kernel
theorem dX6_save_73 : decode cX6_save 73 = .ok (.getfield 7, 3) := by decide +kernel
theorem dX6_save_76 : decode cX6_save 76 = .ok (.iload_n 1, 1) := by decide +kernel
theorem dX6_save_77 : decode cX6_save 77 = .ok (.iaload, 1) := by decide +kernel
theorem dX6_save_78 : decode cX6_save 78 = .ok (.iastore, 1) := by decide +kernel
theorem dX6_save_79 : decode cX6_save 79 = .ok (.iinc 1 1, 3) := by decide +kernel
theorem dX6_save_82 : decode cX6_save 82 = .ok (.goto (-31), 3) := by decide +kernel
theorem dX6_save_85 : decode cX6_save 85 = .ok (.aload_n 0, 1) := by decide +kernel
theorem dX6_save_86 : decode cX6_save 86 = .ok (.dup, 1) := by decide +kernel
theorem dX6_save_87 : decode cX6_save 87 = .ok (.getfield 42, 3) := by decide +kernel
theorem dX6_save_90 : decode cX6_save 90 = .ok (.iconst 1, 1) := by decide +kernel
theorem dX6_save_91 : decode cX6_save 91 = .ok (.iadd, 1) := by decide +kernel
theorem dX6_save_92 : decode cX6_save 92 = .ok (.putfield 42, 3) := by decide +kernel
theorem dX6_save_95 : decode cX6_save 95 = .ok (.return_, 1) := by decide +kernel
theorem dX6_laysAside_0 : decode cX6_laysAside 0 = .ok (.iconst 0, 1) := by decide +kernel
theorem dX6_laysAside_1 : decode cX6_laysAside 1 = .ok (.istore_n 1, 1) := by decide +kernel
theorem dX6_laysAside_2 : decode cX6_laysAside 2 = .ok (.iload_n 1, 1) := by decide +kernel
theorem dX6_laysAside_3 : decode cX6_laysAside 3 = .ok (.sipush 226, 3) := by decide +kernel
theorem dX6_laysAside_6 : decode cX6_laysAside 6 = .ok (.if_icmp .ge 21, 3) := by decide +kernel
theorem dX6_laysAside_9 : decode cX6_laysAside 9 = .ok (.aload_n 0, 1) := by decide +kernel
theorem dX6_laysAside_10 : decode cX6_laysAside 10 = .ok (.getfield 16, 3) := by decide +kernel
theorem dX6_laysAside_13 : decode cX6_laysAside 13 = .ok (.iload_n 1, 1) := by decide +kernel
theorem dX6_laysAside_14 : decode cX6_laysAside 14 = .ok (.aload_n 0, 1) := by decide +kernel
theorem dX6_laysAside_15 : decode cX6_laysAside 15 = .ok (.getfield 7, 3) := by decide +kernel
theorem dX6_laysAside_18 : decode cX6_laysAside 18 = .ok (.iload_n 1, 1) := by decide +kernel
theorem dX6_laysAside_19 : decode cX6_laysAside 19 = .ok (.iaload, 1) := by decide +kernel
theorem dX6_laysAside_20 : decode cX6_laysAside 20 = .ok (.iastore, 1) := by decide +kernel
theorem dX6_laysAside_21 : decode cX6_laysAside 21 = .ok (.iinc 1 1, 3) := by decide +kernel
theorem dX6_laysAside_24 : decode cX6_laysAside 24 = .ok (.goto (-22), 3) := by decide +kernel
theorem dX6_laysAside_27 : decode cX6_laysAside 27 = .ok (.return_, 1) := by decide +kernel
theorem dX6_takesBack_0 : decode cX6_takesBack 0 = .ok (.iconst 0, 1) := by decide +kernel
theorem dX6_takesBack_1 : decode cX6_takesBack 1 = .ok (.istore_n 1, 1) := by decide +kernel
theorem dX6_takesBack_2 : decode cX6_takesBack 2 = .ok (.iload_n 1, 1) := by decide +kernel
theorem dX6_takesBack_3 : decode cX6_takesBack 3 = .ok (.sipush 226, 3) := by decide +kernel
theorem dX6_takesBack_6 : decode cX6_takesBack 6 = .ok (.if_icmp .ge 21, 3) := by decide +kernel
theorem dX6_takesBack_9 : decode cX6_takesBack 9 = .ok (.aload_n 0, 1) := by decide +kernel
theorem dX6_takesBack_10 : decode cX6_takesBack 10 = .ok (.getfield 7, 3) := by decide +kernel
theorem dX6_takesBack_13 : decode cX6_takesBack 13 = .ok (.iload_n 1, 1) := by decide +kernel
theorem dX6_takesBack_14 : decode cX6_takesBack 14 = .ok (.aload_n 0, 1) := by decide +kernel
theorem dX6_takesBack_15 : decode cX6_takesBack 15 = .ok (.getfield 16, 3) := by decide +kernel
theorem dX6_takesBack_18 : decode cX6_takesBack 18 = .ok (.iload_n 1, 1) := by decide +kernel
theorem dX6_takesBack_19 : decode cX6_takesBack 19 = .ok (.iaload, 1) := by decide +kernel
theorem dX6_takesBack_20 : decode cX6_takesBack 20 = .ok (.iastore, 1) := by decide +kernel
theorem dX6_takesBack_21 : decode cX6_takesBack 21 = .ok (.iinc 1 1, 3) := by decide +kernel
theorem dX6_takesBack_24 : decode cX6_takesBack 24 = .ok (.goto (-22), 3) := by decide +kernel
theorem dX6_takesBack_27 : decode cX6_takesBack 27 = .ok (.return_, 1) := by decide +kernel
theorem dX6_makes_0 : decode cX6_makes 0 = .ok (.aload_n 0, 1) := by decide +kernel
theorem dX6_makes_1 : decode cX6_makes 1 = .ok (.getfield 7, 3) := by decide +kernel
theorem dX6_makes_4 : decode cX6_makes 4 = .ok (.iconst 2, 1) := by decide +kernel
theorem dX6_makes_5 : decode cX6_makes 5 = .ok (.iaload, 1) := by decide +kernel
theorem dX6_makes_6 : decode cX6_makes 6 = .ok (.istore_n 3, 1) := by decide +kernel
theorem dX6_makes_7 : decode cX6_makes 7 = .ok (.iconst 0, 1) := by decide +kernel
theorem dX6_makes_8 : decode cX6_makes 8 = .ok (.istore 4, 2) := by decide +kernel
theorem dX6_makes_10 : decode cX6_makes 10 = .ok (.iload 4, 2) := by decide +kernel
theorem dX6_makes_12 : decode cX6_makes 12 = .ok (.sipush 226, 3) := by decide +kernel
theorem dX6_makes_15 : decode cX6_makes 15 = .ok (.if_icmp .ge 17, 3) := by decide +kernel
theorem dX6_makes_18 : decode cX6_makes 18 = .ok (.aload_n 0, 1) := by decide +kernel
theorem dX6_makes_19 : decode cX6_makes 19 = .ok (.getfield 7, 3) := by decide +kernel
theorem dX6_makes_22 : decode cX6_makes 22 = .ok (.iload 4, 2) := by decide +kernel
theorem dX6_makes_24 : decode cX6_makes 24 = .ok (.iconst 0, 1) := by decide +kernel
theorem dX6_makes_25 : decode cX6_makes 25 = .ok (.iastore, 1) := by decide +kernel
theorem dX6_makes_26 : decode cX6_makes 26 = .ok (.iinc 4 1, 3) := by decide +kernel
theorem dX6_makes_29 : decode cX6_makes 29 = .ok (.goto (-19), 3) := by decide +kernel
theorem dX6_makes_32 : decode cX6_makes 32 = .ok (.aload_n 0, 1) := by decide +kernel
theorem dX6_makes_33 : decode cX6_makes 33 = .ok (.getfield 7, 3) := by decide +kernel
theorem dX6_makes_36 : decode cX6_makes 36 = .ok (.iconst 2, 1) := by decide +kernel
theorem dX6_makes_37 : decode cX6_makes 37 = .ok (.iload_n 3, 1) := by decide +kernel
theorem dX6_makes_38 : decode cX6_makes 38 = .ok (.iastore, 1) := by decide +kernel
theorem dX6_makes_39 : decode cX6_makes 39 = .ok (.aload_n 0, 1) := by decide +kernel
theorem dX6_makes_40 : decode cX6_makes 40 = .ok (.getfield 7, 3) := by decide +kernel
theorem dX6_makes_43 : decode cX6_makes 43 = .ok (.iconst 0, 1) := by decide +kernel
theorem dX6_makes_44 : decode cX6_makes 44 = .ok (.iload_n 1, 1) := by decide +kernel
theorem dX6_makes_45 : decode cX6_makes 45 = .ok (.iastore, 1) := by decide +kernel
theorem dX6_makes_46 : decode cX6_makes 46 = .ok (.aload_n 0, 1) := by decide +kernel
theorem dX6_makes_47 : decode cX6_makes 47 = .ok (.getfield 7, 3) := by decide +kernel
theorem dX6_makes_50 : decode cX6_makes 50 = .ok (.iconst 1, 1) := by decide +kernel
theorem dX6_makes_51 : decode cX6_makes 51 = .ok (.iload_n 2, 1) := by decide +kernel
theorem dX6_makes_52 : decode cX6_makes 52 = .ok (.iastore, 1) := by decide +kernel
theorem dX6_makes_53 : decode cX6_makes 53 = .ok (.return_, 1) := by decide +kernel
theorem dX6_puts_0 : decode cX6_puts 0 = .ok (.aload_n 0, 1) := by decide +kernel
theorem dX6_puts_1 : decode cX6_puts 1 = .ok (.getfield 7, 3) := by decide +kernel
theorem dX6_puts_4 : decode cX6_puts 4 = .ok (.bipush 8, 2) := by decide +kernel
theorem dX6_puts_6 : decode cX6_puts 6 = .ok (.iload_n 1, 1) := by decide +kernel
theorem dX6_puts_7 : decode cX6_puts 7 = .ok (.iadd, 1) := by decide +kernel
theorem dX6_puts_8 : decode cX6_puts 8 = .ok (.dup2, 1) := by decide +kernel
theorem dX6_puts_9 : decode cX6_puts 9 = .ok (.iaload, 1) := by decide +kernel
theorem dX6_puts_10 : decode cX6_puts 10 = .ok (.iload_n 2, 1) := by decide +kernel
theorem dX6_puts_11 : decode cX6_puts 11 = .ok (.iadd, 1) := by decide +kernel
theorem dX6_puts_12 : decode cX6_puts 12 = .ok (.iastore, 1) := by decide +kernel
theorem dX6_puts_13 : decode cX6_puts 13 = .ok (.aload_n 0, 1) := by decide +kernel
theorem dX6_puts_14 : decode cX6_puts 14 = .ok (.getfield 7, 3) := by decide +kernel
theorem dX6_puts_17 : decode cX6_puts 17 = .ok (.iconst 4, 1) := by decide +kernel
theorem dX6_puts_18 : decode cX6_puts 18 = .ok (.dup2, 1) := by decide +kernel
theorem dX6_puts_19 : decode cX6_puts 19 = .ok (.iaload, 1) := by decide +kernel
theorem dX6_puts_20 : decode cX6_puts 20 = .ok (.iload_n 2, 1) := by decide +kernel
theorem dX6_puts_21 : decode cX6_puts 21 = .ok (.iadd, 1) := by decide +kernel
theorem dX6_puts_22 : decode cX6_puts 22 = .ok (.iastore, 1) := by decide +kernel
theorem dX6_puts_23 : decode cX6_puts 23 = .ok (.return_, 1) := by decide +kernel
theorem dX6_cells_0 : decode cX6_cells 0 = .ok (.aload_n 0, 1) := by decide +kernel
theorem dX6_cells_1 : decode cX6_cells 1 = .ok (.getfield 7, 3) := by decide +kernel
theorem dX6_cells_4 : decode cX6_cells 4 = .ok (.iconst 0, 1) := by decide +kernel
theorem dX6_cells_5 : decode cX6_cells 5 = .ok (.iaload, 1) := by decide +kernel
theorem dX6_cells_6 : decode cX6_cells 6 = .ok (.aload_n 0, 1) := by decide +kernel
theorem dX6_cells_7 : decode cX6_cells 7 = .ok (.getfield 7, 3) := by decide +kernel
theorem dX6_cells_10 : decode cX6_cells 10 = .ok (.iconst 1, 1) := by decide +kernel
theorem dX6_cells_11 : decode cX6_cells 11 = .ok (.iaload, 1) := by decide +kernel
theorem dX6_cells_12 : decode cX6_cells 12 = .ok (.imul, 1) := by decide +kernel
theorem dX6_cells_13 : decode cX6_cells 13 = .ok (.ireturn, 1) := by decide +kernel
theorem dX6_isCell_0 : decode cX6_isCell 0 = .ok (.iload_n 1, 1) := by decide +kernel
theorem dX6_isCell_1 : decode cX6_isCell 1 = .ok (.i2l, 1) := by decide +kernel
theorem dX6_isCell_2 : decode cX6_isCell 2 = .ok (.lconst 0, 1) := by decide +kernel
theorem dX6_isCell_3 : decode cX6_isCell 3 = .ok (.aload_n 0, 1) := by decide +kernel
theorem dX6_isCell_4 : decode cX6_isCell 4 = .ok (.invokevirtual 45, 3) := by decide +kernel
theorem dX6_isCell_7 : decode cX6_isCell 7 = .ok (.i2l, 1) := by decide +kernel
theorem dX6_isCell_8 : decode cX6_isCell 8 = .ok (.lconst 1, 1) := by decide +kernel
theorem dX6_isCell_9 : decode cX6_isCell 9 = .ok (.lsub, 1) := by decide +kernel
theorem dX6_isCell_10 : decode cX6_isCell 10 = .ok (.invokestatic 49, 3) := by decide +kernel
theorem dX6_isCell_13 : decode cX6_isCell 13 = .ok (.ireturn, 1) := by decide +kernel
theorem dX6_row_0 : decode cX6_row 0 = .ok (.iload_n 1, 1) := by decide +kernel
theorem dX6_row_1 : decode cX6_row 1 = .ok (.aload_n 0, 1) := by decide +kernel
theorem dX6_row_2 : decode cX6_row 2 = .ok (.getfield 7, 3) := by decide +kernel
theorem dX6_row_5 : decode cX6_row 5 = .ok (.iconst 0, 1) := by decide +kernel
theorem dX6_row_6 : decode cX6_row 6 = .ok (.iaload, 1) := by decide +kernel
theorem dX6_row_7 : decode cX6_row 7 = .ok (.idiv, 1) := by decide +kernel
theorem dX6_row_8 : decode cX6_row 8 = .ok (.ireturn, 1) := by decide +kernel
theorem dX6_column_0 : decode cX6_column 0 = .ok (.iload_n 1, 1) := by decide +kernel
theorem dX6_column_1 : decode cX6_column 1 = .ok (.aload_n 0, 1) := by decide +kernel
theorem dX6_column_2 : decode cX6_column 2 = .ok (.getfield 7, 3) := by decide +kernel
theorem dX6_column_5 : decode cX6_column 5 = .ok (.iconst 0, 1) := by decide +kernel
theorem dX6_column_6 : decode cX6_column 6 = .ok (.iaload, 1) := by decide +kernel
theorem dX6_column_7 : decode cX6_column 7 = .ok (.irem, 1) := by decide +kernel
theorem dX6_column_8 : decode cX6_column 8 = .ok (.ireturn, 1) := by decide +kernel
theorem dX6_isIce_0 : decode cX6_isIce 0 = .ok (.aload_n 0, 1) := by decide +kernel
theorem dX6_isIce_1 : decode cX6_isIce 1 = .ok (.getfield 7, 3) := by decide +kernel
theorem dX6_isIce_4 : decode cX6_isIce 4 = .ok (.bipush 8, 2) := by decide +kernel
theorem dX6_isIce_6 : decode cX6_isIce 6 = .ok (.iload_n 1, 1) := by decide +kernel
theorem dX6_isIce_7 : decode cX6_isIce 7 = .ok (.iadd, 1) := by decide +kernel
theorem dX6_isIce_8 : decode cX6_isIce 8 = .ok (.iaload, 1) := by decide +kernel
theorem dX6_isIce_9 : decode cX6_isIce 9 = .ok (.ifCond .le 7, 3) := by decide +kernel
theorem dX6_isIce_12 : decode cX6_isIce 12 = .ok (.iconst 1, 1) := by decide +kernel
theorem dX6_isIce_13 : decode cX6_isIce 13 = .ok (.goto 4, 3) := by decide +kernel
theorem dX6_isIce_16 : decode cX6_isIce 16 = .ok (.iconst 0, 1) := by decide +kernel
theorem dX6_isIce_17 : decode cX6_isIce 17 = .ok (.ireturn, 1) := by decide +kernel
theorem dX6_make_0 : decode cX6_make 0 = .ok (.iload_n 1, 1) := by decide +kernel
theorem dX6_make_1 : decode cX6_make 1 = .ok (.i2l, 1) := by decide +kernel
theorem dX6_make_2 : decode cX6_make 2 = .ok (.ldc2_w 53, 3) := by decide +kernel
theorem dX6_make_5 : decode cX6_make 5 = .ok (.ldc2_w 55, 3) := by decide +kernel
theorem dX6_make_8 : decode cX6_make 8 = .ok (.invokestatic 49, 3) := by decide +kernel
theorem dX6_make_11 : decode cX6_make 11 = .ok (.ifCond .eq 29, 3) := by decide +kernel
theorem dX6_make_14 : decode cX6_make 14 = .ok (.iload_n 2, 1) := by decide +kernel
theorem dX6_make_15 : decode cX6_make 15 = .ok (.i2l, 1) := by decide +kernel
theorem dX6_make_16 : decode cX6_make 16 = .ok (.ldc2_w 53, 3) := by decide +kernel
theorem dX6_make_19 : decode cX6_make 19 = .ok (.ldc2_w 55, 3) := by decide +kernel
theorem dX6_make_22 : decode cX6_make 22 = .ok (.invokestatic 49, 3) := by decide +kernel
theorem dX6_make_25 : decode cX6_make 25 = .ok (.ifCond .eq 15, 3) := by decide +kernel
theorem dX6_make_28 : decode cX6_make 28 = .ok (.iload_n 3, 1) := by decide +kernel
theorem dX6_make_29 : decode cX6_make 29 = .ok (.i2l, 1) := by decide +kernel
theorem dX6_make_30 : decode cX6_make 30 = .ok (.lconst 0, 1) := by decide +kernel
theorem dX6_make_31 : decode cX6_make 31 = .ok (.ldc2_w 57, 3) := by decide +kernel
theorem dX6_make_34 : decode cX6_make 34 = .ok (.invokestatic 49, 3) := by decide +kernel
theorem dX6_make_37 : decode cX6_make 37 = .ok (.ifCond .ne 9, 3) := by decide +kernel
theorem dX6_make_40 : decode cX6_make 40 = .ok (.aload_n 0, 1) := by decide +kernel
theorem dX6_make_41 : decode cX6_make 41 = .ok (.iconst 1, 1) := by decide +kernel
theorem dX6_make_42 : decode cX6_make 42 = .ok (.invokevirtual 59, 3) := by decide +kernel
theorem dX6_make_45 : decode cX6_make 45 = .ok (.ireturn, 1) := by decide +kernel
theorem dX6_make_46 : decode cX6_make 46 = .ok (.aload_n 0, 1) := by decide +kernel
theorem dX6_make_47 : decode cX6_make 47 = .ok (.invokevirtual 63, 3) := by decide +kernel
theorem dX6_make_50 : decode cX6_make 50 = .ok (.aload_n 0, 1) := by decide +kernel
theorem dX6_make_51 : decode cX6_make 51 = .ok (.iload_n 1, 1) := by decide +kernel
theorem dX6_make_52 : decode cX6_make 52 = .ok (.iload_n 2, 1) := by decide +kernel
theorem dX6_make_53 : decode cX6_make 53 = .ok (.invokevirtual 31, 3) := by decide +kernel
theorem dX6_make_56 : decode cX6_make 56 = .ok (.iconst 0, 1) := by decide +kernel
theorem dX6_make_57 : decode cX6_make 57 = .ok (.istore 4, 2) := by decide +kernel
theorem dX6_make_59 : decode cX6_make 59 = .ok (.iload 4, 2) := by decide +kernel
theorem dX6_make_61 : decode cX6_make 61 = .ok (.iload_n 1, 1) := by decide +kernel
theorem dX6_make_62 : decode cX6_make 62 = .ok (.iload_n 2, 1) := by decide +kernel
theorem dX6_make_63 : decode cX6_make 63 = .ok (.imul, 1) := by decide +kernel
theorem dX6_make_64 : decode cX6_make 64 = .ok (.if_icmp .ge 16, 3) := by decide +kernel
theorem dX6_make_67 : decode cX6_make 67 = .ok (.aload_n 0, 1) := by decide +kernel
theorem dX6_make_68 : decode cX6_make 68 = .ok (.iload 4, 2) := by decide +kernel
theorem dX6_make_70 : decode cX6_make 70 = .ok (.iload_n 3, 1) := by decide +kernel
theorem dX6_make_71 : decode cX6_make 71 = .ok (.invokevirtual 35, 3) := by decide +kernel
theorem dX6_make_74 : decode cX6_make 74 = .ok (.iinc 4 1, 3) := by decide +kernel
theorem dX6_make_77 : decode cX6_make 77 = .ok (.goto (-18), 3) := by decide +kernel
theorem dX6_make_80 : decode cX6_make 80 = .ok (.aload_n 0, 1) := by decide +kernel
theorem dX6_make_81 : decode cX6_make 81 = .ok (.aload_n 0, 1) := by decide +kernel
theorem dX6_make_82 : decode cX6_make 82 = .ok (.getfield 7, 3) := by decide +kernel
theorem dX6_make_85 : decode cX6_make 85 = .ok (.iconst 4, 1) := by decide +kernel
theorem dX6_make_86 : decode cX6_make 86 = .ok (.iaload, 1) := by decide +kernel
theorem dX6_make_87 : decode cX6_make 87 = .ok (.invokevirtual 66, 3) := by decide +kernel
theorem dX6_make_90 : decode cX6_make 90 = .ok (.ireturn, 1) := by decide +kernel
theorem dX6_lay_0 : decode cX6_lay 0 = .ok (.aload_n 0, 1) := by decide +kernel
theorem dX6_lay_1 : decode cX6_lay 1 = .ok (.iload_n 1, 1) := by decide +kernel
theorem dX6_lay_2 : decode cX6_lay 2 = .ok (.invokevirtual 69, 3) := by decide +kernel
theorem dX6_lay_5 : decode cX6_lay 5 = .ok (.ifCond .ne 9, 3) := by decide +kernel
theorem dX6_lay_8 : decode cX6_lay 8 = .ok (.aload_n 0, 1) := by decide +kernel
theorem dX6_lay_9 : decode cX6_lay 9 = .ok (.iconst 1, 1) := by decide +kernel
theorem dX6_lay_10 : decode cX6_lay 10 = .ok (.invokevirtual 59, 3) := by decide +kernel
theorem dX6_lay_13 : decode cX6_lay 13 = .ok (.ireturn, 1) := by decide +kernel
theorem dX6_lay_14 : decode cX6_lay 14 = .ok (.iload_n 2, 1) := by decide +kernel
theorem dX6_lay_15 : decode cX6_lay 15 = .ok (.i2l, 1) := by decide +kernel
theorem dX6_lay_16 : decode cX6_lay 16 = .ok (.lconst 1, 1) := by decide +kernel
theorem dX6_lay_17 : decode cX6_lay 17 = .ok (.ldc2_w 57, 3) := by decide +kernel
theorem dX6_lay_20 : decode cX6_lay 20 = .ok (.invokestatic 49, 3) := by decide +kernel
theorem dX6_lay_23 : decode cX6_lay 23 = .ok (.ifCond .ne 9, 3) := by decide +kernel
theorem dX6_lay_26 : decode cX6_lay 26 = .ok (.aload_n 0, 1) := by decide +kernel
theorem dX6_lay_27 : decode cX6_lay 27 = .ok (.iconst 2, 1) := by decide +kernel
theorem dX6_lay_28 : decode cX6_lay 28 = .ok (.invokevirtual 59, 3) := by decide +kernel
theorem dX6_lay_31 : decode cX6_lay 31 = .ok (.ireturn, 1) := by decide +kernel
theorem dX6_lay_32 : decode cX6_lay 32 = .ok (.aload_n 0, 1) := by decide +kernel
theorem dX6_lay_33 : decode cX6_lay 33 = .ok (.getfield 7, 3) := by decide +kernel
theorem dX6_lay_36 : decode cX6_lay 36 = .ok (.bipush 8, 2) := by decide +kernel
theorem dX6_lay_38 : decode cX6_lay 38 = .ok (.iload_n 1, 1) := by decide +kernel
theorem dX6_lay_39 : decode cX6_lay 39 = .ok (.iadd, 1) := by decide +kernel
theorem dX6_lay_40 : decode cX6_lay 40 = .ok (.iaload, 1) := by decide +kernel
theorem dX6_lay_41 : decode cX6_lay 41 = .ok (.iload_n 2, 1) := by decide +kernel
theorem dX6_lay_42 : decode cX6_lay 42 = .ok (.iadd, 1) := by decide +kernel
theorem dX6_lay_43 : decode cX6_lay 43 = .ok (.bipush 50, 2) := by decide +kernel
theorem dX6_lay_45 : decode cX6_lay 45 = .ok (.if_icmp .le 9, 3) := by decide +kernel
theorem dX6_lay_48 : decode cX6_lay 48 = .ok (.aload_n 0, 1) := by decide +kernel
theorem dX6_lay_49 : decode cX6_lay 49 = .ok (.iconst 3, 1) := by decide +kernel
theorem dX6_lay_50 : decode cX6_lay 50 = .ok (.invokevirtual 59, 3) := by decide +kernel
theorem dX6_lay_53 : decode cX6_lay 53 = .ok (.ireturn, 1) := by decide +kernel
theorem dX6_lay_54 : decode cX6_lay 54 = .ok (.aload_n 0, 1) := by decide +kernel
theorem dX6_lay_55 : decode cX6_lay 55 = .ok (.invokevirtual 63, 3) := by decide +kernel
theorem dX6_lay_58 : decode cX6_lay 58 = .ok (.aload_n 0, 1) := by decide +kernel
theorem dX6_lay_59 : decode cX6_lay 59 = .ok (.iload_n 1, 1) := by decide +kernel
theorem dX6_lay_60 : decode cX6_lay 60 = .ok (.iload_n 2, 1) := by decide +kernel
theorem dX6_lay_61 : decode cX6_lay 61 = .ok (.invokevirtual 35, 3) := by decide +kernel
theorem dX6_lay_64 : decode cX6_lay 64 = .ok (.aload_n 0, 1) := by decide +kernel
theorem dX6_lay_65 : decode cX6_lay 65 = .ok (.aload_n 0, 1) := by decide +kernel
theorem dX6_lay_66 : decode cX6_lay 66 = .ok (.getfield 7, 3) := by decide +kernel
theorem dX6_lay_69 : decode cX6_lay 69 = .ok (.bipush 8, 2) := by decide +kernel
theorem dX6_lay_71 : decode cX6_lay 71 = .ok (.iload_n 1, 1) := by decide +kernel
theorem dX6_lay_72 : decode cX6_lay 72 = .ok (.iadd, 1) := by decide +kernel
theorem dX6_lay_73 : decode cX6_lay 73 = .ok (.iaload, 1) := by decide +kernel
theorem dX6_lay_74 : decode cX6_lay 74 = .ok (.invokevirtual 66, 3) := by decide +kernel
theorem dX6_lay_77 : decode cX6_lay 77 = .ok (.ireturn, 1) := by decide +kernel
theorem dX6_canSaw_0 : decode cX6_canSaw 0 = .ok (.iload_n 2, 1) := by decide +kernel
theorem dX6_canSaw_1 : decode cX6_canSaw 1 = .ok (.tableswitch 89 0 3 #[31, 53, 89, 75], 31) := by decide +kernel
theorem dX6_canSaw_32 : decode cX6_canSaw 32 = .ok (.aload_n 0, 1) := by decide +kernel
theorem dX6_canSaw_33 : decode cX6_canSaw 33 = .ok (.iload_n 1, 1) := by decide +kernel
theorem dX6_canSaw_34 : decode cX6_canSaw 34 = .ok (.invokevirtual 73, 3) := by decide +kernel
theorem dX6_canSaw_37 : decode cX6_canSaw 37 = .ok (.aload_n 0, 1) := by decide +kernel
theorem dX6_canSaw_38 : decode cX6_canSaw 38 = .ok (.getfield 7, 3) := by decide +kernel
theorem dX6_canSaw_41 : decode cX6_canSaw 41 = .ok (.iconst 0, 1) := by decide +kernel
theorem dX6_canSaw_42 : decode cX6_canSaw 42 = .ok (.iaload, 1) := by decide +kernel
theorem dX6_canSaw_43 : decode cX6_canSaw 43 = .ok (.iconst 1, 1) := by decide +kernel
theorem dX6_canSaw_44 : decode cX6_canSaw 44 = .ok (.isub, 1) := by decide +kernel
theorem dX6_canSaw_45 : decode cX6_canSaw 45 = .ok (.if_icmp .ge 7, 3) := by decide +kernel
theorem dX6_canSaw_48 : decode cX6_canSaw 48 = .ok (.iconst 1, 1) := by decide +kernel
theorem dX6_canSaw_49 : decode cX6_canSaw 49 = .ok (.goto 4, 3) := by decide +kernel
theorem dX6_canSaw_52 : decode cX6_canSaw 52 = .ok (.iconst 0, 1) := by decide +kernel
theorem dX6_canSaw_53 : decode cX6_canSaw 53 = .ok (.ireturn, 1) := by decide +kernel
theorem dX6_canSaw_54 : decode cX6_canSaw 54 = .ok (.aload_n 0, 1) := by decide +kernel
theorem dX6_canSaw_55 : decode cX6_canSaw 55 = .ok (.iload_n 1, 1) := by decide +kernel
theorem dX6_canSaw_56 : decode cX6_canSaw 56 = .ok (.invokevirtual 76, 3) := by decide +kernel
theorem dX6_canSaw_59 : decode cX6_canSaw 59 = .ok (.aload_n 0, 1) := by decide +kernel
theorem dX6_canSaw_60 : decode cX6_canSaw 60 = .ok (.getfield 7, 3) := by decide +kernel
theorem dX6_canSaw_63 : decode cX6_canSaw 63 = .ok (.iconst 1, 1) := by decide +kernel
theorem dX6_canSaw_64 : decode cX6_canSaw 64 = .ok (.iaload, 1) := by decide +kernel
theorem dX6_canSaw_65 : decode cX6_canSaw 65 = .ok (.iconst 1, 1) := by decide +kernel
theorem dX6_canSaw_66 : decode cX6_canSaw 66 = .ok (.isub, 1) := by decide +kernel
theorem dX6_canSaw_67 : decode cX6_canSaw 67 = .ok (.if_icmp .ge 7, 3) := by decide +kernel
theorem dX6_canSaw_70 : decode cX6_canSaw 70 = .ok (.iconst 1, 1) := by decide +kernel
theorem dX6_canSaw_71 : decode cX6_canSaw 71 = .ok (.goto 4, 3) := by decide +kernel
theorem dX6_canSaw_74 : decode cX6_canSaw 74 = .ok (.iconst 0, 1) := by decide +kernel
theorem dX6_canSaw_75 : decode cX6_canSaw 75 = .ok (.ireturn, 1) := by decide +kernel
theorem dX6_canSaw_76 : decode cX6_canSaw 76 = .ok (.aload_n 0, 1) := by decide +kernel
theorem dX6_canSaw_77 : decode cX6_canSaw 77 = .ok (.iload_n 1, 1) := by decide +kernel
theorem dX6_canSaw_78 : decode cX6_canSaw 78 = .ok (.invokevirtual 73, 3) := by decide +kernel
theorem dX6_canSaw_81 : decode cX6_canSaw 81 = .ok (.ifCond .le 7, 3) := by decide +kernel
theorem dX6_canSaw_84 : decode cX6_canSaw 84 = .ok (.iconst 1, 1) := by decide +kernel
theorem dX6_canSaw_85 : decode cX6_canSaw 85 = .ok (.goto 4, 3) := by decide +kernel
theorem dX6_canSaw_88 : decode cX6_canSaw 88 = .ok (.iconst 0, 1) := by decide +kernel
theorem dX6_canSaw_89 : decode cX6_canSaw 89 = .ok (.ireturn, 1) := by decide +kernel
theorem dX6_canSaw_90 : decode cX6_canSaw 90 = .ok (.iconst 1, 1) := by decide +kernel
theorem dX6_canSaw_91 : decode cX6_canSaw 91 = .ok (.ireturn, 1) := by decide +kernel
theorem dX6_keeper_0 : decode cX6_keeper 0 = .ok (.iload_n 2, 1) := by decide +kernel
theorem dX6_keeper_1 : decode cX6_keeper 1 = .ok (.iconst 3, 1) := by decide +kernel
theorem dX6_keeper_2 : decode cX6_keeper 2 = .ok (.if_icmp .ne 9, 3) := by decide +kernel
theorem dX6_keeper_5 : decode cX6_keeper 5 = .ok (.iload_n 1, 1) := by decide +kernel
theorem dX6_keeper_6 : decode cX6_keeper 6 = .ok (.iconst 1, 1) := by decide +kernel
theorem dX6_keeper_7 : decode cX6_keeper 7 = .ok (.isub, 1) := by decide +kernel
theorem dX6_keeper_8 : decode cX6_keeper 8 = .ok (.goto 28, 3) := by decide +kernel
theorem dX6_keeper_11 : decode cX6_keeper 11 = .ok (.iload_n 2, 1) := by decide +kernel
theorem dX6_keeper_12 : decode cX6_keeper 12 = .ok (.iconst 2, 1) := by decide +kernel
theorem dX6_keeper_13 : decode cX6_keeper 13 = .ok (.if_icmp .ne 22, 3) := by decide +kernel
theorem dX6_keeper_16 : decode cX6_keeper 16 = .ok (.aload_n 0, 1) := by decide +kernel
theorem dX6_keeper_17 : decode cX6_keeper 17 = .ok (.iload_n 1, 1) := by decide +kernel
theorem dX6_keeper_18 : decode cX6_keeper 18 = .ok (.invokevirtual 76, 3) := by decide +kernel
theorem dX6_keeper_21 : decode cX6_keeper 21 = .ok (.ifCond .le 14, 3) := by decide +kernel
theorem dX6_keeper_24 : decode cX6_keeper 24 = .ok (.iload_n 1, 1) := by decide +kernel
theorem dX6_keeper_25 : decode cX6_keeper 25 = .ok (.aload_n 0, 1) := by decide +kernel
theorem dX6_keeper_26 : decode cX6_keeper 26 = .ok (.getfield 7, 3) := by decide +kernel
theorem dX6_keeper_29 : decode cX6_keeper 29 = .ok (.iconst 0, 1) := by decide +kernel
theorem dX6_keeper_30 : decode cX6_keeper 30 = .ok (.iaload, 1) := by decide +kernel
theorem dX6_keeper_31 : decode cX6_keeper 31 = .ok (.isub, 1) := by decide +kernel
theorem dX6_keeper_32 : decode cX6_keeper 32 = .ok (.goto 4, 3) := by decide +kernel
theorem dX6_keeper_35 : decode cX6_keeper 35 = .ok (.iload_n 1, 1) := by decide +kernel
theorem dX6_keeper_36 : decode cX6_keeper 36 = .ok (.ireturn, 1) := by decide +kernel
theorem dX6_bit_0 : decode cX6_bit 0 = .ok (.iload_n 2, 1) := by decide +kernel
theorem dX6_bit_1 : decode cX6_bit 1 = .ok (.ifCond .eq 8, 3) := by decide +kernel
theorem dX6_bit_4 : decode cX6_bit 4 = .ok (.iload_n 2, 1) := by decide +kernel
theorem dX6_bit_5 : decode cX6_bit 5 = .ok (.iconst 3, 1) := by decide +kernel
theorem dX6_bit_6 : decode cX6_bit 6 = .ok (.if_icmp .ne 7, 3) := by decide +kernel
theorem dX6_bit_9 : decode cX6_bit 9 = .ok (.iconst 1, 1) := by decide +kernel
theorem dX6_bit_10 : decode cX6_bit 10 = .ok (.goto 21, 3) := by decide +kernel
theorem dX6_bit_13 : decode cX6_bit 13 = .ok (.iload_n 2, 1) := by decide +kernel
theorem dX6_bit_14 : decode cX6_bit 14 = .ok (.iconst 1, 1) := by decide +kernel
theorem dX6_bit_15 : decode cX6_bit 15 = .ok (.if_icmp .eq 11, 3) := by decide +kernel
theorem dX6_bit_18 : decode cX6_bit 18 = .ok (.aload_n 0, 1) := by decide +kernel
theorem dX6_bit_19 : decode cX6_bit 19 = .ok (.iload_n 1, 1) := by decide +kernel
theorem dX6_bit_20 : decode cX6_bit 20 = .ok (.invokevirtual 76, 3) := by decide +kernel
theorem dX6_bit_23 : decode cX6_bit 23 = .ok (.ifCond .le 7, 3) := by decide +kernel
theorem dX6_bit_26 : decode cX6_bit 26 = .ok (.iconst 2, 1) := by decide +kernel
theorem dX6_bit_27 : decode cX6_bit 27 = .ok (.goto 4, 3) := by decide +kernel
theorem dX6_bit_30 : decode cX6_bit 30 = .ok (.iconst 4, 1) := by decide +kernel
theorem dX6_bit_31 : decode cX6_bit 31 = .ok (.ireturn, 1) := by decide +kernel
theorem dX6_isCut_0 : decode cX6_isCut 0 = .ok (.aload_n 0, 1) := by decide +kernel
theorem dX6_isCut_1 : decode cX6_isCut 1 = .ok (.iload_n 1, 1) := by decide +kernel
theorem dX6_isCut_2 : decode cX6_isCut 2 = .ok (.iload_n 2, 1) := by decide +kernel
theorem dX6_isCut_3 : decode cX6_isCut 3 = .ok (.invokevirtual 79, 3) := by decide +kernel
theorem dX6_isCut_6 : decode cX6_isCut 6 = .ok (.ifCond .eq 31, 3) := by decide +kernel
theorem dX6_isCut_9 : decode cX6_isCut 9 = .ok (.aload_n 0, 1) := by decide +kernel
theorem dX6_isCut_10 : decode cX6_isCut 10 = .ok (.getfield 7, 3) := by decide +kernel
theorem dX6_isCut_13 : decode cX6_isCut 13 = .ok (.bipush 57, 2) := by decide +kernel
theorem dX6_isCut_15 : decode cX6_isCut 15 = .ok (.aload_n 0, 1) := by decide +kernel
theorem dX6_isCut_16 : decode cX6_isCut 16 = .ok (.iload_n 1, 1) := by decide +kernel
theorem dX6_isCut_17 : decode cX6_isCut 17 = .ok (.iload_n 2, 1) := by decide +kernel
theorem dX6_isCut_18 : decode cX6_isCut 18 = .ok (.invokevirtual 83, 3) := by decide +kernel
theorem dX6_isCut_21 : decode cX6_isCut 21 = .ok (.iadd, 1) := by decide +kernel
theorem dX6_isCut_22 : decode cX6_isCut 22 = .ok (.iaload, 1) := by decide +kernel
theorem dX6_isCut_23 : decode cX6_isCut 23 = .ok (.aload_n 0, 1) := by decide +kernel
theorem dX6_isCut_24 : decode cX6_isCut 24 = .ok (.iload_n 1, 1) := by decide +kernel
theorem dX6_isCut_25 : decode cX6_isCut 25 = .ok (.iload_n 2, 1) := by decide +kernel
theorem dX6_isCut_26 : decode cX6_isCut 26 = .ok (.invokevirtual 87, 3) := by decide +kernel
theorem dX6_isCut_29 : decode cX6_isCut 29 = .ok (.iand, 1) := by decide +kernel
theorem dX6_isCut_30 : decode cX6_isCut 30 = .ok (.ifCond .eq 7, 3) := by decide +kernel
theorem dX6_isCut_33 : decode cX6_isCut 33 = .ok (.iconst 1, 1) := by decide +kernel
theorem dX6_isCut_34 : decode cX6_isCut 34 = .ok (.goto 4, 3) := by decide +kernel
theorem dX6_isCut_37 : decode cX6_isCut 37 = .ok (.iconst 0, 1) := by decide +kernel
theorem dX6_isCut_38 : decode cX6_isCut 38 = .ok (.ireturn, 1) := by decide +kernel
theorem dX6_saws_0 : decode cX6_saws 0 = .ok (.aload_n 0, 1) := by decide +kernel
theorem dX6_saws_1 : decode cX6_saws 1 = .ok (.iload_n 1, 1) := by decide +kernel
theorem dX6_saws_2 : decode cX6_saws 2 = .ok (.iload_n 2, 1) := by decide +kernel
theorem dX6_saws_3 : decode cX6_saws 3 = .ok (.invokevirtual 79, 3) := by decide +kernel
theorem dX6_saws_6 : decode cX6_saws 6 = .ok (.ifCond .eq 12, 3) := by decide +kernel
theorem dX6_saws_9 : decode cX6_saws 9 = .ok (.aload_n 0, 1) := by decide +kernel
theorem dX6_saws_10 : decode cX6_saws 10 = .ok (.iload_n 1, 1) := by decide +kernel
theorem dX6_saws_11 : decode cX6_saws 11 = .ok (.iload_n 2, 1) := by decide +kernel
theorem dX6_saws_12 : decode cX6_saws 12 = .ok (.invokevirtual 90, 3) := by decide +kernel
theorem dX6_saws_15 : decode cX6_saws 15 = .ok (.ifCond .eq 5, 3) := by decide +kernel
end
section
theorem dX6_saws_18 : decode cX6_saws 18 = .ok (.iconst 0, 1) := by decide +kernel
theorem dX6_saws_19 : decode cX6_saws 19 = .ok (.ireturn, 1) := by decide +kernel
theorem dX6_saws_20 : decode cX6_saws 20 = .ok (.aload_n 0, 1) := by decide +kernel
theorem dX6_saws_21 : decode cX6_saws 21 = .ok (.getfield 7, 3) := by decide +kernel
theorem dX6_saws_24 : decode cX6_saws 24 = .ok (.bipush 57, 2) := by decide +kernel
theorem dX6_saws_26 : decode cX6_saws 26 = .ok (.aload_n 0, 1) := by decide +kernel
theorem dX6_saws_27 : decode cX6_saws 27 = .ok (.iload_n 1, 1) := by decide +kernel
theorem dX6_saws_28 : decode cX6_saws 28 = .ok (.iload_n 2, 1) := by decide +kernel
theorem dX6_saws_29 : decode cX6_saws 29 = .ok (.invokevirtual 83, 3) := by decide +kernel
theorem dX6_saws_32 : decode cX6_saws 32 = .ok (.iadd, 1) := by decide +kernel
theorem dX6_saws_33 : decode cX6_saws 33 = .ok (.dup2, 1) := by decide +kernel
theorem dX6_saws_34 : decode cX6_saws 34 = .ok (.iaload, 1) := by decide +kernel
theorem dX6_saws_35 : decode cX6_saws 35 = .ok (.aload_n 0, 1) := by decide +kernel
theorem dX6_saws_36 : decode cX6_saws 36 = .ok (.iload_n 1, 1) := by decide +kernel
theorem dX6_saws_37 : decode cX6_saws 37 = .ok (.iload_n 2, 1) := by decide +kernel
theorem dX6_saws_38 : decode cX6_saws 38 = .ok (.invokevirtual 87, 3) := by decide +kernel
theorem dX6_saws_41 : decode cX6_saws 41 = .ok (.ior, 1) := by decide +kernel
theorem dX6_saws_42 : decode cX6_saws 42 = .ok (.iastore, 1) := by decide +kernel
theorem dX6_saws_43 : decode cX6_saws 43 = .ok (.iconst 1, 1) := by decide +kernel
theorem dX6_saws_44 : decode cX6_saws 44 = .ok (.ireturn, 1) := by decide +kernel
theorem dX6_saw_0 : decode cX6_saw 0 = .ok (.aload_n 0, 1) := by decide +kernel
theorem dX6_saw_1 : decode cX6_saw 1 = .ok (.iload_n 1, 1) := by decide +kernel
theorem dX6_saw_2 : decode cX6_saw 2 = .ok (.invokevirtual 69, 3) := by decide +kernel
theorem dX6_saw_5 : decode cX6_saw 5 = .ok (.ifCond .ne 9, 3) := by decide +kernel
theorem dX6_saw_8 : decode cX6_saw 8 = .ok (.aload_n 0, 1) := by decide +kernel
theorem dX6_saw_9 : decode cX6_saw 9 = .ok (.iconst 1, 1) := by decide +kernel
theorem dX6_saw_10 : decode cX6_saw 10 = .ok (.invokevirtual 59, 3) := by decide +kernel
theorem dX6_saw_13 : decode cX6_saw 13 = .ok (.ireturn, 1) := by decide +kernel
theorem dX6_saw_14 : decode cX6_saw 14 = .ok (.iload_n 2, 1) := by decide +kernel
theorem dX6_saw_15 : decode cX6_saw 15 = .ok (.i2l, 1) := by decide +kernel
theorem dX6_saw_16 : decode cX6_saw 16 = .ok (.lconst 0, 1) := by decide +kernel
theorem dX6_saw_17 : decode cX6_saw 17 = .ok (.ldc2_w 93, 3) := by decide +kernel
theorem dX6_saw_20 : decode cX6_saw 20 = .ok (.invokestatic 49, 3) := by decide +kernel
theorem dX6_saw_23 : decode cX6_saw 23 = .ok (.ifCond .ne 9, 3) := by decide +kernel
theorem dX6_saw_26 : decode cX6_saw 26 = .ok (.aload_n 0, 1) := by decide +kernel
theorem dX6_saw_27 : decode cX6_saw 27 = .ok (.iconst 2, 1) := by decide +kernel
theorem dX6_saw_28 : decode cX6_saw 28 = .ok (.invokevirtual 59, 3) := by decide +kernel
theorem dX6_saw_31 : decode cX6_saw 31 = .ok (.ireturn, 1) := by decide +kernel
theorem dX6_saw_32 : decode cX6_saw 32 = .ok (.aload_n 0, 1) := by decide +kernel
theorem dX6_saw_33 : decode cX6_saw 33 = .ok (.iload_n 1, 1) := by decide +kernel
theorem dX6_saw_34 : decode cX6_saw 34 = .ok (.iload_n 2, 1) := by decide +kernel
theorem dX6_saw_35 : decode cX6_saw 35 = .ok (.invokevirtual 79, 3) := by decide +kernel
theorem dX6_saw_38 : decode cX6_saw 38 = .ok (.ifCond .ne 9, 3) := by decide +kernel
theorem dX6_saw_41 : decode cX6_saw 41 = .ok (.aload_n 0, 1) := by decide +kernel
theorem dX6_saw_42 : decode cX6_saw 42 = .ok (.iconst 3, 1) := by decide +kernel
theorem dX6_saw_43 : decode cX6_saw 43 = .ok (.invokevirtual 59, 3) := by decide +kernel
theorem dX6_saw_46 : decode cX6_saw 46 = .ok (.ireturn, 1) := by decide +kernel
theorem dX6_saw_47 : decode cX6_saw 47 = .ok (.aload_n 0, 1) := by decide +kernel
theorem dX6_saw_48 : decode cX6_saw 48 = .ok (.invokevirtual 63, 3) := by decide +kernel
theorem dX6_saw_51 : decode cX6_saw 51 = .ok (.aload_n 0, 1) := by decide +kernel
theorem dX6_saw_52 : decode cX6_saw 52 = .ok (.aload_n 0, 1) := by decide +kernel
theorem dX6_saw_53 : decode cX6_saw 53 = .ok (.iload_n 1, 1) := by decide +kernel
theorem dX6_saw_54 : decode cX6_saw 54 = .ok (.iload_n 2, 1) := by decide +kernel
theorem dX6_saw_55 : decode cX6_saw 55 = .ok (.invokevirtual 95, 3) := by decide +kernel
theorem dX6_saw_58 : decode cX6_saw 58 = .ok (.invokevirtual 66, 3) := by decide +kernel
theorem dX6_saw_61 : decode cX6_saw 61 = .ok (.ireturn, 1) := by decide +kernel
theorem dX6_isRectangle_0 : decode cX6_isRectangle 0 = .ok (.iload_n 2, 1) := by decide +kernel
theorem dX6_isRectangle_1 : decode cX6_isRectangle 1 = .ok (.i2l, 1) := by decide +kernel
theorem dX6_isRectangle_2 : decode cX6_isRectangle 2 = .ok (.lconst 1, 1) := by decide +kernel
theorem dX6_isRectangle_3 : decode cX6_isRectangle 3 = .ok (.ldc2_w 55, 3) := by decide +kernel
theorem dX6_isRectangle_6 : decode cX6_isRectangle 6 = .ok (.invokestatic 49, 3) := by decide +kernel
theorem dX6_isRectangle_9 : decode cX6_isRectangle 9 = .ok (.ifCond .eq 51, 3) := by decide +kernel
theorem dX6_isRectangle_12 : decode cX6_isRectangle 12 = .ok (.iload_n 3, 1) := by decide +kernel
theorem dX6_isRectangle_13 : decode cX6_isRectangle 13 = .ok (.i2l, 1) := by decide +kernel
theorem dX6_isRectangle_14 : decode cX6_isRectangle 14 = .ok (.lconst 1, 1) := by decide +kernel
theorem dX6_isRectangle_15 : decode cX6_isRectangle 15 = .ok (.ldc2_w 55, 3) := by decide +kernel
theorem dX6_isRectangle_18 : decode cX6_isRectangle 18 = .ok (.invokestatic 49, 3) := by decide +kernel
theorem dX6_isRectangle_21 : decode cX6_isRectangle 21 = .ok (.ifCond .eq 39, 3) := by decide +kernel
theorem dX6_isRectangle_24 : decode cX6_isRectangle 24 = .ok (.aload_n 0, 1) := by decide +kernel
theorem dX6_isRectangle_25 : decode cX6_isRectangle 25 = .ok (.iload_n 1, 1) := by decide +kernel
theorem dX6_isRectangle_26 : decode cX6_isRectangle 26 = .ok (.invokevirtual 73, 3) := by decide +kernel
theorem dX6_isRectangle_29 : decode cX6_isRectangle 29 = .ok (.iload_n 2, 1) := by decide +kernel
theorem dX6_isRectangle_30 : decode cX6_isRectangle 30 = .ok (.iadd, 1) := by decide +kernel
theorem dX6_isRectangle_31 : decode cX6_isRectangle 31 = .ok (.aload_n 0, 1) := by decide +kernel
theorem dX6_isRectangle_32 : decode cX6_isRectangle 32 = .ok (.getfield 7, 3) := by decide +kernel
theorem dX6_isRectangle_35 : decode cX6_isRectangle 35 = .ok (.iconst 0, 1) := by decide +kernel
theorem dX6_isRectangle_36 : decode cX6_isRectangle 36 = .ok (.iaload, 1) := by decide +kernel
theorem dX6_isRectangle_37 : decode cX6_isRectangle 37 = .ok (.if_icmp .gt 23, 3) := by decide +kernel
theorem dX6_isRectangle_40 : decode cX6_isRectangle 40 = .ok (.aload_n 0, 1) := by decide +kernel
theorem dX6_isRectangle_41 : decode cX6_isRectangle 41 = .ok (.iload_n 1, 1) := by decide +kernel
theorem dX6_isRectangle_42 : decode cX6_isRectangle 42 = .ok (.invokevirtual 76, 3) := by decide +kernel
theorem dX6_isRectangle_45 : decode cX6_isRectangle 45 = .ok (.iload_n 3, 1) := by decide +kernel
theorem dX6_isRectangle_46 : decode cX6_isRectangle 46 = .ok (.iadd, 1) := by decide +kernel
theorem dX6_isRectangle_47 : decode cX6_isRectangle 47 = .ok (.aload_n 0, 1) := by decide +kernel
theorem dX6_isRectangle_48 : decode cX6_isRectangle 48 = .ok (.getfield 7, 3) := by decide +kernel
theorem dX6_isRectangle_51 : decode cX6_isRectangle 51 = .ok (.iconst 1, 1) := by decide +kernel
theorem dX6_isRectangle_52 : decode cX6_isRectangle 52 = .ok (.iaload, 1) := by decide +kernel
theorem dX6_isRectangle_53 : decode cX6_isRectangle 53 = .ok (.if_icmp .gt 7, 3) := by decide +kernel
theorem dX6_isRectangle_56 : decode cX6_isRectangle 56 = .ok (.iconst 1, 1) := by decide +kernel
theorem dX6_isRectangle_57 : decode cX6_isRectangle 57 = .ok (.goto 4, 3) := by decide +kernel
theorem dX6_isRectangle_60 : decode cX6_isRectangle 60 = .ok (.iconst 0, 1) := by decide +kernel
theorem dX6_isRectangle_61 : decode cX6_isRectangle 61 = .ok (.ireturn, 1) := by decide +kernel
theorem dX6_sawsAround_0 : decode cX6_sawsAround 0 = .ok (.iconst 0, 1) := by decide +kernel
theorem dX6_sawsAround_1 : decode cX6_sawsAround 1 = .ok (.istore 4, 2) := by decide +kernel
theorem dX6_sawsAround_3 : decode cX6_sawsAround 3 = .ok (.iconst 0, 1) := by decide +kernel
theorem dX6_sawsAround_4 : decode cX6_sawsAround 4 = .ok (.istore 5, 2) := by decide +kernel
theorem dX6_sawsAround_6 : decode cX6_sawsAround 6 = .ok (.iload 5, 2) := by decide +kernel
theorem dX6_sawsAround_8 : decode cX6_sawsAround 8 = .ok (.iload_n 2, 1) := by decide +kernel
theorem dX6_sawsAround_9 : decode cX6_sawsAround 9 = .ok (.if_icmp .ge 48, 3) := by decide +kernel
theorem dX6_sawsAround_12 : decode cX6_sawsAround 12 = .ok (.iload 4, 2) := by decide +kernel
theorem dX6_sawsAround_14 : decode cX6_sawsAround 14 = .ok (.aload_n 0, 1) := by decide +kernel
theorem dX6_sawsAround_15 : decode cX6_sawsAround 15 = .ok (.iload_n 1, 1) := by decide +kernel
theorem dX6_sawsAround_16 : decode cX6_sawsAround 16 = .ok (.iload 5, 2) := by decide +kernel
theorem dX6_sawsAround_18 : decode cX6_sawsAround 18 = .ok (.iadd, 1) := by decide +kernel
theorem dX6_sawsAround_19 : decode cX6_sawsAround 19 = .ok (.iconst 2, 1) := by decide +kernel
theorem dX6_sawsAround_20 : decode cX6_sawsAround 20 = .ok (.invokevirtual 95, 3) := by decide +kernel
theorem dX6_sawsAround_23 : decode cX6_sawsAround 23 = .ok (.iadd, 1) := by decide +kernel
theorem dX6_sawsAround_24 : decode cX6_sawsAround 24 = .ok (.istore 4, 2) := by decide +kernel
theorem dX6_sawsAround_26 : decode cX6_sawsAround 26 = .ok (.iload 4, 2) := by decide +kernel
theorem dX6_sawsAround_28 : decode cX6_sawsAround 28 = .ok (.aload_n 0, 1) := by decide +kernel
theorem dX6_sawsAround_29 : decode cX6_sawsAround 29 = .ok (.iload_n 1, 1) := by decide +kernel
theorem dX6_sawsAround_30 : decode cX6_sawsAround 30 = .ok (.iload 5, 2) := by decide +kernel
theorem dX6_sawsAround_32 : decode cX6_sawsAround 32 = .ok (.iadd, 1) := by decide +kernel
theorem dX6_sawsAround_33 : decode cX6_sawsAround 33 = .ok (.iload_n 3, 1) := by decide +kernel
theorem dX6_sawsAround_34 : decode cX6_sawsAround 34 = .ok (.iconst 1, 1) := by decide +kernel
theorem dX6_sawsAround_35 : decode cX6_sawsAround 35 = .ok (.isub, 1) := by decide +kernel
theorem dX6_sawsAround_36 : decode cX6_sawsAround 36 = .ok (.aload_n 0, 1) := by decide +kernel
theorem dX6_sawsAround_37 : decode cX6_sawsAround 37 = .ok (.getfield 7, 3) := by decide +kernel
theorem dX6_sawsAround_40 : decode cX6_sawsAround 40 = .ok (.iconst 0, 1) := by decide +kernel
theorem dX6_sawsAround_41 : decode cX6_sawsAround 41 = .ok (.iaload, 1) := by decide +kernel
theorem dX6_sawsAround_42 : decode cX6_sawsAround 42 = .ok (.imul, 1) := by decide +kernel
theorem dX6_sawsAround_43 : decode cX6_sawsAround 43 = .ok (.iadd, 1) := by decide +kernel
theorem dX6_sawsAround_44 : decode cX6_sawsAround 44 = .ok (.iconst 1, 1) := by decide +kernel
theorem dX6_sawsAround_45 : decode cX6_sawsAround 45 = .ok (.invokevirtual 95, 3) := by decide +kernel
theorem dX6_sawsAround_48 : decode cX6_sawsAround 48 = .ok (.iadd, 1) := by decide +kernel
theorem dX6_sawsAround_49 : decode cX6_sawsAround 49 = .ok (.istore 4, 2) := by decide +kernel
theorem dX6_sawsAround_51 : decode cX6_sawsAround 51 = .ok (.iinc 5 1, 3) := by decide +kernel
theorem dX6_sawsAround_54 : decode cX6_sawsAround 54 = .ok (.goto (-48), 3) := by decide +kernel
theorem dX6_sawsAround_57 : decode cX6_sawsAround 57 = .ok (.iconst 0, 1) := by decide +kernel
theorem dX6_sawsAround_58 : decode cX6_sawsAround 58 = .ok (.istore 5, 2) := by decide +kernel
theorem dX6_sawsAround_60 : decode cX6_sawsAround 60 = .ok (.iload 5, 2) := by decide +kernel
theorem dX6_sawsAround_62 : decode cX6_sawsAround 62 = .ok (.iload_n 3, 1) := by decide +kernel
theorem dX6_sawsAround_63 : decode cX6_sawsAround 63 = .ok (.if_icmp .ge 55, 3) := by decide +kernel
theorem dX6_sawsAround_66 : decode cX6_sawsAround 66 = .ok (.iload 4, 2) := by decide +kernel
theorem dX6_sawsAround_68 : decode cX6_sawsAround 68 = .ok (.aload_n 0, 1) := by decide +kernel
theorem dX6_sawsAround_69 : decode cX6_sawsAround 69 = .ok (.iload_n 1, 1) := by decide +kernel
theorem dX6_sawsAround_70 : decode cX6_sawsAround 70 = .ok (.iload 5, 2) := by decide +kernel
theorem dX6_sawsAround_72 : decode cX6_sawsAround 72 = .ok (.aload_n 0, 1) := by decide +kernel
theorem dX6_sawsAround_73 : decode cX6_sawsAround 73 = .ok (.getfield 7, 3) := by decide +kernel
theorem dX6_sawsAround_76 : decode cX6_sawsAround 76 = .ok (.iconst 0, 1) := by decide +kernel
theorem dX6_sawsAround_77 : decode cX6_sawsAround 77 = .ok (.iaload, 1) := by decide +kernel
theorem dX6_sawsAround_78 : decode cX6_sawsAround 78 = .ok (.imul, 1) := by decide +kernel
theorem dX6_sawsAround_79 : decode cX6_sawsAround 79 = .ok (.iadd, 1) := by decide +kernel
theorem dX6_sawsAround_80 : decode cX6_sawsAround 80 = .ok (.iconst 3, 1) := by decide +kernel
theorem dX6_sawsAround_81 : decode cX6_sawsAround 81 = .ok (.invokevirtual 95, 3) := by decide +kernel
theorem dX6_sawsAround_84 : decode cX6_sawsAround 84 = .ok (.iadd, 1) := by decide +kernel
theorem dX6_sawsAround_85 : decode cX6_sawsAround 85 = .ok (.istore 4, 2) := by decide +kernel
theorem dX6_sawsAround_87 : decode cX6_sawsAround 87 = .ok (.iload 4, 2) := by decide +kernel
theorem dX6_sawsAround_89 : decode cX6_sawsAround 89 = .ok (.aload_n 0, 1) := by decide +kernel
theorem dX6_sawsAround_90 : decode cX6_sawsAround 90 = .ok (.iload_n 1, 1) := by decide +kernel
theorem dX6_sawsAround_91 : decode cX6_sawsAround 91 = .ok (.iload 5, 2) := by decide +kernel
theorem dX6_sawsAround_93 : decode cX6_sawsAround 93 = .ok (.aload_n 0, 1) := by decide +kernel
theorem dX6_sawsAround_94 : decode cX6_sawsAround 94 = .ok (.getfield 7, 3) := by decide +kernel
theorem dX6_sawsAround_97 : decode cX6_sawsAround 97 = .ok (.iconst 0, 1) := by decide +kernel
theorem dX6_sawsAround_98 : decode cX6_sawsAround 98 = .ok (.iaload, 1) := by decide +kernel
theorem dX6_sawsAround_99 : decode cX6_sawsAround 99 = .ok (.imul, 1) := by decide +kernel
theorem dX6_sawsAround_100 : decode cX6_sawsAround 100 = .ok (.iadd, 1) := by decide +kernel
theorem dX6_sawsAround_101 : decode cX6_sawsAround 101 = .ok (.iload_n 2, 1) := by decide +kernel
theorem dX6_sawsAround_102 : decode cX6_sawsAround 102 = .ok (.iadd, 1) := by decide +kernel
theorem dX6_sawsAround_103 : decode cX6_sawsAround 103 = .ok (.iconst 1, 1) := by decide +kernel
theorem dX6_sawsAround_104 : decode cX6_sawsAround 104 = .ok (.isub, 1) := by decide +kernel
theorem dX6_sawsAround_105 : decode cX6_sawsAround 105 = .ok (.iconst 0, 1) := by decide +kernel
theorem dX6_sawsAround_106 : decode cX6_sawsAround 106 = .ok (.invokevirtual 95, 3) := by decide +kernel
theorem dX6_sawsAround_109 : decode cX6_sawsAround 109 = .ok (.iadd, 1) := by decide +kernel
theorem dX6_sawsAround_110 : decode cX6_sawsAround 110 = .ok (.istore 4, 2) := by decide +kernel
theorem dX6_sawsAround_112 : decode cX6_sawsAround 112 = .ok (.iinc 5 1, 3) := by decide +kernel
theorem dX6_sawsAround_115 : decode cX6_sawsAround 115 = .ok (.goto (-55), 3) := by decide +kernel
theorem dX6_sawsAround_118 : decode cX6_sawsAround 118 = .ok (.iload 4, 2) := by decide +kernel
theorem dX6_sawsAround_120 : decode cX6_sawsAround 120 = .ok (.ireturn, 1) := by decide +kernel
theorem dX6_sawAround_0 : decode cX6_sawAround 0 = .ok (.aload_n 0, 1) := by decide +kernel
theorem dX6_sawAround_1 : decode cX6_sawAround 1 = .ok (.iload_n 1, 1) := by decide +kernel
theorem dX6_sawAround_2 : decode cX6_sawAround 2 = .ok (.invokevirtual 69, 3) := by decide +kernel
theorem dX6_sawAround_5 : decode cX6_sawAround 5 = .ok (.ifCond .ne 9, 3) := by decide +kernel
theorem dX6_sawAround_8 : decode cX6_sawAround 8 = .ok (.aload_n 0, 1) := by decide +kernel
theorem dX6_sawAround_9 : decode cX6_sawAround 9 = .ok (.iconst 1, 1) := by decide +kernel
theorem dX6_sawAround_10 : decode cX6_sawAround 10 = .ok (.invokevirtual 59, 3) := by decide +kernel
theorem dX6_sawAround_13 : decode cX6_sawAround 13 = .ok (.ireturn, 1) := by decide +kernel
theorem dX6_sawAround_14 : decode cX6_sawAround 14 = .ok (.aload_n 0, 1) := by decide +kernel
theorem dX6_sawAround_15 : decode cX6_sawAround 15 = .ok (.iload_n 1, 1) := by decide +kernel
theorem dX6_sawAround_16 : decode cX6_sawAround 16 = .ok (.iload_n 2, 1) := by decide +kernel
theorem dX6_sawAround_17 : decode cX6_sawAround 17 = .ok (.iload_n 3, 1) := by decide +kernel
theorem dX6_sawAround_18 : decode cX6_sawAround 18 = .ok (.invokevirtual 98, 3) := by decide +kernel
theorem dX6_sawAround_21 : decode cX6_sawAround 21 = .ok (.ifCond .ne 9, 3) := by decide +kernel
theorem dX6_sawAround_24 : decode cX6_sawAround 24 = .ok (.aload_n 0, 1) := by decide +kernel
theorem dX6_sawAround_25 : decode cX6_sawAround 25 = .ok (.iconst 2, 1) := by decide +kernel
theorem dX6_sawAround_26 : decode cX6_sawAround 26 = .ok (.invokevirtual 59, 3) := by decide +kernel
theorem dX6_sawAround_29 : decode cX6_sawAround 29 = .ok (.ireturn, 1) := by decide +kernel
theorem dX6_sawAround_30 : decode cX6_sawAround 30 = .ok (.aload_n 0, 1) := by decide +kernel
theorem dX6_sawAround_31 : decode cX6_sawAround 31 = .ok (.invokevirtual 63, 3) := by decide +kernel
theorem dX6_sawAround_34 : decode cX6_sawAround 34 = .ok (.aload_n 0, 1) := by decide +kernel
theorem dX6_sawAround_35 : decode cX6_sawAround 35 = .ok (.aload_n 0, 1) := by decide +kernel
theorem dX6_sawAround_36 : decode cX6_sawAround 36 = .ok (.iload_n 1, 1) := by decide +kernel
theorem dX6_sawAround_37 : decode cX6_sawAround 37 = .ok (.iload_n 2, 1) := by decide +kernel
theorem dX6_sawAround_38 : decode cX6_sawAround 38 = .ok (.iload_n 3, 1) := by decide +kernel
theorem dX6_sawAround_39 : decode cX6_sawAround 39 = .ok (.invokevirtual 102, 3) := by decide +kernel
theorem dX6_sawAround_42 : decode cX6_sawAround 42 = .ok (.invokevirtual 66, 3) := by decide +kernel
theorem dX6_sawAround_45 : decode cX6_sawAround 45 = .ok (.ireturn, 1) := by decide +kernel
theorem dX6_cutsAround_0 : decode cX6_cutsAround 0 = .ok (.aload_n 0, 1) := by decide +kernel
theorem dX6_cutsAround_1 : decode cX6_cutsAround 1 = .ok (.iload_n 1, 1) := by decide +kernel
theorem dX6_cutsAround_2 : decode cX6_cutsAround 2 = .ok (.invokevirtual 69, 3) := by decide +kernel
theorem dX6_cutsAround_5 : decode cX6_cutsAround 5 = .ok (.ifCond .ne 9, 3) := by decide +kernel
theorem dX6_cutsAround_8 : decode cX6_cutsAround 8 = .ok (.aload_n 0, 1) := by decide +kernel
theorem dX6_cutsAround_9 : decode cX6_cutsAround 9 = .ok (.iconst 1, 1) := by decide +kernel
theorem dX6_cutsAround_10 : decode cX6_cutsAround 10 = .ok (.invokevirtual 59, 3) := by decide +kernel
theorem dX6_cutsAround_13 : decode cX6_cutsAround 13 = .ok (.ireturn, 1) := by decide +kernel
theorem dX6_cutsAround_14 : decode cX6_cutsAround 14 = .ok (.aload_n 0, 1) := by decide +kernel
theorem dX6_cutsAround_15 : decode cX6_cutsAround 15 = .ok (.iload_n 1, 1) := by decide +kernel
theorem dX6_cutsAround_16 : decode cX6_cutsAround 16 = .ok (.iload_n 2, 1) := by decide +kernel
theorem dX6_cutsAround_17 : decode cX6_cutsAround 17 = .ok (.iload_n 3, 1) := by decide +kernel
theorem dX6_cutsAround_18 : decode cX6_cutsAround 18 = .ok (.invokevirtual 98, 3) := by decide +kernel
theorem dX6_cutsAround_21 : decode cX6_cutsAround 21 = .ok (.ifCond .ne 9, 3) := by decide +kernel
theorem dX6_cutsAround_24 : decode cX6_cutsAround 24 = .ok (.aload_n 0, 1) := by decide +kernel
theorem dX6_cutsAround_25 : decode cX6_cutsAround 25 = .ok (.iconst 2, 1) := by decide +kernel
theorem dX6_cutsAround_26 : decode cX6_cutsAround 26 = .ok (.invokevirtual 59, 3) := by decide +kernel
theorem dX6_cutsAround_29 : decode cX6_cutsAround 29 = .ok (.ireturn, 1) := by decide +kernel
theorem dX6_cutsAround_30 : decode cX6_cutsAround 30 = .ok (.aload_n 0, 1) := by decide +kernel
theorem dX6_cutsAround_31 : decode cX6_cutsAround 31 = .ok (.invokevirtual 106, 3) := by decide +kernel
theorem dX6_cutsAround_34 : decode cX6_cutsAround 34 = .ok (.aload_n 0, 1) := by decide +kernel
theorem dX6_cutsAround_35 : decode cX6_cutsAround 35 = .ok (.iload_n 1, 1) := by decide +kernel
theorem dX6_cutsAround_36 : decode cX6_cutsAround 36 = .ok (.iload_n 2, 1) := by decide +kernel
theorem dX6_cutsAround_37 : decode cX6_cutsAround 37 = .ok (.iload_n 3, 1) := by decide +kernel
theorem dX6_cutsAround_38 : decode cX6_cutsAround 38 = .ok (.invokevirtual 102, 3) := by decide +kernel
theorem dX6_cutsAround_41 : decode cX6_cutsAround 41 = .ok (.istore 4, 2) := by decide +kernel
theorem dX6_cutsAround_43 : decode cX6_cutsAround 43 = .ok (.aload_n 0, 1) := by decide +kernel
theorem dX6_cutsAround_44 : decode cX6_cutsAround 44 = .ok (.invokevirtual 109, 3) := by decide +kernel
theorem dX6_cutsAround_47 : decode cX6_cutsAround 47 = .ok (.aload_n 0, 1) := by decide +kernel
theorem dX6_cutsAround_48 : decode cX6_cutsAround 48 = .ok (.iload 4, 2) := by decide +kernel
theorem dX6_cutsAround_50 : decode cX6_cutsAround 50 = .ok (.invokevirtual 66, 3) := by decide +kernel
theorem dX6_cutsAround_53 : decode cX6_cutsAround 53 = .ok (.ireturn, 1) := by decide +kernel
theorem dX6_hang_0 : decode cX6_hang 0 = .ok (.aload_n 0, 1) := by decide +kernel
theorem dX6_hang_1 : decode cX6_hang 1 = .ok (.iload_n 1, 1) := by decide +kernel
theorem dX6_hang_2 : decode cX6_hang 2 = .ok (.invokevirtual 112, 3) := by decide +kernel
theorem dX6_hang_5 : decode cX6_hang 5 = .ok (.ifCond .eq 24, 3) := by decide +kernel
theorem dX6_hang_8 : decode cX6_hang 8 = .ok (.aload_n 0, 1) := by decide +kernel
theorem dX6_hang_9 : decode cX6_hang 9 = .ok (.iload_n 2, 1) := by decide +kernel
theorem dX6_hang_10 : decode cX6_hang 10 = .ok (.invokevirtual 112, 3) := by decide +kernel
theorem dX6_hang_13 : decode cX6_hang 13 = .ok (.ifCond .eq 16, 3) := by decide +kernel
theorem dX6_hang_16 : decode cX6_hang 16 = .ok (.aload_n 0, 1) := by decide +kernel
theorem dX6_hang_17 : decode cX6_hang 17 = .ok (.iload_n 1, 1) := by decide +kernel
theorem dX6_hang_18 : decode cX6_hang 18 = .ok (.iload_n 3, 1) := by decide +kernel
theorem dX6_hang_19 : decode cX6_hang 19 = .ok (.invokevirtual 90, 3) := by decide +kernel
theorem dX6_hang_22 : decode cX6_hang 22 = .ok (.ifCond .ne 7, 3) := by decide +kernel
theorem dX6_hang_25 : decode cX6_hang 25 = .ok (.iconst 1, 1) := by decide +kernel
theorem dX6_hang_26 : decode cX6_hang 26 = .ok (.goto 4, 3) := by decide +kernel
theorem dX6_hang_29 : decode cX6_hang 29 = .ok (.iconst 0, 1) := by decide +kernel
theorem dX6_hang_30 : decode cX6_hang 30 = .ok (.ireturn, 1) := by decide +kernel
theorem dX6_joins_0 : decode cX6_joins 0 = .ok (.aload_n 0, 1) := by decide +kernel
theorem dX6_joins_1 : decode cX6_joins 1 = .ok (.getfield 19, 3) := by decide +kernel
theorem dX6_joins_4 : decode cX6_joins 4 = .ok (.iload_n 1, 1) := by decide +kernel
theorem dX6_joins_5 : decode cX6_joins 5 = .ok (.iaload, 1) := by decide +kernel
theorem dX6_joins_6 : decode cX6_joins 6 = .ok (.aload_n 0, 1) := by decide +kernel
theorem dX6_joins_7 : decode cX6_joins 7 = .ok (.getfield 19, 3) := by decide +kernel
theorem dX6_joins_10 : decode cX6_joins 10 = .ok (.iload_n 2, 1) := by decide +kernel
theorem dX6_joins_11 : decode cX6_joins 11 = .ok (.iaload, 1) := by decide +kernel
theorem dX6_joins_12 : decode cX6_joins 12 = .ok (.if_icmp .ge 12, 3) := by decide +kernel
theorem dX6_joins_15 : decode cX6_joins 15 = .ok (.aload_n 0, 1) := by decide +kernel
theorem dX6_joins_16 : decode cX6_joins 16 = .ok (.getfield 19, 3) := by decide +kernel
theorem dX6_joins_19 : decode cX6_joins 19 = .ok (.iload_n 1, 1) := by decide +kernel
theorem dX6_joins_20 : decode cX6_joins 20 = .ok (.iaload, 1) := by decide +kernel
theorem dX6_joins_21 : decode cX6_joins 21 = .ok (.goto 9, 3) := by decide +kernel
theorem dX6_joins_24 : decode cX6_joins 24 = .ok (.aload_n 0, 1) := by decide +kernel
theorem dX6_joins_25 : decode cX6_joins 25 = .ok (.getfield 19, 3) := by decide +kernel
theorem dX6_joins_28 : decode cX6_joins 28 = .ok (.iload_n 2, 1) := by decide +kernel
theorem dX6_joins_29 : decode cX6_joins 29 = .ok (.iaload, 1) := by decide +kernel
theorem dX6_joins_30 : decode cX6_joins 30 = .ok (.istore_n 3, 1) := by decide +kernel
theorem dX6_joins_31 : decode cX6_joins 31 = .ok (.aload_n 0, 1) := by decide +kernel
theorem dX6_joins_32 : decode cX6_joins 32 = .ok (.getfield 19, 3) := by decide +kernel
theorem dX6_joins_35 : decode cX6_joins 35 = .ok (.iload_n 1, 1) := by decide +kernel
theorem dX6_joins_36 : decode cX6_joins 36 = .ok (.iaload, 1) := by decide +kernel
theorem dX6_joins_37 : decode cX6_joins 37 = .ok (.aload_n 0, 1) := by decide +kernel
theorem dX6_joins_38 : decode cX6_joins 38 = .ok (.getfield 19, 3) := by decide +kernel
theorem dX6_joins_41 : decode cX6_joins 41 = .ok (.iload_n 2, 1) := by decide +kernel
theorem dX6_joins_42 : decode cX6_joins 42 = .ok (.iaload, 1) := by decide +kernel
theorem dX6_joins_43 : decode cX6_joins 43 = .ok (.if_icmp .eq 7, 3) := by decide +kernel
theorem dX6_joins_46 : decode cX6_joins 46 = .ok (.iconst 1, 1) := by decide +kernel
theorem dX6_joins_47 : decode cX6_joins 47 = .ok (.goto 4, 3) := by decide +kernel
theorem dX6_joins_50 : decode cX6_joins 50 = .ok (.iconst 0, 1) := by decide +kernel
theorem dX6_joins_51 : decode cX6_joins 51 = .ok (.istore 4, 2) := by decide +kernel
theorem dX6_joins_53 : decode cX6_joins 53 = .ok (.aload_n 0, 1) := by decide +kernel
theorem dX6_joins_54 : decode cX6_joins 54 = .ok (.getfield 19, 3) := by decide +kernel
theorem dX6_joins_57 : decode cX6_joins 57 = .ok (.iload_n 1, 1) := by decide +kernel
theorem dX6_joins_58 : decode cX6_joins 58 = .ok (.iload_n 3, 1) := by decide +kernel
theorem dX6_joins_59 : decode cX6_joins 59 = .ok (.iastore, 1) := by decide +kernel
theorem dX6_joins_60 : decode cX6_joins 60 = .ok (.aload_n 0, 1) := by decide +kernel
theorem dX6_joins_61 : decode cX6_joins 61 = .ok (.getfield 19, 3) := by decide +kernel
theorem dX6_joins_64 : decode cX6_joins 64 = .ok (.iload_n 2, 1) := by decide +kernel
theorem dX6_joins_65 : decode cX6_joins 65 = .ok (.iload_n 3, 1) := by decide +kernel
theorem dX6_joins_66 : decode cX6_joins 66 = .ok (.iastore, 1) := by decide +kernel
theorem dX6_joins_67 : decode cX6_joins 67 = .ok (.iload 4, 2) := by decide +kernel
theorem dX6_joins_69 : decode cX6_joins 69 = .ok (.ireturn, 1) := by decide +kernel
theorem dX6_findsBlocks_0 : decode cX6_findsBlocks 0 = .ok (.iconst 0, 1) := by decide +kernel
theorem dX6_findsBlocks_1 : decode cX6_findsBlocks 1 = .ok (.istore_n 1, 1) := by decide +kernel
theorem dX6_findsBlocks_2 : decode cX6_findsBlocks 2 = .ok (.iload_n 1, 1) := by decide +kernel
theorem dX6_findsBlocks_3 : decode cX6_findsBlocks 3 = .ok (.aload_n 0, 1) := by decide +kernel
theorem dX6_findsBlocks_4 : decode cX6_findsBlocks 4 = .ok (.invokevirtual 45, 3) := by decide +kernel
theorem dX6_findsBlocks_7 : decode cX6_findsBlocks 7 = .ok (.if_icmp .ge 28, 3) := by decide +kernel
theorem dX6_findsBlocks_10 : decode cX6_findsBlocks 10 = .ok (.aload_n 0, 1) := by decide +kernel
theorem dX6_findsBlocks_11 : decode cX6_findsBlocks 11 = .ok (.getfield 19, 3) := by decide +kernel
theorem dX6_findsBlocks_14 : decode cX6_findsBlocks 14 = .ok (.iload_n 1, 1) := by decide +kernel
theorem dX6_findsBlocks_15 : decode cX6_findsBlocks 15 = .ok (.aload_n 0, 1) := by decide +kernel
theorem dX6_findsBlocks_16 : decode cX6_findsBlocks 16 = .ok (.iload_n 1, 1) := by decide +kernel
theorem dX6_findsBlocks_17 : decode cX6_findsBlocks 17 = .ok (.invokevirtual 112, 3) := by decide +kernel
theorem dX6_findsBlocks_20 : decode cX6_findsBlocks 20 = .ok (.ifCond .eq 7, 3) := by decide +kernel
theorem dX6_findsBlocks_23 : decode cX6_findsBlocks 23 = .ok (.iload_n 1, 1) := by decide +kernel
theorem dX6_findsBlocks_24 : decode cX6_findsBlocks 24 = .ok (.goto 4, 3) := by decide +kernel
theorem dX6_findsBlocks_27 : decode cX6_findsBlocks 27 = .ok (.iconst (-1), 1) := by decide +kernel
theorem dX6_findsBlocks_28 : decode cX6_findsBlocks 28 = .ok (.iastore, 1) := by decide +kernel
theorem dX6_findsBlocks_29 : decode cX6_findsBlocks 29 = .ok (.iinc 1 1, 3) := by decide +kernel
theorem dX6_findsBlocks_32 : decode cX6_findsBlocks 32 = .ok (.goto (-30), 3) := by decide +kernel
theorem dX6_findsBlocks_35 : decode cX6_findsBlocks 35 = .ok (.iconst 1, 1) := by decide +kernel
theorem dX6_findsBlocks_36 : decode cX6_findsBlocks 36 = .ok (.istore_n 1, 1) := by decide +kernel
theorem dX6_findsBlocks_37 : decode cX6_findsBlocks 37 = .ok (.iload_n 1, 1) := by decide +kernel
theorem dX6_findsBlocks_38 : decode cX6_findsBlocks 38 = .ok (.ifCond .eq 118, 3) := by decide +kernel
theorem dX6_findsBlocks_41 : decode cX6_findsBlocks 41 = .ok (.iconst 0, 1) := by decide +kernel
theorem dX6_findsBlocks_42 : decode cX6_findsBlocks 42 = .ok (.istore_n 1, 1) := by decide +kernel
theorem dX6_findsBlocks_43 : decode cX6_findsBlocks 43 = .ok (.iconst 0, 1) := by decide +kernel
theorem dX6_findsBlocks_44 : decode cX6_findsBlocks 44 = .ok (.istore_n 2, 1) := by decide +kernel
theorem dX6_findsBlocks_45 : decode cX6_findsBlocks 45 = .ok (.iload_n 2, 1) := by decide +kernel
theorem dX6_findsBlocks_46 : decode cX6_findsBlocks 46 = .ok (.aload_n 0, 1) := by decide +kernel
theorem dX6_findsBlocks_47 : decode cX6_findsBlocks 47 = .ok (.invokevirtual 45, 3) := by decide +kernel
theorem dX6_findsBlocks_50 : decode cX6_findsBlocks 50 = .ok (.if_icmp .ge 103, 3) := by decide +kernel
theorem dX6_findsBlocks_53 : decode cX6_findsBlocks 53 = .ok (.aload_n 0, 1) := by decide +kernel
theorem dX6_findsBlocks_54 : decode cX6_findsBlocks 54 = .ok (.iload_n 2, 1) := by decide +kernel
theorem dX6_findsBlocks_55 : decode cX6_findsBlocks 55 = .ok (.iconst 0, 1) := by decide +kernel
theorem dX6_findsBlocks_56 : decode cX6_findsBlocks 56 = .ok (.invokevirtual 79, 3) := by decide +kernel
theorem dX6_findsBlocks_59 : decode cX6_findsBlocks 59 = .ok (.ifCond .eq 36, 3) := by decide +kernel
theorem dX6_findsBlocks_62 : decode cX6_findsBlocks 62 = .ok (.aload_n 0, 1) := by decide +kernel
theorem dX6_findsBlocks_63 : decode cX6_findsBlocks 63 = .ok (.iload_n 2, 1) := by decide +kernel
theorem dX6_findsBlocks_64 : decode cX6_findsBlocks 64 = .ok (.iload_n 2, 1) := by decide +kernel
theorem dX6_findsBlocks_65 : decode cX6_findsBlocks 65 = .ok (.iconst 1, 1) := by decide +kernel
theorem dX6_findsBlocks_66 : decode cX6_findsBlocks 66 = .ok (.iadd, 1) := by decide +kernel
theorem dX6_findsBlocks_67 : decode cX6_findsBlocks 67 = .ok (.iconst 0, 1) := by decide +kernel
theorem dX6_findsBlocks_68 : decode cX6_findsBlocks 68 = .ok (.invokevirtual 115, 3) := by decide +kernel
theorem dX6_findsBlocks_71 : decode cX6_findsBlocks 71 = .ok (.ifCond .eq 24, 3) := by decide +kernel
theorem dX6_findsBlocks_74 : decode cX6_findsBlocks 74 = .ok (.aload_n 0, 1) := by decide +kernel
theorem dX6_findsBlocks_75 : decode cX6_findsBlocks 75 = .ok (.iload_n 2, 1) := by decide +kernel
theorem dX6_findsBlocks_76 : decode cX6_findsBlocks 76 = .ok (.iload_n 2, 1) := by decide +kernel
theorem dX6_findsBlocks_77 : decode cX6_findsBlocks 77 = .ok (.iconst 1, 1) := by decide +kernel
theorem dX6_findsBlocks_78 : decode cX6_findsBlocks 78 = .ok (.iadd, 1) := by decide +kernel
theorem dX6_findsBlocks_79 : decode cX6_findsBlocks 79 = .ok (.invokevirtual 118, 3) := by decide +kernel
theorem dX6_findsBlocks_82 : decode cX6_findsBlocks 82 = .ok (.ifCond .ne 7, 3) := by decide +kernel
theorem dX6_findsBlocks_85 : decode cX6_findsBlocks 85 = .ok (.iload_n 1, 1) := by decide +kernel
theorem dX6_findsBlocks_86 : decode cX6_findsBlocks 86 = .ok (.ifCond .eq 7, 3) := by decide +kernel
theorem dX6_findsBlocks_89 : decode cX6_findsBlocks 89 = .ok (.iconst 1, 1) := by decide +kernel
theorem dX6_findsBlocks_90 : decode cX6_findsBlocks 90 = .ok (.goto 4, 3) := by decide +kernel
theorem dX6_findsBlocks_93 : decode cX6_findsBlocks 93 = .ok (.iconst 0, 1) := by decide +kernel
theorem dX6_findsBlocks_94 : decode cX6_findsBlocks 94 = .ok (.istore_n 1, 1) := by decide +kernel
theorem dX6_findsBlocks_95 : decode cX6_findsBlocks 95 = .ok (.aload_n 0, 1) := by decide +kernel
theorem dX6_findsBlocks_96 : decode cX6_findsBlocks 96 = .ok (.iload_n 2, 1) := by decide +kernel
theorem dX6_findsBlocks_97 : decode cX6_findsBlocks 97 = .ok (.iconst 1, 1) := by decide +kernel
theorem dX6_findsBlocks_98 : decode cX6_findsBlocks 98 = .ok (.invokevirtual 79, 3) := by decide +kernel
theorem dX6_findsBlocks_101 : decode cX6_findsBlocks 101 = .ok (.ifCond .eq 46, 3) := by decide +kernel
theorem dX6_findsBlocks_104 : decode cX6_findsBlocks 104 = .ok (.aload_n 0, 1) := by decide +kernel
theorem dX6_findsBlocks_105 : decode cX6_findsBlocks 105 = .ok (.iload_n 2, 1) := by decide +kernel
theorem dX6_findsBlocks_106 : decode cX6_findsBlocks 106 = .ok (.iload_n 2, 1) := by decide +kernel
theorem dX6_findsBlocks_107 : decode cX6_findsBlocks 107 = .ok (.aload_n 0, 1) := by decide +kernel
theorem dX6_findsBlocks_108 : decode cX6_findsBlocks 108 = .ok (.getfield 7, 3) := by decide +kernel
theorem dX6_findsBlocks_111 : decode cX6_findsBlocks 111 = .ok (.iconst 0, 1) := by decide +kernel
theorem dX6_findsBlocks_112 : decode cX6_findsBlocks 112 = .ok (.iaload, 1) := by decide +kernel
theorem dX6_findsBlocks_113 : decode cX6_findsBlocks 113 = .ok (.iadd, 1) := by decide +kernel
theorem dX6_findsBlocks_114 : decode cX6_findsBlocks 114 = .ok (.iconst 1, 1) := by decide +kernel
theorem dX6_findsBlocks_115 : decode cX6_findsBlocks 115 = .ok (.invokevirtual 115, 3) := by decide +kernel
theorem dX6_findsBlocks_118 : decode cX6_findsBlocks 118 = .ok (.ifCond .eq 29, 3) := by decide +kernel
theorem dX6_findsBlocks_121 : decode cX6_findsBlocks 121 = .ok (.aload_n 0, 1) := by decide +kernel
theorem dX6_findsBlocks_122 : decode cX6_findsBlocks 122 = .ok (.iload_n 2, 1) := by decide +kernel
theorem dX6_findsBlocks_123 : decode cX6_findsBlocks 123 = .ok (.iload_n 2, 1) := by decide +kernel
theorem dX6_findsBlocks_124 : decode cX6_findsBlocks 124 = .ok (.aload_n 0, 1) := by decide +kernel
theorem dX6_findsBlocks_125 : decode cX6_findsBlocks 125 = .ok (.getfield 7, 3) := by decide +kernel
theorem dX6_findsBlocks_128 : decode cX6_findsBlocks 128 = .ok (.iconst 0, 1) := by decide +kernel
theorem dX6_findsBlocks_129 : decode cX6_findsBlocks 129 = .ok (.iaload, 1) := by decide +kernel
theorem dX6_findsBlocks_130 : decode cX6_findsBlocks 130 = .ok (.iadd, 1) := by decide +kernel
theorem dX6_findsBlocks_131 : decode cX6_findsBlocks 131 = .ok (.invokevirtual 118, 3) := by decide +kernel
theorem dX6_findsBlocks_134 : decode cX6_findsBlocks 134 = .ok (.ifCond .ne 7, 3) := by decide +kernel
theorem dX6_findsBlocks_137 : decode cX6_findsBlocks 137 = .ok (.iload_n 1, 1) := by decide +kernel
theorem dX6_findsBlocks_138 : decode cX6_findsBlocks 138 = .ok (.ifCond .eq 7, 3) := by decide +kernel
theorem dX6_findsBlocks_141 : decode cX6_findsBlocks 141 = .ok (.iconst 1, 1) := by decide +kernel
theorem dX6_findsBlocks_142 : decode cX6_findsBlocks 142 = .ok (.goto 4, 3) := by decide +kernel
theorem dX6_findsBlocks_145 : decode cX6_findsBlocks 145 = .ok (.iconst 0, 1) := by decide +kernel
theorem dX6_findsBlocks_146 : decode cX6_findsBlocks 146 = .ok (.istore_n 1, 1) := by decide +kernel
theorem dX6_findsBlocks_147 : decode cX6_findsBlocks 147 = .ok (.iinc 2 1, 3) := by decide +kernel
theorem dX6_findsBlocks_150 : decode cX6_findsBlocks 150 = .ok (.goto (-105), 3) := by decide +kernel
theorem dX6_findsBlocks_153 : decode cX6_findsBlocks 153 = .ok (.goto (-116), 3) := by decide +kernel
theorem dX6_findsBlocks_156 : decode cX6_findsBlocks 156 = .ok (.return_, 1) := by decide +kernel
theorem dX6_isHeld_0 : decode cX6_isHeld 0 = .ok (.iconst 0, 1) := by decide +kernel
theorem dX6_isHeld_1 : decode cX6_isHeld 1 = .ok (.istore_n 2, 1) := by decide +kernel
theorem dX6_isHeld_2 : decode cX6_isHeld 2 = .ok (.iconst 0, 1) := by decide +kernel
theorem dX6_isHeld_3 : decode cX6_isHeld 3 = .ok (.istore_n 3, 1) := by decide +kernel
theorem dX6_isHeld_4 : decode cX6_isHeld 4 = .ok (.iload_n 3, 1) := by decide +kernel
theorem dX6_isHeld_5 : decode cX6_isHeld 5 = .ok (.aload_n 0, 1) := by decide +kernel
theorem dX6_isHeld_6 : decode cX6_isHeld 6 = .ok (.getfield 7, 3) := by decide +kernel
theorem dX6_isHeld_9 : decode cX6_isHeld 9 = .ok (.iconst 0, 1) := by decide +kernel
theorem dX6_isHeld_10 : decode cX6_isHeld 10 = .ok (.iaload, 1) := by decide +kernel
theorem dX6_isHeld_11 : decode cX6_isHeld 11 = .ok (.if_icmp .ge 38, 3) := by decide +kernel
theorem dX6_isHeld_14 : decode cX6_isHeld 14 = .ok (.iload_n 2, 1) := by decide +kernel
theorem dX6_isHeld_15 : decode cX6_isHeld 15 = .ok (.ifCond .ne 22, 3) := by decide +kernel
theorem dX6_isHeld_18 : decode cX6_isHeld 18 = .ok (.aload_n 0, 1) := by decide +kernel
theorem dX6_isHeld_19 : decode cX6_isHeld 19 = .ok (.getfield 19, 3) := by decide +kernel
theorem dX6_isHeld_22 : decode cX6_isHeld 22 = .ok (.iload_n 3, 1) := by decide +kernel
theorem dX6_isHeld_23 : decode cX6_isHeld 23 = .ok (.iaload, 1) := by decide +kernel
theorem dX6_isHeld_24 : decode cX6_isHeld 24 = .ok (.iload_n 1, 1) := by decide +kernel
theorem dX6_isHeld_25 : decode cX6_isHeld 25 = .ok (.if_icmp .ne 16, 3) := by decide +kernel
theorem dX6_isHeld_28 : decode cX6_isHeld 28 = .ok (.aload_n 0, 1) := by decide +kernel
theorem dX6_isHeld_29 : decode cX6_isHeld 29 = .ok (.iload_n 3, 1) := by decide +kernel
theorem dX6_isHeld_30 : decode cX6_isHeld 30 = .ok (.iconst 2, 1) := by decide +kernel
theorem dX6_isHeld_31 : decode cX6_isHeld 31 = .ok (.invokevirtual 90, 3) := by decide +kernel
theorem dX6_isHeld_34 : decode cX6_isHeld 34 = .ok (.ifCond .ne 7, 3) := by decide +kernel
theorem dX6_isHeld_37 : decode cX6_isHeld 37 = .ok (.iconst 1, 1) := by decide +kernel
theorem dX6_isHeld_38 : decode cX6_isHeld 38 = .ok (.goto 4, 3) := by decide +kernel
theorem dX6_isHeld_41 : decode cX6_isHeld 41 = .ok (.iconst 0, 1) := by decide +kernel
theorem dX6_isHeld_42 : decode cX6_isHeld 42 = .ok (.istore_n 2, 1) := by decide +kernel
theorem dX6_isHeld_43 : decode cX6_isHeld 43 = .ok (.iinc 3 1, 3) := by decide +kernel
theorem dX6_isHeld_46 : decode cX6_isHeld 46 = .ok (.goto (-42), 3) := by decide +kernel
theorem dX6_isHeld_49 : decode cX6_isHeld 49 = .ok (.iload_n 2, 1) := by decide +kernel
theorem dX6_isHeld_50 : decode cX6_isHeld 50 = .ok (.ireturn, 1) := by decide +kernel
theorem dX6_sizeOf_0 : decode cX6_sizeOf 0 = .ok (.iconst 0, 1) := by decide +kernel
theorem dX6_sizeOf_1 : decode cX6_sizeOf 1 = .ok (.istore_n 3, 1) := by decide +kernel
theorem dX6_sizeOf_2 : decode cX6_sizeOf 2 = .ok (.iconst 0, 1) := by decide +kernel
theorem dX6_sizeOf_3 : decode cX6_sizeOf 3 = .ok (.istore 4, 2) := by decide +kernel
theorem dX6_sizeOf_5 : decode cX6_sizeOf 5 = .ok (.iload 4, 2) := by decide +kernel
theorem dX6_sizeOf_7 : decode cX6_sizeOf 7 = .ok (.aload_n 0, 1) := by decide +kernel
theorem dX6_sizeOf_8 : decode cX6_sizeOf 8 = .ok (.invokevirtual 45, 3) := by decide +kernel
theorem dX6_sizeOf_11 : decode cX6_sizeOf 11 = .ok (.if_icmp .ge 45, 3) := by decide +kernel
theorem dX6_sizeOf_14 : decode cX6_sizeOf 14 = .ok (.iload_n 3, 1) := by decide +kernel
theorem dX6_sizeOf_15 : decode cX6_sizeOf 15 = .ok (.aload_n 0, 1) := by decide +kernel
theorem dX6_sizeOf_16 : decode cX6_sizeOf 16 = .ok (.getfield 19, 3) := by decide +kernel
theorem dX6_sizeOf_19 : decode cX6_sizeOf 19 = .ok (.iload 4, 2) := by decide +kernel
theorem dX6_sizeOf_21 : decode cX6_sizeOf 21 = .ok (.iaload, 1) := by decide +kernel
theorem dX6_sizeOf_22 : decode cX6_sizeOf 22 = .ok (.iload_n 1, 1) := by decide +kernel
theorem dX6_sizeOf_23 : decode cX6_sizeOf 23 = .ok (.if_icmp .ne 24, 3) := by decide +kernel
theorem dX6_sizeOf_26 : decode cX6_sizeOf 26 = .ok (.iload_n 2, 1) := by decide +kernel
theorem dX6_sizeOf_27 : decode cX6_sizeOf 27 = .ok (.ifCond .eq 16, 3) := by decide +kernel
theorem dX6_sizeOf_30 : decode cX6_sizeOf 30 = .ok (.aload_n 0, 1) := by decide +kernel
theorem dX6_sizeOf_31 : decode cX6_sizeOf 31 = .ok (.getfield 7, 3) := by decide +kernel
theorem dX6_sizeOf_34 : decode cX6_sizeOf 34 = .ok (.bipush 8, 2) := by decide +kernel
theorem dX6_sizeOf_36 : decode cX6_sizeOf 36 = .ok (.iload 4, 2) := by decide +kernel
theorem dX6_sizeOf_38 : decode cX6_sizeOf 38 = .ok (.iadd, 1) := by decide +kernel
theorem dX6_sizeOf_39 : decode cX6_sizeOf 39 = .ok (.iaload, 1) := by decide +kernel
theorem dX6_sizeOf_40 : decode cX6_sizeOf 40 = .ok (.goto 8, 3) := by decide +kernel
theorem dX6_sizeOf_43 : decode cX6_sizeOf 43 = .ok (.iconst 1, 1) := by decide +kernel
theorem dX6_sizeOf_44 : decode cX6_sizeOf 44 = .ok (.goto 4, 3) := by decide +kernel
theorem dX6_sizeOf_47 : decode cX6_sizeOf 47 = .ok (.iconst 0, 1) := by decide +kernel
theorem dX6_sizeOf_48 : decode cX6_sizeOf 48 = .ok (.iadd, 1) := by decide +kernel
theorem dX6_sizeOf_49 : decode cX6_sizeOf 49 = .ok (.istore_n 3, 1) := by decide +kernel
theorem dX6_sizeOf_50 : decode cX6_sizeOf 50 = .ok (.iinc 4 1, 3) := by decide +kernel
theorem dX6_sizeOf_53 : decode cX6_sizeOf 53 = .ok (.goto (-48), 3) := by decide +kernel
theorem dX6_sizeOf_56 : decode cX6_sizeOf 56 = .ok (.iload_n 3, 1) := by decide +kernel
theorem dX6_sizeOf_57 : decode cX6_sizeOf 57 = .ok (.ireturn, 1) := by decide +kernel
theorem dX6_mayLie_0 : decode cX6_mayLie 0 = .ok (.iconst 1, 1) := by decide +kernel
theorem dX6_mayLie_1 : decode cX6_mayLie 1 = .ok (.istore 4, 2) := by decide +kernel
theorem dX6_mayLie_3 : decode cX6_mayLie 3 = .ok (.iconst 0, 1) := by decide +kernel
theorem dX6_mayLie_4 : decode cX6_mayLie 4 = .ok (.istore 5, 2) := by decide +kernel
theorem dX6_mayLie_6 : decode cX6_mayLie 6 = .ok (.iload 5, 2) := by decide +kernel
theorem dX6_mayLie_8 : decode cX6_mayLie 8 = .ok (.aload_n 0, 1) := by decide +kernel
theorem dX6_mayLie_9 : decode cX6_mayLie 9 = .ok (.invokevirtual 45, 3) := by decide +kernel
theorem dX6_mayLie_12 : decode cX6_mayLie 12 = .ok (.if_icmp .ge 127, 3) := by decide +kernel
theorem dX6_mayLie_15 : decode cX6_mayLie 15 = .ok (.iload 4, 2) := by decide +kernel
theorem dX6_mayLie_17 : decode cX6_mayLie 17 = .ok (.ifCond .eq 122, 3) := by decide +kernel
theorem dX6_mayLie_20 : decode cX6_mayLie 20 = .ok (.aload_n 0, 1) := by decide +kernel
theorem dX6_mayLie_21 : decode cX6_mayLie 21 = .ok (.getfield 19, 3) := by decide +kernel
theorem dX6_mayLie_24 : decode cX6_mayLie 24 = .ok (.iload 5, 2) := by decide +kernel
theorem dX6_mayLie_26 : decode cX6_mayLie 26 = .ok (.iaload, 1) := by decide +kernel
theorem dX6_mayLie_27 : decode cX6_mayLie 27 = .ok (.iload_n 1, 1) := by decide +kernel
theorem dX6_mayLie_28 : decode cX6_mayLie 28 = .ok (.if_icmp .ne 105, 3) := by decide +kernel
theorem dX6_mayLie_31 : decode cX6_mayLie 31 = .ok (.aload_n 0, 1) := by decide +kernel
theorem dX6_mayLie_32 : decode cX6_mayLie 32 = .ok (.iload 5, 2) := by decide +kernel
theorem dX6_mayLie_34 : decode cX6_mayLie 34 = .ok (.invokevirtual 76, 3) := by decide +kernel
theorem dX6_mayLie_37 : decode cX6_mayLie 37 = .ok (.iload_n 3, 1) := by decide +kernel
theorem dX6_mayLie_38 : decode cX6_mayLie 38 = .ok (.iadd, 1) := by decide +kernel
theorem dX6_mayLie_39 : decode cX6_mayLie 39 = .ok (.istore 6, 2) := by decide +kernel
theorem dX6_mayLie_41 : decode cX6_mayLie 41 = .ok (.aload_n 0, 1) := by decide +kernel
theorem dX6_mayLie_42 : decode cX6_mayLie 42 = .ok (.iload 5, 2) := by decide +kernel
theorem dX6_mayLie_44 : decode cX6_mayLie 44 = .ok (.invokevirtual 73, 3) := by decide +kernel
theorem dX6_mayLie_47 : decode cX6_mayLie 47 = .ok (.iload_n 2, 1) := by decide +kernel
theorem dX6_mayLie_48 : decode cX6_mayLie 48 = .ok (.iadd, 1) := by decide +kernel
theorem dX6_mayLie_49 : decode cX6_mayLie 49 = .ok (.istore 7, 2) := by decide +kernel
theorem dX6_mayLie_51 : decode cX6_mayLie 51 = .ok (.iload 6, 2) := by decide +kernel
theorem dX6_mayLie_53 : decode cX6_mayLie 53 = .ok (.ifCond .lt 77, 3) := by decide +kernel
theorem dX6_mayLie_56 : decode cX6_mayLie 56 = .ok (.iload 7, 2) := by decide +kernel
theorem dX6_mayLie_58 : decode cX6_mayLie 58 = .ok (.i2l, 1) := by decide +kernel
theorem dX6_mayLie_59 : decode cX6_mayLie 59 = .ok (.lconst 0, 1) := by decide +kernel
theorem dX6_mayLie_60 : decode cX6_mayLie 60 = .ok (.aload_n 0, 1) := by decide +kernel
theorem dX6_mayLie_61 : decode cX6_mayLie 61 = .ok (.getfield 7, 3) := by decide +kernel
theorem dX6_mayLie_64 : decode cX6_mayLie 64 = .ok (.iconst 0, 1) := by decide +kernel
theorem dX6_mayLie_65 : decode cX6_mayLie 65 = .ok (.iaload, 1) := by decide +kernel
theorem dX6_mayLie_66 : decode cX6_mayLie 66 = .ok (.i2l, 1) := by decide +kernel
theorem dX6_mayLie_67 : decode cX6_mayLie 67 = .ok (.lconst 1, 1) := by decide +kernel
theorem dX6_mayLie_68 : decode cX6_mayLie 68 = .ok (.lsub, 1) := by decide +kernel
theorem dX6_mayLie_69 : decode cX6_mayLie 69 = .ok (.invokestatic 49, 3) := by decide +kernel
theorem dX6_mayLie_72 : decode cX6_mayLie 72 = .ok (.ifCond .eq 58, 3) := by decide +kernel
theorem dX6_mayLie_75 : decode cX6_mayLie 75 = .ok (.iload 6, 2) := by decide +kernel
theorem dX6_mayLie_77 : decode cX6_mayLie 77 = .ok (.aload_n 0, 1) := by decide +kernel
theorem dX6_mayLie_78 : decode cX6_mayLie 78 = .ok (.getfield 7, 3) := by decide +kernel
theorem dX6_mayLie_81 : decode cX6_mayLie 81 = .ok (.iconst 1, 1) := by decide +kernel
theorem dX6_mayLie_82 : decode cX6_mayLie 82 = .ok (.iaload, 1) := by decide +kernel
theorem dX6_mayLie_83 : decode cX6_mayLie 83 = .ok (.if_icmp .ge 43, 3) := by decide +kernel
theorem dX6_mayLie_86 : decode cX6_mayLie 86 = .ok (.aload_n 0, 1) := by decide +kernel
theorem dX6_mayLie_87 : decode cX6_mayLie 87 = .ok (.iload 6, 2) := by decide +kernel
theorem dX6_mayLie_89 : decode cX6_mayLie 89 = .ok (.aload_n 0, 1) := by decide +kernel
theorem dX6_mayLie_90 : decode cX6_mayLie 90 = .ok (.getfield 7, 3) := by decide +kernel
theorem dX6_mayLie_93 : decode cX6_mayLie 93 = .ok (.iconst 0, 1) := by decide +kernel
theorem dX6_mayLie_94 : decode cX6_mayLie 94 = .ok (.iaload, 1) := by decide +kernel
theorem dX6_mayLie_95 : decode cX6_mayLie 95 = .ok (.imul, 1) := by decide +kernel
theorem dX6_mayLie_96 : decode cX6_mayLie 96 = .ok (.iload 7, 2) := by decide +kernel
theorem dX6_mayLie_98 : decode cX6_mayLie 98 = .ok (.iadd, 1) := by decide +kernel
theorem dX6_mayLie_99 : decode cX6_mayLie 99 = .ok (.invokevirtual 112, 3) := by decide +kernel
theorem dX6_mayLie_102 : decode cX6_mayLie 102 = .ok (.ifCond .eq 24, 3) := by decide +kernel
theorem dX6_mayLie_105 : decode cX6_mayLie 105 = .ok (.aload_n 0, 1) := by decide +kernel
theorem dX6_mayLie_106 : decode cX6_mayLie 106 = .ok (.getfield 19, 3) := by decide +kernel
theorem dX6_mayLie_109 : decode cX6_mayLie 109 = .ok (.iload 6, 2) := by decide +kernel
theorem dX6_mayLie_111 : decode cX6_mayLie 111 = .ok (.aload_n 0, 1) := by decide +kernel
theorem dX6_mayLie_112 : decode cX6_mayLie 112 = .ok (.getfield 7, 3) := by decide +kernel
theorem dX6_mayLie_115 : decode cX6_mayLie 115 = .ok (.iconst 0, 1) := by decide +kernel
theorem dX6_mayLie_116 : decode cX6_mayLie 116 = .ok (.iaload, 1) := by decide +kernel
theorem dX6_mayLie_117 : decode cX6_mayLie 117 = .ok (.imul, 1) := by decide +kernel
theorem dX6_mayLie_118 : decode cX6_mayLie 118 = .ok (.iload 7, 2) := by decide +kernel
theorem dX6_mayLie_120 : decode cX6_mayLie 120 = .ok (.iadd, 1) := by decide +kernel
theorem dX6_mayLie_121 : decode cX6_mayLie 121 = .ok (.iaload, 1) := by decide +kernel
theorem dX6_mayLie_122 : decode cX6_mayLie 122 = .ok (.iload_n 1, 1) := by decide +kernel
theorem dX6_mayLie_123 : decode cX6_mayLie 123 = .ok (.if_icmp .ne 7, 3) := by decide +kernel
theorem dX6_mayLie_126 : decode cX6_mayLie 126 = .ok (.iconst 1, 1) := by decide +kernel
theorem dX6_mayLie_127 : decode cX6_mayLie 127 = .ok (.goto 4, 3) := by decide +kernel
theorem dX6_mayLie_130 : decode cX6_mayLie 130 = .ok (.iconst 0, 1) := by decide +kernel
theorem dX6_mayLie_131 : decode cX6_mayLie 131 = .ok (.istore 4, 2) := by decide +kernel
theorem dX6_mayLie_133 : decode cX6_mayLie 133 = .ok (.iinc 5 1, 3) := by decide +kernel
theorem dX6_mayLie_136 : decode cX6_mayLie 136 = .ok (.goto (-130), 3) := by decide +kernel
theorem dX6_mayLie_139 : decode cX6_mayLie 139 = .ok (.iload 4, 2) := by decide +kernel
theorem dX6_mayLie_141 : decode cX6_mayLie 141 = .ok (.ireturn, 1) := by decide +kernel
theorem dX6_findsWays_0 : decode cX6_findsWays 0 = .ok (.aload_n 0, 1) := by decide +kernel
theorem dX6_findsWays_1 : decode cX6_findsWays 1 = .ok (.getfield 7, 3) := by decide +kernel
theorem dX6_findsWays_4 : decode cX6_findsWays 4 = .ok (.iconst 1, 1) := by decide +kernel
theorem dX6_findsWays_5 : decode cX6_findsWays 5 = .ok (.iaload, 1) := by decide +kernel
theorem dX6_findsWays_6 : decode cX6_findsWays 6 = .ok (.iload_n 1, 1) := by decide +kernel
theorem dX6_findsWays_7 : decode cX6_findsWays 7 = .ok (.aload_n 0, 1) := by decide +kernel
theorem dX6_findsWays_8 : decode cX6_findsWays 8 = .ok (.getfield 7, 3) := by decide +kernel
theorem dX6_findsWays_11 : decode cX6_findsWays 11 = .ok (.iconst 0, 1) := by decide +kernel
theorem dX6_findsWays_12 : decode cX6_findsWays 12 = .ok (.iaload, 1) := by decide +kernel
theorem dX6_findsWays_13 : decode cX6_findsWays 13 = .ok (.idiv, 1) := by decide +kernel
theorem dX6_findsWays_14 : decode cX6_findsWays 14 = .ok (.isub, 1) := by decide +kernel
theorem dX6_findsWays_15 : decode cX6_findsWays 15 = .ok (.istore_n 2, 1) := by decide +kernel
theorem dX6_findsWays_16 : decode cX6_findsWays 16 = .ok (.iconst 0, 1) := by decide +kernel
theorem dX6_findsWays_17 : decode cX6_findsWays 17 = .ok (.istore_n 3, 1) := by decide +kernel
theorem dX6_findsWays_18 : decode cX6_findsWays 18 = .ok (.iload_n 3, 1) := by decide +kernel
theorem dX6_findsWays_19 : decode cX6_findsWays 19 = .ok (.sipush 225, 3) := by decide +kernel
theorem dX6_findsWays_22 : decode cX6_findsWays 22 = .ok (.if_icmp .ge 67, 3) := by decide +kernel
theorem dX6_findsWays_25 : decode cX6_findsWays 25 = .ok (.iload_n 3, 1) := by decide +kernel
theorem dX6_findsWays_26 : decode cX6_findsWays 26 = .ok (.bipush 15, 2) := by decide +kernel
theorem dX6_findsWays_28 : decode cX6_findsWays 28 = .ok (.idiv, 1) := by decide +kernel
theorem dX6_findsWays_29 : decode cX6_findsWays 29 = .ok (.bipush 7, 2) := by decide +kernel
theorem dX6_findsWays_31 : decode cX6_findsWays 31 = .ok (.isub, 1) := by decide +kernel
theorem dX6_findsWays_32 : decode cX6_findsWays 32 = .ok (.istore 4, 2) := by decide +kernel
theorem dX6_findsWays_34 : decode cX6_findsWays 34 = .ok (.iload_n 3, 1) := by decide +kernel
theorem dX6_findsWays_35 : decode cX6_findsWays 35 = .ok (.bipush 15, 2) := by decide +kernel
theorem dX6_findsWays_37 : decode cX6_findsWays 37 = .ok (.irem, 1) := by decide +kernel
theorem dX6_findsWays_38 : decode cX6_findsWays 38 = .ok (.bipush 7, 2) := by decide +kernel
theorem dX6_findsWays_40 : decode cX6_findsWays 40 = .ok (.isub, 1) := by decide +kernel
theorem dX6_findsWays_41 : decode cX6_findsWays 41 = .ok (.istore 5, 2) := by decide +kernel
theorem dX6_findsWays_43 : decode cX6_findsWays 43 = .ok (.aload_n 0, 1) := by decide +kernel
theorem dX6_findsWays_44 : decode cX6_findsWays 44 = .ok (.getfield 22, 3) := by decide +kernel
theorem dX6_findsWays_47 : decode cX6_findsWays 47 = .ok (.iload_n 3, 1) := by decide +kernel
theorem dX6_findsWays_48 : decode cX6_findsWays 48 = .ok (.iload 4, 2) := by decide +kernel
theorem dX6_findsWays_50 : decode cX6_findsWays 50 = .ok (.iload_n 2, 1) := by decide +kernel
theorem dX6_findsWays_51 : decode cX6_findsWays 51 = .ok (.if_icmp .gt 15, 3) := by decide +kernel
theorem dX6_findsWays_54 : decode cX6_findsWays 54 = .ok (.aload_n 0, 1) := by decide +kernel
theorem dX6_findsWays_55 : decode cX6_findsWays 55 = .ok (.iload_n 1, 1) := by decide +kernel
theorem dX6_findsWays_56 : decode cX6_findsWays 56 = .ok (.iload 5, 2) := by decide +kernel
theorem dX6_findsWays_58 : decode cX6_findsWays 58 = .ok (.iload 4, 2) := by decide +kernel
theorem dX6_findsWays_60 : decode cX6_findsWays 60 = .ok (.invokevirtual 121, 3) := by decide +kernel
theorem dX6_findsWays_63 : decode cX6_findsWays 63 = .ok (.ifCond .ne 8, 3) := by decide +kernel
theorem dX6_findsWays_66 : decode cX6_findsWays 66 = .ok (.bipush (-2), 2) := by decide +kernel
theorem dX6_findsWays_68 : decode cX6_findsWays 68 = .ok (.goto 14, 3) := by decide +kernel
theorem dX6_findsWays_71 : decode cX6_findsWays 71 = .ok (.iload 4, 2) := by decide +kernel
theorem dX6_findsWays_73 : decode cX6_findsWays 73 = .ok (.iload_n 2, 1) := by decide +kernel
theorem dX6_findsWays_74 : decode cX6_findsWays 74 = .ok (.if_icmp .ne 7, 3) := by decide +kernel
theorem dX6_findsWays_77 : decode cX6_findsWays 77 = .ok (.iconst 0, 1) := by decide +kernel
theorem dX6_findsWays_78 : decode cX6_findsWays 78 = .ok (.goto 4, 3) := by decide +kernel
theorem dX6_findsWays_81 : decode cX6_findsWays 81 = .ok (.iconst (-1), 1) := by decide +kernel
theorem dX6_findsWays_82 : decode cX6_findsWays 82 = .ok (.iastore, 1) := by decide +kernel
theorem dX6_findsWays_83 : decode cX6_findsWays 83 = .ok (.iinc 3 1, 3) := by decide +kernel
theorem dX6_findsWays_86 : decode cX6_findsWays 86 = .ok (.goto (-68), 3) := by decide +kernel
theorem dX6_findsWays_89 : decode cX6_findsWays 89 = .ok (.iconst 1, 1) := by decide +kernel
theorem dX6_findsWays_90 : decode cX6_findsWays 90 = .ok (.istore_n 3, 1) := by decide +kernel
theorem dX6_findsWays_91 : decode cX6_findsWays 91 = .ok (.iconst 0, 1) := by decide +kernel
theorem dX6_findsWays_92 : decode cX6_findsWays 92 = .ok (.istore 4, 2) := by decide +kernel
theorem dX6_findsWays_94 : decode cX6_findsWays 94 = .ok (.iload_n 3, 1) := by decide +kernel
theorem dX6_findsWays_95 : decode cX6_findsWays 95 = .ok (.ifCond .eq 63, 3) := by decide +kernel
theorem dX6_findsWays_98 : decode cX6_findsWays 98 = .ok (.iconst 0, 1) := by decide +kernel
theorem dX6_findsWays_99 : decode cX6_findsWays 99 = .ok (.istore_n 3, 1) := by decide +kernel
theorem dX6_findsWays_100 : decode cX6_findsWays 100 = .ok (.iconst 0, 1) := by decide +kernel
theorem dX6_findsWays_101 : decode cX6_findsWays 101 = .ok (.istore 5, 2) := by decide +kernel
theorem dX6_findsWays_103 : decode cX6_findsWays 103 = .ok (.iload 5, 2) := by decide +kernel
theorem dX6_findsWays_105 : decode cX6_findsWays 105 = .ok (.sipush 225, 3) := by decide +kernel
theorem dX6_findsWays_108 : decode cX6_findsWays 108 = .ok (.if_icmp .ge 44, 3) := by decide +kernel
theorem dX6_findsWays_111 : decode cX6_findsWays 111 = .ok (.aload_n 0, 1) := by decide +kernel
theorem dX6_findsWays_112 : decode cX6_findsWays 112 = .ok (.getfield 22, 3) := by decide +kernel
theorem dX6_findsWays_115 : decode cX6_findsWays 115 = .ok (.iload 5, 2) := by decide +kernel
theorem dX6_findsWays_117 : decode cX6_findsWays 117 = .ok (.iaload, 1) := by decide +kernel
theorem dX6_findsWays_118 : decode cX6_findsWays 118 = .ok (.iconst (-1), 1) := by decide +kernel
theorem dX6_findsWays_119 : decode cX6_findsWays 119 = .ok (.if_icmp .ne 27, 3) := by decide +kernel
theorem dX6_findsWays_122 : decode cX6_findsWays 122 = .ok (.aload_n 0, 1) := by decide +kernel
theorem dX6_findsWays_123 : decode cX6_findsWays 123 = .ok (.iload 5, 2) := by decide +kernel
theorem dX6_findsWays_125 : decode cX6_findsWays 125 = .ok (.iload 4, 2) := by decide +kernel
theorem dX6_findsWays_127 : decode cX6_findsWays 127 = .ok (.invokevirtual 124, 3) := by decide +kernel
theorem dX6_findsWays_130 : decode cX6_findsWays 130 = .ok (.ifCond .eq 16, 3) := by decide +kernel
theorem dX6_findsWays_133 : decode cX6_findsWays 133 = .ok (.aload_n 0, 1) := by decide +kernel
theorem dX6_findsWays_134 : decode cX6_findsWays 134 = .ok (.getfield 22, 3) := by decide +kernel
theorem dX6_findsWays_137 : decode cX6_findsWays 137 = .ok (.iload 5, 2) := by decide +kernel
theorem dX6_findsWays_139 : decode cX6_findsWays 139 = .ok (.iload 4, 2) := by decide +kernel
theorem dX6_findsWays_141 : decode cX6_findsWays 141 = .ok (.iconst 1, 1) := by decide +kernel
theorem dX6_findsWays_142 : decode cX6_findsWays 142 = .ok (.iadd, 1) := by decide +kernel
theorem dX6_findsWays_143 : decode cX6_findsWays 143 = .ok (.iastore, 1) := by decide +kernel
theorem dX6_findsWays_144 : decode cX6_findsWays 144 = .ok (.iconst 1, 1) := by decide +kernel
theorem dX6_findsWays_145 : decode cX6_findsWays 145 = .ok (.istore_n 3, 1) := by decide +kernel
theorem dX6_findsWays_146 : decode cX6_findsWays 146 = .ok (.iinc 5 1, 3) := by decide +kernel
theorem dX6_findsWays_149 : decode cX6_findsWays 149 = .ok (.goto (-46), 3) := by decide +kernel
theorem dX6_findsWays_152 : decode cX6_findsWays 152 = .ok (.iinc 4 1, 3) := by decide +kernel
theorem dX6_findsWays_155 : decode cX6_findsWays 155 = .ok (.goto (-61), 3) := by decide +kernel
theorem dX6_findsWays_158 : decode cX6_findsWays 158 = .ok (.return_, 1) := by decide +kernel
theorem dX6_moved_0 : decode cX6_moved 0 = .ok (.iload_n 1, 1) := by decide +kernel
theorem dX6_moved_1 : decode cX6_moved 1 = .ok (.ifCond .ne 9, 3) := by decide +kernel
theorem dX6_moved_4 : decode cX6_moved 4 = .ok (.iload_n 0, 1) := by decide +kernel
theorem dX6_moved_5 : decode cX6_moved 5 = .ok (.iconst 1, 1) := by decide +kernel
theorem dX6_moved_6 : decode cX6_moved 6 = .ok (.isub, 1) := by decide +kernel
theorem dX6_moved_7 : decode cX6_moved 7 = .ok (.goto 30, 3) := by decide +kernel
theorem dX6_moved_10 : decode cX6_moved 10 = .ok (.iload_n 1, 1) := by decide +kernel
theorem dX6_moved_11 : decode cX6_moved 11 = .ok (.iconst 1, 1) := by decide +kernel
theorem dX6_moved_12 : decode cX6_moved 12 = .ok (.if_icmp .ne 9, 3) := by decide +kernel
theorem dX6_moved_15 : decode cX6_moved 15 = .ok (.iload_n 0, 1) := by decide +kernel
theorem dX6_moved_16 : decode cX6_moved 16 = .ok (.iconst 1, 1) := by decide +kernel
theorem dX6_moved_17 : decode cX6_moved 17 = .ok (.iadd, 1) := by decide +kernel
theorem dX6_moved_18 : decode cX6_moved 18 = .ok (.goto 19, 3) := by decide +kernel
theorem dX6_moved_21 : decode cX6_moved 21 = .ok (.iload_n 1, 1) := by decide +kernel
theorem dX6_moved_22 : decode cX6_moved 22 = .ok (.iconst 2, 1) := by decide +kernel
theorem dX6_moved_23 : decode cX6_moved 23 = .ok (.if_icmp .ne 10, 3) := by decide +kernel
theorem dX6_moved_26 : decode cX6_moved 26 = .ok (.iload_n 0, 1) := by decide +kernel
theorem dX6_moved_27 : decode cX6_moved 27 = .ok (.bipush 15, 2) := by decide +kernel
theorem dX6_moved_29 : decode cX6_moved 29 = .ok (.isub, 1) := by decide +kernel
theorem dX6_moved_30 : decode cX6_moved 30 = .ok (.goto 7, 3) := by decide +kernel
theorem dX6_moved_33 : decode cX6_moved 33 = .ok (.iload_n 0, 1) := by decide +kernel
theorem dX6_moved_34 : decode cX6_moved 34 = .ok (.bipush 15, 2) := by decide +kernel
theorem dX6_moved_36 : decode cX6_moved 36 = .ok (.iadd, 1) := by decide +kernel
theorem dX6_moved_37 : decode cX6_moved 37 = .ok (.ireturn, 1) := by decide +kernel
theorem dX6_isBeside_0 : decode cX6_isBeside 0 = .ok (.iconst 0, 1) := by decide +kernel
theorem dX6_isBeside_1 : decode cX6_isBeside 1 = .ok (.istore_n 3, 1) := by decide +kernel
theorem dX6_isBeside_2 : decode cX6_isBeside 2 = .ok (.iconst 0, 1) := by decide +kernel
theorem dX6_isBeside_3 : decode cX6_isBeside 3 = .ok (.istore 4, 2) := by decide +kernel
theorem dX6_isBeside_5 : decode cX6_isBeside 5 = .ok (.iload 4, 2) := by decide +kernel
theorem dX6_isBeside_7 : decode cX6_isBeside 7 = .ok (.iconst 4, 1) := by decide +kernel
theorem dX6_isBeside_8 : decode cX6_isBeside 8 = .ok (.if_icmp .ge 51, 3) := by decide +kernel
theorem dX6_isBeside_11 : decode cX6_isBeside 11 = .ok (.iload_n 1, 1) := by decide +kernel
theorem dX6_isBeside_12 : decode cX6_isBeside 12 = .ok (.iload 4, 2) := by decide +kernel
theorem dX6_isBeside_14 : decode cX6_isBeside 14 = .ok (.invokestatic 127, 3) := by decide +kernel
theorem dX6_isBeside_17 : decode cX6_isBeside 17 = .ok (.istore 5, 2) := by decide +kernel
theorem dX6_isBeside_19 : decode cX6_isBeside 19 = .ok (.iload_n 3, 1) := by decide +kernel
theorem dX6_isBeside_20 : decode cX6_isBeside 20 = .ok (.ifCond .ne 27, 3) := by decide +kernel
theorem dX6_isBeside_23 : decode cX6_isBeside 23 = .ok (.iload 5, 2) := by decide +kernel
theorem dX6_isBeside_25 : decode cX6_isBeside 25 = .ok (.i2l, 1) := by decide +kernel
theorem dX6_isBeside_26 : decode cX6_isBeside 26 = .ok (.lconst 0, 1) := by decide +kernel
theorem dX6_isBeside_27 : decode cX6_isBeside 27 = .ok (.ldc2_w 130, 3) := by decide +kernel
theorem dX6_isBeside_30 : decode cX6_isBeside 30 = .ok (.invokestatic 49, 3) := by decide +kernel
theorem dX6_isBeside_33 : decode cX6_isBeside 33 = .ok (.ifCond .eq 18, 3) := by decide +kernel
theorem dX6_isBeside_36 : decode cX6_isBeside 36 = .ok (.aload_n 0, 1) := by decide +kernel
theorem dX6_isBeside_37 : decode cX6_isBeside 37 = .ok (.getfield 22, 3) := by decide +kernel
theorem dX6_isBeside_40 : decode cX6_isBeside 40 = .ok (.iload 5, 2) := by decide +kernel
theorem dX6_isBeside_42 : decode cX6_isBeside 42 = .ok (.iaload, 1) := by decide +kernel
theorem dX6_isBeside_43 : decode cX6_isBeside 43 = .ok (.iload_n 2, 1) := by decide +kernel
theorem dX6_isBeside_44 : decode cX6_isBeside 44 = .ok (.if_icmp .ne 7, 3) := by decide +kernel
theorem dX6_isBeside_47 : decode cX6_isBeside 47 = .ok (.iconst 1, 1) := by decide +kernel
theorem dX6_isBeside_48 : decode cX6_isBeside 48 = .ok (.goto 4, 3) := by decide +kernel
theorem dX6_isBeside_51 : decode cX6_isBeside 51 = .ok (.iconst 0, 1) := by decide +kernel
theorem dX6_isBeside_52 : decode cX6_isBeside 52 = .ok (.istore_n 3, 1) := by decide +kernel
theorem dX6_isBeside_53 : decode cX6_isBeside 53 = .ok (.iinc 4 1, 3) := by decide +kernel
theorem dX6_isBeside_56 : decode cX6_isBeside 56 = .ok (.goto (-51), 3) := by decide +kernel
theorem dX6_isBeside_59 : decode cX6_isBeside 59 = .ok (.iload_n 3, 1) := by decide +kernel
theorem dX6_isBeside_60 : decode cX6_isBeside 60 = .ok (.ireturn, 1) := by decide +kernel
theorem dX6_way_0 : decode cX6_way 0 = .ok (.aload_n 0, 1) := by decide +kernel
theorem dX6_way_1 : decode cX6_way 1 = .ok (.iload_n 1, 1) := by decide +kernel
theorem dX6_way_2 : decode cX6_way 2 = .ok (.invokevirtual 132, 3) := by decide +kernel
theorem dX6_way_5 : decode cX6_way 5 = .ok (.ifCond .eq 5, 3) := by decide +kernel
theorem dX6_way_8 : decode cX6_way 8 = .ok (.iconst (-1), 1) := by decide +kernel
theorem dX6_way_9 : decode cX6_way 9 = .ok (.ireturn, 1) := by decide +kernel
theorem dX6_way_10 : decode cX6_way 10 = .ok (.aload_n 0, 1) := by decide +kernel
theorem dX6_way_11 : decode cX6_way 11 = .ok (.iload_n 1, 1) := by decide +kernel
theorem dX6_way_12 : decode cX6_way 12 = .ok (.invokevirtual 135, 3) := by decide +kernel
theorem dX6_way_15 : decode cX6_way 15 = .ok (.aload_n 0, 1) := by decide +kernel
theorem dX6_way_16 : decode cX6_way 16 = .ok (.getfield 22, 3) := by decide +kernel
theorem dX6_way_19 : decode cX6_way 19 = .ok (.bipush 112, 2) := by decide +kernel
theorem dX6_way_21 : decode cX6_way 21 = .ok (.iaload, 1) := by decide +kernel
theorem dX6_way_22 : decode cX6_way 22 = .ok (.ifCond .ge 7, 3) := by decide +kernel
theorem dX6_way_25 : decode cX6_way 25 = .ok (.iconst (-1), 1) := by decide +kernel
theorem dX6_way_26 : decode cX6_way 26 = .ok (.goto 10, 3) := by decide +kernel
theorem dX6_way_29 : decode cX6_way 29 = .ok (.aload_n 0, 1) := by decide +kernel
theorem dX6_way_30 : decode cX6_way 30 = .ok (.getfield 22, 3) := by decide +kernel
theorem dX6_way_33 : decode cX6_way 33 = .ok (.bipush 112, 2) := by decide +kernel
theorem dX6_way_35 : decode cX6_way 35 = .ok (.iaload, 1) := by decide +kernel
theorem dX6_way_36 : decode cX6_way 36 = .ok (.ireturn, 1) := by decide +kernel
theorem dX6_nextLoose_0 : decode cX6_nextLoose 0 = .ok (.iload_n 1, 1) := by decide +kernel
theorem dX6_nextLoose_1 : decode cX6_nextLoose 1 = .ok (.istore_n 3, 1) := by decide +kernel
theorem dX6_nextLoose_2 : decode cX6_nextLoose 2 = .ok (.iload_n 3, 1) := by decide +kernel
theorem dX6_nextLoose_3 : decode cX6_nextLoose 3 = .ok (.aload_n 0, 1) := by decide +kernel
theorem dX6_nextLoose_4 : decode cX6_nextLoose 4 = .ok (.invokevirtual 45, 3) := by decide +kernel
theorem dX6_nextLoose_7 : decode cX6_nextLoose 7 = .ok (.if_icmp .ge 59, 3) := by decide +kernel
theorem dX6_nextLoose_10 : decode cX6_nextLoose 10 = .ok (.aload_n 0, 1) := by decide +kernel
theorem dX6_nextLoose_11 : decode cX6_nextLoose 11 = .ok (.getfield 19, 3) := by decide +kernel
theorem dX6_nextLoose_14 : decode cX6_nextLoose 14 = .ok (.iload_n 3, 1) := by decide +kernel
theorem dX6_nextLoose_15 : decode cX6_nextLoose 15 = .ok (.iaload, 1) := by decide +kernel
theorem dX6_nextLoose_16 : decode cX6_nextLoose 16 = .ok (.iload_n 3, 1) := by decide +kernel
theorem dX6_nextLoose_17 : decode cX6_nextLoose 17 = .ok (.if_icmp .ne 15, 3) := by decide +kernel
theorem dX6_nextLoose_20 : decode cX6_nextLoose 20 = .ok (.aload_n 0, 1) := by decide +kernel
theorem dX6_nextLoose_21 : decode cX6_nextLoose 21 = .ok (.iload_n 3, 1) := by decide +kernel
theorem dX6_nextLoose_22 : decode cX6_nextLoose 22 = .ok (.invokevirtual 132, 3) := by decide +kernel
theorem dX6_nextLoose_25 : decode cX6_nextLoose 25 = .ok (.ifCond .ne 7, 3) := by decide +kernel
theorem dX6_nextLoose_28 : decode cX6_nextLoose 28 = .ok (.iconst 1, 1) := by decide +kernel
theorem dX6_nextLoose_29 : decode cX6_nextLoose 29 = .ok (.goto 4, 3) := by decide +kernel
theorem dX6_nextLoose_32 : decode cX6_nextLoose 32 = .ok (.iconst 0, 1) := by decide +kernel
theorem dX6_nextLoose_33 : decode cX6_nextLoose 33 = .ok (.istore 4, 2) := by decide +kernel
theorem dX6_nextLoose_35 : decode cX6_nextLoose 35 = .ok (.iload 4, 2) := by decide +kernel
theorem dX6_nextLoose_37 : decode cX6_nextLoose 37 = .ok (.ifCond .eq 23, 3) := by decide +kernel
theorem dX6_nextLoose_40 : decode cX6_nextLoose 40 = .ok (.aload_n 0, 1) := by decide +kernel
theorem dX6_nextLoose_41 : decode cX6_nextLoose 41 = .ok (.iload_n 3, 1) := by decide +kernel
theorem dX6_nextLoose_42 : decode cX6_nextLoose 42 = .ok (.invokevirtual 139, 3) := by decide +kernel
theorem dX6_nextLoose_45 : decode cX6_nextLoose 45 = .ok (.iconst (-1), 1) := by decide +kernel
theorem dX6_nextLoose_46 : decode cX6_nextLoose 46 = .ok (.if_icmp .eq 7, 3) := by decide +kernel
theorem dX6_nextLoose_49 : decode cX6_nextLoose 49 = .ok (.iconst 1, 1) := by decide +kernel
theorem dX6_nextLoose_50 : decode cX6_nextLoose 50 = .ok (.goto 4, 3) := by decide +kernel
theorem dX6_nextLoose_53 : decode cX6_nextLoose 53 = .ok (.iconst 0, 1) := by decide +kernel
theorem dX6_nextLoose_54 : decode cX6_nextLoose 54 = .ok (.iload_n 2, 1) := by decide +kernel
theorem dX6_nextLoose_55 : decode cX6_nextLoose 55 = .ok (.if_icmp .ne 5, 3) := by decide +kernel
theorem dX6_nextLoose_58 : decode cX6_nextLoose 58 = .ok (.iload_n 3, 1) := by decide +kernel
theorem dX6_nextLoose_59 : decode cX6_nextLoose 59 = .ok (.ireturn, 1) := by decide +kernel
theorem dX6_nextLoose_60 : decode cX6_nextLoose 60 = .ok (.iinc 3 1, 3) := by decide +kernel
theorem dX6_nextLoose_63 : decode cX6_nextLoose 63 = .ok (.goto (-61), 3) := by decide +kernel
theorem dX6_nextLoose_66 : decode cX6_nextLoose 66 = .ok (.iconst (-1), 1) := by decide +kernel
theorem dX6_nextLoose_67 : decode cX6_nextLoose 67 = .ok (.ireturn, 1) := by decide +kernel
theorem dX6_takes_0 : decode cX6_takes 0 = .ok (.aload_n 0, 1) := by decide +kernel
theorem dX6_takes_1 : decode cX6_takes 1 = .ok (.iload_n 1, 1) := by decide +kernel
theorem dX6_takes_2 : decode cX6_takes 2 = .ok (.iconst 1, 1) := by decide +kernel
theorem dX6_takes_3 : decode cX6_takes 3 = .ok (.invokevirtual 142, 3) := by decide +kernel
theorem dX6_takes_6 : decode cX6_takes 6 = .ok (.istore_n 2, 1) := by decide +kernel
theorem dX6_takes_7 : decode cX6_takes 7 = .ok (.aload_n 0, 1) := by decide +kernel
theorem dX6_takes_8 : decode cX6_takes 8 = .ok (.getfield 7, 3) := by decide +kernel
theorem dX6_takes_11 : decode cX6_takes 11 = .ok (.bipush 7, 2) := by decide +kernel
theorem dX6_takes_13 : decode cX6_takes 13 = .ok (.iaload, 1) := by decide +kernel
theorem dX6_takes_14 : decode cX6_takes 14 = .ok (.bipush 40, 2) := by decide +kernel
theorem dX6_takes_16 : decode cX6_takes 16 = .ok (.if_icmp .ge 66, 3) := by decide +kernel
theorem dX6_takes_19 : decode cX6_takes 19 = .ok (.aload_n 0, 1) := by decide +kernel
theorem dX6_takes_20 : decode cX6_takes 20 = .ok (.getfield 7, 3) := by decide +kernel
theorem dX6_takes_23 : decode cX6_takes 23 = .ok (.bipush 106, 2) := by decide +kernel
theorem dX6_takes_25 : decode cX6_takes 25 = .ok (.iconst 3, 1) := by decide +kernel
theorem dX6_takes_26 : decode cX6_takes 26 = .ok (.aload_n 0, 1) := by decide +kernel
theorem dX6_takes_27 : decode cX6_takes 27 = .ok (.getfield 7, 3) := by decide +kernel
theorem dX6_takes_30 : decode cX6_takes 30 = .ok (.bipush 7, 2) := by decide +kernel
theorem dX6_takes_32 : decode cX6_takes 32 = .ok (.iaload, 1) := by decide +kernel
theorem dX6_takes_33 : decode cX6_takes 33 = .ok (.imul, 1) := by decide +kernel
theorem dX6_takes_34 : decode cX6_takes 34 = .ok (.iadd, 1) := by decide +kernel
theorem dX6_takes_35 : decode cX6_takes 35 = .ok (.iload_n 1, 1) := by decide +kernel
theorem dX6_takes_36 : decode cX6_takes 36 = .ok (.iastore, 1) := by decide +kernel
theorem dX6_takes_37 : decode cX6_takes 37 = .ok (.aload_n 0, 1) := by decide +kernel
theorem dX6_takes_38 : decode cX6_takes 38 = .ok (.getfield 7, 3) := by decide +kernel
theorem dX6_takes_41 : decode cX6_takes 41 = .ok (.bipush 106, 2) := by decide +kernel
theorem dX6_takes_43 : decode cX6_takes 43 = .ok (.iconst 3, 1) := by decide +kernel
theorem dX6_takes_44 : decode cX6_takes 44 = .ok (.aload_n 0, 1) := by decide +kernel
theorem dX6_takes_45 : decode cX6_takes 45 = .ok (.getfield 7, 3) := by decide +kernel
theorem dX6_takes_48 : decode cX6_takes 48 = .ok (.bipush 7, 2) := by decide +kernel
theorem dX6_takes_50 : decode cX6_takes 50 = .ok (.iaload, 1) := by decide +kernel
theorem dX6_takes_51 : decode cX6_takes 51 = .ok (.imul, 1) := by decide +kernel
theorem dX6_takes_52 : decode cX6_takes 52 = .ok (.iadd, 1) := by decide +kernel
theorem dX6_takes_53 : decode cX6_takes 53 = .ok (.iconst 1, 1) := by decide +kernel
theorem dX6_takes_54 : decode cX6_takes 54 = .ok (.iadd, 1) := by decide +kernel
theorem dX6_takes_55 : decode cX6_takes 55 = .ok (.iload_n 2, 1) := by decide +kernel
theorem dX6_takes_56 : decode cX6_takes 56 = .ok (.iastore, 1) := by decide +kernel
theorem dX6_takes_57 : decode cX6_takes 57 = .ok (.aload_n 0, 1) := by decide +kernel
theorem dX6_takes_58 : decode cX6_takes 58 = .ok (.getfield 7, 3) := by decide +kernel
theorem dX6_takes_61 : decode cX6_takes 61 = .ok (.bipush 106, 2) := by decide +kernel
theorem dX6_takes_63 : decode cX6_takes 63 = .ok (.iconst 3, 1) := by decide +kernel
theorem dX6_takes_64 : decode cX6_takes 64 = .ok (.aload_n 0, 1) := by decide +kernel
theorem dX6_takes_65 : decode cX6_takes 65 = .ok (.getfield 7, 3) := by decide +kernel
theorem dX6_takes_68 : decode cX6_takes 68 = .ok (.bipush 7, 2) := by decide +kernel
theorem dX6_takes_70 : decode cX6_takes 70 = .ok (.iaload, 1) := by decide +kernel
theorem dX6_takes_71 : decode cX6_takes 71 = .ok (.imul, 1) := by decide +kernel
theorem dX6_takes_72 : decode cX6_takes 72 = .ok (.iadd, 1) := by decide +kernel
theorem dX6_takes_73 : decode cX6_takes 73 = .ok (.iconst 2, 1) := by decide +kernel
theorem dX6_takes_74 : decode cX6_takes 74 = .ok (.iadd, 1) := by decide +kernel
theorem dX6_takes_75 : decode cX6_takes 75 = .ok (.aload_n 0, 1) := by decide +kernel
theorem dX6_takes_76 : decode cX6_takes 76 = .ok (.getfield 7, 3) := by decide +kernel
theorem dX6_takes_79 : decode cX6_takes 79 = .ok (.iconst 3, 1) := by decide +kernel
theorem dX6_takes_80 : decode cX6_takes 80 = .ok (.iaload, 1) := by decide +kernel
theorem dX6_takes_81 : decode cX6_takes 81 = .ok (.iastore, 1) := by decide +kernel
theorem dX6_takes_82 : decode cX6_takes 82 = .ok (.aload_n 0, 1) := by decide +kernel
theorem dX6_takes_83 : decode cX6_takes 83 = .ok (.getfield 7, 3) := by decide +kernel
theorem dX6_takes_86 : decode cX6_takes 86 = .ok (.bipush 7, 2) := by decide +kernel
theorem dX6_takes_88 : decode cX6_takes 88 = .ok (.dup2, 1) := by decide +kernel
theorem dX6_takes_89 : decode cX6_takes 89 = .ok (.iaload, 1) := by decide +kernel
theorem dX6_takes_90 : decode cX6_takes 90 = .ok (.iconst 1, 1) := by decide +kernel
theorem dX6_takes_91 : decode cX6_takes 91 = .ok (.iadd, 1) := by decide +kernel
theorem dX6_takes_92 : decode cX6_takes 92 = .ok (.iastore, 1) := by decide +kernel
theorem dX6_takes_93 : decode cX6_takes 93 = .ok (.aload_n 0, 1) := by decide +kernel
theorem dX6_takes_94 : decode cX6_takes 94 = .ok (.getfield 7, 3) := by decide +kernel
theorem dX6_takes_97 : decode cX6_takes 97 = .ok (.iconst 5, 1) := by decide +kernel
theorem dX6_takes_98 : decode cX6_takes 98 = .ok (.dup2, 1) := by decide +kernel
theorem dX6_takes_99 : decode cX6_takes 99 = .ok (.iaload, 1) := by decide +kernel
theorem dX6_takes_100 : decode cX6_takes 100 = .ok (.iload_n 2, 1) := by decide +kernel
theorem dX6_takes_101 : decode cX6_takes 101 = .ok (.iadd, 1) := by decide +kernel
theorem dX6_takes_102 : decode cX6_takes 102 = .ok (.iastore, 1) := by decide +kernel
theorem dX6_takes_103 : decode cX6_takes 103 = .ok (.iconst 0, 1) := by decide +kernel
theorem dX6_takes_104 : decode cX6_takes 104 = .ok (.istore_n 3, 1) := by decide +kernel
theorem dX6_takes_105 : decode cX6_takes 105 = .ok (.iload_n 3, 1) := by decide +kernel
theorem dX6_takes_106 : decode cX6_takes 106 = .ok (.aload_n 0, 1) := by decide +kernel
theorem dX6_takes_107 : decode cX6_takes 107 = .ok (.invokevirtual 45, 3) := by decide +kernel
theorem dX6_takes_110 : decode cX6_takes 110 = .ok (.if_icmp .ge 41, 3) := by decide +kernel
theorem dX6_takes_113 : decode cX6_takes 113 = .ok (.aload_n 0, 1) := by decide +kernel
theorem dX6_takes_114 : decode cX6_takes 114 = .ok (.getfield 7, 3) := by decide +kernel
theorem dX6_takes_117 : decode cX6_takes 117 = .ok (.bipush 8, 2) := by decide +kernel
theorem dX6_takes_119 : decode cX6_takes 119 = .ok (.iload_n 3, 1) := by decide +kernel
theorem dX6_takes_120 : decode cX6_takes 120 = .ok (.iadd, 1) := by decide +kernel
theorem dX6_takes_121 : decode cX6_takes 121 = .ok (.aload_n 0, 1) := by decide +kernel
theorem dX6_takes_122 : decode cX6_takes 122 = .ok (.getfield 19, 3) := by decide +kernel
theorem dX6_takes_125 : decode cX6_takes 125 = .ok (.iload_n 3, 1) := by decide +kernel
theorem dX6_takes_126 : decode cX6_takes 126 = .ok (.iaload, 1) := by decide +kernel
theorem dX6_takes_127 : decode cX6_takes 127 = .ok (.iload_n 1, 1) := by decide +kernel
theorem dX6_takes_128 : decode cX6_takes 128 = .ok (.if_icmp .ne 7, 3) := by decide +kernel
theorem dX6_takes_131 : decode cX6_takes 131 = .ok (.iconst 0, 1) := by decide +kernel
theorem dX6_takes_132 : decode cX6_takes 132 = .ok (.goto 12, 3) := by decide +kernel
theorem dX6_takes_135 : decode cX6_takes 135 = .ok (.aload_n 0, 1) := by decide +kernel
theorem dX6_takes_136 : decode cX6_takes 136 = .ok (.getfield 7, 3) := by decide +kernel
theorem dX6_takes_139 : decode cX6_takes 139 = .ok (.bipush 8, 2) := by decide +kernel
theorem dX6_takes_141 : decode cX6_takes 141 = .ok (.iload_n 3, 1) := by decide +kernel
theorem dX6_takes_142 : decode cX6_takes 142 = .ok (.iadd, 1) := by decide +kernel
theorem dX6_takes_143 : decode cX6_takes 143 = .ok (.iaload, 1) := by decide +kernel
theorem dX6_takes_144 : decode cX6_takes 144 = .ok (.iastore, 1) := by decide +kernel
theorem dX6_takes_145 : decode cX6_takes 145 = .ok (.iinc 3 1, 3) := by decide +kernel
theorem dX6_takes_148 : decode cX6_takes 148 = .ok (.goto (-43), 3) := by decide +kernel
theorem dX6_takes_151 : decode cX6_takes 151 = .ok (.return_, 1) := by decide +kernel
theorem dX6_takeOut_0 : decode cX6_takeOut 0 = .ok (.aload_n 0, 1) := by decide +kernel
theorem dX6_takeOut_1 : decode cX6_takeOut 1 = .ok (.iload_n 1, 1) := by decide +kernel
theorem dX6_takeOut_2 : decode cX6_takeOut 2 = .ok (.invokevirtual 69, 3) := by decide +kernel
theorem dX6_takeOut_5 : decode cX6_takeOut 5 = .ok (.ifCond .ne 9, 3) := by decide +kernel
theorem dX6_takeOut_8 : decode cX6_takeOut 8 = .ok (.aload_n 0, 1) := by decide +kernel
theorem dX6_takeOut_9 : decode cX6_takeOut 9 = .ok (.iconst 1, 1) := by decide +kernel
theorem dX6_takeOut_10 : decode cX6_takeOut 10 = .ok (.invokevirtual 59, 3) := by decide +kernel
theorem dX6_takeOut_13 : decode cX6_takeOut 13 = .ok (.ireturn, 1) := by decide +kernel
theorem dX6_takeOut_14 : decode cX6_takeOut 14 = .ok (.aload_n 0, 1) := by decide +kernel
theorem dX6_takeOut_15 : decode cX6_takeOut 15 = .ok (.invokevirtual 146, 3) := by decide +kernel
theorem dX6_takeOut_18 : decode cX6_takeOut 18 = .ok (.aload_n 0, 1) := by decide +kernel
theorem dX6_takeOut_19 : decode cX6_takeOut 19 = .ok (.getfield 19, 3) := by decide +kernel
theorem dX6_takeOut_22 : decode cX6_takeOut 22 = .ok (.iload_n 1, 1) := by decide +kernel
theorem dX6_takeOut_23 : decode cX6_takeOut 23 = .ok (.iaload, 1) := by decide +kernel
theorem dX6_takeOut_24 : decode cX6_takeOut 24 = .ok (.istore_n 2, 1) := by decide +kernel
theorem dX6_takeOut_25 : decode cX6_takeOut 25 = .ok (.iload_n 2, 1) := by decide +kernel
theorem dX6_takeOut_26 : decode cX6_takeOut 26 = .ok (.iconst (-1), 1) := by decide +kernel
theorem dX6_takeOut_27 : decode cX6_takeOut 27 = .ok (.if_icmp .eq 12, 3) := by decide +kernel
theorem dX6_takeOut_30 : decode cX6_takeOut 30 = .ok (.aload_n 0, 1) := by decide +kernel
theorem dX6_takeOut_31 : decode cX6_takeOut 31 = .ok (.iload_n 2, 1) := by decide +kernel
theorem dX6_takeOut_32 : decode cX6_takeOut 32 = .ok (.invokevirtual 139, 3) := by decide +kernel
theorem dX6_takeOut_35 : decode cX6_takeOut 35 = .ok (.iconst (-1), 1) := by decide +kernel
theorem dX6_takeOut_36 : decode cX6_takeOut 36 = .ok (.if_icmp .ne 9, 3) := by decide +kernel
theorem dX6_takeOut_39 : decode cX6_takeOut 39 = .ok (.aload_n 0, 1) := by decide +kernel
theorem dX6_takeOut_40 : decode cX6_takeOut 40 = .ok (.iconst 2, 1) := by decide +kernel
theorem dX6_takeOut_41 : decode cX6_takeOut 41 = .ok (.invokevirtual 59, 3) := by decide +kernel
theorem dX6_takeOut_44 : decode cX6_takeOut 44 = .ok (.ireturn, 1) := by decide +kernel
theorem dX6_takeOut_45 : decode cX6_takeOut 45 = .ok (.aload_n 0, 1) := by decide +kernel
theorem dX6_takeOut_46 : decode cX6_takeOut 46 = .ok (.invokevirtual 63, 3) := by decide +kernel
theorem dX6_takeOut_49 : decode cX6_takeOut 49 = .ok (.aload_n 0, 1) := by decide +kernel
theorem dX6_takeOut_50 : decode cX6_takeOut 50 = .ok (.iload_n 2, 1) := by decide +kernel
theorem dX6_takeOut_51 : decode cX6_takeOut 51 = .ok (.iconst 1, 1) := by decide +kernel
theorem dX6_takeOut_52 : decode cX6_takeOut 52 = .ok (.invokevirtual 142, 3) := by decide +kernel
theorem dX6_takeOut_55 : decode cX6_takeOut 55 = .ok (.istore_n 3, 1) := by decide +kernel
theorem dX6_takeOut_56 : decode cX6_takeOut 56 = .ok (.aload_n 0, 1) := by decide +kernel
theorem dX6_takeOut_57 : decode cX6_takeOut 57 = .ok (.iload_n 2, 1) := by decide +kernel
theorem dX6_takeOut_58 : decode cX6_takeOut 58 = .ok (.invokevirtual 149, 3) := by decide +kernel
theorem dX6_takeOut_61 : decode cX6_takeOut 61 = .ok (.aload_n 0, 1) := by decide +kernel
theorem dX6_takeOut_62 : decode cX6_takeOut 62 = .ok (.iload_n 3, 1) := by decide +kernel
theorem dX6_takeOut_63 : decode cX6_takeOut 63 = .ok (.invokevirtual 66, 3) := by decide +kernel
theorem dX6_takeOut_66 : decode cX6_takeOut 66 = .ok (.ireturn, 1) := by decide +kernel
theorem dX6_takesAll_0 : decode cX6_takesAll 0 = .ok (.iconst 0, 1) := by decide +kernel
theorem dX6_takesAll_1 : decode cX6_takesAll 1 = .ok (.istore_n 1, 1) := by decide +kernel
theorem dX6_takesAll_2 : decode cX6_takesAll 2 = .ok (.iconst 0, 1) := by decide +kernel
theorem dX6_takesAll_3 : decode cX6_takesAll 3 = .ok (.istore_n 2, 1) := by decide +kernel
theorem dX6_takesAll_4 : decode cX6_takesAll 4 = .ok (.iload_n 2, 1) := by decide +kernel
theorem dX6_takesAll_5 : decode cX6_takesAll 5 = .ok (.iconst (-1), 1) := by decide +kernel
theorem dX6_takesAll_6 : decode cX6_takesAll 6 = .ok (.if_icmp .eq 30, 3) := by decide +kernel
theorem dX6_takesAll_9 : decode cX6_takesAll 9 = .ok (.aload_n 0, 1) := by decide +kernel
theorem dX6_takesAll_10 : decode cX6_takesAll 10 = .ok (.invokevirtual 146, 3) := by decide +kernel
theorem dX6_takesAll_13 : decode cX6_takesAll 13 = .ok (.aload_n 0, 1) := by decide +kernel
theorem dX6_takesAll_14 : decode cX6_takesAll 14 = .ok (.iconst 0, 1) := by decide +kernel
theorem dX6_takesAll_15 : decode cX6_takesAll 15 = .ok (.iconst 1, 1) := by decide +kernel
theorem dX6_takesAll_16 : decode cX6_takesAll 16 = .ok (.invokevirtual 152, 3) := by decide +kernel
theorem dX6_takesAll_19 : decode cX6_takesAll 19 = .ok (.istore_n 2, 1) := by decide +kernel
theorem dX6_takesAll_20 : decode cX6_takesAll 20 = .ok (.iload_n 2, 1) := by decide +kernel
theorem dX6_takesAll_21 : decode cX6_takesAll 21 = .ok (.iconst (-1), 1) := by decide +kernel
theorem dX6_takesAll_22 : decode cX6_takesAll 22 = .ok (.if_icmp .eq (-18), 3) := by decide +kernel
theorem dX6_takesAll_25 : decode cX6_takesAll 25 = .ok (.aload_n 0, 1) := by decide +kernel
theorem dX6_takesAll_26 : decode cX6_takesAll 26 = .ok (.iload_n 2, 1) := by decide +kernel
theorem dX6_takesAll_27 : decode cX6_takesAll 27 = .ok (.invokevirtual 149, 3) := by decide +kernel
theorem dX6_takesAll_30 : decode cX6_takesAll 30 = .ok (.iinc 1 1, 3) := by decide +kernel
theorem dX6_takesAll_33 : decode cX6_takesAll 33 = .ok (.goto (-29), 3) := by decide +kernel
theorem dX6_takesAll_36 : decode cX6_takesAll 36 = .ok (.iload_n 1, 1) := by decide +kernel
theorem dX6_takesAll_37 : decode cX6_takesAll 37 = .ok (.ireturn, 1) := by decide +kernel
theorem dX6_takeAll_0 : decode cX6_takeAll 0 = .ok (.aload_n 0, 1) := by decide +kernel
theorem dX6_takeAll_1 : decode cX6_takeAll 1 = .ok (.invokevirtual 63, 3) := by decide +kernel
theorem dX6_takeAll_4 : decode cX6_takeAll 4 = .ok (.aload_n 0, 1) := by decide +kernel
theorem dX6_takeAll_5 : decode cX6_takeAll 5 = .ok (.aload_n 0, 1) := by decide +kernel
theorem dX6_takeAll_6 : decode cX6_takeAll 6 = .ok (.invokevirtual 155, 3) := by decide +kernel
theorem dX6_takeAll_9 : decode cX6_takeAll 9 = .ok (.invokevirtual 66, 3) := by decide +kernel
theorem dX6_takeAll_12 : decode cX6_takeAll 12 = .ok (.ireturn, 1) := by decide +kernel
theorem dX6_setMelt_0 : decode cX6_setMelt 0 = .ok (.iload_n 1, 1) := by decide +kernel
theorem dX6_setMelt_1 : decode cX6_setMelt 1 = .ok (.i2l, 1) := by decide +kernel
theorem dX6_setMelt_2 : decode cX6_setMelt 2 = .ok (.lconst 0, 1) := by decide +kernel
theorem dX6_setMelt_3 : decode cX6_setMelt 3 = .ok (.ldc2_w 158, 3) := by decide +kernel
theorem dX6_setMelt_6 : decode cX6_setMelt 6 = .ok (.invokestatic 49, 3) := by decide +kernel
theorem dX6_setMelt_9 : decode cX6_setMelt 9 = .ok (.ifCond .ne 9, 3) := by decide +kernel
theorem dX6_setMelt_12 : decode cX6_setMelt 12 = .ok (.aload_n 0, 1) := by decide +kernel
theorem dX6_setMelt_13 : decode cX6_setMelt 13 = .ok (.iconst 1, 1) := by decide +kernel
theorem dX6_setMelt_14 : decode cX6_setMelt 14 = .ok (.invokevirtual 59, 3) := by decide +kernel
theorem dX6_setMelt_17 : decode cX6_setMelt 17 = .ok (.ireturn, 1) := by decide +kernel
theorem dX6_setMelt_18 : decode cX6_setMelt 18 = .ok (.aload_n 0, 1) := by decide +kernel
theorem dX6_setMelt_19 : decode cX6_setMelt 19 = .ok (.invokevirtual 63, 3) := by decide +kernel
theorem dX6_setMelt_22 : decode cX6_setMelt 22 = .ok (.aload_n 0, 1) := by decide +kernel
theorem dX6_setMelt_23 : decode cX6_setMelt 23 = .ok (.getfield 7, 3) := by decide +kernel
theorem dX6_setMelt_26 : decode cX6_setMelt 26 = .ok (.iconst 2, 1) := by decide +kernel
theorem dX6_setMelt_27 : decode cX6_setMelt 27 = .ok (.iaload, 1) := by decide +kernel
theorem dX6_setMelt_28 : decode cX6_setMelt 28 = .ok (.istore_n 2, 1) := by decide +kernel
theorem dX6_setMelt_29 : decode cX6_setMelt 29 = .ok (.aload_n 0, 1) := by decide +kernel
theorem dX6_setMelt_30 : decode cX6_setMelt 30 = .ok (.getfield 7, 3) := by decide +kernel
theorem dX6_setMelt_33 : decode cX6_setMelt 33 = .ok (.iconst 2, 1) := by decide +kernel
theorem dX6_setMelt_34 : decode cX6_setMelt 34 = .ok (.iload_n 1, 1) := by decide +kernel
theorem dX6_setMelt_35 : decode cX6_setMelt 35 = .ok (.iastore, 1) := by decide +kernel
theorem dX6_setMelt_36 : decode cX6_setMelt 36 = .ok (.aload_n 0, 1) := by decide +kernel
theorem dX6_setMelt_37 : decode cX6_setMelt 37 = .ok (.iload_n 2, 1) := by decide +kernel
theorem dX6_setMelt_38 : decode cX6_setMelt 38 = .ok (.invokevirtual 66, 3) := by decide +kernel
theorem dX6_setMelt_41 : decode cX6_setMelt 41 = .ok (.ireturn, 1) := by decide +kernel
theorem dX6_waterBeside_0 : decode cX6_waterBeside 0 = .ok (.aload_n 0, 1) := by decide +kernel
theorem dX6_waterBeside_1 : decode cX6_waterBeside 1 = .ok (.getfield 7, 3) := by decide +kernel
theorem dX6_waterBeside_4 : decode cX6_waterBeside 4 = .ok (.iconst 0, 1) := by decide +kernel
theorem dX6_waterBeside_5 : decode cX6_waterBeside 5 = .ok (.iaload, 1) := by decide +kernel
theorem dX6_waterBeside_6 : decode cX6_waterBeside 6 = .ok (.istore_n 2, 1) := by decide +kernel
theorem dX6_waterBeside_7 : decode cX6_waterBeside 7 = .ok (.aload_n 0, 1) := by decide +kernel
theorem dX6_waterBeside_8 : decode cX6_waterBeside 8 = .ok (.iload_n 1, 1) := by decide +kernel
theorem dX6_waterBeside_9 : decode cX6_waterBeside 9 = .ok (.invokevirtual 76, 3) := by decide +kernel
theorem dX6_waterBeside_12 : decode cX6_waterBeside 12 = .ok (.aload_n 0, 1) := by decide +kernel
theorem dX6_waterBeside_13 : decode cX6_waterBeside 13 = .ok (.getfield 7, 3) := by decide +kernel
theorem dX6_waterBeside_16 : decode cX6_waterBeside 16 = .ok (.iconst 1, 1) := by decide +kernel
theorem dX6_waterBeside_17 : decode cX6_waterBeside 17 = .ok (.iaload, 1) := by decide +kernel
theorem dX6_waterBeside_18 : decode cX6_waterBeside 18 = .ok (.iconst 1, 1) := by decide +kernel
theorem dX6_waterBeside_19 : decode cX6_waterBeside 19 = .ok (.isub, 1) := by decide +kernel
theorem dX6_waterBeside_20 : decode cX6_waterBeside 20 = .ok (.if_icmp .eq 13, 3) := by decide +kernel
theorem dX6_waterBeside_23 : decode cX6_waterBeside 23 = .ok (.aload_n 0, 1) := by decide +kernel
theorem dX6_waterBeside_24 : decode cX6_waterBeside 24 = .ok (.iload_n 1, 1) := by decide +kernel
theorem dX6_waterBeside_25 : decode cX6_waterBeside 25 = .ok (.iload_n 2, 1) := by decide +kernel
theorem dX6_waterBeside_26 : decode cX6_waterBeside 26 = .ok (.iadd, 1) := by decide +kernel
theorem dX6_waterBeside_27 : decode cX6_waterBeside 27 = .ok (.invokevirtual 112, 3) := by decide +kernel
theorem dX6_waterBeside_30 : decode cX6_waterBeside 30 = .ok (.ifCond .ne 7, 3) := by decide +kernel
theorem dX6_waterBeside_33 : decode cX6_waterBeside 33 = .ok (.iconst 1, 1) := by decide +kernel
theorem dX6_waterBeside_34 : decode cX6_waterBeside 34 = .ok (.goto 4, 3) := by decide +kernel
theorem dX6_waterBeside_37 : decode cX6_waterBeside 37 = .ok (.iconst 0, 1) := by decide +kernel
theorem dX6_waterBeside_38 : decode cX6_waterBeside 38 = .ok (.istore_n 3, 1) := by decide +kernel
theorem dX6_waterBeside_39 : decode cX6_waterBeside 39 = .ok (.iload_n 3, 1) := by decide +kernel
theorem dX6_waterBeside_40 : decode cX6_waterBeside 40 = .ok (.aload_n 0, 1) := by decide +kernel
theorem dX6_waterBeside_41 : decode cX6_waterBeside 41 = .ok (.iload_n 1, 1) := by decide +kernel
theorem dX6_waterBeside_42 : decode cX6_waterBeside 42 = .ok (.invokevirtual 76, 3) := by decide +kernel
theorem dX6_waterBeside_45 : decode cX6_waterBeside 45 = .ok (.ifCond .le 17, 3) := by decide +kernel
theorem dX6_waterBeside_48 : decode cX6_waterBeside 48 = .ok (.aload_n 0, 1) := by decide +kernel
theorem dX6_waterBeside_49 : decode cX6_waterBeside 49 = .ok (.iload_n 1, 1) := by decide +kernel
theorem dX6_waterBeside_50 : decode cX6_waterBeside 50 = .ok (.iload_n 2, 1) := by decide +kernel
theorem dX6_waterBeside_51 : decode cX6_waterBeside 51 = .ok (.isub, 1) := by decide +kernel
theorem dX6_waterBeside_52 : decode cX6_waterBeside 52 = .ok (.invokevirtual 112, 3) := by decide +kernel
theorem dX6_waterBeside_55 : decode cX6_waterBeside 55 = .ok (.ifCond .ne 7, 3) := by decide +kernel
theorem dX6_waterBeside_58 : decode cX6_waterBeside 58 = .ok (.iconst 1, 1) := by decide +kernel
theorem dX6_waterBeside_59 : decode cX6_waterBeside 59 = .ok (.goto 4, 3) := by decide +kernel
theorem dX6_waterBeside_62 : decode cX6_waterBeside 62 = .ok (.iconst 0, 1) := by decide +kernel
theorem dX6_waterBeside_63 : decode cX6_waterBeside 63 = .ok (.iadd, 1) := by decide +kernel
theorem dX6_waterBeside_64 : decode cX6_waterBeside 64 = .ok (.istore_n 3, 1) := by decide +kernel
theorem dX6_waterBeside_65 : decode cX6_waterBeside 65 = .ok (.iload_n 3, 1) := by decide +kernel
theorem dX6_waterBeside_66 : decode cX6_waterBeside 66 = .ok (.aload_n 0, 1) := by decide +kernel
theorem dX6_waterBeside_67 : decode cX6_waterBeside 67 = .ok (.iload_n 1, 1) := by decide +kernel
theorem dX6_waterBeside_68 : decode cX6_waterBeside 68 = .ok (.invokevirtual 73, 3) := by decide +kernel
theorem dX6_waterBeside_71 : decode cX6_waterBeside 71 = .ok (.ifCond .le 17, 3) := by decide +kernel
theorem dX6_waterBeside_74 : decode cX6_waterBeside 74 = .ok (.aload_n 0, 1) := by decide +kernel
theorem dX6_waterBeside_75 : decode cX6_waterBeside 75 = .ok (.iload_n 1, 1) := by decide +kernel
theorem dX6_waterBeside_76 : decode cX6_waterBeside 76 = .ok (.iconst 1, 1) := by decide +kernel
theorem dX6_waterBeside_77 : decode cX6_waterBeside 77 = .ok (.isub, 1) := by decide +kernel
theorem dX6_waterBeside_78 : decode cX6_waterBeside 78 = .ok (.invokevirtual 112, 3) := by decide +kernel
theorem dX6_waterBeside_81 : decode cX6_waterBeside 81 = .ok (.ifCond .ne 7, 3) := by decide +kernel
theorem dX6_waterBeside_84 : decode cX6_waterBeside 84 = .ok (.iconst 1, 1) := by decide +kernel
theorem dX6_waterBeside_85 : decode cX6_waterBeside 85 = .ok (.goto 4, 3) := by decide +kernel
theorem dX6_waterBeside_88 : decode cX6_waterBeside 88 = .ok (.iconst 0, 1) := by decide +kernel
theorem dX6_waterBeside_89 : decode cX6_waterBeside 89 = .ok (.iadd, 1) := by decide +kernel
theorem dX6_waterBeside_90 : decode cX6_waterBeside 90 = .ok (.istore_n 3, 1) := by decide +kernel
theorem dX6_waterBeside_91 : decode cX6_waterBeside 91 = .ok (.iload_n 3, 1) := by decide +kernel
theorem dX6_waterBeside_92 : decode cX6_waterBeside 92 = .ok (.aload_n 0, 1) := by decide +kernel
theorem dX6_waterBeside_93 : decode cX6_waterBeside 93 = .ok (.iload_n 1, 1) := by decide +kernel
theorem dX6_waterBeside_94 : decode cX6_waterBeside 94 = .ok (.invokevirtual 73, 3) := by decide +kernel
theorem dX6_waterBeside_97 : decode cX6_waterBeside 97 = .ok (.iload_n 2, 1) := by decide +kernel
theorem dX6_waterBeside_98 : decode cX6_waterBeside 98 = .ok (.iconst 1, 1) := by decide +kernel
theorem dX6_waterBeside_99 : decode cX6_waterBeside 99 = .ok (.isub, 1) := by decide +kernel
theorem dX6_waterBeside_100 : decode cX6_waterBeside 100 = .ok (.if_icmp .ge 17, 3) := by decide +kernel
theorem dX6_waterBeside_103 : decode cX6_waterBeside 103 = .ok (.aload_n 0, 1) := by decide +kernel
theorem dX6_waterBeside_104 : decode cX6_waterBeside 104 = .ok (.iload_n 1, 1) := by decide +kernel
theorem dX6_waterBeside_105 : decode cX6_waterBeside 105 = .ok (.iconst 1, 1) := by decide +kernel
theorem dX6_waterBeside_106 : decode cX6_waterBeside 106 = .ok (.iadd, 1) := by decide +kernel
theorem dX6_waterBeside_107 : decode cX6_waterBeside 107 = .ok (.invokevirtual 112, 3) := by decide +kernel
theorem dX6_waterBeside_110 : decode cX6_waterBeside 110 = .ok (.ifCond .ne 7, 3) := by decide +kernel
theorem dX6_waterBeside_113 : decode cX6_waterBeside 113 = .ok (.iconst 1, 1) := by decide +kernel
theorem dX6_waterBeside_114 : decode cX6_waterBeside 114 = .ok (.goto 4, 3) := by decide +kernel
theorem dX6_waterBeside_117 : decode cX6_waterBeside 117 = .ok (.iconst 0, 1) := by decide +kernel
theorem dX6_waterBeside_118 : decode cX6_waterBeside 118 = .ok (.iadd, 1) := by decide +kernel
theorem dX6_waterBeside_119 : decode cX6_waterBeside 119 = .ok (.ireturn, 1) := by decide +kernel
theorem dX6_day_0 : decode cX6_day 0 = .ok (.iconst 0, 1) := by decide +kernel
theorem dX6_day_1 : decode cX6_day 1 = .ok (.istore_n 1, 1) := by decide +kernel
theorem dX6_day_2 : decode cX6_day 2 = .ok (.iconst 0, 1) := by decide +kernel
theorem dX6_day_3 : decode cX6_day 3 = .ok (.istore_n 2, 1) := by decide +kernel
theorem dX6_day_4 : decode cX6_day 4 = .ok (.iload_n 2, 1) := by decide +kernel
theorem dX6_day_5 : decode cX6_day 5 = .ok (.aload_n 0, 1) := by decide +kernel
theorem dX6_day_6 : decode cX6_day 6 = .ok (.invokevirtual 45, 3) := by decide +kernel
theorem dX6_day_9 : decode cX6_day 9 = .ok (.if_icmp .ge 72, 3) := by decide +kernel
theorem dX6_day_12 : decode cX6_day 12 = .ok (.aload_n 0, 1) := by decide +kernel
theorem dX6_day_13 : decode cX6_day 13 = .ok (.getfield 7, 3) := by decide +kernel
theorem dX6_day_16 : decode cX6_day 16 = .ok (.iconst 2, 1) := by decide +kernel
theorem dX6_day_17 : decode cX6_day 17 = .ok (.iaload, 1) := by decide +kernel
theorem dX6_day_18 : decode cX6_day 18 = .ok (.aload_n 0, 1) := by decide +kernel
theorem dX6_day_19 : decode cX6_day 19 = .ok (.iload_n 2, 1) := by decide +kernel
theorem dX6_day_20 : decode cX6_day 20 = .ok (.invokevirtual 160, 3) := by decide +kernel
theorem dX6_day_23 : decode cX6_day 23 = .ok (.iconst 1, 1) := by decide +kernel
theorem dX6_day_24 : decode cX6_day 24 = .ok (.if_icmp .le 7, 3) := by decide +kernel
theorem dX6_day_27 : decode cX6_day 27 = .ok (.iconst 1, 1) := by decide +kernel
theorem dX6_day_28 : decode cX6_day 28 = .ok (.goto 4, 3) := by decide +kernel
theorem dX6_day_31 : decode cX6_day 31 = .ok (.iconst 0, 1) := by decide +kernel
theorem dX6_day_32 : decode cX6_day 32 = .ok (.iadd, 1) := by decide +kernel
theorem dX6_day_33 : decode cX6_day 33 = .ok (.istore_n 3, 1) := by decide +kernel
theorem dX6_day_34 : decode cX6_day 34 = .ok (.aload_n 0, 1) := by decide +kernel
theorem dX6_day_35 : decode cX6_day 35 = .ok (.getfield 25, 3) := by decide +kernel
theorem dX6_day_38 : decode cX6_day 38 = .ok (.iload_n 2, 1) := by decide +kernel
theorem dX6_day_39 : decode cX6_day 39 = .ok (.iload_n 3, 1) := by decide +kernel
theorem dX6_day_40 : decode cX6_day 40 = .ok (.aload_n 0, 1) := by decide +kernel
theorem dX6_day_41 : decode cX6_day 41 = .ok (.getfield 7, 3) := by decide +kernel
theorem dX6_day_44 : decode cX6_day 44 = .ok (.bipush 8, 2) := by decide +kernel
theorem dX6_day_46 : decode cX6_day 46 = .ok (.iload_n 2, 1) := by decide +kernel
theorem dX6_day_47 : decode cX6_day 47 = .ok (.iadd, 1) := by decide +kernel
theorem dX6_day_48 : decode cX6_day 48 = .ok (.iaload, 1) := by decide +kernel
theorem dX6_day_49 : decode cX6_day 49 = .ok (.if_icmp .ge 7, 3) := by decide +kernel
theorem dX6_day_52 : decode cX6_day 52 = .ok (.iload_n 3, 1) := by decide +kernel
theorem dX6_day_53 : decode cX6_day 53 = .ok (.goto 12, 3) := by decide +kernel
theorem dX6_day_56 : decode cX6_day 56 = .ok (.aload_n 0, 1) := by decide +kernel
theorem dX6_day_57 : decode cX6_day 57 = .ok (.getfield 7, 3) := by decide +kernel
theorem dX6_day_60 : decode cX6_day 60 = .ok (.bipush 8, 2) := by decide +kernel
theorem dX6_day_62 : decode cX6_day 62 = .ok (.iload_n 2, 1) := by decide +kernel
theorem dX6_day_63 : decode cX6_day 63 = .ok (.iadd, 1) := by decide +kernel
theorem dX6_day_64 : decode cX6_day 64 = .ok (.iaload, 1) := by decide +kernel
theorem dX6_day_65 : decode cX6_day 65 = .ok (.iastore, 1) := by decide +kernel
theorem dX6_day_66 : decode cX6_day 66 = .ok (.iload_n 1, 1) := by decide +kernel
theorem dX6_day_67 : decode cX6_day 67 = .ok (.aload_n 0, 1) := by decide +kernel
theorem dX6_day_68 : decode cX6_day 68 = .ok (.getfield 25, 3) := by decide +kernel
theorem dX6_day_71 : decode cX6_day 71 = .ok (.iload_n 2, 1) := by decide +kernel
theorem dX6_day_72 : decode cX6_day 72 = .ok (.iaload, 1) := by decide +kernel
theorem dX6_day_73 : decode cX6_day 73 = .ok (.iadd, 1) := by decide +kernel
theorem dX6_day_74 : decode cX6_day 74 = .ok (.istore_n 1, 1) := by decide +kernel
theorem dX6_day_75 : decode cX6_day 75 = .ok (.iinc 2 1, 3) := by decide +kernel
theorem dX6_day_78 : decode cX6_day 78 = .ok (.goto (-74), 3) := by decide +kernel
theorem dX6_day_81 : decode cX6_day 81 = .ok (.iconst 0, 1) := by decide +kernel
theorem dX6_day_82 : decode cX6_day 82 = .ok (.istore_n 2, 1) := by decide +kernel
theorem dX6_day_83 : decode cX6_day 83 = .ok (.iload_n 2, 1) := by decide +kernel
theorem dX6_day_84 : decode cX6_day 84 = .ok (.aload_n 0, 1) := by decide +kernel
theorem dX6_day_85 : decode cX6_day 85 = .ok (.invokevirtual 45, 3) := by decide +kernel
theorem dX6_day_88 : decode cX6_day 88 = .ok (.if_icmp .ge 27, 3) := by decide +kernel
theorem dX6_day_91 : decode cX6_day 91 = .ok (.aload_n 0, 1) := by decide +kernel
theorem dX6_day_92 : decode cX6_day 92 = .ok (.getfield 7, 3) := by decide +kernel
theorem dX6_day_95 : decode cX6_day 95 = .ok (.bipush 8, 2) := by decide +kernel
theorem dX6_day_97 : decode cX6_day 97 = .ok (.iload_n 2, 1) := by decide +kernel
theorem dX6_day_98 : decode cX6_day 98 = .ok (.iadd, 1) := by decide +kernel
theorem dX6_day_99 : decode cX6_day 99 = .ok (.dup2, 1) := by decide +kernel
theorem dX6_day_100 : decode cX6_day 100 = .ok (.iaload, 1) := by decide +kernel
theorem dX6_day_101 : decode cX6_day 101 = .ok (.aload_n 0, 1) := by decide +kernel
theorem dX6_day_102 : decode cX6_day 102 = .ok (.getfield 25, 3) := by decide +kernel
theorem dX6_day_105 : decode cX6_day 105 = .ok (.iload_n 2, 1) := by decide +kernel
theorem dX6_day_106 : decode cX6_day 106 = .ok (.iaload, 1) := by decide +kernel
theorem dX6_day_107 : decode cX6_day 107 = .ok (.isub, 1) := by decide +kernel
theorem dX6_day_108 : decode cX6_day 108 = .ok (.iastore, 1) := by decide +kernel
theorem dX6_day_109 : decode cX6_day 109 = .ok (.iinc 2 1, 3) := by decide +kernel
theorem dX6_day_112 : decode cX6_day 112 = .ok (.goto (-29), 3) := by decide +kernel
theorem dX6_day_115 : decode cX6_day 115 = .ok (.aload_n 0, 1) := by decide +kernel
theorem dX6_day_116 : decode cX6_day 116 = .ok (.getfield 7, 3) := by decide +kernel
theorem dX6_day_119 : decode cX6_day 119 = .ok (.bipush 6, 2) := by decide +kernel
theorem dX6_day_121 : decode cX6_day 121 = .ok (.dup2, 1) := by decide +kernel
theorem dX6_day_122 : decode cX6_day 122 = .ok (.iaload, 1) := by decide +kernel
theorem dX6_day_123 : decode cX6_day 123 = .ok (.iload_n 1, 1) := by decide +kernel
theorem dX6_day_124 : decode cX6_day 124 = .ok (.iadd, 1) := by decide +kernel
theorem dX6_day_125 : decode cX6_day 125 = .ok (.iastore, 1) := by decide +kernel
theorem dX6_day_126 : decode cX6_day 126 = .ok (.aload_n 0, 1) := by decide +kernel
theorem dX6_day_127 : decode cX6_day 127 = .ok (.getfield 7, 3) := by decide +kernel
theorem dX6_day_130 : decode cX6_day 130 = .ok (.iconst 3, 1) := by decide +kernel
theorem dX6_day_131 : decode cX6_day 131 = .ok (.dup2, 1) := by decide +kernel
theorem dX6_day_132 : decode cX6_day 132 = .ok (.iaload, 1) := by decide +kernel
theorem dX6_day_133 : decode cX6_day 133 = .ok (.iconst 1, 1) := by decide +kernel
theorem dX6_day_134 : decode cX6_day 134 = .ok (.iadd, 1) := by decide +kernel
theorem dX6_day_135 : decode cX6_day 135 = .ok (.iastore, 1) := by decide +kernel
theorem dX6_day_136 : decode cX6_day 136 = .ok (.iload_n 1, 1) := by decide +kernel
theorem dX6_day_137 : decode cX6_day 137 = .ok (.ireturn, 1) := by decide +kernel
theorem dX6_pass_0 : decode cX6_pass 0 = .ok (.iload_n 1, 1) := by decide +kernel
theorem dX6_pass_1 : decode cX6_pass 1 = .ok (.i2l, 1) := by decide +kernel
theorem dX6_pass_2 : decode cX6_pass 2 = .ok (.lconst 1, 1) := by decide +kernel
theorem dX6_pass_3 : decode cX6_pass 3 = .ok (.ldc2_w 57, 3) := by decide +kernel
theorem dX6_pass_6 : decode cX6_pass 6 = .ok (.invokestatic 49, 3) := by decide +kernel
theorem dX6_pass_9 : decode cX6_pass 9 = .ok (.ifCond .ne 9, 3) := by decide +kernel
theorem dX6_pass_12 : decode cX6_pass 12 = .ok (.aload_n 0, 1) := by decide +kernel
theorem dX6_pass_13 : decode cX6_pass 13 = .ok (.iconst 1, 1) := by decide +kernel
theorem dX6_pass_14 : decode cX6_pass 14 = .ok (.invokevirtual 59, 3) := by decide +kernel
theorem dX6_pass_17 : decode cX6_pass 17 = .ok (.ireturn, 1) := by decide +kernel
theorem dX6_pass_18 : decode cX6_pass 18 = .ok (.aload_n 0, 1) := by decide +kernel
theorem dX6_pass_19 : decode cX6_pass 19 = .ok (.invokevirtual 63, 3) := by decide +kernel
theorem dX6_pass_22 : decode cX6_pass 22 = .ok (.iconst 0, 1) := by decide +kernel
theorem dX6_pass_23 : decode cX6_pass 23 = .ok (.istore_n 2, 1) := by decide +kernel
theorem dX6_pass_24 : decode cX6_pass 24 = .ok (.iconst 0, 1) := by decide +kernel
theorem dX6_pass_25 : decode cX6_pass 25 = .ok (.istore_n 3, 1) := by decide +kernel
theorem dX6_pass_26 : decode cX6_pass 26 = .ok (.iload_n 3, 1) := by decide +kernel
theorem dX6_pass_27 : decode cX6_pass 27 = .ok (.iload_n 1, 1) := by decide +kernel
theorem dX6_pass_28 : decode cX6_pass 28 = .ok (.if_icmp .ge 16, 3) := by decide +kernel
theorem dX6_pass_31 : decode cX6_pass 31 = .ok (.iload_n 2, 1) := by decide +kernel
theorem dX6_pass_32 : decode cX6_pass 32 = .ok (.aload_n 0, 1) := by decide +kernel
theorem dX6_pass_33 : decode cX6_pass 33 = .ok (.invokevirtual 163, 3) := by decide +kernel
theorem dX6_pass_36 : decode cX6_pass 36 = .ok (.iadd, 1) := by decide +kernel
theorem dX6_pass_37 : decode cX6_pass 37 = .ok (.istore_n 2, 1) := by decide +kernel
theorem dX6_pass_38 : decode cX6_pass 38 = .ok (.iinc 3 1, 3) := by decide +kernel
theorem dX6_pass_41 : decode cX6_pass 41 = .ok (.goto (-15), 3) := by decide +kernel
theorem dX6_pass_44 : decode cX6_pass 44 = .ok (.aload_n 0, 1) := by decide +kernel
theorem dX6_pass_45 : decode cX6_pass 45 = .ok (.iload_n 2, 1) := by decide +kernel
theorem dX6_pass_46 : decode cX6_pass 46 = .ok (.invokevirtual 66, 3) := by decide +kernel
theorem dX6_pass_49 : decode cX6_pass 49 = .ok (.ireturn, 1) := by decide +kernel
theorem dX6_cellOf_0 : decode cX6_cellOf 0 = .ok (.iload_n 2, 1) := by decide +kernel
theorem dX6_cellOf_1 : decode cX6_cellOf 1 = .ok (.lookupswitch 58 #[(0, 35), (5, 45), (6, 52)], 35) := by decide +kernel
theorem dX6_cellOf_36 : decode cX6_cellOf 36 = .ok (.aload_n 0, 1) := by decide +kernel
theorem dX6_cellOf_37 : decode cX6_cellOf 37 = .ok (.getfield 7, 3) := by decide +kernel
theorem dX6_cellOf_40 : decode cX6_cellOf 40 = .ok (.bipush 8, 2) := by decide +kernel
theorem dX6_cellOf_42 : decode cX6_cellOf 42 = .ok (.iload_n 1, 1) := by decide +kernel
theorem dX6_cellOf_43 : decode cX6_cellOf 43 = .ok (.iadd, 1) := by decide +kernel
theorem dX6_cellOf_44 : decode cX6_cellOf 44 = .ok (.iaload, 1) := by decide +kernel
theorem dX6_cellOf_45 : decode cX6_cellOf 45 = .ok (.ireturn, 1) := by decide +kernel
theorem dX6_cellOf_46 : decode cX6_cellOf 46 = .ok (.aload_n 0, 1) := by decide +kernel
theorem dX6_cellOf_47 : decode cX6_cellOf 47 = .ok (.getfield 19, 3) := by decide +kernel
theorem dX6_cellOf_50 : decode cX6_cellOf 50 = .ok (.iload_n 1, 1) := by decide +kernel
theorem dX6_cellOf_51 : decode cX6_cellOf 51 = .ok (.iaload, 1) := by decide +kernel
theorem dX6_cellOf_52 : decode cX6_cellOf 52 = .ok (.ireturn, 1) := by decide +kernel
theorem dX6_cellOf_53 : decode cX6_cellOf 53 = .ok (.aload_n 0, 1) := by decide +kernel
theorem dX6_cellOf_54 : decode cX6_cellOf 54 = .ok (.iload_n 1, 1) := by decide +kernel
theorem dX6_cellOf_55 : decode cX6_cellOf 55 = .ok (.invokevirtual 160, 3) := by decide +kernel
theorem dX6_cellOf_58 : decode cX6_cellOf 58 = .ok (.ireturn, 1) := by decide +kernel
theorem dX6_cellOf_59 : decode cX6_cellOf 59 = .ok (.aload_n 0, 1) := by decide +kernel
theorem dX6_cellOf_60 : decode cX6_cellOf 60 = .ok (.iload_n 1, 1) := by decide +kernel
theorem dX6_cellOf_61 : decode cX6_cellOf 61 = .ok (.iload_n 2, 1) := by decide +kernel
theorem dX6_cellOf_62 : decode cX6_cellOf 62 = .ok (.iconst 1, 1) := by decide +kernel
theorem dX6_cellOf_63 : decode cX6_cellOf 63 = .ok (.isub, 1) := by decide +kernel
theorem dX6_cellOf_64 : decode cX6_cellOf 64 = .ok (.invokevirtual 90, 3) := by decide +kernel
theorem dX6_cellOf_67 : decode cX6_cellOf 67 = .ok (.ifCond .eq 7, 3) := by decide +kernel
theorem dX6_cellOf_70 : decode cX6_cellOf 70 = .ok (.iconst 1, 1) := by decide +kernel
theorem dX6_cellOf_71 : decode cX6_cellOf 71 = .ok (.goto 4, 3) := by decide +kernel
theorem dX6_cellOf_74 : decode cX6_cellOf 74 = .ok (.iconst 0, 1) := by decide +kernel
theorem dX6_cellOf_75 : decode cX6_cellOf 75 = .ok (.ireturn, 1) := by decide +kernel
theorem dX6_cell_0 : decode cX6_cell 0 = .ok (.aload_n 0, 1) := by decide +kernel
theorem dX6_cell_1 : decode cX6_cell 1 = .ok (.iload_n 1, 1) := by decide +kernel
theorem dX6_cell_2 : decode cX6_cell 2 = .ok (.invokevirtual 69, 3) := by decide +kernel
theorem dX6_cell_5 : decode cX6_cell 5 = .ok (.ifCond .ne 9, 3) := by decide +kernel
theorem dX6_cell_8 : decode cX6_cell 8 = .ok (.aload_n 0, 1) := by decide +kernel
theorem dX6_cell_9 : decode cX6_cell 9 = .ok (.iconst 1, 1) := by decide +kernel
theorem dX6_cell_10 : decode cX6_cell 10 = .ok (.invokevirtual 59, 3) := by decide +kernel
theorem dX6_cell_13 : decode cX6_cell 13 = .ok (.ireturn, 1) := by decide +kernel
theorem dX6_cell_14 : decode cX6_cell 14 = .ok (.iload_n 2, 1) := by decide +kernel
theorem dX6_cell_15 : decode cX6_cell 15 = .ok (.i2l, 1) := by decide +kernel
theorem dX6_cell_16 : decode cX6_cell 16 = .ok (.lconst 0, 1) := by decide +kernel
theorem dX6_cell_17 : decode cX6_cell 17 = .ok (.ldc2_w 166, 3) := by decide +kernel
theorem dX6_cell_20 : decode cX6_cell 20 = .ok (.invokestatic 49, 3) := by decide +kernel
theorem dX6_cell_23 : decode cX6_cell 23 = .ok (.ifCond .ne 9, 3) := by decide +kernel
theorem dX6_cell_26 : decode cX6_cell 26 = .ok (.aload_n 0, 1) := by decide +kernel
theorem dX6_cell_27 : decode cX6_cell 27 = .ok (.iconst 2, 1) := by decide +kernel
theorem dX6_cell_28 : decode cX6_cell 28 = .ok (.invokevirtual 59, 3) := by decide +kernel
theorem dX6_cell_31 : decode cX6_cell 31 = .ok (.ireturn, 1) := by decide +kernel
theorem dX6_cell_32 : decode cX6_cell 32 = .ok (.aload_n 0, 1) := by decide +kernel
theorem dX6_cell_33 : decode cX6_cell 33 = .ok (.invokevirtual 146, 3) := by decide +kernel
theorem dX6_cell_36 : decode cX6_cell 36 = .ok (.aload_n 0, 1) := by decide +kernel
theorem dX6_cell_37 : decode cX6_cell 37 = .ok (.aload_n 0, 1) := by decide +kernel
theorem dX6_cell_38 : decode cX6_cell 38 = .ok (.iload_n 1, 1) := by decide +kernel
theorem dX6_cell_39 : decode cX6_cell 39 = .ok (.iload_n 2, 1) := by decide +kernel
theorem dX6_cell_40 : decode cX6_cell 40 = .ok (.invokevirtual 168, 3) := by decide +kernel
theorem dX6_cell_43 : decode cX6_cell 43 = .ok (.invokevirtual 66, 3) := by decide +kernel
theorem dX6_cell_46 : decode cX6_cell 46 = .ok (.ireturn, 1) := by decide +kernel
theorem dX6_blockOf_0 : decode cX6_blockOf 0 = .ok (.aload_n 0, 1) := by decide +kernel
theorem dX6_blockOf_1 : decode cX6_blockOf 1 = .ok (.getfield 19, 3) := by decide +kernel
theorem dX6_blockOf_4 : decode cX6_blockOf 4 = .ok (.iload_n 1, 1) := by decide +kernel
theorem dX6_blockOf_5 : decode cX6_blockOf 5 = .ok (.iaload, 1) := by decide +kernel
theorem dX6_blockOf_6 : decode cX6_blockOf 6 = .ok (.istore_n 3, 1) := by decide +kernel
theorem dX6_blockOf_7 : decode cX6_blockOf 7 = .ok (.iload_n 3, 1) := by decide +kernel
theorem dX6_blockOf_8 : decode cX6_blockOf 8 = .ok (.iconst (-1), 1) := by decide +kernel
theorem dX6_blockOf_9 : decode cX6_blockOf 9 = .ok (.if_icmp .ne 5, 3) := by decide +kernel
theorem dX6_blockOf_12 : decode cX6_blockOf 12 = .ok (.iconst (-1), 1) := by decide +kernel
theorem dX6_blockOf_13 : decode cX6_blockOf 13 = .ok (.ireturn, 1) := by decide +kernel
theorem dX6_blockOf_14 : decode cX6_blockOf 14 = .ok (.iload_n 2, 1) := by decide +kernel
theorem dX6_blockOf_15 : decode cX6_blockOf 15 = .ok (.tableswitch 61 0 3 #[29, 31, 31, 47], 29) := by decide +kernel
theorem dX6_blockOf_44 : decode cX6_blockOf 44 = .ok (.iload_n 3, 1) := by decide +kernel
theorem dX6_blockOf_45 : decode cX6_blockOf 45 = .ok (.ireturn, 1) := by decide +kernel
theorem dX6_blockOf_46 : decode cX6_blockOf 46 = .ok (.aload_n 0, 1) := by decide +kernel
theorem dX6_blockOf_47 : decode cX6_blockOf 47 = .ok (.iload_n 3, 1) := by decide +kernel
theorem dX6_blockOf_48 : decode cX6_blockOf 48 = .ok (.iload_n 2, 1) := by decide +kernel
theorem dX6_blockOf_49 : decode cX6_blockOf 49 = .ok (.iconst 2, 1) := by decide +kernel
theorem dX6_blockOf_50 : decode cX6_blockOf 50 = .ok (.if_icmp .ne 7, 3) := by decide +kernel
theorem dX6_blockOf_53 : decode cX6_blockOf 53 = .ok (.iconst 1, 1) := by decide +kernel
theorem dX6_blockOf_54 : decode cX6_blockOf 54 = .ok (.goto 4, 3) := by decide +kernel
theorem dX6_blockOf_57 : decode cX6_blockOf 57 = .ok (.iconst 0, 1) := by decide +kernel
theorem dX6_blockOf_58 : decode cX6_blockOf 58 = .ok (.invokevirtual 142, 3) := by decide +kernel
theorem dX6_blockOf_61 : decode cX6_blockOf 61 = .ok (.ireturn, 1) := by decide +kernel
theorem dX6_blockOf_62 : decode cX6_blockOf 62 = .ok (.aload_n 0, 1) := by decide +kernel
theorem dX6_blockOf_63 : decode cX6_blockOf 63 = .ok (.iload_n 3, 1) := by decide +kernel
theorem dX6_blockOf_64 : decode cX6_blockOf 64 = .ok (.invokevirtual 132, 3) := by decide +kernel
theorem dX6_blockOf_67 : decode cX6_blockOf 67 = .ok (.ifCond .eq 7, 3) := by decide +kernel
theorem dX6_blockOf_70 : decode cX6_blockOf 70 = .ok (.iconst 1, 1) := by decide +kernel
theorem dX6_blockOf_71 : decode cX6_blockOf 71 = .ok (.goto 4, 3) := by decide +kernel
theorem dX6_blockOf_74 : decode cX6_blockOf 74 = .ok (.iconst 0, 1) := by decide +kernel
theorem dX6_blockOf_75 : decode cX6_blockOf 75 = .ok (.ireturn, 1) := by decide +kernel
theorem dX6_blockOf_76 : decode cX6_blockOf 76 = .ok (.aload_n 0, 1) := by decide +kernel
theorem dX6_blockOf_77 : decode cX6_blockOf 77 = .ok (.iload_n 3, 1) := by decide +kernel
theorem dX6_blockOf_78 : decode cX6_blockOf 78 = .ok (.invokevirtual 139, 3) := by decide +kernel
theorem dX6_blockOf_81 : decode cX6_blockOf 81 = .ok (.ireturn, 1) := by decide +kernel
theorem dX6_block_0 : decode cX6_block 0 = .ok (.aload_n 0, 1) := by decide +kernel
theorem dX6_block_1 : decode cX6_block 1 = .ok (.iload_n 1, 1) := by decide +kernel
theorem dX6_block_2 : decode cX6_block 2 = .ok (.invokevirtual 69, 3) := by decide +kernel
theorem dX6_block_5 : decode cX6_block 5 = .ok (.ifCond .ne 9, 3) := by decide +kernel
theorem dX6_block_8 : decode cX6_block 8 = .ok (.aload_n 0, 1) := by decide +kernel
theorem dX6_block_9 : decode cX6_block 9 = .ok (.iconst 1, 1) := by decide +kernel
theorem dX6_block_10 : decode cX6_block 10 = .ok (.invokevirtual 59, 3) := by decide +kernel
theorem dX6_block_13 : decode cX6_block 13 = .ok (.ireturn, 1) := by decide +kernel
theorem dX6_block_14 : decode cX6_block 14 = .ok (.iload_n 2, 1) := by decide +kernel
theorem dX6_block_15 : decode cX6_block 15 = .ok (.i2l, 1) := by decide +kernel
theorem dX6_block_16 : decode cX6_block 16 = .ok (.lconst 0, 1) := by decide +kernel
theorem dX6_block_17 : decode cX6_block 17 = .ok (.ldc2_w 171, 3) := by decide +kernel
theorem dX6_block_20 : decode cX6_block 20 = .ok (.invokestatic 49, 3) := by decide +kernel
theorem dX6_block_23 : decode cX6_block 23 = .ok (.ifCond .ne 9, 3) := by decide +kernel
theorem dX6_block_26 : decode cX6_block 26 = .ok (.aload_n 0, 1) := by decide +kernel
theorem dX6_block_27 : decode cX6_block 27 = .ok (.iconst 2, 1) := by decide +kernel
theorem dX6_block_28 : decode cX6_block 28 = .ok (.invokevirtual 59, 3) := by decide +kernel
theorem dX6_block_31 : decode cX6_block 31 = .ok (.ireturn, 1) := by decide +kernel
theorem dX6_block_32 : decode cX6_block 32 = .ok (.aload_n 0, 1) := by decide +kernel
theorem dX6_block_33 : decode cX6_block 33 = .ok (.invokevirtual 146, 3) := by decide +kernel
theorem dX6_block_36 : decode cX6_block 36 = .ok (.aload_n 0, 1) := by decide +kernel
theorem dX6_block_37 : decode cX6_block 37 = .ok (.aload_n 0, 1) := by decide +kernel
theorem dX6_block_38 : decode cX6_block 38 = .ok (.iload_n 1, 1) := by decide +kernel
theorem dX6_block_39 : decode cX6_block 39 = .ok (.iload_n 2, 1) := by decide +kernel
theorem dX6_block_40 : decode cX6_block 40 = .ok (.invokevirtual 173, 3) := by decide +kernel
theorem dX6_block_43 : decode cX6_block 43 = .ok (.invokevirtual 66, 3) := by decide +kernel
theorem dX6_block_46 : decode cX6_block 46 = .ok (.ireturn, 1) := by decide +kernel
theorem dX6_move_0 : decode cX6_move 0 = .ok (.aload_n 0, 1) := by decide +kernel
theorem dX6_move_1 : decode cX6_move 1 = .ok (.iload_n 1, 1) := by decide +kernel
theorem dX6_move_2 : decode cX6_move 2 = .ok (.invokevirtual 69, 3) := by decide +kernel
theorem dX6_move_5 : decode cX6_move 5 = .ok (.ifCond .eq 7, 3) := by decide +kernel
theorem dX6_move_8 : decode cX6_move 8 = .ok (.iload_n 2, 1) := by decide +kernel
theorem dX6_move_9 : decode cX6_move 9 = .ok (.ifCond .ge 9, 3) := by decide +kernel
theorem dX6_move_12 : decode cX6_move 12 = .ok (.aload_n 0, 1) := by decide +kernel
theorem dX6_move_13 : decode cX6_move 13 = .ok (.iconst 1, 1) := by decide +kernel
theorem dX6_move_14 : decode cX6_move 14 = .ok (.invokevirtual 59, 3) := by decide +kernel
theorem dX6_move_17 : decode cX6_move 17 = .ok (.ireturn, 1) := by decide +kernel
theorem dX6_move_18 : decode cX6_move 18 = .ok (.aload_n 0, 1) := by decide +kernel
theorem dX6_move_19 : decode cX6_move 19 = .ok (.invokevirtual 146, 3) := by decide +kernel
theorem dX6_move_22 : decode cX6_move 22 = .ok (.aload_n 0, 1) := by decide +kernel
theorem dX6_move_23 : decode cX6_move 23 = .ok (.getfield 19, 3) := by decide +kernel
theorem dX6_move_26 : decode cX6_move 26 = .ok (.iload_n 1, 1) := by decide +kernel
theorem dX6_move_27 : decode cX6_move 27 = .ok (.iaload, 1) := by decide +kernel
theorem dX6_move_28 : decode cX6_move 28 = .ok (.iconst (-1), 1) := by decide +kernel
theorem dX6_move_29 : decode cX6_move 29 = .ok (.if_icmp .ne 7, 3) := by decide +kernel
theorem dX6_move_32 : decode cX6_move 32 = .ok (.iconst (-1), 1) := by decide +kernel
theorem dX6_move_33 : decode cX6_move 33 = .ok (.goto 13, 3) := by decide +kernel
theorem dX6_move_36 : decode cX6_move 36 = .ok (.aload_n 0, 1) := by decide +kernel
theorem dX6_move_37 : decode cX6_move 37 = .ok (.aload_n 0, 1) := by decide +kernel
theorem dX6_move_38 : decode cX6_move 38 = .ok (.getfield 19, 3) := by decide +kernel
theorem dX6_move_41 : decode cX6_move 41 = .ok (.iload_n 1, 1) := by decide +kernel
theorem dX6_move_42 : decode cX6_move 42 = .ok (.iaload, 1) := by decide +kernel
theorem dX6_move_43 : decode cX6_move 43 = .ok (.invokevirtual 139, 3) := by decide +kernel
theorem dX6_move_46 : decode cX6_move 46 = .ok (.istore_n 3, 1) := by decide +kernel
theorem dX6_move_47 : decode cX6_move 47 = .ok (.bipush 112, 2) := by decide +kernel
theorem dX6_move_49 : decode cX6_move 49 = .ok (.istore 4, 2) := by decide +kernel
theorem dX6_move_51 : decode cX6_move 51 = .ok (.iconst (-1), 1) := by decide +kernel
theorem dX6_move_52 : decode cX6_move 52 = .ok (.istore 5, 2) := by decide +kernel
theorem dX6_move_54 : decode cX6_move 54 = .ok (.iconst 0, 1) := by decide +kernel
theorem dX6_move_55 : decode cX6_move 55 = .ok (.istore 6, 2) := by decide +kernel
theorem dX6_move_57 : decode cX6_move 57 = .ok (.iload 6, 2) := by decide +kernel
theorem dX6_move_59 : decode cX6_move 59 = .ok (.iload_n 2, 1) := by decide +kernel
theorem dX6_move_60 : decode cX6_move 60 = .ok (.if_icmp .gt 72, 3) := by decide +kernel
theorem dX6_move_63 : decode cX6_move 63 = .ok (.iload 6, 2) := by decide +kernel
theorem dX6_move_65 : decode cX6_move 65 = .ok (.iload_n 3, 1) := by decide +kernel
theorem dX6_move_66 : decode cX6_move 66 = .ok (.if_icmp .ge 66, 3) := by decide +kernel
theorem dX6_move_69 : decode cX6_move 69 = .ok (.iconst 0, 1) := by decide +kernel
theorem dX6_move_70 : decode cX6_move 70 = .ok (.istore 5, 2) := by decide +kernel
theorem dX6_move_72 : decode cX6_move 72 = .ok (.iload 4, 2) := by decide +kernel
theorem dX6_move_74 : decode cX6_move 74 = .ok (.iload 5, 2) := by decide +kernel
theorem dX6_move_76 : decode cX6_move 76 = .ok (.invokestatic 127, 3) := by decide +kernel
theorem dX6_move_79 : decode cX6_move 79 = .ok (.i2l, 1) := by decide +kernel
theorem dX6_move_80 : decode cX6_move 80 = .ok (.lconst 0, 1) := by decide +kernel
theorem dX6_move_81 : decode cX6_move 81 = .ok (.ldc2_w 130, 3) := by decide +kernel
theorem dX6_move_84 : decode cX6_move 84 = .ok (.invokestatic 49, 3) := by decide +kernel
theorem dX6_move_87 : decode cX6_move 87 = .ok (.ifCond .eq 24, 3) := by decide +kernel
theorem dX6_move_90 : decode cX6_move 90 = .ok (.aload_n 0, 1) := by decide +kernel
theorem dX6_move_91 : decode cX6_move 91 = .ok (.getfield 22, 3) := by decide +kernel
theorem dX6_move_94 : decode cX6_move 94 = .ok (.iload 4, 2) := by decide +kernel
theorem dX6_move_96 : decode cX6_move 96 = .ok (.iload 5, 2) := by decide +kernel
theorem dX6_move_98 : decode cX6_move 98 = .ok (.invokestatic 127, 3) := by decide +kernel
theorem dX6_move_101 : decode cX6_move 101 = .ok (.iaload, 1) := by decide +kernel
theorem dX6_move_102 : decode cX6_move 102 = .ok (.iload_n 3, 1) := by decide +kernel
theorem dX6_move_103 : decode cX6_move 103 = .ok (.iload 6, 2) := by decide +kernel
theorem dX6_move_105 : decode cX6_move 105 = .ok (.isub, 1) := by decide +kernel
theorem dX6_move_106 : decode cX6_move 106 = .ok (.iconst 1, 1) := by decide +kernel
theorem dX6_move_107 : decode cX6_move 107 = .ok (.isub, 1) := by decide +kernel
theorem dX6_move_108 : decode cX6_move 108 = .ok (.if_icmp .eq 9, 3) := by decide +kernel
theorem dX6_move_111 : decode cX6_move 111 = .ok (.iinc 5 1, 3) := by decide +kernel
theorem dX6_move_114 : decode cX6_move 114 = .ok (.goto (-42), 3) := by decide +kernel
theorem dX6_move_117 : decode cX6_move 117 = .ok (.iload 4, 2) := by decide +kernel
theorem dX6_move_119 : decode cX6_move 119 = .ok (.iload 5, 2) := by decide +kernel
theorem dX6_move_121 : decode cX6_move 121 = .ok (.invokestatic 127, 3) := by decide +kernel
theorem dX6_move_124 : decode cX6_move 124 = .ok (.istore 4, 2) := by decide +kernel
theorem dX6_move_126 : decode cX6_move 126 = .ok (.iinc 6 1, 3) := by decide +kernel
theorem dX6_move_129 : decode cX6_move 129 = .ok (.goto (-72), 3) := by decide +kernel
theorem dX6_move_132 : decode cX6_move 132 = .ok (.aload_n 0, 1) := by decide +kernel
theorem dX6_move_133 : decode cX6_move 133 = .ok (.iload_n 2, 1) := by decide +kernel
theorem dX6_move_134 : decode cX6_move 134 = .ok (.iload_n 3, 1) := by decide +kernel
theorem dX6_move_135 : decode cX6_move 135 = .ok (.if_icmp .ge 8, 3) := by decide +kernel
theorem dX6_move_138 : decode cX6_move 138 = .ok (.iload 5, 2) := by decide +kernel
theorem dX6_move_140 : decode cX6_move 140 = .ok (.goto 4, 3) := by decide +kernel
theorem dX6_move_143 : decode cX6_move 143 = .ok (.iconst (-1), 1) := by decide +kernel
theorem dX6_move_144 : decode cX6_move 144 = .ok (.invokevirtual 66, 3) := by decide +kernel
theorem dX6_move_147 : decode cX6_move 147 = .ok (.ireturn, 1) := by decide +kernel
theorem dX6_blocks_0 : decode cX6_blocks 0 = .ok (.iconst 0, 1) := by decide +kernel
theorem dX6_blocks_1 : decode cX6_blocks 1 = .ok (.istore_n 2, 1) := by decide +kernel
theorem dX6_blocks_2 : decode cX6_blocks 2 = .ok (.aload_n 0, 1) := by decide +kernel
theorem dX6_blocks_3 : decode cX6_blocks 3 = .ok (.invokevirtual 146, 3) := by decide +kernel
theorem dX6_blocks_6 : decode cX6_blocks 6 = .ok (.iconst 0, 1) := by decide +kernel
theorem dX6_blocks_7 : decode cX6_blocks 7 = .ok (.istore_n 3, 1) := by decide +kernel
theorem dX6_blocks_8 : decode cX6_blocks 8 = .ok (.iload_n 3, 1) := by decide +kernel
theorem dX6_blocks_9 : decode cX6_blocks 9 = .ok (.aload_n 0, 1) := by decide +kernel
theorem dX6_blocks_10 : decode cX6_blocks 10 = .ok (.invokevirtual 45, 3) := by decide +kernel
theorem dX6_blocks_13 : decode cX6_blocks 13 = .ok (.if_icmp .ge 65, 3) := by decide +kernel
theorem dX6_blocks_16 : decode cX6_blocks 16 = .ok (.aload_n 0, 1) := by decide +kernel
theorem dX6_blocks_17 : decode cX6_blocks 17 = .ok (.getfield 19, 3) := by decide +kernel
theorem dX6_blocks_20 : decode cX6_blocks 20 = .ok (.iload_n 3, 1) := by decide +kernel
theorem dX6_blocks_21 : decode cX6_blocks 21 = .ok (.iaload, 1) := by decide +kernel
theorem dX6_blocks_22 : decode cX6_blocks 22 = .ok (.iload_n 3, 1) := by decide +kernel
theorem dX6_blocks_23 : decode cX6_blocks 23 = .ok (.if_icmp .ne 19, 3) := by decide +kernel
theorem dX6_blocks_26 : decode cX6_blocks 26 = .ok (.iload_n 1, 1) := by decide +kernel
theorem dX6_blocks_27 : decode cX6_blocks 27 = .ok (.ifCond .eq 11, 3) := by decide +kernel
theorem dX6_blocks_30 : decode cX6_blocks 30 = .ok (.aload_n 0, 1) := by decide +kernel
theorem dX6_blocks_31 : decode cX6_blocks 31 = .ok (.iload_n 3, 1) := by decide +kernel
theorem dX6_blocks_32 : decode cX6_blocks 32 = .ok (.invokevirtual 132, 3) := by decide +kernel
theorem dX6_blocks_35 : decode cX6_blocks 35 = .ok (.ifCond .ne 7, 3) := by decide +kernel
theorem dX6_blocks_38 : decode cX6_blocks 38 = .ok (.iconst 1, 1) := by decide +kernel
theorem dX6_blocks_39 : decode cX6_blocks 39 = .ok (.goto 4, 3) := by decide +kernel
theorem dX6_blocks_42 : decode cX6_blocks 42 = .ok (.iconst 0, 1) := by decide +kernel
theorem dX6_blocks_43 : decode cX6_blocks 43 = .ok (.istore 4, 2) := by decide +kernel
theorem dX6_blocks_45 : decode cX6_blocks 45 = .ok (.iload_n 2, 1) := by decide +kernel
theorem dX6_blocks_46 : decode cX6_blocks 46 = .ok (.iload 4, 2) := by decide +kernel
theorem dX6_blocks_48 : decode cX6_blocks 48 = .ok (.ifCond .eq 21, 3) := by decide +kernel
theorem dX6_blocks_51 : decode cX6_blocks 51 = .ok (.iload_n 1, 1) := by decide +kernel
theorem dX6_blocks_52 : decode cX6_blocks 52 = .ok (.iconst 2, 1) := by decide +kernel
theorem dX6_blocks_53 : decode cX6_blocks 53 = .ok (.if_icmp .lt 12, 3) := by decide +kernel
theorem dX6_blocks_56 : decode cX6_blocks 56 = .ok (.aload_n 0, 1) := by decide +kernel
theorem dX6_blocks_57 : decode cX6_blocks 57 = .ok (.iload_n 3, 1) := by decide +kernel
theorem dX6_blocks_58 : decode cX6_blocks 58 = .ok (.invokevirtual 139, 3) := by decide +kernel
theorem dX6_blocks_61 : decode cX6_blocks 61 = .ok (.iconst (-1), 1) := by decide +kernel
theorem dX6_blocks_62 : decode cX6_blocks 62 = .ok (.if_icmp .ne 7, 3) := by decide +kernel
theorem dX6_blocks_65 : decode cX6_blocks 65 = .ok (.iconst 1, 1) := by decide +kernel
theorem dX6_blocks_66 : decode cX6_blocks 66 = .ok (.goto 4, 3) := by decide +kernel
theorem dX6_blocks_69 : decode cX6_blocks 69 = .ok (.iconst 0, 1) := by decide +kernel
theorem dX6_blocks_70 : decode cX6_blocks 70 = .ok (.iadd, 1) := by decide +kernel
theorem dX6_blocks_71 : decode cX6_blocks 71 = .ok (.istore_n 2, 1) := by decide +kernel
theorem dX6_blocks_72 : decode cX6_blocks 72 = .ok (.iinc 3 1, 3) := by decide +kernel
theorem dX6_blocks_75 : decode cX6_blocks 75 = .ok (.goto (-67), 3) := by decide +kernel
theorem dX6_blocks_78 : decode cX6_blocks 78 = .ok (.iload_n 2, 1) := by decide +kernel
theorem dX6_blocks_79 : decode cX6_blocks 79 = .ok (.ireturn, 1) := by decide +kernel
theorem dX6_sum_0 : decode cX6_sum 0 = .ok (.iconst 0, 1) := by decide +kernel
theorem dX6_sum_1 : decode cX6_sum 1 = .ok (.istore_n 2, 1) := by decide +kernel
theorem dX6_sum_2 : decode cX6_sum 2 = .ok (.iconst 0, 1) := by decide +kernel
theorem dX6_sum_3 : decode cX6_sum 3 = .ok (.istore_n 3, 1) := by decide +kernel
theorem dX6_sum_4 : decode cX6_sum 4 = .ok (.iload_n 3, 1) := by decide +kernel
theorem dX6_sum_5 : decode cX6_sum 5 = .ok (.aload_n 0, 1) := by decide +kernel
theorem dX6_sum_6 : decode cX6_sum 6 = .ok (.invokevirtual 45, 3) := by decide +kernel
theorem dX6_sum_9 : decode cX6_sum 9 = .ok (.if_icmp .ge 80, 3) := by decide +kernel
theorem dX6_sum_12 : decode cX6_sum 12 = .ok (.aload_n 0, 1) := by decide +kernel
theorem dX6_sum_13 : decode cX6_sum 13 = .ok (.getfield 7, 3) := by decide +kernel
theorem dX6_sum_16 : decode cX6_sum 16 = .ok (.bipush 57, 2) := by decide +kernel
theorem dX6_sum_18 : decode cX6_sum 18 = .ok (.iload_n 3, 1) := by decide +kernel
theorem dX6_sum_19 : decode cX6_sum 19 = .ok (.iadd, 1) := by decide +kernel
theorem dX6_sum_20 : decode cX6_sum 20 = .ok (.iaload, 1) := by decide +kernel
theorem dX6_sum_21 : decode cX6_sum 21 = .ok (.istore 4, 2) := by decide +kernel
theorem dX6_sum_23 : decode cX6_sum 23 = .ok (.iload_n 2, 1) := by decide +kernel
theorem dX6_sum_24 : decode cX6_sum 24 = .ok (.iload_n 1, 1) := by decide +kernel
theorem dX6_sum_25 : decode cX6_sum 25 = .ok (.bipush 10, 2) := by decide +kernel
theorem dX6_sum_27 : decode cX6_sum 27 = .ok (.if_icmp .ne 15, 3) := by decide +kernel
theorem dX6_sum_30 : decode cX6_sum 30 = .ok (.aload_n 0, 1) := by decide +kernel
theorem dX6_sum_31 : decode cX6_sum 31 = .ok (.getfield 7, 3) := by decide +kernel
theorem dX6_sum_34 : decode cX6_sum 34 = .ok (.bipush 8, 2) := by decide +kernel
theorem dX6_sum_36 : decode cX6_sum 36 = .ok (.iload_n 3, 1) := by decide +kernel
theorem dX6_sum_37 : decode cX6_sum 37 = .ok (.iadd, 1) := by decide +kernel
theorem dX6_sum_38 : decode cX6_sum 38 = .ok (.iaload, 1) := by decide +kernel
theorem dX6_sum_39 : decode cX6_sum 39 = .ok (.goto 42, 3) := by decide +kernel
theorem dX6_sum_42 : decode cX6_sum 42 = .ok (.iload_n 1, 1) := by decide +kernel
theorem dX6_sum_43 : decode cX6_sum 43 = .ok (.iconst 2, 1) := by decide +kernel
theorem dX6_sum_44 : decode cX6_sum 44 = .ok (.if_icmp .ne 19, 3) := by decide +kernel
theorem dX6_sum_47 : decode cX6_sum 47 = .ok (.aload_n 0, 1) := by decide +kernel
theorem dX6_sum_48 : decode cX6_sum 48 = .ok (.iload_n 3, 1) := by decide +kernel
theorem dX6_sum_49 : decode cX6_sum 49 = .ok (.invokevirtual 112, 3) := by decide +kernel
theorem dX6_sum_52 : decode cX6_sum 52 = .ok (.ifCond .eq 7, 3) := by decide +kernel
theorem dX6_sum_55 : decode cX6_sum 55 = .ok (.iconst 1, 1) := by decide +kernel
theorem dX6_sum_56 : decode cX6_sum 56 = .ok (.goto 25, 3) := by decide +kernel
theorem dX6_sum_59 : decode cX6_sum 59 = .ok (.iconst 0, 1) := by decide +kernel
theorem dX6_sum_60 : decode cX6_sum 60 = .ok (.goto 21, 3) := by decide +kernel
theorem dX6_sum_63 : decode cX6_sum 63 = .ok (.iload 4, 2) := by decide +kernel
theorem dX6_sum_65 : decode cX6_sum 65 = .ok (.iconst 1, 1) := by decide +kernel
theorem dX6_sum_66 : decode cX6_sum 66 = .ok (.iand, 1) := by decide +kernel
theorem dX6_sum_67 : decode cX6_sum 67 = .ok (.iload 4, 2) := by decide +kernel
theorem dX6_sum_69 : decode cX6_sum 69 = .ok (.iconst 1, 1) := by decide +kernel
theorem dX6_sum_70 : decode cX6_sum 70 = .ok (.ishr, 1) := by decide +kernel
theorem dX6_sum_71 : decode cX6_sum 71 = .ok (.iconst 1, 1) := by decide +kernel
theorem dX6_sum_72 : decode cX6_sum 72 = .ok (.iand, 1) := by decide +kernel
theorem dX6_sum_73 : decode cX6_sum 73 = .ok (.iadd, 1) := by decide +kernel
theorem dX6_sum_74 : decode cX6_sum 74 = .ok (.iload 4, 2) := by decide +kernel
theorem dX6_sum_76 : decode cX6_sum 76 = .ok (.iconst 2, 1) := by decide +kernel
theorem dX6_sum_77 : decode cX6_sum 77 = .ok (.ishr, 1) := by decide +kernel
theorem dX6_sum_78 : decode cX6_sum 78 = .ok (.iconst 1, 1) := by decide +kernel
theorem dX6_sum_79 : decode cX6_sum 79 = .ok (.iand, 1) := by decide +kernel
theorem dX6_sum_80 : decode cX6_sum 80 = .ok (.iadd, 1) := by decide +kernel
theorem dX6_sum_81 : decode cX6_sum 81 = .ok (.iadd, 1) := by decide +kernel
theorem dX6_sum_82 : decode cX6_sum 82 = .ok (.istore_n 2, 1) := by decide +kernel
theorem dX6_sum_83 : decode cX6_sum 83 = .ok (.iinc 3 1, 3) := by decide +kernel
theorem dX6_sum_86 : decode cX6_sum 86 = .ok (.goto (-82), 3) := by decide +kernel
theorem dX6_sum_89 : decode cX6_sum 89 = .ok (.iload_n 2, 1) := by decide +kernel
theorem dX6_sum_90 : decode cX6_sum 90 = .ok (.ireturn, 1) := by decide +kernel
theorem dX6_valueOf_0 : decode cX6_valueOf 0 = .ok (.iload_n 1, 1) := by decide +kernel
theorem dX6_valueOf_1 : decode cX6_valueOf 1 = .ok (.tableswitch 130 0 13 #[71, 71, 130, 78, 78, 78, 130, 86, 93, 100, 130, 107, 114, 122], 71) := by decide +kernel
theorem dX6_valueOf_72 : decode cX6_valueOf 72 = .ok (.aload_n 0, 1) := by decide +kernel
theorem dX6_valueOf_73 : decode cX6_valueOf 73 = .ok (.getfield 7, 3) := by decide +kernel
theorem dX6_valueOf_76 : decode cX6_valueOf 76 = .ok (.iload_n 1, 1) := by decide +kernel
theorem dX6_valueOf_77 : decode cX6_valueOf 77 = .ok (.iaload, 1) := by decide +kernel
theorem dX6_valueOf_78 : decode cX6_valueOf 78 = .ok (.ireturn, 1) := by decide +kernel
theorem dX6_valueOf_79 : decode cX6_valueOf 79 = .ok (.aload_n 0, 1) := by decide +kernel
theorem dX6_valueOf_80 : decode cX6_valueOf 80 = .ok (.iload_n 1, 1) := by decide +kernel
theorem dX6_valueOf_81 : decode cX6_valueOf 81 = .ok (.iconst 3, 1) := by decide +kernel
theorem dX6_valueOf_82 : decode cX6_valueOf 82 = .ok (.isub, 1) := by decide +kernel
theorem dX6_valueOf_83 : decode cX6_valueOf 83 = .ok (.invokevirtual 176, 3) := by decide +kernel
theorem dX6_valueOf_86 : decode cX6_valueOf 86 = .ok (.ireturn, 1) := by decide +kernel
theorem dX6_valueOf_87 : decode cX6_valueOf 87 = .ok (.aload_n 0, 1) := by decide +kernel
theorem dX6_valueOf_88 : decode cX6_valueOf 88 = .ok (.getfield 7, 3) := by decide +kernel
theorem dX6_valueOf_91 : decode cX6_valueOf 91 = .ok (.iconst 2, 1) := by decide +kernel
theorem dX6_valueOf_92 : decode cX6_valueOf 92 = .ok (.iaload, 1) := by decide +kernel
theorem dX6_valueOf_93 : decode cX6_valueOf 93 = .ok (.ireturn, 1) := by decide +kernel
theorem dX6_valueOf_94 : decode cX6_valueOf 94 = .ok (.aload_n 0, 1) := by decide +kernel
theorem dX6_valueOf_95 : decode cX6_valueOf 95 = .ok (.getfield 7, 3) := by decide +kernel
theorem dX6_valueOf_98 : decode cX6_valueOf 98 = .ok (.iconst 3, 1) := by decide +kernel
theorem dX6_valueOf_99 : decode cX6_valueOf 99 = .ok (.iaload, 1) := by decide +kernel
theorem dX6_valueOf_100 : decode cX6_valueOf 100 = .ok (.ireturn, 1) := by decide +kernel
theorem dX6_valueOf_101 : decode cX6_valueOf 101 = .ok (.aload_n 0, 1) := by decide +kernel
theorem dX6_valueOf_102 : decode cX6_valueOf 102 = .ok (.getfield 7, 3) := by decide +kernel
theorem dX6_valueOf_105 : decode cX6_valueOf 105 = .ok (.iconst 4, 1) := by decide +kernel
theorem dX6_valueOf_106 : decode cX6_valueOf 106 = .ok (.iaload, 1) := by decide +kernel
theorem dX6_valueOf_107 : decode cX6_valueOf 107 = .ok (.ireturn, 1) := by decide +kernel
theorem dX6_valueOf_108 : decode cX6_valueOf 108 = .ok (.aload_n 0, 1) := by decide +kernel
theorem dX6_valueOf_109 : decode cX6_valueOf 109 = .ok (.getfield 7, 3) := by decide +kernel
theorem dX6_valueOf_112 : decode cX6_valueOf 112 = .ok (.iconst 5, 1) := by decide +kernel
theorem dX6_valueOf_113 : decode cX6_valueOf 113 = .ok (.iaload, 1) := by decide +kernel
theorem dX6_valueOf_114 : decode cX6_valueOf 114 = .ok (.ireturn, 1) := by decide +kernel
theorem dX6_valueOf_115 : decode cX6_valueOf 115 = .ok (.aload_n 0, 1) := by decide +kernel
theorem dX6_valueOf_116 : decode cX6_valueOf 116 = .ok (.getfield 7, 3) := by decide +kernel
theorem dX6_valueOf_119 : decode cX6_valueOf 119 = .ok (.bipush 6, 2) := by decide +kernel
theorem dX6_valueOf_121 : decode cX6_valueOf 121 = .ok (.iaload, 1) := by decide +kernel
theorem dX6_valueOf_122 : decode cX6_valueOf 122 = .ok (.ireturn, 1) := by decide +kernel
theorem dX6_valueOf_123 : decode cX6_valueOf 123 = .ok (.aload_n 0, 1) := by decide +kernel
theorem dX6_valueOf_124 : decode cX6_valueOf 124 = .ok (.getfield 7, 3) := by decide +kernel
theorem dX6_valueOf_127 : decode cX6_valueOf 127 = .ok (.bipush 7, 2) := by decide +kernel
theorem dX6_valueOf_129 : decode cX6_valueOf 129 = .ok (.iaload, 1) := by decide +kernel
theorem dX6_valueOf_130 : decode cX6_valueOf 130 = .ok (.ireturn, 1) := by decide +kernel
theorem dX6_valueOf_131 : decode cX6_valueOf 131 = .ok (.aload_n 0, 1) := by decide +kernel
theorem dX6_valueOf_132 : decode cX6_valueOf 132 = .ok (.iload_n 1, 1) := by decide +kernel
theorem dX6_valueOf_133 : decode cX6_valueOf 133 = .ok (.invokevirtual 179, 3) := by decide +kernel
theorem dX6_valueOf_136 : decode cX6_valueOf 136 = .ok (.ireturn, 1) := by decide +kernel
theorem dX6_value_0 : decode cX6_value 0 = .ok (.iload_n 1, 1) := by decide +kernel
theorem dX6_value_1 : decode cX6_value 1 = .ok (.i2l, 1) := by decide +kernel
theorem dX6_value_2 : decode cX6_value 2 = .ok (.lconst 0, 1) := by decide +kernel
theorem dX6_value_3 : decode cX6_value 3 = .ok (.ldc2_w 182, 3) := by decide +kernel
theorem dX6_value_6 : decode cX6_value 6 = .ok (.invokestatic 49, 3) := by decide +kernel
theorem dX6_value_9 : decode cX6_value 9 = .ok (.ifCond .eq 15, 3) := by decide +kernel
theorem dX6_value_12 : decode cX6_value 12 = .ok (.aload_n 0, 1) := by decide +kernel
theorem dX6_value_13 : decode cX6_value 13 = .ok (.aload_n 0, 1) := by decide +kernel
theorem dX6_value_14 : decode cX6_value 14 = .ok (.iload_n 1, 1) := by decide +kernel
theorem dX6_value_15 : decode cX6_value 15 = .ok (.invokevirtual 184, 3) := by decide +kernel
theorem dX6_value_18 : decode cX6_value 18 = .ok (.invokevirtual 66, 3) := by decide +kernel
theorem dX6_value_21 : decode cX6_value 21 = .ok (.goto 8, 3) := by decide +kernel
theorem dX6_value_24 : decode cX6_value 24 = .ok (.aload_n 0, 1) := by decide +kernel
theorem dX6_value_25 : decode cX6_value 25 = .ok (.iconst 1, 1) := by decide +kernel
theorem dX6_value_26 : decode cX6_value 26 = .ok (.invokevirtual 59, 3) := by decide +kernel
theorem dX6_value_29 : decode cX6_value 29 = .ok (.ireturn, 1) := by decide +kernel
theorem dX6_kept_0 : decode cX6_kept 0 = .ok (.aload_n 0, 1) := by decide +kernel
theorem dX6_kept_1 : decode cX6_kept 1 = .ok (.getfield 7, 3) := by decide +kernel
theorem dX6_kept_4 : decode cX6_kept 4 = .ok (.bipush 7, 2) := by decide +kernel
theorem dX6_kept_6 : decode cX6_kept 6 = .ok (.iaload, 1) := by decide +kernel
theorem dX6_kept_7 : decode cX6_kept 7 = .ok (.bipush 40, 2) := by decide +kernel
theorem dX6_kept_9 : decode cX6_kept 9 = .ok (.if_icmp .ge 13, 3) := by decide +kernel
theorem dX6_kept_12 : decode cX6_kept 12 = .ok (.aload_n 0, 1) := by decide +kernel
theorem dX6_kept_13 : decode cX6_kept 13 = .ok (.getfield 7, 3) := by decide +kernel
theorem dX6_kept_16 : decode cX6_kept 16 = .ok (.bipush 7, 2) := by decide +kernel
theorem dX6_kept_18 : decode cX6_kept 18 = .ok (.iaload, 1) := by decide +kernel
theorem dX6_kept_19 : decode cX6_kept 19 = .ok (.goto 5, 3) := by decide +kernel
theorem dX6_kept_22 : decode cX6_kept 22 = .ok (.bipush 40, 2) := by decide +kernel
theorem dX6_kept_24 : decode cX6_kept 24 = .ok (.ireturn, 1) := by decide +kernel
theorem dX6_taken_0 : decode cX6_taken 0 = .ok (.iload_n 1, 1) := by decide +kernel
theorem dX6_taken_1 : decode cX6_taken 1 = .ok (.i2l, 1) := by decide +kernel
theorem dX6_taken_2 : decode cX6_taken 2 = .ok (.lconst 0, 1) := by decide +kernel
theorem dX6_taken_3 : decode cX6_taken 3 = .ok (.aload_n 0, 1) := by decide +kernel
theorem dX6_taken_4 : decode cX6_taken 4 = .ok (.invokevirtual 187, 3) := by decide +kernel
theorem dX6_taken_7 : decode cX6_taken 7 = .ok (.i2l, 1) := by decide +kernel
theorem dX6_taken_8 : decode cX6_taken 8 = .ok (.lconst 1, 1) := by decide +kernel
theorem dX6_taken_9 : decode cX6_taken 9 = .ok (.lsub, 1) := by decide +kernel
theorem dX6_taken_10 : decode cX6_taken 10 = .ok (.invokestatic 49, 3) := by decide +kernel
theorem dX6_taken_13 : decode cX6_taken 13 = .ok (.ifCond .ne 9, 3) := by decide +kernel
theorem dX6_taken_16 : decode cX6_taken 16 = .ok (.aload_n 0, 1) := by decide +kernel
theorem dX6_taken_17 : decode cX6_taken 17 = .ok (.iconst 1, 1) := by decide +kernel
theorem dX6_taken_18 : decode cX6_taken 18 = .ok (.invokevirtual 59, 3) := by decide +kernel
theorem dX6_taken_21 : decode cX6_taken 21 = .ok (.ireturn, 1) := by decide +kernel
theorem dX6_taken_22 : decode cX6_taken 22 = .ok (.iload_n 2, 1) := by decide +kernel
theorem dX6_taken_23 : decode cX6_taken 23 = .ok (.i2l, 1) := by decide +kernel
theorem dX6_taken_24 : decode cX6_taken 24 = .ok (.lconst 0, 1) := by decide +kernel
theorem dX6_taken_25 : decode cX6_taken 25 = .ok (.ldc2_w 53, 3) := by decide +kernel
theorem dX6_taken_28 : decode cX6_taken 28 = .ok (.invokestatic 49, 3) := by decide +kernel
theorem dX6_taken_31 : decode cX6_taken 31 = .ok (.ifCond .eq 23, 3) := by decide +kernel
theorem dX6_taken_34 : decode cX6_taken 34 = .ok (.aload_n 0, 1) := by decide +kernel
theorem dX6_taken_35 : decode cX6_taken 35 = .ok (.aload_n 0, 1) := by decide +kernel
theorem dX6_taken_36 : decode cX6_taken 36 = .ok (.getfield 7, 3) := by decide +kernel
theorem dX6_taken_39 : decode cX6_taken 39 = .ok (.bipush 106, 2) := by decide +kernel
theorem dX6_taken_41 : decode cX6_taken 41 = .ok (.iconst 3, 1) := by decide +kernel
theorem dX6_taken_42 : decode cX6_taken 42 = .ok (.iload_n 1, 1) := by decide +kernel
theorem dX6_taken_43 : decode cX6_taken 43 = .ok (.imul, 1) := by decide +kernel
theorem dX6_taken_44 : decode cX6_taken 44 = .ok (.iadd, 1) := by decide +kernel
theorem dX6_taken_45 : decode cX6_taken 45 = .ok (.iload_n 2, 1) := by decide +kernel
theorem dX6_taken_46 : decode cX6_taken 46 = .ok (.iadd, 1) := by decide +kernel
theorem dX6_taken_47 : decode cX6_taken 47 = .ok (.iaload, 1) := by decide +kernel
theorem dX6_taken_48 : decode cX6_taken 48 = .ok (.invokevirtual 66, 3) := by decide +kernel
theorem dX6_taken_51 : decode cX6_taken 51 = .ok (.goto 8, 3) := by decide +kernel
theorem dX6_taken_54 : decode cX6_taken 54 = .ok (.aload_n 0, 1) := by decide +kernel
theorem dX6_taken_55 : decode cX6_taken 55 = .ok (.iconst 2, 1) := by decide +kernel
theorem dX6_taken_56 : decode cX6_taken 56 = .ok (.invokevirtual 59, 3) := by decide +kernel
theorem dX6_taken_59 : decode cX6_taken 59 = .ok (.ireturn, 1) := by decide +kernel
theorem dX6_takableNow_0 : decode cX6_takableNow 0 = .ok (.aload_n 0, 1) := by decide +kernel
theorem dX6_takableNow_1 : decode cX6_takableNow 1 = .ok (.invokevirtual 106, 3) := by decide +kernel
theorem dX6_takableNow_4 : decode cX6_takableNow 4 = .ok (.aload_n 0, 1) := by decide +kernel
theorem dX6_takableNow_5 : decode cX6_takableNow 5 = .ok (.invokevirtual 155, 3) := by decide +kernel
theorem dX6_takableNow_8 : decode cX6_takableNow 8 = .ok (.istore_n 1, 1) := by decide +kernel
theorem dX6_takableNow_9 : decode cX6_takableNow 9 = .ok (.aload_n 0, 1) := by decide +kernel
theorem dX6_takableNow_10 : decode cX6_takableNow 10 = .ok (.invokevirtual 109, 3) := by decide +kernel
theorem dX6_takableNow_13 : decode cX6_takableNow 13 = .ok (.iload_n 1, 1) := by decide +kernel
theorem dX6_takableNow_14 : decode cX6_takableNow 14 = .ok (.ireturn, 1) := by decide +kernel
theorem dX6_takable_0 : decode cX6_takable 0 = .ok (.aload_n 0, 1) := by decide +kernel
theorem dX6_takable_1 : decode cX6_takable 1 = .ok (.aload_n 0, 1) := by decide +kernel
theorem dX6_takable_2 : decode cX6_takable 2 = .ok (.invokevirtual 190, 3) := by decide +kernel
theorem dX6_takable_5 : decode cX6_takable 5 = .ok (.invokevirtual 66, 3) := by decide +kernel
theorem dX6_takable_8 : decode cX6_takable 8 = .ok (.ireturn, 1) := by decide +kernel
theorem dX6_leftStranded_0 : decode cX6_leftStranded 0 = .ok (.aload_n 0, 1) := by decide +kernel
theorem dX6_leftStranded_1 : decode cX6_leftStranded 1 = .ok (.invokevirtual 106, 3) := by decide +kernel
theorem dX6_leftStranded_4 : decode cX6_leftStranded 4 = .ok (.aload_n 0, 1) := by decide +kernel
theorem dX6_leftStranded_5 : decode cX6_leftStranded 5 = .ok (.invokevirtual 155, 3) := by decide +kernel
theorem dX6_leftStranded_8 : decode cX6_leftStranded 8 = .ok (.istore_n 1, 1) := by decide +kernel
theorem dX6_leftStranded_9 : decode cX6_leftStranded 9 = .ok (.aload_n 0, 1) := by decide +kernel
theorem dX6_leftStranded_10 : decode cX6_leftStranded 10 = .ok (.iconst 1, 1) := by decide +kernel
theorem dX6_leftStranded_11 : decode cX6_leftStranded 11 = .ok (.invokevirtual 176, 3) := by decide +kernel
theorem dX6_leftStranded_14 : decode cX6_leftStranded 14 = .ok (.istore_n 2, 1) := by decide +kernel
theorem dX6_leftStranded_15 : decode cX6_leftStranded 15 = .ok (.aload_n 0, 1) := by decide +kernel
theorem dX6_leftStranded_16 : decode cX6_leftStranded 16 = .ok (.invokevirtual 109, 3) := by decide +kernel
theorem dX6_leftStranded_19 : decode cX6_leftStranded 19 = .ok (.aload_n 0, 1) := by decide +kernel
theorem dX6_leftStranded_20 : decode cX6_leftStranded 20 = .ok (.iload_n 2, 1) := by decide +kernel
theorem dX6_leftStranded_21 : decode cX6_leftStranded 21 = .ok (.invokevirtual 66, 3) := by decide +kernel
theorem dX6_leftStranded_24 : decode cX6_leftStranded 24 = .ok (.ireturn, 1) := by decide +kernel
theorem dX6_isWhole_0 : decode cX6_isWhole 0 = .ok (.iconst 1, 1) := by decide +kernel
theorem dX6_isWhole_1 : decode cX6_isWhole 1 = .ok (.istore_n 2, 1) := by decide +kernel
theorem dX6_isWhole_2 : decode cX6_isWhole 2 = .ok (.iconst 0, 1) := by decide +kernel
theorem dX6_isWhole_3 : decode cX6_isWhole 3 = .ok (.istore_n 3, 1) := by decide +kernel
theorem dX6_isWhole_4 : decode cX6_isWhole 4 = .ok (.iload_n 3, 1) := by decide +kernel
theorem dX6_isWhole_5 : decode cX6_isWhole 5 = .ok (.aload_n 0, 1) := by decide +kernel
theorem dX6_isWhole_6 : decode cX6_isWhole 6 = .ok (.invokevirtual 45, 3) := by decide +kernel
theorem dX6_isWhole_9 : decode cX6_isWhole 9 = .ok (.if_icmp .ge 37, 3) := by decide +kernel
theorem dX6_isWhole_12 : decode cX6_isWhole 12 = .ok (.iload_n 2, 1) := by decide +kernel
theorem dX6_isWhole_13 : decode cX6_isWhole 13 = .ok (.ifCond .eq 25, 3) := by decide +kernel
theorem dX6_isWhole_16 : decode cX6_isWhole 16 = .ok (.aload_n 0, 1) := by decide +kernel
theorem dX6_isWhole_17 : decode cX6_isWhole 17 = .ok (.getfield 19, 3) := by decide +kernel
theorem dX6_isWhole_20 : decode cX6_isWhole 20 = .ok (.iload_n 3, 1) := by decide +kernel
theorem dX6_isWhole_21 : decode cX6_isWhole 21 = .ok (.iaload, 1) := by decide +kernel
theorem dX6_isWhole_22 : decode cX6_isWhole 22 = .ok (.iload_n 1, 1) := by decide +kernel
theorem dX6_isWhole_23 : decode cX6_isWhole 23 = .ok (.if_icmp .ne 11, 3) := by decide +kernel
theorem dX6_isWhole_26 : decode cX6_isWhole 26 = .ok (.aload_n 0, 1) := by decide +kernel
theorem dX6_isWhole_27 : decode cX6_isWhole 27 = .ok (.iload_n 3, 1) := by decide +kernel
theorem dX6_isWhole_28 : decode cX6_isWhole 28 = .ok (.invokevirtual 112, 3) := by decide +kernel
theorem dX6_isWhole_31 : decode cX6_isWhole 31 = .ok (.ifCond .eq 7, 3) := by decide +kernel
theorem dX6_isWhole_34 : decode cX6_isWhole 34 = .ok (.iconst 1, 1) := by decide +kernel
theorem dX6_isWhole_35 : decode cX6_isWhole 35 = .ok (.goto 4, 3) := by decide +kernel
theorem dX6_isWhole_38 : decode cX6_isWhole 38 = .ok (.iconst 0, 1) := by decide +kernel
theorem dX6_isWhole_39 : decode cX6_isWhole 39 = .ok (.istore_n 2, 1) := by decide +kernel
theorem dX6_isWhole_40 : decode cX6_isWhole 40 = .ok (.iinc 3 1, 3) := by decide +kernel
theorem dX6_isWhole_43 : decode cX6_isWhole 43 = .ok (.goto (-39), 3) := by decide +kernel
theorem dX6_isWhole_46 : decode cX6_isWhole 46 = .ok (.iload_n 2, 1) := by decide +kernel
theorem dX6_isWhole_47 : decode cX6_isWhole 47 = .ok (.ireturn, 1) := by decide +kernel
theorem dX6_daysWhole_0 : decode cX6_daysWhole 0 = .ok (.aload_n 0, 1) := by decide +kernel
theorem dX6_daysWhole_1 : decode cX6_daysWhole 1 = .ok (.iload_n 1, 1) := by decide +kernel
theorem dX6_daysWhole_2 : decode cX6_daysWhole 2 = .ok (.invokevirtual 69, 3) := by decide +kernel
theorem dX6_daysWhole_5 : decode cX6_daysWhole 5 = .ok (.ifCond .ne 9, 3) := by decide +kernel
theorem dX6_daysWhole_8 : decode cX6_daysWhole 8 = .ok (.aload_n 0, 1) := by decide +kernel
theorem dX6_daysWhole_9 : decode cX6_daysWhole 9 = .ok (.iconst 1, 1) := by decide +kernel
theorem dX6_daysWhole_10 : decode cX6_daysWhole 10 = .ok (.invokevirtual 59, 3) := by decide +kernel
theorem dX6_daysWhole_13 : decode cX6_daysWhole 13 = .ok (.ireturn, 1) := by decide +kernel
theorem dX6_daysWhole_14 : decode cX6_daysWhole 14 = .ok (.aload_n 0, 1) := by decide +kernel
theorem dX6_daysWhole_15 : decode cX6_daysWhole 15 = .ok (.invokevirtual 146, 3) := by decide +kernel
theorem dX6_daysWhole_18 : decode cX6_daysWhole 18 = .ok (.aload_n 0, 1) := by decide +kernel
theorem dX6_daysWhole_19 : decode cX6_daysWhole 19 = .ok (.getfield 19, 3) := by decide +kernel
theorem dX6_daysWhole_22 : decode cX6_daysWhole 22 = .ok (.iload_n 1, 1) := by decide +kernel
theorem dX6_daysWhole_23 : decode cX6_daysWhole 23 = .ok (.iaload, 1) := by decide +kernel
theorem dX6_daysWhole_24 : decode cX6_daysWhole 24 = .ok (.istore_n 2, 1) := by decide +kernel
theorem dX6_daysWhole_25 : decode cX6_daysWhole 25 = .ok (.iload_n 2, 1) := by decide +kernel
theorem dX6_daysWhole_26 : decode cX6_daysWhole 26 = .ok (.iconst (-1), 1) := by decide +kernel
theorem dX6_daysWhole_27 : decode cX6_daysWhole 27 = .ok (.if_icmp .eq 11, 3) := by decide +kernel
theorem dX6_daysWhole_30 : decode cX6_daysWhole 30 = .ok (.aload_n 0, 1) := by decide +kernel
theorem dX6_daysWhole_31 : decode cX6_daysWhole 31 = .ok (.iload_n 2, 1) := by decide +kernel
theorem dX6_daysWhole_32 : decode cX6_daysWhole 32 = .ok (.invokevirtual 132, 3) := by decide +kernel
theorem dX6_daysWhole_35 : decode cX6_daysWhole 35 = .ok (.ifCond .eq 9, 3) := by decide +kernel
theorem dX6_daysWhole_38 : decode cX6_daysWhole 38 = .ok (.aload_n 0, 1) := by decide +kernel
theorem dX6_daysWhole_39 : decode cX6_daysWhole 39 = .ok (.iconst (-1), 1) := by decide +kernel
theorem dX6_daysWhole_40 : decode cX6_daysWhole 40 = .ok (.invokevirtual 66, 3) := by decide +kernel
theorem dX6_daysWhole_43 : decode cX6_daysWhole 43 = .ok (.ireturn, 1) := by decide +kernel
theorem dX6_daysWhole_44 : decode cX6_daysWhole 44 = .ok (.aload_n 0, 1) := by decide +kernel
theorem dX6_daysWhole_45 : decode cX6_daysWhole 45 = .ok (.invokevirtual 106, 3) := by decide +kernel
theorem dX6_daysWhole_48 : decode cX6_daysWhole 48 = .ok (.iconst 0, 1) := by decide +kernel
theorem dX6_daysWhole_49 : decode cX6_daysWhole 49 = .ok (.istore_n 3, 1) := by decide +kernel
theorem dX6_daysWhole_50 : decode cX6_daysWhole 50 = .ok (.iconst 0, 1) := by decide +kernel
theorem dX6_daysWhole_51 : decode cX6_daysWhole 51 = .ok (.istore 4, 2) := by decide +kernel
theorem dX6_daysWhole_53 : decode cX6_daysWhole 53 = .ok (.iload_n 3, 1) := by decide +kernel
theorem dX6_daysWhole_54 : decode cX6_daysWhole 54 = .ok (.bipush 60, 2) := by decide +kernel
theorem dX6_daysWhole_56 : decode cX6_daysWhole 56 = .ok (.if_icmp .ge 26, 3) := by decide +kernel
theorem dX6_daysWhole_59 : decode cX6_daysWhole 59 = .ok (.aload_n 0, 1) := by decide +kernel
theorem dX6_daysWhole_60 : decode cX6_daysWhole 60 = .ok (.iload_n 2, 1) := by decide +kernel
theorem dX6_daysWhole_61 : decode cX6_daysWhole 61 = .ok (.invokevirtual 193, 3) := by decide +kernel
theorem dX6_daysWhole_64 : decode cX6_daysWhole 64 = .ok (.ifCond .eq 18, 3) := by decide +kernel
theorem dX6_daysWhole_67 : decode cX6_daysWhole 67 = .ok (.iload 4, 2) := by decide +kernel
theorem dX6_daysWhole_69 : decode cX6_daysWhole 69 = .ok (.aload_n 0, 1) := by decide +kernel
theorem dX6_daysWhole_70 : decode cX6_daysWhole 70 = .ok (.invokevirtual 163, 3) := by decide +kernel
theorem dX6_daysWhole_73 : decode cX6_daysWhole 73 = .ok (.iadd, 1) := by decide +kernel
theorem dX6_daysWhole_74 : decode cX6_daysWhole 74 = .ok (.istore 4, 2) := by decide +kernel
theorem dX6_daysWhole_76 : decode cX6_daysWhole 76 = .ok (.iinc 3 1, 3) := by decide +kernel
theorem dX6_daysWhole_79 : decode cX6_daysWhole 79 = .ok (.goto (-26), 3) := by decide +kernel
theorem dX6_daysWhole_82 : decode cX6_daysWhole 82 = .ok (.aload_n 0, 1) := by decide +kernel
theorem dX6_daysWhole_83 : decode cX6_daysWhole 83 = .ok (.iload_n 2, 1) := by decide +kernel
theorem dX6_daysWhole_84 : decode cX6_daysWhole 84 = .ok (.invokevirtual 193, 3) := by decide +kernel
theorem dX6_daysWhole_87 : decode cX6_daysWhole 87 = .ok (.ifCond .ne 7, 3) := by decide +kernel
theorem dX6_daysWhole_90 : decode cX6_daysWhole 90 = .ok (.iconst 1, 1) := by decide +kernel
theorem dX6_daysWhole_91 : decode cX6_daysWhole 91 = .ok (.goto 4, 3) := by decide +kernel
theorem dX6_daysWhole_94 : decode cX6_daysWhole 94 = .ok (.iconst 0, 1) := by decide +kernel
theorem dX6_daysWhole_95 : decode cX6_daysWhole 95 = .ok (.istore 5, 2) := by decide +kernel
theorem dX6_daysWhole_97 : decode cX6_daysWhole 97 = .ok (.aload_n 0, 1) := by decide +kernel
theorem dX6_daysWhole_98 : decode cX6_daysWhole 98 = .ok (.invokevirtual 109, 3) := by decide +kernel
theorem dX6_daysWhole_101 : decode cX6_daysWhole 101 = .ok (.aload_n 0, 1) := by decide +kernel
theorem dX6_daysWhole_102 : decode cX6_daysWhole 102 = .ok (.iload 5, 2) := by decide +kernel
theorem dX6_daysWhole_104 : decode cX6_daysWhole 104 = .ok (.ifCond .eq 7, 3) := by decide +kernel
theorem dX6_daysWhole_107 : decode cX6_daysWhole 107 = .ok (.iload_n 3, 1) := by decide +kernel
theorem dX6_daysWhole_108 : decode cX6_daysWhole 108 = .ok (.goto 4, 3) := by decide +kernel
theorem dX6_daysWhole_111 : decode cX6_daysWhole 111 = .ok (.iconst (-1), 1) := by decide +kernel
theorem dX6_daysWhole_112 : decode cX6_daysWhole 112 = .ok (.invokevirtual 66, 3) := by decide +kernel
theorem dX6_daysWhole_115 : decode cX6_daysWhole 115 = .ok (.ireturn, 1) := by decide +kernel
theorem dX6_daysToWater_0 : decode cX6_daysToWater 0 = .ok (.aload_n 0, 1) := by decide +kernel
theorem dX6_daysToWater_1 : decode cX6_daysToWater 1 = .ok (.invokevirtual 106, 3) := by decide +kernel
theorem dX6_daysToWater_4 : decode cX6_daysToWater 4 = .ok (.iconst 0, 1) := by decide +kernel
theorem dX6_daysToWater_5 : decode cX6_daysToWater 5 = .ok (.istore_n 1, 1) := by decide +kernel
theorem dX6_daysToWater_6 : decode cX6_daysToWater 6 = .ok (.iconst 0, 1) := by decide +kernel
theorem dX6_daysToWater_7 : decode cX6_daysToWater 7 = .ok (.istore_n 2, 1) := by decide +kernel
theorem dX6_daysToWater_8 : decode cX6_daysToWater 8 = .ok (.iload_n 1, 1) := by decide +kernel
theorem dX6_daysToWater_9 : decode cX6_daysToWater 9 = .ok (.bipush 60, 2) := by decide +kernel
theorem dX6_daysToWater_11 : decode cX6_daysToWater 11 = .ok (.if_icmp .ge 24, 3) := by decide +kernel
theorem dX6_daysToWater_14 : decode cX6_daysToWater 14 = .ok (.aload_n 0, 1) := by decide +kernel
theorem dX6_daysToWater_15 : decode cX6_daysToWater 15 = .ok (.iconst 2, 1) := by decide +kernel
theorem dX6_daysToWater_16 : decode cX6_daysToWater 16 = .ok (.invokevirtual 179, 3) := by decide +kernel
theorem dX6_daysToWater_19 : decode cX6_daysToWater 19 = .ok (.ifCond .le 16, 3) := by decide +kernel
theorem dX6_daysToWater_22 : decode cX6_daysToWater 22 = .ok (.iload_n 2, 1) := by decide +kernel
theorem dX6_daysToWater_23 : decode cX6_daysToWater 23 = .ok (.aload_n 0, 1) := by decide +kernel
theorem dX6_daysToWater_24 : decode cX6_daysToWater 24 = .ok (.invokevirtual 163, 3) := by decide +kernel
theorem dX6_daysToWater_27 : decode cX6_daysToWater 27 = .ok (.iadd, 1) := by decide +kernel
theorem dX6_daysToWater_28 : decode cX6_daysToWater 28 = .ok (.istore_n 2, 1) := by decide +kernel
theorem dX6_daysToWater_29 : decode cX6_daysToWater 29 = .ok (.iinc 1 1, 3) := by decide +kernel
theorem dX6_daysToWater_32 : decode cX6_daysToWater 32 = .ok (.goto (-24), 3) := by decide +kernel
theorem dX6_daysToWater_35 : decode cX6_daysToWater 35 = .ok (.aload_n 0, 1) := by decide +kernel
theorem dX6_daysToWater_36 : decode cX6_daysToWater 36 = .ok (.iconst 2, 1) := by decide +kernel
theorem dX6_daysToWater_37 : decode cX6_daysToWater 37 = .ok (.invokevirtual 179, 3) := by decide +kernel
theorem dX6_daysToWater_40 : decode cX6_daysToWater 40 = .ok (.ifCond .ne 7, 3) := by decide +kernel
theorem dX6_daysToWater_43 : decode cX6_daysToWater 43 = .ok (.iconst 1, 1) := by decide +kernel
theorem dX6_daysToWater_44 : decode cX6_daysToWater 44 = .ok (.goto 4, 3) := by decide +kernel
theorem dX6_daysToWater_47 : decode cX6_daysToWater 47 = .ok (.iconst 0, 1) := by decide +kernel
theorem dX6_daysToWater_48 : decode cX6_daysToWater 48 = .ok (.istore_n 3, 1) := by decide +kernel
theorem dX6_daysToWater_49 : decode cX6_daysToWater 49 = .ok (.aload_n 0, 1) := by decide +kernel
theorem dX6_daysToWater_50 : decode cX6_daysToWater 50 = .ok (.invokevirtual 109, 3) := by decide +kernel
theorem dX6_daysToWater_53 : decode cX6_daysToWater 53 = .ok (.aload_n 0, 1) := by decide +kernel
theorem dX6_daysToWater_54 : decode cX6_daysToWater 54 = .ok (.iload_n 3, 1) := by decide +kernel
theorem dX6_daysToWater_55 : decode cX6_daysToWater 55 = .ok (.ifCond .eq 7, 3) := by decide +kernel
theorem dX6_daysToWater_58 : decode cX6_daysToWater 58 = .ok (.iload_n 1, 1) := by decide +kernel
theorem dX6_daysToWater_59 : decode cX6_daysToWater 59 = .ok (.goto 4, 3) := by decide +kernel
theorem dX6_daysToWater_62 : decode cX6_daysToWater 62 = .ok (.iconst (-1), 1) := by decide +kernel
theorem dX6_daysToWater_63 : decode cX6_daysToWater 63 = .ok (.invokevirtual 66, 3) := by decide +kernel
theorem dX6_daysToWater_66 : decode cX6_daysToWater 66 = .ok (.ireturn, 1) := by decide +kernel
theorem dX6_barredBy_0 : decode cX6_barredBy 0 = .ok (.aload_n 0, 1) := by decide +kernel
theorem dX6_barredBy_1 : decode cX6_barredBy 1 = .ok (.invokevirtual 146, 3) := by decide +kernel
theorem dX6_barredBy_4 : decode cX6_barredBy 4 = .ok (.aload_n 0, 1) := by decide +kernel
theorem dX6_barredBy_5 : decode cX6_barredBy 5 = .ok (.iconst 0, 1) := by decide +kernel
theorem dX6_barredBy_6 : decode cX6_barredBy 6 = .ok (.iconst 0, 1) := by decide +kernel
theorem dX6_barredBy_7 : decode cX6_barredBy 7 = .ok (.invokevirtual 152, 3) := by decide +kernel
theorem dX6_barredBy_10 : decode cX6_barredBy 10 = .ok (.istore_n 1, 1) := by decide +kernel
theorem dX6_barredBy_11 : decode cX6_barredBy 11 = .ok (.iconst (-1), 1) := by decide +kernel
theorem dX6_barredBy_12 : decode cX6_barredBy 12 = .ok (.istore_n 2, 1) := by decide +kernel
theorem dX6_barredBy_13 : decode cX6_barredBy 13 = .ok (.iconst 0, 1) := by decide +kernel
theorem dX6_barredBy_14 : decode cX6_barredBy 14 = .ok (.istore_n 3, 1) := by decide +kernel
theorem dX6_barredBy_15 : decode cX6_barredBy 15 = .ok (.iload_n 3, 1) := by decide +kernel
theorem dX6_barredBy_16 : decode cX6_barredBy 16 = .ok (.aload_n 0, 1) := by decide +kernel
theorem dX6_barredBy_17 : decode cX6_barredBy 17 = .ok (.invokevirtual 45, 3) := by decide +kernel
theorem dX6_barredBy_20 : decode cX6_barredBy 20 = .ok (.if_icmp .ge 81, 3) := by decide +kernel
theorem dX6_barredBy_23 : decode cX6_barredBy 23 = .ok (.iload_n 1, 1) := by decide +kernel
theorem dX6_barredBy_24 : decode cX6_barredBy 24 = .ok (.iconst (-1), 1) := by decide +kernel
theorem dX6_barredBy_25 : decode cX6_barredBy 25 = .ok (.if_icmp .eq 76, 3) := by decide +kernel
theorem dX6_barredBy_28 : decode cX6_barredBy 28 = .ok (.iload_n 2, 1) := by decide +kernel
theorem dX6_barredBy_29 : decode cX6_barredBy 29 = .ok (.iconst (-1), 1) := by decide +kernel
theorem dX6_barredBy_30 : decode cX6_barredBy 30 = .ok (.if_icmp .ne 71, 3) := by decide +kernel
theorem dX6_barredBy_33 : decode cX6_barredBy 33 = .ok (.aload_n 0, 1) := by decide +kernel
theorem dX6_barredBy_34 : decode cX6_barredBy 34 = .ok (.getfield 7, 3) := by decide +kernel
theorem dX6_barredBy_37 : decode cX6_barredBy 37 = .ok (.bipush 8, 2) := by decide +kernel
theorem dX6_barredBy_39 : decode cX6_barredBy 39 = .ok (.iload_n 3, 1) := by decide +kernel
theorem dX6_barredBy_40 : decode cX6_barredBy 40 = .ok (.iadd, 1) := by decide +kernel
theorem dX6_barredBy_41 : decode cX6_barredBy 41 = .ok (.iaload, 1) := by decide +kernel
theorem dX6_barredBy_42 : decode cX6_barredBy 42 = .ok (.istore 4, 2) := by decide +kernel
theorem dX6_barredBy_44 : decode cX6_barredBy 44 = .ok (.iload 4, 2) := by decide +kernel
theorem dX6_barredBy_46 : decode cX6_barredBy 46 = .ok (.ifCond .le 49, 3) := by decide +kernel
theorem dX6_barredBy_49 : decode cX6_barredBy 49 = .ok (.aload_n 0, 1) := by decide +kernel
theorem dX6_barredBy_50 : decode cX6_barredBy 50 = .ok (.getfield 19, 3) := by decide +kernel
theorem dX6_barredBy_53 : decode cX6_barredBy 53 = .ok (.iload_n 3, 1) := by decide +kernel
theorem dX6_barredBy_54 : decode cX6_barredBy 54 = .ok (.iaload, 1) := by decide +kernel
theorem dX6_barredBy_55 : decode cX6_barredBy 55 = .ok (.iload_n 1, 1) := by decide +kernel
theorem dX6_barredBy_56 : decode cX6_barredBy 56 = .ok (.if_icmp .eq 39, 3) := by decide +kernel
theorem dX6_barredBy_59 : decode cX6_barredBy 59 = .ok (.aload_n 0, 1) := by decide +kernel
theorem dX6_barredBy_60 : decode cX6_barredBy 60 = .ok (.getfield 7, 3) := by decide +kernel
theorem dX6_barredBy_63 : decode cX6_barredBy 63 = .ok (.bipush 8, 2) := by decide +kernel
theorem dX6_barredBy_65 : decode cX6_barredBy 65 = .ok (.iload_n 3, 1) := by decide +kernel
theorem dX6_barredBy_66 : decode cX6_barredBy 66 = .ok (.iadd, 1) := by decide +kernel
theorem dX6_barredBy_67 : decode cX6_barredBy 67 = .ok (.iconst 0, 1) := by decide +kernel
theorem dX6_barredBy_68 : decode cX6_barredBy 68 = .ok (.iastore, 1) := by decide +kernel
theorem dX6_barredBy_69 : decode cX6_barredBy 69 = .ok (.aload_n 0, 1) := by decide +kernel
theorem dX6_barredBy_70 : decode cX6_barredBy 70 = .ok (.iload_n 1, 1) := by decide +kernel
theorem dX6_barredBy_71 : decode cX6_barredBy 71 = .ok (.invokevirtual 139, 3) := by decide +kernel
theorem dX6_barredBy_74 : decode cX6_barredBy 74 = .ok (.iconst (-1), 1) := by decide +kernel
theorem dX6_barredBy_75 : decode cX6_barredBy 75 = .ok (.if_icmp .ne 7, 3) := by decide +kernel
theorem dX6_barredBy_78 : decode cX6_barredBy 78 = .ok (.iconst (-1), 1) := by decide +kernel
theorem dX6_barredBy_79 : decode cX6_barredBy 79 = .ok (.goto 4, 3) := by decide +kernel
theorem dX6_barredBy_82 : decode cX6_barredBy 82 = .ok (.iload_n 3, 1) := by decide +kernel
theorem dX6_barredBy_83 : decode cX6_barredBy 83 = .ok (.istore_n 2, 1) := by decide +kernel
theorem dX6_barredBy_84 : decode cX6_barredBy 84 = .ok (.aload_n 0, 1) := by decide +kernel
theorem dX6_barredBy_85 : decode cX6_barredBy 85 = .ok (.getfield 7, 3) := by decide +kernel
theorem dX6_barredBy_88 : decode cX6_barredBy 88 = .ok (.bipush 8, 2) := by decide +kernel
theorem dX6_barredBy_90 : decode cX6_barredBy 90 = .ok (.iload_n 3, 1) := by decide +kernel
theorem dX6_barredBy_91 : decode cX6_barredBy 91 = .ok (.iadd, 1) := by decide +kernel
theorem dX6_barredBy_92 : decode cX6_barredBy 92 = .ok (.iload 4, 2) := by decide +kernel
theorem dX6_barredBy_94 : decode cX6_barredBy 94 = .ok (.iastore, 1) := by decide +kernel
theorem dX6_barredBy_95 : decode cX6_barredBy 95 = .ok (.iinc 3 1, 3) := by decide +kernel
theorem dX6_barredBy_98 : decode cX6_barredBy 98 = .ok (.goto (-83), 3) := by decide +kernel
theorem dX6_barredBy_101 : decode cX6_barredBy 101 = .ok (.aload_n 0, 1) := by decide +kernel
theorem dX6_barredBy_102 : decode cX6_barredBy 102 = .ok (.iload_n 2, 1) := by decide +kernel
theorem dX6_barredBy_103 : decode cX6_barredBy 103 = .ok (.invokevirtual 66, 3) := by decide +kernel
theorem dX6_barredBy_106 : decode cX6_barredBy 106 = .ok (.ireturn, 1) := by decide +kernel
theorem dX6_harvest_0 : decode cX6_harvest 0 = .ok (.aload_n 0, 1) := by decide +kernel
theorem dX6_harvest_1 : decode cX6_harvest 1 = .ok (.iconst 0, 1) := by decide +kernel
theorem dX6_harvest_2 : decode cX6_harvest 2 = .ok (.putfield 38, 3) := by decide +kernel
theorem dX6_harvest_5 : decode cX6_harvest 5 = .ok (.aload_n 0, 1) := by decide +kernel
theorem dX6_harvest_6 : decode cX6_harvest 6 = .ok (.getfield 7, 3) := by decide +kernel
theorem dX6_harvest_9 : decode cX6_harvest 9 = .ok (.iconst 5, 1) := by decide +kernel
theorem dX6_harvest_10 : decode cX6_harvest 10 = .ok (.iaload, 1) := by decide +kernel
theorem dX6_harvest_11 : decode cX6_harvest 11 = .ok (.i2d, 1) := by decide +kernel
theorem dX6_harvest_12 : decode cX6_harvest 12 = .ok (.dstore_n 1, 1) := by decide +kernel
theorem dX6_harvest_13 : decode cX6_harvest 13 = .ok (.aload_n 0, 1) := by decide +kernel
theorem dX6_harvest_14 : decode cX6_harvest 14 = .ok (.getfield 7, 3) := by decide +kernel
theorem dX6_harvest_17 : decode cX6_harvest 17 = .ok (.iconst 4, 1) := by decide +kernel
theorem dX6_harvest_18 : decode cX6_harvest 18 = .ok (.iaload, 1) := by decide +kernel
theorem dX6_harvest_19 : decode cX6_harvest 19 = .ok (.i2d, 1) := by decide +kernel
theorem dX6_harvest_20 : decode cX6_harvest 20 = .ok (.dstore_n 3, 1) := by decide +kernel
theorem dX6_harvest_21 : decode cX6_harvest 21 = .ok (.aload_n 0, 1) := by decide +kernel
theorem dX6_harvest_22 : decode cX6_harvest 22 = .ok (.getfield 7, 3) := by decide +kernel
theorem dX6_harvest_25 : decode cX6_harvest 25 = .ok (.iconst 4, 1) := by decide +kernel
theorem dX6_harvest_26 : decode cX6_harvest 26 = .ok (.iaload, 1) := by decide +kernel
theorem dX6_harvest_27 : decode cX6_harvest 27 = .ok (.ifCond .ne 7, 3) := by decide +kernel
theorem dX6_harvest_30 : decode cX6_harvest 30 = .ok (.dconst 0, 1) := by decide +kernel
theorem dX6_harvest_31 : decode cX6_harvest 31 = .ok (.goto 6, 3) := by decide +kernel
theorem dX6_harvest_34 : decode cX6_harvest 34 = .ok (.dload_n 1, 1) := by decide +kernel
theorem dX6_harvest_35 : decode cX6_harvest 35 = .ok (.dload_n 3, 1) := by decide +kernel
theorem dX6_harvest_36 : decode cX6_harvest 36 = .ok (.ddiv, 1) := by decide +kernel
theorem dX6_harvest_37 : decode cX6_harvest 37 = .ok (.dreturn, 1) := by decide +kernel
theorem dX6_append_0 : decode cX6_append 0 = .ok (.iload_n 1, 1) := by decide +kernel
theorem dX6_append_1 : decode cX6_append 1 = .ok (.i2l, 1) := by decide +kernel
theorem dX6_append_2 : decode cX6_append 2 = .ok (.lconst 0, 1) := by decide +kernel
theorem dX6_append_3 : decode cX6_append 3 = .ok (.ldc2_w 196, 3) := by decide +kernel
theorem dX6_append_6 : decode cX6_append 6 = .ok (.invokestatic 49, 3) := by decide +kernel
theorem dX6_append_9 : decode cX6_append 9 = .ok (.ifCond .ne 9, 3) := by decide +kernel
theorem dX6_append_12 : decode cX6_append 12 = .ok (.aload_n 0, 1) := by decide +kernel
theorem dX6_append_13 : decode cX6_append 13 = .ok (.iconst 1, 1) := by decide +kernel
theorem dX6_append_14 : decode cX6_append 14 = .ok (.invokevirtual 59, 3) := by decide +kernel
theorem dX6_append_17 : decode cX6_append 17 = .ok (.ireturn, 1) := by decide +kernel
theorem dX6_append_18 : decode cX6_append 18 = .ok (.aload_n 0, 1) := by decide +kernel
theorem dX6_append_19 : decode cX6_append 19 = .ok (.getfield 198, 3) := by decide +kernel
theorem dX6_append_22 : decode cX6_append 22 = .ok (.bipush 60, 2) := by decide +kernel
theorem dX6_append_24 : decode cX6_append 24 = .ok (.if_icmp .ne 9, 3) := by decide +kernel
theorem dX6_append_27 : decode cX6_append 27 = .ok (.aload_n 0, 1) := by decide +kernel
theorem dX6_append_28 : decode cX6_append 28 = .ok (.iconst 2, 1) := by decide +kernel
theorem dX6_append_29 : decode cX6_append 29 = .ok (.invokevirtual 59, 3) := by decide +kernel
theorem dX6_append_32 : decode cX6_append 32 = .ok (.ireturn, 1) := by decide +kernel
theorem dX6_append_33 : decode cX6_append 33 = .ok (.aload_n 0, 1) := by decide +kernel
theorem dX6_append_34 : decode cX6_append 34 = .ok (.getfield 28, 3) := by decide +kernel
theorem dX6_append_37 : decode cX6_append 37 = .ok (.aload_n 0, 1) := by decide +kernel
theorem dX6_append_38 : decode cX6_append 38 = .ok (.getfield 198, 3) := by decide +kernel
theorem dX6_append_41 : decode cX6_append 41 = .ok (.iload_n 1, 1) := by decide +kernel
theorem dX6_append_42 : decode cX6_append 42 = .ok (.iastore, 1) := by decide +kernel
theorem dX6_append_43 : decode cX6_append 43 = .ok (.aload_n 0, 1) := by decide +kernel
theorem dX6_append_44 : decode cX6_append 44 = .ok (.dup, 1) := by decide +kernel
theorem dX6_append_45 : decode cX6_append 45 = .ok (.getfield 198, 3) := by decide +kernel
theorem dX6_append_48 : decode cX6_append 48 = .ok (.iconst 1, 1) := by decide +kernel
theorem dX6_append_49 : decode cX6_append 49 = .ok (.iadd, 1) := by decide +kernel
theorem dX6_append_50 : decode cX6_append 50 = .ok (.putfield 198, 3) := by decide +kernel
theorem dX6_append_53 : decode cX6_append 53 = .ok (.aload_n 0, 1) := by decide +kernel
theorem dX6_append_54 : decode cX6_append 54 = .ok (.aload_n 0, 1) := by decide +kernel
theorem dX6_append_55 : decode cX6_append 55 = .ok (.getfield 198, 3) := by decide +kernel
theorem dX6_append_58 : decode cX6_append 58 = .ok (.invokevirtual 66, 3) := by decide +kernel
theorem dX6_append_61 : decode cX6_append 61 = .ok (.ireturn, 1) := by decide +kernel
theorem dX6_clearText_0 : decode cX6_clearText 0 = .ok (.aload_n 0, 1) := by decide +kernel
theorem dX6_clearText_1 : decode cX6_clearText 1 = .ok (.getfield 198, 3) := by decide +kernel
theorem dX6_clearText_4 : decode cX6_clearText 4 = .ok (.istore_n 1, 1) := by decide +kernel
theorem dX6_clearText_5 : decode cX6_clearText 5 = .ok (.aload_n 0, 1) := by decide +kernel
theorem dX6_clearText_6 : decode cX6_clearText 6 = .ok (.iconst 0, 1) := by decide +kernel
theorem dX6_clearText_7 : decode cX6_clearText 7 = .ok (.putfield 198, 3) := by decide +kernel
theorem dX6_clearText_10 : decode cX6_clearText 10 = .ok (.aload_n 0, 1) := by decide +kernel
theorem dX6_clearText_11 : decode cX6_clearText 11 = .ok (.iload_n 1, 1) := by decide +kernel
theorem dX6_clearText_12 : decode cX6_clearText 12 = .ok (.invokevirtual 66, 3) := by decide +kernel
theorem dX6_clearText_15 : decode cX6_clearText 15 = .ok (.ireturn, 1) := by decide +kernel
theorem dX6_here_0 : decode cX6_here 0 = .ok (.iload_n 1, 1) := by decide +kernel
theorem dX6_here_1 : decode cX6_here 1 = .ok (.aload_n 0, 1) := by decide +kernel
theorem dX6_here_2 : decode cX6_here 2 = .ok (.getfield 198, 3) := by decide +kernel
theorem dX6_here_5 : decode cX6_here 5 = .ok (.if_icmp .ge 12, 3) := by decide +kernel
theorem dX6_here_8 : decode cX6_here 8 = .ok (.aload_n 0, 1) := by decide +kernel
theorem dX6_here_9 : decode cX6_here 9 = .ok (.getfield 28, 3) := by decide +kernel
theorem dX6_here_12 : decode cX6_here 12 = .ok (.iload_n 1, 1) := by decide +kernel
theorem dX6_here_13 : decode cX6_here 13 = .ok (.iaload, 1) := by decide +kernel
theorem dX6_here_14 : decode cX6_here 14 = .ok (.goto 4, 3) := by decide +kernel
theorem dX6_here_17 : decode cX6_here 17 = .ok (.iconst (-1), 1) := by decide +kernel
theorem dX6_here_18 : decode cX6_here 18 = .ok (.ireturn, 1) := by decide +kernel
theorem dX6_behindDigits_0 : decode cX6_behindDigits 0 = .ok (.iload_n 1, 1) := by decide +kernel
theorem dX6_behindDigits_1 : decode cX6_behindDigits 1 = .ok (.istore_n 3, 1) := by decide +kernel
theorem dX6_behindDigits_2 : decode cX6_behindDigits 2 = .ok (.aload_n 0, 1) := by decide +kernel
theorem dX6_behindDigits_3 : decode cX6_behindDigits 3 = .ok (.iload_n 3, 1) := by decide +kernel
theorem dX6_behindDigits_4 : decode cX6_behindDigits 4 = .ok (.invokevirtual 201, 3) := by decide +kernel
theorem dX6_behindDigits_7 : decode cX6_behindDigits 7 = .ok (.i2l, 1) := by decide +kernel
theorem dX6_behindDigits_8 : decode cX6_behindDigits 8 = .ok (.ldc2_w 204, 3) := by decide +kernel
theorem dX6_behindDigits_11 : decode cX6_behindDigits 11 = .ok (.ldc2_w 206, 3) := by decide +kernel
theorem dX6_behindDigits_14 : decode cX6_behindDigits 14 = .ok (.invokestatic 49, 3) := by decide +kernel
theorem dX6_behindDigits_17 : decode cX6_behindDigits 17 = .ok (.ifCond .eq 16, 3) := by decide +kernel
theorem dX6_behindDigits_20 : decode cX6_behindDigits 20 = .ok (.iload_n 3, 1) := by decide +kernel
theorem dX6_behindDigits_21 : decode cX6_behindDigits 21 = .ok (.iload_n 1, 1) := by decide +kernel
theorem dX6_behindDigits_22 : decode cX6_behindDigits 22 = .ok (.isub, 1) := by decide +kernel
theorem dX6_behindDigits_23 : decode cX6_behindDigits 23 = .ok (.iload_n 2, 1) := by decide +kernel
theorem dX6_behindDigits_24 : decode cX6_behindDigits 24 = .ok (.if_icmp .ge 9, 3) := by decide +kernel
theorem dX6_behindDigits_27 : decode cX6_behindDigits 27 = .ok (.iinc 3 1, 3) := by decide +kernel
theorem dX6_behindDigits_30 : decode cX6_behindDigits 30 = .ok (.goto (-28), 3) := by decide +kernel
theorem dX6_behindDigits_33 : decode cX6_behindDigits 33 = .ok (.iload_n 3, 1) := by decide +kernel
theorem dX6_behindDigits_34 : decode cX6_behindDigits 34 = .ok (.ireturn, 1) := by decide +kernel
theorem dX6_fault_0 : decode cX6_fault 0 = .ok (.aload_n 0, 1) := by decide +kernel
theorem dX6_fault_1 : decode cX6_fault 1 = .ok (.iconst 0, 1) := by decide +kernel
theorem dX6_fault_2 : decode cX6_fault 2 = .ok (.bipush 7, 2) := by decide +kernel
theorem dX6_fault_4 : decode cX6_fault 4 = .ok (.invokevirtual 208, 3) := by decide +kernel
theorem dX6_fault_7 : decode cX6_fault 7 = .ok (.istore_n 1, 1) := by decide +kernel
theorem dX6_fault_8 : decode cX6_fault 8 = .ok (.aload_n 0, 1) := by decide +kernel
theorem dX6_fault_9 : decode cX6_fault 9 = .ok (.iload_n 1, 1) := by decide +kernel
theorem dX6_fault_10 : decode cX6_fault 10 = .ok (.putfield 211, 3) := by decide +kernel
theorem dX6_fault_13 : decode cX6_fault 13 = .ok (.aload_n 0, 1) := by decide +kernel
theorem dX6_fault_14 : decode cX6_fault 14 = .ok (.iconst 1, 1) := by decide +kernel
theorem dX6_fault_15 : decode cX6_fault 15 = .ok (.putfield 214, 3) := by decide +kernel
theorem dX6_fault_18 : decode cX6_fault 18 = .ok (.aload_n 0, 1) := by decide +kernel
theorem dX6_fault_19 : decode cX6_fault 19 = .ok (.getfield 211, 3) := by decide +kernel
theorem dX6_fault_22 : decode cX6_fault 22 = .ok (.iconst 2, 1) := by decide +kernel
theorem dX6_fault_23 : decode cX6_fault 23 = .ok (.if_icmp .ge 5, 3) := by decide +kernel
theorem dX6_fault_26 : decode cX6_fault 26 = .ok (.iload_n 1, 1) := by decide +kernel
theorem dX6_fault_27 : decode cX6_fault 27 = .ok (.ireturn, 1) := by decide +kernel
theorem dX6_fault_28 : decode cX6_fault 28 = .ok (.iload_n 1, 1) := by decide +kernel
theorem dX6_fault_29 : decode cX6_fault 29 = .ok (.aload_n 0, 1) := by decide +kernel
theorem dX6_fault_30 : decode cX6_fault 30 = .ok (.getfield 198, 3) := by decide +kernel
theorem dX6_fault_33 : decode cX6_fault 33 = .ok (.if_icmp .ge 65, 3) := by decide +kernel
theorem dX6_fault_36 : decode cX6_fault 36 = .ok (.aload_n 0, 1) := by decide +kernel
theorem dX6_fault_37 : decode cX6_fault 37 = .ok (.iload_n 1, 1) := by decide +kernel
theorem dX6_fault_38 : decode cX6_fault 38 = .ok (.invokevirtual 201, 3) := by decide +kernel
theorem dX6_fault_41 : decode cX6_fault 41 = .ok (.bipush 47, 2) := by decide +kernel
theorem dX6_fault_43 : decode cX6_fault 43 = .ok (.if_icmp .ne 12, 3) := by decide +kernel
theorem dX6_fault_46 : decode cX6_fault 46 = .ok (.aload_n 0, 1) := by decide +kernel
theorem dX6_fault_47 : decode cX6_fault 47 = .ok (.getfield 214, 3) := by decide +kernel
theorem dX6_fault_50 : decode cX6_fault 50 = .ok (.bipush 7, 2) := by decide +kernel
theorem dX6_fault_52 : decode cX6_fault 52 = .ok (.if_icmp .ne 5, 3) := by decide +kernel
theorem dX6_fault_55 : decode cX6_fault 55 = .ok (.iload_n 1, 1) := by decide +kernel
theorem dX6_fault_56 : decode cX6_fault 56 = .ok (.ireturn, 1) := by decide +kernel
theorem dX6_fault_57 : decode cX6_fault 57 = .ok (.aload_n 0, 1) := by decide +kernel
theorem dX6_fault_58 : decode cX6_fault 58 = .ok (.iload_n 1, 1) := by decide +kernel
theorem dX6_fault_59 : decode cX6_fault 59 = .ok (.iconst 1, 1) := by decide +kernel
theorem dX6_fault_60 : decode cX6_fault 60 = .ok (.iadd, 1) := by decide +kernel
theorem dX6_fault_61 : decode cX6_fault 61 = .ok (.aload_n 0, 1) := by decide +kernel
theorem dX6_fault_62 : decode cX6_fault 62 = .ok (.getfield 211, 3) := by decide +kernel
theorem dX6_fault_65 : decode cX6_fault 65 = .ok (.invokevirtual 208, 3) := by decide +kernel
theorem dX6_fault_68 : decode cX6_fault 68 = .ok (.istore_n 2, 1) := by decide +kernel
theorem dX6_fault_69 : decode cX6_fault 69 = .ok (.iload_n 2, 1) := by decide +kernel
theorem dX6_fault_70 : decode cX6_fault 70 = .ok (.iload_n 1, 1) := by decide +kernel
theorem dX6_fault_71 : decode cX6_fault 71 = .ok (.isub, 1) := by decide +kernel
theorem dX6_fault_72 : decode cX6_fault 72 = .ok (.iconst 1, 1) := by decide +kernel
theorem dX6_fault_73 : decode cX6_fault 73 = .ok (.isub, 1) := by decide +kernel
theorem dX6_fault_74 : decode cX6_fault 74 = .ok (.aload_n 0, 1) := by decide +kernel
theorem dX6_fault_75 : decode cX6_fault 75 = .ok (.getfield 211, 3) := by decide +kernel
theorem dX6_fault_78 : decode cX6_fault 78 = .ok (.if_icmp .ge 5, 3) := by decide +kernel
theorem dX6_fault_81 : decode cX6_fault 81 = .ok (.iload_n 2, 1) := by decide +kernel
theorem dX6_fault_82 : decode cX6_fault 82 = .ok (.ireturn, 1) := by decide +kernel
theorem dX6_fault_83 : decode cX6_fault 83 = .ok (.aload_n 0, 1) := by decide +kernel
theorem dX6_fault_84 : decode cX6_fault 84 = .ok (.dup, 1) := by decide +kernel
theorem dX6_fault_85 : decode cX6_fault 85 = .ok (.getfield 214, 3) := by decide +kernel
theorem dX6_fault_88 : decode cX6_fault 88 = .ok (.iconst 1, 1) := by decide +kernel
theorem dX6_fault_89 : decode cX6_fault 89 = .ok (.iadd, 1) := by decide +kernel
theorem dX6_fault_90 : decode cX6_fault 90 = .ok (.putfield 214, 3) := by decide +kernel
theorem dX6_fault_93 : decode cX6_fault 93 = .ok (.iload_n 2, 1) := by decide +kernel
theorem dX6_fault_94 : decode cX6_fault 94 = .ok (.istore_n 1, 1) := by decide +kernel
theorem dX6_fault_95 : decode cX6_fault 95 = .ok (.goto (-67), 3) := by decide +kernel
theorem dX6_fault_98 : decode cX6_fault 98 = .ok (.aload_n 0, 1) := by decide +kernel
theorem dX6_fault_99 : decode cX6_fault 99 = .ok (.getfield 214, 3) := by decide +kernel
theorem dX6_fault_102 : decode cX6_fault 102 = .ok (.iconst 2, 1) := by decide +kernel
theorem dX6_fault_103 : decode cX6_fault 103 = .ok (.if_icmp .ge 7, 3) := by decide +kernel
theorem dX6_fault_106 : decode cX6_fault 106 = .ok (.iload_n 1, 1) := by decide +kernel
theorem dX6_fault_107 : decode cX6_fault 107 = .ok (.goto 4, 3) := by decide +kernel
theorem dX6_fault_110 : decode cX6_fault 110 = .ok (.iconst (-1), 1) := by decide +kernel
theorem dX6_fault_111 : decode cX6_fault 111 = .ok (.ireturn, 1) := by decide +kernel
theorem dX6_parse_0 : decode cX6_parse 0 = .ok (.aload_n 0, 1) := by decide +kernel
theorem dX6_parse_1 : decode cX6_parse 1 = .ok (.invokevirtual 217, 3) := by decide +kernel
theorem dX6_parse_4 : decode cX6_parse 4 = .ok (.istore_n 1, 1) := by decide +kernel
theorem dX6_parse_5 : decode cX6_parse 5 = .ok (.iload_n 1, 1) := by decide +kernel
theorem dX6_parse_6 : decode cX6_parse 6 = .ok (.iconst (-1), 1) := by decide +kernel
theorem dX6_parse_7 : decode cX6_parse 7 = .ok (.if_icmp .eq 12, 3) := by decide +kernel
theorem dX6_parse_10 : decode cX6_parse 10 = .ok (.aload_n 0, 1) := by decide +kernel
theorem dX6_parse_11 : decode cX6_parse 11 = .ok (.bipush (-10), 2) := by decide +kernel
theorem dX6_parse_13 : decode cX6_parse 13 = .ok (.iload_n 1, 1) := by decide +kernel
theorem dX6_parse_14 : decode cX6_parse 14 = .ok (.isub, 1) := by decide +kernel
theorem dX6_parse_15 : decode cX6_parse 15 = .ok (.invokevirtual 66, 3) := by decide +kernel
theorem dX6_parse_18 : decode cX6_parse 18 = .ok (.ireturn, 1) := by decide +kernel
theorem dX6_parse_19 : decode cX6_parse 19 = .ok (.aload_n 0, 1) := by decide +kernel
theorem dX6_parse_20 : decode cX6_parse 20 = .ok (.invokevirtual 63, 3) := by decide +kernel
theorem dX6_parse_23 : decode cX6_parse 23 = .ok (.aload_n 0, 1) := by decide +kernel
theorem dX6_parse_24 : decode cX6_parse 24 = .ok (.aload_n 0, 1) := by decide +kernel
theorem dX6_parse_25 : decode cX6_parse 25 = .ok (.getfield 211, 3) := by decide +kernel
theorem dX6_parse_28 : decode cX6_parse 28 = .ok (.aload_n 0, 1) := by decide +kernel
theorem dX6_parse_29 : decode cX6_parse 29 = .ok (.getfield 214, 3) := by decide +kernel
theorem dX6_parse_32 : decode cX6_parse 32 = .ok (.invokevirtual 31, 3) := by decide +kernel
theorem dX6_parse_35 : decode cX6_parse 35 = .ok (.iconst 0, 1) := by decide +kernel
theorem dX6_parse_36 : decode cX6_parse 36 = .ok (.istore_n 2, 1) := by decide +kernel
theorem dX6_parse_37 : decode cX6_parse 37 = .ok (.iload_n 2, 1) := by decide +kernel
theorem dX6_parse_38 : decode cX6_parse 38 = .ok (.aload_n 0, 1) := by decide +kernel
theorem dX6_parse_39 : decode cX6_parse 39 = .ok (.invokevirtual 45, 3) := by decide +kernel
theorem dX6_parse_42 : decode cX6_parse 42 = .ok (.if_icmp .ge 30, 3) := by decide +kernel
theorem dX6_parse_45 : decode cX6_parse 45 = .ok (.aload_n 0, 1) := by decide +kernel
theorem dX6_parse_46 : decode cX6_parse 46 = .ok (.iload_n 2, 1) := by decide +kernel
theorem dX6_parse_47 : decode cX6_parse 47 = .ok (.aload_n 0, 1) := by decide +kernel
theorem dX6_parse_48 : decode cX6_parse 48 = .ok (.getfield 28, 3) := by decide +kernel
theorem dX6_parse_51 : decode cX6_parse 51 = .ok (.iload_n 2, 1) := by decide +kernel
theorem dX6_parse_52 : decode cX6_parse 52 = .ok (.iload_n 2, 1) := by decide +kernel
theorem dX6_parse_53 : decode cX6_parse 53 = .ok (.aload_n 0, 1) := by decide +kernel
theorem dX6_parse_54 : decode cX6_parse 54 = .ok (.getfield 211, 3) := by decide +kernel
theorem dX6_parse_57 : decode cX6_parse 57 = .ok (.idiv, 1) := by decide +kernel
theorem dX6_parse_58 : decode cX6_parse 58 = .ok (.iadd, 1) := by decide +kernel
theorem dX6_parse_59 : decode cX6_parse 59 = .ok (.iaload, 1) := by decide +kernel
theorem dX6_parse_60 : decode cX6_parse 60 = .ok (.bipush 48, 2) := by decide +kernel
theorem dX6_parse_62 : decode cX6_parse 62 = .ok (.isub, 1) := by decide +kernel
theorem dX6_parse_63 : decode cX6_parse 63 = .ok (.invokevirtual 35, 3) := by decide +kernel
theorem dX6_parse_66 : decode cX6_parse 66 = .ok (.iinc 2 1, 3) := by decide +kernel
theorem dX6_parse_69 : decode cX6_parse 69 = .ok (.goto (-32), 3) := by decide +kernel
theorem dX6_parse_72 : decode cX6_parse 72 = .ok (.aload_n 0, 1) := by decide +kernel
theorem dX6_parse_73 : decode cX6_parse 73 = .ok (.aload_n 0, 1) := by decide +kernel
theorem dX6_parse_74 : decode cX6_parse 74 = .ok (.getfield 7, 3) := by decide +kernel
theorem dX6_parse_77 : decode cX6_parse 77 = .ok (.iconst 4, 1) := by decide +kernel
theorem dX6_parse_78 : decode cX6_parse 78 = .ok (.iaload, 1) := by decide +kernel
theorem dX6_parse_79 : decode cX6_parse 79 = .ok (.invokevirtual 66, 3) := by decide +kernel
theorem dX6_parse_82 : decode cX6_parse 82 = .ok (.ireturn, 1) := by decide +kernel
theorem dX6_undo_0 : decode cX6_undo 0 = .ok (.aload_n 0, 1) := by decide +kernel
theorem dX6_undo_1 : decode cX6_undo 1 = .ok (.getfield 42, 3) := by decide +kernel
theorem dX6_undo_4 : decode cX6_undo 4 = .ok (.ifCond .ne 9, 3) := by decide +kernel
theorem dX6_undo_7 : decode cX6_undo 7 = .ok (.aload_n 0, 1) := by decide +kernel
theorem dX6_undo_8 : decode cX6_undo 8 = .ok (.iconst 1, 1) := by decide +kernel
theorem dX6_undo_9 : decode cX6_undo 9 = .ok (.invokevirtual 59, 3) := by decide +kernel
theorem dX6_undo_12 : decode cX6_undo 12 = .ok (.ireturn, 1) := by decide +kernel
theorem dX6_undo_13 : decode cX6_undo 13 = .ok (.aload_n 0, 1) := by decide +kernel
theorem dX6_undo_14 : decode cX6_undo 14 = .ok (.dup, 1) := by decide +kernel
theorem dX6_undo_15 : decode cX6_undo 15 = .ok (.getfield 42, 3) := by decide +kernel
theorem dX6_undo_18 : decode cX6_undo 18 = .ok (.iconst 1, 1) := by decide +kernel
theorem dX6_undo_19 : decode cX6_undo 19 = .ok (.isub, 1) := by decide +kernel
theorem dX6_undo_20 : decode cX6_undo 20 = .ok (.putfield 42, 3) := by decide +kernel
theorem dX6_undo_23 : decode cX6_undo 23 = .ok (.iconst 0, 1) := by decide +kernel
theorem dX6_undo_24 : decode cX6_undo 24 = .ok (.istore_n 1, 1) := by decide +kernel
theorem dX6_undo_25 : decode cX6_undo 25 = .ok (.iload_n 1, 1) := by decide +kernel
theorem dX6_undo_26 : decode cX6_undo 26 = .ok (.sipush 226, 3) := by decide +kernel
theorem dX6_undo_29 : decode cX6_undo 29 = .ok (.if_icmp .ge 30, 3) := by decide +kernel
theorem dX6_undo_32 : decode cX6_undo 32 = .ok (.aload_n 0, 1) := by decide +kernel
theorem dX6_undo_33 : decode cX6_undo 33 = .ok (.getfield 7, 3) := by decide +kernel
theorem dX6_undo_36 : decode cX6_undo 36 = .ok (.iload_n 1, 1) := by decide +kernel
theorem dX6_undo_37 : decode cX6_undo 37 = .ok (.aload_n 0, 1) := by decide +kernel
theorem dX6_undo_38 : decode cX6_undo 38 = .ok (.getfield 13, 3) := by decide +kernel
theorem dX6_undo_41 : decode cX6_undo 41 = .ok (.sipush 226, 3) := by decide +kernel
theorem dX6_undo_44 : decode cX6_undo 44 = .ok (.aload_n 0, 1) := by decide +kernel
theorem dX6_undo_45 : decode cX6_undo 45 = .ok (.getfield 42, 3) := by decide +kernel
theorem dX6_undo_48 : decode cX6_undo 48 = .ok (.imul, 1) := by decide +kernel
theorem dX6_undo_49 : decode cX6_undo 49 = .ok (.iload_n 1, 1) := by decide +kernel
theorem dX6_undo_50 : decode cX6_undo 50 = .ok (.iadd, 1) := by decide +kernel
theorem dX6_undo_51 : decode cX6_undo 51 = .ok (.iaload, 1) := by decide +kernel
theorem dX6_undo_52 : decode cX6_undo 52 = .ok (.iastore, 1) := by decide +kernel
theorem dX6_undo_53 : decode cX6_undo 53 = .ok (.iinc 1 1, 3) := by decide +kernel
theorem dX6_undo_56 : decode cX6_undo 56 = .ok (.goto (-31), 3) := by decide +kernel
theorem dX6_undo_59 : decode cX6_undo 59 = .ok (.aload_n 0, 1) := by decide +kernel
theorem dX6_undo_60 : decode cX6_undo 60 = .ok (.aload_n 0, 1) := by decide +kernel
theorem dX6_undo_61 : decode cX6_undo 61 = .ok (.getfield 42, 3) := by decide +kernel
theorem dX6_undo_64 : decode cX6_undo 64 = .ok (.invokevirtual 66, 3) := by decide +kernel
theorem dX6_undo_67 : decode cX6_undo 67 = .ok (.ireturn, 1) := by decide +kernel
theorem dX6_digest_0 : decode cX6_digest 0 = .ok (.aload_n 0, 1) := by decide +kernel
theorem dX6_digest_1 : decode cX6_digest 1 = .ok (.iconst 0, 1) := by decide +kernel
theorem dX6_digest_2 : decode cX6_digest 2 = .ok (.putfield 38, 3) := by decide +kernel
theorem dX6_digest_5 : decode cX6_digest 5 = .ok (.ldc2_w 220, 3) := by decide +kernel
theorem dX6_digest_8 : decode cX6_digest 8 = .ok (.aload_n 0, 1) := by decide +kernel
theorem dX6_digest_9 : decode cX6_digest 9 = .ok (.getfield 198, 3) := by decide +kernel
theorem dX6_digest_12 : decode cX6_digest 12 = .ok (.i2l, 1) := by decide +kernel
theorem dX6_digest_13 : decode cX6_digest 13 = .ok (.ladd, 1) := by decide +kernel
theorem dX6_digest_14 : decode cX6_digest 14 = .ok (.lstore_n 1, 1) := by decide +kernel
theorem dX6_digest_15 : decode cX6_digest 15 = .ok (.iconst 0, 1) := by decide +kernel
theorem dX6_digest_16 : decode cX6_digest 16 = .ok (.istore_n 3, 1) := by decide +kernel
theorem dX6_digest_17 : decode cX6_digest 17 = .ok (.iload_n 3, 1) := by decide +kernel
theorem dX6_digest_18 : decode cX6_digest 18 = .ok (.bipush 14, 2) := by decide +kernel
theorem dX6_digest_20 : decode cX6_digest 20 = .ok (.if_icmp .ge 22, 3) := by decide +kernel
theorem dX6_digest_23 : decode cX6_digest 23 = .ok (.ldc2_w 222, 3) := by decide +kernel
theorem dX6_digest_26 : decode cX6_digest 26 = .ok (.lload_n 1, 1) := by decide +kernel
theorem dX6_digest_27 : decode cX6_digest 27 = .ok (.lmul, 1) := by decide +kernel
theorem dX6_digest_28 : decode cX6_digest 28 = .ok (.aload_n 0, 1) := by decide +kernel
theorem dX6_digest_29 : decode cX6_digest 29 = .ok (.iload_n 3, 1) := by decide +kernel
theorem dX6_digest_30 : decode cX6_digest 30 = .ok (.invokevirtual 184, 3) := by decide +kernel
theorem dX6_digest_33 : decode cX6_digest 33 = .ok (.i2l, 1) := by decide +kernel
theorem dX6_digest_34 : decode cX6_digest 34 = .ok (.ladd, 1) := by decide +kernel
theorem dX6_digest_35 : decode cX6_digest 35 = .ok (.lstore_n 1, 1) := by decide +kernel
theorem dX6_digest_36 : decode cX6_digest 36 = .ok (.iinc 3 1, 3) := by decide +kernel
theorem dX6_digest_39 : decode cX6_digest 39 = .ok (.goto (-22), 3) := by decide +kernel
theorem dX6_digest_42 : decode cX6_digest 42 = .ok (.aload_n 0, 1) := by decide +kernel
theorem dX6_digest_43 : decode cX6_digest 43 = .ok (.invokevirtual 146, 3) := by decide +kernel
theorem dX6_digest_46 : decode cX6_digest 46 = .ok (.iconst 0, 1) := by decide +kernel
theorem dX6_digest_47 : decode cX6_digest 47 = .ok (.istore_n 3, 1) := by decide +kernel
theorem dX6_digest_48 : decode cX6_digest 48 = .ok (.iload_n 3, 1) := by decide +kernel
theorem dX6_digest_49 : decode cX6_digest 49 = .ok (.aload_n 0, 1) := by decide +kernel
theorem dX6_digest_50 : decode cX6_digest 50 = .ok (.invokevirtual 45, 3) := by decide +kernel
theorem dX6_digest_53 : decode cX6_digest 53 = .ok (.if_icmp .ge 66, 3) := by decide +kernel
theorem dX6_digest_56 : decode cX6_digest 56 = .ok (.iconst 0, 1) := by decide +kernel
theorem dX6_digest_57 : decode cX6_digest 57 = .ok (.istore 4, 2) := by decide +kernel
theorem dX6_digest_59 : decode cX6_digest 59 = .ok (.iload 4, 2) := by decide +kernel
theorem dX6_digest_61 : decode cX6_digest 61 = .ok (.bipush 7, 2) := by decide +kernel
theorem dX6_digest_63 : decode cX6_digest 63 = .ok (.if_icmp .ge 24, 3) := by decide +kernel
theorem dX6_digest_66 : decode cX6_digest 66 = .ok (.ldc2_w 222, 3) := by decide +kernel
theorem dX6_digest_69 : decode cX6_digest 69 = .ok (.lload_n 1, 1) := by decide +kernel
theorem dX6_digest_70 : decode cX6_digest 70 = .ok (.lmul, 1) := by decide +kernel
theorem dX6_digest_71 : decode cX6_digest 71 = .ok (.aload_n 0, 1) := by decide +kernel
theorem dX6_digest_72 : decode cX6_digest 72 = .ok (.iload_n 3, 1) := by decide +kernel
theorem dX6_digest_73 : decode cX6_digest 73 = .ok (.iload 4, 2) := by decide +kernel
theorem dX6_digest_75 : decode cX6_digest 75 = .ok (.invokevirtual 168, 3) := by decide +kernel
theorem dX6_digest_78 : decode cX6_digest 78 = .ok (.i2l, 1) := by decide +kernel
theorem dX6_digest_79 : decode cX6_digest 79 = .ok (.ladd, 1) := by decide +kernel
theorem dX6_digest_80 : decode cX6_digest 80 = .ok (.lstore_n 1, 1) := by decide +kernel
theorem dX6_digest_81 : decode cX6_digest 81 = .ok (.iinc 4 1, 3) := by decide +kernel
theorem dX6_digest_84 : decode cX6_digest 84 = .ok (.goto (-25), 3) := by decide +kernel
theorem dX6_digest_87 : decode cX6_digest 87 = .ok (.ldc2_w 222, 3) := by decide +kernel
theorem dX6_digest_90 : decode cX6_digest 90 = .ok (.ldc2_w 222, 3) := by decide +kernel
theorem dX6_digest_93 : decode cX6_digest 93 = .ok (.lload_n 1, 1) := by decide +kernel
theorem dX6_digest_94 : decode cX6_digest 94 = .ok (.lmul, 1) := by decide +kernel
theorem dX6_digest_95 : decode cX6_digest 95 = .ok (.aload_n 0, 1) := by decide +kernel
theorem dX6_digest_96 : decode cX6_digest 96 = .ok (.iload_n 3, 1) := by decide +kernel
theorem dX6_digest_97 : decode cX6_digest 97 = .ok (.iconst 3, 1) := by decide +kernel
theorem dX6_digest_98 : decode cX6_digest 98 = .ok (.invokevirtual 173, 3) := by decide +kernel
theorem dX6_digest_101 : decode cX6_digest 101 = .ok (.i2l, 1) := by decide +kernel
theorem dX6_digest_102 : decode cX6_digest 102 = .ok (.ladd, 1) := by decide +kernel
theorem dX6_digest_103 : decode cX6_digest 103 = .ok (.lmul, 1) := by decide +kernel
theorem dX6_digest_104 : decode cX6_digest 104 = .ok (.aload_n 0, 1) := by decide +kernel
theorem dX6_digest_105 : decode cX6_digest 105 = .ok (.iload_n 3, 1) := by decide +kernel
theorem dX6_digest_106 : decode cX6_digest 106 = .ok (.iconst 4, 1) := by decide +kernel
theorem dX6_digest_107 : decode cX6_digest 107 = .ok (.invokevirtual 173, 3) := by decide +kernel
theorem dX6_digest_110 : decode cX6_digest 110 = .ok (.i2l, 1) := by decide +kernel
theorem dX6_digest_111 : decode cX6_digest 111 = .ok (.ladd, 1) := by decide +kernel
theorem dX6_digest_112 : decode cX6_digest 112 = .ok (.lstore_n 1, 1) := by decide +kernel
theorem dX6_digest_113 : decode cX6_digest 113 = .ok (.iinc 3 1, 3) := by decide +kernel
theorem dX6_digest_116 : decode cX6_digest 116 = .ok (.goto (-68), 3) := by decide +kernel
theorem dX6_digest_119 : decode cX6_digest 119 = .ok (.iconst 0, 1) := by decide +kernel
theorem dX6_digest_120 : decode cX6_digest 120 = .ok (.istore_n 3, 1) := by decide +kernel
theorem dX6_digest_121 : decode cX6_digest 121 = .ok (.iload_n 3, 1) := by decide +kernel
theorem dX6_digest_122 : decode cX6_digest 122 = .ok (.iconst 3, 1) := by decide +kernel
theorem dX6_digest_123 : decode cX6_digest 123 = .ok (.aload_n 0, 1) := by decide +kernel
theorem dX6_digest_124 : decode cX6_digest 124 = .ok (.invokevirtual 187, 3) := by decide +kernel
theorem dX6_digest_127 : decode cX6_digest 127 = .ok (.imul, 1) := by decide +kernel
theorem dX6_digest_128 : decode cX6_digest 128 = .ok (.if_icmp .ge 26, 3) := by decide +kernel
theorem dX6_digest_131 : decode cX6_digest 131 = .ok (.ldc2_w 222, 3) := by decide +kernel
theorem dX6_digest_134 : decode cX6_digest 134 = .ok (.lload_n 1, 1) := by decide +kernel
theorem dX6_digest_135 : decode cX6_digest 135 = .ok (.lmul, 1) := by decide +kernel
theorem dX6_digest_136 : decode cX6_digest 136 = .ok (.aload_n 0, 1) := by decide +kernel
theorem dX6_digest_137 : decode cX6_digest 137 = .ok (.getfield 7, 3) := by decide +kernel
theorem dX6_digest_140 : decode cX6_digest 140 = .ok (.bipush 106, 2) := by decide +kernel
theorem dX6_digest_142 : decode cX6_digest 142 = .ok (.iload_n 3, 1) := by decide +kernel
theorem dX6_digest_143 : decode cX6_digest 143 = .ok (.iadd, 1) := by decide +kernel
theorem dX6_digest_144 : decode cX6_digest 144 = .ok (.iaload, 1) := by decide +kernel
theorem dX6_digest_145 : decode cX6_digest 145 = .ok (.i2l, 1) := by decide +kernel
theorem dX6_digest_146 : decode cX6_digest 146 = .ok (.ladd, 1) := by decide +kernel
theorem dX6_digest_147 : decode cX6_digest 147 = .ok (.lstore_n 1, 1) := by decide +kernel
theorem dX6_digest_148 : decode cX6_digest 148 = .ok (.iinc 3 1, 3) := by decide +kernel
theorem dX6_digest_151 : decode cX6_digest 151 = .ok (.goto (-30), 3) := by decide +kernel
theorem dX6_digest_154 : decode cX6_digest 154 = .ok (.ldc2_w 222, 3) := by decide +kernel
theorem dX6_digest_157 : decode cX6_digest 157 = .ok (.ldc2_w 222, 3) := by decide +kernel
theorem dX6_digest_160 : decode cX6_digest 160 = .ok (.lload_n 1, 1) := by decide +kernel
theorem dX6_digest_161 : decode cX6_digest 161 = .ok (.lmul, 1) := by decide +kernel
theorem dX6_digest_162 : decode cX6_digest 162 = .ok (.aload_n 0, 1) := by decide +kernel
theorem dX6_digest_163 : decode cX6_digest 163 = .ok (.invokevirtual 190, 3) := by decide +kernel
theorem dX6_digest_166 : decode cX6_digest 166 = .ok (.i2l, 1) := by decide +kernel
theorem dX6_digest_167 : decode cX6_digest 167 = .ok (.ladd, 1) := by decide +kernel
theorem dX6_digest_168 : decode cX6_digest 168 = .ok (.lmul, 1) := by decide +kernel
theorem dX6_digest_169 : decode cX6_digest 169 = .ok (.aload_n 0, 1) := by decide +kernel
theorem dX6_digest_170 : decode cX6_digest 170 = .ok (.getfield 42, 3) := by decide +kernel
theorem dX6_digest_173 : decode cX6_digest 173 = .ok (.i2l, 1) := by decide +kernel
theorem dX6_digest_174 : decode cX6_digest 174 = .ok (.ladd, 1) := by decide +kernel
theorem dX6_digest_175 : decode cX6_digest 175 = .ok (.lreturn, 1) := by decide +kernel
theorem dL_make_0 : decode cL_make 0 = .ok (.aload 4, 2) := by decide +kernel
theorem dL_make_2 : decode cL_make 2 = .ok (.iconst 0, 1) := by decide +kernel
theorem dL_make_3 : decode cL_make 3 = .ok (.aload_n 0, 1) := by decide +kernel
theorem dL_make_4 : decode cL_make 4 = .ok (.iload_n 1, 1) := by decide +kernel
theorem dL_make_5 : decode cL_make 5 = .ok (.iload_n 2, 1) := by decide +kernel
theorem dL_make_6 : decode cL_make 6 = .ok (.iload_n 3, 1) := by decide +kernel
theorem dL_make_7 : decode cL_make 7 = .ok (.invokevirtual 7, 3) := by decide +kernel
theorem dL_make_10 : decode cL_make 10 = .ok (.i2l, 1) := by decide +kernel
theorem dL_make_11 : decode cL_make 11 = .ok (.lastore, 1) := by decide +kernel
theorem dL_make_12 : decode cL_make 12 = .ok (.goto 7, 3) := by decide +kernel
theorem dL_make_15 : decode cL_make 15 = .ok (.astore 5, 2) := by decide +kernel
theorem dL_make_17 : decode cL_make 17 = .ok (.iconst 1, 1) := by decide +kernel
theorem dL_make_18 : decode cL_make 18 = .ok (.ireturn, 1) := by decide +kernel
theorem dL_make_19 : decode cL_make 19 = .ok (.iconst 0, 1) := by decide +kernel
theorem dL_make_20 : decode cL_make 20 = .ok (.ireturn, 1) := by decide +kernel
theorem dL_lay_0 : decode cL_lay 0 = .ok (.aload_n 3, 1) := by decide +kernel
theorem dL_lay_1 : decode cL_lay 1 = .ok (.iconst 0, 1) := by decide +kernel
theorem dL_lay_2 : decode cL_lay 2 = .ok (.aload_n 0, 1) := by decide +kernel
theorem dL_lay_3 : decode cL_lay 3 = .ok (.iload_n 1, 1) := by decide +kernel
theorem dL_lay_4 : decode cL_lay 4 = .ok (.iload_n 2, 1) := by decide +kernel
theorem dL_lay_5 : decode cL_lay 5 = .ok (.invokevirtual 15, 3) := by decide +kernel
theorem dL_lay_8 : decode cL_lay 8 = .ok (.i2l, 1) := by decide +kernel
theorem dL_lay_9 : decode cL_lay 9 = .ok (.lastore, 1) := by decide +kernel
theorem dL_lay_10 : decode cL_lay 10 = .ok (.goto 15, 3) := by decide +kernel
theorem dL_lay_13 : decode cL_lay 13 = .ok (.astore 4, 2) := by decide +kernel
theorem dL_lay_15 : decode cL_lay 15 = .ok (.iconst 1, 1) := by decide +kernel
theorem dL_lay_16 : decode cL_lay 16 = .ok (.ireturn, 1) := by decide +kernel
theorem dL_lay_17 : decode cL_lay 17 = .ok (.astore 4, 2) := by decide +kernel
theorem dL_lay_19 : decode cL_lay 19 = .ok (.iconst 2, 1) := by decide +kernel
theorem dL_lay_20 : decode cL_lay 20 = .ok (.ireturn, 1) := by decide +kernel
theorem dL_lay_21 : decode cL_lay 21 = .ok (.astore 4, 2) := by decide +kernel
theorem dL_lay_23 : decode cL_lay 23 = .ok (.iconst 3, 1) := by decide +kernel
theorem dL_lay_24 : decode cL_lay 24 = .ok (.ireturn, 1) := by decide +kernel
theorem dL_lay_25 : decode cL_lay 25 = .ok (.iconst 0, 1) := by decide +kernel
theorem dL_lay_26 : decode cL_lay 26 = .ok (.ireturn, 1) := by decide +kernel
theorem dL_saw_0 : decode cL_saw 0 = .ok (.aload_n 3, 1) := by decide +kernel
theorem dL_saw_1 : decode cL_saw 1 = .ok (.iconst 0, 1) := by decide +kernel
theorem dL_saw_2 : decode cL_saw 2 = .ok (.aload_n 0, 1) := by decide +kernel
theorem dL_saw_3 : decode cL_saw 3 = .ok (.iload_n 1, 1) := by decide +kernel
theorem dL_saw_4 : decode cL_saw 4 = .ok (.iload_n 2, 1) := by decide +kernel
theorem dL_saw_5 : decode cL_saw 5 = .ok (.invokevirtual 23, 3) := by decide +kernel
theorem dL_saw_8 : decode cL_saw 8 = .ok (.i2l, 1) := by decide +kernel
theorem dL_saw_9 : decode cL_saw 9 = .ok (.lastore, 1) := by decide +kernel
theorem dL_saw_10 : decode cL_saw 10 = .ok (.goto 15, 3) := by decide +kernel
theorem dL_saw_13 : decode cL_saw 13 = .ok (.astore 4, 2) := by decide +kernel
theorem dL_saw_15 : decode cL_saw 15 = .ok (.iconst 1, 1) := by decide +kernel
theorem dL_saw_16 : decode cL_saw 16 = .ok (.ireturn, 1) := by decide +kernel
theorem dL_saw_17 : decode cL_saw 17 = .ok (.astore 4, 2) := by decide +kernel
theorem dL_saw_19 : decode cL_saw 19 = .ok (.iconst 2, 1) := by decide +kernel
theorem dL_saw_20 : decode cL_saw 20 = .ok (.ireturn, 1) := by decide +kernel
theorem dL_saw_21 : decode cL_saw 21 = .ok (.astore 4, 2) := by decide +kernel
theorem dL_saw_23 : decode cL_saw 23 = .ok (.iconst 3, 1) := by decide +kernel
theorem dL_saw_24 : decode cL_saw 24 = .ok (.ireturn, 1) := by decide +kernel
theorem dL_saw_25 : decode cL_saw 25 = .ok (.iconst 0, 1) := by decide +kernel
theorem dL_saw_26 : decode cL_saw 26 = .ok (.ireturn, 1) := by decide +kernel
theorem dL_sawAround_0 : decode cL_sawAround 0 = .ok (.aload 4, 2) := by decide +kernel
theorem dL_sawAround_2 : decode cL_sawAround 2 = .ok (.iconst 0, 1) := by decide +kernel
theorem dL_sawAround_3 : decode cL_sawAround 3 = .ok (.aload_n 0, 1) := by decide +kernel
theorem dL_sawAround_4 : decode cL_sawAround 4 = .ok (.iload_n 1, 1) := by decide +kernel
theorem dL_sawAround_5 : decode cL_sawAround 5 = .ok (.iload_n 2, 1) := by decide +kernel
theorem dL_sawAround_6 : decode cL_sawAround 6 = .ok (.iload_n 3, 1) := by decide +kernel
theorem dL_sawAround_7 : decode cL_sawAround 7 = .ok (.invokevirtual 26, 3) := by decide +kernel
theorem dL_sawAround_10 : decode cL_sawAround 10 = .ok (.i2l, 1) := by decide +kernel
theorem dL_sawAround_11 : decode cL_sawAround 11 = .ok (.lastore, 1) := by decide +kernel
theorem dL_sawAround_12 : decode cL_sawAround 12 = .ok (.goto 11, 3) := by decide +kernel
theorem dL_sawAround_15 : decode cL_sawAround 15 = .ok (.astore 5, 2) := by decide +kernel
theorem dL_sawAround_17 : decode cL_sawAround 17 = .ok (.iconst 1, 1) := by decide +kernel
theorem dL_sawAround_18 : decode cL_sawAround 18 = .ok (.ireturn, 1) := by decide +kernel
theorem dL_sawAround_19 : decode cL_sawAround 19 = .ok (.astore 5, 2) := by decide +kernel
theorem dL_sawAround_21 : decode cL_sawAround 21 = .ok (.iconst 2, 1) := by decide +kernel
theorem dL_sawAround_22 : decode cL_sawAround 22 = .ok (.ireturn, 1) := by decide +kernel
theorem dL_sawAround_23 : decode cL_sawAround 23 = .ok (.iconst 0, 1) := by decide +kernel
theorem dL_sawAround_24 : decode cL_sawAround 24 = .ok (.ireturn, 1) := by decide +kernel
theorem dL_takeOut_0 : decode cL_takeOut 0 = .ok (.aload_n 2, 1) := by decide +kernel
theorem dL_takeOut_1 : decode cL_takeOut 1 = .ok (.iconst 0, 1) := by decide +kernel
theorem dL_takeOut_2 : decode cL_takeOut 2 = .ok (.aload_n 0, 1) := by decide +kernel
theorem dL_takeOut_3 : decode cL_takeOut 3 = .ok (.iload_n 1, 1) := by decide +kernel
theorem dL_takeOut_4 : decode cL_takeOut 4 = .ok (.invokevirtual 29, 3) := by decide +kernel
theorem dL_takeOut_7 : decode cL_takeOut 7 = .ok (.i2l, 1) := by decide +kernel
theorem dL_takeOut_8 : decode cL_takeOut 8 = .ok (.lastore, 1) := by decide +kernel
theorem dL_takeOut_9 : decode cL_takeOut 9 = .ok (.goto 9, 3) := by decide +kernel
theorem dL_takeOut_12 : decode cL_takeOut 12 = .ok (.astore_n 3, 1) := by decide +kernel
theorem dL_takeOut_13 : decode cL_takeOut 13 = .ok (.iconst 1, 1) := by decide +kernel
theorem dL_takeOut_14 : decode cL_takeOut 14 = .ok (.ireturn, 1) := by decide +kernel
theorem dL_takeOut_15 : decode cL_takeOut 15 = .ok (.astore_n 3, 1) := by decide +kernel
theorem dL_takeOut_16 : decode cL_takeOut 16 = .ok (.iconst 2, 1) := by decide +kernel
theorem dL_takeOut_17 : decode cL_takeOut 17 = .ok (.ireturn, 1) := by decide +kernel
theorem dL_takeOut_18 : decode cL_takeOut 18 = .ok (.iconst 0, 1) := by decide +kernel
theorem dL_takeOut_19 : decode cL_takeOut 19 = .ok (.ireturn, 1) := by decide +kernel
theorem dL_setMelt_0 : decode cL_setMelt 0 = .ok (.aload_n 2, 1) := by decide +kernel
theorem dL_setMelt_1 : decode cL_setMelt 1 = .ok (.iconst 0, 1) := by decide +kernel
theorem dL_setMelt_2 : decode cL_setMelt 2 = .ok (.aload_n 0, 1) := by decide +kernel
theorem dL_setMelt_3 : decode cL_setMelt 3 = .ok (.iload_n 1, 1) := by decide +kernel
theorem dL_setMelt_4 : decode cL_setMelt 4 = .ok (.invokevirtual 33, 3) := by decide +kernel
theorem dL_setMelt_7 : decode cL_setMelt 7 = .ok (.i2l, 1) := by decide +kernel
theorem dL_setMelt_8 : decode cL_setMelt 8 = .ok (.lastore, 1) := by decide +kernel
theorem dL_setMelt_9 : decode cL_setMelt 9 = .ok (.goto 6, 3) := by decide +kernel
theorem dL_setMelt_12 : decode cL_setMelt 12 = .ok (.astore_n 3, 1) := by decide +kernel
theorem dL_setMelt_13 : decode cL_setMelt 13 = .ok (.iconst 1, 1) := by decide +kernel
theorem dL_setMelt_14 : decode cL_setMelt 14 = .ok (.ireturn, 1) := by decide +kernel
theorem dL_setMelt_15 : decode cL_setMelt 15 = .ok (.iconst 0, 1) := by decide +kernel
theorem dL_setMelt_16 : decode cL_setMelt 16 = .ok (.ireturn, 1) := by decide +kernel
theorem dL_pass_0 : decode cL_pass 0 = .ok (.aload_n 2, 1) := by decide +kernel
theorem dL_pass_1 : decode cL_pass 1 = .ok (.iconst 0, 1) := by decide +kernel
theorem dL_pass_2 : decode cL_pass 2 = .ok (.aload_n 0, 1) := by decide +kernel
theorem dL_pass_3 : decode cL_pass 3 = .ok (.iload_n 1, 1) := by decide +kernel
theorem dL_pass_4 : decode cL_pass 4 = .ok (.invokevirtual 36, 3) := by decide +kernel
theorem dL_pass_7 : decode cL_pass 7 = .ok (.i2l, 1) := by decide +kernel
theorem dL_pass_8 : decode cL_pass 8 = .ok (.lastore, 1) := by decide +kernel
theorem dL_pass_9 : decode cL_pass 9 = .ok (.goto 6, 3) := by decide +kernel
theorem dL_pass_12 : decode cL_pass 12 = .ok (.astore_n 3, 1) := by decide +kernel
theorem dL_pass_13 : decode cL_pass 13 = .ok (.iconst 1, 1) := by decide +kernel
theorem dL_pass_14 : decode cL_pass 14 = .ok (.ireturn, 1) := by decide +kernel
theorem dL_pass_15 : decode cL_pass 15 = .ok (.iconst 0, 1) := by decide +kernel
theorem dL_pass_16 : decode cL_pass 16 = .ok (.ireturn, 1) := by decide +kernel
theorem dL_cell_0 : decode cL_cell 0 = .ok (.aload_n 3, 1) := by decide +kernel
theorem dL_cell_1 : decode cL_cell 1 = .ok (.iconst 0, 1) := by decide +kernel
theorem dL_cell_2 : decode cL_cell 2 = .ok (.aload_n 0, 1) := by decide +kernel
theorem dL_cell_3 : decode cL_cell 3 = .ok (.iload_n 1, 1) := by decide +kernel
theorem dL_cell_4 : decode cL_cell 4 = .ok (.iload_n 2, 1) := by decide +kernel
theorem dL_cell_5 : decode cL_cell 5 = .ok (.invokevirtual 39, 3) := by decide +kernel
theorem dL_cell_8 : decode cL_cell 8 = .ok (.i2l, 1) := by decide +kernel
theorem dL_cell_9 : decode cL_cell 9 = .ok (.lastore, 1) := by decide +kernel
theorem dL_cell_10 : decode cL_cell 10 = .ok (.goto 11, 3) := by decide +kernel
theorem dL_cell_13 : decode cL_cell 13 = .ok (.astore 4, 2) := by decide +kernel
theorem dL_cell_15 : decode cL_cell 15 = .ok (.iconst 1, 1) := by decide +kernel
theorem dL_cell_16 : decode cL_cell 16 = .ok (.ireturn, 1) := by decide +kernel
theorem dL_cell_17 : decode cL_cell 17 = .ok (.astore 4, 2) := by decide +kernel
theorem dL_cell_19 : decode cL_cell 19 = .ok (.iconst 2, 1) := by decide +kernel
theorem dL_cell_20 : decode cL_cell 20 = .ok (.ireturn, 1) := by decide +kernel
theorem dL_cell_21 : decode cL_cell 21 = .ok (.iconst 0, 1) := by decide +kernel
theorem dL_cell_22 : decode cL_cell 22 = .ok (.ireturn, 1) := by decide +kernel
theorem dL_block_0 : decode cL_block 0 = .ok (.aload_n 3, 1) := by decide +kernel
theorem dL_block_1 : decode cL_block 1 = .ok (.iconst 0, 1) := by decide +kernel
theorem dL_block_2 : decode cL_block 2 = .ok (.aload_n 0, 1) := by decide +kernel
theorem dL_block_3 : decode cL_block 3 = .ok (.iload_n 1, 1) := by decide +kernel
theorem dL_block_4 : decode cL_block 4 = .ok (.iload_n 2, 1) := by decide +kernel
theorem dL_block_5 : decode cL_block 5 = .ok (.invokevirtual 42, 3) := by decide +kernel
theorem dL_block_8 : decode cL_block 8 = .ok (.i2l, 1) := by decide +kernel
theorem dL_block_9 : decode cL_block 9 = .ok (.lastore, 1) := by decide +kernel
theorem dL_block_10 : decode cL_block 10 = .ok (.goto 11, 3) := by decide +kernel
theorem dL_block_13 : decode cL_block 13 = .ok (.astore 4, 2) := by decide +kernel
theorem dL_block_15 : decode cL_block 15 = .ok (.iconst 1, 1) := by decide +kernel
theorem dL_block_16 : decode cL_block 16 = .ok (.ireturn, 1) := by decide +kernel
theorem dL_block_17 : decode cL_block 17 = .ok (.astore 4, 2) := by decide +kernel
theorem dL_block_19 : decode cL_block 19 = .ok (.iconst 2, 1) := by decide +kernel
theorem dL_block_20 : decode cL_block 20 = .ok (.ireturn, 1) := by decide +kernel
theorem dL_block_21 : decode cL_block 21 = .ok (.iconst 0, 1) := by decide +kernel
theorem dL_block_22 : decode cL_block 22 = .ok (.ireturn, 1) := by decide +kernel
theorem dL_move_0 : decode cL_move 0 = .ok (.aload_n 3, 1) := by decide +kernel
theorem dL_move_1 : decode cL_move 1 = .ok (.iconst 0, 1) := by decide +kernel
theorem dL_move_2 : decode cL_move 2 = .ok (.aload_n 0, 1) := by decide +kernel
theorem dL_move_3 : decode cL_move 3 = .ok (.iload_n 1, 1) := by decide +kernel
theorem dL_move_4 : decode cL_move 4 = .ok (.iload_n 2, 1) := by decide +kernel
theorem dL_move_5 : decode cL_move 5 = .ok (.invokevirtual 45, 3) := by decide +kernel
theorem dL_move_8 : decode cL_move 8 = .ok (.i2l, 1) := by decide +kernel
theorem dL_move_9 : decode cL_move 9 = .ok (.lastore, 1) := by decide +kernel
theorem dL_move_10 : decode cL_move 10 = .ok (.goto 7, 3) := by decide +kernel
theorem dL_move_13 : decode cL_move 13 = .ok (.astore 4, 2) := by decide +kernel
theorem dL_move_15 : decode cL_move 15 = .ok (.iconst 1, 1) := by decide +kernel
theorem dL_move_16 : decode cL_move 16 = .ok (.ireturn, 1) := by decide +kernel
theorem dL_move_17 : decode cL_move 17 = .ok (.iconst 0, 1) := by decide +kernel
theorem dL_move_18 : decode cL_move 18 = .ok (.ireturn, 1) := by decide +kernel
theorem dL_value_0 : decode cL_value 0 = .ok (.aload_n 2, 1) := by decide +kernel
theorem dL_value_1 : decode cL_value 1 = .ok (.iconst 0, 1) := by decide +kernel
theorem dL_value_2 : decode cL_value 2 = .ok (.aload_n 0, 1) := by decide +kernel
theorem dL_value_3 : decode cL_value 3 = .ok (.iload_n 1, 1) := by decide +kernel
theorem dL_value_4 : decode cL_value 4 = .ok (.invokevirtual 48, 3) := by decide +kernel
theorem dL_value_7 : decode cL_value 7 = .ok (.i2l, 1) := by decide +kernel
theorem dL_value_8 : decode cL_value 8 = .ok (.lastore, 1) := by decide +kernel
theorem dL_value_9 : decode cL_value 9 = .ok (.goto 6, 3) := by decide +kernel
theorem dL_value_12 : decode cL_value 12 = .ok (.astore_n 3, 1) := by decide +kernel
theorem dL_value_13 : decode cL_value 13 = .ok (.iconst 1, 1) := by decide +kernel
theorem dL_value_14 : decode cL_value 14 = .ok (.ireturn, 1) := by decide +kernel
theorem dL_value_15 : decode cL_value 15 = .ok (.iconst 0, 1) := by decide +kernel
theorem dL_value_16 : decode cL_value 16 = .ok (.ireturn, 1) := by decide +kernel
theorem dL_taken_0 : decode cL_taken 0 = .ok (.aload_n 3, 1) := by decide +kernel
theorem dL_taken_1 : decode cL_taken 1 = .ok (.iconst 0, 1) := by decide +kernel
theorem dL_taken_2 : decode cL_taken 2 = .ok (.aload_n 0, 1) := by decide +kernel
theorem dL_taken_3 : decode cL_taken 3 = .ok (.iload_n 1, 1) := by decide +kernel
theorem dL_taken_4 : decode cL_taken 4 = .ok (.iload_n 2, 1) := by decide +kernel
theorem dL_taken_5 : decode cL_taken 5 = .ok (.invokevirtual 51, 3) := by decide +kernel
theorem dL_taken_8 : decode cL_taken 8 = .ok (.i2l, 1) := by decide +kernel
theorem dL_taken_9 : decode cL_taken 9 = .ok (.lastore, 1) := by decide +kernel
theorem dL_taken_10 : decode cL_taken 10 = .ok (.goto 11, 3) := by decide +kernel
theorem dL_taken_13 : decode cL_taken 13 = .ok (.astore 4, 2) := by decide +kernel
theorem dL_taken_15 : decode cL_taken 15 = .ok (.iconst 1, 1) := by decide +kernel
theorem dL_taken_16 : decode cL_taken 16 = .ok (.ireturn, 1) := by decide +kernel
theorem dL_taken_17 : decode cL_taken 17 = .ok (.astore 4, 2) := by decide +kernel
theorem dL_taken_19 : decode cL_taken 19 = .ok (.iconst 2, 1) := by decide +kernel
theorem dL_taken_20 : decode cL_taken 20 = .ok (.ireturn, 1) := by decide +kernel
theorem dL_taken_21 : decode cL_taken 21 = .ok (.iconst 0, 1) := by decide +kernel
theorem dL_taken_22 : decode cL_taken 22 = .ok (.ireturn, 1) := by decide +kernel
theorem dL_cutsAround_0 : decode cL_cutsAround 0 = .ok (.aload 4, 2) := by decide +kernel
theorem dL_cutsAround_2 : decode cL_cutsAround 2 = .ok (.iconst 0, 1) := by decide +kernel
theorem dL_cutsAround_3 : decode cL_cutsAround 3 = .ok (.aload_n 0, 1) := by decide +kernel
theorem dL_cutsAround_4 : decode cL_cutsAround 4 = .ok (.iload_n 1, 1) := by decide +kernel
theorem dL_cutsAround_5 : decode cL_cutsAround 5 = .ok (.iload_n 2, 1) := by decide +kernel
theorem dL_cutsAround_6 : decode cL_cutsAround 6 = .ok (.iload_n 3, 1) := by decide +kernel
theorem dL_cutsAround_7 : decode cL_cutsAround 7 = .ok (.invokevirtual 54, 3) := by decide +kernel
theorem dL_cutsAround_10 : decode cL_cutsAround 10 = .ok (.i2l, 1) := by decide +kernel
theorem dL_cutsAround_11 : decode cL_cutsAround 11 = .ok (.lastore, 1) := by decide +kernel
theorem dL_cutsAround_12 : decode cL_cutsAround 12 = .ok (.goto 11, 3) := by decide +kernel
theorem dL_cutsAround_15 : decode cL_cutsAround 15 = .ok (.astore 5, 2) := by decide +kernel
theorem dL_cutsAround_17 : decode cL_cutsAround 17 = .ok (.iconst 1, 1) := by decide +kernel
theorem dL_cutsAround_18 : decode cL_cutsAround 18 = .ok (.ireturn, 1) := by decide +kernel
theorem dL_cutsAround_19 : decode cL_cutsAround 19 = .ok (.astore 5, 2) := by decide +kernel
theorem dL_cutsAround_21 : decode cL_cutsAround 21 = .ok (.iconst 2, 1) := by decide +kernel
theorem dL_cutsAround_22 : decode cL_cutsAround 22 = .ok (.ireturn, 1) := by decide +kernel
theorem dL_cutsAround_23 : decode cL_cutsAround 23 = .ok (.iconst 0, 1) := by decide +kernel
theorem dL_cutsAround_24 : decode cL_cutsAround 24 = .ok (.ireturn, 1) := by decide +kernel
theorem dL_daysWhole_0 : decode cL_daysWhole 0 = .ok (.aload_n 2, 1) := by decide +kernel
theorem dL_daysWhole_1 : decode cL_daysWhole 1 = .ok (.iconst 0, 1) := by decide +kernel
theorem dL_daysWhole_2 : decode cL_daysWhole 2 = .ok (.aload_n 0, 1) := by decide +kernel
theorem dL_daysWhole_3 : decode cL_daysWhole 3 = .ok (.iload_n 1, 1) := by decide +kernel
theorem dL_daysWhole_4 : decode cL_daysWhole 4 = .ok (.invokevirtual 57, 3) := by decide +kernel
theorem dL_daysWhole_7 : decode cL_daysWhole 7 = .ok (.i2l, 1) := by decide +kernel
theorem dL_daysWhole_8 : decode cL_daysWhole 8 = .ok (.lastore, 1) := by decide +kernel
theorem dL_daysWhole_9 : decode cL_daysWhole 9 = .ok (.goto 6, 3) := by decide +kernel
theorem dL_daysWhole_12 : decode cL_daysWhole 12 = .ok (.astore_n 3, 1) := by decide +kernel
theorem dL_daysWhole_13 : decode cL_daysWhole 13 = .ok (.iconst 1, 1) := by decide +kernel
theorem dL_daysWhole_14 : decode cL_daysWhole 14 = .ok (.ireturn, 1) := by decide +kernel
theorem dL_daysWhole_15 : decode cL_daysWhole 15 = .ok (.iconst 0, 1) := by decide +kernel
theorem dL_daysWhole_16 : decode cL_daysWhole 16 = .ok (.ireturn, 1) := by decide +kernel
theorem dL_append_0 : decode cL_append 0 = .ok (.aload_n 2, 1) := by decide +kernel
theorem dL_append_1 : decode cL_append 1 = .ok (.iconst 0, 1) := by decide +kernel
theorem dL_append_2 : decode cL_append 2 = .ok (.aload_n 0, 1) := by decide +kernel
theorem dL_append_3 : decode cL_append 3 = .ok (.iload_n 1, 1) := by decide +kernel
theorem dL_append_4 : decode cL_append 4 = .ok (.invokevirtual 60, 3) := by decide +kernel
theorem dL_append_7 : decode cL_append 7 = .ok (.i2l, 1) := by decide +kernel
theorem dL_append_8 : decode cL_append 8 = .ok (.lastore, 1) := by decide +kernel
theorem dL_append_9 : decode cL_append 9 = .ok (.goto 9, 3) := by decide +kernel
theorem dL_append_12 : decode cL_append 12 = .ok (.astore_n 3, 1) := by decide +kernel
theorem dL_append_13 : decode cL_append 13 = .ok (.iconst 1, 1) := by decide +kernel
theorem dL_append_14 : decode cL_append 14 = .ok (.ireturn, 1) := by decide +kernel
theorem dL_append_15 : decode cL_append 15 = .ok (.astore_n 3, 1) := by decide +kernel
theorem dL_append_16 : decode cL_append 16 = .ok (.iconst 2, 1) := by decide +kernel
theorem dL_append_17 : decode cL_append 17 = .ok (.ireturn, 1) := by decide +kernel
theorem dL_append_18 : decode cL_append 18 = .ok (.iconst 0, 1) := by decide +kernel
theorem dL_append_19 : decode cL_append 19 = .ok (.ireturn, 1) := by decide +kernel
theorem dL_undo_0 : decode cL_undo 0 = .ok (.aload_n 1, 1) := by decide +kernel
theorem dL_undo_1 : decode cL_undo 1 = .ok (.iconst 0, 1) := by decide +kernel
theorem dL_undo_2 : decode cL_undo 2 = .ok (.aload_n 0, 1) := by decide +kernel
theorem dL_undo_3 : decode cL_undo 3 = .ok (.invokevirtual 63, 3) := by decide +kernel
theorem dL_undo_6 : decode cL_undo 6 = .ok (.i2l, 1) := by decide +kernel
theorem dL_undo_7 : decode cL_undo 7 = .ok (.lastore, 1) := by decide +kernel
theorem dL_undo_8 : decode cL_undo 8 = .ok (.goto 6, 3) := by decide +kernel
theorem dL_undo_11 : decode cL_undo 11 = .ok (.astore_n 2, 1) := by decide +kernel
theorem dL_undo_12 : decode cL_undo 12 = .ok (.iconst 1, 1) := by decide +kernel
theorem dL_undo_13 : decode cL_undo 13 = .ok (.ireturn, 1) := by decide +kernel
theorem dL_undo_14 : decode cL_undo 14 = .ok (.iconst 0, 1) := by decide +kernel
theorem dL_undo_15 : decode cL_undo 15 = .ok (.ireturn, 1) := by decide +kernel
theorem dL_law_0 : decode cL_law 0 = .ok (.new 8, 3) := by decide +kernel
theorem dL_law_3 : decode cL_law 3 = .ok (.dup, 1) := by decide +kernel
theorem dL_law_4 : decode cL_law 4 = .ok (.invokespecial 67, 3) := by decide +kernel
theorem dL_law_7 : decode cL_law 7 = .ok (.astore_n 1, 1) := by decide +kernel
theorem dL_law_8 : decode cL_law 8 = .ok (.new 68, 3) := by decide +kernel
theorem dL_law_11 : decode cL_law 11 = .ok (.dup, 1) := by decide +kernel
theorem dL_law_12 : decode cL_law 12 = .ok (.invokespecial 70, 3) := by decide +kernel
theorem dL_law_15 : decode cL_law 15 = .ok (.astore_n 2, 1) := by decide +kernel
theorem dL_law_16 : decode cL_law 16 = .ok (.iconst 1, 1) := by decide +kernel
theorem dL_law_17 : decode cL_law 17 = .ok (.newarray .long, 2) := by decide +kernel
theorem dL_law_19 : decode cL_law 19 = .ok (.astore_n 3, 1) := by decide +kernel
theorem dL_law_20 : decode cL_law 20 = .ok (.iconst 0, 1) := by decide +kernel
theorem dL_law_21 : decode cL_law 21 = .ok (.istore 4, 2) := by decide +kernel
theorem dL_law_23 : decode cL_law 23 = .ok (.iload 4, 2) := by decide +kernel
theorem dL_law_25 : decode cL_law 25 = .ok (.aload_n 0, 1) := by decide +kernel
theorem dL_law_26 : decode cL_law 26 = .ok (.arraylength, 1) := by decide +kernel
theorem dL_law_27 : decode cL_law 27 = .ok (.iconst 4, 1) := by decide +kernel
theorem dL_law_28 : decode cL_law 28 = .ok (.isub, 1) := by decide +kernel
theorem dL_law_29 : decode cL_law 29 = .ok (.if_icmp .gt 1303, 3) := by decide +kernel
theorem dL_law_32 : decode cL_law 32 = .ok (.aload_n 0, 1) := by decide +kernel
theorem dL_law_33 : decode cL_law 33 = .ok (.iload 4, 2) := by decide +kernel
theorem dL_law_35 : decode cL_law 35 = .ok (.iaload, 1) := by decide +kernel
theorem dL_law_36 : decode cL_law 36 = .ok (.bipush 31, 2) := by decide +kernel
theorem dL_law_38 : decode cL_law 38 = .ok (.iand, 1) := by decide +kernel
theorem dL_law_39 : decode cL_law 39 = .ok (.tableswitch 1287 0 24 #[113, 193, 261, 329, 409, 465, 478, 534, 590, 658, 726, 794, 850, 918, 998, 1011, 1024, 1080, 1093, 1106, 1147, 1203, 1216, 1229, 1273], 113) := by decide +kernel
theorem dL_law_152 : decode cL_law 152 = .ok (.aload_n 1, 1) := by decide +kernel
theorem dL_law_153 : decode cL_law 153 = .ok (.aload_n 0, 1) := by decide +kernel
theorem dL_law_154 : decode cL_law 154 = .ok (.iload 4, 2) := by decide +kernel
theorem dL_law_156 : decode cL_law 156 = .ok (.iconst 1, 1) := by decide +kernel
theorem dL_law_157 : decode cL_law 157 = .ok (.iadd, 1) := by decide +kernel
theorem dL_law_158 : decode cL_law 158 = .ok (.iaload, 1) := by decide +kernel
theorem dL_law_159 : decode cL_law 159 = .ok (.aload_n 0, 1) := by decide +kernel
theorem dL_law_160 : decode cL_law 160 = .ok (.iload 4, 2) := by decide +kernel
theorem dL_law_162 : decode cL_law 162 = .ok (.iconst 2, 1) := by decide +kernel
theorem dL_law_163 : decode cL_law 163 = .ok (.iadd, 1) := by decide +kernel
theorem dL_law_164 : decode cL_law 164 = .ok (.iaload, 1) := by decide +kernel
theorem dL_law_165 : decode cL_law 165 = .ok (.aload_n 0, 1) := by decide +kernel
theorem dL_law_166 : decode cL_law 166 = .ok (.iload 4, 2) := by decide +kernel
theorem dL_law_168 : decode cL_law 168 = .ok (.iconst 3, 1) := by decide +kernel
theorem dL_law_169 : decode cL_law 169 = .ok (.iadd, 1) := by decide +kernel
theorem dL_law_170 : decode cL_law 170 = .ok (.iaload, 1) := by decide +kernel
theorem dL_law_171 : decode cL_law 171 = .ok (.aload_n 3, 1) := by decide +kernel
theorem dL_law_172 : decode cL_law 172 = .ok (.invokestatic 71, 3) := by decide +kernel
theorem dL_law_175 : decode cL_law 175 = .ok (.istore 5, 2) := by decide +kernel
theorem dL_law_177 : decode cL_law 177 = .ok (.aload_n 2, 1) := by decide +kernel
theorem dL_law_178 : decode cL_law 178 = .ok (.aload_n 0, 1) := by decide +kernel
theorem dL_law_179 : decode cL_law 179 = .ok (.iload 4, 2) := by decide +kernel
theorem dL_law_181 : decode cL_law 181 = .ok (.iconst 1, 1) := by decide +kernel
theorem dL_law_182 : decode cL_law 182 = .ok (.iadd, 1) := by decide +kernel
theorem dL_law_183 : decode cL_law 183 = .ok (.iaload, 1) := by decide +kernel
theorem dL_law_184 : decode cL_law 184 = .ok (.aload_n 0, 1) := by decide +kernel
theorem dL_law_185 : decode cL_law 185 = .ok (.iload 4, 2) := by decide +kernel
theorem dL_law_187 : decode cL_law 187 = .ok (.iconst 2, 1) := by decide +kernel
theorem dL_law_188 : decode cL_law 188 = .ok (.iadd, 1) := by decide +kernel
theorem dL_law_189 : decode cL_law 189 = .ok (.iaload, 1) := by decide +kernel
theorem dL_law_190 : decode cL_law 190 = .ok (.aload_n 0, 1) := by decide +kernel
theorem dL_law_191 : decode cL_law 191 = .ok (.iload 4, 2) := by decide +kernel
theorem dL_law_193 : decode cL_law 193 = .ok (.iconst 3, 1) := by decide +kernel
theorem dL_law_194 : decode cL_law 194 = .ok (.iadd, 1) := by decide +kernel
theorem dL_law_195 : decode cL_law 195 = .ok (.iaload, 1) := by decide +kernel
theorem dL_law_196 : decode cL_law 196 = .ok (.invokevirtual 76, 3) := by decide +kernel
theorem dL_law_199 : decode cL_law 199 = .ok (.istore 6, 2) := by decide +kernel
theorem dL_law_201 : decode cL_law 201 = .ok (.aload_n 2, 1) := by decide +kernel
theorem dL_law_202 : decode cL_law 202 = .ok (.invokevirtual 77, 3) := by decide +kernel
theorem dL_law_205 : decode cL_law 205 = .ok (.iload 5, 2) := by decide +kernel
theorem dL_law_207 : decode cL_law 207 = .ok (.if_icmp .eq 5, 3) := by decide +kernel
theorem dL_law_210 : decode cL_law 210 = .ok (.iconst 0, 1) := by decide +kernel
theorem dL_law_211 : decode cL_law 211 = .ok (.ireturn, 1) := by decide +kernel
theorem dL_law_212 : decode cL_law 212 = .ok (.iload 5, 2) := by decide +kernel
theorem dL_law_214 : decode cL_law 214 = .ok (.ifCond .ne 15, 3) := by decide +kernel
theorem dL_law_217 : decode cL_law 217 = .ok (.aload_n 3, 1) := by decide +kernel
theorem dL_law_218 : decode cL_law 218 = .ok (.iconst 0, 1) := by decide +kernel
theorem dL_law_219 : decode cL_law 219 = .ok (.laload, 1) := by decide +kernel
theorem dL_law_220 : decode cL_law 220 = .ok (.iload 6, 2) := by decide +kernel
theorem dL_law_222 : decode cL_law 222 = .ok (.i2l, 1) := by decide +kernel
theorem dL_law_223 : decode cL_law 223 = .ok (.lcmp, 1) := by decide +kernel
theorem dL_law_224 : decode cL_law 224 = .ok (.ifCond .eq 5, 3) := by decide +kernel
theorem dL_law_227 : decode cL_law 227 = .ok (.iconst 0, 1) := by decide +kernel
theorem dL_law_228 : decode cL_law 228 = .ok (.ireturn, 1) := by decide +kernel
theorem dL_law_229 : decode cL_law 229 = .ok (.goto 1097, 3) := by decide +kernel
theorem dL_law_232 : decode cL_law 232 = .ok (.aload_n 1, 1) := by decide +kernel
theorem dL_law_233 : decode cL_law 233 = .ok (.aload_n 0, 1) := by decide +kernel
theorem dL_law_234 : decode cL_law 234 = .ok (.iload 4, 2) := by decide +kernel
theorem dL_law_236 : decode cL_law 236 = .ok (.iconst 1, 1) := by decide +kernel
theorem dL_law_237 : decode cL_law 237 = .ok (.iadd, 1) := by decide +kernel
theorem dL_law_238 : decode cL_law 238 = .ok (.iaload, 1) := by decide +kernel
theorem dL_law_239 : decode cL_law 239 = .ok (.aload_n 0, 1) := by decide +kernel
theorem dL_law_240 : decode cL_law 240 = .ok (.iload 4, 2) := by decide +kernel
theorem dL_law_242 : decode cL_law 242 = .ok (.iconst 2, 1) := by decide +kernel
theorem dL_law_243 : decode cL_law 243 = .ok (.iadd, 1) := by decide +kernel
theorem dL_law_244 : decode cL_law 244 = .ok (.iaload, 1) := by decide +kernel
theorem dL_law_245 : decode cL_law 245 = .ok (.aload_n 3, 1) := by decide +kernel
theorem dL_law_246 : decode cL_law 246 = .ok (.invokestatic 80, 3) := by decide +kernel
theorem dL_law_249 : decode cL_law 249 = .ok (.istore 5, 2) := by decide +kernel
theorem dL_law_251 : decode cL_law 251 = .ok (.aload_n 2, 1) := by decide +kernel
theorem dL_law_252 : decode cL_law 252 = .ok (.aload_n 0, 1) := by decide +kernel
theorem dL_law_253 : decode cL_law 253 = .ok (.iload 4, 2) := by decide +kernel
theorem dL_law_255 : decode cL_law 255 = .ok (.iconst 1, 1) := by decide +kernel
theorem dL_law_256 : decode cL_law 256 = .ok (.iadd, 1) := by decide +kernel
theorem dL_law_257 : decode cL_law 257 = .ok (.iaload, 1) := by decide +kernel
theorem dL_law_258 : decode cL_law 258 = .ok (.aload_n 0, 1) := by decide +kernel
theorem dL_law_259 : decode cL_law 259 = .ok (.iload 4, 2) := by decide +kernel
theorem dL_law_261 : decode cL_law 261 = .ok (.iconst 2, 1) := by decide +kernel
theorem dL_law_262 : decode cL_law 262 = .ok (.iadd, 1) := by decide +kernel
theorem dL_law_263 : decode cL_law 263 = .ok (.iaload, 1) := by decide +kernel
theorem dL_law_264 : decode cL_law 264 = .ok (.invokevirtual 83, 3) := by decide +kernel
theorem dL_law_267 : decode cL_law 267 = .ok (.istore 6, 2) := by decide +kernel
theorem dL_law_269 : decode cL_law 269 = .ok (.aload_n 2, 1) := by decide +kernel
theorem dL_law_270 : decode cL_law 270 = .ok (.invokevirtual 77, 3) := by decide +kernel
theorem dL_law_273 : decode cL_law 273 = .ok (.iload 5, 2) := by decide +kernel
theorem dL_law_275 : decode cL_law 275 = .ok (.if_icmp .eq 5, 3) := by decide +kernel
theorem dL_law_278 : decode cL_law 278 = .ok (.iconst 0, 1) := by decide +kernel
theorem dL_law_279 : decode cL_law 279 = .ok (.ireturn, 1) := by decide +kernel
theorem dL_law_280 : decode cL_law 280 = .ok (.iload 5, 2) := by decide +kernel
theorem dL_law_282 : decode cL_law 282 = .ok (.ifCond .ne 15, 3) := by decide +kernel
theorem dL_law_285 : decode cL_law 285 = .ok (.aload_n 3, 1) := by decide +kernel
theorem dL_law_286 : decode cL_law 286 = .ok (.iconst 0, 1) := by decide +kernel
theorem dL_law_287 : decode cL_law 287 = .ok (.laload, 1) := by decide +kernel
theorem dL_law_288 : decode cL_law 288 = .ok (.iload 6, 2) := by decide +kernel
theorem dL_law_290 : decode cL_law 290 = .ok (.i2l, 1) := by decide +kernel
theorem dL_law_291 : decode cL_law 291 = .ok (.lcmp, 1) := by decide +kernel
theorem dL_law_292 : decode cL_law 292 = .ok (.ifCond .eq 5, 3) := by decide +kernel
theorem dL_law_295 : decode cL_law 295 = .ok (.iconst 0, 1) := by decide +kernel
theorem dL_law_296 : decode cL_law 296 = .ok (.ireturn, 1) := by decide +kernel
theorem dL_law_297 : decode cL_law 297 = .ok (.goto 1029, 3) := by decide +kernel
theorem dL_law_300 : decode cL_law 300 = .ok (.aload_n 1, 1) := by decide +kernel
theorem dL_law_301 : decode cL_law 301 = .ok (.aload_n 0, 1) := by decide +kernel
theorem dL_law_302 : decode cL_law 302 = .ok (.iload 4, 2) := by decide +kernel
theorem dL_law_304 : decode cL_law 304 = .ok (.iconst 1, 1) := by decide +kernel
theorem dL_law_305 : decode cL_law 305 = .ok (.iadd, 1) := by decide +kernel
theorem dL_law_306 : decode cL_law 306 = .ok (.iaload, 1) := by decide +kernel
theorem dL_law_307 : decode cL_law 307 = .ok (.aload_n 0, 1) := by decide +kernel
theorem dL_law_308 : decode cL_law 308 = .ok (.iload 4, 2) := by decide +kernel
theorem dL_law_310 : decode cL_law 310 = .ok (.iconst 2, 1) := by decide +kernel
theorem dL_law_311 : decode cL_law 311 = .ok (.iadd, 1) := by decide +kernel
theorem dL_law_312 : decode cL_law 312 = .ok (.iaload, 1) := by decide +kernel
theorem dL_law_313 : decode cL_law 313 = .ok (.aload_n 3, 1) := by decide +kernel
theorem dL_law_314 : decode cL_law 314 = .ok (.invokestatic 84, 3) := by decide +kernel
theorem dL_law_317 : decode cL_law 317 = .ok (.istore 5, 2) := by decide +kernel
theorem dL_law_319 : decode cL_law 319 = .ok (.aload_n 2, 1) := by decide +kernel
theorem dL_law_320 : decode cL_law 320 = .ok (.aload_n 0, 1) := by decide +kernel
theorem dL_law_321 : decode cL_law 321 = .ok (.iload 4, 2) := by decide +kernel
theorem dL_law_323 : decode cL_law 323 = .ok (.iconst 1, 1) := by decide +kernel
theorem dL_law_324 : decode cL_law 324 = .ok (.iadd, 1) := by decide +kernel
theorem dL_law_325 : decode cL_law 325 = .ok (.iaload, 1) := by decide +kernel
theorem dL_law_326 : decode cL_law 326 = .ok (.aload_n 0, 1) := by decide +kernel
theorem dL_law_327 : decode cL_law 327 = .ok (.iload 4, 2) := by decide +kernel
theorem dL_law_329 : decode cL_law 329 = .ok (.iconst 2, 1) := by decide +kernel
theorem dL_law_330 : decode cL_law 330 = .ok (.iadd, 1) := by decide +kernel
theorem dL_law_331 : decode cL_law 331 = .ok (.iaload, 1) := by decide +kernel
theorem dL_law_332 : decode cL_law 332 = .ok (.invokevirtual 86, 3) := by decide +kernel
theorem dL_law_335 : decode cL_law 335 = .ok (.istore 6, 2) := by decide +kernel
theorem dL_law_337 : decode cL_law 337 = .ok (.aload_n 2, 1) := by decide +kernel
theorem dL_law_338 : decode cL_law 338 = .ok (.invokevirtual 77, 3) := by decide +kernel
theorem dL_law_341 : decode cL_law 341 = .ok (.iload 5, 2) := by decide +kernel
theorem dL_law_343 : decode cL_law 343 = .ok (.if_icmp .eq 5, 3) := by decide +kernel
theorem dL_law_346 : decode cL_law 346 = .ok (.iconst 0, 1) := by decide +kernel
theorem dL_law_347 : decode cL_law 347 = .ok (.ireturn, 1) := by decide +kernel
theorem dL_law_348 : decode cL_law 348 = .ok (.iload 5, 2) := by decide +kernel
theorem dL_law_350 : decode cL_law 350 = .ok (.ifCond .ne 15, 3) := by decide +kernel
theorem dL_law_353 : decode cL_law 353 = .ok (.aload_n 3, 1) := by decide +kernel
theorem dL_law_354 : decode cL_law 354 = .ok (.iconst 0, 1) := by decide +kernel
theorem dL_law_355 : decode cL_law 355 = .ok (.laload, 1) := by decide +kernel
theorem dL_law_356 : decode cL_law 356 = .ok (.iload 6, 2) := by decide +kernel
theorem dL_law_358 : decode cL_law 358 = .ok (.i2l, 1) := by decide +kernel
theorem dL_law_359 : decode cL_law 359 = .ok (.lcmp, 1) := by decide +kernel
theorem dL_law_360 : decode cL_law 360 = .ok (.ifCond .eq 5, 3) := by decide +kernel
theorem dL_law_363 : decode cL_law 363 = .ok (.iconst 0, 1) := by decide +kernel
theorem dL_law_364 : decode cL_law 364 = .ok (.ireturn, 1) := by decide +kernel
theorem dL_law_365 : decode cL_law 365 = .ok (.goto 961, 3) := by decide +kernel
theorem dL_law_368 : decode cL_law 368 = .ok (.aload_n 1, 1) := by decide +kernel
theorem dL_law_369 : decode cL_law 369 = .ok (.aload_n 0, 1) := by decide +kernel
theorem dL_law_370 : decode cL_law 370 = .ok (.iload 4, 2) := by decide +kernel
theorem dL_law_372 : decode cL_law 372 = .ok (.iconst 1, 1) := by decide +kernel
theorem dL_law_373 : decode cL_law 373 = .ok (.iadd, 1) := by decide +kernel
theorem dL_law_374 : decode cL_law 374 = .ok (.iaload, 1) := by decide +kernel
theorem dL_law_375 : decode cL_law 375 = .ok (.aload_n 0, 1) := by decide +kernel
theorem dL_law_376 : decode cL_law 376 = .ok (.iload 4, 2) := by decide +kernel
theorem dL_law_378 : decode cL_law 378 = .ok (.iconst 2, 1) := by decide +kernel
theorem dL_law_379 : decode cL_law 379 = .ok (.iadd, 1) := by decide +kernel
theorem dL_law_380 : decode cL_law 380 = .ok (.iaload, 1) := by decide +kernel
theorem dL_law_381 : decode cL_law 381 = .ok (.aload_n 0, 1) := by decide +kernel
theorem dL_law_382 : decode cL_law 382 = .ok (.iload 4, 2) := by decide +kernel
theorem dL_law_384 : decode cL_law 384 = .ok (.iconst 3, 1) := by decide +kernel
theorem dL_law_385 : decode cL_law 385 = .ok (.iadd, 1) := by decide +kernel
theorem dL_law_386 : decode cL_law 386 = .ok (.iaload, 1) := by decide +kernel
theorem dL_law_387 : decode cL_law 387 = .ok (.aload_n 3, 1) := by decide +kernel
theorem dL_law_388 : decode cL_law 388 = .ok (.invokestatic 87, 3) := by decide +kernel
theorem dL_law_391 : decode cL_law 391 = .ok (.istore 5, 2) := by decide +kernel
theorem dL_law_393 : decode cL_law 393 = .ok (.aload_n 2, 1) := by decide +kernel
theorem dL_law_394 : decode cL_law 394 = .ok (.aload_n 0, 1) := by decide +kernel
theorem dL_law_395 : decode cL_law 395 = .ok (.iload 4, 2) := by decide +kernel
theorem dL_law_397 : decode cL_law 397 = .ok (.iconst 1, 1) := by decide +kernel
theorem dL_law_398 : decode cL_law 398 = .ok (.iadd, 1) := by decide +kernel
theorem dL_law_399 : decode cL_law 399 = .ok (.iaload, 1) := by decide +kernel
theorem dL_law_400 : decode cL_law 400 = .ok (.aload_n 0, 1) := by decide +kernel
theorem dL_law_401 : decode cL_law 401 = .ok (.iload 4, 2) := by decide +kernel
theorem dL_law_403 : decode cL_law 403 = .ok (.iconst 2, 1) := by decide +kernel
theorem dL_law_404 : decode cL_law 404 = .ok (.iadd, 1) := by decide +kernel
theorem dL_law_405 : decode cL_law 405 = .ok (.iaload, 1) := by decide +kernel
theorem dL_law_406 : decode cL_law 406 = .ok (.aload_n 0, 1) := by decide +kernel
theorem dL_law_407 : decode cL_law 407 = .ok (.iload 4, 2) := by decide +kernel
theorem dL_law_409 : decode cL_law 409 = .ok (.iconst 3, 1) := by decide +kernel
theorem dL_law_410 : decode cL_law 410 = .ok (.iadd, 1) := by decide +kernel
theorem dL_law_411 : decode cL_law 411 = .ok (.iaload, 1) := by decide +kernel
theorem dL_law_412 : decode cL_law 412 = .ok (.invokevirtual 89, 3) := by decide +kernel
theorem dL_law_415 : decode cL_law 415 = .ok (.istore 6, 2) := by decide +kernel
theorem dL_law_417 : decode cL_law 417 = .ok (.aload_n 2, 1) := by decide +kernel
theorem dL_law_418 : decode cL_law 418 = .ok (.invokevirtual 77, 3) := by decide +kernel
theorem dL_law_421 : decode cL_law 421 = .ok (.iload 5, 2) := by decide +kernel
theorem dL_law_423 : decode cL_law 423 = .ok (.if_icmp .eq 5, 3) := by decide +kernel
theorem dL_law_426 : decode cL_law 426 = .ok (.iconst 0, 1) := by decide +kernel
theorem dL_law_427 : decode cL_law 427 = .ok (.ireturn, 1) := by decide +kernel
theorem dL_law_428 : decode cL_law 428 = .ok (.iload 5, 2) := by decide +kernel
theorem dL_law_430 : decode cL_law 430 = .ok (.ifCond .ne 15, 3) := by decide +kernel
theorem dL_law_433 : decode cL_law 433 = .ok (.aload_n 3, 1) := by decide +kernel
theorem dL_law_434 : decode cL_law 434 = .ok (.iconst 0, 1) := by decide +kernel
theorem dL_law_435 : decode cL_law 435 = .ok (.laload, 1) := by decide +kernel
theorem dL_law_436 : decode cL_law 436 = .ok (.iload 6, 2) := by decide +kernel
theorem dL_law_438 : decode cL_law 438 = .ok (.i2l, 1) := by decide +kernel
theorem dL_law_439 : decode cL_law 439 = .ok (.lcmp, 1) := by decide +kernel
theorem dL_law_440 : decode cL_law 440 = .ok (.ifCond .eq 5, 3) := by decide +kernel
theorem dL_law_443 : decode cL_law 443 = .ok (.iconst 0, 1) := by decide +kernel
theorem dL_law_444 : decode cL_law 444 = .ok (.ireturn, 1) := by decide +kernel
theorem dL_law_445 : decode cL_law 445 = .ok (.goto 881, 3) := by decide +kernel
theorem dL_law_448 : decode cL_law 448 = .ok (.aload_n 1, 1) := by decide +kernel
theorem dL_law_449 : decode cL_law 449 = .ok (.aload_n 0, 1) := by decide +kernel
theorem dL_law_450 : decode cL_law 450 = .ok (.iload 4, 2) := by decide +kernel
theorem dL_law_452 : decode cL_law 452 = .ok (.iconst 1, 1) := by decide +kernel
theorem dL_law_453 : decode cL_law 453 = .ok (.iadd, 1) := by decide +kernel
theorem dL_law_454 : decode cL_law 454 = .ok (.iaload, 1) := by decide +kernel
theorem dL_law_455 : decode cL_law 455 = .ok (.aload_n 3, 1) := by decide +kernel
theorem dL_law_456 : decode cL_law 456 = .ok (.invokestatic 90, 3) := by decide +kernel
theorem dL_law_459 : decode cL_law 459 = .ok (.istore 5, 2) := by decide +kernel
theorem dL_law_461 : decode cL_law 461 = .ok (.aload_n 2, 1) := by decide +kernel
theorem dL_law_462 : decode cL_law 462 = .ok (.aload_n 0, 1) := by decide +kernel
theorem dL_law_463 : decode cL_law 463 = .ok (.iload 4, 2) := by decide +kernel
theorem dL_law_465 : decode cL_law 465 = .ok (.iconst 1, 1) := by decide +kernel
theorem dL_law_466 : decode cL_law 466 = .ok (.iadd, 1) := by decide +kernel
theorem dL_law_467 : decode cL_law 467 = .ok (.iaload, 1) := by decide +kernel
theorem dL_law_468 : decode cL_law 468 = .ok (.invokevirtual 93, 3) := by decide +kernel
theorem dL_law_471 : decode cL_law 471 = .ok (.istore 6, 2) := by decide +kernel
theorem dL_law_473 : decode cL_law 473 = .ok (.aload_n 2, 1) := by decide +kernel
theorem dL_law_474 : decode cL_law 474 = .ok (.invokevirtual 77, 3) := by decide +kernel
theorem dL_law_477 : decode cL_law 477 = .ok (.iload 5, 2) := by decide +kernel
theorem dL_law_479 : decode cL_law 479 = .ok (.if_icmp .eq 5, 3) := by decide +kernel
theorem dL_law_482 : decode cL_law 482 = .ok (.iconst 0, 1) := by decide +kernel
theorem dL_law_483 : decode cL_law 483 = .ok (.ireturn, 1) := by decide +kernel
theorem dL_law_484 : decode cL_law 484 = .ok (.iload 5, 2) := by decide +kernel
theorem dL_law_486 : decode cL_law 486 = .ok (.ifCond .ne 15, 3) := by decide +kernel
theorem dL_law_489 : decode cL_law 489 = .ok (.aload_n 3, 1) := by decide +kernel
theorem dL_law_490 : decode cL_law 490 = .ok (.iconst 0, 1) := by decide +kernel
theorem dL_law_491 : decode cL_law 491 = .ok (.laload, 1) := by decide +kernel
theorem dL_law_492 : decode cL_law 492 = .ok (.iload 6, 2) := by decide +kernel
theorem dL_law_494 : decode cL_law 494 = .ok (.i2l, 1) := by decide +kernel
theorem dL_law_495 : decode cL_law 495 = .ok (.lcmp, 1) := by decide +kernel
theorem dL_law_496 : decode cL_law 496 = .ok (.ifCond .eq 5, 3) := by decide +kernel
theorem dL_law_499 : decode cL_law 499 = .ok (.iconst 0, 1) := by decide +kernel
theorem dL_law_500 : decode cL_law 500 = .ok (.ireturn, 1) := by decide +kernel
theorem dL_law_501 : decode cL_law 501 = .ok (.goto 825, 3) := by decide +kernel
theorem dL_law_504 : decode cL_law 504 = .ok (.aload_n 1, 1) := by decide +kernel
theorem dL_law_505 : decode cL_law 505 = .ok (.invokevirtual 94, 3) := by decide +kernel
theorem dL_law_508 : decode cL_law 508 = .ok (.aload_n 2, 1) := by decide +kernel
theorem dL_law_509 : decode cL_law 509 = .ok (.invokevirtual 97, 3) := by decide +kernel
theorem dL_law_512 : decode cL_law 512 = .ok (.if_icmp .eq 814, 3) := by decide +kernel
theorem dL_law_515 : decode cL_law 515 = .ok (.iconst 0, 1) := by decide +kernel
theorem dL_law_516 : decode cL_law 516 = .ok (.ireturn, 1) := by decide +kernel
theorem dL_law_517 : decode cL_law 517 = .ok (.aload_n 1, 1) := by decide +kernel
theorem dL_law_518 : decode cL_law 518 = .ok (.aload_n 0, 1) := by decide +kernel
theorem dL_law_519 : decode cL_law 519 = .ok (.iload 4, 2) := by decide +kernel
theorem dL_law_521 : decode cL_law 521 = .ok (.iconst 1, 1) := by decide +kernel
theorem dL_law_522 : decode cL_law 522 = .ok (.iadd, 1) := by decide +kernel
theorem dL_law_523 : decode cL_law 523 = .ok (.iaload, 1) := by decide +kernel
theorem dL_law_524 : decode cL_law 524 = .ok (.aload_n 3, 1) := by decide +kernel
theorem dL_law_525 : decode cL_law 525 = .ok (.invokestatic 98, 3) := by decide +kernel
theorem dL_law_528 : decode cL_law 528 = .ok (.istore 5, 2) := by decide +kernel
theorem dL_law_530 : decode cL_law 530 = .ok (.aload_n 2, 1) := by decide +kernel
theorem dL_law_531 : decode cL_law 531 = .ok (.aload_n 0, 1) := by decide +kernel
theorem dL_law_532 : decode cL_law 532 = .ok (.iload 4, 2) := by decide +kernel
theorem dL_law_534 : decode cL_law 534 = .ok (.iconst 1, 1) := by decide +kernel
theorem dL_law_535 : decode cL_law 535 = .ok (.iadd, 1) := by decide +kernel
theorem dL_law_536 : decode cL_law 536 = .ok (.iaload, 1) := by decide +kernel
theorem dL_law_537 : decode cL_law 537 = .ok (.invokevirtual 100, 3) := by decide +kernel
theorem dL_law_540 : decode cL_law 540 = .ok (.istore 6, 2) := by decide +kernel
theorem dL_law_542 : decode cL_law 542 = .ok (.aload_n 2, 1) := by decide +kernel
theorem dL_law_543 : decode cL_law 543 = .ok (.invokevirtual 77, 3) := by decide +kernel
theorem dL_law_546 : decode cL_law 546 = .ok (.iload 5, 2) := by decide +kernel
theorem dL_law_548 : decode cL_law 548 = .ok (.if_icmp .eq 5, 3) := by decide +kernel
theorem dL_law_551 : decode cL_law 551 = .ok (.iconst 0, 1) := by decide +kernel
theorem dL_law_552 : decode cL_law 552 = .ok (.ireturn, 1) := by decide +kernel
theorem dL_law_553 : decode cL_law 553 = .ok (.iload 5, 2) := by decide +kernel
theorem dL_law_555 : decode cL_law 555 = .ok (.ifCond .ne 15, 3) := by decide +kernel
theorem dL_law_558 : decode cL_law 558 = .ok (.aload_n 3, 1) := by decide +kernel
theorem dL_law_559 : decode cL_law 559 = .ok (.iconst 0, 1) := by decide +kernel
theorem dL_law_560 : decode cL_law 560 = .ok (.laload, 1) := by decide +kernel
theorem dL_law_561 : decode cL_law 561 = .ok (.iload 6, 2) := by decide +kernel
theorem dL_law_563 : decode cL_law 563 = .ok (.i2l, 1) := by decide +kernel
theorem dL_law_564 : decode cL_law 564 = .ok (.lcmp, 1) := by decide +kernel
theorem dL_law_565 : decode cL_law 565 = .ok (.ifCond .eq 5, 3) := by decide +kernel
theorem dL_law_568 : decode cL_law 568 = .ok (.iconst 0, 1) := by decide +kernel
theorem dL_law_569 : decode cL_law 569 = .ok (.ireturn, 1) := by decide +kernel
theorem dL_law_570 : decode cL_law 570 = .ok (.goto 756, 3) := by decide +kernel
theorem dL_law_573 : decode cL_law 573 = .ok (.aload_n 1, 1) := by decide +kernel
theorem dL_law_574 : decode cL_law 574 = .ok (.aload_n 0, 1) := by decide +kernel
theorem dL_law_575 : decode cL_law 575 = .ok (.iload 4, 2) := by decide +kernel
theorem dL_law_577 : decode cL_law 577 = .ok (.iconst 1, 1) := by decide +kernel
theorem dL_law_578 : decode cL_law 578 = .ok (.iadd, 1) := by decide +kernel
theorem dL_law_579 : decode cL_law 579 = .ok (.iaload, 1) := by decide +kernel
theorem dL_law_580 : decode cL_law 580 = .ok (.aload_n 3, 1) := by decide +kernel
theorem dL_law_581 : decode cL_law 581 = .ok (.invokestatic 101, 3) := by decide +kernel
theorem dL_law_584 : decode cL_law 584 = .ok (.istore 5, 2) := by decide +kernel
theorem dL_law_586 : decode cL_law 586 = .ok (.aload_n 2, 1) := by decide +kernel
theorem dL_law_587 : decode cL_law 587 = .ok (.aload_n 0, 1) := by decide +kernel
theorem dL_law_588 : decode cL_law 588 = .ok (.iload 4, 2) := by decide +kernel
theorem dL_law_590 : decode cL_law 590 = .ok (.iconst 1, 1) := by decide +kernel
theorem dL_law_591 : decode cL_law 591 = .ok (.iadd, 1) := by decide +kernel
theorem dL_law_592 : decode cL_law 592 = .ok (.iaload, 1) := by decide +kernel
theorem dL_law_593 : decode cL_law 593 = .ok (.invokevirtual 103, 3) := by decide +kernel
theorem dL_law_596 : decode cL_law 596 = .ok (.istore 6, 2) := by decide +kernel
theorem dL_law_598 : decode cL_law 598 = .ok (.aload_n 2, 1) := by decide +kernel
theorem dL_law_599 : decode cL_law 599 = .ok (.invokevirtual 77, 3) := by decide +kernel
theorem dL_law_602 : decode cL_law 602 = .ok (.iload 5, 2) := by decide +kernel
theorem dL_law_604 : decode cL_law 604 = .ok (.if_icmp .eq 5, 3) := by decide +kernel
theorem dL_law_607 : decode cL_law 607 = .ok (.iconst 0, 1) := by decide +kernel
theorem dL_law_608 : decode cL_law 608 = .ok (.ireturn, 1) := by decide +kernel
theorem dL_law_609 : decode cL_law 609 = .ok (.iload 5, 2) := by decide +kernel
theorem dL_law_611 : decode cL_law 611 = .ok (.ifCond .ne 15, 3) := by decide +kernel
theorem dL_law_614 : decode cL_law 614 = .ok (.aload_n 3, 1) := by decide +kernel
theorem dL_law_615 : decode cL_law 615 = .ok (.iconst 0, 1) := by decide +kernel
theorem dL_law_616 : decode cL_law 616 = .ok (.laload, 1) := by decide +kernel
theorem dL_law_617 : decode cL_law 617 = .ok (.iload 6, 2) := by decide +kernel
theorem dL_law_619 : decode cL_law 619 = .ok (.i2l, 1) := by decide +kernel
theorem dL_law_620 : decode cL_law 620 = .ok (.lcmp, 1) := by decide +kernel
theorem dL_law_621 : decode cL_law 621 = .ok (.ifCond .eq 5, 3) := by decide +kernel
theorem dL_law_624 : decode cL_law 624 = .ok (.iconst 0, 1) := by decide +kernel
theorem dL_law_625 : decode cL_law 625 = .ok (.ireturn, 1) := by decide +kernel
theorem dL_law_626 : decode cL_law 626 = .ok (.goto 700, 3) := by decide +kernel
theorem dL_law_629 : decode cL_law 629 = .ok (.aload_n 1, 1) := by decide +kernel
theorem dL_law_630 : decode cL_law 630 = .ok (.aload_n 0, 1) := by decide +kernel
theorem dL_law_631 : decode cL_law 631 = .ok (.iload 4, 2) := by decide +kernel
theorem dL_law_633 : decode cL_law 633 = .ok (.iconst 1, 1) := by decide +kernel
theorem dL_law_634 : decode cL_law 634 = .ok (.iadd, 1) := by decide +kernel
theorem dL_law_635 : decode cL_law 635 = .ok (.iaload, 1) := by decide +kernel
theorem dL_law_636 : decode cL_law 636 = .ok (.aload_n 0, 1) := by decide +kernel
theorem dL_law_637 : decode cL_law 637 = .ok (.iload 4, 2) := by decide +kernel
theorem dL_law_639 : decode cL_law 639 = .ok (.iconst 2, 1) := by decide +kernel
theorem dL_law_640 : decode cL_law 640 = .ok (.iadd, 1) := by decide +kernel
theorem dL_law_641 : decode cL_law 641 = .ok (.iaload, 1) := by decide +kernel
theorem dL_law_642 : decode cL_law 642 = .ok (.aload_n 3, 1) := by decide +kernel
theorem dL_law_643 : decode cL_law 643 = .ok (.invokestatic 104, 3) := by decide +kernel
theorem dL_law_646 : decode cL_law 646 = .ok (.istore 5, 2) := by decide +kernel
theorem dL_law_648 : decode cL_law 648 = .ok (.aload_n 2, 1) := by decide +kernel
theorem dL_law_649 : decode cL_law 649 = .ok (.aload_n 0, 1) := by decide +kernel
theorem dL_law_650 : decode cL_law 650 = .ok (.iload 4, 2) := by decide +kernel
theorem dL_law_652 : decode cL_law 652 = .ok (.iconst 1, 1) := by decide +kernel
theorem dL_law_653 : decode cL_law 653 = .ok (.iadd, 1) := by decide +kernel
theorem dL_law_654 : decode cL_law 654 = .ok (.iaload, 1) := by decide +kernel
theorem dL_law_655 : decode cL_law 655 = .ok (.aload_n 0, 1) := by decide +kernel
theorem dL_law_656 : decode cL_law 656 = .ok (.iload 4, 2) := by decide +kernel
theorem dL_law_658 : decode cL_law 658 = .ok (.iconst 2, 1) := by decide +kernel
theorem dL_law_659 : decode cL_law 659 = .ok (.iadd, 1) := by decide +kernel
theorem dL_law_660 : decode cL_law 660 = .ok (.iaload, 1) := by decide +kernel
theorem dL_law_661 : decode cL_law 661 = .ok (.invokevirtual 106, 3) := by decide +kernel
theorem dL_law_664 : decode cL_law 664 = .ok (.istore 6, 2) := by decide +kernel
theorem dL_law_666 : decode cL_law 666 = .ok (.aload_n 2, 1) := by decide +kernel
theorem dL_law_667 : decode cL_law 667 = .ok (.invokevirtual 77, 3) := by decide +kernel
theorem dL_law_670 : decode cL_law 670 = .ok (.iload 5, 2) := by decide +kernel
theorem dL_law_672 : decode cL_law 672 = .ok (.if_icmp .eq 5, 3) := by decide +kernel
theorem dL_law_675 : decode cL_law 675 = .ok (.iconst 0, 1) := by decide +kernel
theorem dL_law_676 : decode cL_law 676 = .ok (.ireturn, 1) := by decide +kernel
theorem dL_law_677 : decode cL_law 677 = .ok (.iload 5, 2) := by decide +kernel
theorem dL_law_679 : decode cL_law 679 = .ok (.ifCond .ne 15, 3) := by decide +kernel
theorem dL_law_682 : decode cL_law 682 = .ok (.aload_n 3, 1) := by decide +kernel
theorem dL_law_683 : decode cL_law 683 = .ok (.iconst 0, 1) := by decide +kernel
theorem dL_law_684 : decode cL_law 684 = .ok (.laload, 1) := by decide +kernel
theorem dL_law_685 : decode cL_law 685 = .ok (.iload 6, 2) := by decide +kernel
theorem dL_law_687 : decode cL_law 687 = .ok (.i2l, 1) := by decide +kernel
theorem dL_law_688 : decode cL_law 688 = .ok (.lcmp, 1) := by decide +kernel
theorem dL_law_689 : decode cL_law 689 = .ok (.ifCond .eq 5, 3) := by decide +kernel
theorem dL_law_692 : decode cL_law 692 = .ok (.iconst 0, 1) := by decide +kernel
theorem dL_law_693 : decode cL_law 693 = .ok (.ireturn, 1) := by decide +kernel
theorem dL_law_694 : decode cL_law 694 = .ok (.goto 632, 3) := by decide +kernel
theorem dL_law_697 : decode cL_law 697 = .ok (.aload_n 1, 1) := by decide +kernel
theorem dL_law_698 : decode cL_law 698 = .ok (.aload_n 0, 1) := by decide +kernel
theorem dL_law_699 : decode cL_law 699 = .ok (.iload 4, 2) := by decide +kernel
theorem dL_law_701 : decode cL_law 701 = .ok (.iconst 1, 1) := by decide +kernel
theorem dL_law_702 : decode cL_law 702 = .ok (.iadd, 1) := by decide +kernel
theorem dL_law_703 : decode cL_law 703 = .ok (.iaload, 1) := by decide +kernel
theorem dL_law_704 : decode cL_law 704 = .ok (.aload_n 0, 1) := by decide +kernel
theorem dL_law_705 : decode cL_law 705 = .ok (.iload 4, 2) := by decide +kernel
theorem dL_law_707 : decode cL_law 707 = .ok (.iconst 2, 1) := by decide +kernel
theorem dL_law_708 : decode cL_law 708 = .ok (.iadd, 1) := by decide +kernel
theorem dL_law_709 : decode cL_law 709 = .ok (.iaload, 1) := by decide +kernel
theorem dL_law_710 : decode cL_law 710 = .ok (.aload_n 3, 1) := by decide +kernel
theorem dL_law_711 : decode cL_law 711 = .ok (.invokestatic 107, 3) := by decide +kernel
theorem dL_law_714 : decode cL_law 714 = .ok (.istore 5, 2) := by decide +kernel
theorem dL_law_716 : decode cL_law 716 = .ok (.aload_n 2, 1) := by decide +kernel
theorem dL_law_717 : decode cL_law 717 = .ok (.aload_n 0, 1) := by decide +kernel
theorem dL_law_718 : decode cL_law 718 = .ok (.iload 4, 2) := by decide +kernel
theorem dL_law_720 : decode cL_law 720 = .ok (.iconst 1, 1) := by decide +kernel
theorem dL_law_721 : decode cL_law 721 = .ok (.iadd, 1) := by decide +kernel
theorem dL_law_722 : decode cL_law 722 = .ok (.iaload, 1) := by decide +kernel
theorem dL_law_723 : decode cL_law 723 = .ok (.aload_n 0, 1) := by decide +kernel
theorem dL_law_724 : decode cL_law 724 = .ok (.iload 4, 2) := by decide +kernel
theorem dL_law_726 : decode cL_law 726 = .ok (.iconst 2, 1) := by decide +kernel
theorem dL_law_727 : decode cL_law 727 = .ok (.iadd, 1) := by decide +kernel
theorem dL_law_728 : decode cL_law 728 = .ok (.iaload, 1) := by decide +kernel
theorem dL_law_729 : decode cL_law 729 = .ok (.invokevirtual 109, 3) := by decide +kernel
theorem dL_law_732 : decode cL_law 732 = .ok (.istore 6, 2) := by decide +kernel
theorem dL_law_734 : decode cL_law 734 = .ok (.aload_n 2, 1) := by decide +kernel
theorem dL_law_735 : decode cL_law 735 = .ok (.invokevirtual 77, 3) := by decide +kernel
theorem dL_law_738 : decode cL_law 738 = .ok (.iload 5, 2) := by decide +kernel
theorem dL_law_740 : decode cL_law 740 = .ok (.if_icmp .eq 5, 3) := by decide +kernel
theorem dL_law_743 : decode cL_law 743 = .ok (.iconst 0, 1) := by decide +kernel
theorem dL_law_744 : decode cL_law 744 = .ok (.ireturn, 1) := by decide +kernel
theorem dL_law_745 : decode cL_law 745 = .ok (.iload 5, 2) := by decide +kernel
theorem dL_law_747 : decode cL_law 747 = .ok (.ifCond .ne 15, 3) := by decide +kernel
theorem dL_law_750 : decode cL_law 750 = .ok (.aload_n 3, 1) := by decide +kernel
theorem dL_law_751 : decode cL_law 751 = .ok (.iconst 0, 1) := by decide +kernel
theorem dL_law_752 : decode cL_law 752 = .ok (.laload, 1) := by decide +kernel
theorem dL_law_753 : decode cL_law 753 = .ok (.iload 6, 2) := by decide +kernel
theorem dL_law_755 : decode cL_law 755 = .ok (.i2l, 1) := by decide +kernel
theorem dL_law_756 : decode cL_law 756 = .ok (.lcmp, 1) := by decide +kernel
theorem dL_law_757 : decode cL_law 757 = .ok (.ifCond .eq 5, 3) := by decide +kernel
theorem dL_law_760 : decode cL_law 760 = .ok (.iconst 0, 1) := by decide +kernel
theorem dL_law_761 : decode cL_law 761 = .ok (.ireturn, 1) := by decide +kernel
theorem dL_law_762 : decode cL_law 762 = .ok (.goto 564, 3) := by decide +kernel
theorem dL_law_765 : decode cL_law 765 = .ok (.aload_n 1, 1) := by decide +kernel
theorem dL_law_766 : decode cL_law 766 = .ok (.aload_n 0, 1) := by decide +kernel
theorem dL_law_767 : decode cL_law 767 = .ok (.iload 4, 2) := by decide +kernel
theorem dL_law_769 : decode cL_law 769 = .ok (.iconst 1, 1) := by decide +kernel
theorem dL_law_770 : decode cL_law 770 = .ok (.iadd, 1) := by decide +kernel
theorem dL_law_771 : decode cL_law 771 = .ok (.iaload, 1) := by decide +kernel
theorem dL_law_772 : decode cL_law 772 = .ok (.aload_n 0, 1) := by decide +kernel
theorem dL_law_773 : decode cL_law 773 = .ok (.iload 4, 2) := by decide +kernel
theorem dL_law_775 : decode cL_law 775 = .ok (.iconst 2, 1) := by decide +kernel
theorem dL_law_776 : decode cL_law 776 = .ok (.iadd, 1) := by decide +kernel
theorem dL_law_777 : decode cL_law 777 = .ok (.iaload, 1) := by decide +kernel
theorem dL_law_778 : decode cL_law 778 = .ok (.aload_n 3, 1) := by decide +kernel
theorem dL_law_779 : decode cL_law 779 = .ok (.invokestatic 110, 3) := by decide +kernel
theorem dL_law_782 : decode cL_law 782 = .ok (.istore 5, 2) := by decide +kernel
theorem dL_law_784 : decode cL_law 784 = .ok (.aload_n 2, 1) := by decide +kernel
theorem dL_law_785 : decode cL_law 785 = .ok (.aload_n 0, 1) := by decide +kernel
theorem dL_law_786 : decode cL_law 786 = .ok (.iload 4, 2) := by decide +kernel
theorem dL_law_788 : decode cL_law 788 = .ok (.iconst 1, 1) := by decide +kernel
theorem dL_law_789 : decode cL_law 789 = .ok (.iadd, 1) := by decide +kernel
theorem dL_law_790 : decode cL_law 790 = .ok (.iaload, 1) := by decide +kernel
theorem dL_law_791 : decode cL_law 791 = .ok (.aload_n 0, 1) := by decide +kernel
theorem dL_law_792 : decode cL_law 792 = .ok (.iload 4, 2) := by decide +kernel
theorem dL_law_794 : decode cL_law 794 = .ok (.iconst 2, 1) := by decide +kernel
theorem dL_law_795 : decode cL_law 795 = .ok (.iadd, 1) := by decide +kernel
theorem dL_law_796 : decode cL_law 796 = .ok (.iaload, 1) := by decide +kernel
theorem dL_law_797 : decode cL_law 797 = .ok (.invokevirtual 112, 3) := by decide +kernel
theorem dL_law_800 : decode cL_law 800 = .ok (.istore 6, 2) := by decide +kernel
theorem dL_law_802 : decode cL_law 802 = .ok (.aload_n 2, 1) := by decide +kernel
theorem dL_law_803 : decode cL_law 803 = .ok (.invokevirtual 77, 3) := by decide +kernel
theorem dL_law_806 : decode cL_law 806 = .ok (.iload 5, 2) := by decide +kernel
theorem dL_law_808 : decode cL_law 808 = .ok (.if_icmp .eq 5, 3) := by decide +kernel
theorem dL_law_811 : decode cL_law 811 = .ok (.iconst 0, 1) := by decide +kernel
theorem dL_law_812 : decode cL_law 812 = .ok (.ireturn, 1) := by decide +kernel
theorem dL_law_813 : decode cL_law 813 = .ok (.iload 5, 2) := by decide +kernel
theorem dL_law_815 : decode cL_law 815 = .ok (.ifCond .ne 15, 3) := by decide +kernel
theorem dL_law_818 : decode cL_law 818 = .ok (.aload_n 3, 1) := by decide +kernel
theorem dL_law_819 : decode cL_law 819 = .ok (.iconst 0, 1) := by decide +kernel
theorem dL_law_820 : decode cL_law 820 = .ok (.laload, 1) := by decide +kernel
theorem dL_law_821 : decode cL_law 821 = .ok (.iload 6, 2) := by decide +kernel
theorem dL_law_823 : decode cL_law 823 = .ok (.i2l, 1) := by decide +kernel
theorem dL_law_824 : decode cL_law 824 = .ok (.lcmp, 1) := by decide +kernel
theorem dL_law_825 : decode cL_law 825 = .ok (.ifCond .eq 5, 3) := by decide +kernel
theorem dL_law_828 : decode cL_law 828 = .ok (.iconst 0, 1) := by decide +kernel
theorem dL_law_829 : decode cL_law 829 = .ok (.ireturn, 1) := by decide +kernel
theorem dL_law_830 : decode cL_law 830 = .ok (.goto 496, 3) := by decide +kernel
theorem dL_law_833 : decode cL_law 833 = .ok (.aload_n 1, 1) := by decide +kernel
theorem dL_law_834 : decode cL_law 834 = .ok (.aload_n 0, 1) := by decide +kernel
theorem dL_law_835 : decode cL_law 835 = .ok (.iload 4, 2) := by decide +kernel
theorem dL_law_837 : decode cL_law 837 = .ok (.iconst 1, 1) := by decide +kernel
theorem dL_law_838 : decode cL_law 838 = .ok (.iadd, 1) := by decide +kernel
theorem dL_law_839 : decode cL_law 839 = .ok (.iaload, 1) := by decide +kernel
theorem dL_law_840 : decode cL_law 840 = .ok (.aload_n 3, 1) := by decide +kernel
theorem dL_law_841 : decode cL_law 841 = .ok (.invokestatic 113, 3) := by decide +kernel
theorem dL_law_844 : decode cL_law 844 = .ok (.istore 5, 2) := by decide +kernel
theorem dL_law_846 : decode cL_law 846 = .ok (.aload_n 2, 1) := by decide +kernel
theorem dL_law_847 : decode cL_law 847 = .ok (.aload_n 0, 1) := by decide +kernel
theorem dL_law_848 : decode cL_law 848 = .ok (.iload 4, 2) := by decide +kernel
theorem dL_law_850 : decode cL_law 850 = .ok (.iconst 1, 1) := by decide +kernel
theorem dL_law_851 : decode cL_law 851 = .ok (.iadd, 1) := by decide +kernel
theorem dL_law_852 : decode cL_law 852 = .ok (.iaload, 1) := by decide +kernel
theorem dL_law_853 : decode cL_law 853 = .ok (.invokevirtual 115, 3) := by decide +kernel
theorem dL_law_856 : decode cL_law 856 = .ok (.istore 6, 2) := by decide +kernel
theorem dL_law_858 : decode cL_law 858 = .ok (.aload_n 2, 1) := by decide +kernel
theorem dL_law_859 : decode cL_law 859 = .ok (.invokevirtual 77, 3) := by decide +kernel
theorem dL_law_862 : decode cL_law 862 = .ok (.iload 5, 2) := by decide +kernel
theorem dL_law_864 : decode cL_law 864 = .ok (.if_icmp .eq 5, 3) := by decide +kernel
theorem dL_law_867 : decode cL_law 867 = .ok (.iconst 0, 1) := by decide +kernel
theorem dL_law_868 : decode cL_law 868 = .ok (.ireturn, 1) := by decide +kernel
theorem dL_law_869 : decode cL_law 869 = .ok (.iload 5, 2) := by decide +kernel
theorem dL_law_871 : decode cL_law 871 = .ok (.ifCond .ne 15, 3) := by decide +kernel
theorem dL_law_874 : decode cL_law 874 = .ok (.aload_n 3, 1) := by decide +kernel
theorem dL_law_875 : decode cL_law 875 = .ok (.iconst 0, 1) := by decide +kernel
theorem dL_law_876 : decode cL_law 876 = .ok (.laload, 1) := by decide +kernel
theorem dL_law_877 : decode cL_law 877 = .ok (.iload 6, 2) := by decide +kernel
theorem dL_law_879 : decode cL_law 879 = .ok (.i2l, 1) := by decide +kernel
theorem dL_law_880 : decode cL_law 880 = .ok (.lcmp, 1) := by decide +kernel
theorem dL_law_881 : decode cL_law 881 = .ok (.ifCond .eq 5, 3) := by decide +kernel
theorem dL_law_884 : decode cL_law 884 = .ok (.iconst 0, 1) := by decide +kernel
theorem dL_law_885 : decode cL_law 885 = .ok (.ireturn, 1) := by decide +kernel
theorem dL_law_886 : decode cL_law 886 = .ok (.goto 440, 3) := by decide +kernel
theorem dL_law_889 : decode cL_law 889 = .ok (.aload_n 1, 1) := by decide +kernel
theorem dL_law_890 : decode cL_law 890 = .ok (.aload_n 0, 1) := by decide +kernel
theorem dL_law_891 : decode cL_law 891 = .ok (.iload 4, 2) := by decide +kernel
theorem dL_law_893 : decode cL_law 893 = .ok (.iconst 1, 1) := by decide +kernel
theorem dL_law_894 : decode cL_law 894 = .ok (.iadd, 1) := by decide +kernel
theorem dL_law_895 : decode cL_law 895 = .ok (.iaload, 1) := by decide +kernel
theorem dL_law_896 : decode cL_law 896 = .ok (.aload_n 0, 1) := by decide +kernel
theorem dL_law_897 : decode cL_law 897 = .ok (.iload 4, 2) := by decide +kernel
theorem dL_law_899 : decode cL_law 899 = .ok (.iconst 2, 1) := by decide +kernel
theorem dL_law_900 : decode cL_law 900 = .ok (.iadd, 1) := by decide +kernel
theorem dL_law_901 : decode cL_law 901 = .ok (.iaload, 1) := by decide +kernel
theorem dL_law_902 : decode cL_law 902 = .ok (.aload_n 3, 1) := by decide +kernel
theorem dL_law_903 : decode cL_law 903 = .ok (.invokestatic 116, 3) := by decide +kernel
theorem dL_law_906 : decode cL_law 906 = .ok (.istore 5, 2) := by decide +kernel
theorem dL_law_908 : decode cL_law 908 = .ok (.aload_n 2, 1) := by decide +kernel
theorem dL_law_909 : decode cL_law 909 = .ok (.aload_n 0, 1) := by decide +kernel
theorem dL_law_910 : decode cL_law 910 = .ok (.iload 4, 2) := by decide +kernel
theorem dL_law_912 : decode cL_law 912 = .ok (.iconst 1, 1) := by decide +kernel
theorem dL_law_913 : decode cL_law 913 = .ok (.iadd, 1) := by decide +kernel
theorem dL_law_914 : decode cL_law 914 = .ok (.iaload, 1) := by decide +kernel
theorem dL_law_915 : decode cL_law 915 = .ok (.aload_n 0, 1) := by decide +kernel
theorem dL_law_916 : decode cL_law 916 = .ok (.iload 4, 2) := by decide +kernel
theorem dL_law_918 : decode cL_law 918 = .ok (.iconst 2, 1) := by decide +kernel
theorem dL_law_919 : decode cL_law 919 = .ok (.iadd, 1) := by decide +kernel
theorem dL_law_920 : decode cL_law 920 = .ok (.iaload, 1) := by decide +kernel
theorem dL_law_921 : decode cL_law 921 = .ok (.invokevirtual 118, 3) := by decide +kernel
theorem dL_law_924 : decode cL_law 924 = .ok (.istore 6, 2) := by decide +kernel
theorem dL_law_926 : decode cL_law 926 = .ok (.aload_n 2, 1) := by decide +kernel
theorem dL_law_927 : decode cL_law 927 = .ok (.invokevirtual 77, 3) := by decide +kernel
theorem dL_law_930 : decode cL_law 930 = .ok (.iload 5, 2) := by decide +kernel
theorem dL_law_932 : decode cL_law 932 = .ok (.if_icmp .eq 5, 3) := by decide +kernel
theorem dL_law_935 : decode cL_law 935 = .ok (.iconst 0, 1) := by decide +kernel
theorem dL_law_936 : decode cL_law 936 = .ok (.ireturn, 1) := by decide +kernel
theorem dL_law_937 : decode cL_law 937 = .ok (.iload 5, 2) := by decide +kernel
theorem dL_law_939 : decode cL_law 939 = .ok (.ifCond .ne 15, 3) := by decide +kernel
theorem dL_law_942 : decode cL_law 942 = .ok (.aload_n 3, 1) := by decide +kernel
theorem dL_law_943 : decode cL_law 943 = .ok (.iconst 0, 1) := by decide +kernel
theorem dL_law_944 : decode cL_law 944 = .ok (.laload, 1) := by decide +kernel
theorem dL_law_945 : decode cL_law 945 = .ok (.iload 6, 2) := by decide +kernel
theorem dL_law_947 : decode cL_law 947 = .ok (.i2l, 1) := by decide +kernel
theorem dL_law_948 : decode cL_law 948 = .ok (.lcmp, 1) := by decide +kernel
theorem dL_law_949 : decode cL_law 949 = .ok (.ifCond .eq 5, 3) := by decide +kernel
theorem dL_law_952 : decode cL_law 952 = .ok (.iconst 0, 1) := by decide +kernel
theorem dL_law_953 : decode cL_law 953 = .ok (.ireturn, 1) := by decide +kernel
theorem dL_law_954 : decode cL_law 954 = .ok (.goto 372, 3) := by decide +kernel
theorem dL_law_957 : decode cL_law 957 = .ok (.aload_n 1, 1) := by decide +kernel
theorem dL_law_958 : decode cL_law 958 = .ok (.aload_n 0, 1) := by decide +kernel
theorem dL_law_959 : decode cL_law 959 = .ok (.iload 4, 2) := by decide +kernel
theorem dL_law_961 : decode cL_law 961 = .ok (.iconst 1, 1) := by decide +kernel
theorem dL_law_962 : decode cL_law 962 = .ok (.iadd, 1) := by decide +kernel
theorem dL_law_963 : decode cL_law 963 = .ok (.iaload, 1) := by decide +kernel
theorem dL_law_964 : decode cL_law 964 = .ok (.aload_n 0, 1) := by decide +kernel
theorem dL_law_965 : decode cL_law 965 = .ok (.iload 4, 2) := by decide +kernel
theorem dL_law_967 : decode cL_law 967 = .ok (.iconst 2, 1) := by decide +kernel
theorem dL_law_968 : decode cL_law 968 = .ok (.iadd, 1) := by decide +kernel
theorem dL_law_969 : decode cL_law 969 = .ok (.iaload, 1) := by decide +kernel
theorem dL_law_970 : decode cL_law 970 = .ok (.aload_n 0, 1) := by decide +kernel
theorem dL_law_971 : decode cL_law 971 = .ok (.iload 4, 2) := by decide +kernel
theorem dL_law_973 : decode cL_law 973 = .ok (.iconst 3, 1) := by decide +kernel
theorem dL_law_974 : decode cL_law 974 = .ok (.iadd, 1) := by decide +kernel
theorem dL_law_975 : decode cL_law 975 = .ok (.iaload, 1) := by decide +kernel
theorem dL_law_976 : decode cL_law 976 = .ok (.aload_n 3, 1) := by decide +kernel
theorem dL_law_977 : decode cL_law 977 = .ok (.invokestatic 119, 3) := by decide +kernel
theorem dL_law_980 : decode cL_law 980 = .ok (.istore 5, 2) := by decide +kernel
theorem dL_law_982 : decode cL_law 982 = .ok (.aload_n 2, 1) := by decide +kernel
theorem dL_law_983 : decode cL_law 983 = .ok (.aload_n 0, 1) := by decide +kernel
theorem dL_law_984 : decode cL_law 984 = .ok (.iload 4, 2) := by decide +kernel
theorem dL_law_986 : decode cL_law 986 = .ok (.iconst 1, 1) := by decide +kernel
theorem dL_law_987 : decode cL_law 987 = .ok (.iadd, 1) := by decide +kernel
theorem dL_law_988 : decode cL_law 988 = .ok (.iaload, 1) := by decide +kernel
theorem dL_law_989 : decode cL_law 989 = .ok (.aload_n 0, 1) := by decide +kernel
theorem dL_law_990 : decode cL_law 990 = .ok (.iload 4, 2) := by decide +kernel
theorem dL_law_992 : decode cL_law 992 = .ok (.iconst 2, 1) := by decide +kernel
theorem dL_law_993 : decode cL_law 993 = .ok (.iadd, 1) := by decide +kernel
theorem dL_law_994 : decode cL_law 994 = .ok (.iaload, 1) := by decide +kernel
theorem dL_law_995 : decode cL_law 995 = .ok (.aload_n 0, 1) := by decide +kernel
theorem dL_law_996 : decode cL_law 996 = .ok (.iload 4, 2) := by decide +kernel
theorem dL_law_998 : decode cL_law 998 = .ok (.iconst 3, 1) := by decide +kernel
theorem dL_law_999 : decode cL_law 999 = .ok (.iadd, 1) := by decide +kernel
theorem dL_law_1000 : decode cL_law 1000 = .ok (.iaload, 1) := by decide +kernel
theorem dL_law_1001 : decode cL_law 1001 = .ok (.invokevirtual 121, 3) := by decide +kernel
theorem dL_law_1004 : decode cL_law 1004 = .ok (.istore 6, 2) := by decide +kernel
theorem dL_law_1006 : decode cL_law 1006 = .ok (.aload_n 2, 1) := by decide +kernel
theorem dL_law_1007 : decode cL_law 1007 = .ok (.invokevirtual 77, 3) := by decide +kernel
theorem dL_law_1010 : decode cL_law 1010 = .ok (.iload 5, 2) := by decide +kernel
theorem dL_law_1012 : decode cL_law 1012 = .ok (.if_icmp .eq 5, 3) := by decide +kernel
theorem dL_law_1015 : decode cL_law 1015 = .ok (.iconst 0, 1) := by decide +kernel
theorem dL_law_1016 : decode cL_law 1016 = .ok (.ireturn, 1) := by decide +kernel
theorem dL_law_1017 : decode cL_law 1017 = .ok (.iload 5, 2) := by decide +kernel
theorem dL_law_1019 : decode cL_law 1019 = .ok (.ifCond .ne 15, 3) := by decide +kernel
theorem dL_law_1022 : decode cL_law 1022 = .ok (.aload_n 3, 1) := by decide +kernel
theorem dL_law_1023 : decode cL_law 1023 = .ok (.iconst 0, 1) := by decide +kernel
theorem dL_law_1024 : decode cL_law 1024 = .ok (.laload, 1) := by decide +kernel
theorem dL_law_1025 : decode cL_law 1025 = .ok (.iload 6, 2) := by decide +kernel
theorem dL_law_1027 : decode cL_law 1027 = .ok (.i2l, 1) := by decide +kernel
theorem dL_law_1028 : decode cL_law 1028 = .ok (.lcmp, 1) := by decide +kernel
theorem dL_law_1029 : decode cL_law 1029 = .ok (.ifCond .eq 5, 3) := by decide +kernel
theorem dL_law_1032 : decode cL_law 1032 = .ok (.iconst 0, 1) := by decide +kernel
theorem dL_law_1033 : decode cL_law 1033 = .ok (.ireturn, 1) := by decide +kernel
theorem dL_law_1034 : decode cL_law 1034 = .ok (.goto 292, 3) := by decide +kernel
theorem dL_law_1037 : decode cL_law 1037 = .ok (.aload_n 1, 1) := by decide +kernel
theorem dL_law_1038 : decode cL_law 1038 = .ok (.invokevirtual 122, 3) := by decide +kernel
theorem dL_law_1041 : decode cL_law 1041 = .ok (.aload_n 2, 1) := by decide +kernel
theorem dL_law_1042 : decode cL_law 1042 = .ok (.invokevirtual 125, 3) := by decide +kernel
theorem dL_law_1045 : decode cL_law 1045 = .ok (.if_icmp .eq 281, 3) := by decide +kernel
theorem dL_law_1048 : decode cL_law 1048 = .ok (.iconst 0, 1) := by decide +kernel
theorem dL_law_1049 : decode cL_law 1049 = .ok (.ireturn, 1) := by decide +kernel
theorem dL_law_1050 : decode cL_law 1050 = .ok (.aload_n 1, 1) := by decide +kernel
theorem dL_law_1051 : decode cL_law 1051 = .ok (.invokevirtual 126, 3) := by decide +kernel
theorem dL_law_1054 : decode cL_law 1054 = .ok (.aload_n 2, 1) := by decide +kernel
theorem dL_law_1055 : decode cL_law 1055 = .ok (.invokevirtual 129, 3) := by decide +kernel
theorem dL_law_1058 : decode cL_law 1058 = .ok (.if_icmp .eq 268, 3) := by decide +kernel
theorem dL_law_1061 : decode cL_law 1061 = .ok (.iconst 0, 1) := by decide +kernel
theorem dL_law_1062 : decode cL_law 1062 = .ok (.ireturn, 1) := by decide +kernel
theorem dL_law_1063 : decode cL_law 1063 = .ok (.aload_n 1, 1) := by decide +kernel
theorem dL_law_1064 : decode cL_law 1064 = .ok (.aload_n 0, 1) := by decide +kernel
theorem dL_law_1065 : decode cL_law 1065 = .ok (.iload 4, 2) := by decide +kernel
theorem dL_law_1067 : decode cL_law 1067 = .ok (.iconst 1, 1) := by decide +kernel
theorem dL_law_1068 : decode cL_law 1068 = .ok (.iadd, 1) := by decide +kernel
theorem dL_law_1069 : decode cL_law 1069 = .ok (.iaload, 1) := by decide +kernel
theorem dL_law_1070 : decode cL_law 1070 = .ok (.aload_n 3, 1) := by decide +kernel
theorem dL_law_1071 : decode cL_law 1071 = .ok (.invokestatic 130, 3) := by decide +kernel
theorem dL_law_1074 : decode cL_law 1074 = .ok (.istore 5, 2) := by decide +kernel
theorem dL_law_1076 : decode cL_law 1076 = .ok (.aload_n 2, 1) := by decide +kernel
theorem dL_law_1077 : decode cL_law 1077 = .ok (.aload_n 0, 1) := by decide +kernel
theorem dL_law_1078 : decode cL_law 1078 = .ok (.iload 4, 2) := by decide +kernel
theorem dL_law_1080 : decode cL_law 1080 = .ok (.iconst 1, 1) := by decide +kernel
theorem dL_law_1081 : decode cL_law 1081 = .ok (.iadd, 1) := by decide +kernel
theorem dL_law_1082 : decode cL_law 1082 = .ok (.iaload, 1) := by decide +kernel
theorem dL_law_1083 : decode cL_law 1083 = .ok (.invokevirtual 132, 3) := by decide +kernel
theorem dL_law_1086 : decode cL_law 1086 = .ok (.istore 6, 2) := by decide +kernel
theorem dL_law_1088 : decode cL_law 1088 = .ok (.aload_n 2, 1) := by decide +kernel
theorem dL_law_1089 : decode cL_law 1089 = .ok (.invokevirtual 77, 3) := by decide +kernel
theorem dL_law_1092 : decode cL_law 1092 = .ok (.iload 5, 2) := by decide +kernel
theorem dL_law_1094 : decode cL_law 1094 = .ok (.if_icmp .eq 5, 3) := by decide +kernel
theorem dL_law_1097 : decode cL_law 1097 = .ok (.iconst 0, 1) := by decide +kernel
theorem dL_law_1098 : decode cL_law 1098 = .ok (.ireturn, 1) := by decide +kernel
theorem dL_law_1099 : decode cL_law 1099 = .ok (.iload 5, 2) := by decide +kernel
theorem dL_law_1101 : decode cL_law 1101 = .ok (.ifCond .ne 15, 3) := by decide +kernel
theorem dL_law_1104 : decode cL_law 1104 = .ok (.aload_n 3, 1) := by decide +kernel
theorem dL_law_1105 : decode cL_law 1105 = .ok (.iconst 0, 1) := by decide +kernel
theorem dL_law_1106 : decode cL_law 1106 = .ok (.laload, 1) := by decide +kernel
theorem dL_law_1107 : decode cL_law 1107 = .ok (.iload 6, 2) := by decide +kernel
theorem dL_law_1109 : decode cL_law 1109 = .ok (.i2l, 1) := by decide +kernel
theorem dL_law_1110 : decode cL_law 1110 = .ok (.lcmp, 1) := by decide +kernel
theorem dL_law_1111 : decode cL_law 1111 = .ok (.ifCond .eq 5, 3) := by decide +kernel
theorem dL_law_1114 : decode cL_law 1114 = .ok (.iconst 0, 1) := by decide +kernel
theorem dL_law_1115 : decode cL_law 1115 = .ok (.ireturn, 1) := by decide +kernel
theorem dL_law_1116 : decode cL_law 1116 = .ok (.goto 210, 3) := by decide +kernel
theorem dL_law_1119 : decode cL_law 1119 = .ok (.aload_n 1, 1) := by decide +kernel
theorem dL_law_1120 : decode cL_law 1120 = .ok (.invokevirtual 133, 3) := by decide +kernel
theorem dL_law_1123 : decode cL_law 1123 = .ok (.aload_n 2, 1) := by decide +kernel
theorem dL_law_1124 : decode cL_law 1124 = .ok (.invokevirtual 136, 3) := by decide +kernel
theorem dL_law_1127 : decode cL_law 1127 = .ok (.if_icmp .eq 199, 3) := by decide +kernel
theorem dL_law_1130 : decode cL_law 1130 = .ok (.iconst 0, 1) := by decide +kernel
theorem dL_law_1131 : decode cL_law 1131 = .ok (.ireturn, 1) := by decide +kernel
theorem dL_law_1132 : decode cL_law 1132 = .ok (.aload_n 1, 1) := by decide +kernel
theorem dL_law_1133 : decode cL_law 1133 = .ok (.invokevirtual 137, 3) := by decide +kernel
theorem dL_law_1136 : decode cL_law 1136 = .ok (.aload_n 2, 1) := by decide +kernel
theorem dL_law_1137 : decode cL_law 1137 = .ok (.invokevirtual 140, 3) := by decide +kernel
theorem dL_law_1140 : decode cL_law 1140 = .ok (.if_icmp .eq 186, 3) := by decide +kernel
theorem dL_law_1143 : decode cL_law 1143 = .ok (.iconst 0, 1) := by decide +kernel
theorem dL_law_1144 : decode cL_law 1144 = .ok (.ireturn, 1) := by decide +kernel
theorem dL_law_1145 : decode cL_law 1145 = .ok (.aload_n 1, 1) := by decide +kernel
theorem dL_law_1146 : decode cL_law 1146 = .ok (.invokevirtual 141, 3) := by decide +kernel
theorem dL_law_1149 : decode cL_law 1149 = .ok (.dstore 5, 2) := by decide +kernel
theorem dL_law_1151 : decode cL_law 1151 = .ok (.aload_n 2, 1) := by decide +kernel
theorem dL_law_1152 : decode cL_law 1152 = .ok (.invokevirtual 145, 3) := by decide +kernel
theorem dL_law_1155 : decode cL_law 1155 = .ok (.dstore 7, 2) := by decide +kernel
theorem dL_law_1157 : decode cL_law 1157 = .ok (.dload 5, 2) := by decide +kernel
theorem dL_law_1159 : decode cL_law 1159 = .ok (.dload 7, 2) := by decide +kernel
theorem dL_law_1161 : decode cL_law 1161 = .ok (.dcmp .l, 1) := by decide +kernel
theorem dL_law_1162 : decode cL_law 1162 = .ok (.ifCond .eq 21, 3) := by decide +kernel
theorem dL_law_1165 : decode cL_law 1165 = .ok (.dload 5, 2) := by decide +kernel
theorem dL_law_1167 : decode cL_law 1167 = .ok (.dload 5, 2) := by decide +kernel
theorem dL_law_1169 : decode cL_law 1169 = .ok (.dcmp .l, 1) := by decide +kernel
theorem dL_law_1170 : decode cL_law 1170 = .ok (.ifCond .eq 11, 3) := by decide +kernel
theorem dL_law_1173 : decode cL_law 1173 = .ok (.dload 7, 2) := by decide +kernel
theorem dL_law_1175 : decode cL_law 1175 = .ok (.dload 7, 2) := by decide +kernel
theorem dL_law_1177 : decode cL_law 1177 = .ok (.dcmp .l, 1) := by decide +kernel
theorem dL_law_1178 : decode cL_law 1178 = .ok (.ifCond .ne 5, 3) := by decide +kernel
theorem dL_law_1181 : decode cL_law 1181 = .ok (.iconst 0, 1) := by decide +kernel
theorem dL_law_1182 : decode cL_law 1182 = .ok (.ireturn, 1) := by decide +kernel
theorem dL_law_1183 : decode cL_law 1183 = .ok (.goto 143, 3) := by decide +kernel
theorem dL_law_1186 : decode cL_law 1186 = .ok (.aload_n 1, 1) := by decide +kernel
theorem dL_law_1187 : decode cL_law 1187 = .ok (.aload_n 0, 1) := by decide +kernel
theorem dL_law_1188 : decode cL_law 1188 = .ok (.iload 4, 2) := by decide +kernel
theorem dL_law_1190 : decode cL_law 1190 = .ok (.iconst 1, 1) := by decide +kernel
theorem dL_law_1191 : decode cL_law 1191 = .ok (.iadd, 1) := by decide +kernel
theorem dL_law_1192 : decode cL_law 1192 = .ok (.iaload, 1) := by decide +kernel
theorem dL_law_1193 : decode cL_law 1193 = .ok (.aload_n 3, 1) := by decide +kernel
theorem dL_law_1194 : decode cL_law 1194 = .ok (.invokestatic 146, 3) := by decide +kernel
theorem dL_law_1197 : decode cL_law 1197 = .ok (.istore 5, 2) := by decide +kernel
theorem dL_law_1199 : decode cL_law 1199 = .ok (.aload_n 2, 1) := by decide +kernel
theorem dL_law_1200 : decode cL_law 1200 = .ok (.aload_n 0, 1) := by decide +kernel
theorem dL_law_1201 : decode cL_law 1201 = .ok (.iload 4, 2) := by decide +kernel
theorem dL_law_1203 : decode cL_law 1203 = .ok (.iconst 1, 1) := by decide +kernel
theorem dL_law_1204 : decode cL_law 1204 = .ok (.iadd, 1) := by decide +kernel
theorem dL_law_1205 : decode cL_law 1205 = .ok (.iaload, 1) := by decide +kernel
theorem dL_law_1206 : decode cL_law 1206 = .ok (.invokevirtual 148, 3) := by decide +kernel
theorem dL_law_1209 : decode cL_law 1209 = .ok (.istore 6, 2) := by decide +kernel
theorem dL_law_1211 : decode cL_law 1211 = .ok (.aload_n 2, 1) := by decide +kernel
theorem dL_law_1212 : decode cL_law 1212 = .ok (.invokevirtual 77, 3) := by decide +kernel
theorem dL_law_1215 : decode cL_law 1215 = .ok (.iload 5, 2) := by decide +kernel
theorem dL_law_1217 : decode cL_law 1217 = .ok (.if_icmp .eq 5, 3) := by decide +kernel
theorem dL_law_1220 : decode cL_law 1220 = .ok (.iconst 0, 1) := by decide +kernel
theorem dL_law_1221 : decode cL_law 1221 = .ok (.ireturn, 1) := by decide +kernel
theorem dL_law_1222 : decode cL_law 1222 = .ok (.iload 5, 2) := by decide +kernel
theorem dL_law_1224 : decode cL_law 1224 = .ok (.ifCond .ne 15, 3) := by decide +kernel
theorem dL_law_1227 : decode cL_law 1227 = .ok (.aload_n 3, 1) := by decide +kernel
theorem dL_law_1228 : decode cL_law 1228 = .ok (.iconst 0, 1) := by decide +kernel
theorem dL_law_1229 : decode cL_law 1229 = .ok (.laload, 1) := by decide +kernel
theorem dL_law_1230 : decode cL_law 1230 = .ok (.iload 6, 2) := by decide +kernel
theorem dL_law_1232 : decode cL_law 1232 = .ok (.i2l, 1) := by decide +kernel
theorem dL_law_1233 : decode cL_law 1233 = .ok (.lcmp, 1) := by decide +kernel
theorem dL_law_1234 : decode cL_law 1234 = .ok (.ifCond .eq 5, 3) := by decide +kernel
theorem dL_law_1237 : decode cL_law 1237 = .ok (.iconst 0, 1) := by decide +kernel
theorem dL_law_1238 : decode cL_law 1238 = .ok (.ireturn, 1) := by decide +kernel
theorem dL_law_1239 : decode cL_law 1239 = .ok (.goto 87, 3) := by decide +kernel
theorem dL_law_1242 : decode cL_law 1242 = .ok (.aload_n 1, 1) := by decide +kernel
theorem dL_law_1243 : decode cL_law 1243 = .ok (.invokevirtual 149, 3) := by decide +kernel
theorem dL_law_1246 : decode cL_law 1246 = .ok (.aload_n 2, 1) := by decide +kernel
theorem dL_law_1247 : decode cL_law 1247 = .ok (.invokevirtual 152, 3) := by decide +kernel
theorem dL_law_1250 : decode cL_law 1250 = .ok (.if_icmp .eq 76, 3) := by decide +kernel
theorem dL_law_1253 : decode cL_law 1253 = .ok (.iconst 0, 1) := by decide +kernel
theorem dL_law_1254 : decode cL_law 1254 = .ok (.ireturn, 1) := by decide +kernel
theorem dL_law_1255 : decode cL_law 1255 = .ok (.aload_n 1, 1) := by decide +kernel
theorem dL_law_1256 : decode cL_law 1256 = .ok (.invokevirtual 153, 3) := by decide +kernel
theorem dL_law_1259 : decode cL_law 1259 = .ok (.aload_n 2, 1) := by decide +kernel
theorem dL_law_1260 : decode cL_law 1260 = .ok (.invokevirtual 156, 3) := by decide +kernel
theorem dL_law_1263 : decode cL_law 1263 = .ok (.if_icmp .eq 63, 3) := by decide +kernel
theorem dL_law_1266 : decode cL_law 1266 = .ok (.iconst 0, 1) := by decide +kernel
theorem dL_law_1267 : decode cL_law 1267 = .ok (.ireturn, 1) := by decide +kernel
theorem dL_law_1268 : decode cL_law 1268 = .ok (.aload_n 1, 1) := by decide +kernel
theorem dL_law_1269 : decode cL_law 1269 = .ok (.aload_n 3, 1) := by decide +kernel
theorem dL_law_1270 : decode cL_law 1270 = .ok (.invokestatic 157, 3) := by decide +kernel
theorem dL_law_1273 : decode cL_law 1273 = .ok (.istore 5, 2) := by decide +kernel
theorem dL_law_1275 : decode cL_law 1275 = .ok (.aload_n 2, 1) := by decide +kernel
theorem dL_law_1276 : decode cL_law 1276 = .ok (.invokevirtual 160, 3) := by decide +kernel
theorem dL_law_1279 : decode cL_law 1279 = .ok (.istore 6, 2) := by decide +kernel
theorem dL_law_1281 : decode cL_law 1281 = .ok (.aload_n 2, 1) := by decide +kernel
theorem dL_law_1282 : decode cL_law 1282 = .ok (.invokevirtual 77, 3) := by decide +kernel
theorem dL_law_1285 : decode cL_law 1285 = .ok (.iload 5, 2) := by decide +kernel
theorem dL_law_1287 : decode cL_law 1287 = .ok (.if_icmp .eq 5, 3) := by decide +kernel
theorem dL_law_1290 : decode cL_law 1290 = .ok (.iconst 0, 1) := by decide +kernel
theorem dL_law_1291 : decode cL_law 1291 = .ok (.ireturn, 1) := by decide +kernel
theorem dL_law_1292 : decode cL_law 1292 = .ok (.iload 5, 2) := by decide +kernel
theorem dL_law_1294 : decode cL_law 1294 = .ok (.ifCond .ne 15, 3) := by decide +kernel
theorem dL_law_1297 : decode cL_law 1297 = .ok (.aload_n 3, 1) := by decide +kernel
theorem dL_law_1298 : decode cL_law 1298 = .ok (.iconst 0, 1) := by decide +kernel
theorem dL_law_1299 : decode cL_law 1299 = .ok (.laload, 1) := by decide +kernel
theorem dL_law_1300 : decode cL_law 1300 = .ok (.iload 6, 2) := by decide +kernel
theorem dL_law_1302 : decode cL_law 1302 = .ok (.i2l, 1) := by decide +kernel
theorem dL_law_1303 : decode cL_law 1303 = .ok (.lcmp, 1) := by decide +kernel
theorem dL_law_1304 : decode cL_law 1304 = .ok (.ifCond .eq 5, 3) := by decide +kernel
theorem dL_law_1307 : decode cL_law 1307 = .ok (.iconst 0, 1) := by decide +kernel
theorem dL_law_1308 : decode cL_law 1308 = .ok (.ireturn, 1) := by decide +kernel
theorem dL_law_1309 : decode cL_law 1309 = .ok (.goto 17, 3) := by decide +kernel
theorem dL_law_1312 : decode cL_law 1312 = .ok (.aload_n 1, 1) := by decide +kernel
theorem dL_law_1313 : decode cL_law 1313 = .ok (.invokevirtual 161, 3) := by decide +kernel
theorem dL_law_1316 : decode cL_law 1316 = .ok (.aload_n 2, 1) := by decide +kernel
theorem dL_law_1317 : decode cL_law 1317 = .ok (.invokevirtual 165, 3) := by decide +kernel
theorem dL_law_1320 : decode cL_law 1320 = .ok (.lcmp, 1) := by decide +kernel
theorem dL_law_1321 : decode cL_law 1321 = .ok (.ifCond .eq 5, 3) := by decide +kernel
theorem dL_law_1324 : decode cL_law 1324 = .ok (.iconst 0, 1) := by decide +kernel
theorem dL_law_1325 : decode cL_law 1325 = .ok (.ireturn, 1) := by decide +kernel
theorem dL_law_1326 : decode cL_law 1326 = .ok (.iinc 4 4, 3) := by decide +kernel
theorem dL_law_1329 : decode cL_law 1329 = .ok (.goto (-1306), 3) := by decide +kernel
theorem dL_law_1332 : decode cL_law 1332 = .ok (.iconst 1, 1) := by decide +kernel
theorem dL_law_1333 : decode cL_law 1333 = .ok (.ireturn, 1) := by decide +kernel
end
section
/-! the words of every method: those of the tables that keep -/
def W0 : List Cond := lw_tbl.filter goodWord
theorem W0_in {w : Cond} (h : w ∈ lw_tbl) (g : goodWord w = true) : w ∈ W0 := List.mem_filter.mpr ⟨h, g⟩
theorem W0_tbl {w : Cond} (h : w ∈ W0) : w ∈ lw_tbl := (List.mem_filter.mp h).1
theorem W0_good {w : Cond} (h : w ∈ W0) : goodWord w = true := (List.mem_filter.mp h).2
theorem W0_at {i : Nat} {w : Cond} (h : tables_1[i]? = some w) (g : goodWord w = true) : w ∈ W0 := W0_in (List.mem_append_right _ (List.mem_of_getElem? h)) g
theorem W0_se {i : Nat} {w : Cond} (h : (k2_sels lw_privs)[i]? = some w) (g : goodWord w = true) : w ∈ W0 := W0_in (List.mem_append_left _ (List.mem_of_getElem? h)) g
abbrev ws_ (y : MethodName) (cc : ByteArray) (n : Nat) (ret : Option FieldType) : List Cond := Cond.code y cc n ret :: W0
abbrev wsW_ (y : MethodName) (cc : ByteArray) (n : Nat) (ret : Option FieldType) (hh : List (Nat × Nat × Nat × Nat)) : List Cond := Cond.codeWith y cc n ret hh :: W0
theorem W0_cons {x : Cond} (h : x ∈ W0) : GoodIn W0 (x :: W0) := fun w hw => by
  rcases List.mem_cons.mp hw with e | hw
  · rw [e]; exact ⟨h, good_of_word (W0_good h)⟩
  · exact ⟨hw, good_of_word (W0_good hw)⟩
theorem W0_app {a : List Cond} (h : ∀ w ∈ a, w ∈ W0) {b : List Cond} (hb : GoodIn W0 b) : GoodIn W0 (a ++ b) := fun w hw => by
  rcases List.mem_append.mp hw with hw | hw
  · exact ⟨h w hw, good_of_word (W0_good (h w hw))⟩
  · exact hb w hw
/-! the pool: its skeleton Z (addresses, kinds, references, lengths, arrays of references) and what moves M (ints of objects by field and address, int arrays, long arrays) -/
abbrev EE : Type := va_G × ClassId × ClassId × ClassId
abbrev ZZ : Type := List Nat × (Nat → Nat) × (Nat → Nat → Option Nat) × (Nat → Nat) × (Nat → Nat → Option Nat)
abbrev MM : Type := (Nat → Nat → Int32) × (Nat → Nat → Int32) × (Nat → Nat → Int64)
abbrev zK (Z : ZZ) : Nat → Nat := Z.2.1
abbrev zR (Z : ZZ) : Nat → Nat → Option Nat := Z.2.2.1
abbrev zN (Z : ZZ) : Nat → Nat := Z.2.2.2.1
abbrev zG (Z : ZZ) : Nat → Nat → Option Nat := Z.2.2.2.2
abbrev mI (M : MM) : Nat → Nat → Int32 := M.1
abbrev mA (M : MM) : Nat → Nat → Int32 := M.2.1
abbrev mJ (M : MM) : Nat → Nat → Int64 := M.2.2
def setI (M : MM) (f a : Nat) (x : Int32) : MM := (va_up M.1 f (va_up (M.1 f) a x), M.2)
def setA (M : MM) (a : Nat) (f : Nat → Int32) : MM := (M.1, va_up M.2.1 a f, M.2.2)
def setJ (M : MM) (a : Nat) (f : Nat → Int64) : MM := (M.1, M.2.1, va_up M.2.2 a f)
theorem setI_at (M : MM) (f a g : Nat) (x : Int32) : (setI M f a x).1 g a = if g = f then x else M.1 g a := by
  by_cases h : g = f
  · subst h; simp [setI, va_up]
  · simp [setI, va_up, h]
theorem setI_ne (M : MM) (f a g : Nat) (x : Int32) {b : Nat} (h : b ≠ a) : (setI M f a x).1 g b = M.1 g b := by
  by_cases h2 : g = f
  · subst h2; simp [setI, va_up, h]
  · simp [setI, va_up, h2]
theorem setI_2 (M : MM) (f a : Nat) (x : Int32) : (setI M f a x).2 = M.2 := rfl
def cellOf (E : EE) (Z : ZZ) (M : MM) (a : Nat) : va_E := match zK Z a with
  | 0 => .inr (0, [va_rf (zR Z 0 a), va_rf (zR Z 1 a), va_rf (zR Z 2 a)])
  | 1 => .inr (1, [.int (mI M 0 a), .int (mI M 1 a), .int (mI M 2 a), .int (mI M 3 a), .int (mI M 4 a), .int (mI M 5 a), .int (mI M 6 a), .int (mI M 7 a), va_rf (zR Z 3 a), va_rf (zR Z 4 a), va_rf (zR Z 5 a), va_rf (zR Z 6 a)])
  | 2 => .inr (2, [va_rf (zR Z 7 a)])
  | 3 => .inr (3, [va_rf (zR Z 8 a), .int (mI M 8 a), .int (mI M 9 a), .int (mI M 10 a)])
  | 4 => .inr (4, [va_rf (zR Z 9 a), va_rf (zR Z 10 a), .int (mI M 11 a), va_rf (zR Z 11 a), va_rf (zR Z 12 a)])
  | 5 => .inr (5, [va_rf (zR Z 13 a), va_rf (zR Z 14 a), va_rf (zR Z 15 a), .int (mI M 12 a), .int (mI M 13 a), va_rf (zR Z 16 a), va_rf (zR Z 17 a), va_rf (zR Z 18 a), va_rf (zR Z 19 a)])
  | 6 => .inr (6, [va_rf (zR Z 20 a), va_rf (zR Z 21 a), va_rf (zR Z 22 a), .int (mI M 14 a), .int (mI M 15 a), va_rf (zR Z 23 a), va_rf (zR Z 24 a), va_rf (zR Z 25 a), va_rf (zR Z 26 a), .int (mI M 16 a), .int (mI M 17 a), .int (mI M 18 a)])
  | 7 => .inl (E.2.1, zN Z a, .inl (mA M a))
  | 8 => .inl (E.2.2.1, zN Z a, .inr (.inr (.inr (.inr (zG Z a)))))
  | 9 => .inl (E.2.2.2, zN Z a, .inr (.inl (mJ M a)))
  | _ => .inl (E.2.1, 0, .inl (fun _ => 0))
theorem cell_0 {E : EE} {Z : ZZ} {M : MM} {a : Nat} (h : zK Z a = 0) : cellOf E Z M a = .inr (0, [va_rf (zR Z 0 a), va_rf (zR Z 1 a), va_rf (zR Z 2 a)]) := by simp only [cellOf, h]
theorem cell_1 {E : EE} {Z : ZZ} {M : MM} {a : Nat} (h : zK Z a = 1) : cellOf E Z M a = .inr (1, [.int (mI M 0 a), .int (mI M 1 a), .int (mI M 2 a), .int (mI M 3 a), .int (mI M 4 a), .int (mI M 5 a), .int (mI M 6 a), .int (mI M 7 a), va_rf (zR Z 3 a), va_rf (zR Z 4 a), va_rf (zR Z 5 a), va_rf (zR Z 6 a)]) := by simp only [cellOf, h]
theorem cell_2 {E : EE} {Z : ZZ} {M : MM} {a : Nat} (h : zK Z a = 2) : cellOf E Z M a = .inr (2, [va_rf (zR Z 7 a)]) := by simp only [cellOf, h]
theorem cell_3 {E : EE} {Z : ZZ} {M : MM} {a : Nat} (h : zK Z a = 3) : cellOf E Z M a = .inr (3, [va_rf (zR Z 8 a), .int (mI M 8 a), .int (mI M 9 a), .int (mI M 10 a)]) := by simp only [cellOf, h]
theorem cell_4 {E : EE} {Z : ZZ} {M : MM} {a : Nat} (h : zK Z a = 4) : cellOf E Z M a = .inr (4, [va_rf (zR Z 9 a), va_rf (zR Z 10 a), .int (mI M 11 a), va_rf (zR Z 11 a), va_rf (zR Z 12 a)]) := by simp only [cellOf, h]
theorem cell_5 {E : EE} {Z : ZZ} {M : MM} {a : Nat} (h : zK Z a = 5) : cellOf E Z M a = .inr (5, [va_rf (zR Z 13 a), va_rf (zR Z 14 a), va_rf (zR Z 15 a), .int (mI M 12 a), .int (mI M 13 a), va_rf (zR Z 16 a), va_rf (zR Z 17 a), va_rf (zR Z 18 a), va_rf (zR Z 19 a)]) := by simp only [cellOf, h]
theorem cell_6 {E : EE} {Z : ZZ} {M : MM} {a : Nat} (h : zK Z a = 6) : cellOf E Z M a = .inr (6, [va_rf (zR Z 20 a), va_rf (zR Z 21 a), va_rf (zR Z 22 a), .int (mI M 14 a), .int (mI M 15 a), va_rf (zR Z 23 a), va_rf (zR Z 24 a), va_rf (zR Z 25 a), va_rf (zR Z 26 a), .int (mI M 16 a), .int (mI M 17 a), .int (mI M 18 a)]) := by simp only [cellOf, h]
theorem cell_7 {E : EE} {Z : ZZ} {M : MM} {a : Nat} (h : zK Z a = 7) : cellOf E Z M a = .inl (E.2.1, zN Z a, .inl (mA M a)) := by simp only [cellOf, h]
theorem cell_8 {E : EE} {Z : ZZ} {M : MM} {a : Nat} (h : zK Z a = 8) : cellOf E Z M a = .inl (E.2.2.1, zN Z a, .inr (.inr (.inr (.inr (zG Z a))))) := by simp only [cellOf, h]
theorem cell_9 {E : EE} {Z : ZZ} {M : MM} {a : Nat} (h : zK Z a = 9) : cellOf E Z M a = .inl (E.2.2.2, zN Z a, .inr (.inl (mJ M a))) := by simp only [cellOf, h]
theorem cell_ne (E : EE) (Z : ZZ) (M : MM) (f a : Nat) (x : Int32) {b : Nat} (h : b ≠ a) : cellOf E Z (setI M f a x) b = cellOf E Z M b := by
  simp only [cellOf, mI, mA, mJ, setI_ne M f a _ x h, setI_2]
theorem st_1_0 (E : EE) (Z : ZZ) (M : MM) (a : Nat) (x : Int32) (h : zK Z a = 1) : va_up (cellOf E Z M) a (.inr (1, [.int x, .int (mI M 1 a), .int (mI M 2 a), .int (mI M 3 a), .int (mI M 4 a), .int (mI M 5 a), .int (mI M 6 a), .int (mI M 7 a), va_rf (zR Z 3 a), va_rf (zR Z 4 a), va_rf (zR Z 5 a), va_rf (zR Z 6 a)])) = cellOf E Z (setI M 0 a x) := by
  funext b
  by_cases hb : b = a
  · subst hb
    rw [va_up_self, cell_1 h]
    simp [setI_at]
  · rw [va_up_ne _ _ hb, cell_ne E Z M 0 a x hb]
theorem st_1_1 (E : EE) (Z : ZZ) (M : MM) (a : Nat) (x : Int32) (h : zK Z a = 1) : va_up (cellOf E Z M) a (.inr (1, [.int (mI M 0 a), .int x, .int (mI M 2 a), .int (mI M 3 a), .int (mI M 4 a), .int (mI M 5 a), .int (mI M 6 a), .int (mI M 7 a), va_rf (zR Z 3 a), va_rf (zR Z 4 a), va_rf (zR Z 5 a), va_rf (zR Z 6 a)])) = cellOf E Z (setI M 1 a x) := by
  funext b
  by_cases hb : b = a
  · subst hb
    rw [va_up_self, cell_1 h]
    simp [setI_at]
  · rw [va_up_ne _ _ hb, cell_ne E Z M 1 a x hb]
theorem st_1_2 (E : EE) (Z : ZZ) (M : MM) (a : Nat) (x : Int32) (h : zK Z a = 1) : va_up (cellOf E Z M) a (.inr (1, [.int (mI M 0 a), .int (mI M 1 a), .int x, .int (mI M 3 a), .int (mI M 4 a), .int (mI M 5 a), .int (mI M 6 a), .int (mI M 7 a), va_rf (zR Z 3 a), va_rf (zR Z 4 a), va_rf (zR Z 5 a), va_rf (zR Z 6 a)])) = cellOf E Z (setI M 2 a x) := by
  funext b
  by_cases hb : b = a
  · subst hb
    rw [va_up_self, cell_1 h]
    simp [setI_at]
  · rw [va_up_ne _ _ hb, cell_ne E Z M 2 a x hb]
theorem st_1_3 (E : EE) (Z : ZZ) (M : MM) (a : Nat) (x : Int32) (h : zK Z a = 1) : va_up (cellOf E Z M) a (.inr (1, [.int (mI M 0 a), .int (mI M 1 a), .int (mI M 2 a), .int x, .int (mI M 4 a), .int (mI M 5 a), .int (mI M 6 a), .int (mI M 7 a), va_rf (zR Z 3 a), va_rf (zR Z 4 a), va_rf (zR Z 5 a), va_rf (zR Z 6 a)])) = cellOf E Z (setI M 3 a x) := by
  funext b
  by_cases hb : b = a
  · subst hb
    rw [va_up_self, cell_1 h]
    simp [setI_at]
  · rw [va_up_ne _ _ hb, cell_ne E Z M 3 a x hb]
theorem st_1_4 (E : EE) (Z : ZZ) (M : MM) (a : Nat) (x : Int32) (h : zK Z a = 1) : va_up (cellOf E Z M) a (.inr (1, [.int (mI M 0 a), .int (mI M 1 a), .int (mI M 2 a), .int (mI M 3 a), .int x, .int (mI M 5 a), .int (mI M 6 a), .int (mI M 7 a), va_rf (zR Z 3 a), va_rf (zR Z 4 a), va_rf (zR Z 5 a), va_rf (zR Z 6 a)])) = cellOf E Z (setI M 4 a x) := by
  funext b
  by_cases hb : b = a
  · subst hb
    rw [va_up_self, cell_1 h]
    simp [setI_at]
  · rw [va_up_ne _ _ hb, cell_ne E Z M 4 a x hb]
theorem st_1_5 (E : EE) (Z : ZZ) (M : MM) (a : Nat) (x : Int32) (h : zK Z a = 1) : va_up (cellOf E Z M) a (.inr (1, [.int (mI M 0 a), .int (mI M 1 a), .int (mI M 2 a), .int (mI M 3 a), .int (mI M 4 a), .int x, .int (mI M 6 a), .int (mI M 7 a), va_rf (zR Z 3 a), va_rf (zR Z 4 a), va_rf (zR Z 5 a), va_rf (zR Z 6 a)])) = cellOf E Z (setI M 5 a x) := by
  funext b
  by_cases hb : b = a
  · subst hb
    rw [va_up_self, cell_1 h]
    simp [setI_at]
  · rw [va_up_ne _ _ hb, cell_ne E Z M 5 a x hb]
theorem st_1_6 (E : EE) (Z : ZZ) (M : MM) (a : Nat) (x : Int32) (h : zK Z a = 1) : va_up (cellOf E Z M) a (.inr (1, [.int (mI M 0 a), .int (mI M 1 a), .int (mI M 2 a), .int (mI M 3 a), .int (mI M 4 a), .int (mI M 5 a), .int x, .int (mI M 7 a), va_rf (zR Z 3 a), va_rf (zR Z 4 a), va_rf (zR Z 5 a), va_rf (zR Z 6 a)])) = cellOf E Z (setI M 6 a x) := by
  funext b
  by_cases hb : b = a
  · subst hb
    rw [va_up_self, cell_1 h]
    simp [setI_at]
  · rw [va_up_ne _ _ hb, cell_ne E Z M 6 a x hb]
theorem st_1_7 (E : EE) (Z : ZZ) (M : MM) (a : Nat) (x : Int32) (h : zK Z a = 1) : va_up (cellOf E Z M) a (.inr (1, [.int (mI M 0 a), .int (mI M 1 a), .int (mI M 2 a), .int (mI M 3 a), .int (mI M 4 a), .int (mI M 5 a), .int (mI M 6 a), .int x, va_rf (zR Z 3 a), va_rf (zR Z 4 a), va_rf (zR Z 5 a), va_rf (zR Z 6 a)])) = cellOf E Z (setI M 7 a x) := by
  funext b
  by_cases hb : b = a
  · subst hb
    rw [va_up_self, cell_1 h]
    simp [setI_at]
  · rw [va_up_ne _ _ hb, cell_ne E Z M 7 a x hb]
theorem st_3_1 (E : EE) (Z : ZZ) (M : MM) (a : Nat) (x : Int32) (h : zK Z a = 3) : va_up (cellOf E Z M) a (.inr (3, [va_rf (zR Z 8 a), .int x, .int (mI M 9 a), .int (mI M 10 a)])) = cellOf E Z (setI M 8 a x) := by
  funext b
  by_cases hb : b = a
  · subst hb
    rw [va_up_self, cell_3 h]
    simp [setI_at]
  · rw [va_up_ne _ _ hb, cell_ne E Z M 8 a x hb]
theorem st_3_2 (E : EE) (Z : ZZ) (M : MM) (a : Nat) (x : Int32) (h : zK Z a = 3) : va_up (cellOf E Z M) a (.inr (3, [va_rf (zR Z 8 a), .int (mI M 8 a), .int x, .int (mI M 10 a)])) = cellOf E Z (setI M 9 a x) := by
  funext b
  by_cases hb : b = a
  · subst hb
    rw [va_up_self, cell_3 h]
    simp [setI_at]
  · rw [va_up_ne _ _ hb, cell_ne E Z M 9 a x hb]
theorem st_3_3 (E : EE) (Z : ZZ) (M : MM) (a : Nat) (x : Int32) (h : zK Z a = 3) : va_up (cellOf E Z M) a (.inr (3, [va_rf (zR Z 8 a), .int (mI M 8 a), .int (mI M 9 a), .int x])) = cellOf E Z (setI M 10 a x) := by
  funext b
  by_cases hb : b = a
  · subst hb
    rw [va_up_self, cell_3 h]
    simp [setI_at]
  · rw [va_up_ne _ _ hb, cell_ne E Z M 10 a x hb]
theorem st_4_2 (E : EE) (Z : ZZ) (M : MM) (a : Nat) (x : Int32) (h : zK Z a = 4) : va_up (cellOf E Z M) a (.inr (4, [va_rf (zR Z 9 a), va_rf (zR Z 10 a), .int x, va_rf (zR Z 11 a), va_rf (zR Z 12 a)])) = cellOf E Z (setI M 11 a x) := by
  funext b
  by_cases hb : b = a
  · subst hb
    rw [va_up_self, cell_4 h]
    simp [setI_at]
  · rw [va_up_ne _ _ hb, cell_ne E Z M 11 a x hb]
theorem st_5_3 (E : EE) (Z : ZZ) (M : MM) (a : Nat) (x : Int32) (h : zK Z a = 5) : va_up (cellOf E Z M) a (.inr (5, [va_rf (zR Z 13 a), va_rf (zR Z 14 a), va_rf (zR Z 15 a), .int x, .int (mI M 13 a), va_rf (zR Z 16 a), va_rf (zR Z 17 a), va_rf (zR Z 18 a), va_rf (zR Z 19 a)])) = cellOf E Z (setI M 12 a x) := by
  funext b
  by_cases hb : b = a
  · subst hb
    rw [va_up_self, cell_5 h]
    simp [setI_at]
  · rw [va_up_ne _ _ hb, cell_ne E Z M 12 a x hb]
theorem st_5_4 (E : EE) (Z : ZZ) (M : MM) (a : Nat) (x : Int32) (h : zK Z a = 5) : va_up (cellOf E Z M) a (.inr (5, [va_rf (zR Z 13 a), va_rf (zR Z 14 a), va_rf (zR Z 15 a), .int (mI M 12 a), .int x, va_rf (zR Z 16 a), va_rf (zR Z 17 a), va_rf (zR Z 18 a), va_rf (zR Z 19 a)])) = cellOf E Z (setI M 13 a x) := by
  funext b
  by_cases hb : b = a
  · subst hb
    rw [va_up_self, cell_5 h]
    simp [setI_at]
  · rw [va_up_ne _ _ hb, cell_ne E Z M 13 a x hb]
theorem st_6_3 (E : EE) (Z : ZZ) (M : MM) (a : Nat) (x : Int32) (h : zK Z a = 6) : va_up (cellOf E Z M) a (.inr (6, [va_rf (zR Z 20 a), va_rf (zR Z 21 a), va_rf (zR Z 22 a), .int x, .int (mI M 15 a), va_rf (zR Z 23 a), va_rf (zR Z 24 a), va_rf (zR Z 25 a), va_rf (zR Z 26 a), .int (mI M 16 a), .int (mI M 17 a), .int (mI M 18 a)])) = cellOf E Z (setI M 14 a x) := by
  funext b
  by_cases hb : b = a
  · subst hb
    rw [va_up_self, cell_6 h]
    simp [setI_at]
  · rw [va_up_ne _ _ hb, cell_ne E Z M 14 a x hb]
theorem st_6_4 (E : EE) (Z : ZZ) (M : MM) (a : Nat) (x : Int32) (h : zK Z a = 6) : va_up (cellOf E Z M) a (.inr (6, [va_rf (zR Z 20 a), va_rf (zR Z 21 a), va_rf (zR Z 22 a), .int (mI M 14 a), .int x, va_rf (zR Z 23 a), va_rf (zR Z 24 a), va_rf (zR Z 25 a), va_rf (zR Z 26 a), .int (mI M 16 a), .int (mI M 17 a), .int (mI M 18 a)])) = cellOf E Z (setI M 15 a x) := by
  funext b
  by_cases hb : b = a
  · subst hb
    rw [va_up_self, cell_6 h]
    simp [setI_at]
  · rw [va_up_ne _ _ hb, cell_ne E Z M 15 a x hb]
theorem st_6_9 (E : EE) (Z : ZZ) (M : MM) (a : Nat) (x : Int32) (h : zK Z a = 6) : va_up (cellOf E Z M) a (.inr (6, [va_rf (zR Z 20 a), va_rf (zR Z 21 a), va_rf (zR Z 22 a), .int (mI M 14 a), .int (mI M 15 a), va_rf (zR Z 23 a), va_rf (zR Z 24 a), va_rf (zR Z 25 a), va_rf (zR Z 26 a), .int x, .int (mI M 17 a), .int (mI M 18 a)])) = cellOf E Z (setI M 16 a x) := by
  funext b
  by_cases hb : b = a
  · subst hb
    rw [va_up_self, cell_6 h]
    simp [setI_at]
  · rw [va_up_ne _ _ hb, cell_ne E Z M 16 a x hb]
theorem st_6_10 (E : EE) (Z : ZZ) (M : MM) (a : Nat) (x : Int32) (h : zK Z a = 6) : va_up (cellOf E Z M) a (.inr (6, [va_rf (zR Z 20 a), va_rf (zR Z 21 a), va_rf (zR Z 22 a), .int (mI M 14 a), .int (mI M 15 a), va_rf (zR Z 23 a), va_rf (zR Z 24 a), va_rf (zR Z 25 a), va_rf (zR Z 26 a), .int (mI M 16 a), .int x, .int (mI M 18 a)])) = cellOf E Z (setI M 17 a x) := by
  funext b
  by_cases hb : b = a
  · subst hb
    rw [va_up_self, cell_6 h]
    simp [setI_at]
  · rw [va_up_ne _ _ hb, cell_ne E Z M 17 a x hb]
theorem st_6_11 (E : EE) (Z : ZZ) (M : MM) (a : Nat) (x : Int32) (h : zK Z a = 6) : va_up (cellOf E Z M) a (.inr (6, [va_rf (zR Z 20 a), va_rf (zR Z 21 a), va_rf (zR Z 22 a), .int (mI M 14 a), .int (mI M 15 a), va_rf (zR Z 23 a), va_rf (zR Z 24 a), va_rf (zR Z 25 a), va_rf (zR Z 26 a), .int (mI M 16 a), .int (mI M 17 a), .int x])) = cellOf E Z (setI M 18 a x) := by
  funext b
  by_cases hb : b = a
  · subst hb
    rw [va_up_self, cell_6 h]
    simp [setI_at]
  · rw [va_up_ne _ _ hb, cell_ne E Z M 18 a x hb]
theorem st_7 {E : EE} {Z : ZZ} {M : MM} {a : Nat} {f : Nat → Int32} (h : zK Z a = 7) : va_up (cellOf E Z M) a (.inl (E.2.1, zN Z a, .inl f)) = cellOf E Z (setA M a f) := by
  funext b
  by_cases hb : b = a
  · subst hb
    rw [va_up_self, cell_7 h]
    simp [setA, mA, va_up]
  · rw [va_up_ne _ _ hb]
    simp only [cellOf, setA, mI, mA, mJ, va_up_ne _ _ hb]
theorem st_9 {E : EE} {Z : ZZ} {M : MM} {a : Nat} {f : Nat → Int64} (h : zK Z a = 9) : va_up (cellOf E Z M) a (.inl (E.2.2.2, zN Z a, .inr (.inl f))) = cellOf E Z (setJ M a f) := by
  funext b
  by_cases hb : b = a
  · subst hb
    rw [va_up_self, cell_9 h]
    simp [setJ, mJ, va_up]
  · rw [va_up_ne _ _ hb]
    simp only [cellOf, setJ, mI, mA, mJ, va_up_ne _ _ hb]
abbrev ww (E : EE) (Z : ZZ) (M : MM) : va_W := va_pl Z.1 (cellOf E Z M)
abbrev tyE (E : EE) : List (ClassId × FieldType) := [(E.2.1, .int), (E.2.2.1, .object "IceField$Ice"), (E.2.2.2, .long)]
abbrev inL (Z : ZZ) : Nat → Prop := fun q => q ∈ Z.1
abbrev okZ (Z : ZZ) : Prop := ∀ a, zK Z a < 10 → a ∈ Z.1
abbrev wU (E : EE) (Z : ZZ) (M : MM) (U : State) : Prop := va_K E.1 vwCl (tyE E) U ∧ va_P E.1 vwCl (ww E Z M) U.heap ∧ va_D (inL Z) (ww E Z M) ∧ okZ Z
abbrev wo (E : EE) (Z : ZZ) (M : MM) (s : State) (H H0 : Heap) (locs : List Loc) : Prop := va_K E.1 vwCl (tyE E) s ∧ va_P E.1 vwCl (ww E Z M) H ∧ va_D (inL Z) (ww E Z M) ∧ va_S (inL Z) H0 H locs ∧ okZ Z
section RW
variable {p : Program} {l : Launch} {e : Env} {R : Room} {s : State} {m : MethodId} {args : Array Value} {below : List Frame} {meth : Method} {c : Code} {H H0 : Heap} {locs : List Loc} {cells slots : Nat} {Q : State → Prop}
variable {cc : ByteArray} {pc nL : Nat} {ls : Array Slot} {rest : List Value} {E : EE} {Z : ZZ} {M : MM} {a : Nat} {own : String}
theorem wo_place (h : wo E Z M s H H0 locs) (ha : zK Z a < 10) : ∃ k : Nat, (ww E Z M)[k]? = some (a, cellOf E Z M a) := va_pl_get (X := []) (f := cellOf E Z M) (h.2.2.2.2 a ha)
theorem wo_get (S : CallFix p m c cc nL s args W0 own) (h : wo E Z M s H H0 locs) {ref C : String} {T : u_T} {N ci index : Nat} (hc : vwCl[ci]? = some (C, T, N)) (hin : ∀ w ∈ u_ws C T N, w ∈ W0) (k : Nat) (hk : k < N) (hlink : Cond.fieldLink own index ref (T k).2.1 (T k).2.2.1 ∈ W0) (hsame : (T k).1 = ref) {fs : List Value} (ha : zK Z a < 10) (hcell : cellOf E Z M a = .inr (ci, fs)) {v : Value} (hv : fs[k]? = some v) (hdg : decode cc pc = .ok (.getfield index, 3))
    (kk : W p l e R s m args below meth c H locs cells slots Q (F0 m (pc + 3) ls (v :: rest))) : W p l e R s m args below meth c H locs cells slots Q (F0 m pc ls (.ref a :: rest)) := by
  obtain ⟨k0, hq⟩ := wo_place h ha
  obtain ⟨hx, hb, hml, hown, hts⟩ := S
  obtain ⟨hK, hP, hD, hS, hZ⟩ := h
  rw [hcell] at hq
  exact va_get hx hb hts hin hown hK hP k0 hq hc k hk (hts _ hlink) (fun x hx => by rw [← hsame]; exact hx) hv hdg kk
theorem wo_put (S : CallFix p m c cc nL s args W0 own) (h : wo E Z M s H H0 locs) {ref C : String} {T : u_T} {N ci index : Nat} (hc : vwCl[ci]? = some (C, T, N)) (hin : ∀ w ∈ u_ws C T N, w ∈ W0) (ty0 : Nat → FieldType) (hty : ∀ k, k < N → parseFieldDescriptor (T k).2.2.1 = some (ty0 k)) (hnm : ∀ a, a < N → ∀ b, b < N → a ≠ b → (T a).2.1 ≠ (T b).2.1) (k : Nat) (hk : k < N) (hlink : Cond.fieldLink own index ref (T k).2.1 (T k).2.2.1 ∈ W0) (hsame : (T k).1 = ref) (hfin : (T k).2.2.2 = false) (hd : parseFieldDescriptor (T k).2.2.1 = some .int) {fs : List Value} {x : Int32} (ha : zK Z a < 10) (hcell : cellOf E Z M a = .inr (ci, fs)) (hl : k < fs.length) {M1 : MM} (hM : va_up (cellOf E Z M) a (.inr (ci, fs.set k (.int x))) = cellOf E Z M1) (hdg : decode cc pc = .ok (.putfield index, 3))
    (kk : ∀ (H1 : Heap) (locs1 : List Loc), wo E Z M1 s H1 H0 locs1 → W p l e R s m args below meth c H1 locs1 cells slots Q (F0 m (pc + 3) ls rest)) : W p l e R s m args below meth c H locs cells slots Q (F0 m pc ls (.int x :: .ref a :: rest)) := by
  obtain ⟨k0, hq⟩ := wo_place h ha
  obtain ⟨hx, hb, hml, hown, hts⟩ := S
  obtain ⟨hK, hP, hD, hS, hZ⟩ := h
  have e1 := va_pl_set (X := []) (L := Z.1) (f := cellOf E Z M) (e := .inr (ci, fs.set k (.int x))) hD (hZ a ha) hq
  rw [hM] at e1
  have e1 : (ww E Z M).set k0 (a, .inr (ci, fs.set k (.int x))) = ww E Z M1 := e1
  rw [hcell] at hq
  refine va_put hx hb hts hin ty0 hty hnm hown hK hP hD hS k0 hq hc k hk (hts _ hlink) (fun x hx => by rw [← hsame]; exact hx) hfin hd rfl rfl hl hdg (fun H1 locs1 hP1 hD1 hS1 => ?_)
  rw [e1] at hP1 hD1
  exact kk H1 locs1 ⟨hK, hP1, hD1, hS1, hZ⟩
theorem wo_iald (S : CallFix p m c cc nL s args W0 own) (h : wo E Z M s H H0 locs) (ha : zK Z a = 7) {i : Int32} (hin : vp_in i (zN Z a)) (hdg : decode cc pc = .ok (.iaload, 1))
    (kk : W p l e R s m args below meth c H locs cells slots Q (F0 m (pc + 1) ls (.int (mA M a i.toNatClampNeg) :: rest))) : W p l e R s m args below meth c H locs cells slots Q (F0 m pc ls (.int i :: .ref a :: rest)) := by
  obtain ⟨k0, hq⟩ := wo_place h (by rw [ha]; decide)
  rw [cell_7 ha] at hq
  exact va_iald S.1 S.2.1 h.1 h.2.1 k0 0 hq rfl hin hdg kk
theorem wo_iast (S : CallFix p m c cc nL s args W0 own) (h : wo E Z M s H H0 locs) (ha : zK Z a = 7) {i x : Int32} (hin : vp_in i (zN Z a)) (hdg : decode cc pc = .ok (.iastore, 1))
    (kk : ∀ (H1 : Heap) (locs1 : List Loc), wo E Z (setA M a (upd (mA M a) i.toNatClampNeg x)) s H1 H0 locs1 → W p l e R s m args below meth c H1 locs1 cells slots Q (F0 m (pc + 1) ls rest)) : W p l e R s m args below meth c H locs cells slots Q (F0 m pc ls (.int x :: .int i :: .ref a :: rest)) := by
  have hlt : zK Z a < 10 := by rw [ha]; decide
  obtain ⟨k0, hq⟩ := wo_place h hlt
  obtain ⟨hK, hP, hD, hS, hZ⟩ := h
  have e1 := va_pl_set (X := []) (L := Z.1) (f := cellOf E Z M) (e := .inl (E.2.1, zN Z a, .inl (upd (mA M a) i.toNatClampNeg x))) hD (hZ a hlt) hq
  rw [st_7 ha] at e1
  have e1 : (ww E Z M).set k0 (a, .inl (E.2.1, zN Z a, .inl (upd (mA M a) i.toNatClampNeg x))) = ww E Z (setA M a (upd (mA M a) i.toNatClampNeg x)) := e1
  rw [cell_7 ha] at hq
  refine va_iast S.1 S.2.1 hK hP hD hS k0 0 hq rfl hin hdg (fun H1 locs1 hP1 hD1 hS1 => ?_)
  rw [e1] at hP1 hD1
  exact kk H1 locs1 ⟨hK, hP1, hD1, hS1, hZ⟩
theorem wo_lald (S : CallFix p m c cc nL s args W0 own) (h : wo E Z M s H H0 locs) (ha : zK Z a = 9) {i : Int32} (hin : vp_in i (zN Z a)) (hdg : decode cc pc = .ok (.laload, 1))
    (kk : W p l e R s m args below meth c H locs cells slots Q (F0 m (pc + 1) ls (.long (mJ M a i.toNatClampNeg) :: rest))) : W p l e R s m args below meth c H locs cells slots Q (F0 m pc ls (.int i :: .ref a :: rest)) := by
  obtain ⟨k0, hq⟩ := wo_place h (by rw [ha]; decide)
  rw [cell_9 ha] at hq
  exact va_lald S.1 S.2.1 h.1 h.2.1 k0 2 hq rfl hin hdg kk
theorem wo_last (S : CallFix p m c cc nL s args W0 own) (h : wo E Z M s H H0 locs) (ha : zK Z a = 9) {i : Int32} {x : Int64} (hin : vp_in i (zN Z a)) (hdg : decode cc pc = .ok (.lastore, 1))
    (kk : ∀ (H1 : Heap) (locs1 : List Loc), wo E Z (setJ M a (vp_updL (mJ M a) i.toNatClampNeg x)) s H1 H0 locs1 → W p l e R s m args below meth c H1 locs1 cells slots Q (F0 m (pc + 1) ls rest)) : W p l e R s m args below meth c H locs cells slots Q (F0 m pc ls (.long x :: .int i :: .ref a :: rest)) := by
  have hlt : zK Z a < 10 := by rw [ha]; decide
  obtain ⟨k0, hq⟩ := wo_place h hlt
  obtain ⟨hK, hP, hD, hS, hZ⟩ := h
  have e1 := va_pl_set (X := []) (L := Z.1) (f := cellOf E Z M) (e := .inl (E.2.2.2, zN Z a, .inr (.inl (vp_updL (mJ M a) i.toNatClampNeg x)))) hD (hZ a hlt) hq
  rw [st_9 ha] at e1
  have e1 : (ww E Z M).set k0 (a, .inl (E.2.2.2, zN Z a, .inr (.inl (vp_updL (mJ M a) i.toNatClampNeg x)))) = ww E Z (setJ M a (vp_updL (mJ M a) i.toNatClampNeg x)) := e1
  rw [cell_9 ha] at hq
  refine va_last S.1 S.2.1 hK hP hD hS k0 2 hq rfl hin hdg (fun H1 locs1 hP1 hD1 hS1 => ?_)
  rw [e1] at hP1 hD1
  exact kk H1 locs1 ⟨hK, hP1, hD1, hS1, hZ⟩
theorem wo_alen7 (S : CallFix p m c cc nL s args W0 own) (h : wo E Z M s H H0 locs) (ha : zK Z a = 7) (hdg : decode cc pc = .ok (.arraylength, 1))
    (kk : W p l e R s m args below meth c H locs cells slots Q (F0 m (pc + 1) ls (.int (nI (zN Z a)) :: rest))) : W p l e R s m args below meth c H locs cells slots Q (F0 m pc ls (.ref a :: rest)) := by
  obtain ⟨k0, hq⟩ := wo_place h (by rw [ha]; decide)
  rw [cell_7 ha] at hq
  exact va_alen S.1 S.2.1 h.1 h.2.1 k0 0 hq (ty := .int) rfl rfl hdg kk
theorem wo_alen8 (S : CallFix p m c cc nL s args W0 own) (h : wo E Z M s H H0 locs) (ha : zK Z a = 8) (hdg : decode cc pc = .ok (.arraylength, 1))
    (kk : W p l e R s m args below meth c H locs cells slots Q (F0 m (pc + 1) ls (.int (nI (zN Z a)) :: rest))) : W p l e R s m args below meth c H locs cells slots Q (F0 m pc ls (.ref a :: rest)) := by
  obtain ⟨k0, hq⟩ := wo_place h (by rw [ha]; decide)
  rw [cell_8 ha] at hq
  exact va_alen S.1 S.2.1 h.1 h.2.1 k0 1 hq (ty := .object "IceField$Ice") rfl rfl hdg kk
theorem wo_aldq (S : CallFix p m c cc nL s args W0 own) (h : wo E Z M s H H0 locs) (ha : zK Z a = 8) {i : Int32} {y : Nat} (hin : vp_in i (zN Z a)) (hy : zG Z a i.toNatClampNeg = some y) (hdg : decode cc pc = .ok (.aaload, 1))
    (kk : W p l e R s m args below meth c H locs cells slots Q (F0 m (pc + 1) ls (.ref y :: rest))) : W p l e R s m args below meth c H locs cells slots Q (F0 m pc ls (.int i :: .ref a :: rest)) := by
  obtain ⟨k0, hq⟩ := wo_place h (by rw [ha]; decide)
  rw [cell_8 ha] at hq
  refine va_aldq S.1 S.2.1 h.1 h.2.1 k0 1 (C := "IceField$Ice") hq rfl hin hdg ?_
  rw [hy]
  exact kk
end RW
/-! contracts: what a method answers and does to M, said of any post-condition -/
abbrev Ct_i (l : Launch) (y : MethodName) (cc : ByteArray) (n : Nat) (ret : Option FieldType) (rm : Room) (E : EE) (Z : ZZ) (M : MM) (av : List Value) (Qm : Int32 → MM → Prop) : Prop := Met l y (ws_ y cc n ret) rm (va_Pc av (wU E Z M)) (va_Qi Qm (fun M1 t => wU E Z M1 t) (inL Z)) 0 0 (inL Z)
abbrev Ct_l (l : Launch) (y : MethodName) (cc : ByteArray) (n : Nat) (ret : Option FieldType) (rm : Room) (E : EE) (Z : ZZ) (M : MM) (av : List Value) (Qm : Int64 → MM → Prop) : Prop := Met l y (ws_ y cc n ret) rm (va_Pc av (wU E Z M)) (va_Ql Qm (fun M1 t => wU E Z M1 t) (inL Z)) 0 0 (inL Z)
abbrev Ct_v (l : Launch) (y : MethodName) (cc : ByteArray) (n : Nat) (ret : Option FieldType) (rm : Room) (E : EE) (Z : ZZ) (M : MM) (av : List Value) (Qm : MM → Prop) : Prop := Met l y (ws_ y cc n ret) rm (va_Pc av (wU E Z M)) (va_Qv Qm (fun M1 t => wU E Z M1 t) (inL Z)) 0 0 (inL Z)
abbrev Ct_q (l : Launch) (y : MethodName) (cc : ByteArray) (n : Nat) (ret : Option FieldType) (rm : Room) (E : EE) (Z : ZZ) (M : MM) (av : List Value) (Qm : Option Nat → MM → Prop) : Prop := Met l y (ws_ y cc n ret) rm (va_Pc av (wU E Z M)) (va_Qq Qm (fun M1 t => wU E Z M1 t) (inL Z)) 0 0 (inL Z)
theorem wU_moved {E : EE} {Z : ZZ} {M : MM} {u U : State} (h : wU E Z M u) (hvm : u.vm.Alike U.vm) (hh : U.heap = u.heap) : wU E Z M U := ⟨va_K.moved hvm h.1, by rw [hh]; exact h.2.1, h.2.2.1, h.2.2.2⟩
theorem wU_blind (E : EE) (Z : ZZ) (M : MM) (av : List Value) : FrameBlind (va_Pc av (wU E Z M)) := fun a U g mk h => ⟨h.1, wU_moved h.2 (Vm.Alike.refl U.vm) rfl⟩
section CALLS
variable {p : Program} {l : Launch} {e : Env} {R : Room} {s : State} {m : MethodId} {args : Array Value} {below : List Frame} {meth : Method} {c : Code} {H H0 : Heap} {locs : List Loc} {cells slots : Nat} {Q : State → Prop}
variable {cc : ByteArray} {pc nL : Nat} {ls : Array Slot} {rest : List Value} {E : EE} {Z : ZZ} {M : MM} {b : Nat} {own : String}
theorem wo_wU (h : wo E Z M s H H0 locs) {U : State} (hU : U.heap = H) (hW : s.WarmedH U.vm) : wU E Z M U := ⟨va_K.moved hW.alike h.1, by rw [hU]; exact h.2.1, h.2.2.1, h.2.2.2.2⟩
theorem wo_back (hK : va_K E.1 vwCl (tyE E) s) {t : State} {H1 : Heap} {locs1 : List Loc} {M1 : MM} (ht : t.heap = H1) (hB : wU E Z M1 t) (hS : va_S (inL Z) H0 H1 locs1) : wo E Z M1 s H1 H0 locs1 := ⟨hK, by rw [← ht]; exact hB.2.1, hB.2.2.1, hS, hB.2.2.2⟩
/-- the words of a call by a receiver's class, in W0 -/
abbrev cwd (own C : String) (idx : Nat) (y : MethodName) (bytes : ByteArray) (maxL : Nat) (ret : Option FieldType) : Prop := (Cond.methodLink own idx y ∈ W0 ∧ Cond.instanceMethod y ∈ W0 ∧ Cond.selects C y y ∈ W0 ∧ Cond.initialized C ∈ W0) ∧ Cond.code y bytes maxL ret ∈ W0
abbrev cws (own : String) (idx : Nat) (y : MethodName) (bytes : ByteArray) (maxL : Nat) (ret : Option FieldType) : Prop := (Cond.methodLink own idx y ∈ W0 ∧ Cond.static y ∈ W0 ∧ Cond.initialized own ∈ W0) ∧ Cond.code y bytes maxL ret ∈ W0
theorem cwd_good {own C : String} {idx : Nat} {y : MethodName} {bytes : ByteArray} {maxL : Nat} {ret : Option FieldType} (h : cwd own C idx y bytes maxL ret) : GoodIn W0 (wsV own idx C y (ws_ y bytes maxL ret)) := by
  refine W0_app ?_ (W0_cons h.2)
  intro w hw
  simp only [List.mem_cons, List.not_mem_nil, or_false] at hw
  rcases hw with rfl | rfl | rfl | rfl
  · exact h.1.1
  · exact h.1.2.1
  · exact h.1.2.2.1
  · exact h.1.2.2.2
theorem cws_good {own : String} {idx : Nat} {y : MethodName} {bytes : ByteArray} {maxL : Nat} {ret : Option FieldType} (h : cws own idx y bytes maxL ret) : GoodIn W0 (wsS own idx y (ws_ y bytes maxL ret)) := by
  refine W0_app ?_ (W0_cons h.2)
  intro w hw
  simp only [List.mem_cons, List.not_mem_nil, or_false] at hw
  rcases hw with rfl | rfl | rfl
  · exact h.1.1
  · exact h.1.2.1
  · exact h.1.2.2
/-- what a descriptor says of the callee: its class, no handle, so many arguments -/
abbrev cyd (y : MethodName) (C : String) (n : Nat) : Prop := y.cls = C ∧ y.cls ≠ "java/lang/invoke/MethodHandle" ∧ y.cls ≠ "java/lang/invoke/VarHandle" ∧ (parseMethodDescriptor y.desc).map (fun d => d.parameters.length) = some n
abbrev crm (rm R : Room) (maxL : Nat) : Prop := rm.frames + 1 ≤ R.frames ∧ 8 + (maxL + 11) + rm.locals ≤ R.locals
theorem cv_i {y : MethodName} {C : String} {bytes : ByteArray} {maxL n idx : Nat} {ret : Option FieldType} {rm : Room} {As : List Value} (S : CallFix p m c cc nL s args W0 own) (h : wo E Z M s H H0 locs) {Qm : Int32 → MM → Prop} (hM : Ct_i l y bytes maxL ret rm E Z M (.ref b :: As) Qm) (hw : cwd own C idx y bytes maxL ret) (hd : cyd y C n) (hrm : rm.cells = 0 ∧ rm.slots = 0) (hR : crm rm R maxL) (hn : As.length = n) (hls : ls.size = nL) (hrest : (rest.map fun v => v.category).sum ≤ 8) {ci : Nat} {fs : List Value} {q : vw_C} (hc : vwCl[ci]? = some q) (hqC : q.1 = C) (ha : zK Z b < 10) (hcell : cellOf E Z M b = .inr (ci, fs)) (hf : cells ≤ R.cells ∧ slots ≤ R.slots) (hdg : decode cc pc = .ok (.invokevirtual idx, 3))
    (kk : ∀ (r : Int32) (M1 : MM) (H1 : Heap) (locs1 : List Loc), Qm r M1 → wo E Z M1 s H1 H0 locs1 → W p l e R s m args below meth c H1 locs1 cells slots Q (F0 m (pc + 3) ls (.int r :: rest))) : W p l e R s m args below meth c H locs cells slots Q (F0 m pc ls (As.reverse ++ .ref b :: rest)) := by
  obtain ⟨k0, hq⟩ := wo_place h ha
  rw [hcell] at hq
  subst hqC
  exact va_calli (va_runV (As := As) (rest := rest) S hM (cwV n S.2.2.2.2 (cwd_good hw) rfl hrm.1 hrm.2 hd hR) ⟨wU_blind E Z M _, va_recv h.1 h.2.1 (ci := ci) (q0 := k0) hc hq, fun U hU hW => ⟨rfl, wo_wU h hU hW⟩⟩ rfl hn hls rfl (lv_room hrest) hdg hf) h.2.2.2.1 (fun q _ h => h) (fun q h => h) (fun r u t H1 locs1 ht hvm hw hB hz hk hS => kk r u H1 locs1 hw (wo_back h.1 ht hB hS))
theorem cs_i {y : MethodName} {bytes : ByteArray} {maxL n idx : Nat} {ret : Option FieldType} {rm : Room} {As : List Value} (S : CallFix p m c cc nL s args W0 own) (h : wo E Z M s H H0 locs) {Qm : Int32 → MM → Prop} (hM : Ct_i l y bytes maxL ret rm E Z M As Qm) (hw : cws own idx y bytes maxL ret) (hd : cyd y own n) (hrm : rm.cells = 0 ∧ rm.slots = 0) (hR : crm rm R maxL) (hn : As.length = n) (hls : ls.size = nL) (hrest : (rest.map fun v => v.category).sum ≤ 8) (hf : cells ≤ R.cells ∧ slots ≤ R.slots) (hdg : decode cc pc = .ok (.invokestatic idx, 3))
    (kk : ∀ (r : Int32) (M1 : MM) (H1 : Heap) (locs1 : List Loc), Qm r M1 → wo E Z M1 s H1 H0 locs1 → W p l e R s m args below meth c H1 locs1 cells slots Q (F0 m (pc + 3) ls (.int r :: rest))) : W p l e R s m args below meth c H locs cells slots Q (F0 m pc ls (As.reverse ++ rest)) := by
  exact va_calli (va_runS (As := As) (rest := rest) S hM (cwS n S.2.2.2.2 (cws_good hw) rfl hrm.1 hrm.2 hd hR) ⟨wU_blind E Z M _, fun U hU hW => ⟨rfl, wo_wU h hU hW⟩⟩ rfl hn hls rfl (lv_room hrest) hdg hf) h.2.2.2.1 (fun q _ h => h) (fun q h => h) (fun r u t H1 locs1 ht hvm hw hB hz hk hS => kk r u H1 locs1 hw (wo_back h.1 ht hB hS))
theorem cv_l {y : MethodName} {C : String} {bytes : ByteArray} {maxL n idx : Nat} {ret : Option FieldType} {rm : Room} {As : List Value} (S : CallFix p m c cc nL s args W0 own) (h : wo E Z M s H H0 locs) {Qm : Int64 → MM → Prop} (hM : Ct_l l y bytes maxL ret rm E Z M (.ref b :: As) Qm) (hw : cwd own C idx y bytes maxL ret) (hd : cyd y C n) (hrm : rm.cells = 0 ∧ rm.slots = 0) (hR : crm rm R maxL) (hn : As.length = n) (hls : ls.size = nL) (hrest : (rest.map fun v => v.category).sum ≤ 8) {ci : Nat} {fs : List Value} {q : vw_C} (hc : vwCl[ci]? = some q) (hqC : q.1 = C) (ha : zK Z b < 10) (hcell : cellOf E Z M b = .inr (ci, fs)) (hf : cells ≤ R.cells ∧ slots ≤ R.slots) (hdg : decode cc pc = .ok (.invokevirtual idx, 3))
    (kk : ∀ (r : Int64) (M1 : MM) (H1 : Heap) (locs1 : List Loc), Qm r M1 → wo E Z M1 s H1 H0 locs1 → W p l e R s m args below meth c H1 locs1 cells slots Q (F0 m (pc + 3) ls (.long r :: rest))) : W p l e R s m args below meth c H locs cells slots Q (F0 m pc ls (As.reverse ++ .ref b :: rest)) := by
  obtain ⟨k0, hq⟩ := wo_place h ha
  rw [hcell] at hq
  subst hqC
  exact va_calll (va_runV (As := As) (rest := rest) S hM (cwV n S.2.2.2.2 (cwd_good hw) rfl hrm.1 hrm.2 hd hR) ⟨wU_blind E Z M _, va_recv h.1 h.2.1 (ci := ci) (q0 := k0) hc hq, fun U hU hW => ⟨rfl, wo_wU h hU hW⟩⟩ rfl hn hls rfl (lv_room hrest) hdg hf) h.2.2.2.1 (fun q _ h => h) (fun q h => h) (fun r u t H1 locs1 ht hvm hw hB hz hk hS => kk r u H1 locs1 hw (wo_back h.1 ht hB hS))
theorem cs_l {y : MethodName} {bytes : ByteArray} {maxL n idx : Nat} {ret : Option FieldType} {rm : Room} {As : List Value} (S : CallFix p m c cc nL s args W0 own) (h : wo E Z M s H H0 locs) {Qm : Int64 → MM → Prop} (hM : Ct_l l y bytes maxL ret rm E Z M As Qm) (hw : cws own idx y bytes maxL ret) (hd : cyd y own n) (hrm : rm.cells = 0 ∧ rm.slots = 0) (hR : crm rm R maxL) (hn : As.length = n) (hls : ls.size = nL) (hrest : (rest.map fun v => v.category).sum ≤ 8) (hf : cells ≤ R.cells ∧ slots ≤ R.slots) (hdg : decode cc pc = .ok (.invokestatic idx, 3))
    (kk : ∀ (r : Int64) (M1 : MM) (H1 : Heap) (locs1 : List Loc), Qm r M1 → wo E Z M1 s H1 H0 locs1 → W p l e R s m args below meth c H1 locs1 cells slots Q (F0 m (pc + 3) ls (.long r :: rest))) : W p l e R s m args below meth c H locs cells slots Q (F0 m pc ls (As.reverse ++ rest)) := by
  exact va_calll (va_runS (As := As) (rest := rest) S hM (cwS n S.2.2.2.2 (cws_good hw) rfl hrm.1 hrm.2 hd hR) ⟨wU_blind E Z M _, fun U hU hW => ⟨rfl, wo_wU h hU hW⟩⟩ rfl hn hls rfl (lv_room hrest) hdg hf) h.2.2.2.1 (fun q _ h => h) (fun q h => h) (fun r u t H1 locs1 ht hvm hw hB hz hk hS => kk r u H1 locs1 hw (wo_back h.1 ht hB hS))
theorem cv_v {y : MethodName} {C : String} {bytes : ByteArray} {maxL n idx : Nat} {ret : Option FieldType} {rm : Room} {As : List Value} (S : CallFix p m c cc nL s args W0 own) (h : wo E Z M s H H0 locs) {Qm : MM → Prop} (hM : Ct_v l y bytes maxL ret rm E Z M (.ref b :: As) Qm) (hw : cwd own C idx y bytes maxL ret) (hd : cyd y C n) (hrm : rm.cells = 0 ∧ rm.slots = 0) (hR : crm rm R maxL) (hn : As.length = n) (hls : ls.size = nL) (hrest : (rest.map fun v => v.category).sum ≤ 8) {ci : Nat} {fs : List Value} {q : vw_C} (hc : vwCl[ci]? = some q) (hqC : q.1 = C) (ha : zK Z b < 10) (hcell : cellOf E Z M b = .inr (ci, fs)) (hf : cells ≤ R.cells ∧ slots ≤ R.slots) (hdg : decode cc pc = .ok (.invokevirtual idx, 3))
    (kk : ∀ (M1 : MM) (H1 : Heap) (locs1 : List Loc), Qm M1 → wo E Z M1 s H1 H0 locs1 → W p l e R s m args below meth c H1 locs1 cells slots Q (F0 m (pc + 3) ls (rest))) : W p l e R s m args below meth c H locs cells slots Q (F0 m pc ls (As.reverse ++ .ref b :: rest)) := by
  obtain ⟨k0, hq⟩ := wo_place h ha
  rw [hcell] at hq
  subst hqC
  exact va_callv (va_runV (As := As) (rest := rest) S hM (cwV n S.2.2.2.2 (cwd_good hw) rfl hrm.1 hrm.2 hd hR) ⟨wU_blind E Z M _, va_recv h.1 h.2.1 (ci := ci) (q0 := k0) hc hq, fun U hU hW => ⟨rfl, wo_wU h hU hW⟩⟩ rfl hn hls rfl (lv_room hrest) hdg hf) h.2.2.2.1 (fun q _ h => h) (fun q h => h) (fun u t H1 locs1 ht hvm hw hB hz hk hS => kk u H1 locs1 hw (wo_back h.1 ht hB hS))
theorem cs_v {y : MethodName} {bytes : ByteArray} {maxL n idx : Nat} {ret : Option FieldType} {rm : Room} {As : List Value} (S : CallFix p m c cc nL s args W0 own) (h : wo E Z M s H H0 locs) {Qm : MM → Prop} (hM : Ct_v l y bytes maxL ret rm E Z M As Qm) (hw : cws own idx y bytes maxL ret) (hd : cyd y own n) (hrm : rm.cells = 0 ∧ rm.slots = 0) (hR : crm rm R maxL) (hn : As.length = n) (hls : ls.size = nL) (hrest : (rest.map fun v => v.category).sum ≤ 8) (hf : cells ≤ R.cells ∧ slots ≤ R.slots) (hdg : decode cc pc = .ok (.invokestatic idx, 3))
    (kk : ∀ (M1 : MM) (H1 : Heap) (locs1 : List Loc), Qm M1 → wo E Z M1 s H1 H0 locs1 → W p l e R s m args below meth c H1 locs1 cells slots Q (F0 m (pc + 3) ls (rest))) : W p l e R s m args below meth c H locs cells slots Q (F0 m pc ls (As.reverse ++ rest)) := by
  exact va_callv (va_runS (As := As) (rest := rest) S hM (cwS n S.2.2.2.2 (cws_good hw) rfl hrm.1 hrm.2 hd hR) ⟨wU_blind E Z M _, fun U hU hW => ⟨rfl, wo_wU h hU hW⟩⟩ rfl hn hls rfl (lv_room hrest) hdg hf) h.2.2.2.1 (fun q _ h => h) (fun q h => h) (fun u t H1 locs1 ht hvm hw hB hz hk hS => kk u H1 locs1 hw (wo_back h.1 ht hB hS))
theorem cv_q {y : MethodName} {C : String} {bytes : ByteArray} {maxL n idx : Nat} {ret : Option FieldType} {rm : Room} {As : List Value} (S : CallFix p m c cc nL s args W0 own) (h : wo E Z M s H H0 locs) {Qm : Option Nat → MM → Prop} (hM : Ct_q l y bytes maxL ret rm E Z M (.ref b :: As) Qm) (hw : cwd own C idx y bytes maxL ret) (hd : cyd y C n) (hrm : rm.cells = 0 ∧ rm.slots = 0) (hR : crm rm R maxL) (hn : As.length = n) (hls : ls.size = nL) (hrest : (rest.map fun v => v.category).sum ≤ 8) {ci : Nat} {fs : List Value} {q : vw_C} (hc : vwCl[ci]? = some q) (hqC : q.1 = C) (ha : zK Z b < 10) (hcell : cellOf E Z M b = .inr (ci, fs)) (hf : cells ≤ R.cells ∧ slots ≤ R.slots) (hdg : decode cc pc = .ok (.invokevirtual idx, 3))
    (kk : ∀ (r : Option Nat) (M1 : MM) (H1 : Heap) (locs1 : List Loc), Qm r M1 → wo E Z M1 s H1 H0 locs1 → W p l e R s m args below meth c H1 locs1 cells slots Q (F0 m (pc + 3) ls (va_rf r :: rest))) : W p l e R s m args below meth c H locs cells slots Q (F0 m pc ls (As.reverse ++ .ref b :: rest)) := by
  obtain ⟨k0, hq⟩ := wo_place h ha
  rw [hcell] at hq
  subst hqC
  exact va_callq (va_runV (As := As) (rest := rest) S hM (cwV n S.2.2.2.2 (cwd_good hw) rfl hrm.1 hrm.2 hd hR) ⟨wU_blind E Z M _, va_recv h.1 h.2.1 (ci := ci) (q0 := k0) hc hq, fun U hU hW => ⟨rfl, wo_wU h hU hW⟩⟩ rfl hn hls rfl (lv_room hrest) hdg hf) h.2.2.2.1 (fun q _ h => h) (fun q h => h) (fun r u t H1 locs1 ht hvm hw hB hz hk hS => kk r u H1 locs1 hw (wo_back h.1 ht hB hS))
theorem cs_q {y : MethodName} {bytes : ByteArray} {maxL n idx : Nat} {ret : Option FieldType} {rm : Room} {As : List Value} (S : CallFix p m c cc nL s args W0 own) (h : wo E Z M s H H0 locs) {Qm : Option Nat → MM → Prop} (hM : Ct_q l y bytes maxL ret rm E Z M As Qm) (hw : cws own idx y bytes maxL ret) (hd : cyd y own n) (hrm : rm.cells = 0 ∧ rm.slots = 0) (hR : crm rm R maxL) (hn : As.length = n) (hls : ls.size = nL) (hrest : (rest.map fun v => v.category).sum ≤ 8) (hf : cells ≤ R.cells ∧ slots ≤ R.slots) (hdg : decode cc pc = .ok (.invokestatic idx, 3))
    (kk : ∀ (r : Option Nat) (M1 : MM) (H1 : Heap) (locs1 : List Loc), Qm r M1 → wo E Z M1 s H1 H0 locs1 → W p l e R s m args below meth c H1 locs1 cells slots Q (F0 m (pc + 3) ls (va_rf r :: rest))) : W p l e R s m args below meth c H locs cells slots Q (F0 m pc ls (As.reverse ++ rest)) := by
  exact va_callq (va_runS (As := As) (rest := rest) S hM (cwS n S.2.2.2.2 (cws_good hw) rfl hrm.1 hrm.2 hd hR) ⟨wU_blind E Z M _, fun U hU hW => ⟨rfl, wo_wU h hU hW⟩⟩ rfl hn hls rfl (lv_room hrest) hdg hf) h.2.2.2.1 (fun q _ h => h) (fun q h => h) (fun r u t H1 locs1 ht hvm hw hB hz hk hS => kk r u H1 locs1 hw (wo_back h.1 ht hB hS))
end CALLS
end
section
abbrev strs : List (String × Nat × String) := [(RX5, 76, "an argument is out of range"), (RX5, 90, "more is out of range"), (RX5, 101, "the thickness would be more than 50"), (RX5, 107, "side is out of range"), (RX5, 113, "there is nothing to saw on this side"), (RX5, 142, "there is no block here that can float out"), (RX5, 152, "melt is out of range"), (RX5, 154, "days is out of range"), (RX5, 162, "what is out of range"), (RX5, 175, "index is negative"), (RX5, 191, "not so many are kept"), (RX5, 224, "value is out of range"), (RX5, 229, "the text is full"), (RX5, 251, "there is no saved state"), (RX5, 261, "there is no such cell"), (RX5, 265, "the rectangle is not within the field")]
/-! a method's standing facts, its ends, calls and throws that may leave by an exception -/
abbrev nms : List String := ["java/lang/RuntimeException", "java/lang/Exception"]
abbrev Cx (p : Program) (m : MethodId) (c : Code) (meth : Method) (cc : ByteArray) (nL : Nat) (s : State) (args : Array Value) (own : String) (ret : Option FieldType) : Prop := CallFix p m c cc nL s args W0 own ∧ meth.sig.returnType = ret ∧ meth.locks = false
abbrev dxs : List MethodName := [Bundle.initS "java/lang/RuntimeException", Bundle.initS "java/lang/Exception", Bundle.initS Bundle.tN]
abbrev exs : List String := ["java/lang/IndexOutOfBoundsException", "java/lang/IllegalArgumentException", "java/lang/IllegalStateException"]
def WX : List Cond := W0 ++ (dxs.map Cond.declares ++ exs.map (fun q => Cond.castable q q))
def sx (Z : ZZ) (U : State) : Prop := ((∀ y ∈ dxs, va_Nw (.declares y) U) ∧ (∀ q ∈ exs, va_Nw (.castable q q) U) ∧ (∀ q ∈ exs, ∀ r ∈ exs, q ≠ r → va_Nc q r U)) ∧ vx_Zq Bundle.tN "UNASSIGNED_STACK" Bundle.steD (inL Z) U U.heap ∧ vx_Zq Bundle.tN "SUPPRESSED_SENTINEL" Bundle.listD (inL Z) U U.heap ∧ ∀ q ∈ strs, ∃ sa : Nat, vk_R q.1 q.2.1 q.2.2 sa U
abbrev Tx (l : Launch) (c : Code) (Z : ZZ) (s : State) : Prop := l.stackTraces = false ∧ (∀ x ∈ c.exceptionTable.toList, False) ∧ sx Z s
abbrev WG (p : Program) (l : Launch) (e : Env) (R : Room) (s : State) (m : MethodId) (args : Array Value) (below : List Frame) (meth : Method) (c : Code) (cells slots : Nat) (Qs : State → Prop) (E : EE) (Z : ZZ) (M : MM) (pc nL : Nat) (lv : List (Nat × Value)) (st : List Value) : Prop := ∀ (H : Heap) (locs : List Loc) (ls : Array Slot), wo E Z M s H s.heap locs → lv_has ls nL lv → W p l e R s m args below meth c H locs cells slots Qs (F0 m pc ls st)
abbrev XCm (E : EE) (Z : ZZ) (X : String → MM → Prop) : String → State → State → Prop := vx_X (fun _ : MM => True) (fun E1 M1 t => X E1 M1 ∧ wU E Z M1 t) (inL Z)
abbrev MQi (below : List Frame) (E : EE) (Z : ZZ) (args : Array Value) (s : State) (Q : Int32 → MM → Prop) : State → Prop := MQ below (va_Qi Q (fun M1 t => wU E Z M1 t) (inL Z)) args s 0 0 (inL Z)
abbrev MQl (below : List Frame) (E : EE) (Z : ZZ) (args : Array Value) (s : State) (Q : Int64 → MM → Prop) : State → Prop := MQ below (va_Ql Q (fun M1 t => wU E Z M1 t) (inL Z)) args s 0 0 (inL Z)
abbrev MQv (below : List Frame) (E : EE) (Z : ZZ) (args : Array Value) (s : State) (Q : MM → Prop) : State → Prop := MQ below (va_Qv Q (fun M1 t => wU E Z M1 t) (inL Z)) args s 0 0 (inL Z)
abbrev MQq (below : List Frame) (E : EE) (Z : ZZ) (args : Array Value) (s : State) (Q : Option Nat → MM → Prop) : State → Prop := MQ below (va_Qq Q (fun M1 t => wU E Z M1 t) (inL Z)) args s 0 0 (inL Z)
abbrev MQxi (below : List Frame) (E : EE) (Z : ZZ) (args : Array Value) (s : State) (Q : Int32 → MM → Prop) (X : String → MM → Prop) (mc ms : Nat) : State → Prop := vx_MQ below (va_Qi Q (fun M1 t => wU E Z M1 t) (inL Z)) (XCm E Z X) args s mc ms (inL Z)
abbrev MQxv (below : List Frame) (E : EE) (Z : ZZ) (args : Array Value) (s : State) (Q : MM → Prop) (X : String → MM → Prop) (mc ms : Nat) : State → Prop := vx_MQ below (va_Qv Q (fun M1 t => wU E Z M1 t) (inL Z)) (XCm E Z X) args s mc ms (inL Z)
abbrev wUx (E : EE) (Z : ZZ) (M : MM) (U : State) : Prop := wU E Z M U ∧ sx Z U
abbrev Cxi (l : Launch) (y : MethodName) (cc : ByteArray) (n : Nat) (ret : Option FieldType) (rm : Room) (E : EE) (Z : ZZ) (M : MM) (av : List Value) (Q : Int32 → MM → Prop) (X : String → MM → Prop) (mc ms : Nat) : Prop := vx_Met l y (ws_ y cc n ret) rm (va_Pc av (wUx E Z M)) (va_Qi Q (fun M1 t => wU E Z M1 t) (inL Z)) (XCm E Z X) mc ms (inL Z)
abbrev Cxv (l : Launch) (y : MethodName) (cc : ByteArray) (n : Nat) (ret : Option FieldType) (rm : Room) (E : EE) (Z : ZZ) (M : MM) (av : List Value) (Q : MM → Prop) (X : String → MM → Prop) (mc ms : Nat) : Prop := vx_Met l y (ws_ y cc n ret) rm (va_Pc av (wUx E Z M)) (va_Qv Q (fun M1 t => wU E Z M1 t) (inL Z)) (XCm E Z X) mc ms (inL Z)
theorem sx_moved {Z : ZZ} {u U : State} {A : Nat → Prop} (h : sx Z u) (hW : u.WarmedH U.vm) (hk : ∀ q : Nat, q < u.heap.size → ¬ inL Z q → U.heap[q]? = u.heap[q]?) : sx Z U := ⟨⟨fun y hy => va_Nw.warmD hW (h.1.1 y hy), fun q hq => va_Nw.warmC hW (h.1.2.1 q hq), fun q hq r hr n => va_Nc.moved hW.alike (h.1.2.2 q hq r hr n)⟩, vx_Zq.moved hW.alike (h.2.1.kept hk), vx_Zq.moved hW.alike (h.2.2.1.kept hk), fun q hq => by obtain ⟨sa, h1⟩ := h.2.2.2 q hq; exact ⟨sa, vk_R.warm hW h1⟩⟩
theorem wUx_blind (E : EE) (Z : ZZ) (M : MM) (av : List Value) : FrameBlind (va_Pc av (wUx E Z M)) := fun a U g mk h => ⟨h.1, wU_moved h.2.1 (Vm.Alike.refl U.vm) rfl, ⟨fun y hy => va_Nw.same rfl rfl (h.2.2.1.1 y hy), fun q hq => va_Nw.same rfl rfl (h.2.2.1.2.1 q hq), fun q hq r hr n => va_Nc.moved (Vm.Alike.refl U.vm) (h.2.2.1.2.2 q hq r hr n)⟩, vx_Zq.moved (Vm.Alike.refl U.vm) h.2.2.2.1, vx_Zq.moved (Vm.Alike.refl U.vm) h.2.2.2.2.1, fun q hq => by obtain ⟨sa, h1⟩ := h.2.2.2.2.2 q hq; exact ⟨sa, vk_R.same rfl h1⟩⟩
def zb (v : Int32) : Prop := v = 0 ∨ v = 1
theorem zb_n {v : Int32} (h : zb v) : narrow .boolean (.int v) = .int v := by rcases h with rfl | rfl <;> rfl
section ENDS
variable {p : Program} {l : Launch} {e : Env} {R : Room} {s : State} {m : MethodId} {args : Array Value} {below : List Frame} {meth : Method} {c : Code} {H : Heap} {locs : List Loc} {cells slots : Nat}
variable {cc : ByteArray} {pc nL : Nat} {ls : Array Slot} {rest : List Value} {E : EE} {Z : ZZ} {M : MM} {own : String} {ret : Option FieldType}
theorem wo_end (h : wo E Z M s H s.heap locs) {t : State} (ht : t.heap = H) (hW : s.WarmedH t.vm) : wU E Z M t := ⟨va_K.moved hW.alike h.1, by rw [ht]; exact h.2.1, h.2.2.1, h.2.2.2.2⟩
theorem we_z (S : Cx p m c meth cc nL s args own ret) (h : wo E Z M s H s.heap locs) {r : Int32} {ty : FieldType} (hr : ret = some ty) (hn : narrow ty (.int r) = .int r) {Q : Int32 → MM → Prop} (hq : Q r M) (hdg : decode cc pc = .ok (.ireturn, 1)) : W p l e R s m args below meth c H locs cells slots (MQ below (va_Qi Q (fun M1 t => wU E Z M1 t) (inL Z)) args s cells slots (inL Z)) (F0 m pc ls [.int r]) :=
  W.zret S.1.1 S.1.2.1 (S.2.1.trans hr) hn (fun t ht hW => ⟨⟨r, M, rfl, hq, wo_end h ht hW⟩, h.2.2.2.1.F ht⟩) h.2.2.2.1.2.2 hdg S.2.2
theorem we_i (S : Cx p m c meth cc nL s args own (some .int)) (h : wo E Z M s H s.heap locs) {r : Int32} {Q : Int32 → MM → Prop} (hq : Q r M) (hdg : decode cc pc = .ok (.ireturn, 1)) : W p l e R s m args below meth c H locs cells slots (MQ below (va_Qi Q (fun M1 t => wU E Z M1 t) (inL Z)) args s cells slots (inL Z)) (F0 m pc ls [.int r]) := we_z S h rfl rfl hq hdg
theorem we_b (S : Cx p m c meth cc nL s args own (some .boolean)) (h : wo E Z M s H s.heap locs) {r : Int32} {Q : Int32 → MM → Prop} (hz : zb r) (hq : Q r M) (hdg : decode cc pc = .ok (.ireturn, 1)) : W p l e R s m args below meth c H locs cells slots (MQ below (va_Qi Q (fun M1 t => wU E Z M1 t) (inL Z)) args s cells slots (inL Z)) (F0 m pc ls [.int r]) := we_z S h rfl (zb_n hz) hq hdg
theorem we_l (S : Cx p m c meth cc nL s args own (some .long)) (h : wo E Z M s H s.heap locs) {r : Int64} {Q : Int64 → MM → Prop} (hq : Q r M) (hdg : decode cc pc = .ok (.lreturn, 1)) : W p l e R s m args below meth c H locs cells slots (MQ below (va_Ql Q (fun M1 t => wU E Z M1 t) (inL Z)) args s cells slots (inL Z)) (F0 m pc ls [.long r]) :=
  W.lret S.1.1 S.1.2.1 S.2.1 (fun t ht hW => ⟨⟨r, M, rfl, hq, wo_end h ht hW⟩, h.2.2.2.1.F ht⟩) h.2.2.2.1.2.2 hdg S.2.2
theorem we_v (S : Cx p m c meth cc nL s args own none) (h : wo E Z M s H s.heap locs) {Q : MM → Prop} (hq : Q M) (hdg : decode cc pc = .ok (.return_, 1)) : W p l e R s m args below meth c H locs cells slots (MQ below (va_Qv Q (fun M1 t => wU E Z M1 t) (inL Z)) args s cells slots (inL Z)) (F0 m pc ls []) :=
  W.vret S.1.1 S.1.2.1 S.2.1 (fun t ht hW => ⟨⟨M, rfl, hq, wo_end h ht hW⟩, h.2.2.2.1.F ht⟩) h.2.2.2.1.2.2 hdg S.2.2
theorem we_q {C : String} (S : Cx p m c meth cc nL s args own (some (.object C))) (h : wo E Z M s H s.heap locs) {r : Option Nat} {Q : Option Nat → MM → Prop} (hq : Q r M) (hdg : decode cc pc = .ok (.areturn, 1)) : W p l e R s m args below meth c H locs cells slots (MQ below (va_Qq Q (fun M1 t => wU E Z M1 t) (inL Z)) args s cells slots (inL Z)) (F0 m pc ls [va_rf r]) :=
  W.aret S.1.1 S.1.2.1 S.2.1 (Or.inl ⟨C, rfl⟩) (va_rf_or r) (fun t ht hW => ⟨⟨r, M, rfl, hq, wo_end h ht hW⟩, h.2.2.2.1.F ht⟩) h.2.2.2.1.2.2 hdg S.2.2
/-- an end of a method that may throw: its room widened to what its contract says -/
theorem wx_end {Qc : Array Value → State → Outcome → State → Prop} {XC : String → State → State → Prop} {mc ms : Nat} {free : Nat → Prop} {g : JFrame} (hc : cells ≤ mc) (hs : slots ≤ ms) (k : W p l e R s m args below meth c H locs mc ms (MQ below Qc args s mc ms free) g) : W p l e R s m args below meth c H locs cells slots (vx_MQ below Qc XC args s mc ms free) g := W.widen hc hs (vx_ret k)
theorem wx_word {Z : ZZ} {args : Array Value} {s : State} (hts : ∀ w ∈ W0, w.before args s = true) (h : sx Z s) {w : Cond} (hw : w ∈ WX) : w.before args s = true := by
  rcases List.mem_append.mp hw with hw | hw
  · exact hts w hw
  · rcases List.mem_append.mp hw with hw | hw
    · obtain ⟨y, hy, rfl⟩ := List.mem_map.mp hw
      exact va_Nw.use rfl (h.1.1 y hy)
    · obtain ⟨y, hy, rfl⟩ := List.mem_map.mp hw
      exact va_Nw.use rfl (h.1.2.1 y hy)
theorem wx_ot {w : Cond} (hw : w ∈ WX) : (w.onTables || goodWord w) = true := by
  rcases List.mem_append.mp hw with hw | hw
  · rw [W0_good hw, Bool.or_true]
  · rcases List.mem_append.mp hw with hw | hw
    · obtain ⟨y, hy, rfl⟩ := List.mem_map.mp hw
      rfl
    · obtain ⟨y, hy, rfl⟩ := List.mem_map.mp hw
      rfl
/-- 'throw new E("..")' -/
theorem wx_thS (S : Cx p m c meth cc nL s args own ret) (T : Tx l c Z s) (h : wo E Z M s H s.heap locs) {cls text : String} {ik is ic mc ms : Nat} (hcls : Bundle.fit cls = true) (hk : Cond.classLink own ik cls ∈ W0) (hini : Cond.initialized cls ∈ W0) (hstr : (own, is, text) ∈ strs) (hat : ∀ w ∈ vx_atS own ic cls nms, w ∈ WX) {Qc : Array Value → State → Outcome → State → Prop} {X : String → MM → Prop} (hX : X cls M) (hls : ls.size = nL)
    (d0 : decode cc pc = .ok (.new ik, 3)) (d3 : decode cc (pc + 3) = .ok (.dup, 1)) (d4 : decode cc (pc + 4) = .ok (.ldc is, 2)) (d6 : decode cc (pc + 6) = .ok (.invokespecial ic, 3)) (d9 : decode cc (pc + 9) = .ok (.athrow, 1))
    (hRf : nms.length + 3 < R.frames) (hRl : (rest.map fun v => v.category).sum + (13 * (nms.length + 1) + 43) ≤ R.locals) (hRc : cells + 1 ≤ R.cells) (hRs : slots + 6 ≤ R.slots) (hc : cells + 1 ≤ mc) (hs : slots + 6 ≤ ms) : W p l e R s m args below meth c H locs cells slots (vx_MQ below Qc (XCm E Z X) args s mc ms (inL Z)) (F0 m pc ls rest) := by
  have hts := S.1.2.2.2.2
  obtain ⟨sa, hsa⟩ := T.2.2.2.2.2 _ hstr
  refine vx_throwS S.1.1 S.1.2.1 T.1 S.1.2.2.2.1 hcls (names := nms) (by decide +kernel) (hts _ hk) (hts _ hini) hsa (fun w hw => wx_word hts T.2.2 (hat w hw)) ?_ T.2.2.2.1 T.2.2.2.2.1 h.2.2.2.1 (hls.trans S.1.2.2.1.symm) d0 d3 d4 d6 d9 (fun x hx => (T.2.1 x hx).elim) hRf hRl hRc hRs S.2.2 ?_ h.2.2.2.1.2.2 hc hs
  · intro w hw
    unfold vx_ot
    rcases List.mem_cons.mp hw with rfl | hw
    · rfl
    · rcases List.mem_cons.mp hw with rfl | hw
      · rfl
      · exact wx_ot (hat w hw)
  · intro t hvm hz hq
    refine ⟨M, trivial, ⟨hX, va_K.moved hvm h.1, h.2.1.kept (fun k q hk => hq q.1 (h.2.1 k q hk).lt), h.2.2.1, h.2.2.2.2⟩, Nat.le_trans h.2.2.2.1.1 hz, fun q h1 h2 => ?_⟩
    rw [hq q (Nat.lt_of_lt_of_le h1 h.2.2.2.1.1)]
    exact h.2.2.2.1.2.1 q h1 h2
theorem wx_thW (S : Cx p m c meth cc nL s args own ret) (T : Tx l c Z s) (h : wo E Z M s H s.heap locs) {cls text : String} {ik is ic mc ms : Nat} (hcls : Bundle.fit cls = true) (hk : Cond.classLink own ik cls ∈ W0) (hini : Cond.initialized cls ∈ W0) (hstr : (own, is, text) ∈ strs) (hat : ∀ w ∈ vx_atS own ic cls nms, w ∈ WX) {Qc : Array Value → State → Outcome → State → Prop} {X : String → MM → Prop} (hX : X cls M) (hls : ls.size = nL)
    (d0 : decode cc pc = .ok (.new ik, 3)) (d3 : decode cc (pc + 3) = .ok (.dup, 1)) (d4 : decode cc (pc + 4) = .ok (.ldc_w is, 3)) (d7 : decode cc (pc + 7) = .ok (.invokespecial ic, 3)) (d10 : decode cc (pc + 10) = .ok (.athrow, 1))
    (hRf : nms.length + 3 < R.frames) (hRl : (rest.map fun v => v.category).sum + (13 * (nms.length + 1) + 43) ≤ R.locals) (hRc : cells + 1 ≤ R.cells) (hRs : slots + 6 ≤ R.slots) (hc : cells + 1 ≤ mc) (hs : slots + 6 ≤ ms) : W p l e R s m args below meth c H locs cells slots (vx_MQ below Qc (XCm E Z X) args s mc ms (inL Z)) (F0 m pc ls rest) := by
  have hts := S.1.2.2.2.2
  obtain ⟨sa, hsa⟩ := T.2.2.2.2.2 _ hstr
  refine vx_throwSW S.1.1 S.1.2.1 T.1 S.1.2.2.2.1 hcls (names := nms) (by decide +kernel) (hts _ hk) (hts _ hini) hsa (fun w hw => wx_word hts T.2.2 (hat w hw)) ?_ T.2.2.2.1 T.2.2.2.2.1 h.2.2.2.1 (hls.trans S.1.2.2.1.symm) d0 d3 d4 d7 d10 (fun x hx => (T.2.1 x hx).elim) hRf hRl hRc hRs S.2.2 ?_ h.2.2.2.1.2.2 hc hs
  · intro w hw
    unfold vx_ot
    rcases List.mem_cons.mp hw with rfl | hw
    · rfl
    · rcases List.mem_cons.mp hw with rfl | hw
      · rfl
      · exact wx_ot (hat w hw)
  · intro t hvm hz hq
    refine ⟨M, trivial, ⟨hX, va_K.moved hvm h.1, h.2.1.kept (fun k q hk => hq q.1 (h.2.1 k q hk).lt), h.2.2.1, h.2.2.2.2⟩, Nat.le_trans h.2.2.2.1.1 hz, fun q h1 h2 => ?_⟩
    rw [hq q (Nat.lt_of_lt_of_le h1 h.2.2.2.1.1)]
    exact h.2.2.2.1.2.1 q h1 h2
/-- calls that may throw, from a method that lets it go on -/
theorem cx_v {y : MethodName} {C : String} {bytes : ByteArray} {maxL n idx mc0 ms0 mc ms : Nat} {rt : Option FieldType} {rm : Room} {As : List Value} {b : Nat} (S : Cx p m c meth cc nL s args own ret) (T : Tx l c Z s) (h : wo E Z M s H s.heap locs) {Qm : MM → Prop} {X : String → MM → Prop} (hM : Cxv l y bytes maxL rt rm E Z M (.ref b :: As) Qm X mc0 ms0) (hw : cwd own C idx y bytes maxL rt) (hd : cyd y C n) (hrm : rm.cells = mc0 ∧ rm.slots = ms0) (hR : crm rm R maxL) (hn : As.length = n) (hls : ls.size = nL) (hrest : (rest.map fun v => v.category).sum ≤ 8) {ci : Nat} {fs : List Value} {q : vw_C} (hc : vwCl[ci]? = some q) (hqC : q.1 = C) (ha : zK Z b < 10) (hcell : cellOf E Z M b = .inr (ci, fs)) (hf : cells + mc0 ≤ R.cells ∧ slots + ms0 ≤ R.slots) (hdg : decode cc pc = .ok (.invokevirtual idx, 3)) (hmc : cells + mc0 ≤ mc) (hms : slots + ms0 ≤ ms) {Qc : Array Value → State → Outcome → State → Prop}
    (kk : ∀ (M1 : MM) (H1 : Heap) (locs1 : List Loc), Qm M1 → wo E Z M1 s H1 s.heap locs1 → W p l e R s m args below meth c H1 locs1 (cells + mc0) (slots + ms0) (vx_MQ below Qc (XCm E Z X) args s mc ms (inL Z)) (F0 m (pc + 3) ls rest)) : W p l e R s m args below meth c H locs cells slots (vx_MQ below Qc (XCm E Z X) args s mc ms (inL Z)) (F0 m pc ls (As.reverse ++ .ref b :: rest)) := by
  obtain ⟨k0, hq⟩ := wo_place h ha
  rw [hcell] at hq
  subst hqC
  refine vx_callv (vx_runV (As := As) (rest := rest) S.1 hM (cwV n S.1.2.2.2.2 (cwd_good hw) rfl hrm.1 hrm.2 hd hR) ⟨wUx_blind E Z M _, va_recv h.1 h.2.1 (ci := ci) (q0 := k0) hc hq, fun U hU hW => ⟨rfl, wo_wU h hU hW, sx_moved (A := inL Z) T.2.2 hW (fun q h1 h2 => by rw [hU]; exact h.2.2.2.1.2.1 q h1 h2)⟩⟩ rfl hn hls rfl (lv_room hrest) hdg hf) h.2.2.2.1 (fun q _ h => h) (fun q h => h) (fun q _ h => h) ?_ (fun u t H1 locs1 ht hvm hw hB hz hk hS => kk u H1 locs1 hw (wo_back h.1 ht hB hS))
  intro E1 ce q9 u t H1 locs1 ht hvm _ hB hz hk hS hce hcv hcl
  refine vx_out (fun x hx => (T.2.1 x hx).elim) S.2.2 hce hcv hcl (fun t2 ht2 hvm2 => ⟨u, trivial, ⟨hB.1, va_K.moved hvm2 h.1, by rw [ht2, ← ht]; exact hB.2.2.1, hB.2.2.2.1, hB.2.2.2.2⟩, hS.F ht2⟩) hS.2.2 hmc hms
end ENDS
theorem wat_X5_78 : ∀ w ∈ vx_atS RX5 78 "java/lang/IllegalArgumentException" nms, w ∈ WX := by decide +kernel
theorem wat_X5_103 : ∀ w ∈ vx_atS RX5 103 "java/lang/IllegalStateException" nms, w ∈ WX := by decide +kernel
theorem wat_X5_177 : ∀ w ∈ vx_atS RX5 177 "java/lang/IndexOutOfBoundsException" nms, w ∈ WX := by decide +kernel
end
