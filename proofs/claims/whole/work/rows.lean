section
-- ===== PART A: goes FIRST, ahead of the names: the tables' words, and 'selects' of the private methods out of them =====
/-- a private method of a class that the tables say can be made, by its rows of tables_1 -/
def lw_okq (q : MethodName × Nat) : Prop := (q.1.cls ≠ "java/lang/invoke/MethodHandle" ∧ q.1.cls ≠ "java/lang/invoke/VarHandle") ∧ Cond.instantiable q.1.cls q.2 ∈ tables_1 ∧ Cond.privateMethod q.1 ∈ tables_1 ∧ Cond.instanceMethod q.1 ∈ tables_1
theorem lw_p0 : lw_okq (⟨"CornerstoneSought", "rowRefused", "(I)I"⟩, 7) := ⟨⟨by decide +kernel, by decide +kernel⟩, List.mem_of_getElem? (i := 26) (by decide +kernel), List.mem_of_getElem? (i := 226) (by decide +kernel), List.mem_of_getElem? (i := 227) (by decide +kernel)⟩
theorem lw_p1 : lw_okq (⟨"CornerstoneSought", "doStatements", "(LCornerstoneSought$Shelf;)I"⟩, 7) := ⟨⟨by decide +kernel, by decide +kernel⟩, List.mem_of_getElem? (i := 26) (by decide +kernel), List.mem_of_getElem? (i := 255) (by decide +kernel), List.mem_of_getElem? (i := 256) (by decide +kernel)⟩
theorem lw_p2 : lw_okq (⟨"CornerstoneSought", "doStatement", "(LCornerstoneSought$Shelf;I)Z"⟩, 7) := ⟨⟨by decide +kernel, by decide +kernel⟩, List.mem_of_getElem? (i := 26) (by decide +kernel), List.mem_of_getElem? (i := 266) (by decide +kernel), List.mem_of_getElem? (i := 267) (by decide +kernel)⟩
theorem lw_p3 : lw_okq (⟨"CornerstoneSought$Hall", "settle", "()I"⟩, 10) := ⟨⟨by decide +kernel, by decide +kernel⟩, List.mem_of_getElem? (i := 97) (by decide +kernel), List.mem_of_getElem? (i := 280) (by decide +kernel), List.mem_of_getElem? (i := 281) (by decide +kernel)⟩
theorem lw_p4 : lw_okq (⟨"CornerstoneSought$Hall", "restsIn", "(II)Z"⟩, 10) := ⟨⟨by decide +kernel, by decide +kernel⟩, List.mem_of_getElem? (i := 97) (by decide +kernel), List.mem_of_getElem? (i := 295) (by decide +kernel), List.mem_of_getElem? (i := 296) (by decide +kernel)⟩
theorem lw_p5 : lw_okq (⟨"CornerstoneSought", "kindRefused", "(I)I"⟩, 7) := ⟨⟨by decide +kernel, by decide +kernel⟩, List.mem_of_getElem? (i := 26) (by decide +kernel), List.mem_of_getElem? (i := 419) (by decide +kernel), List.mem_of_getElem? (i := 420) (by decide +kernel)⟩
theorem lw_p6 : lw_okq (⟨"CornerstoneSought", "stoneRefused", "(I)I"⟩, 7) := ⟨⟨by decide +kernel, by decide +kernel⟩, List.mem_of_getElem? (i := 26) (by decide +kernel), List.mem_of_getElem? (i := 427) (by decide +kernel), List.mem_of_getElem? (i := 428) (by decide +kernel)⟩
theorem lw_p7 : lw_okq (⟨"CornerstoneSought$Foresight", "leftOf", "(I)I"⟩, 6) := ⟨⟨by decide +kernel, by decide +kernel⟩, List.mem_of_getElem? (i := 91) (by decide +kernel), List.mem_of_getElem? (i := 447) (by decide +kernel), List.mem_of_getElem? (i := 448) (by decide +kernel)⟩
theorem lw_p8 : lw_okq (⟨"CornerstoneSought$Foresight", "countWithout", "(I)I"⟩, 6) := ⟨⟨by decide +kernel, by decide +kernel⟩, List.mem_of_getElem? (i := 91) (by decide +kernel), List.mem_of_getElem? (i := 479) (by decide +kernel), List.mem_of_getElem? (i := 480) (by decide +kernel)⟩
theorem lw_p9 : lw_okq (⟨"CornerstoneSought$Foresight", "runFrom", "(II)I"⟩, 6) := ⟨⟨by decide +kernel, by decide +kernel⟩, List.mem_of_getElem? (i := 91) (by decide +kernel), List.mem_of_getElem? (i := 527) (by decide +kernel), List.mem_of_getElem? (i := 528) (by decide +kernel)⟩
theorem lw_p10 : lw_okq (⟨"CornerstoneSought$Foresight", "isSafeIn", "(II)Z"⟩, 6) := ⟨⟨by decide +kernel, by decide +kernel⟩, List.mem_of_getElem? (i := 91) (by decide +kernel), List.mem_of_getElem? (i := 531) (by decide +kernel), List.mem_of_getElem? (i := 532) (by decide +kernel)⟩
theorem lw_p11 : lw_okq (⟨"CornerstoneSought$Foresight", "winningPlaceIn", "(II)I"⟩, 6) := ⟨⟨by decide +kernel, by decide +kernel⟩, List.mem_of_getElem? (i := 91) (by decide +kernel), List.mem_of_getElem? (i := 550) (by decide +kernel), List.mem_of_getElem? (i := 551) (by decide +kernel)⟩
theorem lw_p12 : lw_okq (⟨"CornerstoneSought", "notesRefused", "(I)I"⟩, 7) := ⟨⟨by decide +kernel, by decide +kernel⟩, List.mem_of_getElem? (i := 26) (by decide +kernel), List.mem_of_getElem? (i := 584) (by decide +kernel), List.mem_of_getElem? (i := 585) (by decide +kernel)⟩
theorem lw_p13 : lw_okq (⟨"CornerstoneSought$Foresight", "soundsAs", "(ILCornerstoneSought$Shelf;)Z"⟩, 6) := ⟨⟨by decide +kernel, by decide +kernel⟩, List.mem_of_getElem? (i := 91) (by decide +kernel), List.mem_of_getElem? (i := 592) (by decide +kernel), List.mem_of_getElem? (i := 593) (by decide +kernel)⟩
theorem lw_p14 : lw_okq (⟨"CornerstoneSought$Foresight", "noteIn", "(II)I"⟩, 6) := ⟨⟨by decide +kernel, by decide +kernel⟩, List.mem_of_getElem? (i := 91) (by decide +kernel), List.mem_of_getElem? (i := 598) (by decide +kernel), List.mem_of_getElem? (i := 599) (by decide +kernel)⟩
theorem lw_p15 : lw_okq (⟨"CornerstoneSought$Foresight", "hearAll", "(I)V"⟩, 6) := ⟨⟨by decide +kernel, by decide +kernel⟩, List.mem_of_getElem? (i := 91) (by decide +kernel), List.mem_of_getElem? (i := 611) (by decide +kernel), List.mem_of_getElem? (i := 612) (by decide +kernel)⟩
def lw_privs_1 : List (MethodName × Nat) := [(⟨"CornerstoneSought", "rowRefused", "(I)I"⟩, 7), (⟨"CornerstoneSought", "doStatements", "(LCornerstoneSought$Shelf;)I"⟩, 7), (⟨"CornerstoneSought", "doStatement", "(LCornerstoneSought$Shelf;I)Z"⟩, 7), (⟨"CornerstoneSought$Hall", "settle", "()I"⟩, 10), (⟨"CornerstoneSought$Hall", "restsIn", "(II)Z"⟩, 10), (⟨"CornerstoneSought", "kindRefused", "(I)I"⟩, 7), (⟨"CornerstoneSought", "stoneRefused", "(I)I"⟩, 7), (⟨"CornerstoneSought$Foresight", "leftOf", "(I)I"⟩, 6), (⟨"CornerstoneSought$Foresight", "countWithout", "(I)I"⟩, 6), (⟨"CornerstoneSought$Foresight", "runFrom", "(II)I"⟩, 6), (⟨"CornerstoneSought$Foresight", "isSafeIn", "(II)Z"⟩, 6), (⟨"CornerstoneSought$Foresight", "winningPlaceIn", "(II)I"⟩, 6), (⟨"CornerstoneSought", "notesRefused", "(I)I"⟩, 7), (⟨"CornerstoneSought$Foresight", "soundsAs", "(ILCornerstoneSought$Shelf;)Z"⟩, 6), (⟨"CornerstoneSought$Foresight", "noteIn", "(II)I"⟩, 6), (⟨"CornerstoneSought$Foresight", "hearAll", "(I)V"⟩, 6)]
theorem lw_r1 : ∀ q ∈ lw_privs_1, lw_okq q := List.forall_mem_cons.mpr ⟨lw_p0, List.forall_mem_cons.mpr ⟨lw_p1, List.forall_mem_cons.mpr ⟨lw_p2, List.forall_mem_cons.mpr ⟨lw_p3, List.forall_mem_cons.mpr ⟨lw_p4, List.forall_mem_cons.mpr ⟨lw_p5, List.forall_mem_cons.mpr ⟨lw_p6, List.forall_mem_cons.mpr ⟨lw_p7, List.forall_mem_cons.mpr ⟨lw_p8, List.forall_mem_cons.mpr ⟨lw_p9, List.forall_mem_cons.mpr ⟨lw_p10, List.forall_mem_cons.mpr ⟨lw_p11, List.forall_mem_cons.mpr ⟨lw_p12, List.forall_mem_cons.mpr ⟨lw_p13, List.forall_mem_cons.mpr ⟨lw_p14, List.forall_mem_cons.mpr ⟨lw_p15, fun _ h => absurd h List.not_mem_nil⟩⟩⟩⟩⟩⟩⟩⟩⟩⟩⟩⟩⟩⟩⟩⟩
theorem lw_p16 : lw_okq (⟨"CornerstoneSought$Foresight", "areSafe", "(II)Z"⟩, 6) := ⟨⟨by decide +kernel, by decide +kernel⟩, List.mem_of_getElem? (i := 91) (by decide +kernel), List.mem_of_getElem? (i := 632) (by decide +kernel), List.mem_of_getElem? (i := 633) (by decide +kernel)⟩
theorem lw_p17 : lw_okq (⟨"CornerstoneSought$Hall", "columnWeight", "(I)I"⟩, 10) := ⟨⟨by decide +kernel, by decide +kernel⟩, List.mem_of_getElem? (i := 97) (by decide +kernel), List.mem_of_getElem? (i := 654) (by decide +kernel), List.mem_of_getElem? (i := 655) (by decide +kernel)⟩
theorem lw_p18 : lw_okq (⟨"CornerstoneSought", "tinsRefused", "(I)I"⟩, 7) := ⟨⟨by decide +kernel, by decide +kernel⟩, List.mem_of_getElem? (i := 26) (by decide +kernel), List.mem_of_getElem? (i := 670) (by decide +kernel), List.mem_of_getElem? (i := 671) (by decide +kernel)⟩
theorem lw_p19 : lw_okq (⟨"CornerstoneSought$Foresight", "waysFrom", "(ILCornerstoneSought$Shelf;I)I"⟩, 6) := ⟨⟨by decide +kernel, by decide +kernel⟩, List.mem_of_getElem? (i := 91) (by decide +kernel), List.mem_of_getElem? (i := 678) (by decide +kernel), List.mem_of_getElem? (i := 679) (by decide +kernel)⟩
theorem lw_p20 : lw_okq (⟨"CornerstoneSought$Foresight", "isTold", "(III)Z"⟩, 6) := ⟨⟨by decide +kernel, by decide +kernel⟩, List.mem_of_getElem? (i := 91) (by decide +kernel), List.mem_of_getElem? (i := 682) (by decide +kernel), List.mem_of_getElem? (i := 683) (by decide +kernel)⟩
theorem lw_p21 : lw_okq (⟨"CornerstoneSought$Foresight", "believedFrom", "(ILCornerstoneSought$Shelf;I)I"⟩, 6) := ⟨⟨by decide +kernel, by decide +kernel⟩, List.mem_of_getElem? (i := 91) (by decide +kernel), List.mem_of_getElem? (i := 698) (by decide +kernel), List.mem_of_getElem? (i := 699) (by decide +kernel)⟩
theorem lw_p22 : lw_okq (⟨"CornerstoneSought$Foresight", "spreadTakings", "(I)V"⟩, 6) := ⟨⟨by decide +kernel, by decide +kernel⟩, List.mem_of_getElem? (i := 91) (by decide +kernel), List.mem_of_getElem? (i := 735) (by decide +kernel), List.mem_of_getElem? (i := 736) (by decide +kernel)⟩
theorem lw_p23 : lw_okq (⟨"CornerstoneSought$Foresight", "areTwins", "(II)Z"⟩, 6) := ⟨⟨by decide +kernel, by decide +kernel⟩, List.mem_of_getElem? (i := 91) (by decide +kernel), List.mem_of_getElem? (i := 747) (by decide +kernel), List.mem_of_getElem? (i := 748) (by decide +kernel)⟩
theorem lw_p24 : lw_okq (⟨"java/lang/Throwable", "fillInStackTrace", "(I)Ljava/lang/Throwable;"⟩, 6) := ⟨⟨by decide +kernel, by decide +kernel⟩, List.mem_of_getElem? (i := 919) (by decide +kernel), List.mem_of_getElem? (i := 917) (by decide +kernel), List.mem_of_getElem? (i := 918) (by decide +kernel)⟩
theorem lw_p25 : lw_okq (⟨"CornerstoneSoughtModel", "wrongRow", "(II)I"⟩, 24) := ⟨⟨by decide +kernel, by decide +kernel⟩, List.mem_of_getElem? (i := 1004) (by decide +kernel), List.mem_of_getElem? (i := 1088) (by decide +kernel), List.mem_of_getElem? (i := 1089) (by decide +kernel)⟩
theorem lw_p26 : lw_okq (⟨"CornerstoneSoughtModel", "readsStatement", "()Z"⟩, 24) := ⟨⟨by decide +kernel, by decide +kernel⟩, List.mem_of_getElem? (i := 1004) (by decide +kernel), List.mem_of_getElem? (i := 1098) (by decide +kernel), List.mem_of_getElem? (i := 1099) (by decide +kernel)⟩
theorem lw_p27 : lw_okq (⟨"CornerstoneSoughtModel", "here", "()I"⟩, 24) := ⟨⟨by decide +kernel, by decide +kernel⟩, List.mem_of_getElem? (i := 1004) (by decide +kernel), List.mem_of_getElem? (i := 1102) (by decide +kernel), List.mem_of_getElem? (i := 1103) (by decide +kernel)⟩
theorem lw_p28 : lw_okq (⟨"CornerstoneSoughtModel", "readsNumber", "(II)Z"⟩, 24) := ⟨⟨by decide +kernel, by decide +kernel⟩, List.mem_of_getElem? (i := 1004) (by decide +kernel), List.mem_of_getElem? (i := 1106) (by decide +kernel), List.mem_of_getElem? (i := 1107) (by decide +kernel)⟩
theorem lw_p29 : lw_okq (⟨"CornerstoneSoughtModel", "isDone", "(I)Z"⟩, 24) := ⟨⟨by decide +kernel, by decide +kernel⟩, List.mem_of_getElem? (i := 1004) (by decide +kernel), List.mem_of_getElem? (i := 1113) (by decide +kernel), List.mem_of_getElem? (i := 1114) (by decide +kernel)⟩
theorem lw_p30 : lw_okq (⟨"CornerstoneSoughtModel", "isThere", "(I)Z"⟩, 24) := ⟨⟨by decide +kernel, by decide +kernel⟩, List.mem_of_getElem? (i := 1004) (by decide +kernel), List.mem_of_getElem? (i := 1120) (by decide +kernel), List.mem_of_getElem? (i := 1121) (by decide +kernel)⟩
theorem lw_p31 : lw_okq (⟨"CornerstoneSoughtModel", "laysAt", "(III)V"⟩, 24) := ⟨⟨by decide +kernel, by decide +kernel⟩, List.mem_of_getElem? (i := 1004) (by decide +kernel), List.mem_of_getElem? (i := 1127) (by decide +kernel), List.mem_of_getElem? (i := 1128) (by decide +kernel)⟩
def lw_privs_2 : List (MethodName × Nat) := [(⟨"CornerstoneSought$Foresight", "areSafe", "(II)Z"⟩, 6), (⟨"CornerstoneSought$Hall", "columnWeight", "(I)I"⟩, 10), (⟨"CornerstoneSought", "tinsRefused", "(I)I"⟩, 7), (⟨"CornerstoneSought$Foresight", "waysFrom", "(ILCornerstoneSought$Shelf;I)I"⟩, 6), (⟨"CornerstoneSought$Foresight", "isTold", "(III)Z"⟩, 6), (⟨"CornerstoneSought$Foresight", "believedFrom", "(ILCornerstoneSought$Shelf;I)I"⟩, 6), (⟨"CornerstoneSought$Foresight", "spreadTakings", "(I)V"⟩, 6), (⟨"CornerstoneSought$Foresight", "areTwins", "(II)Z"⟩, 6), (⟨"java/lang/Throwable", "fillInStackTrace", "(I)Ljava/lang/Throwable;"⟩, 6), (⟨"CornerstoneSoughtModel", "wrongRow", "(II)I"⟩, 24), (⟨"CornerstoneSoughtModel", "readsStatement", "()Z"⟩, 24), (⟨"CornerstoneSoughtModel", "here", "()I"⟩, 24), (⟨"CornerstoneSoughtModel", "readsNumber", "(II)Z"⟩, 24), (⟨"CornerstoneSoughtModel", "isDone", "(I)Z"⟩, 24), (⟨"CornerstoneSoughtModel", "isThere", "(I)Z"⟩, 24), (⟨"CornerstoneSoughtModel", "laysAt", "(III)V"⟩, 24)]
theorem lw_r2 : ∀ q ∈ lw_privs_2, lw_okq q := List.forall_mem_cons.mpr ⟨lw_p16, List.forall_mem_cons.mpr ⟨lw_p17, List.forall_mem_cons.mpr ⟨lw_p18, List.forall_mem_cons.mpr ⟨lw_p19, List.forall_mem_cons.mpr ⟨lw_p20, List.forall_mem_cons.mpr ⟨lw_p21, List.forall_mem_cons.mpr ⟨lw_p22, List.forall_mem_cons.mpr ⟨lw_p23, List.forall_mem_cons.mpr ⟨lw_p24, List.forall_mem_cons.mpr ⟨lw_p25, List.forall_mem_cons.mpr ⟨lw_p26, List.forall_mem_cons.mpr ⟨lw_p27, List.forall_mem_cons.mpr ⟨lw_p28, List.forall_mem_cons.mpr ⟨lw_p29, List.forall_mem_cons.mpr ⟨lw_p30, List.forall_mem_cons.mpr ⟨lw_p31, fun _ h => absurd h List.not_mem_nil⟩⟩⟩⟩⟩⟩⟩⟩⟩⟩⟩⟩⟩⟩⟩⟩
theorem lw_p32 : lw_okq (⟨"CornerstoneSoughtModel", "settled", "(I)I"⟩, 24) := ⟨⟨by decide +kernel, by decide +kernel⟩, List.mem_of_getElem? (i := 1004) (by decide +kernel), List.mem_of_getElem? (i := 1131) (by decide +kernel), List.mem_of_getElem? (i := 1132) (by decide +kernel)⟩
theorem lw_p33 : lw_okq (⟨"CornerstoneSoughtModel", "loads", "(I)V"⟩, 24) := ⟨⟨by decide +kernel, by decide +kernel⟩, List.mem_of_getElem? (i := 1004) (by decide +kernel), List.mem_of_getElem? (i := 1135) (by decide +kernel), List.mem_of_getElem? (i := 1136) (by decide +kernel)⟩
theorem lw_p34 : lw_okq (⟨"CornerstoneSoughtModel", "weight", "(I)I"⟩, 24) := ⟨⟨by decide +kernel, by decide +kernel⟩, List.mem_of_getElem? (i := 1004) (by decide +kernel), List.mem_of_getElem? (i := 1139) (by decide +kernel), List.mem_of_getElem? (i := 1140) (by decide +kernel)⟩
theorem lw_p35 : lw_okq (⟨"CornerstoneSoughtModel", "figure", "(I)I"⟩, 24) := ⟨⟨by decide +kernel, by decide +kernel⟩, List.mem_of_getElem? (i := 1004) (by decide +kernel), List.mem_of_getElem? (i := 1143) (by decide +kernel), List.mem_of_getElem? (i := 1144) (by decide +kernel)⟩
theorem lw_p36 : lw_okq (⟨"CornerstoneSoughtModel", "kind", "(I)I"⟩, 24) := ⟨⟨by decide +kernel, by decide +kernel⟩, List.mem_of_getElem? (i := 1004) (by decide +kernel), List.mem_of_getElem? (i := 1147) (by decide +kernel), List.mem_of_getElem? (i := 1148) (by decide +kernel)⟩
theorem lw_p37 : lw_okq (⟨"CornerstoneSoughtModel", "isArch", "(I)Z"⟩, 24) := ⟨⟨by decide +kernel, by decide +kernel⟩, List.mem_of_getElem? (i := 1004) (by decide +kernel), List.mem_of_getElem? (i := 1151) (by decide +kernel), List.mem_of_getElem? (i := 1152) (by decide +kernel)⟩
theorem lw_p38 : lw_okq (⟨"CornerstoneSoughtModel", "isLeft", "(II)Z"⟩, 24) := ⟨⟨by decide +kernel, by decide +kernel⟩, List.mem_of_getElem? (i := 1004) (by decide +kernel), List.mem_of_getElem? (i := 1155) (by decide +kernel), List.mem_of_getElem? (i := 1156) (by decide +kernel)⟩
theorem lw_p39 : lw_okq (⟨"CornerstoneSoughtModel", "isRight", "(II)Z"⟩, 24) := ⟨⟨by decide +kernel, by decide +kernel⟩, List.mem_of_getElem? (i := 1004) (by decide +kernel), List.mem_of_getElem? (i := 1162) (by decide +kernel), List.mem_of_getElem? (i := 1163) (by decide +kernel)⟩
theorem lw_p40 : lw_okq (⟨"CornerstoneSoughtModel", "isHeld", "(II)Z"⟩, 24) := ⟨⟨by decide +kernel, by decide +kernel⟩, List.mem_of_getElem? (i := 1004) (by decide +kernel), List.mem_of_getElem? (i := 1166) (by decide +kernel), List.mem_of_getElem? (i := 1167) (by decide +kernel)⟩
theorem lw_p41 : lw_okq (⟨"CornerstoneSoughtModel", "isLight", "(I)Z"⟩, 24) := ⟨⟨by decide +kernel, by decide +kernel⟩, List.mem_of_getElem? (i := 1004) (by decide +kernel), List.mem_of_getElem? (i := 1170) (by decide +kernel), List.mem_of_getElem? (i := 1171) (by decide +kernel)⟩
theorem lw_p42 : lw_okq (⟨"CornerstoneSoughtModel", "isClinging", "(II)Z"⟩, 24) := ⟨⟨by decide +kernel, by decide +kernel⟩, List.mem_of_getElem? (i := 1004) (by decide +kernel), List.mem_of_getElem? (i := 1174) (by decide +kernel), List.mem_of_getElem? (i := 1175) (by decide +kernel)⟩
theorem lw_p43 : lw_okq (⟨"CornerstoneSoughtModel", "bears", "(I)I"⟩, 24) := ⟨⟨by decide +kernel, by decide +kernel⟩, List.mem_of_getElem? (i := 1004) (by decide +kernel), List.mem_of_getElem? (i := 1178) (by decide +kernel), List.mem_of_getElem? (i := 1179) (by decide +kernel)⟩
theorem lw_p44 : lw_okq (⟨"CornerstoneSoughtModel", "leftWithout", "(II)I"⟩, 24) := ⟨⟨by decide +kernel, by decide +kernel⟩, List.mem_of_getElem? (i := 1004) (by decide +kernel), List.mem_of_getElem? (i := 1182) (by decide +kernel), List.mem_of_getElem? (i := 1183) (by decide +kernel)⟩
theorem lw_p45 : lw_okq (⟨"CornerstoneSoughtModel", "wrongStone", "(I)I"⟩, 24) := ⟨⟨by decide +kernel, by decide +kernel⟩, List.mem_of_getElem? (i := 1004) (by decide +kernel), List.mem_of_getElem? (i := 1190) (by decide +kernel), List.mem_of_getElem? (i := 1191) (by decide +kernel)⟩
theorem lw_p46 : lw_okq (⟨"CornerstoneSoughtModel", "noteOf", "(I)I"⟩, 24) := ⟨⟨by decide +kernel, by decide +kernel⟩, List.mem_of_getElem? (i := 1004) (by decide +kernel), List.mem_of_getElem? (i := 1194) (by decide +kernel), List.mem_of_getElem? (i := 1195) (by decide +kernel)⟩
theorem lw_p47 : lw_okq (⟨"CornerstoneSoughtModel", "wrongKept", "(I)I"⟩, 24) := ⟨⟨by decide +kernel, by decide +kernel⟩, List.mem_of_getElem? (i := 1004) (by decide +kernel), List.mem_of_getElem? (i := 1202) (by decide +kernel), List.mem_of_getElem? (i := 1203) (by decide +kernel)⟩
def lw_privs_3 : List (MethodName × Nat) := [(⟨"CornerstoneSoughtModel", "settled", "(I)I"⟩, 24), (⟨"CornerstoneSoughtModel", "loads", "(I)V"⟩, 24), (⟨"CornerstoneSoughtModel", "weight", "(I)I"⟩, 24), (⟨"CornerstoneSoughtModel", "figure", "(I)I"⟩, 24), (⟨"CornerstoneSoughtModel", "kind", "(I)I"⟩, 24), (⟨"CornerstoneSoughtModel", "isArch", "(I)Z"⟩, 24), (⟨"CornerstoneSoughtModel", "isLeft", "(II)Z"⟩, 24), (⟨"CornerstoneSoughtModel", "isRight", "(II)Z"⟩, 24), (⟨"CornerstoneSoughtModel", "isHeld", "(II)Z"⟩, 24), (⟨"CornerstoneSoughtModel", "isLight", "(I)Z"⟩, 24), (⟨"CornerstoneSoughtModel", "isClinging", "(II)Z"⟩, 24), (⟨"CornerstoneSoughtModel", "bears", "(I)I"⟩, 24), (⟨"CornerstoneSoughtModel", "leftWithout", "(II)I"⟩, 24), (⟨"CornerstoneSoughtModel", "wrongStone", "(I)I"⟩, 24), (⟨"CornerstoneSoughtModel", "noteOf", "(I)I"⟩, 24), (⟨"CornerstoneSoughtModel", "wrongKept", "(I)I"⟩, 24)]
theorem lw_r3 : ∀ q ∈ lw_privs_3, lw_okq q := List.forall_mem_cons.mpr ⟨lw_p32, List.forall_mem_cons.mpr ⟨lw_p33, List.forall_mem_cons.mpr ⟨lw_p34, List.forall_mem_cons.mpr ⟨lw_p35, List.forall_mem_cons.mpr ⟨lw_p36, List.forall_mem_cons.mpr ⟨lw_p37, List.forall_mem_cons.mpr ⟨lw_p38, List.forall_mem_cons.mpr ⟨lw_p39, List.forall_mem_cons.mpr ⟨lw_p40, List.forall_mem_cons.mpr ⟨lw_p41, List.forall_mem_cons.mpr ⟨lw_p42, List.forall_mem_cons.mpr ⟨lw_p43, List.forall_mem_cons.mpr ⟨lw_p44, List.forall_mem_cons.mpr ⟨lw_p45, List.forall_mem_cons.mpr ⟨lw_p46, List.forall_mem_cons.mpr ⟨lw_p47, fun _ h => absurd h List.not_mem_nil⟩⟩⟩⟩⟩⟩⟩⟩⟩⟩⟩⟩⟩⟩⟩⟩
theorem lw_p48 : lw_okq (⟨"CornerstoneSoughtModel", "safeOf", "(I)I"⟩, 24) := ⟨⟨by decide +kernel, by decide +kernel⟩, List.mem_of_getElem? (i := 1004) (by decide +kernel), List.mem_of_getElem? (i := 1225) (by decide +kernel), List.mem_of_getElem? (i := 1226) (by decide +kernel)⟩
theorem lw_p49 : lw_okq (⟨"CornerstoneSoughtModel", "fallsOf", "(II)I"⟩, 24) := ⟨⟨by decide +kernel, by decide +kernel⟩, List.mem_of_getElem? (i := 1004) (by decide +kernel), List.mem_of_getElem? (i := 1229) (by decide +kernel), List.mem_of_getElem? (i := 1230) (by decide +kernel)⟩
theorem lw_p50 : lw_okq (⟨"CornerstoneSoughtModel", "finds", "(Z)V"⟩, 24) := ⟨⟨by decide +kernel, by decide +kernel⟩, List.mem_of_getElem? (i := 1004) (by decide +kernel), List.mem_of_getElem? (i := 1253) (by decide +kernel), List.mem_of_getElem? (i := 1254) (by decide +kernel)⟩
theorem lw_p51 : lw_okq (⟨"CornerstoneSoughtModel", "firstTo", "(Z)I"⟩, 24) := ⟨⟨by decide +kernel, by decide +kernel⟩, List.mem_of_getElem? (i := 1004) (by decide +kernel), List.mem_of_getElem? (i := 1260) (by decide +kernel), List.mem_of_getElem? (i := 1261) (by decide +kernel)⟩
theorem lw_p52 : lw_okq (⟨"CornerstoneSoughtModel", "wrongPairs", "(I)I"⟩, 24) := ⟨⟨by decide +kernel, by decide +kernel⟩, List.mem_of_getElem? (i := 1004) (by decide +kernel), List.mem_of_getElem? (i := 1287) (by decide +kernel), List.mem_of_getElem? (i := 1288) (by decide +kernel)⟩
theorem lw_p53 : lw_okq (⟨"CornerstoneSoughtModel", "whichOf", "(I)I"⟩, 24) := ⟨⟨by decide +kernel, by decide +kernel⟩, List.mem_of_getElem? (i := 1004) (by decide +kernel), List.mem_of_getElem? (i := 1291) (by decide +kernel), List.mem_of_getElem? (i := 1292) (by decide +kernel)⟩
theorem lw_p54 : lw_okq (⟨"CornerstoneSoughtModel", "noteWithout", "(II)I"⟩, 24) := ⟨⟨by decide +kernel, by decide +kernel⟩, List.mem_of_getElem? (i := 1004) (by decide +kernel), List.mem_of_getElem? (i := 1295) (by decide +kernel), List.mem_of_getElem? (i := 1296) (by decide +kernel)⟩
theorem lw_p55 : lw_okq (⟨"CornerstoneSoughtModel", "kindsBy", "(II)I"⟩, 24) := ⟨⟨by decide +kernel, by decide +kernel⟩, List.mem_of_getElem? (i := 1004) (by decide +kernel), List.mem_of_getElem? (i := 1303) (by decide +kernel), List.mem_of_getElem? (i := 1304) (by decide +kernel)⟩
theorem lw_p56 : lw_okq (⟨"CornerstoneSoughtModel", "columnOf", "(I)I"⟩, 24) := ⟨⟨by decide +kernel, by decide +kernel⟩, List.mem_of_getElem? (i := 1004) (by decide +kernel), List.mem_of_getElem? (i := 1320) (by decide +kernel), List.mem_of_getElem? (i := 1321) (by decide +kernel)⟩
theorem lw_p57 : lw_okq (⟨"CornerstoneSoughtModel", "wrongTins", "(I)I"⟩, 24) := ⟨⟨by decide +kernel, by decide +kernel⟩, List.mem_of_getElem? (i := 1004) (by decide +kernel), List.mem_of_getElem? (i := 1328) (by decide +kernel), List.mem_of_getElem? (i := 1329) (by decide +kernel)⟩
theorem lw_p58 : lw_okq (⟨"CornerstoneSoughtModel", "goesThrough", "(I)V"⟩, 24) := ⟨⟨by decide +kernel, by decide +kernel⟩, List.mem_of_getElem? (i := 1004) (by decide +kernel), List.mem_of_getElem? (i := 1332) (by decide +kernel), List.mem_of_getElem? (i := 1333) (by decide +kernel)⟩
theorem lw_p59 : lw_okq (⟨"CornerstoneSoughtModel", "takesAll", "(IIII)V"⟩, 24) := ⟨⟨by decide +kernel, by decide +kernel⟩, List.mem_of_getElem? (i := 1004) (by decide +kernel), List.mem_of_getElem? (i := 1336) (by decide +kernel), List.mem_of_getElem? (i := 1337) (by decide +kernel)⟩
theorem lw_p60 : lw_okq (⟨"CornerstoneSoughtModel", "drawn", "(I)I"⟩, 24) := ⟨⟨by decide +kernel, by decide +kernel⟩, List.mem_of_getElem? (i := 1004) (by decide +kernel), List.mem_of_getElem? (i := 1352) (by decide +kernel), List.mem_of_getElem? (i := 1353) (by decide +kernel)⟩
def lw_privs_4 : List (MethodName × Nat) := [(⟨"CornerstoneSoughtModel", "safeOf", "(I)I"⟩, 24), (⟨"CornerstoneSoughtModel", "fallsOf", "(II)I"⟩, 24), (⟨"CornerstoneSoughtModel", "finds", "(Z)V"⟩, 24), (⟨"CornerstoneSoughtModel", "firstTo", "(Z)I"⟩, 24), (⟨"CornerstoneSoughtModel", "wrongPairs", "(I)I"⟩, 24), (⟨"CornerstoneSoughtModel", "whichOf", "(I)I"⟩, 24), (⟨"CornerstoneSoughtModel", "noteWithout", "(II)I"⟩, 24), (⟨"CornerstoneSoughtModel", "kindsBy", "(II)I"⟩, 24), (⟨"CornerstoneSoughtModel", "columnOf", "(I)I"⟩, 24), (⟨"CornerstoneSoughtModel", "wrongTins", "(I)I"⟩, 24), (⟨"CornerstoneSoughtModel", "goesThrough", "(I)V"⟩, 24), (⟨"CornerstoneSoughtModel", "takesAll", "(IIII)V"⟩, 24), (⟨"CornerstoneSoughtModel", "drawn", "(I)I"⟩, 24)]
theorem lw_r4 : ∀ q ∈ lw_privs_4, lw_okq q := List.forall_mem_cons.mpr ⟨lw_p48, List.forall_mem_cons.mpr ⟨lw_p49, List.forall_mem_cons.mpr ⟨lw_p50, List.forall_mem_cons.mpr ⟨lw_p51, List.forall_mem_cons.mpr ⟨lw_p52, List.forall_mem_cons.mpr ⟨lw_p53, List.forall_mem_cons.mpr ⟨lw_p54, List.forall_mem_cons.mpr ⟨lw_p55, List.forall_mem_cons.mpr ⟨lw_p56, List.forall_mem_cons.mpr ⟨lw_p57, List.forall_mem_cons.mpr ⟨lw_p58, List.forall_mem_cons.mpr ⟨lw_p59, List.forall_mem_cons.mpr ⟨lw_p60, fun _ h => absurd h List.not_mem_nil⟩⟩⟩⟩⟩⟩⟩⟩⟩⟩⟩⟩⟩
def lw_privs : List (MethodName × Nat) := lw_privs_1 ++ (lw_privs_2 ++ (lw_privs_3 ++ (lw_privs_4)))
def lw_tbl : List Cond := k2_sels lw_privs ++ tables_1
theorem lw_privs_ok : ∀ q ∈ lw_privs, lw_okq q := by
  show ∀ q ∈ lw_privs_1 ++ (lw_privs_2 ++ (lw_privs_3 ++ (lw_privs_4))), lw_okq q
  exact List.forall_mem_append.mpr ⟨lw_r1, List.forall_mem_append.mpr ⟨lw_r2, List.forall_mem_append.mpr ⟨lw_r3, lw_r4⟩⟩⟩
end
section
def RX0 : String := "CornerstoneSought$Arch"
def TX0 : u_T := fun k => match k with
  | _ => ("", "", "", false)
def tyX0 : Nat → FieldType := fun k => match k with
  | _ => .int
abbrev wsX00 : List Cond := u_ws RX0 TX0 0
theorem nmX0 : ∀ a, a < 0 → ∀ b, b < 0 → a ≠ b → (TX0 a).2.1 ≠ (TX0 b).2.1 := by decide +kernel
theorem tyX0_ok : ∀ k, k < 0 → parseFieldDescriptor (TX0 k).2.2.1 = some (tyX0 k) := by decide +kernel
abbrev cX0_init : ByteArray := prog_2_method_1_code
def yX0_init : MethodName := ⟨RX0, "<init>", "()V"⟩
abbrev cX0_weight : ByteArray := prog_2_method_2_code
def yX0_weight : MethodName := ⟨RX0, "weight", "(I)I"⟩
abbrev cX0_bears : ByteArray := prog_2_method_3_code
def yX0_bears : MethodName := ⟨RX0, "bears", "(I)I"⟩
abbrev cX0_price : ByteArray := prog_2_method_4_code
def yX0_price : MethodName := ⟨RX0, "price", "(I)I"⟩
abbrev cX0_manner : ByteArray := prog_2_method_5_code
def yX0_manner : MethodName := ⟨RX0, "manner", "()I"⟩
def RX1 : String := "CornerstoneSought$Beam"
def TX1 : u_T := fun k => match k with
  | _ => ("", "", "", false)
def tyX1 : Nat → FieldType := fun k => match k with
  | _ => .int
abbrev wsX10 : List Cond := u_ws RX1 TX1 0
theorem nmX1 : ∀ a, a < 0 → ∀ b, b < 0 → a ≠ b → (TX1 a).2.1 ≠ (TX1 b).2.1 := by decide +kernel
theorem tyX1_ok : ∀ k, k < 0 → parseFieldDescriptor (TX1 k).2.2.1 = some (tyX1 k) := by decide +kernel
abbrev cX1_init : ByteArray := prog_3_method_1_code
def yX1_init : MethodName := ⟨RX1, "<init>", "()V"⟩
abbrev cX1_weight : ByteArray := prog_3_method_2_code
def yX1_weight : MethodName := ⟨RX1, "weight", "(I)I"⟩
abbrev cX1_bears : ByteArray := prog_3_method_3_code
def yX1_bears : MethodName := ⟨RX1, "bears", "(I)I"⟩
abbrev cX1_price : ByteArray := prog_3_method_4_code
def yX1_price : MethodName := ⟨RX1, "price", "(I)I"⟩
abbrev cX1_manner : ByteArray := prog_3_method_5_code
def yX1_manner : MethodName := ⟨RX1, "manner", "()I"⟩
def RX2 : String := "CornerstoneSought$Corner"
def TX2 : u_T := fun k => match k with
  | _ => ("", "", "", false)
def tyX2 : Nat → FieldType := fun k => match k with
  | _ => .int
abbrev wsX20 : List Cond := u_ws RX2 TX2 0
theorem nmX2 : ∀ a, a < 0 → ∀ b, b < 0 → a ≠ b → (TX2 a).2.1 ≠ (TX2 b).2.1 := by decide +kernel
theorem tyX2_ok : ∀ k, k < 0 → parseFieldDescriptor (TX2 k).2.2.1 = some (tyX2 k) := by decide +kernel
abbrev cX2_init : ByteArray := prog_4_method_1_code
def yX2_init : MethodName := ⟨RX2, "<init>", "()V"⟩
abbrev cX2_weight : ByteArray := prog_4_method_2_code
def yX2_weight : MethodName := ⟨RX2, "weight", "(I)I"⟩
abbrev cX2_bears : ByteArray := prog_4_method_3_code
def yX2_bears : MethodName := ⟨RX2, "bears", "(I)I"⟩
abbrev cX2_price : ByteArray := prog_4_method_4_code
def yX2_price : MethodName := ⟨RX2, "price", "(I)I"⟩
abbrev cX2_fail : ByteArray := prog_4_method_5_code
def yX2_fail : MethodName := ⟨RX2, "fail", "(I)V"⟩
def RX3 : String := "CornerstoneSought$Foresight"
def TX3 : u_T := fun k => match k with
  | 0 => ("CornerstoneSought$Foresight", "hall", "LCornerstoneSought$Hall;", true)
  | 1 => ("CornerstoneSought$Foresight", "settled", "[I", true)
  | 2 => ("CornerstoneSought$Foresight", "worth", "[I", true)
  | 3 => ("CornerstoneSought$Foresight", "heard", "[J", true)
  | 4 => ("CornerstoneSought$Foresight", "odds", "[J", true)
  | _ => ("CornerstoneSought$Foresight", "seen", "I", false)
def tyX3 : Nat → FieldType := fun k => match k with
  | 0 => .object "CornerstoneSought$Hall"
  | 1 => .array .int
  | 2 => .array .int
  | 3 => .array .long
  | 4 => .array .long
  | _ => .int
abbrev wsX30 : List Cond := u_ws RX3 TX3 6
theorem nmX3 : ∀ a, a < 6 → ∀ b, b < 6 → a ≠ b → (TX3 a).2.1 ≠ (TX3 b).2.1 := by decide +kernel
theorem tyX3_ok : ∀ k, k < 6 → parseFieldDescriptor (TX3 k).2.2.1 = some (tyX3 k) := by decide +kernel
abbrev cX3_init : ByteArray := prog_5_method_1_code
def yX3_init : MethodName := ⟨RX3, "<init>", "()V"⟩
abbrev cX3_leftOf : ByteArray := prog_5_method_2_code
def yX3_leftOf : MethodName := ⟨RX3, "leftOf", "(I)I"⟩
abbrev cX3_fallenWithout : ByteArray := prog_5_method_3_code
def yX3_fallenWithout : MethodName := ⟨RX3, "fallenWithout", "(I)I"⟩
abbrev cX3_countWithout : ByteArray := prog_5_method_4_code
def yX3_countWithout : MethodName := ⟨RX3, "countWithout", "(I)I"⟩
abbrev cX3_isSafeIn : ByteArray := prog_5_method_5_code
def yX3_isSafeIn : MethodName := ⟨RX3, "isSafeIn", "(II)Z"⟩
abbrev cX3_cornerstones : ByteArray := prog_5_method_6_code
def yX3_cornerstones : MethodName := ⟨RX3, "cornerstones", "()I"⟩
abbrev cX3_safeOnes : ByteArray := prog_5_method_7_code
def yX3_safeOnes : MethodName := ⟨RX3, "safeOnes", "()I"⟩
abbrev cX3_worstPlace : ByteArray := prog_5_method_8_code
def yX3_worstPlace : MethodName := ⟨RX3, "worstPlace", "()I"⟩
abbrev cX3_pairsThatFell : ByteArray := prog_5_method_9_code
def yX3_pairsThatFell : MethodName := ⟨RX3, "pairsThatFell", "(IZ)I"⟩
abbrev cX3_nextChoice : ByteArray := prog_5_method_10_code
def yX3_nextChoice : MethodName := ⟨RX3, "nextChoice", "(I)I"⟩
abbrev cX3_fewestToFell : ByteArray := prog_5_method_11_code
def yX3_fewestToFell : MethodName := ⟨RX3, "fewestToFell", "(I)I"⟩
abbrev cX3_fewestToLevel : ByteArray := prog_5_method_12_code
def yX3_fewestToLevel : MethodName := ⟨RX3, "fewestToLevel", "()I"⟩
abbrev cX3_longestRun : ByteArray := prog_5_method_13_code
def yX3_longestRun : MethodName := ⟨RX3, "longestRun", "()I"⟩
abbrev cX3_firstOfLongest : ByteArray := prog_5_method_14_code
def yX3_firstOfLongest : MethodName := ⟨RX3, "firstOfLongest", "()I"⟩
abbrev cX3_runFrom : ByteArray := prog_5_method_15_code
def yX3_runFrom : MethodName := ⟨RX3, "runFrom", "(II)I"⟩
abbrev cX3_winningPlace : ByteArray := prog_5_method_16_code
def yX3_winningPlace : MethodName := ⟨RX3, "winningPlace", "()I"⟩
abbrev cX3_winningPlaceIn : ByteArray := prog_5_method_17_code
def yX3_winningPlaceIn : MethodName := ⟨RX3, "winningPlaceIn", "(II)I"⟩
abbrev cX3_bombedWaysLeaving : ByteArray := prog_5_method_18_code
def yX3_bombedWaysLeaving : MethodName := ⟨RX3, "bombedWaysLeaving", "(II)J"⟩
abbrev cX3_suspectsBy : ByteArray := prog_5_method_19_code
def yX3_suspectsBy : MethodName := ⟨RX3, "suspectsBy", "(LCornerstoneSought$Shelf;)I"⟩
abbrev cX3_soundsAs : ByteArray := prog_5_method_20_code
def yX3_soundsAs : MethodName := ⟨RX3, "soundsAs", "(ILCornerstoneSought$Shelf;)Z"⟩
abbrev cX3_noteIn : ByteArray := prog_5_method_21_code
def yX3_noteIn : MethodName := ⟨RX3, "noteIn", "(II)I"⟩
abbrev cX3_bestTap : ByteArray := prog_5_method_22_code
def yX3_bestTap : MethodName := ⟨RX3, "bestTap", "(I)I"⟩
abbrev cX3_hearAll : ByteArray := prog_5_method_23_code
def yX3_hearAll : MethodName := ⟨RX3, "hearAll", "(I)V"⟩
abbrev cX3_fewestProps : ByteArray := prog_5_method_24_code
def yX3_fewestProps : MethodName := ⟨RX3, "fewestProps", "()I"⟩
abbrev cX3_areSafe : ByteArray := prog_5_method_25_code
def yX3_areSafe : MethodName := ⟨RX3, "areSafe", "(II)Z"⟩
abbrev cX3_waysTold : ByteArray := prog_5_method_26_code
def yX3_waysTold : MethodName := ⟨RX3, "waysTold", "(LCornerstoneSought$Shelf;)I"⟩
abbrev cX3_firstOfWays : ByteArray := prog_5_method_27_code
def yX3_firstOfWays : MethodName := ⟨RX3, "firstOfWays", "(LCornerstoneSought$Shelf;)I"⟩
abbrev cX3_waysFrom : ByteArray := prog_5_method_28_code
def yX3_waysFrom : MethodName := ⟨RX3, "waysFrom", "(ILCornerstoneSought$Shelf;I)I"⟩
abbrev cX3_isTold : ByteArray := prog_5_method_29_code
def yX3_isTold : MethodName := ⟨RX3, "isTold", "(III)Z"⟩
abbrev cX3_firstForged : ByteArray := prog_5_method_30_code
def yX3_firstForged : MethodName := ⟨RX3, "firstForged", "(LCornerstoneSought$Shelf;)I"⟩
abbrev cX3_believedFrom : ByteArray := prog_5_method_31_code
def yX3_believedFrom : MethodName := ⟨RX3, "believedFrom", "(ILCornerstoneSought$Shelf;I)I"⟩
abbrev cX3_firstBadTaking : ByteArray := prog_5_method_32_code
def yX3_firstBadTaking : MethodName := ⟨RX3, "firstBadTaking", "(LCornerstoneSought$Shelf;)I"⟩
abbrev cX3_sumOfRaids : ByteArray := prog_5_method_33_code
def yX3_sumOfRaids : MethodName := ⟨RX3, "sumOfRaids", "(IIZ)I"⟩
abbrev cX3_drawn : ByteArray := prog_5_method_34_code
def yX3_drawn : MethodName := ⟨RX3, "drawn", "(I)I"⟩
abbrev cX3_placeOf : ByteArray := prog_5_method_35_code
def yX3_placeOf : MethodName := ⟨RX3, "placeOf", "(I)I"⟩
abbrev cX3_fewestTakings : ByteArray := prog_5_method_36_code
def yX3_fewestTakings : MethodName := ⟨RX3, "fewestTakings", "(I)I"⟩
abbrev cX3_spreadTakings : ByteArray := prog_5_method_37_code
def yX3_spreadTakings : MethodName := ⟨RX3, "spreadTakings", "(I)V"⟩
abbrev cX3_twinPairs : ByteArray := prog_5_method_38_code
def yX3_twinPairs : MethodName := ⟨RX3, "twinPairs", "()I"⟩
abbrev cX3_areTwins : ByteArray := prog_5_method_39_code
def yX3_areTwins : MethodName := ⟨RX3, "areTwins", "(II)Z"⟩
abbrev cX3_supportsOf : ByteArray := prog_5_method_40_code
def yX3_supportsOf : MethodName := ⟨RX3, "supportsOf", "(I)I"⟩
def RX4 : String := "CornerstoneSought$Hall"
def TX4 : u_T := fun k => match k with
  | 0 => ("CornerstoneSought$Hall", "kinds", "[I", true)
  | 1 => ("CornerstoneSought$Hall", "figures", "[I", true)
  | 2 => ("CornerstoneSought$Hall", "weights", "[I", true)
  | 3 => ("CornerstoneSought$Hall", "bears", "[I", true)
  | 4 => ("CornerstoneSought$Hall", "manners", "[I", true)
  | 5 => ("CornerstoneSought$Hall", "loads", "[I", true)
  | 6 => ("CornerstoneSought$Hall", "stones", "I", false)
  | 7 => ("CornerstoneSought$Hall", "propped", "I", false)
  | 8 => ("CornerstoneSought$Hall", "firm", "I", false)
  | _ => ("CornerstoneSought$Hall", "changes", "I", false)
def tyX4 : Nat → FieldType := fun k => match k with
  | 0 => .array .int
  | 1 => .array .int
  | 2 => .array .int
  | 3 => .array .int
  | 4 => .array .int
  | 5 => .array .int
  | 6 => .int
  | 7 => .int
  | 8 => .int
  | _ => .int
abbrev wsX40 : List Cond := u_ws RX4 TX4 10
theorem nmX4 : ∀ a, a < 10 → ∀ b, b < 10 → a ≠ b → (TX4 a).2.1 ≠ (TX4 b).2.1 := by decide +kernel
theorem tyX4_ok : ∀ k, k < 10 → parseFieldDescriptor (TX4 k).2.2.1 = some (tyX4 k) := by decide +kernel
abbrev cX4_init : ByteArray := prog_6_method_1_code
def yX4_init : MethodName := ⟨RX4, "<init>", "()V"⟩
abbrev cX4_holds : ByteArray := prog_6_method_2_code
def yX4_holds : MethodName := ⟨RX4, "holds", "(I)Z"⟩
abbrev cX4_has : ByteArray := prog_6_method_3_code
def yX4_has : MethodName := ⟨RX4, "has", "(II)Z"⟩
abbrev cX4_becomeAs : ByteArray := prog_6_method_4_code
def yX4_becomeAs : MethodName := ⟨RX4, "becomeAs", "(LCornerstoneSought$Hall;)V"⟩
abbrev cX4_lay : ByteArray := prog_6_method_5_code
def yX4_lay : MethodName := ⟨RX4, "lay", "(IIILCornerstoneSought$Stone;)I"⟩
abbrev cX4_takeOut : ByteArray := prog_6_method_6_code
def yX4_takeOut : MethodName := ⟨RX4, "takeOut", "(I)I"⟩
abbrev cX4_turnProp : ByteArray := prog_6_method_7_code
def yX4_turnProp : MethodName := ⟨RX4, "turnProp", "(I)I"⟩
abbrev cX4_settle : ByteArray := prog_6_method_8_code
def yX4_settle : MethodName := ⟨RX4, "settle", "()I"⟩
abbrev cX4_leftOf : ByteArray := prog_6_method_9_code
def yX4_leftOf : MethodName := ⟨RX4, "leftOf", "(I)I"⟩
abbrev cX4_stepsFrom : ByteArray := prog_6_method_10_code
def yX4_stepsFrom : MethodName := ⟨RX4, "stepsFrom", "(I)I"⟩
abbrev cX4_looseIn : ByteArray := prog_6_method_11_code
def yX4_looseIn : MethodName := ⟨RX4, "looseIn", "(II)I"⟩
abbrev cX4_restsIn : ByteArray := prog_6_method_12_code
def yX4_restsIn : MethodName := ⟨RX4, "restsIn", "(II)Z"⟩
abbrev cX4_weighAll : ByteArray := prog_6_method_13_code
def yX4_weighAll : MethodName := ⟨RX4, "weighAll", "()V"⟩
abbrev cX4_weighIn : ByteArray := prog_6_method_14_code
def yX4_weighIn : MethodName := ⟨RX4, "weighIn", "(I)V"⟩
abbrev cX4_noteAt : ByteArray := prog_6_method_15_code
def yX4_noteAt : MethodName := ⟨RX4, "noteAt", "(I)I"⟩
abbrev cX4_heaviestLaden : ByteArray := prog_6_method_16_code
def yX4_heaviestLaden : MethodName := ⟨RX4, "heaviestLaden", "()I"⟩
abbrev cX4_allLoads : ByteArray := prog_6_method_17_code
def yX4_allLoads : MethodName := ⟨RX4, "allLoads", "()I"⟩
abbrev cX4_weightOf : ByteArray := prog_6_method_18_code
def yX4_weightOf : MethodName := ⟨RX4, "weightOf", "(I)I"⟩
abbrev cX4_columnWeight : ByteArray := prog_6_method_19_code
def yX4_columnWeight : MethodName := ⟨RX4, "columnWeight", "(I)I"⟩
abbrev cX4_leftOverRight : ByteArray := prog_6_method_20_code
def yX4_leftOverRight : MethodName := ⟨RX4, "leftOverRight", "()I"⟩
abbrev cX4_heaviestColumn : ByteArray := prog_6_method_21_code
def yX4_heaviestColumn : MethodName := ⟨RX4, "heaviestColumn", "()I"⟩
abbrev cX4_highestRow : ByteArray := prog_6_method_22_code
def yX4_highestRow : MethodName := ⟨RX4, "highestRow", "()I"⟩
abbrev cX4_inHighestRow : ByteArray := prog_6_method_23_code
def yX4_inHighestRow : MethodName := ⟨RX4, "inHighestRow", "()I"⟩
def RX5 : String := "CornerstoneSought$Key"
def TX5 : u_T := fun k => match k with
  | _ => ("", "", "", false)
def tyX5 : Nat → FieldType := fun k => match k with
  | _ => .int
abbrev wsX50 : List Cond := u_ws RX5 TX5 0
theorem nmX5 : ∀ a, a < 0 → ∀ b, b < 0 → a ≠ b → (TX5 a).2.1 ≠ (TX5 b).2.1 := by decide +kernel
theorem tyX5_ok : ∀ k, k < 0 → parseFieldDescriptor (TX5 k).2.2.1 = some (tyX5 k) := by decide +kernel
abbrev cX5_init : ByteArray := prog_7_method_1_code
def yX5_init : MethodName := ⟨RX5, "<init>", "()V"⟩
abbrev cX5_weight : ByteArray := prog_7_method_2_code
def yX5_weight : MethodName := ⟨RX5, "weight", "(I)I"⟩
abbrev cX5_bears : ByteArray := prog_7_method_3_code
def yX5_bears : MethodName := ⟨RX5, "bears", "(I)I"⟩
abbrev cX5_price : ByteArray := prog_7_method_4_code
def yX5_price : MethodName := ⟨RX5, "price", "(I)I"⟩
def RX6 : String := "CornerstoneSought$Mouse"
def TX6 : u_T := fun k => match k with
  | _ => ("", "", "", false)
def tyX6 : Nat → FieldType := fun k => match k with
  | _ => .int
abbrev wsX60 : List Cond := u_ws RX6 TX6 0
theorem nmX6 : ∀ a, a < 0 → ∀ b, b < 0 → a ≠ b → (TX6 a).2.1 ≠ (TX6 b).2.1 := by decide +kernel
theorem tyX6_ok : ∀ k, k < 0 → parseFieldDescriptor (TX6 k).2.2.1 = some (tyX6 k) := by decide +kernel
abbrev cX6_init : ByteArray := prog_8_method_1_code
def yX6_init : MethodName := ⟨RX6, "<init>", "()V"⟩
abbrev cX6_weight : ByteArray := prog_8_method_2_code
def yX6_weight : MethodName := ⟨RX6, "weight", "(I)I"⟩
abbrev cX6_bears : ByteArray := prog_8_method_3_code
def yX6_bears : MethodName := ⟨RX6, "bears", "(I)I"⟩
def RX7 : String := "CornerstoneSought$Plaster"
def TX7 : u_T := fun k => match k with
  | _ => ("", "", "", false)
def tyX7 : Nat → FieldType := fun k => match k with
  | _ => .int
abbrev wsX70 : List Cond := u_ws RX7 TX7 0
theorem nmX7 : ∀ a, a < 0 → ∀ b, b < 0 → a ≠ b → (TX7 a).2.1 ≠ (TX7 b).2.1 := by decide +kernel
theorem tyX7_ok : ∀ k, k < 0 → parseFieldDescriptor (TX7 k).2.2.1 = some (tyX7 k) := by decide +kernel
abbrev cX7_init : ByteArray := prog_9_method_1_code
def yX7_init : MethodName := ⟨RX7, "<init>", "()V"⟩
abbrev cX7_weight : ByteArray := prog_9_method_2_code
def yX7_weight : MethodName := ⟨RX7, "weight", "(I)I"⟩
abbrev cX7_bears : ByteArray := prog_9_method_3_code
def yX7_bears : MethodName := ⟨RX7, "bears", "(I)I"⟩
abbrev cX7_price : ByteArray := prog_9_method_4_code
def yX7_price : MethodName := ⟨RX7, "price", "(I)I"⟩
abbrev cX7_manner : ByteArray := prog_9_method_5_code
def yX7_manner : MethodName := ⟨RX7, "manner", "()I"⟩
abbrev cX7_fail : ByteArray := prog_9_method_6_code
def yX7_fail : MethodName := ⟨RX7, "fail", "(I)V"⟩
def RX8 : String := "CornerstoneSought$Shelf"
def TX8 : u_T := fun k => match k with
  | 0 => ("CornerstoneSought$Shelf", "holding", "I", false)
  | 1 => ("CornerstoneSought$Shelf", "kind", "I", false)
  | 2 => ("CornerstoneSought$Shelf", "figure", "I", false)
  | 3 => ("CornerstoneSought$Shelf", "sort", "I", false)
  | 4 => ("CornerstoneSought$Shelf", "size", "I", false)
  | _ => ("CornerstoneSought$Shelf", "elements", "[I", true)
def tyX8 : Nat → FieldType := fun k => match k with
  | 0 => .int
  | 1 => .int
  | 2 => .int
  | 3 => .int
  | 4 => .int
  | _ => .array .int
abbrev wsX80 : List Cond := u_ws RX8 TX8 6
theorem nmX8 : ∀ a, a < 6 → ∀ b, b < 6 → a ≠ b → (TX8 a).2.1 ≠ (TX8 b).2.1 := by decide +kernel
theorem tyX8_ok : ∀ k, k < 6 → parseFieldDescriptor (TX8 k).2.2.1 = some (tyX8 k) := by decide +kernel
abbrev cX8_init : ByteArray := prog_10_method_1_code
def yX8_init : MethodName := ⟨RX8, "<init>", "()V"⟩
abbrev cX8_clear : ByteArray := prog_10_method_2_code
def yX8_clear : MethodName := ⟨RX8, "clear", "()V"⟩
abbrev cX8_holdKind : ByteArray := prog_10_method_3_code
def yX8_holdKind : MethodName := ⟨RX8, "holdKind", "(II)V"⟩
abbrev cX8_holdRow : ByteArray := prog_10_method_4_code
def yX8_holdRow : MethodName := ⟨RX8, "holdRow", "(II)V"⟩
abbrev cX8_isEmpty : ByteArray := prog_10_method_5_code
def yX8_isEmpty : MethodName := ⟨RX8, "isEmpty", "()Z"⟩
abbrev cX8_isRow : ByteArray := prog_10_method_6_code
def yX8_isRow : MethodName := ⟨RX8, "isRow", "()Z"⟩
abbrev cX8_hasPlace : ByteArray := prog_10_method_7_code
def yX8_hasPlace : MethodName := ⟨RX8, "hasPlace", "(I)Z"⟩
abbrev cX8_hasSpan : ByteArray := prog_10_method_8_code
def yX8_hasSpan : MethodName := ⟨RX8, "hasSpan", "(II)Z"⟩
abbrev cX8_at : ByteArray := prog_10_method_9_code
def yX8_at : MethodName := ⟨RX8, "at", "(I)I"⟩
abbrev cX8_write : ByteArray := prog_10_method_10_code
def yX8_write : MethodName := ⟨RX8, "write", "(II)V"⟩
def RX9 : String := "CornerstoneSought$Step"
def TX9 : u_T := fun k => match k with
  | _ => ("", "", "", false)
def tyX9 : Nat → FieldType := fun k => match k with
  | _ => .int
abbrev wsX90 : List Cond := u_ws RX9 TX9 0
theorem nmX9 : ∀ a, a < 0 → ∀ b, b < 0 → a ≠ b → (TX9 a).2.1 ≠ (TX9 b).2.1 := by decide +kernel
theorem tyX9_ok : ∀ k, k < 0 → parseFieldDescriptor (TX9 k).2.2.1 = some (tyX9 k) := by decide +kernel
abbrev cX9_init : ByteArray := prog_11_method_1_code
def yX9_init : MethodName := ⟨RX9, "<init>", "()V"⟩
abbrev cX9_bears : ByteArray := prog_11_method_2_code
def yX9_bears : MethodName := ⟨RX9, "bears", "(I)I"⟩
abbrev cX9_price : ByteArray := prog_11_method_3_code
def yX9_price : MethodName := ⟨RX9, "price", "(I)I"⟩
abbrev cX9_fail : ByteArray := prog_11_method_4_code
def yX9_fail : MethodName := ⟨RX9, "fail", "(I)V"⟩
def RX10 : String := "CornerstoneSought$Stone"
def TX10 : u_T := fun k => match k with
  | _ => ("", "", "", false)
def tyX10 : Nat → FieldType := fun k => match k with
  | _ => .int
abbrev wsX100 : List Cond := u_ws RX10 TX10 0
theorem nmX10 : ∀ a, a < 0 → ∀ b, b < 0 → a ≠ b → (TX10 a).2.1 ≠ (TX10 b).2.1 := by decide +kernel
theorem tyX10_ok : ∀ k, k < 0 → parseFieldDescriptor (TX10 k).2.2.1 = some (tyX10 k) := by decide +kernel
abbrev cX10_init : ByteArray := prog_12_method_1_code
def yX10_init : MethodName := ⟨RX10, "<init>", "()V"⟩
abbrev cX10_weight : ByteArray := prog_12_method_2_code
def yX10_weight : MethodName := ⟨RX10, "weight", "(I)I"⟩
abbrev cX10_bears : ByteArray := prog_12_method_3_code
def yX10_bears : MethodName := ⟨RX10, "bears", "(I)I"⟩
abbrev cX10_price : ByteArray := prog_12_method_4_code
def yX10_price : MethodName := ⟨RX10, "price", "(I)I"⟩
abbrev cX10_manner : ByteArray := prog_12_method_5_code
def yX10_manner : MethodName := ⟨RX10, "manner", "()I"⟩
abbrev cX10_fail : ByteArray := prog_12_method_6_code
def yX10_fail : MethodName := ⟨RX10, "fail", "(I)V"⟩
def RX11 : String := "CornerstoneSought"
def TX11 : u_T := fun k => match k with
  | 0 => ("CornerstoneSought", "kinds", "[LCornerstoneSought$Stone;", true)
  | 1 => ("CornerstoneSought", "mind", "LCornerstoneSought$Foresight;", true)
  | 2 => ("CornerstoneSought", "now", "LCornerstoneSought$Hall;", true)
  | 3 => ("CornerstoneSought", "imaged", "LCornerstoneSought$Hall;", true)
  | 4 => ("CornerstoneSought", "before", "LCornerstoneSought$Hall;", true)
  | 5 => ("CornerstoneSought", "shelves", "[LCornerstoneSought$Shelf;", true)
  | _ => ("CornerstoneSought", "hasImage", "Z", false)
def tyX11 : Nat → FieldType := fun k => match k with
  | 0 => .array (.object "CornerstoneSought$Stone")
  | 1 => .object "CornerstoneSought$Foresight"
  | 2 => .object "CornerstoneSought$Hall"
  | 3 => .object "CornerstoneSought$Hall"
  | 4 => .object "CornerstoneSought$Hall"
  | 5 => .array (.object "CornerstoneSought$Shelf")
  | _ => .boolean
abbrev wsX110 : List Cond := u_ws RX11 TX11 7
theorem nmX11 : ∀ a, a < 7 → ∀ b, b < 7 → a ≠ b → (TX11 a).2.1 ≠ (TX11 b).2.1 := by decide +kernel
theorem tyX11_ok : ∀ k, k < 7 → parseFieldDescriptor (TX11 k).2.2.1 = some (tyX11 k) := by decide +kernel
abbrev cX11_init : ByteArray := prog_1_method_1_code
def yX11_init : MethodName := ⟨RX11, "<init>", "()V"⟩
abbrev cX11_hall : ByteArray := prog_1_method_2_code
def yX11_hall : MethodName := ⟨RX11, "hall", "(I)I"⟩
abbrev cX11_stone : ByteArray := prog_1_method_3_code
def yX11_stone : MethodName := ⟨RX11, "stone", "(II)I"⟩
abbrev cX11_lays : ByteArray := prog_1_method_4_code
def yX11_lays : MethodName := ⟨RX11, "lays", "(II)I"⟩
abbrev cX11_takes : ByteArray := prog_1_method_5_code
def yX11_takes : MethodName := ⟨RX11, "takes", "(I)I"⟩
abbrev cX11_props : ByteArray := prog_1_method_6_code
def yX11_props : MethodName := ⟨RX11, "props", "(I)I"⟩
abbrev cX11_falls : ByteArray := prog_1_method_7_code
def yX11_falls : MethodName := ⟨RX11, "falls", "(II)I"⟩
abbrev cX11_corners : ByteArray := prog_1_method_8_code
def yX11_corners : MethodName := ⟨RX11, "corners", "(I)I"⟩
abbrev cX11_worst : ByteArray := prog_1_method_9_code
def yX11_worst : MethodName := ⟨RX11, "worst", "()I"⟩
abbrev cX11_together : ByteArray := prog_1_method_10_code
def yX11_together : MethodName := ⟨RX11, "together", "(II)I"⟩
abbrev cX11_cut : ByteArray := prog_1_method_11_code
def yX11_cut : MethodName := ⟨RX11, "cut", "(I)I"⟩
abbrev cX11_toGround : ByteArray := prog_1_method_12_code
def yX11_toGround : MethodName := ⟨RX11, "toGround", "()I"⟩
abbrev cX11_longest : ByteArray := prog_1_method_13_code
def yX11_longest : MethodName := ⟨RX11, "longest", "(I)I"⟩
abbrev cX11_game : ByteArray := prog_1_method_14_code
def yX11_game : MethodName := ⟨RX11, "game", "(I)I"⟩
abbrev cX11_bombs : ByteArray := prog_1_method_15_code
def yX11_bombs : MethodName := ⟨RX11, "bombs", "(III)J"⟩
abbrev cX11_mostLoad : ByteArray := prog_1_method_16_code
def yX11_mostLoad : MethodName := ⟨RX11, "mostLoad", "(I)I"⟩
abbrev cX11_which : ByteArray := prog_1_method_17_code
def yX11_which : MethodName := ⟨RX11, "which", "(II)I"⟩
abbrev cX11_tapNext : ByteArray := prog_1_method_18_code
def yX11_tapNext : MethodName := ⟨RX11, "tapNext", "(I)I"⟩
abbrev cX11_propsWanted : ByteArray := prog_1_method_19_code
def yX11_propsWanted : MethodName := ⟨RX11, "propsWanted", "()I"⟩
abbrev cX11_more : ByteArray := prog_1_method_20_code
def yX11_more : MethodName := ⟨RX11, "more", "(I)I"⟩
abbrev cX11_lean : ByteArray := prog_1_method_21_code
def yX11_lean : MethodName := ⟨RX11, "lean", "(I)I"⟩
abbrev cX11_tins : ByteArray := prog_1_method_22_code
def yX11_tins : MethodName := ⟨RX11, "tins", "(II)I"⟩
abbrev cX11_forged : ByteArray := prog_1_method_23_code
def yX11_forged : MethodName := ⟨RX11, "forged", "(I)I"⟩
abbrev cX11_judge : ByteArray := prog_1_method_24_code
def yX11_judge : MethodName := ⟨RX11, "judge", "(I)I"⟩
abbrev cX11_raids : ByteArray := prog_1_method_25_code
def yX11_raids : MethodName := ⟨RX11, "raids", "(III)I"⟩
abbrev cX11_felled : ByteArray := prog_1_method_26_code
def yX11_felled : MethodName := ⟨RX11, "felled", "(I)I"⟩
abbrev cX11_twins : ByteArray := prog_1_method_27_code
def yX11_twins : MethodName := ⟨RX11, "twins", "()I"⟩
abbrev cX11_highest : ByteArray := prog_1_method_28_code
def yX11_highest : MethodName := ⟨RX11, "highest", "(I)I"⟩
abbrev cX11_depends : ByteArray := prog_1_method_29_code
def yX11_depends : MethodName := ⟨RX11, "depends", "(I)I"⟩
abbrev cX11_image : ByteArray := prog_1_method_30_code
def yX11_image : MethodName := ⟨RX11, "image", "()I"⟩
abbrev cX11_restore : ByteArray := prog_1_method_31_code
def yX11_restore : MethodName := ⟨RX11, "restore", "()I"⟩
abbrev cX11_count : ByteArray := prog_1_method_32_code
def yX11_count : MethodName := ⟨RX11, "count", "(I)I"⟩
abbrev cX11_keep : ByteArray := prog_1_method_33_code
def yX11_keep : MethodName := ⟨RX11, "keep", "(IIII)I"⟩
abbrev cX11_row : ByteArray := prog_1_method_34_code
def yX11_row : MethodName := ⟨RX11, "row", "(III)I"⟩
abbrev cX11_put : ByteArray := prog_1_method_35_code
def yX11_put : MethodName := ⟨RX11, "put", "(III)I"⟩
abbrev cX11_element : ByteArray := prog_1_method_36_code
def yX11_element : MethodName := ⟨RX11, "element", "(II)J"⟩
abbrev cX11_copy : ByteArray := prog_1_method_37_code
def yX11_copy : MethodName := ⟨RX11, "copy", "(IIIII)I"⟩
abbrev cX11_cost : ByteArray := prog_1_method_38_code
def yX11_cost : MethodName := ⟨RX11, "cost", "(I)I"⟩
abbrev cX11_toss : ByteArray := prog_1_method_39_code
def yX11_toss : MethodName := ⟨RX11, "toss", "(I)I"⟩
abbrev cX11_isPlace : ByteArray := prog_1_method_40_code
def yX11_isPlace : MethodName := ⟨RX11, "isPlace", "(I)Z"⟩
abbrev cX11_isShelf : ByteArray := prog_1_method_41_code
def yX11_isShelf : MethodName := ⟨RX11, "isShelf", "(I)Z"⟩
abbrev cX11_isEither : ByteArray := prog_1_method_42_code
def yX11_isEither : MethodName := ⟨RX11, "isEither", "(I)Z"⟩
abbrev cX11_isSomeStones : ByteArray := prog_1_method_43_code
def yX11_isSomeStones : MethodName := ⟨RX11, "isSomeStones", "(I)Z"⟩
abbrev cX11_stoneRefused : ByteArray := prog_1_method_44_code
def yX11_stoneRefused : MethodName := ⟨RX11, "stoneRefused", "(I)I"⟩
abbrev cX11_kindRefused : ByteArray := prog_1_method_45_code
def yX11_kindRefused : MethodName := ⟨RX11, "kindRefused", "(I)I"⟩
abbrev cX11_rowRefused : ByteArray := prog_1_method_46_code
def yX11_rowRefused : MethodName := ⟨RX11, "rowRefused", "(I)I"⟩
abbrev cX11_notesRefused : ByteArray := prog_1_method_47_code
def yX11_notesRefused : MethodName := ⟨RX11, "notesRefused", "(I)I"⟩
abbrev cX11_tinsRefused : ByteArray := prog_1_method_48_code
def yX11_tinsRefused : MethodName := ⟨RX11, "tinsRefused", "(I)I"⟩
abbrev cX11_firstBadByte : ByteArray := prog_1_method_49_code
def yX11_firstBadByte : MethodName := ⟨RX11, "firstBadByte", "(LCornerstoneSought$Shelf;)I"⟩
abbrev cX11_digitsBehind : ByteArray := prog_1_method_50_code
def yX11_digitsBehind : MethodName := ⟨RX11, "digitsBehind", "(I)I"⟩
abbrev cX11_doStatements : ByteArray := prog_1_method_51_code
def yX11_doStatements : MethodName := ⟨RX11, "doStatements", "(LCornerstoneSought$Shelf;)I"⟩
abbrev cX11_doStatement : ByteArray := prog_1_method_52_code
def yX11_doStatement : MethodName := ⟨RX11, "doStatement", "(LCornerstoneSought$Shelf;I)Z"⟩
abbrev cX11_digitAt : ByteArray := prog_1_method_53_code
def yX11_digitAt : MethodName := ⟨RX11, "digitAt", "(LCornerstoneSought$Shelf;I)I"⟩
abbrev cX11_powerOf : ByteArray := prog_1_method_54_code
def yX11_powerOf : MethodName := ⟨RX11, "powerOf", "(II)J"⟩
abbrev cX11_commonDivisor : ByteArray := prog_1_method_55_code
def yX11_commonDivisor : MethodName := ⟨RX11, "commonDivisor", "(JJ)J"⟩
abbrev cX11_caughtOf : ByteArray := prog_1_method_56_code
def yX11_caughtOf : MethodName := ⟨RX11, "caughtOf", "(LCornerstoneSought$Stone;I)I"⟩
def RX12 : String := "CornerstoneSoughtModel"
def TX12 : u_T := fun k => match k with
  | 0 => ("CornerstoneSoughtModel", "s", "[I", true)
  | 1 => ("CornerstoneSoughtModel", "image", "[I", true)
  | 2 => ("CornerstoneSoughtModel", "was", "[I", true)
  | 3 => ("CornerstoneSoughtModel", "hasImage", "Z", false)
  | 4 => ("CornerstoneSoughtModel", "load", "[I", true)
  | 5 => ("CornerstoneSoughtModel", "stepsMany", "I", false)
  | 6 => ("CornerstoneSoughtModel", "place", "I", false)
  | 7 => ("CornerstoneSoughtModel", "rowAt", "I", false)
  | 8 => ("CornerstoneSoughtModel", "rowEnd", "I", false)
  | 9 => ("CornerstoneSoughtModel", "numbers", "[I", true)
  | 10 => ("CornerstoneSoughtModel", "known", "[I", true)
  | 11 => ("CornerstoneSoughtModel", "waysMany", "I", false)
  | 12 => ("CornerstoneSoughtModel", "waysFirst", "I", false)
  | 13 => ("CornerstoneSoughtModel", "farthest", "I", false)
  | 14 => ("CornerstoneSoughtModel", "seed", "I", false)
  | 15 => ("CornerstoneSoughtModel", "reached", "[Z", true)
  | 16 => ("CornerstoneSoughtModel", "next", "[Z", true)
  | 17 => ("CornerstoneSoughtModel", "kept", "[I", true)
  | 18 => ("CornerstoneSoughtModel", "keptKind", "[I", true)
  | 19 => ("CornerstoneSoughtModel", "keptFigure", "[I", true)
  | 20 => ("CornerstoneSoughtModel", "sort", "[I", true)
  | 21 => ("CornerstoneSoughtModel", "size", "[I", true)
  | 22 => ("CornerstoneSoughtModel", "element", "[I", true)
  | _ => ("CornerstoneSoughtModel", "thrown", "I", false)
def tyX12 : Nat → FieldType := fun k => match k with
  | 0 => .array .int
  | 1 => .array .int
  | 2 => .array .int
  | 3 => .boolean
  | 4 => .array .int
  | 5 => .int
  | 6 => .int
  | 7 => .int
  | 8 => .int
  | 9 => .array .int
  | 10 => .array .int
  | 11 => .int
  | 12 => .int
  | 13 => .int
  | 14 => .int
  | 15 => .array .boolean
  | 16 => .array .boolean
  | 17 => .array .int
  | 18 => .array .int
  | 19 => .array .int
  | 20 => .array .int
  | 21 => .array .int
  | 22 => .array .int
  | _ => .int
abbrev wsX120 : List Cond := u_ws RX12 TX12 24
theorem nmX12 : ∀ a, a < 24 → ∀ b, b < 24 → a ≠ b → (TX12 a).2.1 ≠ (TX12 b).2.1 := by decide +kernel
theorem tyX12_ok : ∀ k, k < 24 → parseFieldDescriptor (TX12 k).2.2.1 = some (tyX12 k) := by decide +kernel
abbrev cX12_init : ByteArray := prog_14_method_1_code
def yX12_init : MethodName := ⟨RX12, "<init>", "()V"⟩
abbrev cX12_isIn : ByteArray := prog_14_method_2_code
def yX12_isIn : MethodName := ⟨RX12, "isIn", "(III)Z"⟩
abbrev cX12_most : ByteArray := prog_14_method_3_code
def yX12_most : MethodName := ⟨RX12, "most", "(II)I"⟩
abbrev cX12_copies : ByteArray := prog_14_method_4_code
def yX12_copies : MethodName := ⟨RX12, "copies", "([I[I)V"⟩
abbrev cX12_has : ByteArray := prog_14_method_5_code
def yX12_has : MethodName := ⟨RX12, "has", "(II)Z"⟩
abbrev cX12_bits : ByteArray := prog_14_method_6_code
def yX12_bits : MethodName := ⟨RX12, "bits", "(I)I"⟩
abbrev cX12_isPlace : ByteArray := prog_14_method_7_code
def yX12_isPlace : MethodName := ⟨RX12, "isPlace", "(I)Z"⟩
abbrev cX12_isThere : ByteArray := prog_14_method_8_code
def yX12_isThere : MethodName := ⟨RX12, "isThere", "(I)Z"⟩
abbrev cX12_kind : ByteArray := prog_14_method_9_code
def yX12_kind : MethodName := ⟨RX12, "kind", "(I)I"⟩
abbrev cX12_figure : ByteArray := prog_14_method_10_code
def yX12_figure : MethodName := ⟨RX12, "figure", "(I)I"⟩
abbrev cX12_weight : ByteArray := prog_14_method_11_code
def yX12_weight : MethodName := ⟨RX12, "weight", "(I)I"⟩
abbrev cX12_bears : ByteArray := prog_14_method_12_code
def yX12_bears : MethodName := ⟨RX12, "bears", "(I)I"⟩
abbrev cX12_isLight : ByteArray := prog_14_method_13_code
def yX12_isLight : MethodName := ⟨RX12, "isLight", "(I)Z"⟩
abbrev cX12_isArch : ByteArray := prog_14_method_14_code
def yX12_isArch : MethodName := ⟨RX12, "isArch", "(I)Z"⟩
abbrev cX12_isAt : ByteArray := prog_14_method_15_code
def yX12_isAt : MethodName := ⟨RX12, "isAt", "(III)Z"⟩
abbrev cX12_isLeft : ByteArray := prog_14_method_16_code
def yX12_isLeft : MethodName := ⟨RX12, "isLeft", "(II)Z"⟩
abbrev cX12_isRight : ByteArray := prog_14_method_17_code
def yX12_isRight : MethodName := ⟨RX12, "isRight", "(II)Z"⟩
abbrev cX12_isClinging : ByteArray := prog_14_method_18_code
def yX12_isClinging : MethodName := ⟨RX12, "isClinging", "(II)Z"⟩
abbrev cX12_isHeld : ByteArray := prog_14_method_19_code
def yX12_isHeld : MethodName := ⟨RX12, "isHeld", "(II)Z"⟩
abbrev cX12_loads : ByteArray := prog_14_method_20_code
def yX12_loads : MethodName := ⟨RX12, "loads", "(I)V"⟩
abbrev cX12_settled : ByteArray := prog_14_method_21_code
def yX12_settled : MethodName := ⟨RX12, "settled", "(I)I"⟩
abbrev cX12_noteOf : ByteArray := prog_14_method_22_code
def yX12_noteOf : MethodName := ⟨RX12, "noteOf", "(I)I"⟩
abbrev cX12_leftWithout : ByteArray := prog_14_method_23_code
def yX12_leftWithout : MethodName := ⟨RX12, "leftWithout", "(II)I"⟩
abbrev cX12_fallsOf : ByteArray := prog_14_method_24_code
def yX12_fallsOf : MethodName := ⟨RX12, "fallsOf", "(II)I"⟩
abbrev cX12_here : ByteArray := prog_14_method_25_code
def yX12_here : MethodName := ⟨RX12, "here", "()I"⟩
abbrev cX12_readsNumber : ByteArray := prog_14_method_26_code
def yX12_readsNumber : MethodName := ⟨RX12, "readsNumber", "(II)Z"⟩
abbrev cX12_readsStatement : ByteArray := prog_14_method_27_code
def yX12_readsStatement : MethodName := ⟨RX12, "readsStatement", "()Z"⟩
abbrev cX12_laysAt : ByteArray := prog_14_method_28_code
def yX12_laysAt : MethodName := ⟨RX12, "laysAt", "(III)V"⟩
abbrev cX12_isDone : ByteArray := prog_14_method_29_code
def yX12_isDone : MethodName := ⟨RX12, "isDone", "(I)Z"⟩
abbrev cX12_hall : ByteArray := prog_14_method_30_code
def yX12_hall : MethodName := ⟨RX12, "hall", "(I)I"⟩
abbrev cX12_wrongStone : ByteArray := prog_14_method_31_code
def yX12_wrongStone : MethodName := ⟨RX12, "wrongStone", "(I)I"⟩
abbrev cX12_stone : ByteArray := prog_14_method_32_code
def yX12_stone : MethodName := ⟨RX12, "stone", "(II)I"⟩
abbrev cX12_lays : ByteArray := prog_14_method_33_code
def yX12_lays : MethodName := ⟨RX12, "lays", "(II)I"⟩
abbrev cX12_takes : ByteArray := prog_14_method_34_code
def yX12_takes : MethodName := ⟨RX12, "takes", "(I)I"⟩
abbrev cX12_props : ByteArray := prog_14_method_35_code
def yX12_props : MethodName := ⟨RX12, "props", "(I)I"⟩
abbrev cX12_falls : ByteArray := prog_14_method_36_code
def yX12_falls : MethodName := ⟨RX12, "falls", "(II)I"⟩
abbrev cX12_safeOf : ByteArray := prog_14_method_37_code
def yX12_safeOf : MethodName := ⟨RX12, "safeOf", "(I)I"⟩
abbrev cX12_corners : ByteArray := prog_14_method_38_code
def yX12_corners : MethodName := ⟨RX12, "corners", "(I)I"⟩
abbrev cX12_worst : ByteArray := prog_14_method_39_code
def yX12_worst : MethodName := ⟨RX12, "worst", "()I"⟩
abbrev cX12_together : ByteArray := prog_14_method_40_code
def yX12_together : MethodName := ⟨RX12, "together", "(II)I"⟩
abbrev cX12_cut : ByteArray := prog_14_method_41_code
def yX12_cut : MethodName := ⟨RX12, "cut", "(I)I"⟩
abbrev cX12_toGround : ByteArray := prog_14_method_42_code
def yX12_toGround : MethodName := ⟨RX12, "toGround", "()I"⟩
abbrev cX12_finds : ByteArray := prog_14_method_43_code
def yX12_finds : MethodName := ⟨RX12, "finds", "(Z)V"⟩
abbrev cX12_firstTo : ByteArray := prog_14_method_44_code
def yX12_firstTo : MethodName := ⟨RX12, "firstTo", "(Z)I"⟩
abbrev cX12_longest : ByteArray := prog_14_method_45_code
def yX12_longest : MethodName := ⟨RX12, "longest", "(I)I"⟩
abbrev cX12_game : ByteArray := prog_14_method_46_code
def yX12_game : MethodName := ⟨RX12, "game", "(I)I"⟩
abbrev cX12_gcd : ByteArray := prog_14_method_47_code
def yX12_gcd : MethodName := ⟨RX12, "gcd", "(JJ)J"⟩
abbrev cX12_partOf : ByteArray := prog_14_method_48_code
def yX12_partOf : MethodName := ⟨RX12, "partOf", "(JJI)J"⟩
abbrev cX12_bombs : ByteArray := prog_14_method_49_code
def yX12_bombs : MethodName := ⟨RX12, "bombs", "(III)J"⟩
abbrev cX12_mostLoad : ByteArray := prog_14_method_50_code
def yX12_mostLoad : MethodName := ⟨RX12, "mostLoad", "(I)I"⟩
abbrev cX12_wrongPairs : ByteArray := prog_14_method_51_code
def yX12_wrongPairs : MethodName := ⟨RX12, "wrongPairs", "(I)I"⟩
abbrev cX12_noteWithout : ByteArray := prog_14_method_52_code
def yX12_noteWithout : MethodName := ⟨RX12, "noteWithout", "(II)I"⟩
abbrev cX12_whichOf : ByteArray := prog_14_method_53_code
def yX12_whichOf : MethodName := ⟨RX12, "whichOf", "(I)I"⟩
abbrev cX12_which : ByteArray := prog_14_method_54_code
def yX12_which : MethodName := ⟨RX12, "which", "(II)I"⟩
abbrev cX12_kindsBy : ByteArray := prog_14_method_55_code
def yX12_kindsBy : MethodName := ⟨RX12, "kindsBy", "(II)I"⟩
abbrev cX12_tapNext : ByteArray := prog_14_method_56_code
def yX12_tapNext : MethodName := ⟨RX12, "tapNext", "(I)I"⟩
abbrev cX12_propsWanted : ByteArray := prog_14_method_57_code
def yX12_propsWanted : MethodName := ⟨RX12, "propsWanted", "()I"⟩
abbrev cX12_more : ByteArray := prog_14_method_58_code
def yX12_more : MethodName := ⟨RX12, "more", "(I)I"⟩
abbrev cX12_columnOf : ByteArray := prog_14_method_59_code
def yX12_columnOf : MethodName := ⟨RX12, "columnOf", "(I)I"⟩
abbrev cX12_lean : ByteArray := prog_14_method_60_code
def yX12_lean : MethodName := ⟨RX12, "lean", "(I)I"⟩
abbrev cX12_takesAll : ByteArray := prog_14_method_61_code
def yX12_takesAll : MethodName := ⟨RX12, "takesAll", "(IIII)V"⟩
abbrev cX12_wrongTins : ByteArray := prog_14_method_62_code
def yX12_wrongTins : MethodName := ⟨RX12, "wrongTins", "(I)I"⟩
abbrev cX12_goesThrough : ByteArray := prog_14_method_63_code
def yX12_goesThrough : MethodName := ⟨RX12, "goesThrough", "(I)V"⟩
abbrev cX12_tins : ByteArray := prog_14_method_64_code
def yX12_tins : MethodName := ⟨RX12, "tins", "(II)I"⟩
abbrev cX12_forged : ByteArray := prog_14_method_65_code
def yX12_forged : MethodName := ⟨RX12, "forged", "(I)I"⟩
abbrev cX12_judge : ByteArray := prog_14_method_66_code
def yX12_judge : MethodName := ⟨RX12, "judge", "(I)I"⟩
abbrev cX12_drawn : ByteArray := prog_14_method_67_code
def yX12_drawn : MethodName := ⟨RX12, "drawn", "(I)I"⟩
abbrev cX12_raids : ByteArray := prog_14_method_68_code
def yX12_raids : MethodName := ⟨RX12, "raids", "(III)I"⟩
abbrev cX12_felled : ByteArray := prog_14_method_69_code
def yX12_felled : MethodName := ⟨RX12, "felled", "(I)I"⟩
abbrev cX12_twins : ByteArray := prog_14_method_70_code
def yX12_twins : MethodName := ⟨RX12, "twins", "()I"⟩
abbrev cX12_highest : ByteArray := prog_14_method_71_code
def yX12_highest : MethodName := ⟨RX12, "highest", "(I)I"⟩
abbrev cX12_depends : ByteArray := prog_14_method_72_code
def yX12_depends : MethodName := ⟨RX12, "depends", "(I)I"⟩
abbrev cX12_image : ByteArray := prog_14_method_73_code
def yX12_image : MethodName := ⟨RX12, "image", "()I"⟩
abbrev cX12_restore : ByteArray := prog_14_method_74_code
def yX12_restore : MethodName := ⟨RX12, "restore", "()I"⟩
abbrev cX12_count : ByteArray := prog_14_method_75_code
def yX12_count : MethodName := ⟨RX12, "count", "(I)I"⟩
abbrev cX12_thrown : ByteArray := prog_14_method_76_code
def yX12_thrown : MethodName := ⟨RX12, "thrown", "()I"⟩
abbrev cX12_isShelf : ByteArray := prog_14_method_77_code
def yX12_isShelf : MethodName := ⟨RX12, "isShelf", "(I)Z"⟩
abbrev cX12_wrongRow : ByteArray := prog_14_method_78_code
def yX12_wrongRow : MethodName := ⟨RX12, "wrongRow", "(II)I"⟩
abbrev cX12_wrongKept : ByteArray := prog_14_method_79_code
def yX12_wrongKept : MethodName := ⟨RX12, "wrongKept", "(I)I"⟩
abbrev cX12_keep : ByteArray := prog_14_method_80_code
def yX12_keep : MethodName := ⟨RX12, "keep", "(IIII)I"⟩
abbrev cX12_row : ByteArray := prog_14_method_81_code
def yX12_row : MethodName := ⟨RX12, "row", "(III)I"⟩
abbrev cX12_put : ByteArray := prog_14_method_82_code
def yX12_put : MethodName := ⟨RX12, "put", "(III)I"⟩
abbrev cX12_element : ByteArray := prog_14_method_83_code
def yX12_element : MethodName := ⟨RX12, "element", "(II)J"⟩
abbrev cX12_copy : ByteArray := prog_14_method_84_code
def yX12_copy : MethodName := ⟨RX12, "copy", "(IIIII)I"⟩
abbrev cX12_costBy : ByteArray := prog_14_method_85_code
def yX12_costBy : MethodName := ⟨RX12, "costBy", "(II)I"⟩
abbrev cX12_cost : ByteArray := prog_14_method_86_code
def yX12_cost : MethodName := ⟨RX12, "cost", "(I)I"⟩
abbrev cX12_toss : ByteArray := prog_14_method_87_code
def yX12_toss : MethodName := ⟨RX12, "toss", "(I)I"⟩
def RJx145de : String := "java/io/Serializable"
def TJx145de : u_T := fun k => match k with
  | _ => ("", "", "", false)
def tyJx145de : Nat → FieldType := fun k => match k with
  | _ => .int
abbrev wsJx145de0 : List Cond := u_ws RJx145de TJx145de 0
theorem nmJx145de : ∀ a, a < 0 → ∀ b, b < 0 → a ≠ b → (TJx145de a).2.1 ≠ (TJx145de b).2.1 := by decide +kernel
theorem tyJx145de_ok : ∀ k, k < 0 → parseFieldDescriptor (TJx145de k).2.2.1 = some (tyJx145de k) := by decide +kernel
def RJ6 : String := "java/lang/Integer"
def TJ6 : u_T := fun k => match k with
  | _ => ("", "", "", false)
def tyJ6 : Nat → FieldType := fun k => match k with
  | _ => .int
abbrev wsJ60 : List Cond := u_ws RJ6 TJ6 0
theorem nmJ6 : ∀ a, a < 0 → ∀ b, b < 0 → a ≠ b → (TJ6 a).2.1 ≠ (TJ6 b).2.1 := by decide +kernel
theorem tyJ6_ok : ∀ k, k < 0 → parseFieldDescriptor (TJ6 k).2.2.1 = some (tyJ6 k) := by decide +kernel
abbrev cJ6_numberOfTrailingZeros_0f7a4 : ByteArray := prog_18_method_48_code
def yJ6_numberOfTrailingZeros_0f7a4 : MethodName := ⟨RJ6, "numberOfTrailingZeros", "(I)I"⟩
abbrev cJ6_bitCount_0f7a4 : ByteArray := prog_18_method_49_code
def yJ6_bitCount_0f7a4 : MethodName := ⟨RJ6, "bitCount", "(I)I"⟩
def RJ13 : String := "java/lang/Long"
def TJ13 : u_T := fun k => match k with
  | _ => ("", "", "", false)
def tyJ13 : Nat → FieldType := fun k => match k with
  | _ => .int
abbrev wsJ130 : List Cond := u_ws RJ13 TJ13 0
theorem nmJ13 : ∀ a, a < 0 → ∀ b, b < 0 → a ≠ b → (TJ13 a).2.1 ≠ (TJ13 b).2.1 := by decide +kernel
theorem tyJ13_ok : ∀ k, k < 0 → parseFieldDescriptor (TJ13 k).2.2.1 = some (tyJ13 k) := by decide +kernel
abbrev cJ13_bitCount_95d88 : ByteArray := prog_19_method_50_code
def yJ13_bitCount_95d88 : MethodName := ⟨RJ13, "bitCount", "(J)I"⟩
def RJ9 : String := "java/lang/Math"
def TJ9 : u_T := fun k => match k with
  | _ => ("", "", "", false)
def tyJ9 : Nat → FieldType := fun k => match k with
  | _ => .int
abbrev wsJ90 : List Cond := u_ws RJ9 TJ9 0
theorem nmJ9 : ∀ a, a < 0 → ∀ b, b < 0 → a ≠ b → (TJ9 a).2.1 ≠ (TJ9 b).2.1 := by decide +kernel
theorem tyJ9_ok : ∀ k, k < 0 → parseFieldDescriptor (TJ9 k).2.2.1 = some (tyJ9 k) := by decide +kernel
abbrev cJ9_max_7cf53 : ByteArray := prog_20_method_65_code
def yJ9_max_7cf53 : MethodName := ⟨RJ9, "max", "(II)I"⟩
abbrev cJ9_min_7cf53 : ByteArray := prog_20_method_69_code
def yJ9_min_7cf53 : MethodName := ⟨RJ9, "min", "(II)I"⟩
def RJ0 : String := "java/lang/String"
def TJ0 : u_T := fun k => match k with
  | _ => ("", "", "", false)
def tyJ0 : Nat → FieldType := fun k => match k with
  | _ => .int
abbrev wsJ00 : List Cond := u_ws RJ0 TJ0 0
theorem nmJ0 : ∀ a, a < 0 → ∀ b, b < 0 → a ≠ b → (TJ0 a).2.1 ≠ (TJ0 b).2.1 := by decide +kernel
theorem tyJ0_ok : ∀ k, k < 0 → parseFieldDescriptor (TJ0 k).2.2.1 = some (tyJ0 k) := by decide +kernel
def RJ10 : String := "java/lang/System"
def TJ10 : u_T := fun k => match k with
  | _ => ("", "", "", false)
def tyJ10 : Nat → FieldType := fun k => match k with
  | _ => .int
abbrev wsJ100 : List Cond := u_ws RJ10 TJ10 0
theorem nmJ10 : ∀ a, a < 0 → ∀ b, b < 0 → a ≠ b → (TJ10 a).2.1 ≠ (TJ10 b).2.1 := by decide +kernel
theorem tyJ10_ok : ∀ k, k < 0 → parseFieldDescriptor (TJ10 k).2.2.1 = some (tyJ10 k) := by decide +kernel
def RJ7 : String := "java/util/Arrays"
def TJ7 : u_T := fun k => match k with
  | _ => ("", "", "", false)
def tyJ7 : Nat → FieldType := fun k => match k with
  | _ => .int
abbrev wsJ70 : List Cond := u_ws RJ7 TJ7 0
theorem nmJ7 : ∀ a, a < 0 → ∀ b, b < 0 → a ≠ b → (TJ7 a).2.1 ≠ (TJ7 b).2.1 := by decide +kernel
theorem tyJ7_ok : ∀ k, k < 0 → parseFieldDescriptor (TJ7 k).2.2.1 = some (tyJ7 k) := by decide +kernel
abbrev cJ7_fill_d0a16 : ByteArray := prog_26_method_101_code
def yJ7_fill_d0a16 : MethodName := ⟨RJ7, "fill", "([JJ)V"⟩
abbrev cJ7_fill_53178 : ByteArray := prog_26_method_103_code
def yJ7_fill_53178 : MethodName := ⟨RJ7, "fill", "([II)V"⟩
def RL : String := "CornerstoneSoughtLaw"
abbrev cL_element : ByteArray := method_3_code
def yL_element : MethodName := ⟨RL, "element", "(LCornerstoneSought;II[J)I"⟩
abbrev cL_law : ByteArray := code
def yL_law : MethodName := ⟨RL, "law", "([I)Z"⟩
abbrev vwCl : List vw_C := [(RX0, TX0, 0), (RX1, TX1, 0), (RX2, TX2, 0), (RX3, TX3, 6), (RX4, TX4, 10), (RX5, TX5, 0), (RX6, TX6, 0), (RX7, TX7, 0), (RX8, TX8, 6), (RX9, TX9, 0), (RX10, TX10, 0), (RX11, TX11, 7), (RX12, TX12, 24)]
theorem n_zero : True := trivial
end
section
/-! ===== the pure picture: values, heaps, the table of objects ===== -/
abbrev ZV : Type := Sum Int32 (Sum Int64 (Sum (Nat × Nat) Unit))
abbrev zi (x : Int32) : ZV := Sum.inl x
abbrev zl (x : Int64) : ZV := Sum.inr (Sum.inl x)
abbrev zr (k i : Nat) : ZV := Sum.inr (Sum.inr (Sum.inl (k, i)))
abbrev zu : ZV := Sum.inr (Sum.inr (Sum.inr ()))
abbrev ZH : Type := (Nat → Nat → Nat → Int32) × (Nat → Nat → Nat → Int64)
abbrev ZG : Type := Launch × va_G × (Nat → ClassId) × (Nat → Nat → Nat)
abbrev ZM : Type := MethodName × ByteArray × Nat × Option FieldType
def zc (G : ZG) : ZV → Value
  | Sum.inl x => .int x
  | Sum.inr (Sum.inl x) => .long x
  | Sum.inr (Sum.inr (Sum.inl q)) => .ref (G.2.2.2 q.1 q.2)
  | Sum.inr (Sum.inr (Sum.inr _)) => .null
/-- the class (its place in vwCl) of the stone of a kind -/
def zsc (i : Nat) : Nat := match i with
  | 0 => 10
  | 1 => 2
  | 2 => 0
  | 3 => 7
  | 4 => 5
  | 5 => 9
  | 6 => 1
  | _ => 6
/-- how many objects of a kind there are -/
def zcnt (k : Nat) : Nat := ([1, 1, 3, 8, 8, 1, 0, 0, 0, 0, 3, 3, 3, 3, 3, 3, 8, 1, 1, 1, 1, 1, 1, 0, 0, 0, 0, 0, 0, 0, 1, 1, 1, 1, 1, 1, 1, 1, 1, 1, 1, 1, 1, 1, 1] : List Nat).getD k 0
/-- an object of a kind: its class and how many fields; or an array: the kind of its elements and how many -/
def zkd (k i : Nat) : Sum (Nat × Nat) (Nat × Nat) := match k with
  | 0 => .inl (11, 7)
  | 1 => .inl (3, 6)
  | 2 => .inl (4, 10)
  | 3 => .inl (8, 6)
  | 4 => .inl (zsc i, 0)
  | 5 => .inl (12, 24)
  | 10 => .inr (0, 12)
  | 11 => .inr (0, 12)
  | 12 => .inr (0, 12)
  | 13 => .inr (0, 12)
  | 14 => .inr (0, 12)
  | 15 => .inr (0, 12)
  | 16 => .inr (0, 100)
  | 17 => .inr (0, 4096)
  | 18 => .inr (0, 4096)
  | 19 => .inr (1, 12)
  | 20 => .inr (1, 13)
  | 21 => .inr (3, 8)
  | 22 => .inr (4, 8)
  | 30 => .inr (0, 26)
  | 31 => .inr (0, 26)
  | 32 => .inr (0, 26)
  | 33 => .inr (0, 12)
  | 34 => .inr (0, 3)
  | 35 => .inr (0, 4096)
  | 36 => .inr (2, 4096)
  | 37 => .inr (2, 4096)
  | 38 => .inr (0, 8)
  | 39 => .inr (0, 8)
  | 40 => .inr (0, 8)
  | 41 => .inr (0, 8)
  | 42 => .inr (0, 8)
  | 43 => .inr (0, 800)
  | 44 => .inr (1, 1)
  | _ => .inr (0, 0)
/-- which object a field of an object refers to; none: it holds a number -/
def zrf (k j i : Nat) : Option (Nat × Nat) := match k with
  | 0 => (match j with
    | 0 => some (21, 0)
    | 1 => some (1, 0)
    | 2 => some (2, 0)
    | 3 => some (2, 1)
    | 4 => some (2, 2)
    | 5 => some (22, 0)
    | _ => none)
  | 1 => (match j with
    | 0 => some (2, 0)
    | 1 => some (17, 0)
    | 2 => some (18, 0)
    | 3 => some (19, 0)
    | 4 => some (20, 0)
    | _ => none)
  | 2 => (match j with
    | 0 => some (10, i)
    | 1 => some (11, i)
    | 2 => some (12, i)
    | 3 => some (13, i)
    | 4 => some (14, i)
    | 5 => some (15, i)
    | _ => none)
  | 3 => (match j with
    | 5 => some (16, i)
    | _ => none)
  | 5 => (match j with
    | 0 => some (30, 0)
    | 1 => some (31, 0)
    | 2 => some (32, 0)
    | 4 => some (33, 0)
    | 9 => some (34, 0)
    | 10 => some (35, 0)
    | 15 => some (36, 0)
    | 16 => some (37, 0)
    | 17 => some (38, 0)
    | 18 => some (39, 0)
    | 19 => some (40, 0)
    | 20 => some (41, 0)
    | 21 => some (42, 0)
    | 22 => some (43, 0)
    | _ => none)
  | _ => none
/-- what the elements of an array of references refer to -/
def zre (k : Nat) : Nat := match k with
  | 21 => 4
  | _ => 3
def zfr (a : Nat → Int32) (k i j : Nat) : ZV := match zrf k j i with
  | some q => zr q.1 q.2
  | none => zi (a j)
def zf (h : ZH) (k i j : Nat) : ZV := zfr (h.1 k i) k i j
def zEr (G : ZG) (a : Nat → Int32) (b : Nat → Int64) (k i : Nat) : va_E := match zkd k i with
  | .inl o => .inr (o.1, (List.range o.2).map (fun j => zc G (zfr a k i j)))
  | .inr t => match t.1 with
    | 0 => .inl (G.2.2.1 0, t.2, .inl a)
    | 1 => .inl (G.2.2.1 1, t.2, .inr (.inl b))
    | 2 => .inl (G.2.2.1 2, t.2, .inl a)
    | n => .inl (G.2.2.1 n, t.2, .inr (.inr (.inr (.inr (fun j => some (G.2.2.2 (zre k) j))))))
def zE (G : ZG) (h : ZH) (k i : Nat) : va_E := zEr G (h.1 k i) (h.2 k i) k i
def zs1 (h : ZH) (k i j : Nat) (v : Int32) : ZH := (fun k' i' j' => if k' = k ∧ i' = i ∧ j' = j then v else h.1 k' i' j', h.2)
def zs2 (h : ZH) (k i j : Nat) (v : Int64) : ZH := (h.1, fun k' i' j' => if k' = k ∧ i' = i ∧ j' = j then v else h.2 k' i' j')
def zdom : List (Nat × Nat) := (List.range 45).flatMap fun k => (List.range (zcnt k)).map fun i => (k, i)
theorem zdom_nd : zdom.Nodup := by decide +kernel
theorem zcnt_le (k : Nat) (h : 0 < zcnt k) : k < 45 := by
  rcases Nat.lt_or_ge k 45 with q | q
  · exact q
  · have : zcnt k = 0 := by
      unfold zcnt
      rw [List.getD_eq_getElem?_getD, List.getElem?_eq_none (by simpa using q)]
      rfl
    omega
theorem zdom_in {k i : Nat} (h : i < zcnt k) : (k, i) ∈ zdom := by
  unfold zdom
  rw [List.mem_flatMap]
  exact ⟨k, List.mem_range.mpr (zcnt_le k (by omega)), List.mem_map.mpr ⟨i, List.mem_range.mpr h, rfl⟩⟩
def zL (G : ZG) (h : ZH) : va_W := zdom.map (fun q => (G.2.2.2 q.1 q.2, zE G h q.1 q.2))
def zInj (G : ZG) : Prop := ∀ q ∈ zdom, ∀ r ∈ zdom, G.2.2.2 q.1 q.2 = G.2.2.2 r.1 r.2 → q = r
def zA (G : ZG) : Nat → Prop := fun a => ∃ q ∈ zdom, a = G.2.2.2 q.1 q.2
def zW (G : ZG) (h : ZH) (H : Heap) : Prop := va_P G.2.1 vwCl (zL G h) H
theorem zL_at (G : ZG) (h : ZH) {k i : Nat} (hk : i < zcnt k) : ∃ p : Nat, zdom[p]? = some (k, i) ∧ (zL G h)[p]? = some (G.2.2.2 k i, zE G h k i) := by
  obtain ⟨p, hp⟩ := List.getElem?_of_mem (zdom_in hk)
  exact ⟨p, hp, by unfold zL; rw [List.getElem?_map, hp]; rfl⟩
theorem zdom_inj {p q : Nat} {x : Nat × Nat} (hp : zdom[p]? = some x) (hq : zdom[q]? = some x) : p = q := by
  exact (List.getElem?_inj (List.getElem?_eq_some_iff.mp hp).1 zdom_nd).mp (hp.trans hq.symm)
theorem zL_set (G : ZG) {h h' : ZH} {k i p : Nat} {e : va_E} (hp : zdom[p]? = some (k, i)) (he : zE G h' k i = e) (ho : ∀ k' i', ¬ (k' = k ∧ i' = i) → zE G h' k' i' = zE G h k' i') : (zL G h).set p (G.2.2.2 k i, e) = zL G h' := by
  apply List.ext_getElem?
  intro q
  unfold zL
  rw [List.getElem?_set, List.getElem?_map, List.getElem?_map]
  by_cases hq : p = q
  · subst hq
    have hl : p < (List.map (fun q => (G.2.2.2 q.1 q.2, zE G h q.1 q.2)) zdom).length := by
      rw [List.length_map]; exact (List.getElem?_eq_some_iff.mp hp).1
    rw [if_pos rfl, if_pos hl, hp]
    simp [he]
  · rw [if_neg hq]
    cases hx : zdom[q]? with
    | none => rfl
    | some x =>
      simp only [Option.map_some]
      congr 2
      refine (ho x.1 x.2 ?_).symm
      rintro ⟨e1, e2⟩
      exact hq (zdom_inj hp (by rw [hx, ← e1, ← e2]))
theorem zE_o1 (G : ZG) (h : ZH) {k i j : Nat} (v : Int32) (k' i' : Nat) (hn : ¬ (k' = k ∧ i' = i)) : zE G (zs1 h k i j v) k' i' = zE G h k' i' := by
  unfold zE
  have : (zs1 h k i j v).1 k' i' = h.1 k' i' := by
    funext j'
    show (if k' = k ∧ i' = i ∧ j' = j then v else h.1 k' i' j') = _
    rw [if_neg (fun q => hn ⟨q.1, q.2.1⟩)]
  rw [this]
  rfl
theorem zE_o2 (G : ZG) (h : ZH) {k i j : Nat} (v : Int64) (k' i' : Nat) (hn : ¬ (k' = k ∧ i' = i)) : zE G (zs2 h k i j v) k' i' = zE G h k' i' := by
  unfold zE
  have : (zs2 h k i j v).2 k' i' = h.2 k' i' := by
    funext j'
    show (if k' = k ∧ i' = i ∧ j' = j then v else h.2 k' i' j') = _
    rw [if_neg (fun q => hn ⟨q.1, q.2.1⟩)]
  rw [this]
  rfl
theorem zs1_row (h : ZH) (k i j : Nat) (v : Int32) : (zs1 h k i j v).1 k i = upd (h.1 k i) j v := by
  funext q
  simp [zs1, upd]
theorem zs2_row (h : ZH) (k i j : Nat) (v : Int64) : (zs2 h k i j v).2 k i = vp_updL (h.2 k i) j v := by
  funext q
  simp [zs2, vp_updL]
theorem zE_obj (G : ZG) (h : ZH) {k i ci N : Nat} (hk : zkd k i = .inl (ci, N)) : zE G h k i = .inr (ci, (List.range N).map (fun j => zc G (zf h k i j))) := by
  unfold zE zEr
  rw [hk]
  rfl
theorem zE_int (G : ZG) (h : ZH) {k i n : Nat} (hk : zkd k i = .inr (0, n)) : zE G h k i = .inl (G.2.2.1 0, n, .inl (h.1 k i)) := by
  unfold zE zEr
  rw [hk]
  rfl
theorem zE_long (G : ZG) (h : ZH) {k i n : Nat} (hk : zkd k i = .inr (1, n)) : zE G h k i = .inl (G.2.2.1 1, n, .inr (.inl (h.2 k i))) := by
  unfold zE zEr
  rw [hk]
  rfl
theorem zE_bool (G : ZG) (h : ZH) {k i n : Nat} (hk : zkd k i = .inr (2, n)) : zE G h k i = .inl (G.2.2.1 2, n, .inl (h.1 k i)) := by
  unfold zE zEr
  rw [hk]
  rfl
theorem zE_ref (G : ZG) (h : ZH) {k i t n : Nat} (hk : zkd k i = .inr (t + 3, n)) : zE G h k i = .inl (G.2.2.1 (t + 3), n, .inr (.inr (.inr (.inr (fun j => some (G.2.2.2 (zre k) j)))))) := by
  unfold zE zEr
  rw [hk]
  rfl
theorem zf_num (h : ZH) {k i j : Nat} (hj : zrf k j i = none) : zf h k i j = zi (h.1 k i j) := by
  unfold zf zfr
  rw [hj]
theorem zE_putobj (G : ZG) (h : ZH) {k i ci N j : Nat} (v : Int32) (hk : zkd k i = .inl (ci, N)) (hj : zrf k j i = none) (hjN : j < N) : zE G (zs1 h k i j v) k i = .inr (ci, ((List.range N).map (fun j => zc G (zf h k i j))).set j (.int v)) := by
  rw [zE_obj G _ hk]
  congr 2
  apply List.ext_getElem?
  intro q
  rw [List.getElem?_set, List.getElem?_map, List.getElem?_map, List.length_map, List.length_range]
  by_cases hq : j = q
  · subst hq
    rw [if_pos rfl, if_pos hjN, List.getElem?_range hjN]
    simp only [Option.map_some]
    rw [zf_num _ hj]
    simp [zs1, zc]
  · rw [if_neg hq]
    cases hx : (List.range N)[q]? with
    | none => rfl
    | some x =>
      simp only [Option.map_some]
      have hxq : x = q := by
        have := (List.getElem?_eq_some_iff.mp hx).2
        simpa using this.symm
      subst hxq
      have : zf (zs1 h k i j v) k i x = zf h k i x := by
        unfold zf zfr
        cases zrf k x i with
        | some q => rfl
        | none =>
          simp only
          congr 1
          show (if k = k ∧ i = i ∧ x = j then v else h.1 k i x) = _
          rw [if_neg (fun z => hq z.2.2.symm)]
      rw [this]
theorem zD_of (G : ZG) (h : ZH) (hI : zInj G) : va_D (zA G) (zL G h) := by
  refine ⟨fun a b x y hx hy hxy => ?_, fun a x hx => ?_⟩
  · unfold zL at hx hy
    rw [List.getElem?_map] at hx hy
    cases ha : zdom[a]? with
    | none => rw [ha] at hx; cases hx
    | some q =>
      cases hb : zdom[b]? with
      | none => rw [hb] at hy; cases hy
      | some r =>
        rw [ha] at hx; rw [hb] at hy
        cases hx; cases hy
        have : q = r := hI q (List.mem_of_getElem? ha) r (List.mem_of_getElem? hb) hxy
        subst this
        exact zdom_inj ha hb
  · unfold zL at hx
    rw [List.getElem?_map] at hx
    cases ha : zdom[a]? with
    | none => rw [ha] at hx; cases hx
    | some q =>
      rw [ha] at hx
      cases hx
      exact ⟨q, List.mem_of_getElem? ha, rfl⟩
theorem zA_in (G : ZG) {k i : Nat} (hk : i < zcnt k) : zA G (G.2.2.2 k i) := ⟨(k, i), zdom_in hk, rfl⟩
end
section
/-! ===== the judgement zT: a frame of a method over the pure picture; zC: a method's contract ===== -/
def zall : List Cond := lw_tbl.filter goodWord
def znwb : Cond → Bool
  | .fieldLinkNest .. => true
  | .methodLinkNest .. => true
  | _ => false
def znw : List Cond := tables_1.filter znwb
theorem zall_of {w : Cond} (h : w ∈ lw_tbl) (hg : goodWord w = true) : w ∈ zall := List.mem_filter.mpr ⟨h, hg⟩
theorem znw_of {w : Cond} (h : w ∈ tables_1) (hg : znwb w = true) : w ∈ znw := List.mem_filter.mpr ⟨h, hg⟩
theorem zall_good : GoodIn zall zall := fun w h => ⟨h, good_of_word (List.mem_filter.mp h).2⟩
theorem znw_on {w : Cond} (h : w ∈ znw) : w.onTables = true := by
  have := (List.mem_filter.mp h).2
  unfold znwb at this
  split at this
  · rfl
  · rfl
  · cases this
theorem znw_warm {w : Cond} (h : w ∈ znw) {s U : State} (hW : s.WarmedH U.vm) (hZ : va_Nw w s) : va_Nw w U := by
  have := (List.mem_filter.mp h).2
  unfold znwb at this
  split at this
  · exact va_Nw.warmF hW hZ
  · exact va_Nw.warmM hW hZ
  · cases this
def zty (G : ZG) : List (ClassId × FieldType) := [(G.2.2.1 0, .int), (G.2.2.1 1, .long), (G.2.2.1 2, .boolean), (G.2.2.1 3, .object "CornerstoneSought$Stone"), (G.2.2.1 4, .object "CornerstoneSought$Shelf")]
def zK (G : ZG) (U : State) : Prop := va_K G.2.1 vwCl (zty G) U ∧ (∀ w ∈ znw, va_Nw w U) ∧ zInj G
theorem zK.warm {G : ZG} {s U : State} (hW : s.WarmedH U.vm) (h : zK G s) : zK G U := ⟨va_K.moved hW.alike h.1, fun w hw => znw_warm hw hW (h.2.1 w hw), h.2.2⟩
theorem zK.same {G : ZG} {s U : State} (hv : s.vm = U.vm) (h : zK G s) : zK G U := ⟨va_K.moved (by rw [hv]; exact Vm.Alike.refl _) h.1, fun w hw => va_Nw.same (znw_on hw) hv (h.2.1 w hw), h.2.2⟩
/-- the one static table -/
def zbes (j : Nat) : Int32 := ([2, 5, 10, 4, 32, 80, 160, 64, 512, 1280, 2560, 1024] : List Int32).getD j 0
def zSt (G : ZG) (U : State) (H : Heap) : Prop := va_Z "CornerstoneSought" "BESIDE" "[I" (.ref (G.2.2.2 26 0)) (zA G) U H ∧ va_T .int (G.2.2.2 26 0) 12 (fun j => .int (zbes j)) (zA G) U H
theorem zSt.moved {G : ZG} {u U : State} {H : Heap} (hvm : u.vm.Alike U.vm) (h : zSt G u H) : zSt G U H := ⟨va_Z.moved hvm h.1, va_T.moved hvm h.2⟩
theorem zSt.kept {G : ZG} {U : State} {H H1 : Heap} (h : zSt G U H) (hq : ∀ a : Nat, a < H.size → ¬ zA G a → H1[a]? = H[a]?) : zSt G U H1 := ⟨h.1.kept hq, h.2.kept hq⟩
def zrm (d : Nat) : Room := { frames := d, cells := 0, slots := 0, locals := 48 * d }
/-- where a method ends: what it answers, the picture behind it, and that nothing else changed -/
def zQ (G : ZG) (Q : Option ZV → ZH → Prop) : Array Value → State → Outcome → State → Prop := fun _ st oc t => (∃ (r : Option ZV) (h : ZH), oc = .returned (r.map (zc G)) ∧ Q r h ∧ zW G h t.heap) ∧ va_F (zA G) st t
def zPc (G : ZG) (as : List ZV) (h : ZH) : Array Value → State → Prop := va_Pc (as.map (zc G)) (fun U => zW G h U.heap ∧ zK G U ∧ zSt G U U.heap)
theorem zPc_blind (G : ZG) (as : List ZV) (h : ZH) : FrameBlind (zPc G as h) := by
  intro a U g mk hp
  obtain ⟨h1, h2, h3, h4⟩ := hp
  exact ⟨h1, h2, zK.same (s := U) (U := U.calling g mk a) rfl h3, zSt.moved (u := U) (U := U.calling g mk a) (Vm.Alike.refl U.vm) h4⟩
def zws (M : ZM) : List Cond := .code M.1 M.2.1 M.2.2.1 M.2.2.2 :: zall
def zC (G : ZG) (d : Nat) (M : ZM) (as : List ZV) (h : ZH) (Q : Option ZV → ZH → Prop) : Prop := Met G.1 M.1 (zws M) (zrm d) (zPc G as h) (zQ G Q) 0 0 (zA G)
/-- the locals of a frame -/
def zlo (G : ZG) (ls : Array Slot) (nL : Nat) (L : List ZV) : Prop := ls.size = nL ∧ lv_wf ls ∧ ∀ (i : Nat) (v : ZV), L[i]? = some v → v ≠ zu → ls[i]? = some (.val (zc G v))
def zX (G : ZG) (M : ZM) (p : Program) (s : State) (m : MethodId) (args : Array Value) (meth : Method) (c : Code) : Prop :=
  p.tables.exec = Jvm.exec ∧ c.code = M.2.1 ∧ c.maxLocals = M.2.2.1 ∧ meth.sig.returnType = M.2.2.2 ∧ (∀ w ∈ zall, w.before args s = true) ∧ s.vm.findClass M.1.cls = some m.cls ∧ meth.locks = false ∧ zK G s ∧ zSt G s s.heap
def zT (G : ZG) (d : Nat) (M : ZM) (pc : Nat) (L S : List ZV) (h : ZH) (Q : Option ZV → ZH → Prop) : Prop :=
  ∀ (p : Program) (e : Env) (s : State) (m : MethodId) (args : Array Value) (below : List Frame) (meth : Method) (c : Code) (H : Heap) (locs : List Loc) (ls : Array Slot),
    zX G M p s m args meth c → va_S (zA G) s.heap H locs → zW G h H → zlo G ls M.2.2.1 L →
    W p G.1 e (zrm d) s m args below meth c H locs 0 0 (MQ below (zQ G Q) args s 0 0 (zA G)) (F0 m pc ls (S.map (zc G)))
/-- the list of locals that the arguments make -/
def zargs : List ZV → List ZV
  | [] => []
  | Sum.inr (Sum.inl x) :: as => zl x :: zu :: zargs as
  | v :: as => v :: zargs as
theorem zargs_sl (G : ZG) : ∀ (as : List ZV) (i : Nat) (v : ZV), (zargs as)[i]? = some v → v ≠ zu → (lg_sl (as.map (zc G)))[i]? = some (.val (zc G v)) := by
  intro as
  induction as with
  | nil => intro i v h; simp [zargs] at h
  | cons a as ih =>
    intro i v h hv
    rcases a with x | x | q | u
    · cases i with
      | zero => simp only [zargs, List.getElem?_cons_zero, Option.some.injEq] at h; subst h; rfl
      | succ i => simp only [zargs, List.getElem?_cons_succ] at h; have := ih i v h hv; simpa [lg_sl, zc, Value.category] using this
    · cases i with
      | zero => simp only [zargs, List.getElem?_cons_zero, Option.some.injEq] at h; subst h; rfl
      | succ i =>
        cases i with
        | zero => simp only [zargs, List.getElem?_cons_succ, List.getElem?_cons_zero, Option.some.injEq] at h; exact absurd h.symm hv
        | succ i => simp only [zargs, List.getElem?_cons_succ] at h; have := ih i v h hv; simpa [lg_sl, zc, Value.category] using this
    · cases i with
      | zero => simp only [zargs, List.getElem?_cons_zero, Option.some.injEq] at h; subst h; rfl
      | succ i => simp only [zargs, List.getElem?_cons_succ] at h; have := ih i v h hv; simpa [lg_sl, zc, Value.category] using this
    · cases i with
      | zero => simp only [zargs, List.getElem?_cons_zero, Option.some.injEq] at h; exact absurd h.symm hv
      | succ i => simp only [zargs, List.getElem?_cons_succ] at h; have := ih i v h hv; simpa [lg_sl, zc, Value.category] using this
theorem zlo_sub {G : ZG} {ls : Array Slot} {nL : Nat} {L L' : List ZV} (h : zlo G ls nL L) (hs : ∀ (i : Nat) (v : ZV), L'[i]? = some v → v ≠ zu → L[i]? = some v) : zlo G ls nL L' := ⟨h.1, h.2.1, fun i v hi hv => h.2.2 i v (hs i v hi hv) hv⟩
/-- L' says no more than L -/
def zleb : List ZV → List ZV → Prop
  | [], _ => True
  | Sum.inr (Sum.inr (Sum.inr _)) :: L', L => zleb L' L.tail
  | v :: L', L => L.head? = some v ∧ zleb L' L.tail
theorem zleb_get : ∀ (L' L : List ZV), zleb L' L → ∀ (i : Nat) (v : ZV), L'[i]? = some v → v ≠ zu → L[i]? = some v := by
  intro L'
  induction L' with
  | nil => intro L _ i v h; simp at h
  | cons a L' ih =>
    intro L hL i v h hv
    have key : a ≠ zu → L.head? = some a ∧ zleb L' L.tail := by
      intro ha
      rcases a with x | x | q | u
      · exact hL
      · exact hL
      · exact hL
      · exact absurd rfl ha
    have tl : zleb L' L.tail := by
      rcases a with x | x | q | u
      · exact hL.2
      · exact hL.2
      · exact hL.2
      · exact hL
    cases i with
    | zero =>
      simp only [List.getElem?_cons_zero, Option.some.injEq] at h
      subst h
      have := (key hv).1
      cases L with
      | nil => simp at this
      | cons b L => simpa using this
    | succ i =>
      simp only [List.getElem?_cons_succ] at h
      have := ih L.tail tl i v h hv
      cases L with
      | nil => simp at this
      | cons b L => simpa using this
theorem zargs_len (G : ZG) : ∀ (as : List ZV), (lg_sl (as.map (zc G))).length = (zargs as).length := by
  intro as
  induction as with
  | nil => rfl
  | cons a as ih =>
    rcases a with x | x | q | u
    · simpa [lg_sl, zc, Value.category, zargs] using ih
    · simpa [lg_sl, zc, Value.category, zargs] using ih
    · simpa [lg_sl, zc, Value.category, zargs] using ih
    · simpa [lg_sl, zc, Value.category, zargs] using ih
/-- a method's contract out of its entry -/
theorem zC_of {G : ZG} {d : Nat} {M : ZM} {as L : List ZV} {h : ZH} {Q : Option ZV → ZH → Prop} (hy : plainName M.1.cls = true) (hn : (zargs as).length ≤ M.2.2.1) (hL : zleb L (zargs as)) (k : zT G d M 0 L [] h Q) : zC G d M as h Q := by
  refine Met.ofW (cc := M.2.1) (maxL := M.2.2.1) (ret := M.2.2.2) hy rfl ?_
  intro p e s m args below meth c s₁ B hml hv
  obtain ⟨rfl, hW, hK, hSt⟩ := hv
  have hts := atoms_spec (ws := zws M) B.pre
  have hX : zX G M p s m (as.map (zc G)).toArray meth c := ⟨B.exec, B.bytes, hml, B.returns, fun w hw => hts w (List.mem_cons_of_mem _ hw), findClass_of_methodNamed B.named, B.notSynchronized, hK, hSt⟩
  rw [lg_entry_eq]
  have hl := lv_entry (as.map (zc G)) (n := M.2.2.1) (by rw [zargs_len]; exact hn)
  refine k p e s m _ below meth c s.heap [] _ hX va_S.rf hW ?_
  refine zlo_sub ?_ (zleb_get L (zargs as) hL)
  refine ⟨hl.1, hl.2.1, fun i v hi hv => ?_⟩
  have h1 := zargs_sl G as i v hi hv
  have h2 : i < (lg_sl (as.map (zc G))).length := (List.getElem?_eq_some_iff.mp h1).1
  rw [List.getElem?_toArray, List.getElem?_append_left h2]
  exact h1
theorem zC_mono {G : ZG} {d : Nat} {M : ZM} {as : List ZV} {h : ZH} {Q Q' : Option ZV → ZH → Prop} (k : zC G d M as h Q) (hq : ∀ r h', Q r h' → Q' r h') : zC G d M as h Q' := by
  intro p e h1 h2 h3 s m args below h4 h5 h6 h7
  obtain ⟨n, o, a1, a2, a3, ⟨⟨r, h', b1, b2, b3⟩, b4⟩, a5⟩ := k p e h1 h2 h3 s m args below h4 h5 h6 h7
  exact ⟨n, o, a1, a2, a3, ⟨⟨r, h', b1, hq r h' b2, b3⟩, b4⟩, a5⟩
theorem zT_mono {G : ZG} {d : Nat} {M : ZM} {pc : Nat} {L S : List ZV} {h : ZH} {Q Q' : Option ZV → ZH → Prop} (k : zT G d M pc L S h Q) (hq : ∀ r h', Q r h' → Q' r h') : zT G d M pc L S h Q' := by
  intro p e s m args below meth c H locs ls hX hS hW hL T hT X
  obtain ⟨t, a1, o, a2, a3, ⟨⟨r, h', b1, b2, b3⟩, b4⟩, a5⟩ := k p e s m args below meth c H locs ls hX hS hW hL T hT X
  exact ⟨t, a1, o, a2, a3, ⟨⟨r, h', b1, hq r h' b2, b3⟩, b4⟩, a5⟩
/-- the same frame with fewer locals told -/
theorem zt_sub {G : ZG} {d : Nat} {M : ZM} {pc : Nat} {L S : List ZV} {h : ZH} {Q : Option ZV → ZH → Prop} (L' : List ZV) (hs : zleb L' L) (k : zT G d M pc L' S h Q) : zT G d M pc L S h Q :=
  fun p e s m args below meth c H locs ls hX hS hW hL => k p e s m args below meth c H locs ls hX hS hW (zlo_sub hL (zleb_get L' L hs))
end
section
/-! ===== the rules of zT, one an instruction ===== -/
abbrev zD (cc : ByteArray) (pc pc' : Nat) (i : Instr) (n : Nat) : Prop := decode cc pc = .ok (i, n) ∧ pc' = pc + n
abbrev zB (cc : ByteArray) (pc pc' tgt : Nat) (i : Instr) (off : Int) : Prop := decode cc pc = .ok (i, 3) ∧ pc' = pc + 3 ∧ (pc : Int) + off = (tgt : Int)
theorem zt_iadd {G : ZG} {d : Nat} {M : ZM} {pc pc' : Nat} {L S : List ZV} {h : ZH} {Q : Option ZV → ZH → Prop} {x y : Int32} (hd : zD M.2.1 pc pc' .iadd 1) (k : zT G d M pc' L (zi (x + y) :: S) h Q) : zT G d M pc L (zi y :: zi x :: S) h Q := by
  obtain ⟨hd, rfl⟩ := hd
  intro p e s m args below meth c H locs ls hX hS hW hL
  obtain ⟨hx, hb, hml, hr, hts, hown, hlk, hK, hSt⟩ := id hX
  exact lv_iadd hx hb hd (k p e s m args below meth c H locs ls hX hS hW hL)
theorem zt_isub {G : ZG} {d : Nat} {M : ZM} {pc pc' : Nat} {L S : List ZV} {h : ZH} {Q : Option ZV → ZH → Prop} {x y : Int32} (hd : zD M.2.1 pc pc' .isub 1) (k : zT G d M pc' L (zi (x - y) :: S) h Q) : zT G d M pc L (zi y :: zi x :: S) h Q := by
  obtain ⟨hd, rfl⟩ := hd
  intro p e s m args below meth c H locs ls hX hS hW hL
  obtain ⟨hx, hb, hml, hr, hts, hown, hlk, hK, hSt⟩ := id hX
  exact lv_isub hx hb hd (k p e s m args below meth c H locs ls hX hS hW hL)
theorem zt_imul {G : ZG} {d : Nat} {M : ZM} {pc pc' : Nat} {L S : List ZV} {h : ZH} {Q : Option ZV → ZH → Prop} {x y : Int32} (hd : zD M.2.1 pc pc' .imul 1) (k : zT G d M pc' L (zi (x * y) :: S) h Q) : zT G d M pc L (zi y :: zi x :: S) h Q := by
  obtain ⟨hd, rfl⟩ := hd
  intro p e s m args below meth c H locs ls hX hS hW hL
  obtain ⟨hx, hb, hml, hr, hts, hown, hlk, hK, hSt⟩ := id hX
  exact lv_imul hx hb hd (k p e s m args below meth c H locs ls hX hS hW hL)
theorem zt_iand {G : ZG} {d : Nat} {M : ZM} {pc pc' : Nat} {L S : List ZV} {h : ZH} {Q : Option ZV → ZH → Prop} {x y : Int32} (hd : zD M.2.1 pc pc' .iand 1) (k : zT G d M pc' L (zi (x &&& y) :: S) h Q) : zT G d M pc L (zi y :: zi x :: S) h Q := by
  obtain ⟨hd, rfl⟩ := hd
  intro p e s m args below meth c H locs ls hX hS hW hL
  obtain ⟨hx, hb, hml, hr, hts, hown, hlk, hK, hSt⟩ := id hX
  exact lv_iand hx hb hd (k p e s m args below meth c H locs ls hX hS hW hL)
theorem zt_ior {G : ZG} {d : Nat} {M : ZM} {pc pc' : Nat} {L S : List ZV} {h : ZH} {Q : Option ZV → ZH → Prop} {x y : Int32} (hd : zD M.2.1 pc pc' .ior 1) (k : zT G d M pc' L (zi (x ||| y) :: S) h Q) : zT G d M pc L (zi y :: zi x :: S) h Q := by
  obtain ⟨hd, rfl⟩ := hd
  intro p e s m args below meth c H locs ls hX hS hW hL
  obtain ⟨hx, hb, hml, hr, hts, hown, hlk, hK, hSt⟩ := id hX
  exact lv_ior hx hb hd (k p e s m args below meth c H locs ls hX hS hW hL)
theorem zt_ixor {G : ZG} {d : Nat} {M : ZM} {pc pc' : Nat} {L S : List ZV} {h : ZH} {Q : Option ZV → ZH → Prop} {x y : Int32} (hd : zD M.2.1 pc pc' .ixor 1) (k : zT G d M pc' L (zi (x ^^^ y) :: S) h Q) : zT G d M pc L (zi y :: zi x :: S) h Q := by
  obtain ⟨hd, rfl⟩ := hd
  intro p e s m args below meth c H locs ls hX hS hW hL
  obtain ⟨hx, hb, hml, hr, hts, hown, hlk, hK, hSt⟩ := id hX
  exact lv_ixor hx hb hd (k p e s m args below meth c H locs ls hX hS hW hL)
theorem zt_ishl {G : ZG} {d : Nat} {M : ZM} {pc pc' : Nat} {L S : List ZV} {h : ZH} {Q : Option ZV → ZH → Prop} {x y : Int32} (hd : zD M.2.1 pc pc' .ishl 1) (k : zT G d M pc' L (zi (x <<< (y &&& 31)) :: S) h Q) : zT G d M pc L (zi y :: zi x :: S) h Q := by
  obtain ⟨hd, rfl⟩ := hd
  intro p e s m args below meth c H locs ls hX hS hW hL
  obtain ⟨hx, hb, hml, hr, hts, hown, hlk, hK, hSt⟩ := id hX
  exact lv_ishl hx hb hd (k p e s m args below meth c H locs ls hX hS hW hL)
theorem zt_ishr {G : ZG} {d : Nat} {M : ZM} {pc pc' : Nat} {L S : List ZV} {h : ZH} {Q : Option ZV → ZH → Prop} {x y : Int32} (hd : zD M.2.1 pc pc' .ishr 1) (k : zT G d M pc' L (zi (x >>> (y &&& 31)) :: S) h Q) : zT G d M pc L (zi y :: zi x :: S) h Q := by
  obtain ⟨hd, rfl⟩ := hd
  intro p e s m args below meth c H locs ls hX hS hW hL
  obtain ⟨hx, hb, hml, hr, hts, hown, hlk, hK, hSt⟩ := id hX
  exact lv_ishr hx hb hd (k p e s m args below meth c H locs ls hX hS hW hL)
theorem zt_iushr {G : ZG} {d : Nat} {M : ZM} {pc pc' : Nat} {L S : List ZV} {h : ZH} {Q : Option ZV → ZH → Prop} {x y : Int32} (hd : zD M.2.1 pc pc' .iushr 1) (k : zT G d M pc' L (zi ((x.toUInt32 >>> (y.toUInt32 &&& Int32.toUInt32 31)).toInt32) :: S) h Q) : zT G d M pc L (zi y :: zi x :: S) h Q := by
  obtain ⟨hd, rfl⟩ := hd
  intro p e s m args below meth c H locs ls hX hS hW hL
  obtain ⟨hx, hb, hml, hr, hts, hown, hlk, hK, hSt⟩ := id hX
  exact lv_iushr hx hb hd rfl (k p e s m args below meth c H locs ls hX hS hW hL)
theorem zt_idiv {G : ZG} {d : Nat} {M : ZM} {pc pc' : Nat} {L S : List ZV} {h : ZH} {Q : Option ZV → ZH → Prop} {x y : Int32} (hd : zD M.2.1 pc pc' .idiv 1) (hne : ¬ y = 0) (k : zT G d M pc' L (zi (x / y) :: S) h Q) : zT G d M pc L (zi y :: zi x :: S) h Q := by
  obtain ⟨hd, rfl⟩ := hd
  intro p e s m args below meth c H locs ls hX hS hW hL
  obtain ⟨hx, hb, hml, hr, hts, hown, hlk, hK, hSt⟩ := id hX
  exact lv_idiv hx hb hd hne (k p e s m args below meth c H locs ls hX hS hW hL)
theorem zt_irem {G : ZG} {d : Nat} {M : ZM} {pc pc' : Nat} {L S : List ZV} {h : ZH} {Q : Option ZV → ZH → Prop} {x y : Int32} (hd : zD M.2.1 pc pc' .irem 1) (hne : ¬ y = 0) (k : zT G d M pc' L (zi (x - x / y * y) :: S) h Q) : zT G d M pc L (zi y :: zi x :: S) h Q := by
  obtain ⟨hd, rfl⟩ := hd
  intro p e s m args below meth c H locs ls hX hS hW hL
  obtain ⟨hx, hb, hml, hr, hts, hown, hlk, hK, hSt⟩ := id hX
  exact lv_irem hx hb hd hne (k p e s m args below meth c H locs ls hX hS hW hL)
theorem zt_ineg {G : ZG} {d : Nat} {M : ZM} {pc pc' : Nat} {L S : List ZV} {h : ZH} {Q : Option ZV → ZH → Prop} {x : Int32} (hd : zD M.2.1 pc pc' .ineg 1) (k : zT G d M pc' L (zi (-x) :: S) h Q) : zT G d M pc L (zi x :: S) h Q := by
  obtain ⟨hd, rfl⟩ := hd
  intro p e s m args below meth c H locs ls hX hS hW hL
  obtain ⟨hx, hb, hml, hr, hts, hown, hlk, hK, hSt⟩ := id hX
  exact lv_ineg hx hb hd (k p e s m args below meth c H locs ls hX hS hW hL)
theorem zt_ladd {G : ZG} {d : Nat} {M : ZM} {pc pc' : Nat} {L S : List ZV} {h : ZH} {Q : Option ZV → ZH → Prop} {x y : Int64} (hd : zD M.2.1 pc pc' .ladd 1) (k : zT G d M pc' L (zl (x + y) :: S) h Q) : zT G d M pc L (zl y :: zl x :: S) h Q := by
  obtain ⟨hd, rfl⟩ := hd
  intro p e s m args below meth c H locs ls hX hS hW hL
  obtain ⟨hx, hb, hml, hr, hts, hown, hlk, hK, hSt⟩ := id hX
  exact lv_ladd hx hb hd (k p e s m args below meth c H locs ls hX hS hW hL)
theorem zt_lsub {G : ZG} {d : Nat} {M : ZM} {pc pc' : Nat} {L S : List ZV} {h : ZH} {Q : Option ZV → ZH → Prop} {x y : Int64} (hd : zD M.2.1 pc pc' .lsub 1) (k : zT G d M pc' L (zl (x - y) :: S) h Q) : zT G d M pc L (zl y :: zl x :: S) h Q := by
  obtain ⟨hd, rfl⟩ := hd
  intro p e s m args below meth c H locs ls hX hS hW hL
  obtain ⟨hx, hb, hml, hr, hts, hown, hlk, hK, hSt⟩ := id hX
  exact lv_lsub hx hb hd (k p e s m args below meth c H locs ls hX hS hW hL)
theorem zt_lmul {G : ZG} {d : Nat} {M : ZM} {pc pc' : Nat} {L S : List ZV} {h : ZH} {Q : Option ZV → ZH → Prop} {x y : Int64} (hd : zD M.2.1 pc pc' .lmul 1) (k : zT G d M pc' L (zl (x * y) :: S) h Q) : zT G d M pc L (zl y :: zl x :: S) h Q := by
  obtain ⟨hd, rfl⟩ := hd
  intro p e s m args below meth c H locs ls hX hS hW hL
  obtain ⟨hx, hb, hml, hr, hts, hown, hlk, hK, hSt⟩ := id hX
  exact lv_lmul hx hb hd (k p e s m args below meth c H locs ls hX hS hW hL)
theorem zt_land {G : ZG} {d : Nat} {M : ZM} {pc pc' : Nat} {L S : List ZV} {h : ZH} {Q : Option ZV → ZH → Prop} {x y : Int64} (hd : zD M.2.1 pc pc' .land 1) (k : zT G d M pc' L (zl (x &&& y) :: S) h Q) : zT G d M pc L (zl y :: zl x :: S) h Q := by
  obtain ⟨hd, rfl⟩ := hd
  intro p e s m args below meth c H locs ls hX hS hW hL
  obtain ⟨hx, hb, hml, hr, hts, hown, hlk, hK, hSt⟩ := id hX
  exact lv_land hx hb hd (k p e s m args below meth c H locs ls hX hS hW hL)
theorem zt_lor {G : ZG} {d : Nat} {M : ZM} {pc pc' : Nat} {L S : List ZV} {h : ZH} {Q : Option ZV → ZH → Prop} {x y : Int64} (hd : zD M.2.1 pc pc' .lor 1) (k : zT G d M pc' L (zl (x ||| y) :: S) h Q) : zT G d M pc L (zl y :: zl x :: S) h Q := by
  obtain ⟨hd, rfl⟩ := hd
  intro p e s m args below meth c H locs ls hX hS hW hL
  obtain ⟨hx, hb, hml, hr, hts, hown, hlk, hK, hSt⟩ := id hX
  exact lv_lor hx hb hd (k p e s m args below meth c H locs ls hX hS hW hL)
theorem zt_ldiv {G : ZG} {d : Nat} {M : ZM} {pc pc' : Nat} {L S : List ZV} {h : ZH} {Q : Option ZV → ZH → Prop} {x y : Int64} (hd : zD M.2.1 pc pc' .ldiv 1) (hne : ¬ y = 0) (k : zT G d M pc' L (zl (x / y) :: S) h Q) : zT G d M pc L (zl y :: zl x :: S) h Q := by
  obtain ⟨hd, rfl⟩ := hd
  intro p e s m args below meth c H locs ls hX hS hW hL
  obtain ⟨hx, hb, hml, hr, hts, hown, hlk, hK, hSt⟩ := id hX
  exact lv_ldiv hx hb hd hne (k p e s m args below meth c H locs ls hX hS hW hL)
theorem zt_lrem {G : ZG} {d : Nat} {M : ZM} {pc pc' : Nat} {L S : List ZV} {h : ZH} {Q : Option ZV → ZH → Prop} {x y : Int64} (hd : zD M.2.1 pc pc' .lrem 1) (hne : ¬ y = 0) (k : zT G d M pc' L (zl (x - x / y * y) :: S) h Q) : zT G d M pc L (zl y :: zl x :: S) h Q := by
  obtain ⟨hd, rfl⟩ := hd
  intro p e s m args below meth c H locs ls hX hS hW hL
  obtain ⟨hx, hb, hml, hr, hts, hown, hlk, hK, hSt⟩ := id hX
  exact lv_lrem hx hb hd hne (k p e s m args below meth c H locs ls hX hS hW hL)
theorem zt_lushr {G : ZG} {d : Nat} {M : ZM} {pc pc' : Nat} {L S : List ZV} {h : ZH} {Q : Option ZV → ZH → Prop} {x : Int64} {y : Int32} (hd : zD M.2.1 pc pc' .lushr 1) (k : zT G d M pc' L (zl ((x.toUInt64 >>> (y.toInt64.toUInt64 &&& Int64.toUInt64 63)).toInt64) :: S) h Q) : zT G d M pc L (zi y :: zl x :: S) h Q := by
  obtain ⟨hd, rfl⟩ := hd
  intro p e s m args below meth c H locs ls hX hS hW hL
  obtain ⟨hx, hb, hml, hr, hts, hown, hlk, hK, hSt⟩ := id hX
  exact lv_lushr hx hb hd rfl (k p e s m args below meth c H locs ls hX hS hW hL)
theorem zt_lshl {G : ZG} {d : Nat} {M : ZM} {pc pc' : Nat} {L S : List ZV} {h : ZH} {Q : Option ZV → ZH → Prop} {x : Int64} {y : Int32} (hd : zD M.2.1 pc pc' .lshl 1) (k : zT G d M pc' L (zl (x <<< (y.toInt64 &&& 63)) :: S) h Q) : zT G d M pc L (zi y :: zl x :: S) h Q := by
  obtain ⟨hd, rfl⟩ := hd
  intro p e s m args below meth c H locs ls hX hS hW hL
  obtain ⟨hx, hb, hml, hr, hts, hown, hlk, hK, hSt⟩ := id hX
  exact lv_lshl hx hb hd rfl (k p e s m args below meth c H locs ls hX hS hW hL)
theorem zt_lshr {G : ZG} {d : Nat} {M : ZM} {pc pc' : Nat} {L S : List ZV} {h : ZH} {Q : Option ZV → ZH → Prop} {x : Int64} {y : Int32} (hd : zD M.2.1 pc pc' .lshr 1) (k : zT G d M pc' L (zl (x >>> (y.toInt64 &&& 63)) :: S) h Q) : zT G d M pc L (zi y :: zl x :: S) h Q := by
  obtain ⟨hd, rfl⟩ := hd
  intro p e s m args below meth c H locs ls hX hS hW hL
  obtain ⟨hx, hb, hml, hr, hts, hown, hlk, hK, hSt⟩ := id hX
  exact lv_lshr hx hb hd rfl (k p e s m args below meth c H locs ls hX hS hW hL)
theorem zt_lcmp {G : ZG} {d : Nat} {M : ZM} {pc pc' : Nat} {L S : List ZV} {h : ZH} {Q : Option ZV → ZH → Prop} {x y : Int64} (hd : zD M.2.1 pc pc' .lcmp 1) (k : zT G d M pc' L (zi (lg_cmp x y) :: S) h Q) : zT G d M pc L (zl y :: zl x :: S) h Q := by
  obtain ⟨hd, rfl⟩ := hd
  intro p e s m args below meth c H locs ls hX hS hW hL
  obtain ⟨hx, hb, hml, hr, hts, hown, hlk, hK, hSt⟩ := id hX
  exact W.lcmp hx hb hd (k p e s m args below meth c H locs ls hX hS hW hL)
theorem zt_i2l {G : ZG} {d : Nat} {M : ZM} {pc pc' : Nat} {L S : List ZV} {h : ZH} {Q : Option ZV → ZH → Prop} {x : Int32} (hd : zD M.2.1 pc pc' .i2l 1) (k : zT G d M pc' L (zl x.toInt64 :: S) h Q) : zT G d M pc L (zi x :: S) h Q := by
  obtain ⟨hd, rfl⟩ := hd
  intro p e s m args below meth c H locs ls hX hS hW hL
  obtain ⟨hx, hb, hml, hr, hts, hown, hlk, hK, hSt⟩ := id hX
  exact lv_i2l hx hb hd rfl (k p e s m args below meth c H locs ls hX hS hW hL)
theorem zt_l2i {G : ZG} {d : Nat} {M : ZM} {pc pc' : Nat} {L S : List ZV} {h : ZH} {Q : Option ZV → ZH → Prop} {x : Int64} (hd : zD M.2.1 pc pc' .l2i 1) (k : zT G d M pc' L (zi x.toInt32 :: S) h Q) : zT G d M pc L (zl x :: S) h Q := by
  obtain ⟨hd, rfl⟩ := hd
  intro p e s m args below meth c H locs ls hX hS hW hL
  obtain ⟨hx, hb, hml, hr, hts, hown, hlk, hK, hSt⟩ := id hX
  exact lv_l2i hx hb hd rfl (k p e s m args below meth c H locs ls hX hS hW hL)
theorem zt_i2b {G : ZG} {d : Nat} {M : ZM} {pc pc' : Nat} {L S : List ZV} {h : ZH} {Q : Option ZV → ZH → Prop} {x : Int32} (hd : zD M.2.1 pc pc' .i2b 1) (k : zT G d M pc' L (zi x.toInt8.toInt32 :: S) h Q) : zT G d M pc L (zi x :: S) h Q := by
  obtain ⟨hd, rfl⟩ := hd
  intro p e s m args below meth c H locs ls hX hS hW hL
  obtain ⟨hx, hb, hml, hr, hts, hown, hlk, hK, hSt⟩ := id hX
  exact lv_i2b hx hb hd rfl (k p e s m args below meth c H locs ls hX hS hW hL)
theorem zt_i2s {G : ZG} {d : Nat} {M : ZM} {pc pc' : Nat} {L S : List ZV} {h : ZH} {Q : Option ZV → ZH → Prop} {x : Int32} (hd : zD M.2.1 pc pc' .i2s 1) (k : zT G d M pc' L (zi x.toInt16.toInt32 :: S) h Q) : zT G d M pc L (zi x :: S) h Q := by
  obtain ⟨hd, rfl⟩ := hd
  intro p e s m args below meth c H locs ls hX hS hW hL
  obtain ⟨hx, hb, hml, hr, hts, hown, hlk, hK, hSt⟩ := id hX
  exact lv_i2s hx hb hd rfl (k p e s m args below meth c H locs ls hX hS hW hL)
theorem zt_iconst {G : ZG} {d : Nat} {M : ZM} {pc pc' : Nat} {L S : List ZV} {h : ZH} {Q : Option ZV → ZH → Prop} {n : Int} {v : Int32} (hd : zD M.2.1 pc pc' (.iconst n) 1) (hv : Int32.ofInt n = v) (k : zT G d M pc' L (zi v :: S) h Q) : zT G d M pc L S h Q := by
  obtain ⟨hd, rfl⟩ := hd
  intro p e s m args below meth c H locs ls hX hS hW hL
  obtain ⟨hx, hb, hml, hr, hts, hown, hlk, hK, hSt⟩ := id hX
  exact lv_iconst hx hb hd hv (k p e s m args below meth c H locs ls hX hS hW hL)
theorem zt_bipush {G : ZG} {d : Nat} {M : ZM} {pc pc' : Nat} {L S : List ZV} {h : ZH} {Q : Option ZV → ZH → Prop} {n : Int} {v : Int32} (hd : zD M.2.1 pc pc' (.bipush n) 2) (hv : (Int8.ofInt n).toInt32 = v) (k : zT G d M pc' L (zi v :: S) h Q) : zT G d M pc L S h Q := by
  obtain ⟨hd, rfl⟩ := hd
  intro p e s m args below meth c H locs ls hX hS hW hL
  obtain ⟨hx, hb, hml, hr, hts, hown, hlk, hK, hSt⟩ := id hX
  exact lv_bipush hx hb hd hv (k p e s m args below meth c H locs ls hX hS hW hL)
theorem zt_sipush {G : ZG} {d : Nat} {M : ZM} {pc pc' : Nat} {L S : List ZV} {h : ZH} {Q : Option ZV → ZH → Prop} {n : Int} {v : Int32} (hd : zD M.2.1 pc pc' (.sipush n) 3) (hv : (Int16.ofInt n).toInt32 = v) (k : zT G d M pc' L (zi v :: S) h Q) : zT G d M pc L S h Q := by
  obtain ⟨hd, rfl⟩ := hd
  intro p e s m args below meth c H locs ls hX hS hW hL
  obtain ⟨hx, hb, hml, hr, hts, hown, hlk, hK, hSt⟩ := id hX
  exact lv_sipush hx hb hd hv (k p e s m args below meth c H locs ls hX hS hW hL)
theorem zt_lconst {G : ZG} {d : Nat} {M : ZM} {pc pc' : Nat} {L S : List ZV} {h : ZH} {Q : Option ZV → ZH → Prop} {n : Fin 2} {v : Int64} (hd : zD M.2.1 pc pc' (.lconst n) 1) (hv : Int64.ofNat (n : Nat) = v) (k : zT G d M pc' L (zl v :: S) h Q) : zT G d M pc L S h Q := by
  obtain ⟨hd, rfl⟩ := hd
  intro p e s m args below meth c H locs ls hX hS hW hL
  obtain ⟨hx, hb, hml, hr, hts, hown, hlk, hK, hSt⟩ := id hX
  exact lv_lconst hx hb hd hv (k p e s m args below meth c H locs ls hX hS hW hL)
theorem zt_ldc {G : ZG} {d : Nat} {M : ZM} {pc pc' : Nat} {L S : List ZV} {h : ZH} {Q : Option ZV → ZH → Prop} {index : Nat} {v : Int32} (hd : zD M.2.1 pc pc' (.ldc index) 2) (hw : Cond.constant M.1.cls index v ∈ zall) (k : zT G d M pc' L (zi v :: S) h Q) : zT G d M pc L S h Q := by
  obtain ⟨hd, rfl⟩ := hd
  intro p e s m args below meth c H locs ls hX hS hW hL
  obtain ⟨hx, hb, hml, hr, hts, hown, hlk, hK, hSt⟩ := id hX
  exact lv_ldc hx hb hown (hts _ hw) hd (k p e s m args below meth c H locs ls hX hS hW hL)
theorem zt_ldcw {G : ZG} {d : Nat} {M : ZM} {pc pc' : Nat} {L S : List ZV} {h : ZH} {Q : Option ZV → ZH → Prop} {index : Nat} {v : Int32} (hd : zD M.2.1 pc pc' (.ldc_w index) 3) (hw : Cond.constant M.1.cls index v ∈ zall) (k : zT G d M pc' L (zi v :: S) h Q) : zT G d M pc L S h Q := by
  obtain ⟨hd, rfl⟩ := hd
  intro p e s m args below meth c H locs ls hX hS hW hL
  obtain ⟨hx, hb, hml, hr, hts, hown, hlk, hK, hSt⟩ := id hX
  exact lv_ldcw hx hb hown (hts _ hw) hd (k p e s m args below meth c H locs ls hX hS hW hL)
theorem zt_ldc2 {G : ZG} {d : Nat} {M : ZM} {pc pc' : Nat} {L S : List ZV} {h : ZH} {Q : Option ZV → ZH → Prop} {index : Nat} {v : Int64} (hd : zD M.2.1 pc pc' (.ldc2_w index) 3) (hw : Cond.constantLong M.1.cls index v ∈ zall) (k : zT G d M pc' L (zl v :: S) h Q) : zT G d M pc L S h Q := by
  obtain ⟨hd, rfl⟩ := hd
  intro p e s m args below meth c H locs ls hX hS hW hL
  obtain ⟨hx, hb, hml, hr, hts, hown, hlk, hK, hSt⟩ := id hX
  exact lv_ldc2 hx hb hown (hts _ hw) hd (k p e s m args below meth c H locs ls hX hS hW hL)
theorem zt_iload_n {G : ZG} {d : Nat} {M : ZM} {pc pc' : Nat} {L S : List ZV} {h : ZH} {Q : Option ZV → ZH → Prop} {n : Fin 4} {x : Int32} (hd : zD M.2.1 pc pc' (.iload_n n) 1) (hl : L[(n : Nat)]? = some (zi x)) (k : zT G d M pc' L (zi x :: S) h Q) : zT G d M pc L S h Q := by
  obtain ⟨hd, rfl⟩ := hd
  intro p e s m args below meth c H locs ls hX hS hW hL
  obtain ⟨hx, hb, hml, hr, hts, hown, hlk, hK, hSt⟩ := id hX
  exact lv_iload_n hx hb hd rfl (hL.2.2 _ _ hl (by intro q; cases q)) (k p e s m args below meth c H locs ls hX hS hW hL)
theorem zt_iload {G : ZG} {d : Nat} {M : ZM} {pc pc' : Nat} {L S : List ZV} {h : ZH} {Q : Option ZV → ZH → Prop} {n : Nat} {x : Int32} (hd : zD M.2.1 pc pc' (.iload n) 2) (hl : L[n]? = some (zi x)) (k : zT G d M pc' L (zi x :: S) h Q) : zT G d M pc L S h Q := by
  obtain ⟨hd, rfl⟩ := hd
  intro p e s m args below meth c H locs ls hX hS hW hL
  obtain ⟨hx, hb, hml, hr, hts, hown, hlk, hK, hSt⟩ := id hX
  exact lv_iload hx hb hd (hL.2.2 _ _ hl (by intro q; cases q)) (k p e s m args below meth c H locs ls hX hS hW hL)
theorem zt_lload_n {G : ZG} {d : Nat} {M : ZM} {pc pc' : Nat} {L S : List ZV} {h : ZH} {Q : Option ZV → ZH → Prop} {n : Fin 4} {x : Int64} (hd : zD M.2.1 pc pc' (.lload_n n) 1) (hl : L[(n : Nat)]? = some (zl x)) (k : zT G d M pc' L (zl x :: S) h Q) : zT G d M pc L S h Q := by
  obtain ⟨hd, rfl⟩ := hd
  intro p e s m args below meth c H locs ls hX hS hW hL
  obtain ⟨hx, hb, hml, hr, hts, hown, hlk, hK, hSt⟩ := id hX
  exact lv_lload_n hx hb hd rfl (hL.2.2 _ _ hl (by intro q; cases q)) (k p e s m args below meth c H locs ls hX hS hW hL)
theorem zt_lload {G : ZG} {d : Nat} {M : ZM} {pc pc' : Nat} {L S : List ZV} {h : ZH} {Q : Option ZV → ZH → Prop} {n : Nat} {x : Int64} (hd : zD M.2.1 pc pc' (.lload n) 2) (hl : L[n]? = some (zl x)) (k : zT G d M pc' L (zl x :: S) h Q) : zT G d M pc L S h Q := by
  obtain ⟨hd, rfl⟩ := hd
  intro p e s m args below meth c H locs ls hX hS hW hL
  obtain ⟨hx, hb, hml, hr, hts, hown, hlk, hK, hSt⟩ := id hX
  exact lv_lload hx hb hd (hL.2.2 _ _ hl (by intro q; cases q)) (k p e s m args below meth c H locs ls hX hS hW hL)
theorem zt_aload_n {G : ZG} {d : Nat} {M : ZM} {pc pc' : Nat} {L S : List ZV} {h : ZH} {Q : Option ZV → ZH → Prop} {n : Fin 4} {a b : Nat} (hd : zD M.2.1 pc pc' (.aload_n n) 1) (hl : L[(n : Nat)]? = some (zr a b)) (k : zT G d M pc' L (zr a b :: S) h Q) : zT G d M pc L S h Q := by
  obtain ⟨hd, rfl⟩ := hd
  intro p e s m args below meth c H locs ls hX hS hW hL
  obtain ⟨hx, hb, hml, hr, hts, hown, hlk, hK, hSt⟩ := id hX
  exact lv_aload_n hx hb hd rfl (hL.2.2 _ _ hl (by intro q; cases q)) (k p e s m args below meth c H locs ls hX hS hW hL)
theorem zt_aload {G : ZG} {d : Nat} {M : ZM} {pc pc' : Nat} {L S : List ZV} {h : ZH} {Q : Option ZV → ZH → Prop} {n : Nat} {a b : Nat} (hd : zD M.2.1 pc pc' (.aload n) 2) (hl : L[n]? = some (zr a b)) (k : zT G d M pc' L (zr a b :: S) h Q) : zT G d M pc L S h Q := by
  obtain ⟨hd, rfl⟩ := hd
  intro p e s m args below meth c H locs ls hX hS hW hL
  obtain ⟨hx, hb, hml, hr, hts, hown, hlk, hK, hSt⟩ := id hX
  exact lv_aload hx hb hd (hL.2.2 _ _ hl (by intro q; cases q)) (k p e s m args below meth c H locs ls hX hS hW hL)
theorem zcat1 (G : ZG) {v : ZV} (hv : ∀ x, v ≠ zl x) : (zc G v).category = 1 := by
  rcases v with x | x | q | u
  · rfl
  · exact absurd rfl (hv x)
  · rfl
  · rfl
/-- storing into a local: of one slot, of two -/
def zst1 : List ZV → Nat → ZV → List ZV
  | [], _, _ => []
  | _ :: L, 0, v => v :: L
  | Sum.inr (Sum.inl _) :: L, 1, v => zu :: zst1 L 0 v
  | a :: L, i + 1, v => a :: zst1 L i v
def zst2 : List ZV → Nat → Int64 → List ZV
  | _ :: _ :: L, 0, v => zl v :: zu :: L
  | Sum.inr (Sum.inl _) :: L, 1, v => zu :: zst2 L 0 v
  | a :: L, i + 1, v => a :: zst2 L i v
  | _, _, _ => []
theorem zst1_get : ∀ (L : List ZV) (i : Nat) (v : ZV) (j : Nat) (w : ZV), (zst1 L i v)[j]? = some w → w ≠ zu → (j = i ∧ w = v) ∨ (j ≠ i ∧ L[j]? = some w ∧ ¬ (j + 1 = i ∧ ∃ x, w = zl x)) := by
  intro L
  induction L with
  | nil => intro i v j w h; simp [zst1] at h
  | cons a L ih =>
    intro i v j w h hw
    match i with
    | 0 =>
      simp only [zst1] at h
      cases j with
      | zero => simp only [List.getElem?_cons_zero, Option.some.injEq] at h; exact Or.inl ⟨rfl, h.symm⟩
      | succ j => simp only [List.getElem?_cons_succ] at h; exact Or.inr ⟨by omega, by simpa using h, by omega⟩
    | 1 =>
      rcases a with x | x | q | u
      all_goals
        simp only [zst1] at h
        cases j with
        | zero =>
          simp only [List.getElem?_cons_zero, Option.some.injEq] at h
          subst h
          first
            | exact absurd rfl hw
            | exact Or.inr ⟨by omega, rfl, fun q => by obtain ⟨-, x, hx⟩ := q; cases hx⟩
        | succ j =>
          simp only [List.getElem?_cons_succ] at h
          rcases ih 0 v j w h hw with ⟨e1, e2⟩ | ⟨e1, e2, e3⟩
          · exact Or.inl ⟨by omega, e2⟩
          · exact Or.inr ⟨by omega, by simpa using e2, by omega⟩
    | i + 2 =>
      have hz : zst1 (a :: L) (i + 2) v = a :: zst1 L (i + 1) v := by
        rcases a with x | x | q | u <;> rfl
      rw [hz] at h
      cases j with
      | zero => simp only [List.getElem?_cons_zero, Option.some.injEq] at h; subst h; exact Or.inr ⟨by omega, rfl, by omega⟩
      | succ j =>
        simp only [List.getElem?_cons_succ] at h
        rcases ih (i + 1) v j w h hw with ⟨e1, e2⟩ | ⟨e1, e2, e3⟩
        · exact Or.inl ⟨by omega, e2⟩
        · exact Or.inr ⟨by omega, by simpa using e2, fun q => e3 ⟨by omega, q.2⟩⟩
theorem zst2_get : ∀ (L : List ZV) (i : Nat) (v : Int64) (j : Nat) (w : ZV), (zst2 L i v)[j]? = some w → w ≠ zu → (j = i ∧ w = zl v) ∨ (j ≠ i ∧ j ≠ i + 1 ∧ L[j]? = some w ∧ ¬ (j + 1 = i ∧ ∃ x, w = zl x)) := by
  intro L
  induction L with
  | nil => intro i v j w h; simp [zst2] at h
  | cons a L ih =>
    intro i v j w h hw
    match i with
    | 0 =>
      cases L with
      | nil => rcases a with x | x | q | u <;> simp [zst2] at h
      | cons b L =>
        simp only [zst2] at h
        match j with
        | 0 => simp only [List.getElem?_cons_zero, Option.some.injEq] at h; exact Or.inl ⟨rfl, h.symm⟩
        | 1 => simp only [List.getElem?_cons_succ, List.getElem?_cons_zero, Option.some.injEq] at h; exact absurd h.symm hw
        | j + 2 => simp only [List.getElem?_cons_succ] at h; exact Or.inr ⟨by omega, by omega, by simpa using h, by omega⟩
    | 1 =>
      rcases a with x | x | q | u
      all_goals
        simp only [zst2] at h
        cases j with
        | zero =>
          simp only [List.getElem?_cons_zero, Option.some.injEq] at h
          subst h
          first
            | exact absurd rfl hw
            | exact Or.inr ⟨by omega, by omega, rfl, fun q => by obtain ⟨-, x, hx⟩ := q; cases hx⟩
        | succ j =>
          simp only [List.getElem?_cons_succ] at h
          rcases ih 0 v j w h hw with ⟨e1, e2⟩ | ⟨e1, e1', e2, e3⟩
          · exact Or.inl ⟨by omega, e2⟩
          · exact Or.inr ⟨by omega, by omega, by simpa using e2, by omega⟩
    | i + 2 =>
      have hz : zst2 (a :: L) (i + 2) v = a :: zst2 L (i + 1) v := by
        rcases a with x | x | q | u <;> cases L <;> rfl
      rw [hz] at h
      cases j with
      | zero => simp only [List.getElem?_cons_zero, Option.some.injEq] at h; subst h; exact Or.inr ⟨by omega, by omega, rfl, by omega⟩
      | succ j =>
        simp only [List.getElem?_cons_succ] at h
        rcases ih (i + 1) v j w h hw with ⟨e1, e2⟩ | ⟨e1, e1', e2, e3⟩
        · exact Or.inl ⟨by omega, e2⟩
        · exact Or.inr ⟨by omega, by omega, by simpa using e2, fun q => e3 ⟨by omega, q.2⟩⟩
/-- the listed locals, as the kit has them -/
def zas (G : ZG) (L : List ZV) : List (Nat × Value) := (List.range L.length).filterMap (fun i => match L[i]? with
  | some (Sum.inr (Sum.inr (Sum.inr _))) => none
  | some v => some (i, zc G v)
  | none => none)
theorem zas_mem (G : ZG) {L : List ZV} {i : Nat} {v : ZV} (h : L[i]? = some v) (hv : v ≠ zu) : (i, zc G v) ∈ zas G L := by
  refine List.mem_filterMap.mpr ⟨i, List.mem_range.mpr (List.getElem?_eq_some_iff.mp h).1, ?_⟩
  rw [h]
  rcases v with x | x | q | u
  · rfl
  · rfl
  · rfl
  · exact absurd rfl hv
theorem zas_has {G : ZG} {ls : Array Slot} {nL : Nat} {L : List ZV} (h : zlo G ls nL L) : lv_has ls nL (zas G L) := by
  refine ⟨h.1, h.2.1, fun q hq => ?_⟩
  obtain ⟨i, -, hi⟩ := List.mem_filterMap.mp hq
  cases hx : L[i]? with
  | none => rw [hx] at hi; cases hi
  | some v =>
    rw [hx] at hi
    rcases v with x | x | r | u
    · cases hi; exact h.2.2 i _ hx (by intro q; cases q)
    · cases hi; exact h.2.2 i _ hx (by intro q; cases q)
    · cases hi; exact h.2.2 i _ hx (by intro q; cases q)
    · cases hi
theorem zc_cat2 {G : ZG} {v : ZV} (h : (zc G v).category = 2) : ∃ x, v = zl x := by
  rcases v with x | x | q | u
  · cases h
  · exact ⟨x, rfl⟩
  · cases h
  · cases h
theorem zlo_st1 {G : ZG} {ls : Array Slot} {nL : Nat} {L : List ZV} {i : Nat} {v : ZV} (h : lv_has ls nL ((i, zc G v) :: (zas G L).filter (fun q => !(q.1 == i) && !(q.1 + 1 == i && q.2.category == 2)))) : zlo G ls nL (zst1 L i v) := by
  refine ⟨h.1, h.2.1, fun j w hj hw => ?_⟩
  rcases zst1_get L i v j w hj hw with ⟨e1, e2⟩ | ⟨e1, e2, e3⟩
  · subst e1; subst e2
    exact h.2.2 (j, zc G w) List.mem_cons_self
  · refine h.2.2 (j, zc G w) (List.mem_cons_of_mem _ (List.mem_filter.mpr ⟨zas_mem G e2 hw, ?_⟩))
    simp only [Bool.and_eq_true, Bool.not_eq_true', beq_eq_false_iff_ne, ne_eq, Bool.and_eq_false_iff]
    refine ⟨e1, ?_⟩
    by_cases hji : j + 1 = i
    · exact Or.inr (fun q => e3 ⟨hji, zc_cat2 q⟩)
    · exact Or.inl hji
theorem zlo_st2 {G : ZG} {ls : Array Slot} {nL : Nat} {L : List ZV} {i : Nat} {v : Int64} (h : lv_has ls nL ((i, Value.long v) :: (zas G L).filter (fun q => !(q.1 == i) && (!(q.1 == i + 1) && !(q.1 + 1 == i && q.2.category == 2))))) : zlo G ls nL (zst2 L i v) := by
  refine ⟨h.1, h.2.1, fun j w hj hw => ?_⟩
  rcases zst2_get L i v j w hj hw with ⟨e1, e2⟩ | ⟨e1, e1', e2, e3⟩
  · subst e1; subst e2
    exact h.2.2 (j, Value.long v) List.mem_cons_self
  · refine h.2.2 (j, zc G w) (List.mem_cons_of_mem _ (List.mem_filter.mpr ⟨zas_mem G e2 hw, ?_⟩))
    simp only [Bool.and_eq_true, Bool.not_eq_true', beq_eq_false_iff_ne, ne_eq, Bool.and_eq_false_iff]
    refine ⟨e1, e1', ?_⟩
    by_cases hji : j + 1 = i
    · exact Or.inr (fun q => e3 ⟨hji, zc_cat2 q⟩)
    · exact Or.inl hji
theorem zt_istore_n {G : ZG} {d : Nat} {M : ZM} {pc pc' : Nat} {L S : List ZV} {h : ZH} {Q : Option ZV → ZH → Prop} {L' : List ZV} {n : Fin 4} {x : Int32} (hd : zD M.2.1 pc pc' (.istore_n n) 1) (hn : (n : Nat) < M.2.2.1) (hl : zst1 L (n : Nat) (zi x) = L') (k : zT G d M pc' L' S h Q) : zT G d M pc L (((zi x)) :: S) h Q := by
  obtain ⟨hd, rfl⟩ := hd
  intro p e s m args below meth c H locs ls hX hS hW hL
  obtain ⟨hx, hb, hml, hr, hts, hown, hlk, hK, hSt⟩ := id hX
  subst hl
  exact lv_istore_n hx hb hd rfl (zas_has hL) hn rfl (fun ls h1 => k p e s m args below meth c H locs ls hX hS hW (zlo_st1 (v := (zi x)) h1))
theorem zt_istore {G : ZG} {d : Nat} {M : ZM} {pc pc' : Nat} {L S : List ZV} {h : ZH} {Q : Option ZV → ZH → Prop} {L' : List ZV} {n : Nat} {x : Int32} (hd : zD M.2.1 pc pc' (.istore n) 2) (hn : n < M.2.2.1) (hl : zst1 L n (zi x) = L') (k : zT G d M pc' L' S h Q) : zT G d M pc L (((zi x)) :: S) h Q := by
  obtain ⟨hd, rfl⟩ := hd
  intro p e s m args below meth c H locs ls hX hS hW hL
  obtain ⟨hx, hb, hml, hr, hts, hown, hlk, hK, hSt⟩ := id hX
  subst hl
  exact lv_istore hx hb hd (zas_has hL) hn rfl (fun ls h1 => k p e s m args below meth c H locs ls hX hS hW (zlo_st1 (v := (zi x)) h1))
theorem zt_lstore_n {G : ZG} {d : Nat} {M : ZM} {pc pc' : Nat} {L S : List ZV} {h : ZH} {Q : Option ZV → ZH → Prop} {L' : List ZV} {n : Fin 4} {x : Int64} (hd : zD M.2.1 pc pc' (.lstore_n n) 1) (hn : (n : Nat) + 1 < M.2.2.1) (hl : zst2 L (n : Nat) x = L') (k : zT G d M pc' L' S h Q) : zT G d M pc L ((zl x) :: S) h Q := by
  obtain ⟨hd, rfl⟩ := hd
  intro p e s m args below meth c H locs ls hX hS hW hL
  obtain ⟨hx, hb, hml, hr, hts, hown, hlk, hK, hSt⟩ := id hX
  subst hl
  exact lv_lstore_n hx hb hd rfl (zas_has hL) hn rfl (fun ls h1 => k p e s m args below meth c H locs ls hX hS hW (zlo_st2 h1))
theorem zt_lstore {G : ZG} {d : Nat} {M : ZM} {pc pc' : Nat} {L S : List ZV} {h : ZH} {Q : Option ZV → ZH → Prop} {L' : List ZV} {n : Nat} {x : Int64} (hd : zD M.2.1 pc pc' (.lstore n) 2) (hn : n + 1 < M.2.2.1) (hl : zst2 L n x = L') (k : zT G d M pc' L' S h Q) : zT G d M pc L ((zl x) :: S) h Q := by
  obtain ⟨hd, rfl⟩ := hd
  intro p e s m args below meth c H locs ls hX hS hW hL
  obtain ⟨hx, hb, hml, hr, hts, hown, hlk, hK, hSt⟩ := id hX
  subst hl
  exact lv_lstore hx hb hd (zas_has hL) hn rfl (fun ls h1 => k p e s m args below meth c H locs ls hX hS hW (zlo_st2 h1))
theorem zt_astore_n {G : ZG} {d : Nat} {M : ZM} {pc pc' : Nat} {L S : List ZV} {h : ZH} {Q : Option ZV → ZH → Prop} {L' : List ZV} {n : Fin 4} {a b : Nat} (hd : zD M.2.1 pc pc' (.astore_n n) 1) (hn : (n : Nat) < M.2.2.1) (hl : zst1 L (n : Nat) (zr a b) = L') (k : zT G d M pc' L' S h Q) : zT G d M pc L (((zr a b)) :: S) h Q := by
  obtain ⟨hd, rfl⟩ := hd
  intro p e s m args below meth c H locs ls hX hS hW hL
  obtain ⟨hx, hb, hml, hr, hts, hown, hlk, hK, hSt⟩ := id hX
  subst hl
  exact lv_astore_n hx hb hd rfl (zas_has hL) hn rfl (fun ls h1 => k p e s m args below meth c H locs ls hX hS hW (zlo_st1 (v := (zr a b)) h1))
theorem zt_astore {G : ZG} {d : Nat} {M : ZM} {pc pc' : Nat} {L S : List ZV} {h : ZH} {Q : Option ZV → ZH → Prop} {L' : List ZV} {n : Nat} {a b : Nat} (hd : zD M.2.1 pc pc' (.astore n) 2) (hn : n < M.2.2.1) (hl : zst1 L n (zr a b) = L') (k : zT G d M pc' L' S h Q) : zT G d M pc L (((zr a b)) :: S) h Q := by
  obtain ⟨hd, rfl⟩ := hd
  intro p e s m args below meth c H locs ls hX hS hW hL
  obtain ⟨hx, hb, hml, hr, hts, hown, hlk, hK, hSt⟩ := id hX
  subst hl
  exact lv_astore hx hb hd (zas_has hL) hn rfl (fun ls h1 => k p e s m args below meth c H locs ls hX hS hW (zlo_st1 (v := (zr a b)) h1))
theorem zt_iinc {G : ZG} {d : Nat} {M : ZM} {pc pc' : Nat} {L S : List ZV} {h : ZH} {Q : Option ZV → ZH → Prop} {L' : List ZV} {i : Nat} {n : Int} {x v : Int32} (hd : zD M.2.1 pc pc' (.iinc i n) 3) (hi : L[i]? = some (zi x)) (hv : x + Int32.ofInt n = v) (hn : i < M.2.2.1) (hl : zst1 L i (zi v) = L') (k : zT G d M pc' L' S h Q) : zT G d M pc L S h Q := by
  obtain ⟨hd, rfl⟩ := hd
  intro p e s m args below meth c H locs ls hX hS hW hL
  obtain ⟨hx, hb, hml, hr, hts, hown, hlk, hK, hSt⟩ := id hX
  subst hl
  obtain ⟨q, hq⟩ := List.getElem?_of_mem (zas_mem G hi (by intro q; cases q))
  exact lv_iinc hx hb hd (zas_has hL) hq hv hn rfl (fun ls h1 => k p e s m args below meth c H locs ls hX hS hW (zlo_st1 (v := zi v) h1))
theorem zt_dup {G : ZG} {d : Nat} {M : ZM} {pc pc' : Nat} {L S : List ZV} {h : ZH} {Q : Option ZV → ZH → Prop} {v : ZV} (hd : zD M.2.1 pc pc' .dup 1) (hv : ∀ x, v ≠ zl x) (k : zT G d M pc' L (v :: v :: S) h Q) : zT G d M pc L (v :: S) h Q := by
  obtain ⟨hd, rfl⟩ := hd
  intro p e s m args below meth c H locs ls hX hS hW hL
  obtain ⟨hx, hb, hml, hr, hts, hown, hlk, hK, hSt⟩ := id hX
  exact lv_dup hx hb hd (zcat1 G hv) (k p e s m args below meth c H locs ls hX hS hW hL)
theorem zt_pop {G : ZG} {d : Nat} {M : ZM} {pc pc' : Nat} {L S : List ZV} {h : ZH} {Q : Option ZV → ZH → Prop} {v : ZV} (hd : zD M.2.1 pc pc' .pop 1) (hv : ∀ x, v ≠ zl x) (k : zT G d M pc' L S h Q) : zT G d M pc L (v :: S) h Q := by
  obtain ⟨hd, rfl⟩ := hd
  intro p e s m args below meth c H locs ls hX hS hW hL
  obtain ⟨hx, hb, hml, hr, hts, hown, hlk, hK, hSt⟩ := id hX
  exact lv_pop hx hb hd (zcat1 G hv) (k p e s m args below meth c H locs ls hX hS hW hL)
theorem zt_dup_x2 {G : ZG} {d : Nat} {M : ZM} {pc pc' : Nat} {L S : List ZV} {h : ZH} {Q : Option ZV → ZH → Prop} {v w u : ZV} (hd : zD M.2.1 pc pc' .dup_x2 1) (hv : ∀ x, v ≠ zl x) (hw : ∀ x, w ≠ zl x) (hu : ∀ x, u ≠ zl x) (k : zT G d M pc' L (v :: w :: u :: v :: S) h Q) : zT G d M pc L (v :: w :: u :: S) h Q := by
  obtain ⟨hd, rfl⟩ := hd
  intro p e s m args below meth c H locs ls hX hS hW hL
  obtain ⟨hx, hb, hml, hr, hts, hown, hlk, hK, hSt⟩ := id hX
  exact lv_dup_x2 hx hb hd (zcat1 G hv) (zcat1 G hw) (zcat1 G hu) (k p e s m args below meth c H locs ls hX hS hW hL)
theorem zt_dup_x1 {G : ZG} {d : Nat} {M : ZM} {pc pc' : Nat} {L S : List ZV} {h : ZH} {Q : Option ZV → ZH → Prop} {v w : ZV} (hd : zD M.2.1 pc pc' .dup_x1 1) (hv : ∀ x, v ≠ zl x) (hw : ∀ x, w ≠ zl x) (k : zT G d M pc' L (v :: w :: v :: S) h Q) : zT G d M pc L (v :: w :: S) h Q := by
  obtain ⟨hd, rfl⟩ := hd
  intro p e s m args below meth c H locs ls hX hS hW hL
  obtain ⟨hx, hb, hml, hr, hts, hown, hlk, hK, hSt⟩ := id hX
  exact lv_dup_x1 hx hb hd (zcat1 G hv) (zcat1 G hw) (k p e s m args below meth c H locs ls hX hS hW hL)
theorem zt_dup2 {G : ZG} {d : Nat} {M : ZM} {pc pc' : Nat} {L S : List ZV} {h : ZH} {Q : Option ZV → ZH → Prop} {v w : ZV} (hd : zD M.2.1 pc pc' .dup2 1) (hv : ∀ x, v ≠ zl x) (hw : ∀ x, w ≠ zl x) (k : zT G d M pc' L (v :: w :: v :: w :: S) h Q) : zT G d M pc L (v :: w :: S) h Q := by
  obtain ⟨hd, rfl⟩ := hd
  intro p e s m args below meth c H locs ls hX hS hW hL
  obtain ⟨hx, hb, hml, hr, hts, hown, hlk, hK, hSt⟩ := id hX
  exact lv_dup2_11 hx hb hd (zcat1 G hv) (zcat1 G hw) (k p e s m args below meth c H locs ls hX hS hW hL)
theorem zt_icmp_eq {G : ZG} {d : Nat} {M : ZM} {pc pc' tgt : Nat} {L S : List ZV} {h : ZH} {Q : Option ZV → ZH → Prop} {x y : Int32} {off : Int} (hd : zB M.2.1 pc pc' tgt (.if_icmp .eq off) off) (kt : x = y → zT G d M tgt L S h Q) (kf : ¬ x = y → zT G d M pc' L S h Q) : zT G d M pc L (zi y :: zi x :: S) h Q := by
  obtain ⟨hd, rfl, ht⟩ := hd
  intro p e s m args below meth c H locs ls hX hS hW hL
  obtain ⟨hx, hb, hml, hr, hts, hown, hlk, hK, hSt⟩ := id hX
  exact lv_icmp_eq hx hb hd ht (fun q => kt q p e s m args below meth c H locs ls hX hS hW hL) (fun q => kf q p e s m args below meth c H locs ls hX hS hW hL)
theorem zt_if_eq {G : ZG} {d : Nat} {M : ZM} {pc pc' tgt : Nat} {L S : List ZV} {h : ZH} {Q : Option ZV → ZH → Prop} {x : Int32} {off : Int} (hd : zB M.2.1 pc pc' tgt (.ifCond .eq off) off) (kt : x = 0 → zT G d M tgt L S h Q) (kf : ¬ x = 0 → zT G d M pc' L S h Q) : zT G d M pc L (zi x :: S) h Q := by
  obtain ⟨hd, rfl, ht⟩ := hd
  intro p e s m args below meth c H locs ls hX hS hW hL
  obtain ⟨hx, hb, hml, hr, hts, hown, hlk, hK, hSt⟩ := id hX
  exact lv_if_eq hx hb hd ht (fun q => kt q p e s m args below meth c H locs ls hX hS hW hL) (fun q => kf q p e s m args below meth c H locs ls hX hS hW hL)
theorem zt_icmp_ne {G : ZG} {d : Nat} {M : ZM} {pc pc' tgt : Nat} {L S : List ZV} {h : ZH} {Q : Option ZV → ZH → Prop} {x y : Int32} {off : Int} (hd : zB M.2.1 pc pc' tgt (.if_icmp .ne off) off) (kt : ¬ x = y → zT G d M tgt L S h Q) (kf : x = y → zT G d M pc' L S h Q) : zT G d M pc L (zi y :: zi x :: S) h Q := by
  obtain ⟨hd, rfl, ht⟩ := hd
  intro p e s m args below meth c H locs ls hX hS hW hL
  obtain ⟨hx, hb, hml, hr, hts, hown, hlk, hK, hSt⟩ := id hX
  exact lv_icmp_ne hx hb hd ht (fun q => kt q p e s m args below meth c H locs ls hX hS hW hL) (fun q => kf q p e s m args below meth c H locs ls hX hS hW hL)
theorem zt_if_ne {G : ZG} {d : Nat} {M : ZM} {pc pc' tgt : Nat} {L S : List ZV} {h : ZH} {Q : Option ZV → ZH → Prop} {x : Int32} {off : Int} (hd : zB M.2.1 pc pc' tgt (.ifCond .ne off) off) (kt : ¬ x = 0 → zT G d M tgt L S h Q) (kf : x = 0 → zT G d M pc' L S h Q) : zT G d M pc L (zi x :: S) h Q := by
  obtain ⟨hd, rfl, ht⟩ := hd
  intro p e s m args below meth c H locs ls hX hS hW hL
  obtain ⟨hx, hb, hml, hr, hts, hown, hlk, hK, hSt⟩ := id hX
  exact lv_if_ne hx hb hd ht (fun q => kt q p e s m args below meth c H locs ls hX hS hW hL) (fun q => kf q p e s m args below meth c H locs ls hX hS hW hL)
theorem zt_icmp_lt {G : ZG} {d : Nat} {M : ZM} {pc pc' tgt : Nat} {L S : List ZV} {h : ZH} {Q : Option ZV → ZH → Prop} {x y : Int32} {off : Int} (hd : zB M.2.1 pc pc' tgt (.if_icmp .lt off) off) (kt : x < y → zT G d M tgt L S h Q) (kf : ¬ x < y → zT G d M pc' L S h Q) : zT G d M pc L (zi y :: zi x :: S) h Q := by
  obtain ⟨hd, rfl, ht⟩ := hd
  intro p e s m args below meth c H locs ls hX hS hW hL
  obtain ⟨hx, hb, hml, hr, hts, hown, hlk, hK, hSt⟩ := id hX
  exact lv_icmp_lt hx hb hd ht (fun q => kt q p e s m args below meth c H locs ls hX hS hW hL) (fun q => kf q p e s m args below meth c H locs ls hX hS hW hL)
theorem zt_if_lt {G : ZG} {d : Nat} {M : ZM} {pc pc' tgt : Nat} {L S : List ZV} {h : ZH} {Q : Option ZV → ZH → Prop} {x : Int32} {off : Int} (hd : zB M.2.1 pc pc' tgt (.ifCond .lt off) off) (kt : x < 0 → zT G d M tgt L S h Q) (kf : ¬ x < 0 → zT G d M pc' L S h Q) : zT G d M pc L (zi x :: S) h Q := by
  obtain ⟨hd, rfl, ht⟩ := hd
  intro p e s m args below meth c H locs ls hX hS hW hL
  obtain ⟨hx, hb, hml, hr, hts, hown, hlk, hK, hSt⟩ := id hX
  exact lv_if_lt hx hb hd ht (fun q => kt q p e s m args below meth c H locs ls hX hS hW hL) (fun q => kf q p e s m args below meth c H locs ls hX hS hW hL)
theorem zt_icmp_ge {G : ZG} {d : Nat} {M : ZM} {pc pc' tgt : Nat} {L S : List ZV} {h : ZH} {Q : Option ZV → ZH → Prop} {x y : Int32} {off : Int} (hd : zB M.2.1 pc pc' tgt (.if_icmp .ge off) off) (kt : y ≤ x → zT G d M tgt L S h Q) (kf : ¬ y ≤ x → zT G d M pc' L S h Q) : zT G d M pc L (zi y :: zi x :: S) h Q := by
  obtain ⟨hd, rfl, ht⟩ := hd
  intro p e s m args below meth c H locs ls hX hS hW hL
  obtain ⟨hx, hb, hml, hr, hts, hown, hlk, hK, hSt⟩ := id hX
  exact lv_icmp_ge hx hb hd ht (fun q => kt q p e s m args below meth c H locs ls hX hS hW hL) (fun q => kf q p e s m args below meth c H locs ls hX hS hW hL)
theorem zt_if_ge {G : ZG} {d : Nat} {M : ZM} {pc pc' tgt : Nat} {L S : List ZV} {h : ZH} {Q : Option ZV → ZH → Prop} {x : Int32} {off : Int} (hd : zB M.2.1 pc pc' tgt (.ifCond .ge off) off) (kt : 0 ≤ x → zT G d M tgt L S h Q) (kf : ¬ 0 ≤ x → zT G d M pc' L S h Q) : zT G d M pc L (zi x :: S) h Q := by
  obtain ⟨hd, rfl, ht⟩ := hd
  intro p e s m args below meth c H locs ls hX hS hW hL
  obtain ⟨hx, hb, hml, hr, hts, hown, hlk, hK, hSt⟩ := id hX
  exact lv_if_ge hx hb hd ht (fun q => kt q p e s m args below meth c H locs ls hX hS hW hL) (fun q => kf q p e s m args below meth c H locs ls hX hS hW hL)
theorem zt_icmp_gt {G : ZG} {d : Nat} {M : ZM} {pc pc' tgt : Nat} {L S : List ZV} {h : ZH} {Q : Option ZV → ZH → Prop} {x y : Int32} {off : Int} (hd : zB M.2.1 pc pc' tgt (.if_icmp .gt off) off) (kt : y < x → zT G d M tgt L S h Q) (kf : ¬ y < x → zT G d M pc' L S h Q) : zT G d M pc L (zi y :: zi x :: S) h Q := by
  obtain ⟨hd, rfl, ht⟩ := hd
  intro p e s m args below meth c H locs ls hX hS hW hL
  obtain ⟨hx, hb, hml, hr, hts, hown, hlk, hK, hSt⟩ := id hX
  exact lv_icmp_gt hx hb hd ht (fun q => kt q p e s m args below meth c H locs ls hX hS hW hL) (fun q => kf q p e s m args below meth c H locs ls hX hS hW hL)
theorem zt_if_gt {G : ZG} {d : Nat} {M : ZM} {pc pc' tgt : Nat} {L S : List ZV} {h : ZH} {Q : Option ZV → ZH → Prop} {x : Int32} {off : Int} (hd : zB M.2.1 pc pc' tgt (.ifCond .gt off) off) (kt : 0 < x → zT G d M tgt L S h Q) (kf : ¬ 0 < x → zT G d M pc' L S h Q) : zT G d M pc L (zi x :: S) h Q := by
  obtain ⟨hd, rfl, ht⟩ := hd
  intro p e s m args below meth c H locs ls hX hS hW hL
  obtain ⟨hx, hb, hml, hr, hts, hown, hlk, hK, hSt⟩ := id hX
  exact lv_if_gt hx hb hd ht (fun q => kt q p e s m args below meth c H locs ls hX hS hW hL) (fun q => kf q p e s m args below meth c H locs ls hX hS hW hL)
theorem zt_icmp_le {G : ZG} {d : Nat} {M : ZM} {pc pc' tgt : Nat} {L S : List ZV} {h : ZH} {Q : Option ZV → ZH → Prop} {x y : Int32} {off : Int} (hd : zB M.2.1 pc pc' tgt (.if_icmp .le off) off) (kt : x ≤ y → zT G d M tgt L S h Q) (kf : ¬ x ≤ y → zT G d M pc' L S h Q) : zT G d M pc L (zi y :: zi x :: S) h Q := by
  obtain ⟨hd, rfl, ht⟩ := hd
  intro p e s m args below meth c H locs ls hX hS hW hL
  obtain ⟨hx, hb, hml, hr, hts, hown, hlk, hK, hSt⟩ := id hX
  exact lv_icmp_le hx hb hd ht (fun q => kt q p e s m args below meth c H locs ls hX hS hW hL) (fun q => kf q p e s m args below meth c H locs ls hX hS hW hL)
theorem zt_if_le {G : ZG} {d : Nat} {M : ZM} {pc pc' tgt : Nat} {L S : List ZV} {h : ZH} {Q : Option ZV → ZH → Prop} {x : Int32} {off : Int} (hd : zB M.2.1 pc pc' tgt (.ifCond .le off) off) (kt : x ≤ 0 → zT G d M tgt L S h Q) (kf : ¬ x ≤ 0 → zT G d M pc' L S h Q) : zT G d M pc L (zi x :: S) h Q := by
  obtain ⟨hd, rfl, ht⟩ := hd
  intro p e s m args below meth c H locs ls hX hS hW hL
  obtain ⟨hx, hb, hml, hr, hts, hown, hlk, hK, hSt⟩ := id hX
  exact lv_if_le hx hb hd ht (fun q => kt q p e s m args below meth c H locs ls hX hS hW hL) (fun q => kf q p e s m args below meth c H locs ls hX hS hW hL)
theorem zt_goto {G : ZG} {d : Nat} {M : ZM} {pc pc' tgt : Nat} {L S : List ZV} {h : ZH} {Q : Option ZV → ZH → Prop} {off : Int} (hd : zB M.2.1 pc pc' tgt (.goto off) off) (k : zT G d M tgt L S h Q) : zT G d M pc L S h Q := by
  obtain ⟨hd, rfl, ht⟩ := hd
  intro p e s m args below meth c H locs ls hX hS hW hL
  obtain ⟨hx, hb, hml, hr, hts, hown, hlk, hK, hSt⟩ := id hX
  exact lv_goto hx hb hd ht (k p e s m args below meth c H locs ls hX hS hW hL)
end
section
/-! ===== the rules of zT: fields, arrays, statics ===== -/
/-- a field site: own's entry 'index' is field j (of N) of the class at place ci -/
def zFS (own : String) (index ci N j : Nat) : Prop := ∃ (C : String) (T : u_T), vwCl[ci]? = some (C, T, N) ∧ j < N ∧ (∀ w ∈ u_ws C T N, w ∈ zall) ∧ (Cond.fieldLink own index (T j).1 (T j).2.1 (T j).2.2.1 ∈ zall ∨ ∃ host, Cond.fieldLinkNest own index (T j).1 (T j).2.1 (T j).2.2.1 host ∈ znw)
/-- what a store into it wants more -/
def zPS (ci N j : Nat) (ty : FieldType) : Prop := ∃ (C : String) (T : u_T) (ty0 : Nat → FieldType), vwCl[ci]? = some (C, T, N) ∧ (∀ k, k < N → parseFieldDescriptor (T k).2.2.1 = some (ty0 k)) ∧ (∀ a, a < N → ∀ b, b < N → a ≠ b → (T a).2.1 ≠ (T b).2.1) ∧ (T j).2.2.2 = false ∧ parseFieldDescriptor (T j).2.2.1 = some ty
theorem zmap_get (G : ZG) (h : ZH) {k i N j : Nat} (hj : j < N) : ((List.range N).map (fun j => zc G (zf h k i j)))[j]? = some (zc G (zf h k i j)) := by
  rw [List.getElem?_map, List.getElem?_range hj]
  rfl
theorem zt_get {G : ZG} {d : Nat} {M : ZM} {pc pc' : Nat} {L S : List ZV} {h : ZH} {Q : Option ZV → ZH → Prop} {k i ci N j index : Nat} {v : ZV} (hd : zD M.2.1 pc pc' (.getfield index) 3) (hf : zFS M.1.cls index ci N j) (hk : zkd k i = .inl (ci, N)) (hi : i < zcnt k) (hv : zf h k i j = v) (kk : zT G d M pc' L (v :: S) h Q) : zT G d M pc L (zr k i :: S) h Q := by
  obtain ⟨hd, rfl⟩ := hd
  intro p e s m args below meth c H locs ls hX hS hW hL
  obtain ⟨hx, hb, hml, hr, hts, hown, hlk, hK, hSt⟩ := id hX
  obtain ⟨C, T, hc, hjN, hin, hlink⟩ := hf
  obtain ⟨q, -, hq⟩ := zL_at G h hi
  rw [zE_obj G h hk] at hq
  have hfs := zmap_get G h (k := k) (i := i) hjN
  rw [hv] at hfs
  have k2 := kk p e s m args below meth c H locs ls hX hS hW hL
  rcases hlink with hl | ⟨host, hl⟩
  · exact va_get hx hb hts hin hown hK.1 hW q hq hc j hjN (hts _ hl) (fun _ z => z) hfs hd k2
  · exact va_getN hx hb hts hin hown hK.1 hW q hq hc j hjN (va_Nw.use (znw_on hl) (hK.2.1 _ hl)) (fun _ z => z) hfs hd k2
theorem zt_putg {G : ZG} {d : Nat} {M : ZM} {pc pc' : Nat} {L S : List ZV} {h : ZH} {Q : Option ZV → ZH → Prop} {k i ci N j index : Nat} {v : Int32} {ty : FieldType} (hd : zD M.2.1 pc pc' (.putfield index) 3) (hf : zFS M.1.cls index ci N j) (hp : zPS ci N j ty) (hk : zkd k i = .inl (ci, N)) (hi : i < zcnt k) (hj : zrf k j i = none) (hn : narrow ty (.int v) = .int v) (hft : fits ty (.int v) = true) (kk : zT G d M pc' L S (zs1 h k i j v) Q) : zT G d M pc L (zi v :: zr k i :: S) h Q := by
  obtain ⟨hd, rfl⟩ := hd
  intro p e s m args below meth c H locs ls hX hS hW hL
  obtain ⟨hx, hb, hml, hr, hts, hown, hlk, hK, hSt⟩ := id hX
  obtain ⟨C, T, hc, hjN, hin, hlink⟩ := hf
  obtain ⟨C2, T2, ty0, hc2, hty, hnm, hfin, hdd⟩ := hp
  cases hc.symm.trans hc2
  obtain ⟨q, hq0, hq⟩ := zL_at G h hi
  rw [zE_obj G h hk] at hq
  have hset := zL_set G (h := h) (h' := zs1 h k i j v) hq0 (zE_putobj G h v hk hj hjN) (fun k' i' hn => zE_o1 G h v k' i' hn)
  have k2 : ∀ (H1 : Heap) (locs1 : List Loc), va_P G.2.1 vwCl ((zL G h).set q (G.2.2.2 k i, .inr (ci, ((List.range N).map (fun j => zc G (zf h k i j))).set j (.int v)))) H1 → va_D (zA G) ((zL G h).set q (G.2.2.2 k i, .inr (ci, ((List.range N).map (fun j => zc G (zf h k i j))).set j (.int v)))) → va_S (zA G) s.heap H1 locs1 → W p G.1 e (zrm d) s m args below meth c H1 locs1 0 0 (MQ below (zQ G Q) args s 0 0 (zA G)) (F0 m (pc + 3) ls (S.map (zc G))) := by
    intro H1 locs1 h1 _ h3
    rw [hset] at h1
    exact kk p e s m args below meth c H1 locs1 ls hX h3 h1 hL
  have hlen : j < ((List.range N).map (fun j => zc G (zf h k i j))).length := by rw [List.length_map, List.length_range]; exact hjN
  rcases hlink with hl | ⟨host, hl⟩
  · exact va_put hx hb hts hin ty0 hty hnm hown hK.1 hW (zD_of G h hK.2.2) hS q hq hc j hjN (hts _ hl) (fun _ z => z) hfin hdd hn hft hlen hd k2
  · exact va_putN hx hb hts hin ty0 hty hnm hown hK.1 hW (zD_of G h hK.2.2) hS q hq hc j hjN (va_Nw.use (znw_on hl) (hK.2.1 _ hl)) (fun _ z => z) hfin hdd hn hft hlen hd k2
theorem zt_put {G : ZG} {d : Nat} {M : ZM} {pc pc' : Nat} {L S : List ZV} {h : ZH} {Q : Option ZV → ZH → Prop} {k i ci N j index : Nat} {v : Int32} (hd : zD M.2.1 pc pc' (.putfield index) 3) (hf : zFS M.1.cls index ci N j) (hp : zPS ci N j .int) (hk : zkd k i = .inl (ci, N)) (hi : i < zcnt k) (hj : zrf k j i = none) (kk : zT G d M pc' L S (zs1 h k i j v) Q) : zT G d M pc L (zi v :: zr k i :: S) h Q := zt_putg hd hf hp hk hi hj rfl rfl kk
theorem zt_putz {G : ZG} {d : Nat} {M : ZM} {pc pc' : Nat} {L S : List ZV} {h : ZH} {Q : Option ZV → ZH → Prop} {k i ci N j index : Nat} {v : Int32} (hd : zD M.2.1 pc pc' (.putfield index) 3) (hf : zFS M.1.cls index ci N j) (hp : zPS ci N j .boolean) (hk : zkd k i = .inl (ci, N)) (hi : i < zcnt k) (hj : zrf k j i = none) (hz : v = 0 ∨ v = 1) (kk : zT G d M pc' L S (zs1 h k i j v) Q) : zT G d M pc L (zi v :: zr k i :: S) h Q := zt_putg hd hf hp hk hi hj (by rcases hz with rfl | rfl <;> rfl) (by rcases hz with rfl | rfl <;> rfl) kk
theorem zt_iald {G : ZG} {d : Nat} {M : ZM} {pc pc' : Nat} {L S : List ZV} {h : ZH} {Q : Option ZV → ZH → Prop} {k i n : Nat} {j : Int32} (hd : zD M.2.1 pc pc' .iaload 1) (hk : zkd k i = .inr (0, n)) (hi : i < zcnt k) (hj : vp_in j n) (kk : zT G d M pc' L (zi (h.1 k i j.toNatClampNeg) :: S) h Q) : zT G d M pc L (zi j :: zr k i :: S) h Q := by
  obtain ⟨hd, rfl⟩ := hd
  intro p e s m args below meth c H locs ls hX hS hW hL
  obtain ⟨hx, hb, hml, hr, hts, hown, hlk, hK, hSt⟩ := id hX
  obtain ⟨q, -, hq⟩ := zL_at G h hi
  rw [zE_int G h hk] at hq
  exact va_iald hx hb hK.1 hW q 0 hq rfl hj hd (kk p e s m args below meth c H locs ls hX hS hW hL)
theorem zt_lald {G : ZG} {d : Nat} {M : ZM} {pc pc' : Nat} {L S : List ZV} {h : ZH} {Q : Option ZV → ZH → Prop} {k i n : Nat} {j : Int32} (hd : zD M.2.1 pc pc' .laload 1) (hk : zkd k i = .inr (1, n)) (hi : i < zcnt k) (hj : vp_in j n) (kk : zT G d M pc' L (zl (h.2 k i j.toNatClampNeg) :: S) h Q) : zT G d M pc L (zi j :: zr k i :: S) h Q := by
  obtain ⟨hd, rfl⟩ := hd
  intro p e s m args below meth c H locs ls hX hS hW hL
  obtain ⟨hx, hb, hml, hr, hts, hown, hlk, hK, hSt⟩ := id hX
  obtain ⟨q, -, hq⟩ := zL_at G h hi
  rw [zE_long G h hk] at hq
  exact va_lald hx hb hK.1 hW q 1 hq rfl hj hd (kk p e s m args below meth c H locs ls hX hS hW hL)
theorem zt_zald {G : ZG} {d : Nat} {M : ZM} {pc pc' : Nat} {L S : List ZV} {h : ZH} {Q : Option ZV → ZH → Prop} {k i n : Nat} {j : Int32} (hd : zD M.2.1 pc pc' .baload 1) (hk : zkd k i = .inr (2, n)) (hi : i < zcnt k) (hj : vp_in j n) (kk : zT G d M pc' L (zi (h.1 k i j.toNatClampNeg) :: S) h Q) : zT G d M pc L (zi j :: zr k i :: S) h Q := by
  obtain ⟨hd, rfl⟩ := hd
  intro p e s m args below meth c H locs ls hX hS hW hL
  obtain ⟨hx, hb, hml, hr, hts, hown, hlk, hK, hSt⟩ := id hX
  obtain ⟨q, -, hq⟩ := zL_at G h hi
  rw [zE_bool G h hk] at hq
  exact va_zald hx hb hK.1 hW q 2 hq rfl hj hd (kk p e s m args below meth c H locs ls hX hS hW hL)
theorem zt_aaldS {G : ZG} {d : Nat} {M : ZM} {pc pc' : Nat} {L S : List ZV} {h : ZH} {Q : Option ZV → ZH → Prop} {j : Int32} (hd : zD M.2.1 pc pc' .aaload 1) (hj : vp_in j 8) (kk : zT G d M pc' L (zr 4 j.toNatClampNeg :: S) h Q) : zT G d M pc L (zi j :: zr 21 0 :: S) h Q := by
  obtain ⟨hd, rfl⟩ := hd
  intro p e s m args below meth c H locs ls hX hS hW hL
  obtain ⟨hx, hb, hml, hr, hts, hown, hlk, hK, hSt⟩ := id hX
  obtain ⟨q, -, hq⟩ := zL_at G h (k := 21) (i := 0) (by decide)
  rw [zE_ref G h (t := 0) (n := 8) rfl] at hq
  exact va_aldq hx hb hK.1 hW q 3 hq rfl hj hd (kk p e s m args below meth c H locs ls hX hS hW hL)
theorem zt_aaldH {G : ZG} {d : Nat} {M : ZM} {pc pc' : Nat} {L S : List ZV} {h : ZH} {Q : Option ZV → ZH → Prop} {j : Int32} (hd : zD M.2.1 pc pc' .aaload 1) (hj : vp_in j 8) (kk : zT G d M pc' L (zr 3 j.toNatClampNeg :: S) h Q) : zT G d M pc L (zi j :: zr 22 0 :: S) h Q := by
  obtain ⟨hd, rfl⟩ := hd
  intro p e s m args below meth c H locs ls hX hS hW hL
  obtain ⟨hx, hb, hml, hr, hts, hown, hlk, hK, hSt⟩ := id hX
  obtain ⟨q, -, hq⟩ := zL_at G h (k := 22) (i := 0) (by decide)
  rw [zE_ref G h (t := 1) (n := 8) rfl] at hq
  exact va_aldq hx hb hK.1 hW q 4 hq rfl hj hd (kk p e s m args below meth c H locs ls hX hS hW hL)
theorem zt_iast {G : ZG} {d : Nat} {M : ZM} {pc pc' : Nat} {L S : List ZV} {h : ZH} {Q : Option ZV → ZH → Prop} {k i n : Nat} {j : Int32} {v : Int32} (hd : zD M.2.1 pc pc' .iastore 1) (hk : zkd k i = .inr (0, n)) (hi : i < zcnt k) (hj : vp_in j n) (kk : zT G d M pc' L S (zs1 h k i j.toNatClampNeg v) Q) : zT G d M pc L (zi v :: zi j :: zr k i :: S) h Q := by
  obtain ⟨hd, rfl⟩ := hd
  intro p e s m args below meth c H locs ls hX hS hW hL
  obtain ⟨hx, hb, hml, hr, hts, hown, hlk, hK, hSt⟩ := id hX
  obtain ⟨q, hq0, hq⟩ := zL_at G h hi
  rw [zE_int G h hk] at hq
  have hset := zL_set G (h := h) (h' := zs1 h k i j.toNatClampNeg v) hq0 (e := .inl (G.2.2.1 0, n, .inl (upd (h.1 k i) j.toNatClampNeg v))) (by rw [zE_int G _ hk, zs1_row]) (fun k' i' hn => zE_o1 G h v k' i' hn)
  refine va_iast hx hb hK.1 hW (zD_of G h hK.2.2) hS q 0 hq rfl hj hd ?_
  intro H1 locs1 h1 _ h3
  rw [hset] at h1
  exact kk p e s m args below meth c H1 locs1 ls hX h3 h1 hL
theorem zt_last {G : ZG} {d : Nat} {M : ZM} {pc pc' : Nat} {L S : List ZV} {h : ZH} {Q : Option ZV → ZH → Prop} {k i n : Nat} {j : Int32} {v : Int64} (hd : zD M.2.1 pc pc' .lastore 1) (hk : zkd k i = .inr (1, n)) (hi : i < zcnt k) (hj : vp_in j n) (kk : zT G d M pc' L S (zs2 h k i j.toNatClampNeg v) Q) : zT G d M pc L (zl v :: zi j :: zr k i :: S) h Q := by
  obtain ⟨hd, rfl⟩ := hd
  intro p e s m args below meth c H locs ls hX hS hW hL
  obtain ⟨hx, hb, hml, hr, hts, hown, hlk, hK, hSt⟩ := id hX
  obtain ⟨q, hq0, hq⟩ := zL_at G h hi
  rw [zE_long G h hk] at hq
  have hset := zL_set G (h := h) (h' := zs2 h k i j.toNatClampNeg v) hq0 (e := .inl (G.2.2.1 1, n, .inr (.inl (vp_updL (h.2 k i) j.toNatClampNeg v)))) (by rw [zE_long G _ hk, zs2_row]) (fun k' i' hn => zE_o2 G h v k' i' hn)
  refine va_last hx hb hK.1 hW (zD_of G h hK.2.2) hS q 1 hq rfl hj hd ?_
  intro H1 locs1 h1 _ h3
  rw [hset] at h1
  exact kk p e s m args below meth c H1 locs1 ls hX h3 h1 hL
theorem zt_zast {G : ZG} {d : Nat} {M : ZM} {pc pc' : Nat} {L S : List ZV} {h : ZH} {Q : Option ZV → ZH → Prop} {k i n : Nat} {j : Int32} {v : Int32} (hd : zD M.2.1 pc pc' .bastore 1) (hk : zkd k i = .inr (2, n)) (hi : i < zcnt k) (hj : vp_in j n) (kk : zT G d M pc' L S (zs1 h k i j.toNatClampNeg (vp_nar .boolean v)) Q) : zT G d M pc L (zi v :: zi j :: zr k i :: S) h Q := by
  obtain ⟨hd, rfl⟩ := hd
  intro p e s m args below meth c H locs ls hX hS hW hL
  obtain ⟨hx, hb, hml, hr, hts, hown, hlk, hK, hSt⟩ := id hX
  obtain ⟨q, hq0, hq⟩ := zL_at G h hi
  rw [zE_bool G h hk] at hq
  have hset := zL_set G (h := h) (h' := zs1 h k i j.toNatClampNeg (vp_nar .boolean v)) hq0 (e := .inl (G.2.2.1 2, n, .inl (upd (h.1 k i) j.toNatClampNeg (vp_nar .boolean v)))) (by rw [zE_bool G _ hk, zs1_row]) (fun k' i' hn => zE_o1 G h (vp_nar .boolean v) k' i' hn)
  refine va_zast hx hb hK.1 hW (zD_of G h hK.2.2) hS q 2 hq rfl hj hd ?_
  intro H1 locs1 h1 _ h3
  rw [hset] at h1
  exact kk p e s m args below meth c H1 locs1 ls hX h3 h1 hL
theorem zt_alen {G : ZG} {d : Nat} {M : ZM} {pc pc' : Nat} {L S : List ZV} {h : ZH} {Q : Option ZV → ZH → Prop} {k i t n : Nat} {v : Int32} (hd : zD M.2.1 pc pc' .arraylength 1) (hk : zkd k i = .inr (t, n)) (ht : t < 3) (hi : i < zcnt k) (hv : Int32.ofNat n = v) (kk : zT G d M pc' L (zi v :: S) h Q) : zT G d M pc L (zr k i :: S) h Q := by
  obtain ⟨hd, rfl⟩ := hd
  intro p e s m args below meth c H locs ls hX hS hW hL
  obtain ⟨hx, hb, hml, hr, hts, hown, hlk, hK, hSt⟩ := id hX
  obtain ⟨q, -, hq⟩ := zL_at G h hi
  have k2 := kk p e s m args below meth c H locs ls hX hS hW hL
  rcases (show t = 0 ∨ t = 1 ∨ t = 2 by omega) with rfl | rfl | rfl
  · rw [zE_int G h hk] at hq
    exact va_alen hx hb hK.1 hW q 0 hq rfl hv hd k2
  · rw [zE_long G h hk] at hq
    exact va_alen hx hb hK.1 hW q 1 hq rfl hv hd k2
  · rw [zE_bool G h hk] at hq
    exact va_alen hx hb hK.1 hW q 2 hq rfl hv hd k2
theorem zt_bes {G : ZG} {d : Nat} {M : ZM} {pc pc' : Nat} {L S : List ZV} {h : ZH} {Q : Option ZV → ZH → Prop} {index : Nat} (hd : zD M.2.1 pc pc' (.getstatic index) 3) (hl : Cond.fieldLinkNest M.1.cls index "CornerstoneSought" "BESIDE" "[I" "CornerstoneSought" ∈ znw) (kk : zT G d M pc' L (zr 26 0 :: S) h Q) : zT G d M pc L S h Q := by
  obtain ⟨hd, rfl⟩ := hd
  intro p e s m args below meth c H locs ls hX hS hW hL
  obtain ⟨hx, hb, hml, hr, hts, hown, hlk, hK, hSt⟩ := id hX
  exact va_getsN hx hb hSt.1 hS hown (va_Nw.use (znw_on hl) (hK.2.1 _ hl)) (fun _ z => z) hd (kk p e s m args below meth c H locs ls hX hS hW hL)
theorem zt_besld {G : ZG} {d : Nat} {M : ZM} {pc pc' : Nat} {L S : List ZV} {h : ZH} {Q : Option ZV → ZH → Prop} {j : Int32} (hd : zD M.2.1 pc pc' .iaload 1) (hj : vp_in j 12) (kk : zT G d M pc' L (zi (zbes j.toNatClampNeg) :: S) h Q) : zT G d M pc L (zi j :: zr 26 0 :: S) h Q := by
  obtain ⟨hd, rfl⟩ := hd
  intro p e s m args below meth c H locs ls hX hS hW hL
  obtain ⟨hx, hb, hml, hr, hts, hown, hlk, hK, hSt⟩ := id hX
  exact va_ti hx hb hSt.2 hS hj rfl hd (kk p e s m args below meth c H locs ls hX hS hW hL)
/-! ===== returns ===== -/
theorem zQ_end {G : ZG} {Q : Option ZV → ZH → Prop} {r : Option ZV} {h : ZH} {s : State} {H : Heap} {locs : List Loc} {args : Array Value} (hq : Q r h) (hS : va_S (zA G) s.heap H locs) (hW : zW G h H) : ∀ t : State, t.heap = H → s.WarmedH t.vm → zQ G Q args s (.returned (r.map (zc G))) t :=
  fun t ht _ => ⟨⟨r, h, rfl, hq, by rw [ht]; exact hW⟩, hS.F ht⟩
theorem zt_iret {G : ZG} {d : Nat} {M : ZM} {pc pc' : Nat} {L : List ZV} {h : ZH} {Q : Option ZV → ZH → Prop} {v : Int32} (hd : zD M.2.1 pc pc' .ireturn 1) (hr0 : M.2.2.2 = some .int) (hq : Q (some (zi v)) h) : zT G d M pc L [zi v] h Q := by
  obtain ⟨hd, -⟩ := hd
  intro p e s m args below meth c H locs ls hX hS hW hL
  obtain ⟨hx, hb, hml, hr, hts, hown, hlk, hK, hSt⟩ := id hX
  exact W.iret hx hb (hr.trans hr0) (zQ_end hq hS hW) hS.2.2 hd hlk
theorem zt_zret {G : ZG} {d : Nat} {M : ZM} {pc pc' : Nat} {L : List ZV} {h : ZH} {Q : Option ZV → ZH → Prop} {v : Int32} (hd : zD M.2.1 pc pc' .ireturn 1) (hr0 : M.2.2.2 = some .boolean) (hz : v = 0 ∨ v = 1) (hq : Q (some (zi v)) h) : zT G d M pc L [zi v] h Q := by
  obtain ⟨hd, -⟩ := hd
  intro p e s m args below meth c H locs ls hX hS hW hL
  obtain ⟨hx, hb, hml, hr, hts, hown, hlk, hK, hSt⟩ := id hX
  exact W.zret hx hb (hr.trans hr0) (by rcases hz with rfl | rfl <;> rfl) (zQ_end hq hS hW) hS.2.2 hd hlk
theorem zt_vret {G : ZG} {d : Nat} {M : ZM} {pc pc' : Nat} {L : List ZV} {h : ZH} {Q : Option ZV → ZH → Prop} (hd : zD M.2.1 pc pc' .return_ 1) (hr0 : M.2.2.2 = none) (hq : Q none h) : zT G d M pc L [] h Q := by
  obtain ⟨hd, -⟩ := hd
  intro p e s m args below meth c H locs ls hX hS hW hL
  obtain ⟨hx, hb, hml, hr, hts, hown, hlk, hK, hSt⟩ := id hX
  exact W.vret hx hb (hr.trans hr0) (zQ_end hq hS hW) hS.2.2 hd hlk
theorem zt_lret {G : ZG} {d : Nat} {M : ZM} {pc pc' : Nat} {L : List ZV} {h : ZH} {Q : Option ZV → ZH → Prop} {v : Int64} (hd : zD M.2.1 pc pc' .lreturn 1) (hr0 : M.2.2.2 = some .long) (hq : Q (some (zl v)) h) : zT G d M pc L [zl v] h Q := by
  obtain ⟨hd, -⟩ := hd
  intro p e s m args below meth c H locs ls hX hS hW hL
  obtain ⟨hx, hb, hml, hr, hts, hown, hlk, hK, hSt⟩ := id hX
  exact W.lret hx hb (hr.trans hr0) (zQ_end hq hS hW) hS.2.2 hd hlk
/-! ===== calls ===== -/
theorem z_call {G : ZG} {d : Nat} {p : Program} {e : Env} {s : State} {m : MethodId} {args : Array Value} {below : List Frame} {meth : Method} {c : Code} {H : Heap} {locs : List Loc} {Z : State → Prop} {pc : Nat} {ls : Array Slot} {rest st0 : List Value} {a : Array Value} {Q1 : Option ZV → ZH → Prop}
    (hr : va_Run p G.1 e (zrm d) s m args below meth c H locs 0 0 0 0 (F0 m pc ls st0) rest (zQ G Q1 a) (zA G)) (hS : va_S (zA G) s.heap H locs)
    (kk : ∀ (r : Option ZV) (h' : ZH) (H1 : Heap) (locs1 : List Loc), Q1 r h' → zW G h' H1 → va_S (zA G) s.heap H1 locs1 → W p G.1 e (zrm d) s m args below meth c H1 locs1 0 0 Z (F0 m (pc + 3) ls ((r.map (zc G)).toList ++ rest))) : W p G.1 e (zrm d) s m args below meth c H locs 0 0 Z (F0 m pc ls st0) := by
  intro T hT X
  obtain ⟨v, st₀, t, T', L, h0, X', hL, e1, e2, ⟨⟨r, h', hv, hp, hb⟩, hz, hk⟩, st⟩ := hr T hT X
  cases hv
  rw [h0] at hz hk
  obtain ⟨t2, a1, b1⟩ := kk r h' T'.heap (locs ++ L) hp (by rw [e1]; exact hb)
    ⟨Nat.le_trans hS.1 (by rw [e1]; exact hz), fun q h1 h2 => by rw [e1, hk q (Nat.lt_of_lt_of_le h1 hS.1) h2]; exact hS.2.1 q h1 h2, fun q hq => by
      rcases List.mem_append.mp hq with h | h
      · exact hS.2.2 q h
      · exact hL q h⟩ T' rfl X'
  exact ⟨t2, st t2 a1, b1⟩
theorem z_ws (M : ZM) (hc : Cond.code M.1 M.2.1 M.2.2.1 M.2.2.2 ∈ zall) : GoodIn zall (zws M) := by
  intro w hw
  rcases List.mem_cons.mp hw with rfl | h
  · exact zall_good _ hc
  · exact zall_good _ h
theorem z_pre {G : ZG} {as : List ZV} {h : ZH} {s : State} {H : Heap} {locs : List Loc} (hK : zK G s) (hSt : zSt G s s.heap) (hS : va_S (zA G) s.heap H locs) (hW : zW G h H) : ∀ U : State, U.heap = H → s.WarmedH U.vm → zPc G as h (as.map (zc G)).toArray U := by
  intro U hU hw
  refine ⟨rfl, by rw [hU]; exact hW, zK.warm hw hK, zSt.moved hw.alike ?_⟩
  rw [hU]
  exact hSt.kept hS.2.1
/-- a site of a static call; of a call of a method by its object (own class, nest mates), of a super call; of an overridden one -/
def zSS (own : String) (index : Nat) (M : ZM) (n : Nat) : Prop := (Cond.methodLink own index M.1 ∈ zall ∧ Cond.static M.1 ∈ zall ∧ Cond.initialized M.1.cls ∈ zall ∧ Cond.code M.1 M.2.1 M.2.2.1 M.2.2.2 ∈ zall) ∧ (M.1.cls ≠ "java/lang/invoke/MethodHandle" ∧ M.1.cls ≠ "java/lang/invoke/VarHandle" ∧ (parseMethodDescriptor M.1.desc).map (fun d => d.parameters.length) = some n) ∧ M.2.2.1 ≤ 29
def zSN (own : String) (index : Nat) (M : ZM) (n : Nat) : Prop := ((∃ host, Cond.methodLinkNest own index M.1 host ∈ znw) ∧ Cond.static M.1 ∈ zall ∧ Cond.initialized M.1.cls ∈ zall ∧ Cond.code M.1 M.2.1 M.2.2.1 M.2.2.2 ∈ zall) ∧ (M.1.cls ≠ "java/lang/invoke/MethodHandle" ∧ M.1.cls ≠ "java/lang/invoke/VarHandle" ∧ (parseMethodDescriptor M.1.desc).map (fun d => d.parameters.length) = some n) ∧ M.2.2.1 ≤ 29
def zVS (own : String) (index ci : Nat) (M : ZM) (n : Nat) : Prop := (Cond.methodLink own index M.1 ∈ zall ∧ Cond.instanceMethod M.1 ∈ zall ∧ Cond.selects M.1.cls M.1 M.1 ∈ zall ∧ Cond.initialized M.1.cls ∈ zall ∧ Cond.code M.1 M.2.1 M.2.2.1 M.2.2.2 ∈ zall) ∧ (M.1.cls ≠ "java/lang/invoke/MethodHandle" ∧ M.1.cls ≠ "java/lang/invoke/VarHandle" ∧ (parseMethodDescriptor M.1.desc).map (fun d => d.parameters.length) = some n) ∧ M.2.2.1 ≤ 29 ∧ ∃ (T : u_T) (N : Nat), vwCl[ci]? = some (M.1.cls, T, N)
def zUS (own : String) (index : Nat) (M : ZM) (n : Nat) : Prop := (Cond.methodLink own index M.1 ∈ zall ∧ Cond.sameMethod M.1.cls M.1.cls M.1.name M.1.desc ∈ zall ∧ Cond.superclass own M.1.cls ∈ zall ∧ Cond.instanceMethod M.1 ∈ zall ∧ Cond.initialized M.1.cls ∈ zall ∧ Cond.code M.1 M.2.1 M.2.2.1 M.2.2.2 ∈ zall) ∧ (M.1.name ≠ "<init>" ∧ (parseMethodDescriptor M.1.desc).map (fun d => d.parameters.length) = some n) ∧ M.2.2.1 ≤ 29
/-- the site names X; on an object of class C the method M runs -/
def zOS (own : String) (index ci : Nat) (X : ZM) (M : ZM) (n : Nat) : Prop := ∃ (C : String) (T : u_T) (N : Nat), vwCl[ci]? = some (C, T, N) ∧ (Cond.methodLink own index X.1 ∈ zall ∧ Cond.sameMethod X.1.cls X.1.cls X.1.name X.1.desc ∈ zall ∧ Cond.instanceMethod X.1 ∈ zall ∧ Cond.selects C X.1 M.1 ∈ zall ∧ Cond.instanceMethod M.1 ∈ zall ∧ Cond.initialized M.1.cls ∈ zall ∧ Cond.code M.1 M.2.1 M.2.2.1 M.2.2.2 ∈ zall ∧ Cond.code X.1 X.2.1 X.2.2.1 X.2.2.2 ∈ zall) ∧ (X.1.cls ≠ "java/lang/invoke/MethodHandle" ∧ X.1.cls ≠ "java/lang/invoke/VarHandle" ∧ (parseMethodDescriptor X.1.desc).map (fun d => d.parameters.length) = some n) ∧ M.2.2.1 ≤ 29
theorem zin_of {a : Cond} {ws : List Cond} (ha : a ∈ zall) (h : GoodIn zall ws) : GoodIn zall (a :: ws) := by
  intro w hw
  rcases List.mem_cons.mp hw with rfl | h1
  · exact zall_good _ ha
  · exact h _ h1
theorem zc_sum (G : ZG) (S : List ZV) (hS : S.length ≤ 4) : ((S.map (zc G)).map fun v => v.category).sum ≤ 8 := by
  have key : ∀ (S : List ZV), ((S.map (zc G)).map fun v => v.category).sum ≤ 2 * S.length := by
    intro S
    induction S with
    | nil => simp
    | cons a S ih =>
      have : (zc G a).category ≤ 2 := by rcases lv_cat (zc G a) with h | h <;> omega
      simp only [List.map_cons, List.sum_cons, List.length_cons]
      omega
  have := key S
  omega
theorem zt_cS {G : ZG} {d : Nat} {M N : ZM} {pc pc' : Nat} {L S : List ZV} {h : ZH} {Q Q1 : Option ZV → ZH → Prop} {as : List ZV} {index n : Nat} {S0 : List ZV} (hd : zD M.2.1 pc pc' (.invokestatic index) 3) (hs : zSS M.1.cls index N n) (hn : as.length = n) (hS4 : S.length ≤ 4) (hS0 : S0 = as.reverse ++ S) (hC : zC G d N (as) h Q1) (kk : ∀ r h', Q1 r h' → zT G (d + 1) M pc' L (r.toList ++ S) h' Q) : zT G (d + 1) M pc L S0 h Q := by
  obtain ⟨hd, rfl⟩ := hd
  intro p e s m args below meth c H locs ls hX hS hW hL
  obtain ⟨hx, hb, hml, hr, hts, hown, hlk, hK, hSt⟩ := id hX
  subst hS0
  obtain ⟨⟨w1, w2, w3, w4⟩, hdsc, hmax⟩ := hs
  have cw := va_cwS (R := zrm (d + 1)) (s := s) (args := args) (own := M.1.cls) (index := index) (y := N.1) (bytes := N.2.1) (maxL := N.2.2.1) (mc := 0) (ms := 0) (ret := N.2.2.2) (Ts := zall) (ws := zws N) (rm := zrm d) n hts (zin_of w1 (zin_of w2 (zin_of w3 (z_ws N w4)))) rfl rfl rfl hdsc ⟨Nat.le_refl _, by have := hmax; show 8 + (N.2.2.1 + 11) + 48 * d ≤ 48 * (d + 1); omega⟩
  have hstk : ((as.reverse ++ S).map (zc G)) = (as.map (zc G)).reverse ++ S.map (zc G) := by
    rw [List.map_append, List.map_reverse]
  refine z_call (rest := S.map (zc G)) (va_runS (As := as.map (zc G)) ⟨hx, hb, hml, hown, hts⟩ hC cw ⟨zPc_blind G _ h, z_pre hK hSt hS hW⟩ rfl (by rw [List.length_map]; exact hn) hL.1 hstk (lv_room (zc_sum G S hS4)) hd ⟨Nat.le_refl _, Nat.le_refl _⟩) hS ?_
  intro r h' H1 locs1 hq hW1 hS1
  have k2 := kk r h' hq p e s m args below meth c H1 locs1 ls hX hS1 hW1 hL
  rw [List.map_append] at k2
  have e1 : r.toList.map (zc G) = (r.map (zc G)).toList := by cases r <;> rfl
  rw [e1] at k2
  exact k2
theorem zt_cSN {G : ZG} {d : Nat} {M N : ZM} {pc pc' : Nat} {L S : List ZV} {h : ZH} {Q Q1 : Option ZV → ZH → Prop} {as : List ZV} {index n : Nat} {S0 : List ZV} (hd : zD M.2.1 pc pc' (.invokestatic index) 3) (hs : zSN M.1.cls index N n) (hn : as.length = n) (hS4 : S.length ≤ 4) (hS0 : S0 = as.reverse ++ S) (hC : zC G d N (as) h Q1) (kk : ∀ r h', Q1 r h' → zT G (d + 1) M pc' L (r.toList ++ S) h' Q) : zT G (d + 1) M pc L S0 h Q := by
  obtain ⟨hd, rfl⟩ := hd
  intro p e s m args below meth c H locs ls hX hS hW hL
  obtain ⟨hx, hb, hml, hr, hts, hown, hlk, hK, hSt⟩ := id hX
  subst hS0
  obtain ⟨⟨⟨host, w1⟩, w2, w3, w4⟩, hdsc, hmax⟩ := hs
  have cw := va_cnB (R := zrm (d + 1)) (s := s) (args := args) (own := M.1.cls) (host := host) (index := index) (y := N.1) (bytes := N.2.1) (maxL := N.2.2.1) (mc := 0) (ms := 0) (ret := N.2.2.2) (Ts := zall) (ws := zws N) (rm := zrm d) n hts (z_ws N w4) rfl rfl rfl (hK.2.1 _ w1) (hts _ w3) hdsc ⟨Nat.le_refl _, by have := hmax; show 8 + (N.2.2.1 + 11) + 48 * d ≤ 48 * (d + 1); omega⟩
  have hstk : ((as.reverse ++ S).map (zc G)) = (as.map (zc G)).reverse ++ S.map (zc G) := by
    rw [List.map_append, List.map_reverse]
  refine z_call (rest := S.map (zc G)) (va_runSN (As := as.map (zc G)) ⟨hx, hb, hml, hown, hts⟩ hC ⟨cw, hts _ w2, trivial⟩ ⟨zPc_blind G _ h, z_pre hK hSt hS hW⟩ rfl (by rw [List.length_map]; exact hn) hL.1 hstk (lv_room (zc_sum G S hS4)) hd ⟨Nat.le_refl _, Nat.le_refl _⟩) hS ?_
  intro r h' H1 locs1 hq hW1 hS1
  have k2 := kk r h' hq p e s m args below meth c H1 locs1 ls hX hS1 hW1 hL
  rw [List.map_append] at k2
  have e1 : r.toList.map (zc G) = (r.map (zc G)).toList := by cases r <;> rfl
  rw [e1] at k2
  exact k2
theorem zt_cV {G : ZG} {d : Nat} {M N : ZM} {pc pc' : Nat} {L S : List ZV} {h : ZH} {Q Q1 : Option ZV → ZH → Prop} {as : List ZV} {k i ci Nf index n : Nat} {S0 : List ZV} (hd : zD M.2.1 pc pc' (.invokevirtual index) 3) (hs : zVS M.1.cls index ci N n) (hk : zkd k i = .inl (ci, Nf)) (hi : i < zcnt k) (hn : as.length = n) (hS4 : S.length ≤ 4) (hS0 : S0 = as.reverse ++ (zr k i :: S)) (hC : zC G d N (zr k i :: as) h Q1) (kk : ∀ r h', Q1 r h' → zT G (d + 1) M pc' L (r.toList ++ S) h' Q) : zT G (d + 1) M pc L S0 h Q := by
  obtain ⟨hd, rfl⟩ := hd
  intro p e s m args below meth c H locs ls hX hS hW hL
  obtain ⟨hx, hb, hml, hr, hts, hown, hlk, hK, hSt⟩ := id hX
  subst hS0
  obtain ⟨⟨w1, w2, w3, w4, w5⟩, hdsc, hmax, T, Nf', hc⟩ := hs
  have cw := cwV (R := zrm (d + 1)) (s := s) (args := args) (own := M.1.cls) (C := N.1.cls) (index := index) (y := N.1) (bytes := N.2.1) (maxL := N.2.2.1) (mc := 0) (ms := 0) (ret := N.2.2.2) (Ts := zall) (ws := zws N) (rm := zrm d) n hts (zin_of w1 (zin_of w2 (zin_of w3 (zin_of w4 (z_ws N w5))))) rfl rfl rfl ⟨rfl, hdsc⟩ ⟨Nat.le_refl _, by have := hmax; show 8 + (N.2.2.1 + 11) + 48 * d ≤ 48 * (d + 1); omega⟩
  obtain ⟨q0, -, hq0⟩ := zL_at G h hi
  rw [zE_obj G h hk] at hq0
  have hrv := va_recv hK.1 hW hc hq0
  have hstk : ((as.reverse ++ (zr k i :: S)).map (zc G)) = (as.map (zc G)).reverse ++ Value.ref (G.2.2.2 k i) :: S.map (zc G) := by
    rw [List.map_append, List.map_reverse]; rfl
  refine z_call (rest := S.map (zc G)) (va_runV (As := as.map (zc G)) ⟨hx, hb, hml, hown, hts⟩ hC cw ⟨zPc_blind G _ h, hrv, z_pre (as := zr k i :: as) hK hSt hS hW⟩ rfl (by rw [List.length_map]; exact hn) hL.1 hstk (lv_room (zc_sum G S hS4)) hd ⟨Nat.le_refl _, Nat.le_refl _⟩) hS ?_
  intro r h' H1 locs1 hq hW1 hS1
  have k2 := kk r h' hq p e s m args below meth c H1 locs1 ls hX hS1 hW1 hL
  rw [List.map_append] at k2
  have e1 : r.toList.map (zc G) = (r.map (zc G)).toList := by cases r <;> rfl
  rw [e1] at k2
  exact k2
theorem zt_cO {G : ZG} {d : Nat} {M N : ZM} {pc pc' : Nat} {L S : List ZV} {h : ZH} {Q Q1 : Option ZV → ZH → Prop} {as : List ZV} {k i ci Nf index n : Nat} {S0 : List ZV} (hd : zD M.2.1 pc pc' (.invokevirtual index) 3) {X : ZM} (hs : zOS M.1.cls index ci X N n) (hk : zkd k i = .inl (ci, Nf)) (hi : i < zcnt k) (hn : as.length = n) (hS4 : S.length ≤ 4) (hS0 : S0 = as.reverse ++ (zr k i :: S)) (hC : zC G d N (zr k i :: as) h Q1) (kk : ∀ r h', Q1 r h' → zT G (d + 1) M pc' L (r.toList ++ S) h' Q) : zT G (d + 1) M pc L S0 h Q := by
  obtain ⟨hd, rfl⟩ := hd
  intro p e s m args below meth c H locs ls hX hS hW hL
  obtain ⟨hx, hb, hml, hr, hts, hown, hlk, hK, hSt⟩ := id hX
  subst hS0
  obtain ⟨C, T, Nf', hc, ⟨w1, w2, w3, w4, w5, w6, w7, w8⟩, hdsc, hmax⟩ := hs
  have cw := va_cwO (R := zrm (d + 1)) (s := s) (args := args) (own := M.1.cls) (C := C) (owner := X.1.cls) (index := index) (x := X.1) (y := N.1) (bytes := N.2.1) (maxL := N.2.2.1) (mc := 0) (ms := 0) (ret := N.2.2.2) (Ts := zall) (ws := zws N) (rm := zrm d) n hts (zin_of w1 (zin_of w2 (zin_of w3 (zin_of w4 (zin_of w5 (zin_of w6 (z_ws N w7))))))) rfl rfl rfl w8 hdsc ⟨Nat.le_refl _, by have := hmax; show 8 + (N.2.2.1 + 11) + 48 * d ≤ 48 * (d + 1); omega⟩
  obtain ⟨q0, -, hq0⟩ := zL_at G h hi
  rw [zE_obj G h hk] at hq0
  have hrv := va_recv hK.1 hW hc hq0
  have hstk : ((as.reverse ++ (zr k i :: S)).map (zc G)) = (as.map (zc G)).reverse ++ Value.ref (G.2.2.2 k i) :: S.map (zc G) := by
    rw [List.map_append, List.map_reverse]; rfl
  refine z_call (rest := S.map (zc G)) (va_runU (As := as.map (zc G)) ⟨hx, hb, hml, hown, hts⟩ hC cw ⟨zPc_blind G _ h, hrv, z_pre (as := zr k i :: as) hK hSt hS hW⟩ rfl (by rw [List.length_map]; exact hn) hL.1 hstk (lv_room (zc_sum G S hS4)) hd ⟨Nat.le_refl _, Nat.le_refl _⟩) hS ?_
  intro r h' H1 locs1 hq hW1 hS1
  have k2 := kk r h' hq p e s m args below meth c H1 locs1 ls hX hS1 hW1 hL
  rw [List.map_append] at k2
  have e1 : r.toList.map (zc G) = (r.map (zc G)).toList := by cases r <;> rfl
  rw [e1] at k2
  exact k2
theorem zt_cU {G : ZG} {d : Nat} {M N : ZM} {pc pc' : Nat} {L S : List ZV} {h : ZH} {Q Q1 : Option ZV → ZH → Prop} {as : List ZV} {k i ci Nf index n : Nat} {S0 : List ZV} (hd : zD M.2.1 pc pc' (.invokespecial index) 3) (hs : zUS M.1.cls index N n) (hcl : ∃ (C : String) (T : u_T), vwCl[ci]? = some (C, T, Nf)) (hk : zkd k i = .inl (ci, Nf)) (hi : i < zcnt k) (hn : as.length = n) (hS4 : S.length ≤ 4) (hS0 : S0 = as.reverse ++ (zr k i :: S)) (hC : zC G d N (zr k i :: as) h Q1) (kk : ∀ r h', Q1 r h' → zT G (d + 1) M pc' L (r.toList ++ S) h' Q) : zT G (d + 1) M pc L S0 h Q := by
  obtain ⟨hd, rfl⟩ := hd
  intro p e s m args below meth c H locs ls hX hS hW hL
  obtain ⟨hx, hb, hml, hr, hts, hown, hlk, hK, hSt⟩ := id hX
  subst hS0
  obtain ⟨⟨w1, w2, w3, w4, w5, w6⟩, hdsc, hmax⟩ := hs
  obtain ⟨C, T, hc⟩ := hcl
  have cw := va_cwSU (R := zrm (d + 1)) (s := s) (args := args) (own := M.1.cls) (index := index) (y := N.1) (bytes := N.2.1) (maxL := N.2.2.1) (mc := 0) (ms := 0) (ret := N.2.2.2) (Ts := zall) (ws := zws N) (rm := zrm d) n hts (zin_of w1 (zin_of w2 (zin_of w3 (zin_of w4 (zin_of w5 (z_ws N w6)))))) rfl rfl rfl hdsc ⟨Nat.le_refl _, by have := hmax; show 8 + (N.2.2.1 + 11) + 48 * d ≤ 48 * (d + 1); omega⟩
  obtain ⟨q0, -, hq0⟩ := zL_at G h hi
  rw [zE_obj G h hk] at hq0
  have hrv := va_recv hK.1 hW hc hq0
  have hat := (hK.1.1 ci _ hc).2
  have hstk : ((as.reverse ++ (zr k i :: S)).map (zc G)) = (as.map (zc G)).reverse ++ Value.ref (G.2.2.2 k i) :: S.map (zc G) := by
    rw [List.map_append, List.map_reverse]; rfl
  refine z_call (rest := S.map (zc G)) (va_runSU (As := as.map (zc G)) hat ⟨hx, hb, hml, hown, hts⟩ hC cw ⟨zPc_blind G _ h, hrv, z_pre (as := zr k i :: as) hK hSt hS hW⟩ rfl (by rw [List.length_map]; exact hn) hL.1 hstk (lv_room (zc_sum G S hS4)) hd ⟨Nat.le_refl _, Nat.le_refl _⟩) hS ?_
  intro r h' H1 locs1 hq hW1 hS1
  have k2 := kk r h' hq p e s m args below meth c H1 locs1 ls hX hS1 hW1 hL
  rw [List.map_append] at k2
  have e1 : r.toList.map (zc G) = (r.map (zc G)).toList := by cases r <;> rfl
  rw [e1] at k2
  exact k2
end
section
/-! ===== arraycopy, switches ===== -/
def zsR (h : ZH) (k i : Nat) (f : Nat → Int32) : ZH := (fun k' i' j' => if k' = k ∧ i' = i then f j' else h.1 k' i' j', h.2)
theorem zsR_row (h : ZH) (k i : Nat) (f : Nat → Int32) : (zsR h k i f).1 k i = f := by
  funext q
  simp [zsR]
theorem zE_oR (G : ZG) (h : ZH) {k i : Nat} (f : Nat → Int32) (k' i' : Nat) (hn : ¬ (k' = k ∧ i' = i)) : zE G (zsR h k i f) k' i' = zE G h k' i' := by
  unfold zE
  have : (zsR h k i f).1 k' i' = h.1 k' i' := by
    funext j'
    show (if k' = k ∧ i' = i then f j' else h.1 k' i' j') = _
    rw [if_neg hn]
  rw [this]
  rfl
def zAC (own : String) (index : Nat) : Prop := Cond.methodLink own index arraycopyName ∈ zall ∧ Cond.native arraycopyName ∈ zall ∧ Cond.static arraycopyName ∈ zall ∧ Cond.initialized "java/lang/System" ∈ zall
theorem zt_copy {G : ZG} {d : Nat} {M : ZM} {pc pc' : Nat} {L S : List ZV} {h : ZH} {Q : Option ZV → ZH → Prop} {k0 i0 k1 i1 n0 n1 index : Nat} {sp dp n : Int32} (hd : zD M.2.1 pc pc' (.invokestatic index) 3) (ha : zAC M.1.cls index) (hk0 : zkd k0 i0 = .inr (0, n0)) (hk1 : zkd k1 i1 = .inr (0, n1)) (hi0 : i0 < zcnt k0) (hi1 : i1 < zcnt k1) (hS4 : S.length ≤ 2)
    (h1 : ¬ sp < 0) (h2 : ¬ dp < 0) (h3 : ¬ n < 0) (h4 : sp.toNatClampNeg + n.toNatClampNeg ≤ n0) (h5 : dp.toNatClampNeg + n.toNatClampNeg ≤ n1)
    (kk : zT G (d + 1) M pc' L S (zsR h k1 i1 (va_cpy (h.1 k0 i0) (h.1 k1 i1) sp.toNatClampNeg dp.toNatClampNeg n.toNatClampNeg)) Q) : zT G (d + 1) M pc L (zi n :: zi dp :: zr k1 i1 :: zi sp :: zr k0 i0 :: S) h Q := by
  obtain ⟨hd, rfl⟩ := hd
  intro p e s m args below meth c H locs ls hX hS hW hL
  obtain ⟨hx, hb, hml, hr, hts, hown, hlk, hK, hSt⟩ := id hX
  obtain ⟨w1, w2, w3, w4⟩ := ha
  obtain ⟨q0, -, hq0⟩ := zL_at G h hi0
  obtain ⟨q1, hp1, hq1⟩ := zL_at G h hi1
  rw [zE_int G h hk0] at hq0
  rw [zE_int G h hk1] at hq1
  have hset := zL_set G (h := h) (h' := zsR h k1 i1 (va_cpy (h.1 k0 i0) (h.1 k1 i1) sp.toNatClampNeg dp.toNatClampNeg n.toNatClampNeg)) hp1 (e := .inl (G.2.2.1 0, n1, .inl (va_cpy (h.1 k0 i0) (h.1 k1 i1) sp.toNatClampNeg dp.toNatClampNeg n.toNatClampNeg))) (by rw [zE_int G _ hk1, zsR_row]) (fun k' i' hn => zE_oR G h _ k' i' hn)
  refine va_copyi hx hb (hml.trans hL.1.symm) hown (hts _ w1) (hts _ w2) (hts _ w3) (hts _ w4) hK.1 hW (zD_of G h hK.2.2) hS q0 q1 0 0 hq0 hq1 rfl rfl rfl h1 h2 h3 h4 h5 (fun _ _ => rfl) (by show 1 ≤ d + 1; omega) ?_ hd ?_
  · have h6 := zc_sum G S (by omega)
    have h7 : nativeFrameWords "java/lang/System" "arraycopy" 5 ≤ 29 := by decide +kernel
    show _ ≤ 48 * (d + 1)
    omega
  · intro H1 locs1 g1 _ g3
    rw [hset] at g1
    exact kk p e s m args below meth c H1 locs1 ls hX g3 g1 hL
theorem zt_lookup {G : ZG} {d : Nat} {M : ZM} {pc tgt len : Nat} {L S : List ZV} {h : ZH} {Q : Option ZV → ZH → Prop} {dflt off : Int} {ps : Array (Int × Int)} {x : Int32} (hd : decode M.2.1 pc = .ok (.lookupswitch dflt ps, len)) (hp : (ps.toList.zip (ps.toList.drop 1)).all (fun (a, next) => a.1 < next.1) = true) (ho : Op.lookupswitch.offset ps.toList dflt x.toInt = off) (ht : (pc : Int) + off = (tgt : Int))
    (kk : zT G d M tgt L S h Q) : zT G d M pc L (zi x :: S) h Q := by
  intro p e s m args below meth c H locs ls hX hS hW hL
  obtain ⟨hx, hb, hml, hr, hts, hown, hlk, hK, hSt⟩ := id hX
  exact lv_lookup hx hb hd hp ho ht (kk p e s m args below meth c H locs ls hX hS hW hL)
theorem zt_tabOut {G : ZG} {d : Nat} {M : ZM} {pc tgt len : Nat} {L S : List ZV} {h : ZH} {Q : Option ZV → ZH → Prop} {dflt lo hi : Int} {offs : Array Int} {x : Int32} (hd : decode M.2.1 pc = .ok (.tableswitch dflt lo hi offs, len)) (hh : x.toInt < lo ∨ hi < x.toInt) (ht : (pc : Int) + dflt = (tgt : Int))
    (kk : zT G d M tgt L S h Q) : zT G d M pc L (zi x :: S) h Q := by
  intro p e s m args below meth c H locs ls hX hS hW hL
  obtain ⟨hx, hb, hml, hr, hts, hown, hlk, hK, hSt⟩ := id hX
  exact lv_tableOut hx hb hd hh ht (kk p e s m args below meth c H locs ls hX hS hW hL)
theorem zt_tabIn {G : ZG} {d : Nat} {M : ZM} {pc tgt len : Nat} {L S : List ZV} {h : ZH} {Q : Option ZV → ZH → Prop} {dflt lo hi off : Int} {offs : Array Int} {x : Int32} (hd : decode M.2.1 pc = .ok (.tableswitch dflt lo hi offs, len)) (h1 : ¬ x.toInt < lo) (h2 : ¬ hi < x.toInt) (ho : offs[(x.toInt - lo).toNat]? = some off) (ht : (pc : Int) + off = (tgt : Int))
    (kk : zT G d M tgt L S h Q) : zT G d M pc L (zi x :: S) h Q := by
  intro p e s m args below meth c H locs ls hX hS hW hL
  obtain ⟨hx, hb, hml, hr, hts, hown, hlk, hK, hSt⟩ := id hX
  exact lv_tableIn hx hb hd h1 h2 ho ht (kk p e s m args below meth c H locs ls hX hS hW hL)
end
section
/-! ===== more rules: booleans, names for values, calls of the stones ===== -/
def zb (c : Prop) [Decidable c] : Int32 := if c then 1 else 0
theorem zb_01 (c : Prop) [Decidable c] : zb c = 0 ∨ zb c = 1 := by
  unfold zb
  by_cases h : c
  · rw [if_pos h]; exact Or.inr rfl
  · rw [if_neg h]; exact Or.inl rfl
theorem zb_eq0 {c : Prop} [Decidable c] : zb c = 0 ↔ ¬ c := by
  unfold zb
  by_cases h : c
  · rw [if_pos h]; simp [h]
  · rw [if_neg h]; simp [h]
theorem zb_eq1 {c : Prop} [Decidable c] : zb c = 1 ↔ c := by
  unfold zb
  by_cases h : c
  · rw [if_pos h]; simp [h]
  · rw [if_neg h]; simp [h]
theorem zb_t {c : Prop} [Decidable c] (h : c) : zb c = 1 := zb_eq1.mpr h
theorem zb_f {c : Prop} [Decidable c] (h : ¬ c) : zb c = 0 := zb_eq0.mpr h
theorem zb_congr {a b : Prop} [Decidable a] [Decidable b] (h : a ↔ b) : zb a = zb b := by
  by_cases q : a
  · rw [zb_t q, zb_t (h.mp q)]
  · rw [zb_f q, zb_f (fun z => q (h.mpr z))]
theorem zt_ifb_eq {G : ZG} {d : Nat} {M : ZM} {pc pc' tgt : Nat} {L S : List ZV} {h : ZH} {Q : Option ZV → ZH → Prop} {P : Prop} [Decidable P] {off : Int} (hd : zB M.2.1 pc pc' tgt (.ifCond .eq off) off) (kt : ¬ P → zT G d M tgt L S h Q) (kf : P → zT G d M pc' L S h Q) : zT G d M pc L (zi (zb P) :: S) h Q :=
  zt_if_eq hd (fun c => kt (zb_eq0.mp c)) (fun c => kf (Classical.byContradiction fun q => c (zb_eq0.mpr q)))
theorem zt_ifb_ne {G : ZG} {d : Nat} {M : ZM} {pc pc' tgt : Nat} {L S : List ZV} {h : ZH} {Q : Option ZV → ZH → Prop} {P : Prop} [Decidable P] {off : Int} (hd : zB M.2.1 pc pc' tgt (.ifCond .ne off) off) (kt : P → zT G d M tgt L S h Q) (kf : ¬ P → zT G d M pc' L S h Q) : zT G d M pc L (zi (zb P) :: S) h Q :=
  zt_if_ne hd (fun c => kt (Classical.byContradiction fun q => c (zb_eq0.mpr q))) (fun c => kf (zb_eq0.mp c))
theorem zt_topi {G : ZG} {d : Nat} {M : ZM} {pc : Nat} {L S : List ZV} {h : ZH} {Q : Option ZV → ZH → Prop} {x : Int32} (k : ∀ y, y = x → zT G d M pc L (zi y :: S) h Q) : zT G d M pc L (zi x :: S) h Q := k x rfl
theorem zt_topl {G : ZG} {d : Nat} {M : ZM} {pc : Nat} {L S : List ZV} {h : ZH} {Q : Option ZV → ZH → Prop} {x : Int64} (k : ∀ y, y = x → zT G d M pc L (zl y :: S) h Q) : zT G d M pc L (zl x :: S) h Q := k x rfl
theorem zt_heap {G : ZG} {d : Nat} {M : ZM} {pc : Nat} {L S : List ZV} {h : ZH} {Q : Option ZV → ZH → Prop} (k : ∀ h', h' = h → zT G d M pc L S h' Q) : zT G d M pc L S h Q := k h rfl
theorem zvp_dec {i : Int32} {n : Nat} (h : (decide (i < 0) || decide (n ≤ i.toNatClampNeg)) = false) : vp_in i n := by
  unfold vp_in
  intro q
  rw [Bool.or_eq_false_iff, decide_eq_false_iff_not, decide_eq_false_iff_not] at h
  rcases q with q | q
  · exact h.1 q
  · exact h.2 q
theorem zvp_lt {i : Int32} {n : Nat} (h : vp_in i n) : i.toNatClampNeg < n := Nat.not_le.mp fun q => h (Or.inr q)
theorem zok3 {i : Int32} (h : vp_in i 8) : i.toNatClampNeg < zcnt 3 := zvp_lt h
theorem zok4 {i : Int32} (h : vp_in i 8) : i.toNatClampNeg < zcnt 4 := zvp_lt h
theorem zcl4 {i : Nat} (h : i < zcnt 4) : ∃ (C : String) (T : u_T), vwCl[zsc i]? = some (C, T, 0) := by
  rcases (show i = 0 ∨ i = 1 ∨ i = 2 ∨ i = 3 ∨ i = 4 ∨ i = 5 ∨ i = 6 ∨ i = 7 by have : i < 8 := h; omega) with rfl | rfl | rfl | rfl | rfl | rfl | rfl | rfl
  all_goals exact ⟨_, _, rfl⟩
/-- a call by a site that names a stone's method X, on the stone (4, i): some method of its class runs -/
def zCX (G : ZG) (d : Nat) (own : String) (index : Nat) (X : ZM) (i : Nat) (as : List ZV) (n : Nat) (h : ZH) (Q : Option ZV → ZH → Prop) : Prop := ∃ N : ZM, zOS own index (zsc i) X N n ∧ zC G d N (zr 4 i :: as) h Q
theorem zt_cX {G : ZG} {d : Nat} {M X : ZM} {pc pc' : Nat} {L S : List ZV} {h : ZH} {Q Q1 : Option ZV → ZH → Prop} {as : List ZV} {i index n : Nat} {S0 : List ZV} (hd : zD M.2.1 pc pc' (.invokevirtual index) 3) (hC : zCX G d M.1.cls index X i as n h Q1) (hi : i < zcnt 4) (hn : as.length = n) (hS4 : S.length ≤ 4) (hS0 : S0 = as.reverse ++ (zr 4 i :: S)) (kk : ∀ r h', Q1 r h' → zT G (d + 1) M pc' L (r.toList ++ S) h' Q) : zT G (d + 1) M pc L S0 h Q := by
  obtain ⟨N, h1, h2⟩ := hC
  exact zt_cO hd h1 rfl hi hn hS4 hS0 h2 kk
theorem zCX_mono {G : ZG} {d : Nat} {own : String} {index : Nat} {X : ZM} {i : Nat} {as : List ZV} {n : Nat} {h : ZH} {Q Q' : Option ZV → ZH → Prop} (k : zCX G d own index X i as n h Q) (hq : ∀ r h', Q r h' → Q' r h') : zCX G d own index X i as n h Q' := by
  obtain ⟨N, h1, h2⟩ := k
  exact ⟨N, h1, zC_mono h2 hq⟩
theorem zall_list {ws : List Cond} (ps : List Nat) (hp : ws = ps.filterMap (fun i => tables_1[i]?)) (hg : ws.all goodWord = true) : ∀ w ∈ ws, w ∈ zall := by
  intro w hw
  have hgw := List.all_eq_true.mp hg w hw
  rw [hp] at hw
  obtain ⟨i, -, hi⟩ := List.mem_filterMap.mp hw
  exact zall_of (List.mem_append_right _ (List.mem_of_getElem? hi)) hgw
theorem wmk {w : Cond} (i : Nat) (h : tables_1[i]? = some w) (hg : goodWord w = true) : w ∈ zall := zall_of (List.mem_append_right _ (List.mem_of_getElem? h)) hg
theorem wnk {w : Cond} (i : Nat) (h : tables_1[i]? = some w) (hg : znwb w = true) : w ∈ znw := znw_of (List.mem_of_getElem? h) hg
theorem wpk {w : Cond} (i : Nat) (h : (k2_sels lw_privs)[i]? = some w) (hg : goodWord w = true) : w ∈ zall := zall_of (List.mem_append_left _ (List.mem_of_getElem? h)) hg
end
section
/-! ===== method infos, words, sites (by program) ===== -/
abbrev mX0_weight : ZM := (yX0_weight, cX0_weight, 2, some .int)
abbrev mX0_bears : ZM := (yX0_bears, cX0_bears, 2, some .int)
abbrev mX0_price : ZM := (yX0_price, cX0_price, 2, some .int)
abbrev mX0_manner : ZM := (yX0_manner, cX0_manner, 1, some .int)
abbrev mX1_weight : ZM := (yX1_weight, cX1_weight, 2, some .int)
abbrev mX1_bears : ZM := (yX1_bears, cX1_bears, 2, some .int)
abbrev mX1_price : ZM := (yX1_price, cX1_price, 2, some .int)
abbrev mX1_manner : ZM := (yX1_manner, cX1_manner, 1, some .int)
abbrev mX2_weight : ZM := (yX2_weight, cX2_weight, 2, some .int)
abbrev mX2_bears : ZM := (yX2_bears, cX2_bears, 2, some .int)
abbrev mX2_price : ZM := (yX2_price, cX2_price, 2, some .int)
abbrev mX3_leftOf : ZM := (yX3_leftOf, cX3_leftOf, 3, some .int)
abbrev mX3_fallenWithout : ZM := (yX3_fallenWithout, cX3_fallenWithout, 3, some .int)
abbrev mX3_countWithout : ZM := (yX3_countWithout, cX3_countWithout, 2, some .int)
abbrev mX3_isSafeIn : ZM := (yX3_isSafeIn, cX3_isSafeIn, 4, some .boolean)
abbrev mX3_cornerstones : ZM := (yX3_cornerstones, cX3_cornerstones, 4, some .int)
abbrev mX3_safeOnes : ZM := (yX3_safeOnes, cX3_safeOnes, 3, some .int)
abbrev mX3_worstPlace : ZM := (yX3_worstPlace, cX3_worstPlace, 4, some .int)
abbrev mX3_pairsThatFell : ZM := (yX3_pairsThatFell, cX3_pairsThatFell, 8, some .int)
abbrev mX3_nextChoice : ZM := (yX3_nextChoice, cX3_nextChoice, 4, some .int)
abbrev mX3_fewestToFell : ZM := (yX3_fewestToFell, cX3_fewestToFell, 6, some .int)
abbrev mX3_fewestToLevel : ZM := (yX3_fewestToLevel, cX3_fewestToLevel, 4, some .int)
abbrev mX3_longestRun : ZM := (yX3_longestRun, cX3_longestRun, 1, some .int)
abbrev mX3_firstOfLongest : ZM := (yX3_firstOfLongest, cX3_firstOfLongest, 3, some .int)
abbrev mX3_runFrom : ZM := (yX3_runFrom, cX3_runFrom, 5, some .int)
abbrev mX3_winningPlace : ZM := (yX3_winningPlace, cX3_winningPlace, 1, some .int)
abbrev mX3_winningPlaceIn : ZM := (yX3_winningPlaceIn, cX3_winningPlaceIn, 5, some .int)
abbrev mX3_bombedWaysLeaving : ZM := (yX3_bombedWaysLeaving, cX3_bombedWaysLeaving, 6, some .long)
abbrev mX3_suspectsBy : ZM := (yX3_suspectsBy, cX3_suspectsBy, 4, some .int)
abbrev mX3_soundsAs : ZM := (yX3_soundsAs, cX3_soundsAs, 4, some .boolean)
abbrev mX3_noteIn : ZM := (yX3_noteIn, cX3_noteIn, 3, some .int)
abbrev mX3_bestTap : ZM := (yX3_bestTap, cX3_bestTap, 4, some .int)
abbrev mX3_hearAll : ZM := (yX3_hearAll, cX3_hearAll, 5, none)
abbrev mX3_fewestProps : ZM := (yX3_fewestProps, cX3_fewestProps, 5, some .int)
abbrev mX3_areSafe : ZM := (yX3_areSafe, cX3_areSafe, 5, some .boolean)
abbrev mX3_waysTold : ZM := (yX3_waysTold, cX3_waysTold, 2, some .int)
abbrev mX3_firstOfWays : ZM := (yX3_firstOfWays, cX3_firstOfWays, 3, some .int)
abbrev mX3_waysFrom : ZM := (yX3_waysFrom, cX3_waysFrom, 6, some .int)
abbrev mX3_isTold : ZM := (yX3_isTold, cX3_isTold, 4, some .boolean)
abbrev mX3_firstForged : ZM := (yX3_firstForged, cX3_firstForged, 3, some .int)
abbrev mX3_believedFrom : ZM := (yX3_believedFrom, cX3_believedFrom, 6, some .int)
abbrev mX3_firstBadTaking : ZM := (yX3_firstBadTaking, cX3_firstBadTaking, 4, some .int)
abbrev mX3_sumOfRaids : ZM := (yX3_sumOfRaids, cX3_sumOfRaids, 10, some .int)
abbrev mX3_drawn : ZM := (yX3_drawn, cX3_drawn, 1, some .int)
abbrev mX3_placeOf : ZM := (yX3_placeOf, cX3_placeOf, 1, some .int)
abbrev mX3_fewestTakings : ZM := (yX3_fewestTakings, cX3_fewestTakings, 5, some .int)
abbrev mX3_spreadTakings : ZM := (yX3_spreadTakings, cX3_spreadTakings, 4, none)
abbrev mX3_twinPairs : ZM := (yX3_twinPairs, cX3_twinPairs, 4, some .int)
abbrev mX3_areTwins : ZM := (yX3_areTwins, cX3_areTwins, 4, some .boolean)
abbrev mX3_supportsOf : ZM := (yX3_supportsOf, cX3_supportsOf, 5, some .int)
abbrev mX4_holds : ZM := (yX4_holds, cX4_holds, 2, some .boolean)
abbrev mX4_has : ZM := (yX4_has, cX4_has, 2, some .boolean)
abbrev mX4_becomeAs : ZM := (yX4_becomeAs, cX4_becomeAs, 2, none)
abbrev mX4_lay : ZM := (yX4_lay, cX4_lay, 5, some .int)
abbrev mX4_takeOut : ZM := (yX4_takeOut, cX4_takeOut, 2, some .int)
abbrev mX4_turnProp : ZM := (yX4_turnProp, cX4_turnProp, 2, some .int)
abbrev mX4_settle : ZM := (yX4_settle, cX4_settle, 3, some .int)
abbrev mX4_leftOf : ZM := (yX4_leftOf, cX4_leftOf, 5, some .int)
abbrev mX4_stepsFrom : ZM := (yX4_stepsFrom, cX4_stepsFrom, 5, some .int)
abbrev mX4_looseIn : ZM := (yX4_looseIn, cX4_looseIn, 7, some .int)
abbrev mX4_restsIn : ZM := (yX4_restsIn, cX4_restsIn, 7, some .boolean)
abbrev mX4_weighAll : ZM := (yX4_weighAll, cX4_weighAll, 1, none)
abbrev mX4_weighIn : ZM := (yX4_weighIn, cX4_weighIn, 2, none)
abbrev mX4_noteAt : ZM := (yX4_noteAt, cX4_noteAt, 2, some .int)
abbrev mX4_heaviestLaden : ZM := (yX4_heaviestLaden, cX4_heaviestLaden, 4, some .int)
abbrev mX4_allLoads : ZM := (yX4_allLoads, cX4_allLoads, 3, some .int)
abbrev mX4_weightOf : ZM := (yX4_weightOf, cX4_weightOf, 4, some .int)
abbrev mX4_columnWeight : ZM := (yX4_columnWeight, cX4_columnWeight, 3, some .int)
abbrev mX4_leftOverRight : ZM := (yX4_leftOverRight, cX4_leftOverRight, 1, some .int)
abbrev mX4_heaviestColumn : ZM := (yX4_heaviestColumn, cX4_heaviestColumn, 3, some .int)
abbrev mX4_highestRow : ZM := (yX4_highestRow, cX4_highestRow, 2, some .int)
abbrev mX4_inHighestRow : ZM := (yX4_inHighestRow, cX4_inHighestRow, 2, some .int)
abbrev mX5_weight : ZM := (yX5_weight, cX5_weight, 2, some .int)
abbrev mX5_bears : ZM := (yX5_bears, cX5_bears, 2, some .int)
abbrev mX5_price : ZM := (yX5_price, cX5_price, 2, some .int)
abbrev mX6_weight : ZM := (yX6_weight, cX6_weight, 2, some .int)
abbrev mX6_bears : ZM := (yX6_bears, cX6_bears, 2, some .int)
abbrev mX7_weight : ZM := (yX7_weight, cX7_weight, 2, some .int)
abbrev mX7_bears : ZM := (yX7_bears, cX7_bears, 2, some .int)
abbrev mX7_price : ZM := (yX7_price, cX7_price, 2, some .int)
abbrev mX7_manner : ZM := (yX7_manner, cX7_manner, 1, some .int)
abbrev mX8_clear : ZM := (yX8_clear, cX8_clear, 1, none)
abbrev mX8_holdKind : ZM := (yX8_holdKind, cX8_holdKind, 3, none)
abbrev mX8_holdRow : ZM := (yX8_holdRow, cX8_holdRow, 3, none)
abbrev mX8_isEmpty : ZM := (yX8_isEmpty, cX8_isEmpty, 1, some .boolean)
abbrev mX8_isRow : ZM := (yX8_isRow, cX8_isRow, 1, some .boolean)
abbrev mX8_hasPlace : ZM := (yX8_hasPlace, cX8_hasPlace, 2, some .boolean)
abbrev mX8_hasSpan : ZM := (yX8_hasSpan, cX8_hasSpan, 3, some .boolean)
abbrev mX8_at : ZM := (yX8_at, cX8_at, 2, some .int)
abbrev mX8_write : ZM := (yX8_write, cX8_write, 3, none)
abbrev mX9_bears : ZM := (yX9_bears, cX9_bears, 2, some .int)
abbrev mX9_price : ZM := (yX9_price, cX9_price, 2, some .int)
abbrev mX10_weight : ZM := (yX10_weight, cX10_weight, 2, some .int)
abbrev mX10_bears : ZM := (yX10_bears, cX10_bears, 2, some .int)
abbrev mX10_price : ZM := (yX10_price, cX10_price, 2, some .int)
abbrev mX10_manner : ZM := (yX10_manner, cX10_manner, 1, some .int)
abbrev mX11_hall : ZM := (yX11_hall, cX11_hall, 5, some .int)
abbrev mX11_stone : ZM := (yX11_stone, cX11_stone, 3, some .int)
abbrev mX11_lays : ZM := (yX11_lays, cX11_lays, 5, some .int)
abbrev mX11_takes : ZM := (yX11_takes, cX11_takes, 3, some .int)
abbrev mX11_props : ZM := (yX11_props, cX11_props, 2, some .int)
abbrev mX11_falls : ZM := (yX11_falls, cX11_falls, 5, some .int)
abbrev mX11_corners : ZM := (yX11_corners, cX11_corners, 2, some .int)
abbrev mX11_worst : ZM := (yX11_worst, cX11_worst, 1, some .int)
abbrev mX11_together : ZM := (yX11_together, cX11_together, 3, some .int)
abbrev mX11_cut : ZM := (yX11_cut, cX11_cut, 3, some .int)
abbrev mX11_toGround : ZM := (yX11_toGround, cX11_toGround, 1, some .int)
abbrev mX11_longest : ZM := (yX11_longest, cX11_longest, 2, some .int)
abbrev mX11_game : ZM := (yX11_game, cX11_game, 3, some .int)
abbrev mX11_bombs : ZM := (yX11_bombs, cX11_bombs, 11, some .long)
abbrev mX11_mostLoad : ZM := (yX11_mostLoad, cX11_mostLoad, 3, some .int)
abbrev mX11_which : ZM := (yX11_which, cX11_which, 5, some .int)
abbrev mX11_tapNext : ZM := (yX11_tapNext, cX11_tapNext, 3, some .int)
abbrev mX11_propsWanted : ZM := (yX11_propsWanted, cX11_propsWanted, 1, some .int)
abbrev mX11_more : ZM := (yX11_more, cX11_more, 3, some .int)
abbrev mX11_lean : ZM := (yX11_lean, cX11_lean, 2, some .int)
abbrev mX11_tins : ZM := (yX11_tins, cX11_tins, 4, some .int)
abbrev mX11_forged : ZM := (yX11_forged, cX11_forged, 3, some .int)
abbrev mX11_judge : ZM := (yX11_judge, cX11_judge, 5, some .int)
abbrev mX11_raids : ZM := (yX11_raids, cX11_raids, 4, some .int)
abbrev mX11_felled : ZM := (yX11_felled, cX11_felled, 2, some .int)
abbrev mX11_twins : ZM := (yX11_twins, cX11_twins, 1, some .int)
abbrev mX11_highest : ZM := (yX11_highest, cX11_highest, 2, some .int)
abbrev mX11_depends : ZM := (yX11_depends, cX11_depends, 3, some .int)
abbrev mX11_image : ZM := (yX11_image, cX11_image, 1, some .int)
abbrev mX11_restore : ZM := (yX11_restore, cX11_restore, 1, some .int)
abbrev mX11_count : ZM := (yX11_count, cX11_count, 2, some .int)
abbrev mX11_keep : ZM := (yX11_keep, cX11_keep, 5, some .int)
abbrev mX11_row : ZM := (yX11_row, cX11_row, 4, some .int)
abbrev mX11_put : ZM := (yX11_put, cX11_put, 5, some .int)
abbrev mX11_copy : ZM := (yX11_copy, cX11_copy, 8, some .int)
abbrev mX11_cost : ZM := (yX11_cost, cX11_cost, 4, some .int)
abbrev mX11_isPlace : ZM := (yX11_isPlace, cX11_isPlace, 1, some .boolean)
abbrev mX11_isShelf : ZM := (yX11_isShelf, cX11_isShelf, 1, some .boolean)
abbrev mX11_isEither : ZM := (yX11_isEither, cX11_isEither, 1, some .boolean)
abbrev mX11_isSomeStones : ZM := (yX11_isSomeStones, cX11_isSomeStones, 1, some .boolean)
abbrev mX11_stoneRefused : ZM := (yX11_stoneRefused, cX11_stoneRefused, 2, some .int)
abbrev mX11_kindRefused : ZM := (yX11_kindRefused, cX11_kindRefused, 2, some .int)
abbrev mX11_rowRefused : ZM := (yX11_rowRefused, cX11_rowRefused, 2, some .int)
abbrev mX11_notesRefused : ZM := (yX11_notesRefused, cX11_notesRefused, 6, some .int)
abbrev mX11_tinsRefused : ZM := (yX11_tinsRefused, cX11_tinsRefused, 3, some .int)
abbrev mX11_firstBadByte : ZM := (yX11_firstBadByte, cX11_firstBadByte, 5, some .int)
abbrev mX11_digitsBehind : ZM := (yX11_digitsBehind, cX11_digitsBehind, 1, some .int)
abbrev mX11_doStatements : ZM := (yX11_doStatements, cX11_doStatements, 5, some .int)
abbrev mX11_doStatement : ZM := (yX11_doStatement, cX11_doStatement, 5, some .boolean)
abbrev mX11_digitAt : ZM := (yX11_digitAt, cX11_digitAt, 2, some .int)
abbrev mX11_powerOf : ZM := (yX11_powerOf, cX11_powerOf, 5, some .long)
abbrev mX11_commonDivisor : ZM := (yX11_commonDivisor, cX11_commonDivisor, 11, some .long)
abbrev mX12_isIn : ZM := (yX12_isIn, cX12_isIn, 3, some .boolean)
abbrev mX12_most : ZM := (yX12_most, cX12_most, 2, some .int)
abbrev mX12_copies : ZM := (yX12_copies, cX12_copies, 3, none)
abbrev mX12_has : ZM := (yX12_has, cX12_has, 2, some .boolean)
abbrev mX12_bits : ZM := (yX12_bits, cX12_bits, 3, some .int)
abbrev mX12_isPlace : ZM := (yX12_isPlace, cX12_isPlace, 1, some .boolean)
abbrev mX12_isThere : ZM := (yX12_isThere, cX12_isThere, 2, some .boolean)
abbrev mX12_kind : ZM := (yX12_kind, cX12_kind, 2, some .int)
abbrev mX12_figure : ZM := (yX12_figure, cX12_figure, 2, some .int)
abbrev mX12_weight : ZM := (yX12_weight, cX12_weight, 3, some .int)
abbrev mX12_bears : ZM := (yX12_bears, cX12_bears, 2, some .int)
abbrev mX12_isLight : ZM := (yX12_isLight, cX12_isLight, 2, some .boolean)
abbrev mX12_isArch : ZM := (yX12_isArch, cX12_isArch, 2, some .boolean)
abbrev mX12_isAt : ZM := (yX12_isAt, cX12_isAt, 3, some .boolean)
abbrev mX12_isLeft : ZM := (yX12_isLeft, cX12_isLeft, 3, some .boolean)
abbrev mX12_isRight : ZM := (yX12_isRight, cX12_isRight, 3, some .boolean)
abbrev mX12_isClinging : ZM := (yX12_isClinging, cX12_isClinging, 6, some .boolean)
abbrev mX12_isHeld : ZM := (yX12_isHeld, cX12_isHeld, 3, some .boolean)
abbrev mX12_loads : ZM := (yX12_loads, cX12_loads, 5, none)
abbrev mX12_settled : ZM := (yX12_settled, cX12_settled, 5, some .int)
abbrev mX12_noteOf : ZM := (yX12_noteOf, cX12_noteOf, 2, some .int)
abbrev mX12_leftWithout : ZM := (yX12_leftWithout, cX12_leftWithout, 3, some .int)
abbrev mX12_fallsOf : ZM := (yX12_fallsOf, cX12_fallsOf, 3, some .int)
abbrev mX12_here : ZM := (yX12_here, cX12_here, 1, some .int)
abbrev mX12_readsNumber : ZM := (yX12_readsNumber, cX12_readsNumber, 4, some .boolean)
abbrev mX12_readsStatement : ZM := (yX12_readsStatement, cX12_readsStatement, 3, some .boolean)
abbrev mX12_laysAt : ZM := (yX12_laysAt, cX12_laysAt, 4, none)
abbrev mX12_isDone : ZM := (yX12_isDone, cX12_isDone, 3, some .boolean)
abbrev mX12_hall : ZM := (yX12_hall, cX12_hall, 8, some .int)
abbrev mX12_wrongStone : ZM := (yX12_wrongStone, cX12_wrongStone, 2, some .int)
abbrev mX12_stone : ZM := (yX12_stone, cX12_stone, 4, some .int)
abbrev mX12_lays : ZM := (yX12_lays, cX12_lays, 5, some .int)
abbrev mX12_takes : ZM := (yX12_takes, cX12_takes, 4, some .int)
abbrev mX12_props : ZM := (yX12_props, cX12_props, 3, some .int)
abbrev mX12_falls : ZM := (yX12_falls, cX12_falls, 6, some .int)
abbrev mX12_safeOf : ZM := (yX12_safeOf, cX12_safeOf, 4, some .int)
abbrev mX12_corners : ZM := (yX12_corners, cX12_corners, 4, some .int)
abbrev mX12_worst : ZM := (yX12_worst, cX12_worst, 4, some .int)
abbrev mX12_together : ZM := (yX12_together, cX12_together, 8, some .int)
abbrev mX12_cut : ZM := (yX12_cut, cX12_cut, 5, some .int)
abbrev mX12_toGround : ZM := (yX12_toGround, cX12_toGround, 3, some .int)
abbrev mX12_finds : ZM := (yX12_finds, cX12_finds, 5, none)
abbrev mX12_firstTo : ZM := (yX12_firstTo, cX12_firstTo, 5, some .int)
abbrev mX12_longest : ZM := (yX12_longest, cX12_longest, 2, some .int)
abbrev mX12_game : ZM := (yX12_game, cX12_game, 2, some .int)
abbrev mX12_gcd : ZM := (yX12_gcd, cX12_gcd, 10, some .long)
abbrev mX12_partOf : ZM := (yX12_partOf, cX12_partOf, 5, some .long)
abbrev mX12_bombs : ZM := (yX12_bombs, cX12_bombs, 12, some .long)
abbrev mX12_mostLoad : ZM := (yX12_mostLoad, cX12_mostLoad, 4, some .int)
abbrev mX12_wrongPairs : ZM := (yX12_wrongPairs, cX12_wrongPairs, 4, some .int)
abbrev mX12_noteWithout : ZM := (yX12_noteWithout, cX12_noteWithout, 4, some .int)
abbrev mX12_whichOf : ZM := (yX12_whichOf, cX12_whichOf, 6, some .int)
abbrev mX12_which : ZM := (yX12_which, cX12_which, 4, some .int)
abbrev mX12_kindsBy : ZM := (yX12_kindsBy, cX12_kindsBy, 7, some .int)
abbrev mX12_tapNext : ZM := (yX12_tapNext, cX12_tapNext, 8, some .int)
abbrev mX12_propsWanted : ZM := (yX12_propsWanted, cX12_propsWanted, 4, some .int)
abbrev mX12_more : ZM := (yX12_more, cX12_more, 4, some .int)
abbrev mX12_columnOf : ZM := (yX12_columnOf, cX12_columnOf, 4, some .int)
abbrev mX12_lean : ZM := (yX12_lean, cX12_lean, 4, some .int)
abbrev mX12_takesAll : ZM := (yX12_takesAll, cX12_takesAll, 7, none)
abbrev mX12_wrongTins : ZM := (yX12_wrongTins, cX12_wrongTins, 3, some .int)
abbrev mX12_goesThrough : ZM := (yX12_goesThrough, cX12_goesThrough, 2, none)
abbrev mX12_tins : ZM := (yX12_tins, cX12_tins, 4, some .int)
abbrev mX12_forged : ZM := (yX12_forged, cX12_forged, 3, some .int)
abbrev mX12_judge : ZM := (yX12_judge, cX12_judge, 6, some .int)
abbrev mX12_drawn : ZM := (yX12_drawn, cX12_drawn, 2, some .int)
abbrev mX12_raids : ZM := (yX12_raids, cX12_raids, 10, some .int)
abbrev mX12_felled : ZM := (yX12_felled, cX12_felled, 7, some .int)
abbrev mX12_twins : ZM := (yX12_twins, cX12_twins, 5, some .int)
abbrev mX12_highest : ZM := (yX12_highest, cX12_highest, 4, some .int)
abbrev mX12_depends : ZM := (yX12_depends, cX12_depends, 5, some .int)
abbrev mX12_image : ZM := (yX12_image, cX12_image, 1, some .int)
abbrev mX12_restore : ZM := (yX12_restore, cX12_restore, 1, some .int)
abbrev mX12_count : ZM := (yX12_count, cX12_count, 4, some .int)
abbrev mX12_thrown : ZM := (yX12_thrown, cX12_thrown, 1, some .int)
abbrev mX12_isShelf : ZM := (yX12_isShelf, cX12_isShelf, 1, some .boolean)
abbrev mX12_wrongRow : ZM := (yX12_wrongRow, cX12_wrongRow, 3, some .int)
abbrev mX12_wrongKept : ZM := (yX12_wrongKept, cX12_wrongKept, 2, some .int)
abbrev mX12_keep : ZM := (yX12_keep, cX12_keep, 5, some .int)
abbrev mX12_row : ZM := (yX12_row, cX12_row, 5, some .int)
abbrev mX12_put : ZM := (yX12_put, cX12_put, 5, some .int)
abbrev mX12_element : ZM := (yX12_element, cX12_element, 3, some .long)
abbrev mX12_copy : ZM := (yX12_copy, cX12_copy, 8, some .int)
abbrev mX12_costBy : ZM := (yX12_costBy, cX12_costBy, 2, some .int)
abbrev mX12_cost : ZM := (yX12_cost, cX12_cost, 3, some .int)
abbrev mX12_toss : ZM := (yX12_toss, cX12_toss, 5, some .int)
abbrev mJ6_numberOfTrailingZeros_0f7a4 : ZM := (yJ6_numberOfTrailingZeros_0f7a4, cJ6_numberOfTrailingZeros_0f7a4, 2, some .int)
abbrev mJ6_bitCount_0f7a4 : ZM := (yJ6_bitCount_0f7a4, cJ6_bitCount_0f7a4, 1, some .int)
abbrev mJ13_bitCount_95d88 : ZM := (yJ13_bitCount_95d88, cJ13_bitCount_95d88, 2, some .int)
abbrev mJ9_max_7cf53 : ZM := (yJ9_max_7cf53, cJ9_max_7cf53, 2, some .int)
abbrev mJ9_min_7cf53 : ZM := (yJ9_min_7cf53, cJ9_min_7cf53, 2, some .int)
abbrev mJ7_fill_d0a16 : ZM := (yJ7_fill_d0a16, cJ7_fill_d0a16, 5, none)
abbrev mJ7_fill_53178 : ZM := (yJ7_fill_53178, cJ7_fill_53178, 4, none)
abbrev mX0_init : ZM := (yX0_init, cX0_init, 1, none)
abbrev mX1_init : ZM := (yX1_init, cX1_init, 1, none)
abbrev mX2_init : ZM := (yX2_init, cX2_init, 1, none)
abbrev mX2_fail : ZM := (yX2_fail, cX2_fail, 2, none)
abbrev mX5_init : ZM := (yX5_init, cX5_init, 1, none)
abbrev mX6_init : ZM := (yX6_init, cX6_init, 1, none)
abbrev mX7_init : ZM := (yX7_init, cX7_init, 1, none)
abbrev mX7_fail : ZM := (yX7_fail, cX7_fail, 2, none)
abbrev mX9_init : ZM := (yX9_init, cX9_init, 1, none)
abbrev mX9_fail : ZM := (yX9_fail, cX9_fail, 2, none)
abbrev mX10_init : ZM := (yX10_init, cX10_init, 1, none)
abbrev mX10_fail : ZM := (yX10_fail, cX10_fail, 2, none)
abbrev mX11_init : ZM := (yX11_init, cX11_init, 2, none)
abbrev mX11_element : ZM := (yX11_element, cX11_element, 3, some .long)
abbrev mX11_toss : ZM := (yX11_toss, cX11_toss, 4, some .int)
theorem uw_RX0 : ∀ w ∈ u_ws RX0 TX0 0, w ∈ zall := zall_list [] (by decide +kernel) (by decide +kernel)
theorem uw_RX1 : ∀ w ∈ u_ws RX1 TX1 0, w ∈ zall := zall_list [] (by decide +kernel) (by decide +kernel)
theorem uw_RX2 : ∀ w ∈ u_ws RX2 TX2 0, w ∈ zall := zall_list [] (by decide +kernel) (by decide +kernel)
theorem uw_RX3 : ∀ w ∈ u_ws RX3 TX3 6, w ∈ zall := zall_list [151, 153, 155, 157, 159, 161] (by decide +kernel) (by decide +kernel)
theorem uw_RX4 : ∀ w ∈ u_ws RX4 TX4 10, w ∈ zall := zall_list [122, 124, 126, 128, 130, 132, 134, 136, 138, 140] (by decide +kernel) (by decide +kernel)
theorem uw_RX5 : ∀ w ∈ u_ws RX5 TX5 0, w ∈ zall := zall_list [] (by decide +kernel) (by decide +kernel)
theorem uw_RX6 : ∀ w ∈ u_ws RX6 TX6 0, w ∈ zall := zall_list [] (by decide +kernel) (by decide +kernel)
theorem uw_RX7 : ∀ w ∈ u_ws RX7 TX7 0, w ∈ zall := zall_list [] (by decide +kernel) (by decide +kernel)
theorem uw_RX8 : ∀ w ∈ u_ws RX8 TX8 6, w ∈ zall := zall_list [186, 188, 190, 192, 194, 196] (by decide +kernel) (by decide +kernel)
theorem uw_RX9 : ∀ w ∈ u_ws RX9 TX9 0, w ∈ zall := zall_list [] (by decide +kernel) (by decide +kernel)
theorem uw_RX10 : ∀ w ∈ u_ws RX10 TX10 0, w ∈ zall := zall_list [] (by decide +kernel) (by decide +kernel)
theorem uw_RX11 : ∀ w ∈ u_ws RX11 TX11 7, w ∈ zall := zall_list [206, 208, 210, 212, 214, 216, 218] (by decide +kernel) (by decide +kernel)
theorem uw_RX12 : ∀ w ∈ u_ws RX12 TX12 24, w ∈ zall := zall_list [1033, 1035, 1037, 1039, 1041, 1043, 1045, 1047, 1049, 1051, 1053, 1055, 1057, 1059, 1061, 1063, 1065, 1067, 1069, 1071, 1073, 1075, 1077, 1079] (by decide +kernel) (by decide +kernel)
theorem aRX11_329 : zAC RX11 329 := ⟨wmk 826 (by decide +kernel) rfl, wmk 264 (by decide +kernel) rfl, wmk 263 (by decide +kernel) rfl, wmk 14 (by decide +kernel) rfl⟩
theorem aRX4_47 : zAC RX4 47 := ⟨wmk 262 (by decide +kernel) rfl, wmk 264 (by decide +kernel) rfl, wmk 263 (by decide +kernel) rfl, wmk 14 (by decide +kernel) rfl⟩
theorem fRX11_102 : zFS RX11 102 4 10 2 := ⟨RX4, TX4, rfl, by decide, uw_RX4, Or.inr ⟨"CornerstoneSought", wnk 107 (by decide +kernel) rfl⟩⟩
theorem fRX11_105 : zFS RX11 105 4 10 3 := ⟨RX4, TX4, rfl, by decide, uw_RX4, Or.inr ⟨"CornerstoneSought", wnk 109 (by decide +kernel) rfl⟩⟩
theorem fRX11_108 : zFS RX11 108 4 10 5 := ⟨RX4, TX4, rfl, by decide, uw_RX4, Or.inr ⟨"CornerstoneSought", wnk 112 (by decide +kernel) rfl⟩⟩
theorem fRX11_117 : zFS RX11 117 8 6 1 := ⟨RX8, TX8, rfl, by decide, uw_RX8, Or.inr ⟨"CornerstoneSought", wnk 176 (by decide +kernel) rfl⟩⟩
theorem fRX11_120 : zFS RX11 120 8 6 2 := ⟨RX8, TX8, rfl, by decide, uw_RX8, Or.inr ⟨"CornerstoneSought", wnk 178 (by decide +kernel) rfl⟩⟩
theorem fRX11_136 : zFS RX11 136 4 10 6 := ⟨RX4, TX4, rfl, by decide, uw_RX4, Or.inr ⟨"CornerstoneSought", wnk 115 (by decide +kernel) rfl⟩⟩
theorem fRX11_241 : zFS RX11 241 8 6 4 := ⟨RX8, TX8, rfl, by decide, uw_RX8, Or.inr ⟨"CornerstoneSought", wnk 183 (by decide +kernel) rfl⟩⟩
theorem fRX11_273 : zFS RX11 273 4 10 7 := ⟨RX4, TX4, rfl, by decide, uw_RX4, Or.inr ⟨"CornerstoneSought", wnk 118 (by decide +kernel) rfl⟩⟩
theorem fRX11_326 : zFS RX11 326 8 6 5 := ⟨RX8, TX8, rfl, by decide, uw_RX8, Or.inr ⟨"CornerstoneSought", wnk 185 (by decide +kernel) rfl⟩⟩
theorem fRX11_33 : zFS RX11 33 11 7 0 := ⟨RX11, TX11, rfl, by decide, uw_RX11, Or.inl (wmk 199 (by decide +kernel) rfl)⟩
theorem fRX11_40 : zFS RX11 40 11 7 1 := ⟨RX11, TX11, rfl, by decide, uw_RX11, Or.inl (wmk 200 (by decide +kernel) rfl)⟩
theorem fRX11_48 : zFS RX11 48 11 7 2 := ⟨RX11, TX11, rfl, by decide, uw_RX11, Or.inl (wmk 201 (by decide +kernel) rfl)⟩
theorem fRX11_54 : zFS RX11 54 11 7 3 := ⟨RX11, TX11, rfl, by decide, uw_RX11, Or.inl (wmk 202 (by decide +kernel) rfl)⟩
theorem fRX11_57 : zFS RX11 57 11 7 4 := ⟨RX11, TX11, rfl, by decide, uw_RX11, Or.inl (wmk 203 (by decide +kernel) rfl)⟩
theorem fRX11_62 : zFS RX11 62 11 7 5 := ⟨RX11, TX11, rfl, by decide, uw_RX11, Or.inl (wmk 204 (by decide +kernel) rfl)⟩
theorem fRX11_66 : zFS RX11 66 11 7 6 := ⟨RX11, TX11, rfl, by decide, uw_RX11, Or.inl (wmk 205 (by decide +kernel) rfl)⟩
theorem fRX11_75 : zFS RX11 75 8 6 3 := ⟨RX8, TX8, rfl, by decide, uw_RX8, Or.inr ⟨"CornerstoneSought", wnk 180 (by decide +kernel) rfl⟩⟩
theorem fRX11_96 : zFS RX11 96 4 10 0 := ⟨RX4, TX4, rfl, by decide, uw_RX4, Or.inr ⟨"CornerstoneSought", wnk 103 (by decide +kernel) rfl⟩⟩
theorem fRX11_99 : zFS RX11 99 4 10 1 := ⟨RX4, TX4, rfl, by decide, uw_RX4, Or.inr ⟨"CornerstoneSought", wnk 105 (by decide +kernel) rfl⟩⟩
theorem fRX12_114 : zFS RX12 114 12 24 6 := ⟨RX12, TX12, rfl, by decide, uw_RX12, Or.inl (wmk 1015 (by decide +kernel) rfl)⟩
theorem fRX12_117 : zFS RX12 117 12 24 8 := ⟨RX12, TX12, rfl, by decide, uw_RX12, Or.inl (wmk 1017 (by decide +kernel) rfl)⟩
theorem fRX12_120 : zFS RX12 120 12 24 7 := ⟨RX12, TX12, rfl, by decide, uw_RX12, Or.inl (wmk 1016 (by decide +kernel) rfl)⟩
theorem fRX12_13 : zFS RX12 13 12 24 1 := ⟨RX12, TX12, rfl, by decide, uw_RX12, Or.inl (wmk 1010 (by decide +kernel) rfl)⟩
theorem fRX12_16 : zFS RX12 16 12 24 2 := ⟨RX12, TX12, rfl, by decide, uw_RX12, Or.inl (wmk 1011 (by decide +kernel) rfl)⟩
theorem fRX12_19 : zFS RX12 19 12 24 4 := ⟨RX12, TX12, rfl, by decide, uw_RX12, Or.inl (wmk 1013 (by decide +kernel) rfl)⟩
theorem fRX12_206 : zFS RX12 206 12 24 13 := ⟨RX12, TX12, rfl, by decide, uw_RX12, Or.inl (wmk 1022 (by decide +kernel) rfl)⟩
theorem fRX12_209 : zFS RX12 209 12 24 11 := ⟨RX12, TX12, rfl, by decide, uw_RX12, Or.inl (wmk 1020 (by decide +kernel) rfl)⟩
theorem fRX12_212 : zFS RX12 212 12 24 12 := ⟨RX12, TX12, rfl, by decide, uw_RX12, Or.inl (wmk 1021 (by decide +kernel) rfl)⟩
theorem fRX12_22 : zFS RX12 22 12 24 9 := ⟨RX12, TX12, rfl, by decide, uw_RX12, Or.inl (wmk 1018 (by decide +kernel) rfl)⟩
theorem fRX12_225 : zFS RX12 225 12 24 14 := ⟨RX12, TX12, rfl, by decide, uw_RX12, Or.inl (wmk 1023 (by decide +kernel) rfl)⟩
theorem fRX12_234 : zFS RX12 234 12 24 3 := ⟨RX12, TX12, rfl, by decide, uw_RX12, Or.inl (wmk 1012 (by decide +kernel) rfl)⟩
theorem fRX12_238 : zFS RX12 238 12 24 23 := ⟨RX12, TX12, rfl, by decide, uw_RX12, Or.inl (wmk 1032 (by decide +kernel) rfl)⟩
theorem fRX12_25 : zFS RX12 25 12 24 10 := ⟨RX12, TX12, rfl, by decide, uw_RX12, Or.inl (wmk 1019 (by decide +kernel) rfl)⟩
theorem fRX12_28 : zFS RX12 28 12 24 15 := ⟨RX12, TX12, rfl, by decide, uw_RX12, Or.inl (wmk 1024 (by decide +kernel) rfl)⟩
theorem fRX12_32 : zFS RX12 32 12 24 16 := ⟨RX12, TX12, rfl, by decide, uw_RX12, Or.inl (wmk 1025 (by decide +kernel) rfl)⟩
theorem fRX12_35 : zFS RX12 35 12 24 17 := ⟨RX12, TX12, rfl, by decide, uw_RX12, Or.inl (wmk 1026 (by decide +kernel) rfl)⟩
theorem fRX12_38 : zFS RX12 38 12 24 18 := ⟨RX12, TX12, rfl, by decide, uw_RX12, Or.inl (wmk 1027 (by decide +kernel) rfl)⟩
theorem fRX12_41 : zFS RX12 41 12 24 19 := ⟨RX12, TX12, rfl, by decide, uw_RX12, Or.inl (wmk 1028 (by decide +kernel) rfl)⟩
theorem fRX12_44 : zFS RX12 44 12 24 20 := ⟨RX12, TX12, rfl, by decide, uw_RX12, Or.inl (wmk 1029 (by decide +kernel) rfl)⟩
theorem fRX12_47 : zFS RX12 47 12 24 21 := ⟨RX12, TX12, rfl, by decide, uw_RX12, Or.inl (wmk 1030 (by decide +kernel) rfl)⟩
theorem fRX12_50 : zFS RX12 50 12 24 22 := ⟨RX12, TX12, rfl, by decide, uw_RX12, Or.inl (wmk 1031 (by decide +kernel) rfl)⟩
theorem fRX12_9 : zFS RX12 9 12 24 0 := ⟨RX12, TX12, rfl, by decide, uw_RX12, Or.inl (wmk 1009 (by decide +kernel) rfl)⟩
theorem fRX12_90 : zFS RX12 90 12 24 5 := ⟨RX12, TX12, rfl, by decide, uw_RX12, Or.inl (wmk 1014 (by decide +kernel) rfl)⟩
theorem fRX3_106 : zFS RX3 106 8 6 4 := ⟨RX8, TX8, rfl, by decide, uw_RX8, Or.inr ⟨"CornerstoneSought", wnk 182 (by decide +kernel) rfl⟩⟩
theorem fRX3_12 : zFS RX3 12 3 6 0 := ⟨RX3, TX3, rfl, by decide, uw_RX3, Or.inl (wmk 144 (by decide +kernel) rfl)⟩
theorem fRX3_131 : zFS RX3 131 4 10 7 := ⟨RX4, TX4, rfl, by decide, uw_RX4, Or.inr ⟨"CornerstoneSought", wnk 117 (by decide +kernel) rfl⟩⟩
theorem fRX3_18 : zFS RX3 18 3 6 1 := ⟨RX3, TX3, rfl, by decide, uw_RX3, Or.inl (wmk 146 (by decide +kernel) rfl)⟩
theorem fRX3_22 : zFS RX3 22 3 6 2 := ⟨RX3, TX3, rfl, by decide, uw_RX3, Or.inl (wmk 147 (by decide +kernel) rfl)⟩
theorem fRX3_25 : zFS RX3 25 3 6 3 := ⟨RX3, TX3, rfl, by decide, uw_RX3, Or.inl (wmk 148 (by decide +kernel) rfl)⟩
theorem fRX3_29 : zFS RX3 29 3 6 4 := ⟨RX3, TX3, rfl, by decide, uw_RX3, Or.inl (wmk 149 (by decide +kernel) rfl)⟩
theorem fRX3_32 : zFS RX3 32 3 6 5 := ⟨RX3, TX3, rfl, by decide, uw_RX3, Or.inl (wmk 150 (by decide +kernel) rfl)⟩
theorem fRX3_36 : zFS RX3 36 4 10 9 := ⟨RX4, TX4, rfl, by decide, uw_RX4, Or.inr ⟨"CornerstoneSought", wnk 121 (by decide +kernel) rfl⟩⟩
theorem fRX3_49 : zFS RX3 49 4 10 6 := ⟨RX4, TX4, rfl, by decide, uw_RX4, Or.inr ⟨"CornerstoneSought", wnk 114 (by decide +kernel) rfl⟩⟩
theorem fRX4_15 : zFS RX4 15 4 10 1 := ⟨RX4, TX4, rfl, by decide, uw_RX4, Or.inl (wmk 104 (by decide +kernel) rfl)⟩
theorem fRX4_18 : zFS RX4 18 4 10 2 := ⟨RX4, TX4, rfl, by decide, uw_RX4, Or.inl (wmk 106 (by decide +kernel) rfl)⟩
theorem fRX4_21 : zFS RX4 21 4 10 3 := ⟨RX4, TX4, rfl, by decide, uw_RX4, Or.inl (wmk 108 (by decide +kernel) rfl)⟩
theorem fRX4_24 : zFS RX4 24 4 10 4 := ⟨RX4, TX4, rfl, by decide, uw_RX4, Or.inl (wmk 110 (by decide +kernel) rfl)⟩
theorem fRX4_27 : zFS RX4 27 4 10 5 := ⟨RX4, TX4, rfl, by decide, uw_RX4, Or.inl (wmk 111 (by decide +kernel) rfl)⟩
theorem fRX4_30 : zFS RX4 30 4 10 6 := ⟨RX4, TX4, rfl, by decide, uw_RX4, Or.inl (wmk 113 (by decide +kernel) rfl)⟩
theorem fRX4_34 : zFS RX4 34 4 10 7 := ⟨RX4, TX4, rfl, by decide, uw_RX4, Or.inl (wmk 116 (by decide +kernel) rfl)⟩
theorem fRX4_37 : zFS RX4 37 4 10 8 := ⟨RX4, TX4, rfl, by decide, uw_RX4, Or.inl (wmk 119 (by decide +kernel) rfl)⟩
theorem fRX4_40 : zFS RX4 40 4 10 9 := ⟨RX4, TX4, rfl, by decide, uw_RX4, Or.inl (wmk 120 (by decide +kernel) rfl)⟩
theorem fRX4_9 : zFS RX4 9 4 10 0 := ⟨RX4, TX4, rfl, by decide, uw_RX4, Or.inl (wmk 102 (by decide +kernel) rfl)⟩
theorem fRX8_11 : zFS RX8 11 8 6 0 := ⟨RX8, TX8, rfl, by decide, uw_RX8, Or.inl (wmk 174 (by decide +kernel) rfl)⟩
theorem fRX8_15 : zFS RX8 15 8 6 1 := ⟨RX8, TX8, rfl, by decide, uw_RX8, Or.inl (wmk 175 (by decide +kernel) rfl)⟩
theorem fRX8_18 : zFS RX8 18 8 6 2 := ⟨RX8, TX8, rfl, by decide, uw_RX8, Or.inl (wmk 177 (by decide +kernel) rfl)⟩
theorem fRX8_21 : zFS RX8 21 8 6 3 := ⟨RX8, TX8, rfl, by decide, uw_RX8, Or.inl (wmk 179 (by decide +kernel) rfl)⟩
theorem fRX8_24 : zFS RX8 24 8 6 4 := ⟨RX8, TX8, rfl, by decide, uw_RX8, Or.inl (wmk 181 (by decide +kernel) rfl)⟩
theorem fRX8_27 : zFS RX8 27 8 6 5 := ⟨RX8, TX8, rfl, by decide, uw_RX8, Or.inl (wmk 184 (by decide +kernel) rfl)⟩
theorem pRX11_6 : zPS 11 7 6 .boolean := ⟨RX11, TX11, tyX11, rfl, tyX11_ok, nmX11, rfl, by decide +kernel⟩
theorem pRX12_11 : zPS 12 24 11 .int := ⟨RX12, TX12, tyX12, rfl, tyX12_ok, nmX12, rfl, by decide +kernel⟩
theorem pRX12_12 : zPS 12 24 12 .int := ⟨RX12, TX12, tyX12, rfl, tyX12_ok, nmX12, rfl, by decide +kernel⟩
theorem pRX12_13 : zPS 12 24 13 .int := ⟨RX12, TX12, tyX12, rfl, tyX12_ok, nmX12, rfl, by decide +kernel⟩
theorem pRX12_14 : zPS 12 24 14 .int := ⟨RX12, TX12, tyX12, rfl, tyX12_ok, nmX12, rfl, by decide +kernel⟩
theorem pRX12_23 : zPS 12 24 23 .int := ⟨RX12, TX12, tyX12, rfl, tyX12_ok, nmX12, rfl, by decide +kernel⟩
theorem pRX12_3 : zPS 12 24 3 .boolean := ⟨RX12, TX12, tyX12, rfl, tyX12_ok, nmX12, rfl, by decide +kernel⟩
theorem pRX12_5 : zPS 12 24 5 .int := ⟨RX12, TX12, tyX12, rfl, tyX12_ok, nmX12, rfl, by decide +kernel⟩
theorem pRX12_6 : zPS 12 24 6 .int := ⟨RX12, TX12, tyX12, rfl, tyX12_ok, nmX12, rfl, by decide +kernel⟩
theorem pRX12_7 : zPS 12 24 7 .int := ⟨RX12, TX12, tyX12, rfl, tyX12_ok, nmX12, rfl, by decide +kernel⟩
theorem pRX12_8 : zPS 12 24 8 .int := ⟨RX12, TX12, tyX12, rfl, tyX12_ok, nmX12, rfl, by decide +kernel⟩
theorem pRX3_5 : zPS 3 6 5 .int := ⟨RX3, TX3, tyX3, rfl, tyX3_ok, nmX3, rfl, by decide +kernel⟩
theorem pRX4_6 : zPS 4 10 6 .int := ⟨RX4, TX4, tyX4, rfl, tyX4_ok, nmX4, rfl, by decide +kernel⟩
theorem pRX4_7 : zPS 4 10 7 .int := ⟨RX4, TX4, tyX4, rfl, tyX4_ok, nmX4, rfl, by decide +kernel⟩
theorem pRX4_8 : zPS 4 10 8 .int := ⟨RX4, TX4, tyX4, rfl, tyX4_ok, nmX4, rfl, by decide +kernel⟩
theorem pRX4_9 : zPS 4 10 9 .int := ⟨RX4, TX4, tyX4, rfl, tyX4_ok, nmX4, rfl, by decide +kernel⟩
theorem pRX8_0 : zPS 8 6 0 .int := ⟨RX8, TX8, tyX8, rfl, tyX8_ok, nmX8, rfl, by decide +kernel⟩
theorem pRX8_1 : zPS 8 6 1 .int := ⟨RX8, TX8, tyX8, rfl, tyX8_ok, nmX8, rfl, by decide +kernel⟩
theorem pRX8_2 : zPS 8 6 2 .int := ⟨RX8, TX8, tyX8, rfl, tyX8_ok, nmX8, rfl, by decide +kernel⟩
theorem pRX8_3 : zPS 8 6 3 .int := ⟨RX8, TX8, tyX8, rfl, tyX8_ok, nmX8, rfl, by decide +kernel⟩
theorem pRX8_4 : zPS 8 6 4 .int := ⟨RX8, TX8, tyX8, rfl, tyX8_ok, nmX8, rfl, by decide +kernel⟩
theorem sRX0_13 : zUS RX0 13 mX10_bears 1 := ⟨⟨wmk 356 (by decide +kernel) rfl, wmk 352 (by decide +kernel) rfl, wmk 54 (by decide +kernel) rfl, wmk 350 (by decide +kernel) rfl, wmk 2 (by decide +kernel) rfl, wmk 379 (by decide +kernel) rfl⟩, ⟨by decide +kernel, by decide +kernel⟩, by decide⟩
theorem sRX0_16 : zUS RX0 16 mX10_price 1 := ⟨⟨wmk 838 (by decide +kernel) rfl, wmk 834 (by decide +kernel) rfl, wmk 54 (by decide +kernel) rfl, wmk 832 (by decide +kernel) rfl, wmk 2 (by decide +kernel) rfl, wmk 860 (by decide +kernel) rfl⟩, ⟨by decide +kernel, by decide +kernel⟩, by decide⟩
theorem sRX0_9 : zUS RX0 9 mX10_weight 1 := ⟨⟨wmk 328 (by decide +kernel) rfl, wmk 324 (by decide +kernel) rfl, wmk 54 (by decide +kernel) rfl, wmk 322 (by decide +kernel) rfl, wmk 2 (by decide +kernel) rfl, wmk 348 (by decide +kernel) rfl⟩, ⟨by decide +kernel, by decide +kernel⟩, by decide⟩
theorem sRX11_111 : zVS RX11 111 4 mX4_noteAt 1 := ⟨⟨wmk 410 (by decide +kernel) rfl, wmk 411 (by decide +kernel) rfl, wmk 412 (by decide +kernel) rfl, wmk 11 (by decide +kernel) rfl, wmk 413 (by decide +kernel) rfl⟩, ⟨by decide +kernel, by decide +kernel, by decide +kernel⟩, by decide, TX4, 10, rfl⟩
theorem sRX11_114 : zVS RX11 114 11 mX11_kindRefused 1 := ⟨⟨wmk 418 (by decide +kernel) rfl, wmk 420 (by decide +kernel) rfl, wpk 5 (by decide +kernel) rfl, wmk 1 (by decide +kernel) rfl, wmk 421 (by decide +kernel) rfl⟩, ⟨by decide +kernel, by decide +kernel, by decide +kernel⟩, by decide, TX11, 7, rfl⟩
theorem sRX11_123 : zVS RX11 123 4 mX4_lay 4 := ⟨⟨wmk 317 (by decide +kernel) rfl, wmk 318 (by decide +kernel) rfl, wmk 319 (by decide +kernel) rfl, wmk 11 (by decide +kernel) rfl, wmk 320 (by decide +kernel) rfl⟩, ⟨by decide +kernel, by decide +kernel, by decide +kernel⟩, by decide, TX4, 10, rfl⟩
theorem sRX11_127 : zVS RX11 127 11 mX11_stoneRefused 1 := ⟨⟨wmk 426 (by decide +kernel) rfl, wmk 428 (by decide +kernel) rfl, wpk 6 (by decide +kernel) rfl, wmk 1 (by decide +kernel) rfl, wmk 429 (by decide +kernel) rfl⟩, ⟨by decide +kernel, by decide +kernel, by decide +kernel⟩, by decide, TX11, 7, rfl⟩
theorem sRX11_130 : zVS RX11 130 4 mX4_takeOut 1 := ⟨⟨wmk 313 (by decide +kernel) rfl, wmk 314 (by decide +kernel) rfl, wmk 315 (by decide +kernel) rfl, wmk 11 (by decide +kernel) rfl, wmk 316 (by decide +kernel) rfl⟩, ⟨by decide +kernel, by decide +kernel, by decide +kernel⟩, by decide, TX4, 10, rfl⟩
theorem sRX11_133 : zVS RX11 133 4 mX4_turnProp 1 := ⟨⟨wmk 275 (by decide +kernel) rfl, wmk 276 (by decide +kernel) rfl, wmk 277 (by decide +kernel) rfl, wmk 11 (by decide +kernel) rfl, wmk 278 (by decide +kernel) rfl⟩, ⟨by decide +kernel, by decide +kernel, by decide +kernel⟩, by decide, TX4, 10, rfl⟩
theorem sRX11_139 : zVS RX11 139 4 mX4_stepsFrom 1 := ⟨⟨wmk 438 (by decide +kernel) rfl, wmk 439 (by decide +kernel) rfl, wmk 440 (by decide +kernel) rfl, wmk 11 (by decide +kernel) rfl, wmk 441 (by decide +kernel) rfl⟩, ⟨by decide +kernel, by decide +kernel, by decide +kernel⟩, by decide, TX4, 10, rfl⟩
theorem sRX11_142 : zVS RX11 142 3 mX3_fallenWithout 1 := ⟨⟨wmk 442 (by decide +kernel) rfl, wmk 443 (by decide +kernel) rfl, wmk 444 (by decide +kernel) rfl, wmk 10 (by decide +kernel) rfl, wmk 445 (by decide +kernel) rfl⟩, ⟨by decide +kernel, by decide +kernel, by decide +kernel⟩, by decide, TX3, 6, rfl⟩
theorem sRX11_145 : zSS RX11 145 mJ6_bitCount_0f7a4 1 := ⟨⟨wmk 452 (by decide +kernel) rfl, wmk 301 (by decide +kernel) rfl, wmk 16 (by decide +kernel) rfl, wmk 302 (by decide +kernel) rfl⟩, ⟨by decide +kernel, by decide +kernel, by decide +kernel⟩, by decide⟩
theorem sRX11_150 : zSS RX11 150 mX11_isEither 1 := ⟨⟨wmk 457 (by decide +kernel) rfl, wmk 458 (by decide +kernel) rfl, wmk 1 (by decide +kernel) rfl, wmk 459 (by decide +kernel) rfl⟩, ⟨by decide +kernel, by decide +kernel, by decide +kernel⟩, by decide⟩
theorem sRX11_153 : zVS RX11 153 3 mX3_cornerstones 0 := ⟨⟨wmk 460 (by decide +kernel) rfl, wmk 461 (by decide +kernel) rfl, wmk 462 (by decide +kernel) rfl, wmk 10 (by decide +kernel) rfl, wmk 463 (by decide +kernel) rfl⟩, ⟨by decide +kernel, by decide +kernel, by decide +kernel⟩, by decide, TX3, 6, rfl⟩
theorem sRX11_157 : zVS RX11 157 3 mX3_safeOnes 0 := ⟨⟨wmk 465 (by decide +kernel) rfl, wmk 466 (by decide +kernel) rfl, wmk 467 (by decide +kernel) rfl, wmk 10 (by decide +kernel) rfl, wmk 468 (by decide +kernel) rfl⟩, ⟨by decide +kernel, by decide +kernel, by decide +kernel⟩, by decide, TX3, 6, rfl⟩
theorem sRX11_160 : zVS RX11 160 3 mX3_worstPlace 0 := ⟨⟨wmk 474 (by decide +kernel) rfl, wmk 475 (by decide +kernel) rfl, wmk 476 (by decide +kernel) rfl, wmk 10 (by decide +kernel) rfl, wmk 477 (by decide +kernel) rfl⟩, ⟨by decide +kernel, by decide +kernel, by decide +kernel⟩, by decide, TX3, 6, rfl⟩
theorem sRX11_163 : zSS RX11 163 mX11_isSomeStones 1 := ⟨⟨wmk 487 (by decide +kernel) rfl, wmk 488 (by decide +kernel) rfl, wmk 1 (by decide +kernel) rfl, wmk 489 (by decide +kernel) rfl⟩, ⟨by decide +kernel, by decide +kernel, by decide +kernel⟩, by decide⟩
theorem sRX11_166 : zVS RX11 166 3 mX3_pairsThatFell 2 := ⟨⟨wmk 490 (by decide +kernel) rfl, wmk 491 (by decide +kernel) rfl, wmk 492 (by decide +kernel) rfl, wmk 10 (by decide +kernel) rfl, wmk 493 (by decide +kernel) rfl⟩, ⟨by decide +kernel, by decide +kernel, by decide +kernel⟩, by decide, TX3, 6, rfl⟩
theorem sRX11_170 : zVS RX11 170 3 mX3_fewestToFell 1 := ⟨⟨wmk 499 (by decide +kernel) rfl, wmk 500 (by decide +kernel) rfl, wmk 501 (by decide +kernel) rfl, wmk 10 (by decide +kernel) rfl, wmk 502 (by decide +kernel) rfl⟩, ⟨by decide +kernel, by decide +kernel, by decide +kernel⟩, by decide, TX3, 6, rfl⟩
theorem sRX11_173 : zVS RX11 173 3 mX3_fewestToLevel 0 := ⟨⟨wmk 514 (by decide +kernel) rfl, wmk 515 (by decide +kernel) rfl, wmk 516 (by decide +kernel) rfl, wmk 10 (by decide +kernel) rfl, wmk 517 (by decide +kernel) rfl⟩, ⟨by decide +kernel, by decide +kernel, by decide +kernel⟩, by decide, TX3, 6, rfl⟩
theorem sRX11_176 : zVS RX11 176 3 mX3_longestRun 0 := ⟨⟨wmk 522 (by decide +kernel) rfl, wmk 523 (by decide +kernel) rfl, wmk 524 (by decide +kernel) rfl, wmk 10 (by decide +kernel) rfl, wmk 525 (by decide +kernel) rfl⟩, ⟨by decide +kernel, by decide +kernel, by decide +kernel⟩, by decide, TX3, 6, rfl⟩
theorem sRX11_179 : zVS RX11 179 3 mX3_firstOfLongest 0 := ⟨⟨wmk 537 (by decide +kernel) rfl, wmk 538 (by decide +kernel) rfl, wmk 539 (by decide +kernel) rfl, wmk 10 (by decide +kernel) rfl, wmk 540 (by decide +kernel) rfl⟩, ⟨by decide +kernel, by decide +kernel, by decide +kernel⟩, by decide, TX3, 6, rfl⟩
theorem sRX11_182 : zVS RX11 182 3 mX3_winningPlace 0 := ⟨⟨wmk 545 (by decide +kernel) rfl, wmk 546 (by decide +kernel) rfl, wmk 547 (by decide +kernel) rfl, wmk 10 (by decide +kernel) rfl, wmk 548 (by decide +kernel) rfl⟩, ⟨by decide +kernel, by decide +kernel, by decide +kernel⟩, by decide, TX3, 6, rfl⟩
theorem sRX11_187 : zVS RX11 187 3 mX3_bombedWaysLeaving 2 := ⟨⟨wmk 558 (by decide +kernel) rfl, wmk 559 (by decide +kernel) rfl, wmk 560 (by decide +kernel) rfl, wmk 10 (by decide +kernel) rfl, wmk 561 (by decide +kernel) rfl⟩, ⟨by decide +kernel, by decide +kernel, by decide +kernel⟩, by decide, TX3, 6, rfl⟩
theorem sRX11_191 : zSS RX11 191 mX11_powerOf 2 := ⟨⟨wmk 565 (by decide +kernel) rfl, wmk 563 (by decide +kernel) rfl, wmk 1 (by decide +kernel) rfl, wmk 564 (by decide +kernel) rfl⟩, ⟨by decide +kernel, by decide +kernel, by decide +kernel⟩, by decide⟩
theorem sRX11_194 : zSS RX11 194 mX11_commonDivisor 2 := ⟨⟨wmk 566 (by decide +kernel) rfl, wmk 567 (by decide +kernel) rfl, wmk 1 (by decide +kernel) rfl, wmk 568 (by decide +kernel) rfl⟩, ⟨by decide +kernel, by decide +kernel, by decide +kernel⟩, by decide⟩
theorem sRX11_198 : zVS RX11 198 4 mX4_heaviestLaden 0 := ⟨⟨wmk 573 (by decide +kernel) rfl, wmk 574 (by decide +kernel) rfl, wmk 575 (by decide +kernel) rfl, wmk 11 (by decide +kernel) rfl, wmk 576 (by decide +kernel) rfl⟩, ⟨by decide +kernel, by decide +kernel, by decide +kernel⟩, by decide, TX4, 10, rfl⟩
theorem sRX11_201 : zVS RX11 201 11 mX11_notesRefused 1 := ⟨⟨wmk 583 (by decide +kernel) rfl, wmk 585 (by decide +kernel) rfl, wpk 12 (by decide +kernel) rfl, wmk 1 (by decide +kernel) rfl, wmk 586 (by decide +kernel) rfl⟩, ⟨by decide +kernel, by decide +kernel, by decide +kernel⟩, by decide, TX11, 7, rfl⟩
theorem sRX11_204 : zVS RX11 204 3 mX3_suspectsBy 1 := ⟨⟨wmk 587 (by decide +kernel) rfl, wmk 588 (by decide +kernel) rfl, wmk 589 (by decide +kernel) rfl, wmk 10 (by decide +kernel) rfl, wmk 590 (by decide +kernel) rfl⟩, ⟨by decide +kernel, by decide +kernel, by decide +kernel⟩, by decide, TX3, 6, rfl⟩
theorem sRX11_207 : zVS RX11 207 3 mX3_bestTap 1 := ⟨⟨wmk 606 (by decide +kernel) rfl, wmk 607 (by decide +kernel) rfl, wmk 608 (by decide +kernel) rfl, wmk 10 (by decide +kernel) rfl, wmk 609 (by decide +kernel) rfl⟩, ⟨by decide +kernel, by decide +kernel, by decide +kernel⟩, by decide, TX3, 6, rfl⟩
theorem sRX11_210 : zVS RX11 210 3 mX3_fewestProps 0 := ⟨⟨wmk 627 (by decide +kernel) rfl, wmk 628 (by decide +kernel) rfl, wmk 629 (by decide +kernel) rfl, wmk 10 (by decide +kernel) rfl, wmk 630 (by decide +kernel) rfl⟩, ⟨by decide +kernel, by decide +kernel, by decide +kernel⟩, by decide, TX3, 6, rfl⟩
theorem sRX11_213 : zSS RX11 213 mJ9_min_7cf53 2 := ⟨⟨wmk 640 (by decide +kernel) rfl, wmk 641 (by decide +kernel) rfl, wmk 17 (by decide +kernel) rfl, wmk 642 (by decide +kernel) rfl⟩, ⟨by decide +kernel, by decide +kernel, by decide +kernel⟩, by decide⟩
theorem sRX11_219 : zSS RX11 219 mJ9_max_7cf53 2 := ⟨⟨wmk 643 (by decide +kernel) rfl, wmk 535 (by decide +kernel) rfl, wmk 17 (by decide +kernel) rfl, wmk 536 (by decide +kernel) rfl⟩, ⟨by decide +kernel, by decide +kernel, by decide +kernel⟩, by decide⟩
theorem sRX11_223 : zVS RX11 223 4 mX4_leftOverRight 0 := ⟨⟨wmk 649 (by decide +kernel) rfl, wmk 650 (by decide +kernel) rfl, wmk 651 (by decide +kernel) rfl, wmk 11 (by decide +kernel) rfl, wmk 652 (by decide +kernel) rfl⟩, ⟨by decide +kernel, by decide +kernel, by decide +kernel⟩, by decide, TX4, 10, rfl⟩
theorem sRX11_226 : zVS RX11 226 4 mX4_heaviestColumn 0 := ⟨⟨wmk 661 (by decide +kernel) rfl, wmk 662 (by decide +kernel) rfl, wmk 663 (by decide +kernel) rfl, wmk 11 (by decide +kernel) rfl, wmk 664 (by decide +kernel) rfl⟩, ⟨by decide +kernel, by decide +kernel, by decide +kernel⟩, by decide, TX4, 10, rfl⟩
theorem sRX11_229 : zVS RX11 229 11 mX11_tinsRefused 1 := ⟨⟨wmk 669 (by decide +kernel) rfl, wmk 671 (by decide +kernel) rfl, wpk 18 (by decide +kernel) rfl, wmk 1 (by decide +kernel) rfl, wmk 672 (by decide +kernel) rfl⟩, ⟨by decide +kernel, by decide +kernel, by decide +kernel⟩, by decide, TX11, 7, rfl⟩
theorem sRX11_232 : zVS RX11 232 3 mX3_waysTold 1 := ⟨⟨wmk 673 (by decide +kernel) rfl, wmk 674 (by decide +kernel) rfl, wmk 675 (by decide +kernel) rfl, wmk 10 (by decide +kernel) rfl, wmk 676 (by decide +kernel) rfl⟩, ⟨by decide +kernel, by decide +kernel, by decide +kernel⟩, by decide, TX3, 6, rfl⟩
theorem sRX11_235 : zVS RX11 235 3 mX3_firstOfWays 1 := ⟨⟨wmk 685 (by decide +kernel) rfl, wmk 686 (by decide +kernel) rfl, wmk 687 (by decide +kernel) rfl, wmk 10 (by decide +kernel) rfl, wmk 688 (by decide +kernel) rfl⟩, ⟨by decide +kernel, by decide +kernel, by decide +kernel⟩, by decide, TX3, 6, rfl⟩
theorem sRX11_238 : zVS RX11 238 3 mX3_firstForged 1 := ⟨⟨wmk 693 (by decide +kernel) rfl, wmk 694 (by decide +kernel) rfl, wmk 695 (by decide +kernel) rfl, wmk 10 (by decide +kernel) rfl, wmk 696 (by decide +kernel) rfl⟩, ⟨by decide +kernel, by decide +kernel, by decide +kernel⟩, by decide, TX3, 6, rfl⟩
theorem sRX11_244 : zVS RX11 244 8 mX8_at 1 := ⟨⟨wmk 243 (by decide +kernel) rfl, wmk 244 (by decide +kernel) rfl, wmk 245 (by decide +kernel) rfl, wmk 12 (by decide +kernel) rfl, wmk 246 (by decide +kernel) rfl⟩, ⟨by decide +kernel, by decide +kernel, by decide +kernel⟩, by decide, TX8, 6, rfl⟩
theorem sRX11_247 : zVS RX11 247 3 mX3_firstBadTaking 1 := ⟨⟨wmk 705 (by decide +kernel) rfl, wmk 706 (by decide +kernel) rfl, wmk 707 (by decide +kernel) rfl, wmk 10 (by decide +kernel) rfl, wmk 708 (by decide +kernel) rfl⟩, ⟨by decide +kernel, by decide +kernel, by decide +kernel⟩, by decide, TX3, 6, rfl⟩
theorem sRX11_250 : zVS RX11 250 3 mX3_sumOfRaids 3 := ⟨⟨wmk 713 (by decide +kernel) rfl, wmk 714 (by decide +kernel) rfl, wmk 715 (by decide +kernel) rfl, wmk 10 (by decide +kernel) rfl, wmk 716 (by decide +kernel) rfl⟩, ⟨by decide +kernel, by decide +kernel, by decide +kernel⟩, by decide, TX3, 6, rfl⟩
theorem sRX11_254 : zVS RX11 254 3 mX3_fewestTakings 1 := ⟨⟨wmk 730 (by decide +kernel) rfl, wmk 731 (by decide +kernel) rfl, wmk 732 (by decide +kernel) rfl, wmk 10 (by decide +kernel) rfl, wmk 733 (by decide +kernel) rfl⟩, ⟨by decide +kernel, by decide +kernel, by decide +kernel⟩, by decide, TX3, 6, rfl⟩
theorem sRX11_257 : zVS RX11 257 3 mX3_twinPairs 0 := ⟨⟨wmk 742 (by decide +kernel) rfl, wmk 743 (by decide +kernel) rfl, wmk 744 (by decide +kernel) rfl, wmk 10 (by decide +kernel) rfl, wmk 745 (by decide +kernel) rfl⟩, ⟨by decide +kernel, by decide +kernel, by decide +kernel⟩, by decide, TX3, 6, rfl⟩
theorem sRX11_260 : zVS RX11 260 4 mX4_highestRow 0 := ⟨⟨wmk 754 (by decide +kernel) rfl, wmk 755 (by decide +kernel) rfl, wmk 756 (by decide +kernel) rfl, wmk 11 (by decide +kernel) rfl, wmk 757 (by decide +kernel) rfl⟩, ⟨by decide +kernel, by decide +kernel, by decide +kernel⟩, by decide, TX4, 10, rfl⟩
theorem sRX11_263 : zVS RX11 263 4 mX4_inHighestRow 0 := ⟨⟨wmk 758 (by decide +kernel) rfl, wmk 759 (by decide +kernel) rfl, wmk 760 (by decide +kernel) rfl, wmk 11 (by decide +kernel) rfl, wmk 761 (by decide +kernel) rfl⟩, ⟨by decide +kernel, by decide +kernel, by decide +kernel⟩, by decide, TX4, 10, rfl⟩
theorem sRX11_266 : zVS RX11 266 3 mX3_supportsOf 1 := ⟨⟨wmk 767 (by decide +kernel) rfl, wmk 768 (by decide +kernel) rfl, wmk 769 (by decide +kernel) rfl, wmk 10 (by decide +kernel) rfl, wmk 770 (by decide +kernel) rfl⟩, ⟨by decide +kernel, by decide +kernel, by decide +kernel⟩, by decide, TX3, 6, rfl⟩
theorem sRX11_269 : zVS RX11 269 4 mX4_becomeAs 1 := ⟨⟨wmk 258 (by decide +kernel) rfl, wmk 259 (by decide +kernel) rfl, wmk 260 (by decide +kernel) rfl, wmk 11 (by decide +kernel) rfl, wmk 261 (by decide +kernel) rfl⟩, ⟨by decide +kernel, by decide +kernel, by decide +kernel⟩, by decide, TX4, 10, rfl⟩
theorem sRX11_276 : zVS RX11 276 4 mX4_weightOf 1 := ⟨⟨wmk 783 (by decide +kernel) rfl, wmk 658 (by decide +kernel) rfl, wmk 659 (by decide +kernel) rfl, wmk 11 (by decide +kernel) rfl, wmk 660 (by decide +kernel) rfl⟩, ⟨by decide +kernel, by decide +kernel, by decide +kernel⟩, by decide, TX4, 10, rfl⟩
theorem sRX11_279 : zVS RX11 279 4 mX4_allLoads 0 := ⟨⟨wmk 784 (by decide +kernel) rfl, wmk 785 (by decide +kernel) rfl, wmk 786 (by decide +kernel) rfl, wmk 11 (by decide +kernel) rfl, wmk 787 (by decide +kernel) rfl⟩, ⟨by decide +kernel, by decide +kernel, by decide +kernel⟩, by decide, TX4, 10, rfl⟩
theorem sRX11_282 : zSS RX11 282 mX11_isShelf 1 := ⟨⟨wmk 229 (by decide +kernel) rfl, wmk 230 (by decide +kernel) rfl, wmk 1 (by decide +kernel) rfl, wmk 231 (by decide +kernel) rfl⟩, ⟨by decide +kernel, by decide +kernel, by decide +kernel⟩, by decide⟩
theorem sRX11_285 : zVS RX11 285 8 mX8_clear 0 := ⟨⟨wmk 792 (by decide +kernel) rfl, wmk 793 (by decide +kernel) rfl, wmk 794 (by decide +kernel) rfl, wmk 12 (by decide +kernel) rfl, wmk 795 (by decide +kernel) rfl⟩, ⟨by decide +kernel, by decide +kernel, by decide +kernel⟩, by decide, TX8, 6, rfl⟩
theorem sRX11_288 : zVS RX11 288 8 mX8_holdKind 2 := ⟨⟨wmk 796 (by decide +kernel) rfl, wmk 797 (by decide +kernel) rfl, wmk 798 (by decide +kernel) rfl, wmk 12 (by decide +kernel) rfl, wmk 799 (by decide +kernel) rfl⟩, ⟨by decide +kernel, by decide +kernel, by decide +kernel⟩, by decide, TX8, 6, rfl⟩
theorem sRX11_292 : zVS RX11 292 8 mX8_holdRow 2 := ⟨⟨wmk 804 (by decide +kernel) rfl, wmk 805 (by decide +kernel) rfl, wmk 806 (by decide +kernel) rfl, wmk 12 (by decide +kernel) rfl, wmk 807 (by decide +kernel) rfl⟩, ⟨by decide +kernel, by decide +kernel, by decide +kernel⟩, by decide, TX8, 6, rfl⟩
theorem sRX11_295 : zVS RX11 295 8 mX8_hasPlace 1 := ⟨⟨wmk 813 (by decide +kernel) rfl, wmk 248 (by decide +kernel) rfl, wmk 249 (by decide +kernel) rfl, wmk 12 (by decide +kernel) rfl, wmk 250 (by decide +kernel) rfl⟩, ⟨by decide +kernel, by decide +kernel, by decide +kernel⟩, by decide, TX8, 6, rfl⟩
theorem sRX11_298 : zVS RX11 298 8 mX8_write 2 := ⟨⟨wmk 814 (by decide +kernel) rfl, wmk 815 (by decide +kernel) rfl, wmk 816 (by decide +kernel) rfl, wmk 12 (by decide +kernel) rfl, wmk 817 (by decide +kernel) rfl⟩, ⟨by decide +kernel, by decide +kernel, by decide +kernel⟩, by decide, TX8, 6, rfl⟩
theorem sRX11_308 : zVS RX11 308 8 mX8_isRow 0 := ⟨⟨wmk 236 (by decide +kernel) rfl, wmk 237 (by decide +kernel) rfl, wmk 238 (by decide +kernel) rfl, wmk 12 (by decide +kernel) rfl, wmk 239 (by decide +kernel) rfl⟩, ⟨by decide +kernel, by decide +kernel, by decide +kernel⟩, by decide, TX8, 6, rfl⟩
theorem sRX11_319 : zVS RX11 319 8 mX8_isEmpty 0 := ⟨⟨wmk 232 (by decide +kernel) rfl, wmk 233 (by decide +kernel) rfl, wmk 234 (by decide +kernel) rfl, wmk 12 (by decide +kernel) rfl, wmk 235 (by decide +kernel) rfl⟩, ⟨by decide +kernel, by decide +kernel, by decide +kernel⟩, by decide, TX8, 6, rfl⟩
theorem sRX11_322 : zVS RX11 322 8 mX8_hasSpan 2 := ⟨⟨wmk 822 (by decide +kernel) rfl, wmk 823 (by decide +kernel) rfl, wmk 824 (by decide +kernel) rfl, wmk 12 (by decide +kernel) rfl, wmk 825 (by decide +kernel) rfl⟩, ⟨by decide +kernel, by decide +kernel, by decide +kernel⟩, by decide, TX8, 6, rfl⟩
theorem sRX11_342 : zSS RX11 342 mX11_digitsBehind 1 := ⟨⟨wmk 251 (by decide +kernel) rfl, wmk 252 (by decide +kernel) rfl, wmk 1 (by decide +kernel) rfl, wmk 253 (by decide +kernel) rfl⟩, ⟨by decide +kernel, by decide +kernel, by decide +kernel⟩, by decide⟩
theorem sRX11_345 : zVS RX11 345 11 mX11_doStatement 2 := ⟨⟨wmk 265 (by decide +kernel) rfl, wmk 267 (by decide +kernel) rfl, wpk 2 (by decide +kernel) rfl, wmk 1 (by decide +kernel) rfl, wmk 268 (by decide +kernel) rfl⟩, ⟨by decide +kernel, by decide +kernel, by decide +kernel⟩, by decide, TX11, 7, rfl⟩
theorem sRX11_349 : zSS RX11 349 mX11_digitAt 2 := ⟨⟨wmk 269 (by decide +kernel) rfl, wmk 270 (by decide +kernel) rfl, wmk 1 (by decide +kernel) rfl, wmk 271 (by decide +kernel) rfl⟩, ⟨by decide +kernel, by decide +kernel, by decide +kernel⟩, by decide⟩
theorem sRX11_71 : zVS RX11 71 11 mX11_rowRefused 1 := ⟨⟨wmk 225 (by decide +kernel) rfl, wmk 227 (by decide +kernel) rfl, wpk 0 (by decide +kernel) rfl, wmk 1 (by decide +kernel) rfl, wmk 228 (by decide +kernel) rfl⟩, ⟨by decide +kernel, by decide +kernel, by decide +kernel⟩, by decide, TX11, 7, rfl⟩
theorem sRX11_79 : zSS RX11 79 mX11_firstBadByte 1 := ⟨⟨wmk 240 (by decide +kernel) rfl, wmk 241 (by decide +kernel) rfl, wmk 1 (by decide +kernel) rfl, wmk 242 (by decide +kernel) rfl⟩, ⟨by decide +kernel, by decide +kernel, by decide +kernel⟩, by decide⟩
theorem sRX11_83 : zVS RX11 83 11 mX11_doStatements 1 := ⟨⟨wmk 254 (by decide +kernel) rfl, wmk 256 (by decide +kernel) rfl, wpk 1 (by decide +kernel) rfl, wmk 1 (by decide +kernel) rfl, wmk 257 (by decide +kernel) rfl⟩, ⟨by decide +kernel, by decide +kernel, by decide +kernel⟩, by decide, TX11, 7, rfl⟩
theorem sRX11_86 : zSS RX11 86 mX11_isPlace 1 := ⟨⟨wmk 272 (by decide +kernel) rfl, wmk 273 (by decide +kernel) rfl, wmk 1 (by decide +kernel) rfl, wmk 274 (by decide +kernel) rfl⟩, ⟨by decide +kernel, by decide +kernel, by decide +kernel⟩, by decide⟩
theorem sRX11_90 : zVS RX11 90 4 mX4_holds 1 := ⟨⟨wmk 306 (by decide +kernel) rfl, wmk 307 (by decide +kernel) rfl, wmk 308 (by decide +kernel) rfl, wmk 11 (by decide +kernel) rfl, wmk 309 (by decide +kernel) rfl⟩, ⟨by decide +kernel, by decide +kernel, by decide +kernel⟩, by decide, TX4, 10, rfl⟩
theorem sRX11_93 : zVS RX11 93 4 mX4_weighAll 0 := ⟨⟨wmk 402 (by decide +kernel) rfl, wmk 403 (by decide +kernel) rfl, wmk 404 (by decide +kernel) rfl, wmk 11 (by decide +kernel) rfl, wmk 405 (by decide +kernel) rfl⟩, ⟨by decide +kernel, by decide +kernel, by decide +kernel⟩, by decide, TX4, 10, rfl⟩
theorem sRX12_101 : zVS RX12 101 12 mX12_bears 1 := ⟨⟨wmk 1177 (by decide +kernel) rfl, wmk 1179 (by decide +kernel) rfl, wpk 43 (by decide +kernel) rfl, wmk 13 (by decide +kernel) rfl, wmk 1180 (by decide +kernel) rfl⟩, ⟨by decide +kernel, by decide +kernel, by decide +kernel⟩, by decide, TX12, 24, rfl⟩
theorem sRX12_104 : zVS RX12 104 12 mX12_settled 1 := ⟨⟨wmk 1130 (by decide +kernel) rfl, wmk 1132 (by decide +kernel) rfl, wpk 32 (by decide +kernel) rfl, wmk 13 (by decide +kernel) rfl, wmk 1133 (by decide +kernel) rfl⟩, ⟨by decide +kernel, by decide +kernel, by decide +kernel⟩, by decide, TX12, 24, rfl⟩
theorem sRX12_107 : zSS RX12 107 mX12_bits 1 := ⟨⟨wmk 1205 (by decide +kernel) rfl, wmk 1206 (by decide +kernel) rfl, wmk 13 (by decide +kernel) rfl, wmk 1207 (by decide +kernel) rfl⟩, ⟨by decide +kernel, by decide +kernel, by decide +kernel⟩, by decide⟩
theorem sRX12_110 : zVS RX12 110 12 mX12_leftWithout 2 := ⟨⟨wmk 1181 (by decide +kernel) rfl, wmk 1183 (by decide +kernel) rfl, wpk 44 (by decide +kernel) rfl, wmk 13 (by decide +kernel) rfl, wmk 1184 (by decide +kernel) rfl⟩, ⟨by decide +kernel, by decide +kernel, by decide +kernel⟩, by decide, TX12, 24, rfl⟩
theorem sRX12_123 : zVS RX12 123 12 mX12_here 0 := ⟨⟨wmk 1101 (by decide +kernel) rfl, wmk 1103 (by decide +kernel) rfl, wpk 27 (by decide +kernel) rfl, wmk 13 (by decide +kernel) rfl, wmk 1104 (by decide +kernel) rfl⟩, ⟨by decide +kernel, by decide +kernel, by decide +kernel⟩, by decide, TX12, 24, rfl⟩
theorem sRX12_127 : zVS RX12 127 12 mX12_readsNumber 2 := ⟨⟨wmk 1105 (by decide +kernel) rfl, wmk 1107 (by decide +kernel) rfl, wpk 28 (by decide +kernel) rfl, wmk 13 (by decide +kernel) rfl, wmk 1108 (by decide +kernel) rfl⟩, ⟨by decide +kernel, by decide +kernel, by decide +kernel⟩, by decide, TX12, 24, rfl⟩
theorem sRX12_130 : zSS RX12 130 mX12_isPlace 1 := ⟨⟨wmk 1116 (by decide +kernel) rfl, wmk 1117 (by decide +kernel) rfl, wmk 13 (by decide +kernel) rfl, wmk 1118 (by decide +kernel) rfl⟩, ⟨by decide +kernel, by decide +kernel, by decide +kernel⟩, by decide⟩
theorem sRX12_133 : zVS RX12 133 12 mX12_isThere 1 := ⟨⟨wmk 1119 (by decide +kernel) rfl, wmk 1121 (by decide +kernel) rfl, wpk 30 (by decide +kernel) rfl, wmk 13 (by decide +kernel) rfl, wmk 1122 (by decide +kernel) rfl⟩, ⟨by decide +kernel, by decide +kernel, by decide +kernel⟩, by decide, TX12, 24, rfl⟩
theorem sRX12_136 : zVS RX12 136 12 mX12_laysAt 3 := ⟨⟨wmk 1126 (by decide +kernel) rfl, wmk 1128 (by decide +kernel) rfl, wpk 31 (by decide +kernel) rfl, wmk 13 (by decide +kernel) rfl, wmk 1129 (by decide +kernel) rfl⟩, ⟨by decide +kernel, by decide +kernel, by decide +kernel⟩, by decide, TX12, 24, rfl⟩
theorem sRX12_140 : zVS RX12 140 12 mX12_wrongRow 2 := ⟨⟨wmk 1087 (by decide +kernel) rfl, wmk 1089 (by decide +kernel) rfl, wpk 25 (by decide +kernel) rfl, wmk 13 (by decide +kernel) rfl, wmk 1090 (by decide +kernel) rfl⟩, ⟨by decide +kernel, by decide +kernel, by decide +kernel⟩, by decide, TX12, 24, rfl⟩
theorem sRX12_143 : zVS RX12 143 12 mX12_readsStatement 0 := ⟨⟨wmk 1097 (by decide +kernel) rfl, wmk 1099 (by decide +kernel) rfl, wpk 26 (by decide +kernel) rfl, wmk 13 (by decide +kernel) rfl, wmk 1100 (by decide +kernel) rfl⟩, ⟨by decide +kernel, by decide +kernel, by decide +kernel⟩, by decide, TX12, 24, rfl⟩
theorem sRX12_147 : zSS RX12 147 mX12_copies 2 := ⟨⟨wmk 1109 (by decide +kernel) rfl, wmk 1110 (by decide +kernel) rfl, wmk 13 (by decide +kernel) rfl, wmk 1111 (by decide +kernel) rfl⟩, ⟨by decide +kernel, by decide +kernel, by decide +kernel⟩, by decide⟩
theorem sRX12_151 : zVS RX12 151 12 mX12_isDone 1 := ⟨⟨wmk 1112 (by decide +kernel) rfl, wmk 1114 (by decide +kernel) rfl, wpk 29 (by decide +kernel) rfl, wmk 13 (by decide +kernel) rfl, wmk 1115 (by decide +kernel) rfl⟩, ⟨by decide +kernel, by decide +kernel, by decide +kernel⟩, by decide, TX12, 24, rfl⟩
theorem sRX12_154 : zVS RX12 154 12 mX12_wrongStone 1 := ⟨⟨wmk 1189 (by decide +kernel) rfl, wmk 1191 (by decide +kernel) rfl, wpk 45 (by decide +kernel) rfl, wmk 13 (by decide +kernel) rfl, wmk 1192 (by decide +kernel) rfl⟩, ⟨by decide +kernel, by decide +kernel, by decide +kernel⟩, by decide, TX12, 24, rfl⟩
theorem sRX12_157 : zVS RX12 157 12 mX12_noteOf 1 := ⟨⟨wmk 1193 (by decide +kernel) rfl, wmk 1195 (by decide +kernel) rfl, wpk 46 (by decide +kernel) rfl, wmk 13 (by decide +kernel) rfl, wmk 1196 (by decide +kernel) rfl⟩, ⟨by decide +kernel, by decide +kernel, by decide +kernel⟩, by decide, TX12, 24, rfl⟩
theorem sRX12_160 : zVS RX12 160 12 mX12_wrongKept 1 := ⟨⟨wmk 1201 (by decide +kernel) rfl, wmk 1203 (by decide +kernel) rfl, wpk 47 (by decide +kernel) rfl, wmk 13 (by decide +kernel) rfl, wmk 1204 (by decide +kernel) rfl⟩, ⟨by decide +kernel, by decide +kernel, by decide +kernel⟩, by decide, TX12, 24, rfl⟩
theorem sRX12_163 : zVS RX12 163 12 mX12_fallsOf 2 := ⟨⟨wmk 1228 (by decide +kernel) rfl, wmk 1230 (by decide +kernel) rfl, wpk 49 (by decide +kernel) rfl, wmk 13 (by decide +kernel) rfl, wmk 1231 (by decide +kernel) rfl⟩, ⟨by decide +kernel, by decide +kernel, by decide +kernel⟩, by decide, TX12, 24, rfl⟩
theorem sRX12_166 : zVS RX12 166 12 mX12_safeOf 1 := ⟨⟨wmk 1224 (by decide +kernel) rfl, wmk 1226 (by decide +kernel) rfl, wpk 48 (by decide +kernel) rfl, wmk 13 (by decide +kernel) rfl, wmk 1227 (by decide +kernel) rfl⟩, ⟨by decide +kernel, by decide +kernel, by decide +kernel⟩, by decide, TX12, 24, rfl⟩
theorem sRX12_169 : zSS RX12 169 mX12_most 2 := ⟨⟨wmk 1256 (by decide +kernel) rfl, wmk 1257 (by decide +kernel) rfl, wmk 13 (by decide +kernel) rfl, wmk 1258 (by decide +kernel) rfl⟩, ⟨by decide +kernel, by decide +kernel, by decide +kernel⟩, by decide⟩
theorem sRX12_172 : zVS RX12 172 12 mX12_finds 1 := ⟨⟨wmk 1252 (by decide +kernel) rfl, wmk 1254 (by decide +kernel) rfl, wpk 50 (by decide +kernel) rfl, wmk 13 (by decide +kernel) rfl, wmk 1255 (by decide +kernel) rfl⟩, ⟨by decide +kernel, by decide +kernel, by decide +kernel⟩, by decide, TX12, 24, rfl⟩
theorem sRX12_176 : zVS RX12 176 12 mX12_firstTo 1 := ⟨⟨wmk 1259 (by decide +kernel) rfl, wmk 1261 (by decide +kernel) rfl, wpk 51 (by decide +kernel) rfl, wmk 13 (by decide +kernel) rfl, wmk 1262 (by decide +kernel) rfl⟩, ⟨by decide +kernel, by decide +kernel, by decide +kernel⟩, by decide, TX12, 24, rfl⟩
theorem sRX12_180 : zSS RX12 180 mX12_gcd 2 := ⟨⟨wmk 1275 (by decide +kernel) rfl, wmk 1276 (by decide +kernel) rfl, wmk 13 (by decide +kernel) rfl, wmk 1277 (by decide +kernel) rfl⟩, ⟨by decide +kernel, by decide +kernel, by decide +kernel⟩, by decide⟩
theorem sRX12_186 : zSS RX12 186 mX12_partOf 3 := ⟨⟨wmk 1272 (by decide +kernel) rfl, wmk 1273 (by decide +kernel) rfl, wmk 13 (by decide +kernel) rfl, wmk 1274 (by decide +kernel) rfl⟩, ⟨by decide +kernel, by decide +kernel, by decide +kernel⟩, by decide⟩
theorem sRX12_190 : zVS RX12 190 12 mX12_noteWithout 2 := ⟨⟨wmk 1294 (by decide +kernel) rfl, wmk 1296 (by decide +kernel) rfl, wpk 54 (by decide +kernel) rfl, wmk 13 (by decide +kernel) rfl, wmk 1297 (by decide +kernel) rfl⟩, ⟨by decide +kernel, by decide +kernel, by decide +kernel⟩, by decide, TX12, 24, rfl⟩
theorem sRX12_193 : zVS RX12 193 12 mX12_wrongPairs 1 := ⟨⟨wmk 1286 (by decide +kernel) rfl, wmk 1288 (by decide +kernel) rfl, wpk 52 (by decide +kernel) rfl, wmk 13 (by decide +kernel) rfl, wmk 1289 (by decide +kernel) rfl⟩, ⟨by decide +kernel, by decide +kernel, by decide +kernel⟩, by decide, TX12, 24, rfl⟩
theorem sRX12_196 : zVS RX12 196 12 mX12_whichOf 1 := ⟨⟨wmk 1290 (by decide +kernel) rfl, wmk 1292 (by decide +kernel) rfl, wpk 53 (by decide +kernel) rfl, wmk 13 (by decide +kernel) rfl, wmk 1293 (by decide +kernel) rfl⟩, ⟨by decide +kernel, by decide +kernel, by decide +kernel⟩, by decide, TX12, 24, rfl⟩
theorem sRX12_199 : zVS RX12 199 12 mX12_kindsBy 2 := ⟨⟨wmk 1302 (by decide +kernel) rfl, wmk 1304 (by decide +kernel) rfl, wpk 55 (by decide +kernel) rfl, wmk 13 (by decide +kernel) rfl, wmk 1305 (by decide +kernel) rfl⟩, ⟨by decide +kernel, by decide +kernel, by decide +kernel⟩, by decide, TX12, 24, rfl⟩
theorem sRX12_203 : zVS RX12 203 12 mX12_columnOf 1 := ⟨⟨wmk 1319 (by decide +kernel) rfl, wmk 1321 (by decide +kernel) rfl, wpk 56 (by decide +kernel) rfl, wmk 13 (by decide +kernel) rfl, wmk 1322 (by decide +kernel) rfl⟩, ⟨by decide +kernel, by decide +kernel, by decide +kernel⟩, by decide, TX12, 24, rfl⟩
theorem sRX12_215 : zVS RX12 215 12 mX12_takesAll 4 := ⟨⟨wmk 1335 (by decide +kernel) rfl, wmk 1337 (by decide +kernel) rfl, wpk 59 (by decide +kernel) rfl, wmk 13 (by decide +kernel) rfl, wmk 1338 (by decide +kernel) rfl⟩, ⟨by decide +kernel, by decide +kernel, by decide +kernel⟩, by decide, TX12, 24, rfl⟩
theorem sRX12_219 : zVS RX12 219 12 mX12_wrongTins 1 := ⟨⟨wmk 1327 (by decide +kernel) rfl, wmk 1329 (by decide +kernel) rfl, wpk 57 (by decide +kernel) rfl, wmk 13 (by decide +kernel) rfl, wmk 1330 (by decide +kernel) rfl⟩, ⟨by decide +kernel, by decide +kernel, by decide +kernel⟩, by decide, TX12, 24, rfl⟩
theorem sRX12_222 : zVS RX12 222 12 mX12_goesThrough 1 := ⟨⟨wmk 1331 (by decide +kernel) rfl, wmk 1333 (by decide +kernel) rfl, wpk 58 (by decide +kernel) rfl, wmk 13 (by decide +kernel) rfl, wmk 1334 (by decide +kernel) rfl⟩, ⟨by decide +kernel, by decide +kernel, by decide +kernel⟩, by decide, TX12, 24, rfl⟩
theorem sRX12_231 : zVS RX12 231 12 mX12_drawn 1 := ⟨⟨wmk 1351 (by decide +kernel) rfl, wmk 1353 (by decide +kernel) rfl, wpk 60 (by decide +kernel) rfl, wmk 13 (by decide +kernel) rfl, wmk 1354 (by decide +kernel) rfl⟩, ⟨by decide +kernel, by decide +kernel, by decide +kernel⟩, by decide, TX12, 24, rfl⟩
theorem sRX12_241 : zSS RX12 241 mX12_isShelf 1 := ⟨⟨wmk 1091 (by decide +kernel) rfl, wmk 1092 (by decide +kernel) rfl, wmk 13 (by decide +kernel) rfl, wmk 1093 (by decide +kernel) rfl⟩, ⟨by decide +kernel, by decide +kernel, by decide +kernel⟩, by decide⟩
theorem sRX12_244 : zSS RX12 244 mX12_costBy 2 := ⟨⟨wmk 1414 (by decide +kernel) rfl, wmk 1415 (by decide +kernel) rfl, wmk 13 (by decide +kernel) rfl, wmk 1416 (by decide +kernel) rfl⟩, ⟨by decide +kernel, by decide +kernel, by decide +kernel⟩, by decide⟩
theorem sRX12_53 : zSS RX12 53 mX12_isIn 3 := ⟨⟨wmk 1094 (by decide +kernel) rfl, wmk 1095 (by decide +kernel) rfl, wmk 13 (by decide +kernel) rfl, wmk 1096 (by decide +kernel) rfl⟩, ⟨by decide +kernel, by decide +kernel, by decide +kernel⟩, by decide⟩
theorem sRX12_57 : zSS RX12 57 mX12_has 2 := ⟨⟨wmk 1123 (by decide +kernel) rfl, wmk 1124 (by decide +kernel) rfl, wmk 13 (by decide +kernel) rfl, wmk 1125 (by decide +kernel) rfl⟩, ⟨by decide +kernel, by decide +kernel, by decide +kernel⟩, by decide⟩
theorem sRX12_61 : zVS RX12 61 12 mX12_figure 1 := ⟨⟨wmk 1142 (by decide +kernel) rfl, wmk 1144 (by decide +kernel) rfl, wpk 35 (by decide +kernel) rfl, wmk 13 (by decide +kernel) rfl, wmk 1145 (by decide +kernel) rfl⟩, ⟨by decide +kernel, by decide +kernel, by decide +kernel⟩, by decide, TX12, 24, rfl⟩
theorem sRX12_65 : zVS RX12 65 12 mX12_kind 1 := ⟨⟨wmk 1146 (by decide +kernel) rfl, wmk 1148 (by decide +kernel) rfl, wpk 36 (by decide +kernel) rfl, wmk 13 (by decide +kernel) rfl, wmk 1149 (by decide +kernel) rfl⟩, ⟨by decide +kernel, by decide +kernel, by decide +kernel⟩, by decide, TX12, 24, rfl⟩
theorem sRX12_68 : zSS RX12 68 mX12_isAt 3 := ⟨⟨wmk 1158 (by decide +kernel) rfl, wmk 1159 (by decide +kernel) rfl, wmk 13 (by decide +kernel) rfl, wmk 1160 (by decide +kernel) rfl⟩, ⟨by decide +kernel, by decide +kernel, by decide +kernel⟩, by decide⟩
theorem sRX12_71 : zVS RX12 71 12 mX12_isLight 1 := ⟨⟨wmk 1169 (by decide +kernel) rfl, wmk 1171 (by decide +kernel) rfl, wpk 41 (by decide +kernel) rfl, wmk 13 (by decide +kernel) rfl, wmk 1172 (by decide +kernel) rfl⟩, ⟨by decide +kernel, by decide +kernel, by decide +kernel⟩, by decide, TX12, 24, rfl⟩
theorem sRX12_75 : zVS RX12 75 12 mX12_isArch 1 := ⟨⟨wmk 1150 (by decide +kernel) rfl, wmk 1152 (by decide +kernel) rfl, wpk 37 (by decide +kernel) rfl, wmk 13 (by decide +kernel) rfl, wmk 1153 (by decide +kernel) rfl⟩, ⟨by decide +kernel, by decide +kernel, by decide +kernel⟩, by decide, TX12, 24, rfl⟩
theorem sRX12_78 : zVS RX12 78 12 mX12_isLeft 2 := ⟨⟨wmk 1154 (by decide +kernel) rfl, wmk 1156 (by decide +kernel) rfl, wpk 38 (by decide +kernel) rfl, wmk 13 (by decide +kernel) rfl, wmk 1157 (by decide +kernel) rfl⟩, ⟨by decide +kernel, by decide +kernel, by decide +kernel⟩, by decide, TX12, 24, rfl⟩
theorem sRX12_81 : zVS RX12 81 12 mX12_isRight 2 := ⟨⟨wmk 1161 (by decide +kernel) rfl, wmk 1163 (by decide +kernel) rfl, wpk 39 (by decide +kernel) rfl, wmk 13 (by decide +kernel) rfl, wmk 1164 (by decide +kernel) rfl⟩, ⟨by decide +kernel, by decide +kernel, by decide +kernel⟩, by decide, TX12, 24, rfl⟩
theorem sRX12_84 : zVS RX12 84 12 mX12_isClinging 2 := ⟨⟨wmk 1173 (by decide +kernel) rfl, wmk 1175 (by decide +kernel) rfl, wpk 42 (by decide +kernel) rfl, wmk 13 (by decide +kernel) rfl, wmk 1176 (by decide +kernel) rfl⟩, ⟨by decide +kernel, by decide +kernel, by decide +kernel⟩, by decide, TX12, 24, rfl⟩
theorem sRX12_87 : zVS RX12 87 12 mX12_weight 1 := ⟨⟨wmk 1138 (by decide +kernel) rfl, wmk 1140 (by decide +kernel) rfl, wpk 34 (by decide +kernel) rfl, wmk 13 (by decide +kernel) rfl, wmk 1141 (by decide +kernel) rfl⟩, ⟨by decide +kernel, by decide +kernel, by decide +kernel⟩, by decide, TX12, 24, rfl⟩
theorem sRX12_94 : zVS RX12 94 12 mX12_loads 1 := ⟨⟨wmk 1134 (by decide +kernel) rfl, wmk 1136 (by decide +kernel) rfl, wpk 33 (by decide +kernel) rfl, wmk 13 (by decide +kernel) rfl, wmk 1137 (by decide +kernel) rfl⟩, ⟨by decide +kernel, by decide +kernel, by decide +kernel⟩, by decide, TX12, 24, rfl⟩
theorem sRX12_98 : zVS RX12 98 12 mX12_isHeld 2 := ⟨⟨wmk 1165 (by decide +kernel) rfl, wmk 1167 (by decide +kernel) rfl, wpk 40 (by decide +kernel) rfl, wmk 13 (by decide +kernel) rfl, wmk 1168 (by decide +kernel) rfl⟩, ⟨by decide +kernel, by decide +kernel, by decide +kernel⟩, by decide, TX12, 24, rfl⟩
theorem sRX1_13 : zUS RX1 13 mX0_bears 1 := ⟨⟨wmk 360 (by decide +kernel) rfl, wmk 1422 (by decide +kernel) rfl, wmk 82 (by decide +kernel) rfl, wmk 354 (by decide +kernel) rfl, wmk 4 (by decide +kernel) rfl, wmk 355 (by decide +kernel) rfl⟩, ⟨by decide +kernel, by decide +kernel⟩, by decide⟩
theorem sRX1_16 : zUS RX1 16 mX0_price 1 := ⟨⟨wmk 842 (by decide +kernel) rfl, wmk 1424 (by decide +kernel) rfl, wmk 82 (by decide +kernel) rfl, wmk 836 (by decide +kernel) rfl, wmk 4 (by decide +kernel) rfl, wmk 837 (by decide +kernel) rfl⟩, ⟨by decide +kernel, by decide +kernel⟩, by decide⟩
theorem sRX1_9 : zUS RX1 9 mX0_weight 1 := ⟨⟨wmk 332 (by decide +kernel) rfl, wmk 1421 (by decide +kernel) rfl, wmk 82 (by decide +kernel) rfl, wmk 326 (by decide +kernel) rfl, wmk 4 (by decide +kernel) rfl, wmk 327 (by decide +kernel) rfl⟩, ⟨by decide +kernel, by decide +kernel⟩, by decide⟩
theorem sRX2_11 : zUS RX2 11 mX10_bears 1 := ⟨⟨wmk 364 (by decide +kernel) rfl, wmk 352 (by decide +kernel) rfl, wmk 47 (by decide +kernel) rfl, wmk 350 (by decide +kernel) rfl, wmk 2 (by decide +kernel) rfl, wmk 379 (by decide +kernel) rfl⟩, ⟨by decide +kernel, by decide +kernel⟩, by decide⟩
theorem sRX2_14 : zUS RX2 14 mX10_price 1 := ⟨⟨wmk 846 (by decide +kernel) rfl, wmk 834 (by decide +kernel) rfl, wmk 47 (by decide +kernel) rfl, wmk 832 (by decide +kernel) rfl, wmk 2 (by decide +kernel) rfl, wmk 860 (by decide +kernel) rfl⟩, ⟨by decide +kernel, by decide +kernel⟩, by decide⟩
theorem sRX2_7 : zUS RX2 7 mX10_weight 1 := ⟨⟨wmk 336 (by decide +kernel) rfl, wmk 324 (by decide +kernel) rfl, wmk 47 (by decide +kernel) rfl, wmk 322 (by decide +kernel) rfl, wmk 2 (by decide +kernel) rfl, wmk 348 (by decide +kernel) rfl⟩, ⟨by decide +kernel, by decide +kernel⟩, by decide⟩
theorem sRX3_102 : zVS RX3 102 4 mX4_weighIn 1 := ⟨⟨wmk 595 (by decide +kernel) rfl, wmk 407 (by decide +kernel) rfl, wmk 408 (by decide +kernel) rfl, wmk 11 (by decide +kernel) rfl, wmk 409 (by decide +kernel) rfl⟩, ⟨by decide +kernel, by decide +kernel, by decide +kernel⟩, by decide, TX4, 10, rfl⟩
theorem sRX3_111 : zVS RX3 111 8 mX8_at 1 := ⟨⟨wmk 596 (by decide +kernel) rfl, wmk 244 (by decide +kernel) rfl, wmk 245 (by decide +kernel) rfl, wmk 12 (by decide +kernel) rfl, wmk 246 (by decide +kernel) rfl⟩, ⟨by decide +kernel, by decide +kernel, by decide +kernel⟩, by decide, TX8, 6, rfl⟩
theorem sRX3_114 : zVS RX3 114 3 mX3_noteIn 2 := ⟨⟨wmk 597 (by decide +kernel) rfl, wmk 599 (by decide +kernel) rfl, wpk 14 (by decide +kernel) rfl, wmk 10 (by decide +kernel) rfl, wmk 600 (by decide +kernel) rfl⟩, ⟨by decide +kernel, by decide +kernel, by decide +kernel⟩, by decide, TX3, 6, rfl⟩
theorem sRX3_117 : zVS RX3 117 4 mX4_noteAt 1 := ⟨⟨wmk 601 (by decide +kernel) rfl, wmk 411 (by decide +kernel) rfl, wmk 412 (by decide +kernel) rfl, wmk 11 (by decide +kernel) rfl, wmk 413 (by decide +kernel) rfl⟩, ⟨by decide +kernel, by decide +kernel, by decide +kernel⟩, by decide, TX4, 10, rfl⟩
theorem sRX3_120 : zVS RX3 120 3 mX3_hearAll 1 := ⟨⟨wmk 610 (by decide +kernel) rfl, wmk 612 (by decide +kernel) rfl, wpk 15 (by decide +kernel) rfl, wmk 10 (by decide +kernel) rfl, wmk 613 (by decide +kernel) rfl⟩, ⟨by decide +kernel, by decide +kernel, by decide +kernel⟩, by decide, TX3, 6, rfl⟩
theorem sRX3_123 : zSS RX3 123 mJ13_bitCount_95d88 1 := ⟨⟨wmk 617 (by decide +kernel) rfl, wmk 618 (by decide +kernel) rfl, wmk 18 (by decide +kernel) rfl, wmk 619 (by decide +kernel) rfl⟩, ⟨by decide +kernel, by decide +kernel, by decide +kernel⟩, by decide⟩
theorem sRX3_128 : zSS RX3 128 mJ7_fill_d0a16 2 := ⟨⟨wmk 614 (by decide +kernel) rfl, wmk 615 (by decide +kernel) rfl, wmk 15 (by decide +kernel) rfl, wmk 616 (by decide +kernel) rfl⟩, ⟨by decide +kernel, by decide +kernel, by decide +kernel⟩, by decide⟩
theorem sRX3_134 : zVS RX3 134 3 mX3_areSafe 2 := ⟨⟨wmk 631 (by decide +kernel) rfl, wmk 633 (by decide +kernel) rfl, wpk 16 (by decide +kernel) rfl, wmk 10 (by decide +kernel) rfl, wmk 634 (by decide +kernel) rfl⟩, ⟨by decide +kernel, by decide +kernel, by decide +kernel⟩, by decide, TX3, 6, rfl⟩
theorem sRX3_137 : zVS RX3 137 4 mX4_looseIn 2 := ⟨⟨wmk 635 (by decide +kernel) rfl, wmk 288 (by decide +kernel) rfl, wmk 289 (by decide +kernel) rfl, wmk 11 (by decide +kernel) rfl, wmk 290 (by decide +kernel) rfl⟩, ⟨by decide +kernel, by decide +kernel, by decide +kernel⟩, by decide, TX4, 10, rfl⟩
theorem sRX3_140 : zVS RX3 140 3 mX3_waysFrom 3 := ⟨⟨wmk 677 (by decide +kernel) rfl, wmk 679 (by decide +kernel) rfl, wpk 19 (by decide +kernel) rfl, wmk 10 (by decide +kernel) rfl, wmk 680 (by decide +kernel) rfl⟩, ⟨by decide +kernel, by decide +kernel, by decide +kernel⟩, by decide, TX3, 6, rfl⟩
theorem sRX3_144 : zVS RX3 144 3 mX3_isTold 3 := ⟨⟨wmk 681 (by decide +kernel) rfl, wmk 683 (by decide +kernel) rfl, wpk 20 (by decide +kernel) rfl, wmk 10 (by decide +kernel) rfl, wmk 684 (by decide +kernel) rfl⟩, ⟨by decide +kernel, by decide +kernel, by decide +kernel⟩, by decide, TX3, 6, rfl⟩
theorem sRX3_148 : zVS RX3 148 3 mX3_believedFrom 3 := ⟨⟨wmk 697 (by decide +kernel) rfl, wmk 699 (by decide +kernel) rfl, wpk 21 (by decide +kernel) rfl, wmk 10 (by decide +kernel) rfl, wmk 700 (by decide +kernel) rfl⟩, ⟨by decide +kernel, by decide +kernel, by decide +kernel⟩, by decide, TX3, 6, rfl⟩
theorem sRX3_151 : zSS RX3 151 mX3_drawn 1 := ⟨⟨wmk 717 (by decide +kernel) rfl, wmk 718 (by decide +kernel) rfl, wmk 10 (by decide +kernel) rfl, wmk 719 (by decide +kernel) rfl⟩, ⟨by decide +kernel, by decide +kernel, by decide +kernel⟩, by decide⟩
theorem sRX3_154 : zSS RX3 154 mX3_placeOf 1 := ⟨⟨wmk 721 (by decide +kernel) rfl, wmk 722 (by decide +kernel) rfl, wmk 10 (by decide +kernel) rfl, wmk 723 (by decide +kernel) rfl⟩, ⟨by decide +kernel, by decide +kernel, by decide +kernel⟩, by decide⟩
theorem sRX3_160 : zVS RX3 160 3 mX3_spreadTakings 1 := ⟨⟨wmk 734 (by decide +kernel) rfl, wmk 736 (by decide +kernel) rfl, wpk 22 (by decide +kernel) rfl, wmk 10 (by decide +kernel) rfl, wmk 737 (by decide +kernel) rfl⟩, ⟨by decide +kernel, by decide +kernel, by decide +kernel⟩, by decide, TX3, 6, rfl⟩
theorem sRX3_163 : zVS RX3 163 3 mX3_areTwins 2 := ⟨⟨wmk 746 (by decide +kernel) rfl, wmk 748 (by decide +kernel) rfl, wpk 23 (by decide +kernel) rfl, wmk 10 (by decide +kernel) rfl, wmk 749 (by decide +kernel) rfl⟩, ⟨by decide +kernel, by decide +kernel, by decide +kernel⟩, by decide, TX3, 6, rfl⟩
theorem sRX3_39 : zSS RX3 39 mJ7_fill_53178 2 := ⟨⟨wmk 450 (by decide +kernel) rfl, wmk 292 (by decide +kernel) rfl, wmk 15 (by decide +kernel) rfl, wmk 293 (by decide +kernel) rfl⟩, ⟨by decide +kernel, by decide +kernel, by decide +kernel⟩, by decide⟩
theorem sRX3_45 : zVS RX3 45 4 mX4_leftOf 1 := ⟨⟨wmk 451 (by decide +kernel) rfl, wmk 284 (by decide +kernel) rfl, wmk 285 (by decide +kernel) rfl, wmk 11 (by decide +kernel) rfl, wmk 286 (by decide +kernel) rfl⟩, ⟨by decide +kernel, by decide +kernel, by decide +kernel⟩, by decide, TX4, 10, rfl⟩
theorem sRX3_52 : zVS RX3 52 3 mX3_leftOf 1 := ⟨⟨wmk 446 (by decide +kernel) rfl, wmk 448 (by decide +kernel) rfl, wpk 7 (by decide +kernel) rfl, wmk 10 (by decide +kernel) rfl, wmk 449 (by decide +kernel) rfl⟩, ⟨by decide +kernel, by decide +kernel, by decide +kernel⟩, by decide, TX3, 6, rfl⟩
theorem sRX3_53 : zVS RX3 53 3 mX3_fallenWithout 1 := ⟨⟨wmk 469 (by decide +kernel) rfl, wmk 443 (by decide +kernel) rfl, wmk 444 (by decide +kernel) rfl, wmk 10 (by decide +kernel) rfl, wmk 445 (by decide +kernel) rfl⟩, ⟨by decide +kernel, by decide +kernel, by decide +kernel⟩, by decide, TX3, 6, rfl⟩
theorem sRX3_56 : zSS RX3 56 mJ6_bitCount_0f7a4 1 := ⟨⟨wmk 482 (by decide +kernel) rfl, wmk 301 (by decide +kernel) rfl, wmk 16 (by decide +kernel) rfl, wmk 302 (by decide +kernel) rfl⟩, ⟨by decide +kernel, by decide +kernel, by decide +kernel⟩, by decide⟩
theorem sRX3_61 : zVS RX3 61 4 mX4_holds 1 := ⟨⟨wmk 464 (by decide +kernel) rfl, wmk 307 (by decide +kernel) rfl, wmk 308 (by decide +kernel) rfl, wmk 11 (by decide +kernel) rfl, wmk 309 (by decide +kernel) rfl⟩, ⟨by decide +kernel, by decide +kernel, by decide +kernel⟩, by decide, TX4, 10, rfl⟩
theorem sRX3_65 : zVS RX3 65 3 mX3_countWithout 1 := ⟨⟨wmk 478 (by decide +kernel) rfl, wmk 480 (by decide +kernel) rfl, wpk 8 (by decide +kernel) rfl, wmk 10 (by decide +kernel) rfl, wmk 481 (by decide +kernel) rfl⟩, ⟨by decide +kernel, by decide +kernel, by decide +kernel⟩, by decide, TX3, 6, rfl⟩
theorem sRX3_68 : zVS RX3 68 3 mX3_safeOnes 0 := ⟨⟨wmk 494 (by decide +kernel) rfl, wmk 466 (by decide +kernel) rfl, wmk 467 (by decide +kernel) rfl, wmk 10 (by decide +kernel) rfl, wmk 468 (by decide +kernel) rfl⟩, ⟨by decide +kernel, by decide +kernel, by decide +kernel⟩, by decide, TX3, 6, rfl⟩
theorem sRX3_72 : zSS RX3 72 mJ6_numberOfTrailingZeros_0f7a4 1 := ⟨⟨wmk 506 (by decide +kernel) rfl, wmk 507 (by decide +kernel) rfl, wmk 16 (by decide +kernel) rfl, wmk 508 (by decide +kernel) rfl⟩, ⟨by decide +kernel, by decide +kernel, by decide +kernel⟩, by decide⟩
theorem sRX3_75 : zSS RX3 75 mX3_nextChoice 1 := ⟨⟨wmk 503 (by decide +kernel) rfl, wmk 504 (by decide +kernel) rfl, wmk 10 (by decide +kernel) rfl, wmk 505 (by decide +kernel) rfl⟩, ⟨by decide +kernel, by decide +kernel, by decide +kernel⟩, by decide⟩
theorem sRX3_78 : zVS RX3 78 3 mX3_runFrom 2 := ⟨⟨wmk 526 (by decide +kernel) rfl, wmk 528 (by decide +kernel) rfl, wpk 9 (by decide +kernel) rfl, wmk 10 (by decide +kernel) rfl, wmk 529 (by decide +kernel) rfl⟩, ⟨by decide +kernel, by decide +kernel, by decide +kernel⟩, by decide, TX3, 6, rfl⟩
theorem sRX3_82 : zVS RX3 82 3 mX3_isSafeIn 2 := ⟨⟨wmk 530 (by decide +kernel) rfl, wmk 532 (by decide +kernel) rfl, wpk 10 (by decide +kernel) rfl, wmk 10 (by decide +kernel) rfl, wmk 533 (by decide +kernel) rfl⟩, ⟨by decide +kernel, by decide +kernel, by decide +kernel⟩, by decide, TX3, 6, rfl⟩
theorem sRX3_86 : zSS RX3 86 mJ9_max_7cf53 2 := ⟨⟨wmk 534 (by decide +kernel) rfl, wmk 535 (by decide +kernel) rfl, wmk 17 (by decide +kernel) rfl, wmk 536 (by decide +kernel) rfl⟩, ⟨by decide +kernel, by decide +kernel, by decide +kernel⟩, by decide⟩
theorem sRX3_91 : zVS RX3 91 3 mX3_winningPlaceIn 2 := ⟨⟨wmk 549 (by decide +kernel) rfl, wmk 551 (by decide +kernel) rfl, wpk 11 (by decide +kernel) rfl, wmk 10 (by decide +kernel) rfl, wmk 552 (by decide +kernel) rfl⟩, ⟨by decide +kernel, by decide +kernel, by decide +kernel⟩, by decide, TX3, 6, rfl⟩
theorem sRX3_94 : zSN RX3 94 mX11_powerOf 2 := ⟨⟨⟨"CornerstoneSought", wnk 562 (by decide +kernel) rfl⟩, wmk 563 (by decide +kernel) rfl, wmk 1 (by decide +kernel) rfl, wmk 564 (by decide +kernel) rfl⟩, ⟨by decide +kernel, by decide +kernel, by decide +kernel⟩, by decide⟩
theorem sRX3_98 : zVS RX3 98 3 mX3_soundsAs 2 := ⟨⟨wmk 591 (by decide +kernel) rfl, wmk 593 (by decide +kernel) rfl, wpk 13 (by decide +kernel) rfl, wmk 10 (by decide +kernel) rfl, wmk 594 (by decide +kernel) rfl⟩, ⟨by decide +kernel, by decide +kernel, by decide +kernel⟩, by decide, TX3, 6, rfl⟩
theorem sRX4_103 : zVS RX4 103 4 mX4_weightOf 1 := ⟨⟨wmk 657 (by decide +kernel) rfl, wmk 658 (by decide +kernel) rfl, wmk 659 (by decide +kernel) rfl, wmk 11 (by decide +kernel) rfl, wmk 660 (by decide +kernel) rfl⟩, ⟨by decide +kernel, by decide +kernel, by decide +kernel⟩, by decide, TX4, 10, rfl⟩
theorem sRX4_106 : zVS RX4 106 4 mX4_columnWeight 1 := ⟨⟨wmk 653 (by decide +kernel) rfl, wmk 655 (by decide +kernel) rfl, wpk 17 (by decide +kernel) rfl, wmk 11 (by decide +kernel) rfl, wmk 656 (by decide +kernel) rfl⟩, ⟨by decide +kernel, by decide +kernel, by decide +kernel⟩, by decide, TX4, 10, rfl⟩
theorem sRX4_109 : zVS RX4 109 4 mX4_highestRow 0 := ⟨⟨wmk 762 (by decide +kernel) rfl, wmk 755 (by decide +kernel) rfl, wmk 756 (by decide +kernel) rfl, wmk 11 (by decide +kernel) rfl, wmk 757 (by decide +kernel) rfl⟩, ⟨by decide +kernel, by decide +kernel, by decide +kernel⟩, by decide, TX4, 10, rfl⟩
theorem sRX4_43 : zSS RX4 43 mX4_has 2 := ⟨⟨wmk 310 (by decide +kernel) rfl, wmk 311 (by decide +kernel) rfl, wmk 11 (by decide +kernel) rfl, wmk 312 (by decide +kernel) rfl⟩, ⟨by decide +kernel, by decide +kernel, by decide +kernel⟩, by decide⟩
theorem sRX4_65 : zVS RX4 65 4 mX4_settle 0 := ⟨⟨wmk 279 (by decide +kernel) rfl, wmk 281 (by decide +kernel) rfl, wpk 3 (by decide +kernel) rfl, wmk 11 (by decide +kernel) rfl, wmk 282 (by decide +kernel) rfl⟩, ⟨by decide +kernel, by decide +kernel, by decide +kernel⟩, by decide, TX4, 10, rfl⟩
theorem sRX4_68 : zVS RX4 68 4 mX4_leftOf 1 := ⟨⟨wmk 283 (by decide +kernel) rfl, wmk 284 (by decide +kernel) rfl, wmk 285 (by decide +kernel) rfl, wmk 11 (by decide +kernel) rfl, wmk 286 (by decide +kernel) rfl⟩, ⟨by decide +kernel, by decide +kernel, by decide +kernel⟩, by decide, TX4, 10, rfl⟩
theorem sRX4_71 : zSS RX4 71 mJ6_bitCount_0f7a4 1 := ⟨⟨wmk 300 (by decide +kernel) rfl, wmk 301 (by decide +kernel) rfl, wmk 16 (by decide +kernel) rfl, wmk 302 (by decide +kernel) rfl⟩, ⟨by decide +kernel, by decide +kernel, by decide +kernel⟩, by decide⟩
theorem sRX4_76 : zVS RX4 76 4 mX4_looseIn 2 := ⟨⟨wmk 287 (by decide +kernel) rfl, wmk 288 (by decide +kernel) rfl, wmk 289 (by decide +kernel) rfl, wmk 11 (by decide +kernel) rfl, wmk 290 (by decide +kernel) rfl⟩, ⟨by decide +kernel, by decide +kernel, by decide +kernel⟩, by decide, TX4, 10, rfl⟩
theorem sRX4_80 : zSS RX4 80 mJ7_fill_53178 2 := ⟨⟨wmk 291 (by decide +kernel) rfl, wmk 292 (by decide +kernel) rfl, wmk 15 (by decide +kernel) rfl, wmk 293 (by decide +kernel) rfl⟩, ⟨by decide +kernel, by decide +kernel, by decide +kernel⟩, by decide⟩
theorem sRX4_86 : zVS RX4 86 4 mX4_restsIn 2 := ⟨⟨wmk 294 (by decide +kernel) rfl, wmk 296 (by decide +kernel) rfl, wpk 4 (by decide +kernel) rfl, wmk 11 (by decide +kernel) rfl, wmk 297 (by decide +kernel) rfl⟩, ⟨by decide +kernel, by decide +kernel, by decide +kernel⟩, by decide, TX4, 10, rfl⟩
theorem sRX4_92 : zVS RX4 92 4 mX4_weighIn 1 := ⟨⟨wmk 406 (by decide +kernel) rfl, wmk 407 (by decide +kernel) rfl, wmk 408 (by decide +kernel) rfl, wmk 11 (by decide +kernel) rfl, wmk 409 (by decide +kernel) rfl⟩, ⟨by decide +kernel, by decide +kernel, by decide +kernel⟩, by decide, TX4, 10, rfl⟩
theorem sRX4_96 : zVS RX4 96 4 mX4_weighAll 0 := ⟨⟨wmk 577 (by decide +kernel) rfl, wmk 403 (by decide +kernel) rfl, wmk 404 (by decide +kernel) rfl, wmk 11 (by decide +kernel) rfl, wmk 405 (by decide +kernel) rfl⟩, ⟨by decide +kernel, by decide +kernel, by decide +kernel⟩, by decide, TX4, 10, rfl⟩
theorem sRX4_99 : zVS RX4 99 4 mX4_holds 1 := ⟨⟨wmk 578 (by decide +kernel) rfl, wmk 307 (by decide +kernel) rfl, wmk 308 (by decide +kernel) rfl, wmk 11 (by decide +kernel) rfl, wmk 309 (by decide +kernel) rfl⟩, ⟨by decide +kernel, by decide +kernel, by decide +kernel⟩, by decide, TX4, 10, rfl⟩
theorem sRX5_11 : zUS RX5 11 mX0_bears 1 := ⟨⟨wmk 368 (by decide +kernel) rfl, wmk 1422 (by decide +kernel) rfl, wmk 68 (by decide +kernel) rfl, wmk 354 (by decide +kernel) rfl, wmk 4 (by decide +kernel) rfl, wmk 355 (by decide +kernel) rfl⟩, ⟨by decide +kernel, by decide +kernel⟩, by decide⟩
theorem sRX5_14 : zUS RX5 14 mX0_price 1 := ⟨⟨wmk 850 (by decide +kernel) rfl, wmk 1424 (by decide +kernel) rfl, wmk 68 (by decide +kernel) rfl, wmk 836 (by decide +kernel) rfl, wmk 4 (by decide +kernel) rfl, wmk 837 (by decide +kernel) rfl⟩, ⟨by decide +kernel, by decide +kernel⟩, by decide⟩
theorem sRX5_7 : zUS RX5 7 mX0_weight 1 := ⟨⟨wmk 340 (by decide +kernel) rfl, wmk 1421 (by decide +kernel) rfl, wmk 68 (by decide +kernel) rfl, wmk 326 (by decide +kernel) rfl, wmk 4 (by decide +kernel) rfl, wmk 327 (by decide +kernel) rfl⟩, ⟨by decide +kernel, by decide +kernel⟩, by decide⟩
theorem sRX7_9 : zUS RX7 9 mX10_price 1 := ⟨⟨wmk 854 (by decide +kernel) rfl, wmk 834 (by decide +kernel) rfl, wmk 61 (by decide +kernel) rfl, wmk 832 (by decide +kernel) rfl, wmk 2 (by decide +kernel) rfl, wmk 860 (by decide +kernel) rfl⟩, ⟨by decide +kernel, by decide +kernel⟩, by decide⟩
theorem sRX8_31 : zSS RX8 31 mJ7_fill_53178 2 := ⟨⟨wmk 808 (by decide +kernel) rfl, wmk 292 (by decide +kernel) rfl, wmk 15 (by decide +kernel) rfl, wmk 293 (by decide +kernel) rfl⟩, ⟨by decide +kernel, by decide +kernel, by decide +kernel⟩, by decide⟩
theorem sRX8_37 : zVS RX8 37 8 mX8_hasPlace 1 := ⟨⟨wmk 247 (by decide +kernel) rfl, wmk 248 (by decide +kernel) rfl, wmk 249 (by decide +kernel) rfl, wmk 12 (by decide +kernel) rfl, wmk 250 (by decide +kernel) rfl⟩, ⟨by decide +kernel, by decide +kernel, by decide +kernel⟩, by decide, TX8, 6, rfl⟩
theorem sRX9_11 : zUS RX9 11 mX2_price 1 := ⟨⟨wmk 859 (by decide +kernel) rfl, wmk 1425 (by decide +kernel) rfl, wmk 75 (by decide +kernel) rfl, wmk 844 (by decide +kernel) rfl, wmk 3 (by decide +kernel) rfl, wmk 845 (by decide +kernel) rfl⟩, ⟨by decide +kernel, by decide +kernel⟩, by decide⟩
theorem sRX9_7 : zUS RX9 7 mX2_bears 1 := ⟨⟨wmk 378 (by decide +kernel) rfl, wmk 1423 (by decide +kernel) rfl, wmk 75 (by decide +kernel) rfl, wmk 362 (by decide +kernel) rfl, wmk 3 (by decide +kernel) rfl, wmk 363 (by decide +kernel) rfl⟩, ⟨by decide +kernel, by decide +kernel⟩, by decide⟩
theorem wm_1271 : (Cond.constantLong "CornerstoneSoughtModel" (184 : Nat) (1000000001 : Int64)) ∈ zall := wmk 1271 (by decide +kernel) rfl
theorem wm_1318 : (Cond.constant "CornerstoneSoughtModel" (202 : Nat) (1000000001 : Int32)) ∈ zall := wmk 1318 (by decide +kernel) rfl
theorem wm_1355 : (Cond.constant "CornerstoneSoughtModel" (228 : Nat) (1103515245 : Int32)) ∈ zall := wmk 1355 (by decide +kernel) rfl
theorem wm_1356 : (Cond.constant "CornerstoneSoughtModel" (229 : Nat) (2147483647 : Int32)) ∈ zall := wmk 1356 (by decide +kernel) rfl
theorem wm_1357 : (Cond.constant "CornerstoneSoughtModel" (230 : Nat) (65536 : Int32)) ∈ zall := wmk 1357 (by decide +kernel) rfl
theorem wm_303 : (Cond.constant "java/lang/Integer" (265 : Nat) (1431655765 : Int32)) ∈ zall := wmk 303 (by decide +kernel) rfl
theorem wm_304 : (Cond.constant "java/lang/Integer" (266 : Nat) (858993459 : Int32)) ∈ zall := wmk 304 (by decide +kernel) rfl
theorem wm_305 : (Cond.constant "java/lang/Integer" (267 : Nat) (252645135 : Int32)) ∈ zall := wmk 305 (by decide +kernel) rfl
theorem wm_509 : (Cond.constant "java/lang/Integer" (264 : Nat) (65536 : Int32)) ∈ zall := wmk 509 (by decide +kernel) rfl
theorem wm_557 : (Cond.constantLong "CornerstoneSought" (185 : Nat) (1000000001 : Int64)) ∈ zall := wmk 557 (by decide +kernel) rfl
theorem wm_620 : (Cond.constantLong "java/lang/Long" (314 : Nat) (6148914691236517205 : Int64)) ∈ zall := wmk 620 (by decide +kernel) rfl
theorem wm_621 : (Cond.constantLong "java/lang/Long" (316 : Nat) (3689348814741910323 : Int64)) ∈ zall := wmk 621 (by decide +kernel) rfl
theorem wm_622 : (Cond.constantLong "java/lang/Long" (318 : Nat) (1085102592571150095 : Int64)) ∈ zall := wmk 622 (by decide +kernel) rfl
theorem wm_648 : (Cond.constant "CornerstoneSought" (222 : Nat) (1000000001 : Int32)) ∈ zall := wmk 648 (by decide +kernel) rfl
theorem wm_720 : (Cond.constant "CornerstoneSought$Foresight" (157 : Nat) (1103515245 : Int32)) ∈ zall := wmk 720 (by decide +kernel) rfl
theorem wm_724 : (Cond.constant "CornerstoneSought$Foresight" (158 : Nat) (2147483647 : Int32)) ∈ zall := wmk 724 (by decide +kernel) rfl
theorem wm_725 : (Cond.constant "CornerstoneSought$Foresight" (159 : Nat) (65536 : Int32)) ∈ zall := wmk 725 (by decide +kernel) rfl
theorem wn_298 : (Cond.fieldLinkNest "CornerstoneSought$Hall" (89 : Nat) "CornerstoneSought" "BESIDE" "[I" "CornerstoneSought") ∈ znw := wnk 298 (by decide +kernel) rfl
theorem oRX4_53_0 : zOS RX4 53 10 mX10_weight mX10_weight 1 := ⟨RX10, TX10, 0, rfl, ⟨wmk 321 (by decide +kernel) rfl, wmk 324 (by decide +kernel) rfl, wmk 322 (by decide +kernel) rfl, wmk 323 (by decide +kernel) rfl, wmk 322 (by decide +kernel) rfl, wmk 2 (by decide +kernel) rfl, wmk 348 (by decide +kernel) rfl, wmk 348 (by decide +kernel) rfl⟩, ⟨by decide +kernel, by decide +kernel, by decide +kernel⟩, by decide⟩
theorem oRX4_53_1 : zOS RX4 53 2 mX10_weight mX2_weight 1 := ⟨RX2, TX2, 0, rfl, ⟨wmk 321 (by decide +kernel) rfl, wmk 324 (by decide +kernel) rfl, wmk 322 (by decide +kernel) rfl, wmk 333 (by decide +kernel) rfl, wmk 334 (by decide +kernel) rfl, wmk 3 (by decide +kernel) rfl, wmk 335 (by decide +kernel) rfl, wmk 348 (by decide +kernel) rfl⟩, ⟨by decide +kernel, by decide +kernel, by decide +kernel⟩, by decide⟩
theorem oRX4_53_2 : zOS RX4 53 0 mX10_weight mX0_weight 1 := ⟨RX0, TX0, 0, rfl, ⟨wmk 321 (by decide +kernel) rfl, wmk 324 (by decide +kernel) rfl, wmk 322 (by decide +kernel) rfl, wmk 325 (by decide +kernel) rfl, wmk 326 (by decide +kernel) rfl, wmk 4 (by decide +kernel) rfl, wmk 327 (by decide +kernel) rfl, wmk 348 (by decide +kernel) rfl⟩, ⟨by decide +kernel, by decide +kernel, by decide +kernel⟩, by decide⟩
theorem oRX4_53_3 : zOS RX4 53 7 mX10_weight mX7_weight 1 := ⟨RX7, TX7, 0, rfl, ⟨wmk 321 (by decide +kernel) rfl, wmk 324 (by decide +kernel) rfl, wmk 322 (by decide +kernel) rfl, wmk 344 (by decide +kernel) rfl, wmk 345 (by decide +kernel) rfl, wmk 5 (by decide +kernel) rfl, wmk 346 (by decide +kernel) rfl, wmk 348 (by decide +kernel) rfl⟩, ⟨by decide +kernel, by decide +kernel, by decide +kernel⟩, by decide⟩
theorem oRX4_53_4 : zOS RX4 53 5 mX10_weight mX5_weight 1 := ⟨RX5, TX5, 0, rfl, ⟨wmk 321 (by decide +kernel) rfl, wmk 324 (by decide +kernel) rfl, wmk 322 (by decide +kernel) rfl, wmk 337 (by decide +kernel) rfl, wmk 338 (by decide +kernel) rfl, wmk 6 (by decide +kernel) rfl, wmk 339 (by decide +kernel) rfl, wmk 348 (by decide +kernel) rfl⟩, ⟨by decide +kernel, by decide +kernel, by decide +kernel⟩, by decide⟩
theorem oRX4_53_5 : zOS RX4 53 9 mX10_weight mX2_weight 1 := ⟨RX9, TX9, 0, rfl, ⟨wmk 321 (by decide +kernel) rfl, wmk 324 (by decide +kernel) rfl, wmk 322 (by decide +kernel) rfl, wmk 347 (by decide +kernel) rfl, wmk 334 (by decide +kernel) rfl, wmk 3 (by decide +kernel) rfl, wmk 335 (by decide +kernel) rfl, wmk 348 (by decide +kernel) rfl⟩, ⟨by decide +kernel, by decide +kernel, by decide +kernel⟩, by decide⟩
theorem oRX4_53_6 : zOS RX4 53 1 mX10_weight mX1_weight 1 := ⟨RX1, TX1, 0, rfl, ⟨wmk 321 (by decide +kernel) rfl, wmk 324 (by decide +kernel) rfl, wmk 322 (by decide +kernel) rfl, wmk 329 (by decide +kernel) rfl, wmk 330 (by decide +kernel) rfl, wmk 8 (by decide +kernel) rfl, wmk 331 (by decide +kernel) rfl, wmk 348 (by decide +kernel) rfl⟩, ⟨by decide +kernel, by decide +kernel, by decide +kernel⟩, by decide⟩
theorem oRX4_53_7 : zOS RX4 53 6 mX10_weight mX6_weight 1 := ⟨RX6, TX6, 0, rfl, ⟨wmk 321 (by decide +kernel) rfl, wmk 324 (by decide +kernel) rfl, wmk 322 (by decide +kernel) rfl, wmk 341 (by decide +kernel) rfl, wmk 342 (by decide +kernel) rfl, wmk 9 (by decide +kernel) rfl, wmk 343 (by decide +kernel) rfl, wmk 348 (by decide +kernel) rfl⟩, ⟨by decide +kernel, by decide +kernel, by decide +kernel⟩, by decide⟩
theorem oRX4_59_0 : zOS RX4 59 10 mX10_bears mX10_bears 1 := ⟨RX10, TX10, 0, rfl, ⟨wmk 349 (by decide +kernel) rfl, wmk 352 (by decide +kernel) rfl, wmk 350 (by decide +kernel) rfl, wmk 351 (by decide +kernel) rfl, wmk 350 (by decide +kernel) rfl, wmk 2 (by decide +kernel) rfl, wmk 379 (by decide +kernel) rfl, wmk 379 (by decide +kernel) rfl⟩, ⟨by decide +kernel, by decide +kernel, by decide +kernel⟩, by decide⟩
theorem oRX4_59_1 : zOS RX4 59 2 mX10_bears mX2_bears 1 := ⟨RX2, TX2, 0, rfl, ⟨wmk 349 (by decide +kernel) rfl, wmk 352 (by decide +kernel) rfl, wmk 350 (by decide +kernel) rfl, wmk 361 (by decide +kernel) rfl, wmk 362 (by decide +kernel) rfl, wmk 3 (by decide +kernel) rfl, wmk 363 (by decide +kernel) rfl, wmk 379 (by decide +kernel) rfl⟩, ⟨by decide +kernel, by decide +kernel, by decide +kernel⟩, by decide⟩
theorem oRX4_59_2 : zOS RX4 59 0 mX10_bears mX0_bears 1 := ⟨RX0, TX0, 0, rfl, ⟨wmk 349 (by decide +kernel) rfl, wmk 352 (by decide +kernel) rfl, wmk 350 (by decide +kernel) rfl, wmk 353 (by decide +kernel) rfl, wmk 354 (by decide +kernel) rfl, wmk 4 (by decide +kernel) rfl, wmk 355 (by decide +kernel) rfl, wmk 379 (by decide +kernel) rfl⟩, ⟨by decide +kernel, by decide +kernel, by decide +kernel⟩, by decide⟩
theorem oRX4_59_3 : zOS RX4 59 7 mX10_bears mX7_bears 1 := ⟨RX7, TX7, 0, rfl, ⟨wmk 349 (by decide +kernel) rfl, wmk 352 (by decide +kernel) rfl, wmk 350 (by decide +kernel) rfl, wmk 372 (by decide +kernel) rfl, wmk 373 (by decide +kernel) rfl, wmk 5 (by decide +kernel) rfl, wmk 374 (by decide +kernel) rfl, wmk 379 (by decide +kernel) rfl⟩, ⟨by decide +kernel, by decide +kernel, by decide +kernel⟩, by decide⟩
theorem oRX4_59_4 : zOS RX4 59 5 mX10_bears mX5_bears 1 := ⟨RX5, TX5, 0, rfl, ⟨wmk 349 (by decide +kernel) rfl, wmk 352 (by decide +kernel) rfl, wmk 350 (by decide +kernel) rfl, wmk 365 (by decide +kernel) rfl, wmk 366 (by decide +kernel) rfl, wmk 6 (by decide +kernel) rfl, wmk 367 (by decide +kernel) rfl, wmk 379 (by decide +kernel) rfl⟩, ⟨by decide +kernel, by decide +kernel, by decide +kernel⟩, by decide⟩
theorem oRX4_59_5 : zOS RX4 59 9 mX10_bears mX9_bears 1 := ⟨RX9, TX9, 0, rfl, ⟨wmk 349 (by decide +kernel) rfl, wmk 352 (by decide +kernel) rfl, wmk 350 (by decide +kernel) rfl, wmk 375 (by decide +kernel) rfl, wmk 376 (by decide +kernel) rfl, wmk 7 (by decide +kernel) rfl, wmk 377 (by decide +kernel) rfl, wmk 379 (by decide +kernel) rfl⟩, ⟨by decide +kernel, by decide +kernel, by decide +kernel⟩, by decide⟩
theorem oRX4_59_6 : zOS RX4 59 1 mX10_bears mX1_bears 1 := ⟨RX1, TX1, 0, rfl, ⟨wmk 349 (by decide +kernel) rfl, wmk 352 (by decide +kernel) rfl, wmk 350 (by decide +kernel) rfl, wmk 357 (by decide +kernel) rfl, wmk 358 (by decide +kernel) rfl, wmk 8 (by decide +kernel) rfl, wmk 359 (by decide +kernel) rfl, wmk 379 (by decide +kernel) rfl⟩, ⟨by decide +kernel, by decide +kernel, by decide +kernel⟩, by decide⟩
theorem oRX4_59_7 : zOS RX4 59 6 mX10_bears mX6_bears 1 := ⟨RX6, TX6, 0, rfl, ⟨wmk 349 (by decide +kernel) rfl, wmk 352 (by decide +kernel) rfl, wmk 350 (by decide +kernel) rfl, wmk 369 (by decide +kernel) rfl, wmk 370 (by decide +kernel) rfl, wmk 9 (by decide +kernel) rfl, wmk 371 (by decide +kernel) rfl, wmk 379 (by decide +kernel) rfl⟩, ⟨by decide +kernel, by decide +kernel, by decide +kernel⟩, by decide⟩
theorem oRX4_61_0 : zOS RX4 61 10 mX10_manner mX10_manner 0 := ⟨RX10, TX10, 0, rfl, ⟨wmk 380 (by decide +kernel) rfl, wmk 383 (by decide +kernel) rfl, wmk 381 (by decide +kernel) rfl, wmk 382 (by decide +kernel) rfl, wmk 381 (by decide +kernel) rfl, wmk 2 (by decide +kernel) rfl, wmk 397 (by decide +kernel) rfl, wmk 397 (by decide +kernel) rfl⟩, ⟨by decide +kernel, by decide +kernel, by decide +kernel⟩, by decide⟩
theorem oRX4_61_1 : zOS RX4 61 2 mX10_manner mX10_manner 0 := ⟨RX2, TX2, 0, rfl, ⟨wmk 380 (by decide +kernel) rfl, wmk 383 (by decide +kernel) rfl, wmk 381 (by decide +kernel) rfl, wmk 390 (by decide +kernel) rfl, wmk 381 (by decide +kernel) rfl, wmk 2 (by decide +kernel) rfl, wmk 397 (by decide +kernel) rfl, wmk 397 (by decide +kernel) rfl⟩, ⟨by decide +kernel, by decide +kernel, by decide +kernel⟩, by decide⟩
theorem oRX4_61_2 : zOS RX4 61 0 mX10_manner mX0_manner 0 := ⟨RX0, TX0, 0, rfl, ⟨wmk 380 (by decide +kernel) rfl, wmk 383 (by decide +kernel) rfl, wmk 381 (by decide +kernel) rfl, wmk 384 (by decide +kernel) rfl, wmk 385 (by decide +kernel) rfl, wmk 4 (by decide +kernel) rfl, wmk 386 (by decide +kernel) rfl, wmk 397 (by decide +kernel) rfl⟩, ⟨by decide +kernel, by decide +kernel, by decide +kernel⟩, by decide⟩
theorem oRX4_61_3 : zOS RX4 61 7 mX10_manner mX7_manner 0 := ⟨RX7, TX7, 0, rfl, ⟨wmk 380 (by decide +kernel) rfl, wmk 383 (by decide +kernel) rfl, wmk 381 (by decide +kernel) rfl, wmk 395 (by decide +kernel) rfl, wmk 393 (by decide +kernel) rfl, wmk 5 (by decide +kernel) rfl, wmk 394 (by decide +kernel) rfl, wmk 397 (by decide +kernel) rfl⟩, ⟨by decide +kernel, by decide +kernel, by decide +kernel⟩, by decide⟩
theorem oRX4_61_4 : zOS RX4 61 5 mX10_manner mX0_manner 0 := ⟨RX5, TX5, 0, rfl, ⟨wmk 380 (by decide +kernel) rfl, wmk 383 (by decide +kernel) rfl, wmk 381 (by decide +kernel) rfl, wmk 391 (by decide +kernel) rfl, wmk 385 (by decide +kernel) rfl, wmk 4 (by decide +kernel) rfl, wmk 386 (by decide +kernel) rfl, wmk 397 (by decide +kernel) rfl⟩, ⟨by decide +kernel, by decide +kernel, by decide +kernel⟩, by decide⟩
theorem oRX4_61_5 : zOS RX4 61 9 mX10_manner mX10_manner 0 := ⟨RX9, TX9, 0, rfl, ⟨wmk 380 (by decide +kernel) rfl, wmk 383 (by decide +kernel) rfl, wmk 381 (by decide +kernel) rfl, wmk 396 (by decide +kernel) rfl, wmk 381 (by decide +kernel) rfl, wmk 2 (by decide +kernel) rfl, wmk 397 (by decide +kernel) rfl, wmk 397 (by decide +kernel) rfl⟩, ⟨by decide +kernel, by decide +kernel, by decide +kernel⟩, by decide⟩
theorem oRX4_61_6 : zOS RX4 61 1 mX10_manner mX1_manner 0 := ⟨RX1, TX1, 0, rfl, ⟨wmk 380 (by decide +kernel) rfl, wmk 383 (by decide +kernel) rfl, wmk 381 (by decide +kernel) rfl, wmk 387 (by decide +kernel) rfl, wmk 388 (by decide +kernel) rfl, wmk 8 (by decide +kernel) rfl, wmk 389 (by decide +kernel) rfl, wmk 397 (by decide +kernel) rfl⟩, ⟨by decide +kernel, by decide +kernel, by decide +kernel⟩, by decide⟩
theorem oRX4_61_7 : zOS RX4 61 6 mX10_manner mX7_manner 0 := ⟨RX6, TX6, 0, rfl, ⟨wmk 380 (by decide +kernel) rfl, wmk 383 (by decide +kernel) rfl, wmk 381 (by decide +kernel) rfl, wmk 392 (by decide +kernel) rfl, wmk 393 (by decide +kernel) rfl, wmk 5 (by decide +kernel) rfl, wmk 394 (by decide +kernel) rfl, wmk 397 (by decide +kernel) rfl⟩, ⟨by decide +kernel, by decide +kernel, by decide +kernel⟩, by decide⟩
theorem oRX11_335_0 : zOS RX11 335 10 mX10_price mX10_price 1 := ⟨RX10, TX10, 0, rfl, ⟨wmk 831 (by decide +kernel) rfl, wmk 834 (by decide +kernel) rfl, wmk 832 (by decide +kernel) rfl, wmk 833 (by decide +kernel) rfl, wmk 832 (by decide +kernel) rfl, wmk 2 (by decide +kernel) rfl, wmk 860 (by decide +kernel) rfl, wmk 860 (by decide +kernel) rfl⟩, ⟨by decide +kernel, by decide +kernel, by decide +kernel⟩, by decide⟩
theorem oRX11_335_1 : zOS RX11 335 2 mX10_price mX2_price 1 := ⟨RX2, TX2, 0, rfl, ⟨wmk 831 (by decide +kernel) rfl, wmk 834 (by decide +kernel) rfl, wmk 832 (by decide +kernel) rfl, wmk 843 (by decide +kernel) rfl, wmk 844 (by decide +kernel) rfl, wmk 3 (by decide +kernel) rfl, wmk 845 (by decide +kernel) rfl, wmk 860 (by decide +kernel) rfl⟩, ⟨by decide +kernel, by decide +kernel, by decide +kernel⟩, by decide⟩
theorem oRX11_335_2 : zOS RX11 335 0 mX10_price mX0_price 1 := ⟨RX0, TX0, 0, rfl, ⟨wmk 831 (by decide +kernel) rfl, wmk 834 (by decide +kernel) rfl, wmk 832 (by decide +kernel) rfl, wmk 835 (by decide +kernel) rfl, wmk 836 (by decide +kernel) rfl, wmk 4 (by decide +kernel) rfl, wmk 837 (by decide +kernel) rfl, wmk 860 (by decide +kernel) rfl⟩, ⟨by decide +kernel, by decide +kernel, by decide +kernel⟩, by decide⟩
theorem oRX11_335_3 : zOS RX11 335 7 mX10_price mX7_price 1 := ⟨RX7, TX7, 0, rfl, ⟨wmk 831 (by decide +kernel) rfl, wmk 834 (by decide +kernel) rfl, wmk 832 (by decide +kernel) rfl, wmk 855 (by decide +kernel) rfl, wmk 852 (by decide +kernel) rfl, wmk 5 (by decide +kernel) rfl, wmk 853 (by decide +kernel) rfl, wmk 860 (by decide +kernel) rfl⟩, ⟨by decide +kernel, by decide +kernel, by decide +kernel⟩, by decide⟩
theorem oRX11_335_4 : zOS RX11 335 5 mX10_price mX5_price 1 := ⟨RX5, TX5, 0, rfl, ⟨wmk 831 (by decide +kernel) rfl, wmk 834 (by decide +kernel) rfl, wmk 832 (by decide +kernel) rfl, wmk 847 (by decide +kernel) rfl, wmk 848 (by decide +kernel) rfl, wmk 6 (by decide +kernel) rfl, wmk 849 (by decide +kernel) rfl, wmk 860 (by decide +kernel) rfl⟩, ⟨by decide +kernel, by decide +kernel, by decide +kernel⟩, by decide⟩
theorem oRX11_335_5 : zOS RX11 335 9 mX10_price mX9_price 1 := ⟨RX9, TX9, 0, rfl, ⟨wmk 831 (by decide +kernel) rfl, wmk 834 (by decide +kernel) rfl, wmk 832 (by decide +kernel) rfl, wmk 856 (by decide +kernel) rfl, wmk 857 (by decide +kernel) rfl, wmk 7 (by decide +kernel) rfl, wmk 858 (by decide +kernel) rfl, wmk 860 (by decide +kernel) rfl⟩, ⟨by decide +kernel, by decide +kernel, by decide +kernel⟩, by decide⟩
theorem oRX11_335_6 : zOS RX11 335 1 mX10_price mX1_price 1 := ⟨RX1, TX1, 0, rfl, ⟨wmk 831 (by decide +kernel) rfl, wmk 834 (by decide +kernel) rfl, wmk 832 (by decide +kernel) rfl, wmk 839 (by decide +kernel) rfl, wmk 840 (by decide +kernel) rfl, wmk 8 (by decide +kernel) rfl, wmk 841 (by decide +kernel) rfl, wmk 860 (by decide +kernel) rfl⟩, ⟨by decide +kernel, by decide +kernel, by decide +kernel⟩, by decide⟩
theorem oRX11_335_7 : zOS RX11 335 6 mX10_price mX7_price 1 := ⟨RX6, TX6, 0, rfl, ⟨wmk 831 (by decide +kernel) rfl, wmk 834 (by decide +kernel) rfl, wmk 832 (by decide +kernel) rfl, wmk 851 (by decide +kernel) rfl, wmk 852 (by decide +kernel) rfl, wmk 5 (by decide +kernel) rfl, wmk 853 (by decide +kernel) rfl, wmk 860 (by decide +kernel) rfl⟩, ⟨by decide +kernel, by decide +kernel, by decide +kernel⟩, by decide⟩
end
section
/-! ===== loads and stores at places that are written numbers ===== -/
theorem zt_ialdc {G : ZG} {d : Nat} {M : ZM} {pc pc' : Nat} {L S : List ZV} {h : ZH} {Q : Option ZV → ZH → Prop} {k i n : Nat} {j : Int32} (jn : Nat) (hjn : j.toNatClampNeg = jn) (hd : zD M.2.1 pc pc' .iaload 1) (hk : zkd k i = .inr (0, n)) (hi : i < zcnt k) (hj : vp_in j n) (kk : zT G d M pc' L (zi (h.1 k i jn) :: S) h Q) : zT G d M pc L (zi j :: zr k i :: S) h Q := by
  subst hjn
  exact zt_iald hd hk hi hj kk
theorem zt_laldc {G : ZG} {d : Nat} {M : ZM} {pc pc' : Nat} {L S : List ZV} {h : ZH} {Q : Option ZV → ZH → Prop} {k i n : Nat} {j : Int32} (jn : Nat) (hjn : j.toNatClampNeg = jn) (hd : zD M.2.1 pc pc' .laload 1) (hk : zkd k i = .inr (1, n)) (hi : i < zcnt k) (hj : vp_in j n) (kk : zT G d M pc' L (zl (h.2 k i jn) :: S) h Q) : zT G d M pc L (zi j :: zr k i :: S) h Q := by
  subst hjn
  exact zt_lald hd hk hi hj kk
theorem zt_zaldc {G : ZG} {d : Nat} {M : ZM} {pc pc' : Nat} {L S : List ZV} {h : ZH} {Q : Option ZV → ZH → Prop} {k i n : Nat} {j : Int32} (jn : Nat) (hjn : j.toNatClampNeg = jn) (hd : zD M.2.1 pc pc' .baload 1) (hk : zkd k i = .inr (2, n)) (hi : i < zcnt k) (hj : vp_in j n) (kk : zT G d M pc' L (zi (h.1 k i jn) :: S) h Q) : zT G d M pc L (zi j :: zr k i :: S) h Q := by
  subst hjn
  exact zt_zald hd hk hi hj kk
theorem zt_iastc {G : ZG} {d : Nat} {M : ZM} {pc pc' : Nat} {L S : List ZV} {h : ZH} {Q : Option ZV → ZH → Prop} {k i n : Nat} {j v : Int32} (jn : Nat) (hjn : j.toNatClampNeg = jn) (hd : zD M.2.1 pc pc' .iastore 1) (hk : zkd k i = .inr (0, n)) (hi : i < zcnt k) (hj : vp_in j n) (kk : zT G d M pc' L S (zs1 h k i jn v) Q) : zT G d M pc L (zi v :: zi j :: zr k i :: S) h Q := by
  subst hjn
  exact zt_iast hd hk hi hj kk
end
section
/-! ===== the bytecode of these methods, walked (by program): J6_bitCount_0f7a4 J6_numberOfTrailingZeros_0f7a4 J13_bitCount_95d88 J7_fill_53178 J7_fill_d0a16 X12_isIn X12_most X12_has X12_bits X12_copies X11_isPlace X11_isShelf X11_isEither X11_isSomeStones X11_digitsBehind X11_powerOf X11_commonDivisor X12_gcd X4_has X8_clear X8_holdKind X8_isEmpty X8_isRow X8_hasPlace X8_hasSpan X8_write X3_drawn X3_placeOf X12_drawn X12_costBy X12_thrown X12_kind X12_figure X4_noteAt X10_weight X10_bears X10_price X10_manner X7_weight X7_bears X7_manner X6_weight X6_bears X0_manner X1_manner ===== -/
theorem kJ6_bitCount_0f7a4_0 : zD cJ6_bitCount_0f7a4 0 1 (.iload_n 0) 1 := by decide +kernel
theorem kJ6_bitCount_0f7a4_1 : zD cJ6_bitCount_0f7a4 1 2 (.iload_n 0) 1 := by decide +kernel
theorem kJ6_bitCount_0f7a4_2 : zD cJ6_bitCount_0f7a4 2 3 (.iconst 1) 1 := by decide +kernel
theorem kJ6_bitCount_0f7a4_3 : zD cJ6_bitCount_0f7a4 3 4 (.iushr) 1 := by decide +kernel
theorem kJ6_bitCount_0f7a4_4 : zD cJ6_bitCount_0f7a4 4 7 (.ldc_w 265) 3 := by decide +kernel
theorem kJ6_bitCount_0f7a4_7 : zD cJ6_bitCount_0f7a4 7 8 (.iand) 1 := by decide +kernel
theorem kJ6_bitCount_0f7a4_8 : zD cJ6_bitCount_0f7a4 8 9 (.isub) 1 := by decide +kernel
theorem kJ6_bitCount_0f7a4_9 : zD cJ6_bitCount_0f7a4 9 10 (.istore_n 0) 1 := by decide +kernel
theorem kJ6_bitCount_0f7a4_10 : zD cJ6_bitCount_0f7a4 10 11 (.iload_n 0) 1 := by decide +kernel
theorem kJ6_bitCount_0f7a4_11 : zD cJ6_bitCount_0f7a4 11 14 (.ldc_w 266) 3 := by decide +kernel
theorem kJ6_bitCount_0f7a4_14 : zD cJ6_bitCount_0f7a4 14 15 (.iand) 1 := by decide +kernel
theorem kJ6_bitCount_0f7a4_15 : zD cJ6_bitCount_0f7a4 15 16 (.iload_n 0) 1 := by decide +kernel
theorem kJ6_bitCount_0f7a4_16 : zD cJ6_bitCount_0f7a4 16 17 (.iconst 2) 1 := by decide +kernel
theorem kJ6_bitCount_0f7a4_17 : zD cJ6_bitCount_0f7a4 17 18 (.iushr) 1 := by decide +kernel
theorem kJ6_bitCount_0f7a4_18 : zD cJ6_bitCount_0f7a4 18 21 (.ldc_w 266) 3 := by decide +kernel
theorem kJ6_bitCount_0f7a4_21 : zD cJ6_bitCount_0f7a4 21 22 (.iand) 1 := by decide +kernel
theorem kJ6_bitCount_0f7a4_22 : zD cJ6_bitCount_0f7a4 22 23 (.iadd) 1 := by decide +kernel
theorem kJ6_bitCount_0f7a4_23 : zD cJ6_bitCount_0f7a4 23 24 (.istore_n 0) 1 := by decide +kernel
theorem kJ6_bitCount_0f7a4_24 : zD cJ6_bitCount_0f7a4 24 25 (.iload_n 0) 1 := by decide +kernel
theorem kJ6_bitCount_0f7a4_25 : zD cJ6_bitCount_0f7a4 25 26 (.iload_n 0) 1 := by decide +kernel
theorem kJ6_bitCount_0f7a4_26 : zD cJ6_bitCount_0f7a4 26 27 (.iconst 4) 1 := by decide +kernel
theorem kJ6_bitCount_0f7a4_27 : zD cJ6_bitCount_0f7a4 27 28 (.iushr) 1 := by decide +kernel
theorem kJ6_bitCount_0f7a4_28 : zD cJ6_bitCount_0f7a4 28 29 (.iadd) 1 := by decide +kernel
theorem kJ6_bitCount_0f7a4_29 : zD cJ6_bitCount_0f7a4 29 32 (.ldc_w 267) 3 := by decide +kernel
theorem kJ6_bitCount_0f7a4_32 : zD cJ6_bitCount_0f7a4 32 33 (.iand) 1 := by decide +kernel
theorem kJ6_bitCount_0f7a4_33 : zD cJ6_bitCount_0f7a4 33 34 (.istore_n 0) 1 := by decide +kernel
theorem kJ6_bitCount_0f7a4_34 : zD cJ6_bitCount_0f7a4 34 35 (.iload_n 0) 1 := by decide +kernel
theorem kJ6_bitCount_0f7a4_35 : zD cJ6_bitCount_0f7a4 35 36 (.iload_n 0) 1 := by decide +kernel
theorem kJ6_bitCount_0f7a4_36 : zD cJ6_bitCount_0f7a4 36 38 (.bipush 8) 2 := by decide +kernel
theorem kJ6_bitCount_0f7a4_38 : zD cJ6_bitCount_0f7a4 38 39 (.iushr) 1 := by decide +kernel
theorem kJ6_bitCount_0f7a4_39 : zD cJ6_bitCount_0f7a4 39 40 (.iadd) 1 := by decide +kernel
theorem kJ6_bitCount_0f7a4_40 : zD cJ6_bitCount_0f7a4 40 41 (.istore_n 0) 1 := by decide +kernel
theorem kJ6_bitCount_0f7a4_41 : zD cJ6_bitCount_0f7a4 41 42 (.iload_n 0) 1 := by decide +kernel
theorem kJ6_bitCount_0f7a4_42 : zD cJ6_bitCount_0f7a4 42 43 (.iload_n 0) 1 := by decide +kernel
theorem kJ6_bitCount_0f7a4_43 : zD cJ6_bitCount_0f7a4 43 45 (.bipush 16) 2 := by decide +kernel
theorem kJ6_bitCount_0f7a4_45 : zD cJ6_bitCount_0f7a4 45 46 (.iushr) 1 := by decide +kernel
theorem kJ6_bitCount_0f7a4_46 : zD cJ6_bitCount_0f7a4 46 47 (.iadd) 1 := by decide +kernel
theorem kJ6_bitCount_0f7a4_47 : zD cJ6_bitCount_0f7a4 47 48 (.istore_n 0) 1 := by decide +kernel
theorem kJ6_bitCount_0f7a4_48 : zD cJ6_bitCount_0f7a4 48 49 (.iload_n 0) 1 := by decide +kernel
theorem kJ6_bitCount_0f7a4_49 : zD cJ6_bitCount_0f7a4 49 51 (.bipush 63) 2 := by decide +kernel
theorem kJ6_bitCount_0f7a4_51 : zD cJ6_bitCount_0f7a4 51 52 (.iand) 1 := by decide +kernel
theorem kJ6_bitCount_0f7a4_52 : zD cJ6_bitCount_0f7a4 52 53 (.ireturn) 1 := by decide +kernel
set_option maxRecDepth 10000 in
theorem wJ6_bitCount_0f7a4_0 {G : ZG} {d : Nat} {h : ZH} {Q : Option ZV → ZH → Prop} {x0 : Int32} 
  (H : ∀ y1 : Int32, y1 = (x0 - ((((x0).toUInt32 >>> ((1 : Int32).toUInt32 &&& Int32.toUInt32 31)).toInt32) &&& 1431655765)) → ∀ y2 : Int32, y2 = ((y1 &&& 858993459) + ((((y1).toUInt32 >>> ((2 : Int32).toUInt32 &&& Int32.toUInt32 31)).toInt32) &&& 858993459)) → ∀ y3 : Int32, y3 = ((y2 + (((y2).toUInt32 >>> ((4 : Int32).toUInt32 &&& Int32.toUInt32 31)).toInt32)) &&& 252645135) → ∀ y4 : Int32, y4 = (y3 + (((y3).toUInt32 >>> ((8 : Int32).toUInt32 &&& Int32.toUInt32 31)).toInt32)) → ∀ y5 : Int32, y5 = (y4 + (((y4).toUInt32 >>> ((16 : Int32).toUInt32 &&& Int32.toUInt32 31)).toInt32)) → Q (some (zi (y5 &&& 63))) h) :
  zT G (d + 1) mJ6_bitCount_0f7a4 0 [zi x0] [] h Q := by
  refine zt_iload_n kJ6_bitCount_0f7a4_0 rfl ?_
  refine zt_iload_n kJ6_bitCount_0f7a4_1 rfl ?_
  refine zt_iconst (v := 1) kJ6_bitCount_0f7a4_2 rfl ?_
  refine zt_iushr kJ6_bitCount_0f7a4_3 ?_
  refine zt_ldcw (v := 1431655765) kJ6_bitCount_0f7a4_4 wm_303 ?_
  refine zt_iand kJ6_bitCount_0f7a4_7 ?_
  refine zt_isub kJ6_bitCount_0f7a4_8 ?_
  refine zt_topi (fun y1 ey1 => ?_)
  replace H := H y1 ey1
  refine zt_istore_n (L' := [zi y1]) kJ6_bitCount_0f7a4_9 (by decide) rfl ?_
  refine zt_iload_n kJ6_bitCount_0f7a4_10 rfl ?_
  refine zt_ldcw (v := 858993459) kJ6_bitCount_0f7a4_11 wm_304 ?_
  refine zt_iand kJ6_bitCount_0f7a4_14 ?_
  refine zt_iload_n kJ6_bitCount_0f7a4_15 rfl ?_
  refine zt_iconst (v := 2) kJ6_bitCount_0f7a4_16 rfl ?_
  refine zt_iushr kJ6_bitCount_0f7a4_17 ?_
  refine zt_ldcw (v := 858993459) kJ6_bitCount_0f7a4_18 wm_304 ?_
  refine zt_iand kJ6_bitCount_0f7a4_21 ?_
  refine zt_iadd kJ6_bitCount_0f7a4_22 ?_
  refine zt_topi (fun y2 ey2 => ?_)
  replace H := H y2 ey2
  refine zt_istore_n (L' := [zi y2]) kJ6_bitCount_0f7a4_23 (by decide) rfl ?_
  refine zt_iload_n kJ6_bitCount_0f7a4_24 rfl ?_
  refine zt_iload_n kJ6_bitCount_0f7a4_25 rfl ?_
  refine zt_iconst (v := 4) kJ6_bitCount_0f7a4_26 rfl ?_
  refine zt_iushr kJ6_bitCount_0f7a4_27 ?_
  refine zt_iadd kJ6_bitCount_0f7a4_28 ?_
  refine zt_ldcw (v := 252645135) kJ6_bitCount_0f7a4_29 wm_305 ?_
  refine zt_iand kJ6_bitCount_0f7a4_32 ?_
  refine zt_topi (fun y3 ey3 => ?_)
  replace H := H y3 ey3
  refine zt_istore_n (L' := [zi y3]) kJ6_bitCount_0f7a4_33 (by decide) rfl ?_
  refine zt_iload_n kJ6_bitCount_0f7a4_34 rfl ?_
  refine zt_iload_n kJ6_bitCount_0f7a4_35 rfl ?_
  refine zt_bipush (v := 8) kJ6_bitCount_0f7a4_36 rfl ?_
  refine zt_iushr kJ6_bitCount_0f7a4_38 ?_
  refine zt_iadd kJ6_bitCount_0f7a4_39 ?_
  refine zt_topi (fun y4 ey4 => ?_)
  replace H := H y4 ey4
  refine zt_istore_n (L' := [zi y4]) kJ6_bitCount_0f7a4_40 (by decide) rfl ?_
  refine zt_iload_n kJ6_bitCount_0f7a4_41 rfl ?_
  refine zt_iload_n kJ6_bitCount_0f7a4_42 rfl ?_
  refine zt_bipush (v := 16) kJ6_bitCount_0f7a4_43 rfl ?_
  refine zt_iushr kJ6_bitCount_0f7a4_45 ?_
  refine zt_iadd kJ6_bitCount_0f7a4_46 ?_
  refine zt_topi (fun y5 ey5 => ?_)
  replace H := H y5 ey5
  refine zt_istore_n (L' := [zi y5]) kJ6_bitCount_0f7a4_47 (by decide) rfl ?_
  refine zt_iload_n kJ6_bitCount_0f7a4_48 rfl ?_
  refine zt_bipush (v := 63) kJ6_bitCount_0f7a4_49 rfl ?_
  refine zt_iand kJ6_bitCount_0f7a4_51 ?_
  exact zt_iret kJ6_bitCount_0f7a4_52 rfl H

theorem kJ6_numberOfTrailingZeros_0f7a4_0 : zD cJ6_numberOfTrailingZeros_0f7a4 0 1 (.iload_n 0) 1 := by decide +kernel
theorem kJ6_numberOfTrailingZeros_0f7a4_1 : zD cJ6_numberOfTrailingZeros_0f7a4 1 2 (.iconst (-1)) 1 := by decide +kernel
theorem kJ6_numberOfTrailingZeros_0f7a4_2 : zD cJ6_numberOfTrailingZeros_0f7a4 2 3 (.ixor) 1 := by decide +kernel
theorem kJ6_numberOfTrailingZeros_0f7a4_3 : zD cJ6_numberOfTrailingZeros_0f7a4 3 4 (.iload_n 0) 1 := by decide +kernel
theorem kJ6_numberOfTrailingZeros_0f7a4_4 : zD cJ6_numberOfTrailingZeros_0f7a4 4 5 (.iconst 1) 1 := by decide +kernel
theorem kJ6_numberOfTrailingZeros_0f7a4_5 : zD cJ6_numberOfTrailingZeros_0f7a4 5 6 (.isub) 1 := by decide +kernel
theorem kJ6_numberOfTrailingZeros_0f7a4_6 : zD cJ6_numberOfTrailingZeros_0f7a4 6 7 (.iand) 1 := by decide +kernel
theorem kJ6_numberOfTrailingZeros_0f7a4_7 : zD cJ6_numberOfTrailingZeros_0f7a4 7 8 (.istore_n 0) 1 := by decide +kernel
theorem kJ6_numberOfTrailingZeros_0f7a4_8 : zD cJ6_numberOfTrailingZeros_0f7a4 8 9 (.iload_n 0) 1 := by decide +kernel
theorem kJ6_numberOfTrailingZeros_0f7a4_9 : zB cJ6_numberOfTrailingZeros_0f7a4 9 12 17 (.ifCond .gt 8) 8 := by decide +kernel
theorem kJ6_numberOfTrailingZeros_0f7a4_12 : zD cJ6_numberOfTrailingZeros_0f7a4 12 13 (.iload_n 0) 1 := by decide +kernel
theorem kJ6_numberOfTrailingZeros_0f7a4_13 : zD cJ6_numberOfTrailingZeros_0f7a4 13 15 (.bipush 32) 2 := by decide +kernel
theorem kJ6_numberOfTrailingZeros_0f7a4_15 : zD cJ6_numberOfTrailingZeros_0f7a4 15 16 (.iand) 1 := by decide +kernel
theorem kJ6_numberOfTrailingZeros_0f7a4_16 : zD cJ6_numberOfTrailingZeros_0f7a4 16 17 (.ireturn) 1 := by decide +kernel
theorem kJ6_numberOfTrailingZeros_0f7a4_17 : zD cJ6_numberOfTrailingZeros_0f7a4 17 18 (.iconst 1) 1 := by decide +kernel
theorem kJ6_numberOfTrailingZeros_0f7a4_18 : zD cJ6_numberOfTrailingZeros_0f7a4 18 19 (.istore_n 1) 1 := by decide +kernel
theorem kJ6_numberOfTrailingZeros_0f7a4_19 : zD cJ6_numberOfTrailingZeros_0f7a4 19 20 (.iload_n 0) 1 := by decide +kernel
theorem kJ6_numberOfTrailingZeros_0f7a4_20 : zD cJ6_numberOfTrailingZeros_0f7a4 20 23 (.ldc_w 264) 3 := by decide +kernel
theorem kJ6_numberOfTrailingZeros_0f7a4_23 : zB cJ6_numberOfTrailingZeros_0f7a4 23 26 34 (.if_icmp .le 11) 11 := by decide +kernel
theorem kJ6_numberOfTrailingZeros_0f7a4_26 : zD cJ6_numberOfTrailingZeros_0f7a4 26 29 (.iinc 1 16) 3 := by decide +kernel
theorem kJ6_numberOfTrailingZeros_0f7a4_29 : zD cJ6_numberOfTrailingZeros_0f7a4 29 30 (.iload_n 0) 1 := by decide +kernel
theorem kJ6_numberOfTrailingZeros_0f7a4_30 : zD cJ6_numberOfTrailingZeros_0f7a4 30 32 (.bipush 16) 2 := by decide +kernel
theorem kJ6_numberOfTrailingZeros_0f7a4_32 : zD cJ6_numberOfTrailingZeros_0f7a4 32 33 (.iushr) 1 := by decide +kernel
theorem kJ6_numberOfTrailingZeros_0f7a4_33 : zD cJ6_numberOfTrailingZeros_0f7a4 33 34 (.istore_n 0) 1 := by decide +kernel
theorem kJ6_numberOfTrailingZeros_0f7a4_34 : zD cJ6_numberOfTrailingZeros_0f7a4 34 35 (.iload_n 0) 1 := by decide +kernel
theorem kJ6_numberOfTrailingZeros_0f7a4_35 : zD cJ6_numberOfTrailingZeros_0f7a4 35 38 (.sipush 256) 3 := by decide +kernel
theorem kJ6_numberOfTrailingZeros_0f7a4_38 : zB cJ6_numberOfTrailingZeros_0f7a4 38 41 49 (.if_icmp .le 11) 11 := by decide +kernel
theorem kJ6_numberOfTrailingZeros_0f7a4_41 : zD cJ6_numberOfTrailingZeros_0f7a4 41 44 (.iinc 1 8) 3 := by decide +kernel
theorem kJ6_numberOfTrailingZeros_0f7a4_44 : zD cJ6_numberOfTrailingZeros_0f7a4 44 45 (.iload_n 0) 1 := by decide +kernel
theorem kJ6_numberOfTrailingZeros_0f7a4_45 : zD cJ6_numberOfTrailingZeros_0f7a4 45 47 (.bipush 8) 2 := by decide +kernel
theorem kJ6_numberOfTrailingZeros_0f7a4_47 : zD cJ6_numberOfTrailingZeros_0f7a4 47 48 (.iushr) 1 := by decide +kernel
theorem kJ6_numberOfTrailingZeros_0f7a4_48 : zD cJ6_numberOfTrailingZeros_0f7a4 48 49 (.istore_n 0) 1 := by decide +kernel
theorem kJ6_numberOfTrailingZeros_0f7a4_49 : zD cJ6_numberOfTrailingZeros_0f7a4 49 50 (.iload_n 0) 1 := by decide +kernel
theorem kJ6_numberOfTrailingZeros_0f7a4_50 : zD cJ6_numberOfTrailingZeros_0f7a4 50 52 (.bipush 16) 2 := by decide +kernel
theorem kJ6_numberOfTrailingZeros_0f7a4_52 : zB cJ6_numberOfTrailingZeros_0f7a4 52 55 62 (.if_icmp .le 10) 10 := by decide +kernel
theorem kJ6_numberOfTrailingZeros_0f7a4_55 : zD cJ6_numberOfTrailingZeros_0f7a4 55 58 (.iinc 1 4) 3 := by decide +kernel
theorem kJ6_numberOfTrailingZeros_0f7a4_58 : zD cJ6_numberOfTrailingZeros_0f7a4 58 59 (.iload_n 0) 1 := by decide +kernel
theorem kJ6_numberOfTrailingZeros_0f7a4_59 : zD cJ6_numberOfTrailingZeros_0f7a4 59 60 (.iconst 4) 1 := by decide +kernel
theorem kJ6_numberOfTrailingZeros_0f7a4_60 : zD cJ6_numberOfTrailingZeros_0f7a4 60 61 (.iushr) 1 := by decide +kernel
theorem kJ6_numberOfTrailingZeros_0f7a4_61 : zD cJ6_numberOfTrailingZeros_0f7a4 61 62 (.istore_n 0) 1 := by decide +kernel
theorem kJ6_numberOfTrailingZeros_0f7a4_62 : zD cJ6_numberOfTrailingZeros_0f7a4 62 63 (.iload_n 0) 1 := by decide +kernel
theorem kJ6_numberOfTrailingZeros_0f7a4_63 : zD cJ6_numberOfTrailingZeros_0f7a4 63 64 (.iconst 4) 1 := by decide +kernel
theorem kJ6_numberOfTrailingZeros_0f7a4_64 : zB cJ6_numberOfTrailingZeros_0f7a4 64 67 74 (.if_icmp .le 10) 10 := by decide +kernel
theorem kJ6_numberOfTrailingZeros_0f7a4_67 : zD cJ6_numberOfTrailingZeros_0f7a4 67 70 (.iinc 1 2) 3 := by decide +kernel
theorem kJ6_numberOfTrailingZeros_0f7a4_70 : zD cJ6_numberOfTrailingZeros_0f7a4 70 71 (.iload_n 0) 1 := by decide +kernel
theorem kJ6_numberOfTrailingZeros_0f7a4_71 : zD cJ6_numberOfTrailingZeros_0f7a4 71 72 (.iconst 2) 1 := by decide +kernel
theorem kJ6_numberOfTrailingZeros_0f7a4_72 : zD cJ6_numberOfTrailingZeros_0f7a4 72 73 (.iushr) 1 := by decide +kernel
theorem kJ6_numberOfTrailingZeros_0f7a4_73 : zD cJ6_numberOfTrailingZeros_0f7a4 73 74 (.istore_n 0) 1 := by decide +kernel
theorem kJ6_numberOfTrailingZeros_0f7a4_74 : zD cJ6_numberOfTrailingZeros_0f7a4 74 75 (.iload_n 1) 1 := by decide +kernel
theorem kJ6_numberOfTrailingZeros_0f7a4_75 : zD cJ6_numberOfTrailingZeros_0f7a4 75 76 (.iload_n 0) 1 := by decide +kernel
theorem kJ6_numberOfTrailingZeros_0f7a4_76 : zD cJ6_numberOfTrailingZeros_0f7a4 76 77 (.iconst 1) 1 := by decide +kernel
theorem kJ6_numberOfTrailingZeros_0f7a4_77 : zD cJ6_numberOfTrailingZeros_0f7a4 77 78 (.iushr) 1 := by decide +kernel
theorem kJ6_numberOfTrailingZeros_0f7a4_78 : zD cJ6_numberOfTrailingZeros_0f7a4 78 79 (.iadd) 1 := by decide +kernel
theorem kJ6_numberOfTrailingZeros_0f7a4_79 : zD cJ6_numberOfTrailingZeros_0f7a4 79 80 (.ireturn) 1 := by decide +kernel
set_option maxRecDepth 10000 in
theorem wJ6_numberOfTrailingZeros_0f7a4_0 {G : ZG} {d : Nat} {h : ZH} {Q : Option ZV → ZH → Prop} {x0 : Int32} 
  (H : (0 < ((x0 ^^^ (-1)) &&& (x0 - 1)) → (((x0 ^^^ (-1)) &&& (x0 - 1)) ≤ 65536 → (((x0 ^^^ (-1)) &&& (x0 - 1)) ≤ 256 → (((x0 ^^^ (-1)) &&& (x0 - 1)) ≤ 16 → (((x0 ^^^ (-1)) &&& (x0 - 1)) ≤ 4 → Q (some (zi (1 + (((((x0 ^^^ (-1)) &&& (x0 - 1))).toUInt32 >>> ((1 : Int32).toUInt32 &&& Int32.toUInt32 31)).toInt32)))) h) ∧ (¬ ((x0 ^^^ (-1)) &&& (x0 - 1)) ≤ 4 → ∀ y1 : Int32, y1 = (((((x0 ^^^ (-1)) &&& (x0 - 1))).toUInt32 >>> ((2 : Int32).toUInt32 &&& Int32.toUInt32 31)).toInt32) → Q (some (zi (((1 : Int32) + 2) + (((y1).toUInt32 >>> ((1 : Int32).toUInt32 &&& Int32.toUInt32 31)).toInt32)))) h)) ∧ (¬ ((x0 ^^^ (-1)) &&& (x0 - 1)) ≤ 16 → ∀ y2 : Int32, y2 = (((((x0 ^^^ (-1)) &&& (x0 - 1))).toUInt32 >>> ((4 : Int32).toUInt32 &&& Int32.toUInt32 31)).toInt32) → (y2 ≤ 4 → Q (some (zi (((1 : Int32) + 4) + (((y2).toUInt32 >>> ((1 : Int32).toUInt32 &&& Int32.toUInt32 31)).toInt32)))) h) ∧ (¬ y2 ≤ 4 → ∀ y3 : Int32, y3 = (((y2).toUInt32 >>> ((2 : Int32).toUInt32 &&& Int32.toUInt32 31)).toInt32) → Q (some (zi ((((1 : Int32) + 4) + 2) + (((y3).toUInt32 >>> ((1 : Int32).toUInt32 &&& Int32.toUInt32 31)).toInt32)))) h))) ∧ (¬ ((x0 ^^^ (-1)) &&& (x0 - 1)) ≤ 256 → ∀ y4 : Int32, y4 = (((((x0 ^^^ (-1)) &&& (x0 - 1))).toUInt32 >>> ((8 : Int32).toUInt32 &&& Int32.toUInt32 31)).toInt32) → (y4 ≤ 16 → (y4 ≤ 4 → Q (some (zi (((1 : Int32) + 8) + (((y4).toUInt32 >>> ((1 : Int32).toUInt32 &&& Int32.toUInt32 31)).toInt32)))) h) ∧ (¬ y4 ≤ 4 → ∀ y5 : Int32, y5 = (((y4).toUInt32 >>> ((2 : Int32).toUInt32 &&& Int32.toUInt32 31)).toInt32) → Q (some (zi ((((1 : Int32) + 8) + 2) + (((y5).toUInt32 >>> ((1 : Int32).toUInt32 &&& Int32.toUInt32 31)).toInt32)))) h)) ∧ (¬ y4 ≤ 16 → ∀ y6 : Int32, y6 = (((y4).toUInt32 >>> ((4 : Int32).toUInt32 &&& Int32.toUInt32 31)).toInt32) → (y6 ≤ 4 → Q (some (zi ((((1 : Int32) + 8) + 4) + (((y6).toUInt32 >>> ((1 : Int32).toUInt32 &&& Int32.toUInt32 31)).toInt32)))) h) ∧ (¬ y6 ≤ 4 → ∀ y7 : Int32, y7 = (((y6).toUInt32 >>> ((2 : Int32).toUInt32 &&& Int32.toUInt32 31)).toInt32) → Q (some (zi (((((1 : Int32) + 8) + 4) + 2) + (((y7).toUInt32 >>> ((1 : Int32).toUInt32 &&& Int32.toUInt32 31)).toInt32)))) h)))) ∧ (¬ ((x0 ^^^ (-1)) &&& (x0 - 1)) ≤ 65536 → ∀ y8 : Int32, y8 = (((((x0 ^^^ (-1)) &&& (x0 - 1))).toUInt32 >>> ((16 : Int32).toUInt32 &&& Int32.toUInt32 31)).toInt32) → (y8 ≤ 256 → (y8 ≤ 16 → (y8 ≤ 4 → Q (some (zi (((1 : Int32) + 16) + (((y8).toUInt32 >>> ((1 : Int32).toUInt32 &&& Int32.toUInt32 31)).toInt32)))) h) ∧ (¬ y8 ≤ 4 → ∀ y9 : Int32, y9 = (((y8).toUInt32 >>> ((2 : Int32).toUInt32 &&& Int32.toUInt32 31)).toInt32) → Q (some (zi ((((1 : Int32) + 16) + 2) + (((y9).toUInt32 >>> ((1 : Int32).toUInt32 &&& Int32.toUInt32 31)).toInt32)))) h)) ∧ (¬ y8 ≤ 16 → ∀ y10 : Int32, y10 = (((y8).toUInt32 >>> ((4 : Int32).toUInt32 &&& Int32.toUInt32 31)).toInt32) → (y10 ≤ 4 → Q (some (zi ((((1 : Int32) + 16) + 4) + (((y10).toUInt32 >>> ((1 : Int32).toUInt32 &&& Int32.toUInt32 31)).toInt32)))) h) ∧ (¬ y10 ≤ 4 → ∀ y11 : Int32, y11 = (((y10).toUInt32 >>> ((2 : Int32).toUInt32 &&& Int32.toUInt32 31)).toInt32) → Q (some (zi (((((1 : Int32) + 16) + 4) + 2) + (((y11).toUInt32 >>> ((1 : Int32).toUInt32 &&& Int32.toUInt32 31)).toInt32)))) h))) ∧ (¬ y8 ≤ 256 → ∀ y12 : Int32, y12 = (((y8).toUInt32 >>> ((8 : Int32).toUInt32 &&& Int32.toUInt32 31)).toInt32) → (y12 ≤ 16 → (y12 ≤ 4 → Q (some (zi ((((1 : Int32) + 16) + 8) + (((y12).toUInt32 >>> ((1 : Int32).toUInt32 &&& Int32.toUInt32 31)).toInt32)))) h) ∧ (¬ y12 ≤ 4 → ∀ y13 : Int32, y13 = (((y12).toUInt32 >>> ((2 : Int32).toUInt32 &&& Int32.toUInt32 31)).toInt32) → Q (some (zi (((((1 : Int32) + 16) + 8) + 2) + (((y13).toUInt32 >>> ((1 : Int32).toUInt32 &&& Int32.toUInt32 31)).toInt32)))) h)) ∧ (¬ y12 ≤ 16 → ∀ y14 : Int32, y14 = (((y12).toUInt32 >>> ((4 : Int32).toUInt32 &&& Int32.toUInt32 31)).toInt32) → (y14 ≤ 4 → Q (some (zi (((((1 : Int32) + 16) + 8) + 4) + (((y14).toUInt32 >>> ((1 : Int32).toUInt32 &&& Int32.toUInt32 31)).toInt32)))) h) ∧ (¬ y14 ≤ 4 → ∀ y15 : Int32, y15 = (((y14).toUInt32 >>> ((2 : Int32).toUInt32 &&& Int32.toUInt32 31)).toInt32) → Q (some (zi ((((((1 : Int32) + 16) + 8) + 4) + 2) + (((y15).toUInt32 >>> ((1 : Int32).toUInt32 &&& Int32.toUInt32 31)).toInt32)))) h))))) ∧ (¬ 0 < ((x0 ^^^ (-1)) &&& (x0 - 1)) → Q (some (zi (((x0 ^^^ (-1)) &&& (x0 - 1)) &&& 32))) h)) :
  zT G (d + 1) mJ6_numberOfTrailingZeros_0f7a4 0 [zi x0, zu] [] h Q := by
  refine zt_iload_n kJ6_numberOfTrailingZeros_0f7a4_0 rfl ?_
  refine zt_iconst (v := (-1)) kJ6_numberOfTrailingZeros_0f7a4_1 rfl ?_
  refine zt_ixor kJ6_numberOfTrailingZeros_0f7a4_2 ?_
  refine zt_iload_n kJ6_numberOfTrailingZeros_0f7a4_3 rfl ?_
  refine zt_iconst (v := 1) kJ6_numberOfTrailingZeros_0f7a4_4 rfl ?_
  refine zt_isub kJ6_numberOfTrailingZeros_0f7a4_5 ?_
  refine zt_iand kJ6_numberOfTrailingZeros_0f7a4_6 ?_
  refine zt_istore_n (L' := [zi ((x0 ^^^ (-1)) &&& (x0 - 1)), zu]) kJ6_numberOfTrailingZeros_0f7a4_7 (by decide) rfl ?_
  refine zt_iload_n kJ6_numberOfTrailingZeros_0f7a4_8 rfl ?_
  refine zt_if_gt kJ6_numberOfTrailingZeros_0f7a4_9 (fun c => ?_) (fun c => ?_)
  · replace H := H.1 c
    refine zt_iconst (v := 1) kJ6_numberOfTrailingZeros_0f7a4_17 rfl ?_
    refine zt_istore_n (L' := [zi ((x0 ^^^ (-1)) &&& (x0 - 1)), zi 1]) kJ6_numberOfTrailingZeros_0f7a4_18 (by decide) rfl ?_
    refine zt_iload_n kJ6_numberOfTrailingZeros_0f7a4_19 rfl ?_
    refine zt_ldcw (v := 65536) kJ6_numberOfTrailingZeros_0f7a4_20 wm_509 ?_
    refine zt_icmp_le kJ6_numberOfTrailingZeros_0f7a4_23 (fun c => ?_) (fun c => ?_)
    · replace H := H.1 c
      refine zt_iload_n kJ6_numberOfTrailingZeros_0f7a4_34 rfl ?_
      refine zt_sipush (v := 256) kJ6_numberOfTrailingZeros_0f7a4_35 rfl ?_
      refine zt_icmp_le kJ6_numberOfTrailingZeros_0f7a4_38 (fun c => ?_) (fun c => ?_)
      · replace H := H.1 c
        refine zt_iload_n kJ6_numberOfTrailingZeros_0f7a4_49 rfl ?_
        refine zt_bipush (v := 16) kJ6_numberOfTrailingZeros_0f7a4_50 rfl ?_
        refine zt_icmp_le kJ6_numberOfTrailingZeros_0f7a4_52 (fun c => ?_) (fun c => ?_)
        · replace H := H.1 c
          refine zt_iload_n kJ6_numberOfTrailingZeros_0f7a4_62 rfl ?_
          refine zt_iconst (v := 4) kJ6_numberOfTrailingZeros_0f7a4_63 rfl ?_
          refine zt_icmp_le kJ6_numberOfTrailingZeros_0f7a4_64 (fun c => ?_) (fun c => ?_)
          · replace H := H.1 c
            refine zt_iload_n kJ6_numberOfTrailingZeros_0f7a4_74 rfl ?_
            refine zt_iload_n kJ6_numberOfTrailingZeros_0f7a4_75 rfl ?_
            refine zt_iconst (v := 1) kJ6_numberOfTrailingZeros_0f7a4_76 rfl ?_
            refine zt_iushr kJ6_numberOfTrailingZeros_0f7a4_77 ?_
            refine zt_iadd kJ6_numberOfTrailingZeros_0f7a4_78 ?_
            exact zt_iret kJ6_numberOfTrailingZeros_0f7a4_79 rfl H
          · replace H := H.2 c
            refine zt_iinc (v := ((1 : Int32) + 2)) (L' := [zi ((x0 ^^^ (-1)) &&& (x0 - 1)), zi ((1 : Int32) + 2)]) kJ6_numberOfTrailingZeros_0f7a4_67 rfl rfl (by decide) rfl ?_
            refine zt_iload_n kJ6_numberOfTrailingZeros_0f7a4_70 rfl ?_
            refine zt_iconst (v := 2) kJ6_numberOfTrailingZeros_0f7a4_71 rfl ?_
            refine zt_iushr kJ6_numberOfTrailingZeros_0f7a4_72 ?_
            refine zt_topi (fun y1 ey1 => ?_)
            replace H := H y1 ey1
            refine zt_istore_n (L' := [zi y1, zi ((1 : Int32) + 2)]) kJ6_numberOfTrailingZeros_0f7a4_73 (by decide) rfl ?_
            refine zt_iload_n kJ6_numberOfTrailingZeros_0f7a4_74 rfl ?_
            refine zt_iload_n kJ6_numberOfTrailingZeros_0f7a4_75 rfl ?_
            refine zt_iconst (v := 1) kJ6_numberOfTrailingZeros_0f7a4_76 rfl ?_
            refine zt_iushr kJ6_numberOfTrailingZeros_0f7a4_77 ?_
            refine zt_iadd kJ6_numberOfTrailingZeros_0f7a4_78 ?_
            exact zt_iret kJ6_numberOfTrailingZeros_0f7a4_79 rfl H
        · replace H := H.2 c
          refine zt_iinc (v := ((1 : Int32) + 4)) (L' := [zi ((x0 ^^^ (-1)) &&& (x0 - 1)), zi ((1 : Int32) + 4)]) kJ6_numberOfTrailingZeros_0f7a4_55 rfl rfl (by decide) rfl ?_
          refine zt_iload_n kJ6_numberOfTrailingZeros_0f7a4_58 rfl ?_
          refine zt_iconst (v := 4) kJ6_numberOfTrailingZeros_0f7a4_59 rfl ?_
          refine zt_iushr kJ6_numberOfTrailingZeros_0f7a4_60 ?_
          refine zt_topi (fun y2 ey2 => ?_)
          replace H := H y2 ey2
          refine zt_istore_n (L' := [zi y2, zi ((1 : Int32) + 4)]) kJ6_numberOfTrailingZeros_0f7a4_61 (by decide) rfl ?_
          refine zt_iload_n kJ6_numberOfTrailingZeros_0f7a4_62 rfl ?_
          refine zt_iconst (v := 4) kJ6_numberOfTrailingZeros_0f7a4_63 rfl ?_
          refine zt_icmp_le kJ6_numberOfTrailingZeros_0f7a4_64 (fun c => ?_) (fun c => ?_)
          · replace H := H.1 c
            refine zt_iload_n kJ6_numberOfTrailingZeros_0f7a4_74 rfl ?_
            refine zt_iload_n kJ6_numberOfTrailingZeros_0f7a4_75 rfl ?_
            refine zt_iconst (v := 1) kJ6_numberOfTrailingZeros_0f7a4_76 rfl ?_
            refine zt_iushr kJ6_numberOfTrailingZeros_0f7a4_77 ?_
            refine zt_iadd kJ6_numberOfTrailingZeros_0f7a4_78 ?_
            exact zt_iret kJ6_numberOfTrailingZeros_0f7a4_79 rfl H
          · replace H := H.2 c
            refine zt_iinc (v := (((1 : Int32) + 4) + 2)) (L' := [zi y2, zi (((1 : Int32) + 4) + 2)]) kJ6_numberOfTrailingZeros_0f7a4_67 rfl rfl (by decide) rfl ?_
            refine zt_iload_n kJ6_numberOfTrailingZeros_0f7a4_70 rfl ?_
            refine zt_iconst (v := 2) kJ6_numberOfTrailingZeros_0f7a4_71 rfl ?_
            refine zt_iushr kJ6_numberOfTrailingZeros_0f7a4_72 ?_
            refine zt_topi (fun y3 ey3 => ?_)
            replace H := H y3 ey3
            refine zt_istore_n (L' := [zi y3, zi (((1 : Int32) + 4) + 2)]) kJ6_numberOfTrailingZeros_0f7a4_73 (by decide) rfl ?_
            refine zt_iload_n kJ6_numberOfTrailingZeros_0f7a4_74 rfl ?_
            refine zt_iload_n kJ6_numberOfTrailingZeros_0f7a4_75 rfl ?_
            refine zt_iconst (v := 1) kJ6_numberOfTrailingZeros_0f7a4_76 rfl ?_
            refine zt_iushr kJ6_numberOfTrailingZeros_0f7a4_77 ?_
            refine zt_iadd kJ6_numberOfTrailingZeros_0f7a4_78 ?_
            exact zt_iret kJ6_numberOfTrailingZeros_0f7a4_79 rfl H
      · replace H := H.2 c
        refine zt_iinc (v := ((1 : Int32) + 8)) (L' := [zi ((x0 ^^^ (-1)) &&& (x0 - 1)), zi ((1 : Int32) + 8)]) kJ6_numberOfTrailingZeros_0f7a4_41 rfl rfl (by decide) rfl ?_
        refine zt_iload_n kJ6_numberOfTrailingZeros_0f7a4_44 rfl ?_
        refine zt_bipush (v := 8) kJ6_numberOfTrailingZeros_0f7a4_45 rfl ?_
        refine zt_iushr kJ6_numberOfTrailingZeros_0f7a4_47 ?_
        refine zt_topi (fun y4 ey4 => ?_)
        replace H := H y4 ey4
        refine zt_istore_n (L' := [zi y4, zi ((1 : Int32) + 8)]) kJ6_numberOfTrailingZeros_0f7a4_48 (by decide) rfl ?_
        refine zt_iload_n kJ6_numberOfTrailingZeros_0f7a4_49 rfl ?_
        refine zt_bipush (v := 16) kJ6_numberOfTrailingZeros_0f7a4_50 rfl ?_
        refine zt_icmp_le kJ6_numberOfTrailingZeros_0f7a4_52 (fun c => ?_) (fun c => ?_)
        · replace H := H.1 c
          refine zt_iload_n kJ6_numberOfTrailingZeros_0f7a4_62 rfl ?_
          refine zt_iconst (v := 4) kJ6_numberOfTrailingZeros_0f7a4_63 rfl ?_
          refine zt_icmp_le kJ6_numberOfTrailingZeros_0f7a4_64 (fun c => ?_) (fun c => ?_)
          · replace H := H.1 c
            refine zt_iload_n kJ6_numberOfTrailingZeros_0f7a4_74 rfl ?_
            refine zt_iload_n kJ6_numberOfTrailingZeros_0f7a4_75 rfl ?_
            refine zt_iconst (v := 1) kJ6_numberOfTrailingZeros_0f7a4_76 rfl ?_
            refine zt_iushr kJ6_numberOfTrailingZeros_0f7a4_77 ?_
            refine zt_iadd kJ6_numberOfTrailingZeros_0f7a4_78 ?_
            exact zt_iret kJ6_numberOfTrailingZeros_0f7a4_79 rfl H
          · replace H := H.2 c
            refine zt_iinc (v := (((1 : Int32) + 8) + 2)) (L' := [zi y4, zi (((1 : Int32) + 8) + 2)]) kJ6_numberOfTrailingZeros_0f7a4_67 rfl rfl (by decide) rfl ?_
            refine zt_iload_n kJ6_numberOfTrailingZeros_0f7a4_70 rfl ?_
            refine zt_iconst (v := 2) kJ6_numberOfTrailingZeros_0f7a4_71 rfl ?_
            refine zt_iushr kJ6_numberOfTrailingZeros_0f7a4_72 ?_
            refine zt_topi (fun y5 ey5 => ?_)
            replace H := H y5 ey5
            refine zt_istore_n (L' := [zi y5, zi (((1 : Int32) + 8) + 2)]) kJ6_numberOfTrailingZeros_0f7a4_73 (by decide) rfl ?_
            refine zt_iload_n kJ6_numberOfTrailingZeros_0f7a4_74 rfl ?_
            refine zt_iload_n kJ6_numberOfTrailingZeros_0f7a4_75 rfl ?_
            refine zt_iconst (v := 1) kJ6_numberOfTrailingZeros_0f7a4_76 rfl ?_
            refine zt_iushr kJ6_numberOfTrailingZeros_0f7a4_77 ?_
            refine zt_iadd kJ6_numberOfTrailingZeros_0f7a4_78 ?_
            exact zt_iret kJ6_numberOfTrailingZeros_0f7a4_79 rfl H
        · replace H := H.2 c
          refine zt_iinc (v := (((1 : Int32) + 8) + 4)) (L' := [zi y4, zi (((1 : Int32) + 8) + 4)]) kJ6_numberOfTrailingZeros_0f7a4_55 rfl rfl (by decide) rfl ?_
          refine zt_iload_n kJ6_numberOfTrailingZeros_0f7a4_58 rfl ?_
          refine zt_iconst (v := 4) kJ6_numberOfTrailingZeros_0f7a4_59 rfl ?_
          refine zt_iushr kJ6_numberOfTrailingZeros_0f7a4_60 ?_
          refine zt_topi (fun y6 ey6 => ?_)
          replace H := H y6 ey6
          refine zt_istore_n (L' := [zi y6, zi (((1 : Int32) + 8) + 4)]) kJ6_numberOfTrailingZeros_0f7a4_61 (by decide) rfl ?_
          refine zt_iload_n kJ6_numberOfTrailingZeros_0f7a4_62 rfl ?_
          refine zt_iconst (v := 4) kJ6_numberOfTrailingZeros_0f7a4_63 rfl ?_
          refine zt_icmp_le kJ6_numberOfTrailingZeros_0f7a4_64 (fun c => ?_) (fun c => ?_)
          · replace H := H.1 c
            refine zt_iload_n kJ6_numberOfTrailingZeros_0f7a4_74 rfl ?_
            refine zt_iload_n kJ6_numberOfTrailingZeros_0f7a4_75 rfl ?_
            refine zt_iconst (v := 1) kJ6_numberOfTrailingZeros_0f7a4_76 rfl ?_
            refine zt_iushr kJ6_numberOfTrailingZeros_0f7a4_77 ?_
            refine zt_iadd kJ6_numberOfTrailingZeros_0f7a4_78 ?_
            exact zt_iret kJ6_numberOfTrailingZeros_0f7a4_79 rfl H
          · replace H := H.2 c
            refine zt_iinc (v := ((((1 : Int32) + 8) + 4) + 2)) (L' := [zi y6, zi ((((1 : Int32) + 8) + 4) + 2)]) kJ6_numberOfTrailingZeros_0f7a4_67 rfl rfl (by decide) rfl ?_
            refine zt_iload_n kJ6_numberOfTrailingZeros_0f7a4_70 rfl ?_
            refine zt_iconst (v := 2) kJ6_numberOfTrailingZeros_0f7a4_71 rfl ?_
            refine zt_iushr kJ6_numberOfTrailingZeros_0f7a4_72 ?_
            refine zt_topi (fun y7 ey7 => ?_)
            replace H := H y7 ey7
            refine zt_istore_n (L' := [zi y7, zi ((((1 : Int32) + 8) + 4) + 2)]) kJ6_numberOfTrailingZeros_0f7a4_73 (by decide) rfl ?_
            refine zt_iload_n kJ6_numberOfTrailingZeros_0f7a4_74 rfl ?_
            refine zt_iload_n kJ6_numberOfTrailingZeros_0f7a4_75 rfl ?_
            refine zt_iconst (v := 1) kJ6_numberOfTrailingZeros_0f7a4_76 rfl ?_
            refine zt_iushr kJ6_numberOfTrailingZeros_0f7a4_77 ?_
            refine zt_iadd kJ6_numberOfTrailingZeros_0f7a4_78 ?_
            exact zt_iret kJ6_numberOfTrailingZeros_0f7a4_79 rfl H
    · replace H := H.2 c
      refine zt_iinc (v := ((1 : Int32) + 16)) (L' := [zi ((x0 ^^^ (-1)) &&& (x0 - 1)), zi ((1 : Int32) + 16)]) kJ6_numberOfTrailingZeros_0f7a4_26 rfl rfl (by decide) rfl ?_
      refine zt_iload_n kJ6_numberOfTrailingZeros_0f7a4_29 rfl ?_
      refine zt_bipush (v := 16) kJ6_numberOfTrailingZeros_0f7a4_30 rfl ?_
      refine zt_iushr kJ6_numberOfTrailingZeros_0f7a4_32 ?_
      refine zt_topi (fun y8 ey8 => ?_)
      replace H := H y8 ey8
      refine zt_istore_n (L' := [zi y8, zi ((1 : Int32) + 16)]) kJ6_numberOfTrailingZeros_0f7a4_33 (by decide) rfl ?_
      refine zt_iload_n kJ6_numberOfTrailingZeros_0f7a4_34 rfl ?_
      refine zt_sipush (v := 256) kJ6_numberOfTrailingZeros_0f7a4_35 rfl ?_
      refine zt_icmp_le kJ6_numberOfTrailingZeros_0f7a4_38 (fun c => ?_) (fun c => ?_)
      · replace H := H.1 c
        refine zt_iload_n kJ6_numberOfTrailingZeros_0f7a4_49 rfl ?_
        refine zt_bipush (v := 16) kJ6_numberOfTrailingZeros_0f7a4_50 rfl ?_
        refine zt_icmp_le kJ6_numberOfTrailingZeros_0f7a4_52 (fun c => ?_) (fun c => ?_)
        · replace H := H.1 c
          refine zt_iload_n kJ6_numberOfTrailingZeros_0f7a4_62 rfl ?_
          refine zt_iconst (v := 4) kJ6_numberOfTrailingZeros_0f7a4_63 rfl ?_
          refine zt_icmp_le kJ6_numberOfTrailingZeros_0f7a4_64 (fun c => ?_) (fun c => ?_)
          · replace H := H.1 c
            refine zt_iload_n kJ6_numberOfTrailingZeros_0f7a4_74 rfl ?_
            refine zt_iload_n kJ6_numberOfTrailingZeros_0f7a4_75 rfl ?_
            refine zt_iconst (v := 1) kJ6_numberOfTrailingZeros_0f7a4_76 rfl ?_
            refine zt_iushr kJ6_numberOfTrailingZeros_0f7a4_77 ?_
            refine zt_iadd kJ6_numberOfTrailingZeros_0f7a4_78 ?_
            exact zt_iret kJ6_numberOfTrailingZeros_0f7a4_79 rfl H
          · replace H := H.2 c
            refine zt_iinc (v := (((1 : Int32) + 16) + 2)) (L' := [zi y8, zi (((1 : Int32) + 16) + 2)]) kJ6_numberOfTrailingZeros_0f7a4_67 rfl rfl (by decide) rfl ?_
            refine zt_iload_n kJ6_numberOfTrailingZeros_0f7a4_70 rfl ?_
            refine zt_iconst (v := 2) kJ6_numberOfTrailingZeros_0f7a4_71 rfl ?_
            refine zt_iushr kJ6_numberOfTrailingZeros_0f7a4_72 ?_
            refine zt_topi (fun y9 ey9 => ?_)
            replace H := H y9 ey9
            refine zt_istore_n (L' := [zi y9, zi (((1 : Int32) + 16) + 2)]) kJ6_numberOfTrailingZeros_0f7a4_73 (by decide) rfl ?_
            refine zt_iload_n kJ6_numberOfTrailingZeros_0f7a4_74 rfl ?_
            refine zt_iload_n kJ6_numberOfTrailingZeros_0f7a4_75 rfl ?_
            refine zt_iconst (v := 1) kJ6_numberOfTrailingZeros_0f7a4_76 rfl ?_
            refine zt_iushr kJ6_numberOfTrailingZeros_0f7a4_77 ?_
            refine zt_iadd kJ6_numberOfTrailingZeros_0f7a4_78 ?_
            exact zt_iret kJ6_numberOfTrailingZeros_0f7a4_79 rfl H
        · replace H := H.2 c
          refine zt_iinc (v := (((1 : Int32) + 16) + 4)) (L' := [zi y8, zi (((1 : Int32) + 16) + 4)]) kJ6_numberOfTrailingZeros_0f7a4_55 rfl rfl (by decide) rfl ?_
          refine zt_iload_n kJ6_numberOfTrailingZeros_0f7a4_58 rfl ?_
          refine zt_iconst (v := 4) kJ6_numberOfTrailingZeros_0f7a4_59 rfl ?_
          refine zt_iushr kJ6_numberOfTrailingZeros_0f7a4_60 ?_
          refine zt_topi (fun y10 ey10 => ?_)
          replace H := H y10 ey10
          refine zt_istore_n (L' := [zi y10, zi (((1 : Int32) + 16) + 4)]) kJ6_numberOfTrailingZeros_0f7a4_61 (by decide) rfl ?_
          refine zt_iload_n kJ6_numberOfTrailingZeros_0f7a4_62 rfl ?_
          refine zt_iconst (v := 4) kJ6_numberOfTrailingZeros_0f7a4_63 rfl ?_
          refine zt_icmp_le kJ6_numberOfTrailingZeros_0f7a4_64 (fun c => ?_) (fun c => ?_)
          · replace H := H.1 c
            refine zt_iload_n kJ6_numberOfTrailingZeros_0f7a4_74 rfl ?_
            refine zt_iload_n kJ6_numberOfTrailingZeros_0f7a4_75 rfl ?_
            refine zt_iconst (v := 1) kJ6_numberOfTrailingZeros_0f7a4_76 rfl ?_
            refine zt_iushr kJ6_numberOfTrailingZeros_0f7a4_77 ?_
            refine zt_iadd kJ6_numberOfTrailingZeros_0f7a4_78 ?_
            exact zt_iret kJ6_numberOfTrailingZeros_0f7a4_79 rfl H
          · replace H := H.2 c
            refine zt_iinc (v := ((((1 : Int32) + 16) + 4) + 2)) (L' := [zi y10, zi ((((1 : Int32) + 16) + 4) + 2)]) kJ6_numberOfTrailingZeros_0f7a4_67 rfl rfl (by decide) rfl ?_
            refine zt_iload_n kJ6_numberOfTrailingZeros_0f7a4_70 rfl ?_
            refine zt_iconst (v := 2) kJ6_numberOfTrailingZeros_0f7a4_71 rfl ?_
            refine zt_iushr kJ6_numberOfTrailingZeros_0f7a4_72 ?_
            refine zt_topi (fun y11 ey11 => ?_)
            replace H := H y11 ey11
            refine zt_istore_n (L' := [zi y11, zi ((((1 : Int32) + 16) + 4) + 2)]) kJ6_numberOfTrailingZeros_0f7a4_73 (by decide) rfl ?_
            refine zt_iload_n kJ6_numberOfTrailingZeros_0f7a4_74 rfl ?_
            refine zt_iload_n kJ6_numberOfTrailingZeros_0f7a4_75 rfl ?_
            refine zt_iconst (v := 1) kJ6_numberOfTrailingZeros_0f7a4_76 rfl ?_
            refine zt_iushr kJ6_numberOfTrailingZeros_0f7a4_77 ?_
            refine zt_iadd kJ6_numberOfTrailingZeros_0f7a4_78 ?_
            exact zt_iret kJ6_numberOfTrailingZeros_0f7a4_79 rfl H
      · replace H := H.2 c
        refine zt_iinc (v := (((1 : Int32) + 16) + 8)) (L' := [zi y8, zi (((1 : Int32) + 16) + 8)]) kJ6_numberOfTrailingZeros_0f7a4_41 rfl rfl (by decide) rfl ?_
        refine zt_iload_n kJ6_numberOfTrailingZeros_0f7a4_44 rfl ?_
        refine zt_bipush (v := 8) kJ6_numberOfTrailingZeros_0f7a4_45 rfl ?_
        refine zt_iushr kJ6_numberOfTrailingZeros_0f7a4_47 ?_
        refine zt_topi (fun y12 ey12 => ?_)
        replace H := H y12 ey12
        refine zt_istore_n (L' := [zi y12, zi (((1 : Int32) + 16) + 8)]) kJ6_numberOfTrailingZeros_0f7a4_48 (by decide) rfl ?_
        refine zt_iload_n kJ6_numberOfTrailingZeros_0f7a4_49 rfl ?_
        refine zt_bipush (v := 16) kJ6_numberOfTrailingZeros_0f7a4_50 rfl ?_
        refine zt_icmp_le kJ6_numberOfTrailingZeros_0f7a4_52 (fun c => ?_) (fun c => ?_)
        · replace H := H.1 c
          refine zt_iload_n kJ6_numberOfTrailingZeros_0f7a4_62 rfl ?_
          refine zt_iconst (v := 4) kJ6_numberOfTrailingZeros_0f7a4_63 rfl ?_
          refine zt_icmp_le kJ6_numberOfTrailingZeros_0f7a4_64 (fun c => ?_) (fun c => ?_)
          · replace H := H.1 c
            refine zt_iload_n kJ6_numberOfTrailingZeros_0f7a4_74 rfl ?_
            refine zt_iload_n kJ6_numberOfTrailingZeros_0f7a4_75 rfl ?_
            refine zt_iconst (v := 1) kJ6_numberOfTrailingZeros_0f7a4_76 rfl ?_
            refine zt_iushr kJ6_numberOfTrailingZeros_0f7a4_77 ?_
            refine zt_iadd kJ6_numberOfTrailingZeros_0f7a4_78 ?_
            exact zt_iret kJ6_numberOfTrailingZeros_0f7a4_79 rfl H
          · replace H := H.2 c
            refine zt_iinc (v := ((((1 : Int32) + 16) + 8) + 2)) (L' := [zi y12, zi ((((1 : Int32) + 16) + 8) + 2)]) kJ6_numberOfTrailingZeros_0f7a4_67 rfl rfl (by decide) rfl ?_
            refine zt_iload_n kJ6_numberOfTrailingZeros_0f7a4_70 rfl ?_
            refine zt_iconst (v := 2) kJ6_numberOfTrailingZeros_0f7a4_71 rfl ?_
            refine zt_iushr kJ6_numberOfTrailingZeros_0f7a4_72 ?_
            refine zt_topi (fun y13 ey13 => ?_)
            replace H := H y13 ey13
            refine zt_istore_n (L' := [zi y13, zi ((((1 : Int32) + 16) + 8) + 2)]) kJ6_numberOfTrailingZeros_0f7a4_73 (by decide) rfl ?_
            refine zt_iload_n kJ6_numberOfTrailingZeros_0f7a4_74 rfl ?_
            refine zt_iload_n kJ6_numberOfTrailingZeros_0f7a4_75 rfl ?_
            refine zt_iconst (v := 1) kJ6_numberOfTrailingZeros_0f7a4_76 rfl ?_
            refine zt_iushr kJ6_numberOfTrailingZeros_0f7a4_77 ?_
            refine zt_iadd kJ6_numberOfTrailingZeros_0f7a4_78 ?_
            exact zt_iret kJ6_numberOfTrailingZeros_0f7a4_79 rfl H
        · replace H := H.2 c
          refine zt_iinc (v := ((((1 : Int32) + 16) + 8) + 4)) (L' := [zi y12, zi ((((1 : Int32) + 16) + 8) + 4)]) kJ6_numberOfTrailingZeros_0f7a4_55 rfl rfl (by decide) rfl ?_
          refine zt_iload_n kJ6_numberOfTrailingZeros_0f7a4_58 rfl ?_
          refine zt_iconst (v := 4) kJ6_numberOfTrailingZeros_0f7a4_59 rfl ?_
          refine zt_iushr kJ6_numberOfTrailingZeros_0f7a4_60 ?_
          refine zt_topi (fun y14 ey14 => ?_)
          replace H := H y14 ey14
          refine zt_istore_n (L' := [zi y14, zi ((((1 : Int32) + 16) + 8) + 4)]) kJ6_numberOfTrailingZeros_0f7a4_61 (by decide) rfl ?_
          refine zt_iload_n kJ6_numberOfTrailingZeros_0f7a4_62 rfl ?_
          refine zt_iconst (v := 4) kJ6_numberOfTrailingZeros_0f7a4_63 rfl ?_
          refine zt_icmp_le kJ6_numberOfTrailingZeros_0f7a4_64 (fun c => ?_) (fun c => ?_)
          · replace H := H.1 c
            refine zt_iload_n kJ6_numberOfTrailingZeros_0f7a4_74 rfl ?_
            refine zt_iload_n kJ6_numberOfTrailingZeros_0f7a4_75 rfl ?_
            refine zt_iconst (v := 1) kJ6_numberOfTrailingZeros_0f7a4_76 rfl ?_
            refine zt_iushr kJ6_numberOfTrailingZeros_0f7a4_77 ?_
            refine zt_iadd kJ6_numberOfTrailingZeros_0f7a4_78 ?_
            exact zt_iret kJ6_numberOfTrailingZeros_0f7a4_79 rfl H
          · replace H := H.2 c
            refine zt_iinc (v := (((((1 : Int32) + 16) + 8) + 4) + 2)) (L' := [zi y14, zi (((((1 : Int32) + 16) + 8) + 4) + 2)]) kJ6_numberOfTrailingZeros_0f7a4_67 rfl rfl (by decide) rfl ?_
            refine zt_iload_n kJ6_numberOfTrailingZeros_0f7a4_70 rfl ?_
            refine zt_iconst (v := 2) kJ6_numberOfTrailingZeros_0f7a4_71 rfl ?_
            refine zt_iushr kJ6_numberOfTrailingZeros_0f7a4_72 ?_
            refine zt_topi (fun y15 ey15 => ?_)
            replace H := H y15 ey15
            refine zt_istore_n (L' := [zi y15, zi (((((1 : Int32) + 16) + 8) + 4) + 2)]) kJ6_numberOfTrailingZeros_0f7a4_73 (by decide) rfl ?_
            refine zt_iload_n kJ6_numberOfTrailingZeros_0f7a4_74 rfl ?_
            refine zt_iload_n kJ6_numberOfTrailingZeros_0f7a4_75 rfl ?_
            refine zt_iconst (v := 1) kJ6_numberOfTrailingZeros_0f7a4_76 rfl ?_
            refine zt_iushr kJ6_numberOfTrailingZeros_0f7a4_77 ?_
            refine zt_iadd kJ6_numberOfTrailingZeros_0f7a4_78 ?_
            exact zt_iret kJ6_numberOfTrailingZeros_0f7a4_79 rfl H
  · replace H := H.2 c
    refine zt_iload_n kJ6_numberOfTrailingZeros_0f7a4_12 rfl ?_
    refine zt_bipush (v := 32) kJ6_numberOfTrailingZeros_0f7a4_13 rfl ?_
    refine zt_iand kJ6_numberOfTrailingZeros_0f7a4_15 ?_
    exact zt_iret kJ6_numberOfTrailingZeros_0f7a4_16 rfl H

theorem kJ13_bitCount_95d88_0 : zD cJ13_bitCount_95d88 0 1 (.lload_n 0) 1 := by decide +kernel
theorem kJ13_bitCount_95d88_1 : zD cJ13_bitCount_95d88 1 2 (.lload_n 0) 1 := by decide +kernel
theorem kJ13_bitCount_95d88_2 : zD cJ13_bitCount_95d88 2 3 (.iconst 1) 1 := by decide +kernel
theorem kJ13_bitCount_95d88_3 : zD cJ13_bitCount_95d88 3 4 (.lushr) 1 := by decide +kernel
theorem kJ13_bitCount_95d88_4 : zD cJ13_bitCount_95d88 4 7 (.ldc2_w 314) 3 := by decide +kernel
theorem kJ13_bitCount_95d88_7 : zD cJ13_bitCount_95d88 7 8 (.land) 1 := by decide +kernel
theorem kJ13_bitCount_95d88_8 : zD cJ13_bitCount_95d88 8 9 (.lsub) 1 := by decide +kernel
theorem kJ13_bitCount_95d88_9 : zD cJ13_bitCount_95d88 9 10 (.lstore_n 0) 1 := by decide +kernel
theorem kJ13_bitCount_95d88_10 : zD cJ13_bitCount_95d88 10 11 (.lload_n 0) 1 := by decide +kernel
theorem kJ13_bitCount_95d88_11 : zD cJ13_bitCount_95d88 11 14 (.ldc2_w 316) 3 := by decide +kernel
theorem kJ13_bitCount_95d88_14 : zD cJ13_bitCount_95d88 14 15 (.land) 1 := by decide +kernel
theorem kJ13_bitCount_95d88_15 : zD cJ13_bitCount_95d88 15 16 (.lload_n 0) 1 := by decide +kernel
theorem kJ13_bitCount_95d88_16 : zD cJ13_bitCount_95d88 16 17 (.iconst 2) 1 := by decide +kernel
theorem kJ13_bitCount_95d88_17 : zD cJ13_bitCount_95d88 17 18 (.lushr) 1 := by decide +kernel
theorem kJ13_bitCount_95d88_18 : zD cJ13_bitCount_95d88 18 21 (.ldc2_w 316) 3 := by decide +kernel
theorem kJ13_bitCount_95d88_21 : zD cJ13_bitCount_95d88 21 22 (.land) 1 := by decide +kernel
theorem kJ13_bitCount_95d88_22 : zD cJ13_bitCount_95d88 22 23 (.ladd) 1 := by decide +kernel
theorem kJ13_bitCount_95d88_23 : zD cJ13_bitCount_95d88 23 24 (.lstore_n 0) 1 := by decide +kernel
theorem kJ13_bitCount_95d88_24 : zD cJ13_bitCount_95d88 24 25 (.lload_n 0) 1 := by decide +kernel
theorem kJ13_bitCount_95d88_25 : zD cJ13_bitCount_95d88 25 26 (.lload_n 0) 1 := by decide +kernel
theorem kJ13_bitCount_95d88_26 : zD cJ13_bitCount_95d88 26 27 (.iconst 4) 1 := by decide +kernel
theorem kJ13_bitCount_95d88_27 : zD cJ13_bitCount_95d88 27 28 (.lushr) 1 := by decide +kernel
theorem kJ13_bitCount_95d88_28 : zD cJ13_bitCount_95d88 28 29 (.ladd) 1 := by decide +kernel
theorem kJ13_bitCount_95d88_29 : zD cJ13_bitCount_95d88 29 32 (.ldc2_w 318) 3 := by decide +kernel
theorem kJ13_bitCount_95d88_32 : zD cJ13_bitCount_95d88 32 33 (.land) 1 := by decide +kernel
theorem kJ13_bitCount_95d88_33 : zD cJ13_bitCount_95d88 33 34 (.lstore_n 0) 1 := by decide +kernel
theorem kJ13_bitCount_95d88_34 : zD cJ13_bitCount_95d88 34 35 (.lload_n 0) 1 := by decide +kernel
theorem kJ13_bitCount_95d88_35 : zD cJ13_bitCount_95d88 35 36 (.lload_n 0) 1 := by decide +kernel
theorem kJ13_bitCount_95d88_36 : zD cJ13_bitCount_95d88 36 38 (.bipush 8) 2 := by decide +kernel
theorem kJ13_bitCount_95d88_38 : zD cJ13_bitCount_95d88 38 39 (.lushr) 1 := by decide +kernel
theorem kJ13_bitCount_95d88_39 : zD cJ13_bitCount_95d88 39 40 (.ladd) 1 := by decide +kernel
theorem kJ13_bitCount_95d88_40 : zD cJ13_bitCount_95d88 40 41 (.lstore_n 0) 1 := by decide +kernel
theorem kJ13_bitCount_95d88_41 : zD cJ13_bitCount_95d88 41 42 (.lload_n 0) 1 := by decide +kernel
theorem kJ13_bitCount_95d88_42 : zD cJ13_bitCount_95d88 42 43 (.lload_n 0) 1 := by decide +kernel
theorem kJ13_bitCount_95d88_43 : zD cJ13_bitCount_95d88 43 45 (.bipush 16) 2 := by decide +kernel
theorem kJ13_bitCount_95d88_45 : zD cJ13_bitCount_95d88 45 46 (.lushr) 1 := by decide +kernel
theorem kJ13_bitCount_95d88_46 : zD cJ13_bitCount_95d88 46 47 (.ladd) 1 := by decide +kernel
theorem kJ13_bitCount_95d88_47 : zD cJ13_bitCount_95d88 47 48 (.lstore_n 0) 1 := by decide +kernel
theorem kJ13_bitCount_95d88_48 : zD cJ13_bitCount_95d88 48 49 (.lload_n 0) 1 := by decide +kernel
theorem kJ13_bitCount_95d88_49 : zD cJ13_bitCount_95d88 49 50 (.lload_n 0) 1 := by decide +kernel
theorem kJ13_bitCount_95d88_50 : zD cJ13_bitCount_95d88 50 52 (.bipush 32) 2 := by decide +kernel
theorem kJ13_bitCount_95d88_52 : zD cJ13_bitCount_95d88 52 53 (.lushr) 1 := by decide +kernel
theorem kJ13_bitCount_95d88_53 : zD cJ13_bitCount_95d88 53 54 (.ladd) 1 := by decide +kernel
theorem kJ13_bitCount_95d88_54 : zD cJ13_bitCount_95d88 54 55 (.lstore_n 0) 1 := by decide +kernel
theorem kJ13_bitCount_95d88_55 : zD cJ13_bitCount_95d88 55 56 (.lload_n 0) 1 := by decide +kernel
theorem kJ13_bitCount_95d88_56 : zD cJ13_bitCount_95d88 56 57 (.l2i) 1 := by decide +kernel
theorem kJ13_bitCount_95d88_57 : zD cJ13_bitCount_95d88 57 59 (.bipush 127) 2 := by decide +kernel
theorem kJ13_bitCount_95d88_59 : zD cJ13_bitCount_95d88 59 60 (.iand) 1 := by decide +kernel
theorem kJ13_bitCount_95d88_60 : zD cJ13_bitCount_95d88 60 61 (.ireturn) 1 := by decide +kernel
set_option maxRecDepth 10000 in
theorem wJ13_bitCount_95d88_0 {G : ZG} {d : Nat} {h : ZH} {Q : Option ZV → ZH → Prop} {x0 : Int64} 
  (H : ∀ y1 : Int64, y1 = (x0 - ((((x0).toUInt64 >>> (((1 : Int32)).toInt64.toUInt64 &&& Int64.toUInt64 63)).toInt64) &&& 6148914691236517205)) → ∀ y2 : Int64, y2 = ((y1 &&& 3689348814741910323) + ((((y1).toUInt64 >>> (((2 : Int32)).toInt64.toUInt64 &&& Int64.toUInt64 63)).toInt64) &&& 3689348814741910323)) → ∀ y3 : Int64, y3 = ((y2 + (((y2).toUInt64 >>> (((4 : Int32)).toInt64.toUInt64 &&& Int64.toUInt64 63)).toInt64)) &&& 1085102592571150095) → ∀ y4 : Int64, y4 = (y3 + (((y3).toUInt64 >>> (((8 : Int32)).toInt64.toUInt64 &&& Int64.toUInt64 63)).toInt64)) → ∀ y5 : Int64, y5 = (y4 + (((y4).toUInt64 >>> (((16 : Int32)).toInt64.toUInt64 &&& Int64.toUInt64 63)).toInt64)) → ∀ y6 : Int64, y6 = (y5 + (((y5).toUInt64 >>> (((32 : Int32)).toInt64.toUInt64 &&& Int64.toUInt64 63)).toInt64)) → Q (some (zi ((y6).toInt32 &&& 127))) h) :
  zT G (d + 1) mJ13_bitCount_95d88 0 [zl x0, zu] [] h Q := by
  refine zt_lload_n kJ13_bitCount_95d88_0 rfl ?_
  refine zt_lload_n kJ13_bitCount_95d88_1 rfl ?_
  refine zt_iconst (v := 1) kJ13_bitCount_95d88_2 rfl ?_
  refine zt_lushr kJ13_bitCount_95d88_3 ?_
  refine zt_ldc2 (v := 6148914691236517205) kJ13_bitCount_95d88_4 wm_620 ?_
  refine zt_land kJ13_bitCount_95d88_7 ?_
  refine zt_lsub kJ13_bitCount_95d88_8 ?_
  refine zt_topl (fun y1 ey1 => ?_)
  replace H := H y1 ey1
  refine zt_lstore_n (L' := [zl y1, zu]) kJ13_bitCount_95d88_9 (by decide) rfl ?_
  refine zt_lload_n kJ13_bitCount_95d88_10 rfl ?_
  refine zt_ldc2 (v := 3689348814741910323) kJ13_bitCount_95d88_11 wm_621 ?_
  refine zt_land kJ13_bitCount_95d88_14 ?_
  refine zt_lload_n kJ13_bitCount_95d88_15 rfl ?_
  refine zt_iconst (v := 2) kJ13_bitCount_95d88_16 rfl ?_
  refine zt_lushr kJ13_bitCount_95d88_17 ?_
  refine zt_ldc2 (v := 3689348814741910323) kJ13_bitCount_95d88_18 wm_621 ?_
  refine zt_land kJ13_bitCount_95d88_21 ?_
  refine zt_ladd kJ13_bitCount_95d88_22 ?_
  refine zt_topl (fun y2 ey2 => ?_)
  replace H := H y2 ey2
  refine zt_lstore_n (L' := [zl y2, zu]) kJ13_bitCount_95d88_23 (by decide) rfl ?_
  refine zt_lload_n kJ13_bitCount_95d88_24 rfl ?_
  refine zt_lload_n kJ13_bitCount_95d88_25 rfl ?_
  refine zt_iconst (v := 4) kJ13_bitCount_95d88_26 rfl ?_
  refine zt_lushr kJ13_bitCount_95d88_27 ?_
  refine zt_ladd kJ13_bitCount_95d88_28 ?_
  refine zt_ldc2 (v := 1085102592571150095) kJ13_bitCount_95d88_29 wm_622 ?_
  refine zt_land kJ13_bitCount_95d88_32 ?_
  refine zt_topl (fun y3 ey3 => ?_)
  replace H := H y3 ey3
  refine zt_lstore_n (L' := [zl y3, zu]) kJ13_bitCount_95d88_33 (by decide) rfl ?_
  refine zt_lload_n kJ13_bitCount_95d88_34 rfl ?_
  refine zt_lload_n kJ13_bitCount_95d88_35 rfl ?_
  refine zt_bipush (v := 8) kJ13_bitCount_95d88_36 rfl ?_
  refine zt_lushr kJ13_bitCount_95d88_38 ?_
  refine zt_ladd kJ13_bitCount_95d88_39 ?_
  refine zt_topl (fun y4 ey4 => ?_)
  replace H := H y4 ey4
  refine zt_lstore_n (L' := [zl y4, zu]) kJ13_bitCount_95d88_40 (by decide) rfl ?_
  refine zt_lload_n kJ13_bitCount_95d88_41 rfl ?_
  refine zt_lload_n kJ13_bitCount_95d88_42 rfl ?_
  refine zt_bipush (v := 16) kJ13_bitCount_95d88_43 rfl ?_
  refine zt_lushr kJ13_bitCount_95d88_45 ?_
  refine zt_ladd kJ13_bitCount_95d88_46 ?_
  refine zt_topl (fun y5 ey5 => ?_)
  replace H := H y5 ey5
  refine zt_lstore_n (L' := [zl y5, zu]) kJ13_bitCount_95d88_47 (by decide) rfl ?_
  refine zt_lload_n kJ13_bitCount_95d88_48 rfl ?_
  refine zt_lload_n kJ13_bitCount_95d88_49 rfl ?_
  refine zt_bipush (v := 32) kJ13_bitCount_95d88_50 rfl ?_
  refine zt_lushr kJ13_bitCount_95d88_52 ?_
  refine zt_ladd kJ13_bitCount_95d88_53 ?_
  refine zt_topl (fun y6 ey6 => ?_)
  replace H := H y6 ey6
  refine zt_lstore_n (L' := [zl y6, zu]) kJ13_bitCount_95d88_54 (by decide) rfl ?_
  refine zt_lload_n kJ13_bitCount_95d88_55 rfl ?_
  refine zt_l2i kJ13_bitCount_95d88_56 ?_
  refine zt_bipush (v := 127) kJ13_bitCount_95d88_57 rfl ?_
  refine zt_iand kJ13_bitCount_95d88_59 ?_
  exact zt_iret kJ13_bitCount_95d88_60 rfl H

theorem kJ7_fill_53178_0 : zD cJ7_fill_53178 0 1 (.iconst 0) 1 := by decide +kernel
theorem kJ7_fill_53178_1 : zD cJ7_fill_53178 1 2 (.istore_n 2) 1 := by decide +kernel
theorem kJ7_fill_53178_2 : zD cJ7_fill_53178 2 3 (.aload_n 0) 1 := by decide +kernel
theorem kJ7_fill_53178_3 : zD cJ7_fill_53178 3 4 (.arraylength) 1 := by decide +kernel
theorem kJ7_fill_53178_4 : zD cJ7_fill_53178 4 5 (.istore_n 3) 1 := by decide +kernel
theorem kJ7_fill_53178_5 : zD cJ7_fill_53178 5 6 (.iload_n 2) 1 := by decide +kernel
theorem kJ7_fill_53178_6 : zD cJ7_fill_53178 6 7 (.iload_n 3) 1 := by decide +kernel
theorem kJ7_fill_53178_7 : zB cJ7_fill_53178 7 10 20 (.if_icmp .ge 13) 13 := by decide +kernel
theorem kJ7_fill_53178_10 : zD cJ7_fill_53178 10 11 (.aload_n 0) 1 := by decide +kernel
theorem kJ7_fill_53178_11 : zD cJ7_fill_53178 11 12 (.iload_n 2) 1 := by decide +kernel
theorem kJ7_fill_53178_12 : zD cJ7_fill_53178 12 13 (.iload_n 1) 1 := by decide +kernel
theorem kJ7_fill_53178_13 : zD cJ7_fill_53178 13 14 (.iastore) 1 := by decide +kernel
theorem kJ7_fill_53178_14 : zD cJ7_fill_53178 14 17 (.iinc 2 1) 3 := by decide +kernel
theorem kJ7_fill_53178_17 : zB cJ7_fill_53178 17 20 5 (.goto (-12)) (-12) := by decide +kernel
theorem kJ7_fill_53178_20 : zD cJ7_fill_53178 20 21 (.return_) 1 := by decide +kernel
set_option maxRecDepth 10000 in
theorem wJ7_fill_53178_0 {G : ZG} {d : Nat} {h : ZH} {Q : Option ZV → ZH → Prop} {a0 i0 n0 : Nat} {x1 : Int32} (hk0 : zkd a0 i0 = .inr (0, n0)) (hi0 : i0 < zcnt a0)
  (H : zT G (d + 1) mJ7_fill_53178 5 [zr a0 i0, zi x1, zi 0, zi (Int32.ofNat n0)] [] h Q) :
  zT G (d + 1) mJ7_fill_53178 0 [zr a0 i0, zi x1, zu, zu] [] h Q := by
  refine zt_iconst (v := 0) kJ7_fill_53178_0 rfl ?_
  refine zt_istore_n (L' := [zr a0 i0, zi x1, zi 0, zu]) kJ7_fill_53178_1 (by decide) rfl ?_
  refine zt_aload_n kJ7_fill_53178_2 rfl ?_
  refine zt_alen kJ7_fill_53178_3 hk0 (by decide) hi0 rfl ?_
  refine zt_istore_n (L' := [zr a0 i0, zi x1, zi 0, zi (Int32.ofNat n0)]) kJ7_fill_53178_4 (by decide) rfl ?_
  exact H

set_option maxRecDepth 10000 in
theorem wJ7_fill_53178_5 {G : ZG} {d : Nat} {h : ZH} {Q : Option ZV → ZH → Prop} {a0 i0 n0 : Nat} {x1 : Int32} {x2 : Int32} {x3 : Int32} (hk0 : zkd a0 i0 = .inr (0, n0)) (hi0 : i0 < zcnt a0)
  (H : (x3 ≤ x2 → Q none h) ∧ (¬ x3 ≤ x2 → vp_in x2 n0 ∧ (∀ h1 : ZH, h1 = zs1 h a0 i0 x2.toNatClampNeg x1 → zT G (d + 1) mJ7_fill_53178 5 [zr a0 i0, zi x1, zi (x2 + 1), zi x3] [] h1 Q))) :
  zT G (d + 1) mJ7_fill_53178 5 [zr a0 i0, zi x1, zi x2, zi x3] [] h Q := by
  refine zt_iload_n kJ7_fill_53178_5 rfl ?_
  refine zt_iload_n kJ7_fill_53178_6 rfl ?_
  refine zt_icmp_ge kJ7_fill_53178_7 (fun c => ?_) (fun c => ?_)
  · replace H := H.1 c
    exact zt_vret kJ7_fill_53178_20 rfl H
  · replace H := H.2 c
    refine zt_aload_n kJ7_fill_53178_10 rfl ?_
    refine zt_iload_n kJ7_fill_53178_11 rfl ?_
    refine zt_iload_n kJ7_fill_53178_12 rfl ?_
    obtain ⟨hv, H⟩ := H
    refine zt_iast kJ7_fill_53178_13 hk0 hi0 hv ?_
    refine zt_heap (fun h1 eh1 => ?_)
    replace H := H h1 eh1
    refine zt_iinc (v := (x2 + 1)) (L' := [zr a0 i0, zi x1, zi (x2 + 1), zi x3]) kJ7_fill_53178_14 rfl rfl (by decide) rfl ?_
    refine zt_goto kJ7_fill_53178_17 ?_
    exact H

theorem kJ7_fill_d0a16_0 : zD cJ7_fill_d0a16 0 1 (.iconst 0) 1 := by decide +kernel
theorem kJ7_fill_d0a16_1 : zD cJ7_fill_d0a16 1 2 (.istore_n 3) 1 := by decide +kernel
theorem kJ7_fill_d0a16_2 : zD cJ7_fill_d0a16 2 3 (.aload_n 0) 1 := by decide +kernel
theorem kJ7_fill_d0a16_3 : zD cJ7_fill_d0a16 3 4 (.arraylength) 1 := by decide +kernel
theorem kJ7_fill_d0a16_4 : zD cJ7_fill_d0a16 4 6 (.istore 4) 2 := by decide +kernel
theorem kJ7_fill_d0a16_6 : zD cJ7_fill_d0a16 6 7 (.iload_n 3) 1 := by decide +kernel
theorem kJ7_fill_d0a16_7 : zD cJ7_fill_d0a16 7 9 (.iload 4) 2 := by decide +kernel
theorem kJ7_fill_d0a16_9 : zB cJ7_fill_d0a16 9 12 22 (.if_icmp .ge 13) 13 := by decide +kernel
theorem kJ7_fill_d0a16_12 : zD cJ7_fill_d0a16 12 13 (.aload_n 0) 1 := by decide +kernel
theorem kJ7_fill_d0a16_13 : zD cJ7_fill_d0a16 13 14 (.iload_n 3) 1 := by decide +kernel
theorem kJ7_fill_d0a16_14 : zD cJ7_fill_d0a16 14 15 (.lload_n 1) 1 := by decide +kernel
theorem kJ7_fill_d0a16_15 : zD cJ7_fill_d0a16 15 16 (.lastore) 1 := by decide +kernel
theorem kJ7_fill_d0a16_16 : zD cJ7_fill_d0a16 16 19 (.iinc 3 1) 3 := by decide +kernel
theorem kJ7_fill_d0a16_19 : zB cJ7_fill_d0a16 19 22 6 (.goto (-13)) (-13) := by decide +kernel
theorem kJ7_fill_d0a16_22 : zD cJ7_fill_d0a16 22 23 (.return_) 1 := by decide +kernel
set_option maxRecDepth 10000 in
theorem wJ7_fill_d0a16_0 {G : ZG} {d : Nat} {h : ZH} {Q : Option ZV → ZH → Prop} {a0 i0 n0 : Nat} {x1 : Int64} (hk0 : zkd a0 i0 = .inr (1, n0)) (hi0 : i0 < zcnt a0)
  (H : zT G (d + 1) mJ7_fill_d0a16 6 [zr a0 i0, zl x1, zu, zi 0, zi (Int32.ofNat n0)] [] h Q) :
  zT G (d + 1) mJ7_fill_d0a16 0 [zr a0 i0, zl x1, zu, zu, zu] [] h Q := by
  refine zt_iconst (v := 0) kJ7_fill_d0a16_0 rfl ?_
  refine zt_istore_n (L' := [zr a0 i0, zl x1, zu, zi 0, zu]) kJ7_fill_d0a16_1 (by decide) rfl ?_
  refine zt_aload_n kJ7_fill_d0a16_2 rfl ?_
  refine zt_alen kJ7_fill_d0a16_3 hk0 (by decide) hi0 rfl ?_
  refine zt_istore (L' := [zr a0 i0, zl x1, zu, zi 0, zi (Int32.ofNat n0)]) kJ7_fill_d0a16_4 (by decide) rfl ?_
  exact H

set_option maxRecDepth 10000 in
theorem wJ7_fill_d0a16_6 {G : ZG} {d : Nat} {h : ZH} {Q : Option ZV → ZH → Prop} {a0 i0 n0 : Nat} {x1 : Int64} {x3 : Int32} {x4 : Int32} (hk0 : zkd a0 i0 = .inr (1, n0)) (hi0 : i0 < zcnt a0)
  (H : (x4 ≤ x3 → Q none h) ∧ (¬ x4 ≤ x3 → vp_in x3 n0 ∧ (∀ h1 : ZH, h1 = zs2 h a0 i0 x3.toNatClampNeg x1 → zT G (d + 1) mJ7_fill_d0a16 6 [zr a0 i0, zl x1, zu, zi (x3 + 1), zi x4] [] h1 Q))) :
  zT G (d + 1) mJ7_fill_d0a16 6 [zr a0 i0, zl x1, zu, zi x3, zi x4] [] h Q := by
  refine zt_iload_n kJ7_fill_d0a16_6 rfl ?_
  refine zt_iload kJ7_fill_d0a16_7 rfl ?_
  refine zt_icmp_ge kJ7_fill_d0a16_9 (fun c => ?_) (fun c => ?_)
  · replace H := H.1 c
    exact zt_vret kJ7_fill_d0a16_22 rfl H
  · replace H := H.2 c
    refine zt_aload_n kJ7_fill_d0a16_12 rfl ?_
    refine zt_iload_n kJ7_fill_d0a16_13 rfl ?_
    refine zt_lload_n kJ7_fill_d0a16_14 rfl ?_
    obtain ⟨hv, H⟩ := H
    refine zt_last kJ7_fill_d0a16_15 hk0 hi0 hv ?_
    refine zt_heap (fun h1 eh1 => ?_)
    replace H := H h1 eh1
    refine zt_iinc (v := (x3 + 1)) (L' := [zr a0 i0, zl x1, zu, zi (x3 + 1), zi x4]) kJ7_fill_d0a16_16 rfl rfl (by decide) rfl ?_
    refine zt_goto kJ7_fill_d0a16_19 ?_
    exact H

theorem kX12_isIn_0 : zD cX12_isIn 0 1 (.iload_n 0) 1 := by decide +kernel
theorem kX12_isIn_1 : zD cX12_isIn 1 2 (.iload_n 1) 1 := by decide +kernel
theorem kX12_isIn_2 : zB cX12_isIn 2 5 14 (.if_icmp .lt 12) 12 := by decide +kernel
theorem kX12_isIn_5 : zD cX12_isIn 5 6 (.iload_n 0) 1 := by decide +kernel
theorem kX12_isIn_6 : zD cX12_isIn 6 7 (.iload_n 2) 1 := by decide +kernel
theorem kX12_isIn_7 : zB cX12_isIn 7 10 14 (.if_icmp .gt 7) 7 := by decide +kernel
theorem kX12_isIn_10 : zD cX12_isIn 10 11 (.iconst 1) 1 := by decide +kernel
theorem kX12_isIn_11 : zB cX12_isIn 11 14 15 (.goto 4) 4 := by decide +kernel
theorem kX12_isIn_14 : zD cX12_isIn 14 15 (.iconst 0) 1 := by decide +kernel
theorem kX12_isIn_15 : zD cX12_isIn 15 16 (.ireturn) 1 := by decide +kernel
set_option maxRecDepth 10000 in
theorem wX12_isIn_0 {G : ZG} {d : Nat} {h : ZH} {Q : Option ZV → ZH → Prop} {x0 : Int32} {x1 : Int32} {x2 : Int32} 
  (H : (x0 < x1 → Q (some (zi 0)) h) ∧ (¬ x0 < x1 → (x2 < x0 → Q (some (zi 0)) h) ∧ (¬ x2 < x0 → Q (some (zi 1)) h))) :
  zT G (d + 1) mX12_isIn 0 [zi x0, zi x1, zi x2] [] h Q := by
  refine zt_iload_n kX12_isIn_0 rfl ?_
  refine zt_iload_n kX12_isIn_1 rfl ?_
  refine zt_icmp_lt kX12_isIn_2 (fun c => ?_) (fun c => ?_)
  · replace H := H.1 c
    refine zt_iconst (v := 0) kX12_isIn_14 rfl ?_
    exact zt_zret kX12_isIn_15 rfl (by decide) H
  · replace H := H.2 c
    refine zt_iload_n kX12_isIn_5 rfl ?_
    refine zt_iload_n kX12_isIn_6 rfl ?_
    refine zt_icmp_gt kX12_isIn_7 (fun c => ?_) (fun c => ?_)
    · replace H := H.1 c
      refine zt_iconst (v := 0) kX12_isIn_14 rfl ?_
      exact zt_zret kX12_isIn_15 rfl (by decide) H
    · replace H := H.2 c
      refine zt_iconst (v := 1) kX12_isIn_10 rfl ?_
      refine zt_goto kX12_isIn_11 ?_
      exact zt_zret kX12_isIn_15 rfl (by decide) H

theorem kX12_most_0 : zD cX12_most 0 1 (.iload_n 0) 1 := by decide +kernel
theorem kX12_most_1 : zD cX12_most 1 2 (.iload_n 1) 1 := by decide +kernel
theorem kX12_most_2 : zB cX12_most 2 5 9 (.if_icmp .le 7) 7 := by decide +kernel
theorem kX12_most_5 : zD cX12_most 5 6 (.iload_n 0) 1 := by decide +kernel
theorem kX12_most_6 : zB cX12_most 6 9 10 (.goto 4) 4 := by decide +kernel
theorem kX12_most_9 : zD cX12_most 9 10 (.iload_n 1) 1 := by decide +kernel
theorem kX12_most_10 : zD cX12_most 10 11 (.ireturn) 1 := by decide +kernel
set_option maxRecDepth 10000 in
theorem wX12_most_0 {G : ZG} {d : Nat} {h : ZH} {Q : Option ZV → ZH → Prop} {x0 : Int32} {x1 : Int32} 
  (H : (x0 ≤ x1 → Q (some (zi x1)) h) ∧ (¬ x0 ≤ x1 → Q (some (zi x0)) h)) :
  zT G (d + 1) mX12_most 0 [zi x0, zi x1] [] h Q := by
  refine zt_iload_n kX12_most_0 rfl ?_
  refine zt_iload_n kX12_most_1 rfl ?_
  refine zt_icmp_le kX12_most_2 (fun c => ?_) (fun c => ?_)
  · replace H := H.1 c
    refine zt_iload_n kX12_most_9 rfl ?_
    exact zt_iret kX12_most_10 rfl H
  · replace H := H.2 c
    refine zt_iload_n kX12_most_5 rfl ?_
    refine zt_goto kX12_most_6 ?_
    exact zt_iret kX12_most_10 rfl H

theorem kX12_has_0 : zD cX12_has 0 1 (.iload_n 0) 1 := by decide +kernel
theorem kX12_has_1 : zD cX12_has 1 2 (.iload_n 1) 1 := by decide +kernel
theorem kX12_has_2 : zD cX12_has 2 3 (.ishr) 1 := by decide +kernel
theorem kX12_has_3 : zD cX12_has 3 4 (.iconst 1) 1 := by decide +kernel
theorem kX12_has_4 : zD cX12_has 4 5 (.iand) 1 := by decide +kernel
theorem kX12_has_5 : zD cX12_has 5 6 (.iconst 1) 1 := by decide +kernel
theorem kX12_has_6 : zB cX12_has 6 9 13 (.if_icmp .ne 7) 7 := by decide +kernel
theorem kX12_has_9 : zD cX12_has 9 10 (.iconst 1) 1 := by decide +kernel
theorem kX12_has_10 : zB cX12_has 10 13 14 (.goto 4) 4 := by decide +kernel
theorem kX12_has_13 : zD cX12_has 13 14 (.iconst 0) 1 := by decide +kernel
theorem kX12_has_14 : zD cX12_has 14 15 (.ireturn) 1 := by decide +kernel
set_option maxRecDepth 10000 in
theorem wX12_has_0 {G : ZG} {d : Nat} {h : ZH} {Q : Option ZV → ZH → Prop} {x0 : Int32} {x1 : Int32} 
  (H : (¬ ((x0 >>> (x1 &&& 31)) &&& 1) = 1 → Q (some (zi 0)) h) ∧ (((x0 >>> (x1 &&& 31)) &&& 1) = 1 → Q (some (zi 1)) h)) :
  zT G (d + 1) mX12_has 0 [zi x0, zi x1] [] h Q := by
  refine zt_iload_n kX12_has_0 rfl ?_
  refine zt_iload_n kX12_has_1 rfl ?_
  refine zt_ishr kX12_has_2 ?_
  refine zt_iconst (v := 1) kX12_has_3 rfl ?_
  refine zt_iand kX12_has_4 ?_
  refine zt_iconst (v := 1) kX12_has_5 rfl ?_
  refine zt_icmp_ne kX12_has_6 (fun c => ?_) (fun c => ?_)
  · replace H := H.1 c
    refine zt_iconst (v := 0) kX12_has_13 rfl ?_
    exact zt_zret kX12_has_14 rfl (by decide) H
  · replace H := H.2 c
    refine zt_iconst (v := 1) kX12_has_9 rfl ?_
    refine zt_goto kX12_has_10 ?_
    exact zt_zret kX12_has_14 rfl (by decide) H

theorem kX12_bits_0 : zD cX12_bits 0 1 (.iconst 0) 1 := by decide +kernel
theorem kX12_bits_1 : zD cX12_bits 1 2 (.istore_n 1) 1 := by decide +kernel
theorem kX12_bits_2 : zD cX12_bits 2 3 (.iconst 0) 1 := by decide +kernel
theorem kX12_bits_3 : zD cX12_bits 3 4 (.istore_n 2) 1 := by decide +kernel
theorem kX12_bits_4 : zD cX12_bits 4 5 (.iload_n 2) 1 := by decide +kernel
theorem kX12_bits_5 : zD cX12_bits 5 7 (.bipush 12) 2 := by decide +kernel
theorem kX12_bits_7 : zB cX12_bits 7 10 24 (.if_icmp .ge 17) 17 := by decide +kernel
theorem kX12_bits_10 : zD cX12_bits 10 11 (.iload_n 1) 1 := by decide +kernel
theorem kX12_bits_11 : zD cX12_bits 11 12 (.iload_n 0) 1 := by decide +kernel
theorem kX12_bits_12 : zD cX12_bits 12 13 (.iload_n 2) 1 := by decide +kernel
theorem kX12_bits_13 : zD cX12_bits 13 14 (.ishr) 1 := by decide +kernel
theorem kX12_bits_14 : zD cX12_bits 14 15 (.iconst 1) 1 := by decide +kernel
theorem kX12_bits_15 : zD cX12_bits 15 16 (.iand) 1 := by decide +kernel
theorem kX12_bits_16 : zD cX12_bits 16 17 (.iadd) 1 := by decide +kernel
theorem kX12_bits_17 : zD cX12_bits 17 18 (.istore_n 1) 1 := by decide +kernel
theorem kX12_bits_18 : zD cX12_bits 18 21 (.iinc 2 1) 3 := by decide +kernel
theorem kX12_bits_21 : zB cX12_bits 21 24 4 (.goto (-17)) (-17) := by decide +kernel
theorem kX12_bits_24 : zD cX12_bits 24 25 (.iload_n 1) 1 := by decide +kernel
theorem kX12_bits_25 : zD cX12_bits 25 26 (.ireturn) 1 := by decide +kernel
set_option maxRecDepth 10000 in
theorem wX12_bits_0 {G : ZG} {d : Nat} {h : ZH} {Q : Option ZV → ZH → Prop} {x0 : Int32} 
  (H : zT G (d + 1) mX12_bits 4 [zi x0, zi 0, zi 0] [] h Q) :
  zT G (d + 1) mX12_bits 0 [zi x0, zu, zu] [] h Q := by
  refine zt_iconst (v := 0) kX12_bits_0 rfl ?_
  refine zt_istore_n (L' := [zi x0, zi 0, zu]) kX12_bits_1 (by decide) rfl ?_
  refine zt_iconst (v := 0) kX12_bits_2 rfl ?_
  refine zt_istore_n (L' := [zi x0, zi 0, zi 0]) kX12_bits_3 (by decide) rfl ?_
  exact H

set_option maxRecDepth 10000 in
theorem wX12_bits_4 {G : ZG} {d : Nat} {h : ZH} {Q : Option ZV → ZH → Prop} {x0 : Int32} {x1 : Int32} {x2 : Int32} 
  (H : (12 ≤ x2 → Q (some (zi x1)) h) ∧ (¬ 12 ≤ x2 → zT G (d + 1) mX12_bits 4 [zi x0, zi (x1 + ((x0 >>> (x2 &&& 31)) &&& 1)), zi (x2 + 1)] [] h Q)) :
  zT G (d + 1) mX12_bits 4 [zi x0, zi x1, zi x2] [] h Q := by
  refine zt_iload_n kX12_bits_4 rfl ?_
  refine zt_bipush (v := 12) kX12_bits_5 rfl ?_
  refine zt_icmp_ge kX12_bits_7 (fun c => ?_) (fun c => ?_)
  · replace H := H.1 c
    refine zt_iload_n kX12_bits_24 rfl ?_
    exact zt_iret kX12_bits_25 rfl H
  · replace H := H.2 c
    refine zt_iload_n kX12_bits_10 rfl ?_
    refine zt_iload_n kX12_bits_11 rfl ?_
    refine zt_iload_n kX12_bits_12 rfl ?_
    refine zt_ishr kX12_bits_13 ?_
    refine zt_iconst (v := 1) kX12_bits_14 rfl ?_
    refine zt_iand kX12_bits_15 ?_
    refine zt_iadd kX12_bits_16 ?_
    refine zt_istore_n (L' := [zi x0, zi (x1 + ((x0 >>> (x2 &&& 31)) &&& 1)), zi x2]) kX12_bits_17 (by decide) rfl ?_
    refine zt_iinc (v := (x2 + 1)) (L' := [zi x0, zi (x1 + ((x0 >>> (x2 &&& 31)) &&& 1)), zi (x2 + 1)]) kX12_bits_18 rfl rfl (by decide) rfl ?_
    refine zt_goto kX12_bits_21 ?_
    exact H

theorem kX12_copies_0 : zD cX12_copies 0 1 (.iconst 0) 1 := by decide +kernel
theorem kX12_copies_1 : zD cX12_copies 1 2 (.istore_n 2) 1 := by decide +kernel
theorem kX12_copies_2 : zD cX12_copies 2 3 (.iload_n 2) 1 := by decide +kernel
theorem kX12_copies_3 : zD cX12_copies 3 5 (.bipush 26) 2 := by decide +kernel
theorem kX12_copies_5 : zB cX12_copies 5 8 20 (.if_icmp .ge 15) 15 := by decide +kernel
theorem kX12_copies_8 : zD cX12_copies 8 9 (.aload_n 1) 1 := by decide +kernel
theorem kX12_copies_9 : zD cX12_copies 9 10 (.iload_n 2) 1 := by decide +kernel
theorem kX12_copies_10 : zD cX12_copies 10 11 (.aload_n 0) 1 := by decide +kernel
theorem kX12_copies_11 : zD cX12_copies 11 12 (.iload_n 2) 1 := by decide +kernel
theorem kX12_copies_12 : zD cX12_copies 12 13 (.iaload) 1 := by decide +kernel
theorem kX12_copies_13 : zD cX12_copies 13 14 (.iastore) 1 := by decide +kernel
theorem kX12_copies_14 : zD cX12_copies 14 17 (.iinc 2 1) 3 := by decide +kernel
theorem kX12_copies_17 : zB cX12_copies 17 20 2 (.goto (-15)) (-15) := by decide +kernel
theorem kX12_copies_20 : zD cX12_copies 20 21 (.return_) 1 := by decide +kernel
set_option maxRecDepth 10000 in
theorem wX12_copies_0 {G : ZG} {d : Nat} {h : ZH} {Q : Option ZV → ZH → Prop} {a0 i0 n0 : Nat} {a1 i1 n1 : Nat} (hk0 : zkd a0 i0 = .inr (0, n0)) (hi0 : i0 < zcnt a0) (hk1 : zkd a1 i1 = .inr (0, n1)) (hi1 : i1 < zcnt a1)
  (H : zT G (d + 1) mX12_copies 2 [zr a0 i0, zr a1 i1, zi 0] [] h Q) :
  zT G (d + 1) mX12_copies 0 [zr a0 i0, zr a1 i1, zu] [] h Q := by
  refine zt_iconst (v := 0) kX12_copies_0 rfl ?_
  refine zt_istore_n (L' := [zr a0 i0, zr a1 i1, zi 0]) kX12_copies_1 (by decide) rfl ?_
  exact H

set_option maxRecDepth 10000 in
theorem wX12_copies_2 {G : ZG} {d : Nat} {h : ZH} {Q : Option ZV → ZH → Prop} {a0 i0 n0 : Nat} {a1 i1 n1 : Nat} {x2 : Int32} (hk0 : zkd a0 i0 = .inr (0, n0)) (hi0 : i0 < zcnt a0) (hk1 : zkd a1 i1 = .inr (0, n1)) (hi1 : i1 < zcnt a1)
  (H : (26 ≤ x2 → Q none h) ∧ (¬ 26 ≤ x2 → vp_in x2 n0 ∧ vp_in x2 n1 ∧ (∀ h1 : ZH, h1 = zs1 h a1 i1 x2.toNatClampNeg (h.1 a0 i0 x2.toNatClampNeg) → zT G (d + 1) mX12_copies 2 [zr a0 i0, zr a1 i1, zi (x2 + 1)] [] h1 Q))) :
  zT G (d + 1) mX12_copies 2 [zr a0 i0, zr a1 i1, zi x2] [] h Q := by
  refine zt_iload_n kX12_copies_2 rfl ?_
  refine zt_bipush (v := 26) kX12_copies_3 rfl ?_
  refine zt_icmp_ge kX12_copies_5 (fun c => ?_) (fun c => ?_)
  · replace H := H.1 c
    exact zt_vret kX12_copies_20 rfl H
  · replace H := H.2 c
    refine zt_aload_n kX12_copies_8 rfl ?_
    refine zt_iload_n kX12_copies_9 rfl ?_
    refine zt_aload_n kX12_copies_10 rfl ?_
    refine zt_iload_n kX12_copies_11 rfl ?_
    obtain ⟨hv, H⟩ := H
    refine zt_iald kX12_copies_12 hk0 hi0 hv ?_
    obtain ⟨hv, H⟩ := H
    refine zt_iast kX12_copies_13 hk1 hi1 hv ?_
    refine zt_heap (fun h1 eh1 => ?_)
    replace H := H h1 eh1
    refine zt_iinc (v := (x2 + 1)) (L' := [zr a0 i0, zr a1 i1, zi (x2 + 1)]) kX12_copies_14 rfl rfl (by decide) rfl ?_
    refine zt_goto kX12_copies_17 ?_
    exact H

theorem kX11_isPlace_0 : zD cX11_isPlace 0 1 (.iload_n 0) 1 := by decide +kernel
theorem kX11_isPlace_1 : zB cX11_isPlace 1 4 14 (.ifCond .lt 13) 13 := by decide +kernel
theorem kX11_isPlace_4 : zD cX11_isPlace 4 5 (.iload_n 0) 1 := by decide +kernel
theorem kX11_isPlace_5 : zD cX11_isPlace 5 7 (.bipush 12) 2 := by decide +kernel
theorem kX11_isPlace_7 : zB cX11_isPlace 7 10 14 (.if_icmp .ge 7) 7 := by decide +kernel
theorem kX11_isPlace_10 : zD cX11_isPlace 10 11 (.iconst 1) 1 := by decide +kernel
theorem kX11_isPlace_11 : zB cX11_isPlace 11 14 15 (.goto 4) 4 := by decide +kernel
theorem kX11_isPlace_14 : zD cX11_isPlace 14 15 (.iconst 0) 1 := by decide +kernel
theorem kX11_isPlace_15 : zD cX11_isPlace 15 16 (.ireturn) 1 := by decide +kernel
set_option maxRecDepth 10000 in
theorem wX11_isPlace_0 {G : ZG} {d : Nat} {h : ZH} {Q : Option ZV → ZH → Prop} {x0 : Int32} 
  (H : (x0 < 0 → Q (some (zi 0)) h) ∧ (¬ x0 < 0 → (12 ≤ x0 → Q (some (zi 0)) h) ∧ (¬ 12 ≤ x0 → Q (some (zi 1)) h))) :
  zT G (d + 1) mX11_isPlace 0 [zi x0] [] h Q := by
  refine zt_iload_n kX11_isPlace_0 rfl ?_
  refine zt_if_lt kX11_isPlace_1 (fun c => ?_) (fun c => ?_)
  · replace H := H.1 c
    refine zt_iconst (v := 0) kX11_isPlace_14 rfl ?_
    exact zt_zret kX11_isPlace_15 rfl (by decide) H
  · replace H := H.2 c
    refine zt_iload_n kX11_isPlace_4 rfl ?_
    refine zt_bipush (v := 12) kX11_isPlace_5 rfl ?_
    refine zt_icmp_ge kX11_isPlace_7 (fun c => ?_) (fun c => ?_)
    · replace H := H.1 c
      refine zt_iconst (v := 0) kX11_isPlace_14 rfl ?_
      exact zt_zret kX11_isPlace_15 rfl (by decide) H
    · replace H := H.2 c
      refine zt_iconst (v := 1) kX11_isPlace_10 rfl ?_
      refine zt_goto kX11_isPlace_11 ?_
      exact zt_zret kX11_isPlace_15 rfl (by decide) H

theorem kX11_isShelf_0 : zD cX11_isShelf 0 1 (.iload_n 0) 1 := by decide +kernel
theorem kX11_isShelf_1 : zB cX11_isShelf 1 4 14 (.ifCond .lt 13) 13 := by decide +kernel
theorem kX11_isShelf_4 : zD cX11_isShelf 4 5 (.iload_n 0) 1 := by decide +kernel
theorem kX11_isShelf_5 : zD cX11_isShelf 5 7 (.bipush 8) 2 := by decide +kernel
theorem kX11_isShelf_7 : zB cX11_isShelf 7 10 14 (.if_icmp .ge 7) 7 := by decide +kernel
theorem kX11_isShelf_10 : zD cX11_isShelf 10 11 (.iconst 1) 1 := by decide +kernel
theorem kX11_isShelf_11 : zB cX11_isShelf 11 14 15 (.goto 4) 4 := by decide +kernel
theorem kX11_isShelf_14 : zD cX11_isShelf 14 15 (.iconst 0) 1 := by decide +kernel
theorem kX11_isShelf_15 : zD cX11_isShelf 15 16 (.ireturn) 1 := by decide +kernel
set_option maxRecDepth 10000 in
theorem wX11_isShelf_0 {G : ZG} {d : Nat} {h : ZH} {Q : Option ZV → ZH → Prop} {x0 : Int32} 
  (H : (x0 < 0 → Q (some (zi 0)) h) ∧ (¬ x0 < 0 → (8 ≤ x0 → Q (some (zi 0)) h) ∧ (¬ 8 ≤ x0 → Q (some (zi 1)) h))) :
  zT G (d + 1) mX11_isShelf 0 [zi x0] [] h Q := by
  refine zt_iload_n kX11_isShelf_0 rfl ?_
  refine zt_if_lt kX11_isShelf_1 (fun c => ?_) (fun c => ?_)
  · replace H := H.1 c
    refine zt_iconst (v := 0) kX11_isShelf_14 rfl ?_
    exact zt_zret kX11_isShelf_15 rfl (by decide) H
  · replace H := H.2 c
    refine zt_iload_n kX11_isShelf_4 rfl ?_
    refine zt_bipush (v := 8) kX11_isShelf_5 rfl ?_
    refine zt_icmp_ge kX11_isShelf_7 (fun c => ?_) (fun c => ?_)
    · replace H := H.1 c
      refine zt_iconst (v := 0) kX11_isShelf_14 rfl ?_
      exact zt_zret kX11_isShelf_15 rfl (by decide) H
    · replace H := H.2 c
      refine zt_iconst (v := 1) kX11_isShelf_10 rfl ?_
      refine zt_goto kX11_isShelf_11 ?_
      exact zt_zret kX11_isShelf_15 rfl (by decide) H

theorem kX11_isEither_0 : zD cX11_isEither 0 1 (.iload_n 0) 1 := by decide +kernel
theorem kX11_isEither_1 : zB cX11_isEither 1 4 9 (.ifCond .eq 8) 8 := by decide +kernel
theorem kX11_isEither_4 : zD cX11_isEither 4 5 (.iload_n 0) 1 := by decide +kernel
theorem kX11_isEither_5 : zD cX11_isEither 5 6 (.iconst 1) 1 := by decide +kernel
theorem kX11_isEither_6 : zB cX11_isEither 6 9 13 (.if_icmp .ne 7) 7 := by decide +kernel
theorem kX11_isEither_9 : zD cX11_isEither 9 10 (.iconst 1) 1 := by decide +kernel
theorem kX11_isEither_10 : zB cX11_isEither 10 13 14 (.goto 4) 4 := by decide +kernel
theorem kX11_isEither_13 : zD cX11_isEither 13 14 (.iconst 0) 1 := by decide +kernel
theorem kX11_isEither_14 : zD cX11_isEither 14 15 (.ireturn) 1 := by decide +kernel
set_option maxRecDepth 10000 in
theorem wX11_isEither_0 {G : ZG} {d : Nat} {h : ZH} {Q : Option ZV → ZH → Prop} {x0 : Int32} 
  (H : (x0 = 0 → Q (some (zi 1)) h) ∧ (¬ x0 = 0 → (¬ x0 = 1 → Q (some (zi 0)) h) ∧ (x0 = 1 → Q (some (zi 1)) h))) :
  zT G (d + 1) mX11_isEither 0 [zi x0] [] h Q := by
  refine zt_iload_n kX11_isEither_0 rfl ?_
  refine zt_if_eq kX11_isEither_1 (fun c => ?_) (fun c => ?_)
  · replace H := H.1 c
    refine zt_iconst (v := 1) kX11_isEither_9 rfl ?_
    refine zt_goto kX11_isEither_10 ?_
    exact zt_zret kX11_isEither_14 rfl (by decide) H
  · replace H := H.2 c
    refine zt_iload_n kX11_isEither_4 rfl ?_
    refine zt_iconst (v := 1) kX11_isEither_5 rfl ?_
    refine zt_icmp_ne kX11_isEither_6 (fun c => ?_) (fun c => ?_)
    · replace H := H.1 c
      refine zt_iconst (v := 0) kX11_isEither_13 rfl ?_
      exact zt_zret kX11_isEither_14 rfl (by decide) H
    · replace H := H.2 c
      refine zt_iconst (v := 1) kX11_isEither_9 rfl ?_
      refine zt_goto kX11_isEither_10 ?_
      exact zt_zret kX11_isEither_14 rfl (by decide) H

theorem kX11_isSomeStones_0 : zD cX11_isSomeStones 0 1 (.iload_n 0) 1 := by decide +kernel
theorem kX11_isSomeStones_1 : zD cX11_isSomeStones 1 2 (.iconst 1) 1 := by decide +kernel
theorem kX11_isSomeStones_2 : zB cX11_isSomeStones 2 5 15 (.if_icmp .lt 13) 13 := by decide +kernel
theorem kX11_isSomeStones_5 : zD cX11_isSomeStones 5 6 (.iload_n 0) 1 := by decide +kernel
theorem kX11_isSomeStones_6 : zD cX11_isSomeStones 6 8 (.bipush 12) 2 := by decide +kernel
theorem kX11_isSomeStones_8 : zB cX11_isSomeStones 8 11 15 (.if_icmp .gt 7) 7 := by decide +kernel
theorem kX11_isSomeStones_11 : zD cX11_isSomeStones 11 12 (.iconst 1) 1 := by decide +kernel
theorem kX11_isSomeStones_12 : zB cX11_isSomeStones 12 15 16 (.goto 4) 4 := by decide +kernel
theorem kX11_isSomeStones_15 : zD cX11_isSomeStones 15 16 (.iconst 0) 1 := by decide +kernel
theorem kX11_isSomeStones_16 : zD cX11_isSomeStones 16 17 (.ireturn) 1 := by decide +kernel
set_option maxRecDepth 10000 in
theorem wX11_isSomeStones_0 {G : ZG} {d : Nat} {h : ZH} {Q : Option ZV → ZH → Prop} {x0 : Int32} 
  (H : (x0 < 1 → Q (some (zi 0)) h) ∧ (¬ x0 < 1 → (12 < x0 → Q (some (zi 0)) h) ∧ (¬ 12 < x0 → Q (some (zi 1)) h))) :
  zT G (d + 1) mX11_isSomeStones 0 [zi x0] [] h Q := by
  refine zt_iload_n kX11_isSomeStones_0 rfl ?_
  refine zt_iconst (v := 1) kX11_isSomeStones_1 rfl ?_
  refine zt_icmp_lt kX11_isSomeStones_2 (fun c => ?_) (fun c => ?_)
  · replace H := H.1 c
    refine zt_iconst (v := 0) kX11_isSomeStones_15 rfl ?_
    exact zt_zret kX11_isSomeStones_16 rfl (by decide) H
  · replace H := H.2 c
    refine zt_iload_n kX11_isSomeStones_5 rfl ?_
    refine zt_bipush (v := 12) kX11_isSomeStones_6 rfl ?_
    refine zt_icmp_gt kX11_isSomeStones_8 (fun c => ?_) (fun c => ?_)
    · replace H := H.1 c
      refine zt_iconst (v := 0) kX11_isSomeStones_15 rfl ?_
      exact zt_zret kX11_isSomeStones_16 rfl (by decide) H
    · replace H := H.2 c
      refine zt_iconst (v := 1) kX11_isSomeStones_11 rfl ?_
      refine zt_goto kX11_isSomeStones_12 ?_
      exact zt_zret kX11_isSomeStones_16 rfl (by decide) H

theorem kX11_digitsBehind_0 : zD cX11_digitsBehind 0 1 (.iload_n 0) 1 := by decide +kernel
theorem kX11_digitsBehind_1 : zD cX11_digitsBehind 1 3 (.bipush 115) 2 := by decide +kernel
theorem kX11_digitsBehind_3 : zB cX11_digitsBehind 3 6 8 (.if_icmp .ne 5) 5 := by decide +kernel
theorem kX11_digitsBehind_6 : zD cX11_digitsBehind 6 7 (.iconst 4) 1 := by decide +kernel
theorem kX11_digitsBehind_7 : zD cX11_digitsBehind 7 8 (.ireturn) 1 := by decide +kernel
theorem kX11_digitsBehind_8 : zD cX11_digitsBehind 8 9 (.iload_n 0) 1 := by decide +kernel
theorem kX11_digitsBehind_9 : zD cX11_digitsBehind 9 11 (.bipush 120) 2 := by decide +kernel
theorem kX11_digitsBehind_11 : zB cX11_digitsBehind 11 14 20 (.if_icmp .eq 9) 9 := by decide +kernel
theorem kX11_digitsBehind_14 : zD cX11_digitsBehind 14 15 (.iload_n 0) 1 := by decide +kernel
theorem kX11_digitsBehind_15 : zD cX11_digitsBehind 15 17 (.bipush 112) 2 := by decide +kernel
theorem kX11_digitsBehind_17 : zB cX11_digitsBehind 17 20 24 (.if_icmp .ne 7) 7 := by decide +kernel
theorem kX11_digitsBehind_20 : zD cX11_digitsBehind 20 21 (.iconst 2) 1 := by decide +kernel
theorem kX11_digitsBehind_21 : zB cX11_digitsBehind 21 24 25 (.goto 4) 4 := by decide +kernel
theorem kX11_digitsBehind_24 : zD cX11_digitsBehind 24 25 (.iconst 0) 1 := by decide +kernel
theorem kX11_digitsBehind_25 : zD cX11_digitsBehind 25 26 (.ireturn) 1 := by decide +kernel
set_option maxRecDepth 10000 in
theorem wX11_digitsBehind_0 {G : ZG} {d : Nat} {h : ZH} {Q : Option ZV → ZH → Prop} {x0 : Int32} 
  (H : (¬ x0 = 115 → (x0 = 120 → Q (some (zi 2)) h) ∧ (¬ x0 = 120 → (¬ x0 = 112 → Q (some (zi 0)) h) ∧ (x0 = 112 → Q (some (zi 2)) h))) ∧ (x0 = 115 → Q (some (zi 4)) h)) :
  zT G (d + 1) mX11_digitsBehind 0 [zi x0] [] h Q := by
  refine zt_iload_n kX11_digitsBehind_0 rfl ?_
  refine zt_bipush (v := 115) kX11_digitsBehind_1 rfl ?_
  refine zt_icmp_ne kX11_digitsBehind_3 (fun c => ?_) (fun c => ?_)
  · replace H := H.1 c
    refine zt_iload_n kX11_digitsBehind_8 rfl ?_
    refine zt_bipush (v := 120) kX11_digitsBehind_9 rfl ?_
    refine zt_icmp_eq kX11_digitsBehind_11 (fun c => ?_) (fun c => ?_)
    · replace H := H.1 c
      refine zt_iconst (v := 2) kX11_digitsBehind_20 rfl ?_
      refine zt_goto kX11_digitsBehind_21 ?_
      exact zt_iret kX11_digitsBehind_25 rfl H
    · replace H := H.2 c
      refine zt_iload_n kX11_digitsBehind_14 rfl ?_
      refine zt_bipush (v := 112) kX11_digitsBehind_15 rfl ?_
      refine zt_icmp_ne kX11_digitsBehind_17 (fun c => ?_) (fun c => ?_)
      · replace H := H.1 c
        refine zt_iconst (v := 0) kX11_digitsBehind_24 rfl ?_
        exact zt_iret kX11_digitsBehind_25 rfl H
      · replace H := H.2 c
        refine zt_iconst (v := 2) kX11_digitsBehind_20 rfl ?_
        refine zt_goto kX11_digitsBehind_21 ?_
        exact zt_iret kX11_digitsBehind_25 rfl H
  · replace H := H.2 c
    refine zt_iconst (v := 4) kX11_digitsBehind_6 rfl ?_
    exact zt_iret kX11_digitsBehind_7 rfl H

theorem kX11_powerOf_0 : zD cX11_powerOf 0 1 (.lconst 1) 1 := by decide +kernel
theorem kX11_powerOf_1 : zD cX11_powerOf 1 2 (.lstore_n 2) 1 := by decide +kernel
theorem kX11_powerOf_2 : zD cX11_powerOf 2 3 (.iconst 0) 1 := by decide +kernel
theorem kX11_powerOf_3 : zD cX11_powerOf 3 5 (.istore 4) 2 := by decide +kernel
theorem kX11_powerOf_5 : zD cX11_powerOf 5 7 (.iload 4) 2 := by decide +kernel
theorem kX11_powerOf_7 : zD cX11_powerOf 7 8 (.iload_n 1) 1 := by decide +kernel
theorem kX11_powerOf_8 : zB cX11_powerOf 8 11 22 (.if_icmp .ge 14) 14 := by decide +kernel
theorem kX11_powerOf_11 : zD cX11_powerOf 11 12 (.lload_n 2) 1 := by decide +kernel
theorem kX11_powerOf_12 : zD cX11_powerOf 12 13 (.iload_n 0) 1 := by decide +kernel
theorem kX11_powerOf_13 : zD cX11_powerOf 13 14 (.i2l) 1 := by decide +kernel
theorem kX11_powerOf_14 : zD cX11_powerOf 14 15 (.lmul) 1 := by decide +kernel
theorem kX11_powerOf_15 : zD cX11_powerOf 15 16 (.lstore_n 2) 1 := by decide +kernel
theorem kX11_powerOf_16 : zD cX11_powerOf 16 19 (.iinc 4 1) 3 := by decide +kernel
theorem kX11_powerOf_19 : zB cX11_powerOf 19 22 5 (.goto (-14)) (-14) := by decide +kernel
theorem kX11_powerOf_22 : zD cX11_powerOf 22 23 (.lload_n 2) 1 := by decide +kernel
theorem kX11_powerOf_23 : zD cX11_powerOf 23 24 (.lreturn) 1 := by decide +kernel
set_option maxRecDepth 10000 in
theorem wX11_powerOf_0 {G : ZG} {d : Nat} {h : ZH} {Q : Option ZV → ZH → Prop} {x0 : Int32} {x1 : Int32} 
  (H : zT G (d + 1) mX11_powerOf 5 [zi x0, zi x1, zl 1, zu, zi 0] [] h Q) :
  zT G (d + 1) mX11_powerOf 0 [zi x0, zi x1, zu, zu, zu] [] h Q := by
  refine zt_lconst (v := 1) kX11_powerOf_0 rfl ?_
  refine zt_lstore_n (L' := [zi x0, zi x1, zl 1, zu, zu]) kX11_powerOf_1 (by decide) rfl ?_
  refine zt_iconst (v := 0) kX11_powerOf_2 rfl ?_
  refine zt_istore (L' := [zi x0, zi x1, zl 1, zu, zi 0]) kX11_powerOf_3 (by decide) rfl ?_
  exact H

set_option maxRecDepth 10000 in
theorem wX11_powerOf_5 {G : ZG} {d : Nat} {h : ZH} {Q : Option ZV → ZH → Prop} {x0 : Int32} {x1 : Int32} {x2 : Int64} {x4 : Int32} 
  (H : (x1 ≤ x4 → Q (some (zl x2)) h) ∧ (¬ x1 ≤ x4 → zT G (d + 1) mX11_powerOf 5 [zi x0, zi x1, zl (x2 * (x0).toInt64), zu, zi (x4 + 1)] [] h Q)) :
  zT G (d + 1) mX11_powerOf 5 [zi x0, zi x1, zl x2, zu, zi x4] [] h Q := by
  refine zt_iload kX11_powerOf_5 rfl ?_
  refine zt_iload_n kX11_powerOf_7 rfl ?_
  refine zt_icmp_ge kX11_powerOf_8 (fun c => ?_) (fun c => ?_)
  · replace H := H.1 c
    refine zt_lload_n kX11_powerOf_22 rfl ?_
    exact zt_lret kX11_powerOf_23 rfl H
  · replace H := H.2 c
    refine zt_lload_n kX11_powerOf_11 rfl ?_
    refine zt_iload_n kX11_powerOf_12 rfl ?_
    refine zt_i2l kX11_powerOf_13 ?_
    refine zt_lmul kX11_powerOf_14 ?_
    refine zt_lstore_n (L' := [zi x0, zi x1, zl (x2 * (x0).toInt64), zu, zi x4]) kX11_powerOf_15 (by decide) rfl ?_
    refine zt_iinc (v := (x4 + 1)) (L' := [zi x0, zi x1, zl (x2 * (x0).toInt64), zu, zi (x4 + 1)]) kX11_powerOf_16 rfl rfl (by decide) rfl ?_
    refine zt_goto kX11_powerOf_19 ?_
    exact H

theorem kX11_commonDivisor_0 : zD cX11_commonDivisor 0 1 (.lload_n 2) 1 := by decide +kernel
theorem kX11_commonDivisor_1 : zD cX11_commonDivisor 1 3 (.lstore 4) 2 := by decide +kernel
theorem kX11_commonDivisor_3 : zD cX11_commonDivisor 3 4 (.lload_n 0) 1 := by decide +kernel
theorem kX11_commonDivisor_4 : zD cX11_commonDivisor 4 6 (.lstore 6) 2 := by decide +kernel
theorem kX11_commonDivisor_6 : zD cX11_commonDivisor 6 7 (.iconst 0) 1 := by decide +kernel
theorem kX11_commonDivisor_7 : zD cX11_commonDivisor 7 9 (.istore 8) 2 := by decide +kernel
theorem kX11_commonDivisor_9 : zD cX11_commonDivisor 9 11 (.iload 8) 2 := by decide +kernel
theorem kX11_commonDivisor_11 : zD cX11_commonDivisor 11 14 (.sipush 200) 3 := by decide +kernel
theorem kX11_commonDivisor_14 : zB cX11_commonDivisor 14 17 45 (.if_icmp .ge 31) 31 := by decide +kernel
theorem kX11_commonDivisor_17 : zD cX11_commonDivisor 17 19 (.lload 6) 2 := by decide +kernel
theorem kX11_commonDivisor_19 : zD cX11_commonDivisor 19 20 (.lconst 0) 1 := by decide +kernel
theorem kX11_commonDivisor_20 : zD cX11_commonDivisor 20 21 (.lcmp) 1 := by decide +kernel
theorem kX11_commonDivisor_21 : zB cX11_commonDivisor 21 24 45 (.ifCond .eq 24) 24 := by decide +kernel
theorem kX11_commonDivisor_24 : zD cX11_commonDivisor 24 26 (.lload 4) 2 := by decide +kernel
theorem kX11_commonDivisor_26 : zD cX11_commonDivisor 26 28 (.lload 6) 2 := by decide +kernel
theorem kX11_commonDivisor_28 : zD cX11_commonDivisor 28 29 (.lrem) 1 := by decide +kernel
theorem kX11_commonDivisor_29 : zD cX11_commonDivisor 29 31 (.lstore 9) 2 := by decide +kernel
theorem kX11_commonDivisor_31 : zD cX11_commonDivisor 31 33 (.lload 6) 2 := by decide +kernel
theorem kX11_commonDivisor_33 : zD cX11_commonDivisor 33 35 (.lstore 4) 2 := by decide +kernel
theorem kX11_commonDivisor_35 : zD cX11_commonDivisor 35 37 (.lload 9) 2 := by decide +kernel
theorem kX11_commonDivisor_37 : zD cX11_commonDivisor 37 39 (.lstore 6) 2 := by decide +kernel
theorem kX11_commonDivisor_39 : zD cX11_commonDivisor 39 42 (.iinc 8 1) 3 := by decide +kernel
theorem kX11_commonDivisor_42 : zB cX11_commonDivisor 42 45 9 (.goto (-33)) (-33) := by decide +kernel
theorem kX11_commonDivisor_45 : zD cX11_commonDivisor 45 47 (.lload 4) 2 := by decide +kernel
theorem kX11_commonDivisor_47 : zD cX11_commonDivisor 47 48 (.lreturn) 1 := by decide +kernel
set_option maxRecDepth 10000 in
theorem wX11_commonDivisor_0 {G : ZG} {d : Nat} {h : ZH} {Q : Option ZV → ZH → Prop} {x0 : Int64} {x2 : Int64} 
  (H : zT G (d + 1) mX11_commonDivisor 9 [zl x0, zu, zl x2, zu, zl x2, zu, zl x0, zu, zi 0, zu, zu] [] h Q) :
  zT G (d + 1) mX11_commonDivisor 0 [zl x0, zu, zl x2, zu, zu, zu, zu, zu, zu, zu, zu] [] h Q := by
  refine zt_lload_n kX11_commonDivisor_0 rfl ?_
  refine zt_lstore (L' := [zl x0, zu, zl x2, zu, zl x2, zu, zu, zu, zu, zu, zu]) kX11_commonDivisor_1 (by decide) rfl ?_
  refine zt_lload_n kX11_commonDivisor_3 rfl ?_
  refine zt_lstore (L' := [zl x0, zu, zl x2, zu, zl x2, zu, zl x0, zu, zu, zu, zu]) kX11_commonDivisor_4 (by decide) rfl ?_
  refine zt_iconst (v := 0) kX11_commonDivisor_6 rfl ?_
  refine zt_istore (L' := [zl x0, zu, zl x2, zu, zl x2, zu, zl x0, zu, zi 0, zu, zu]) kX11_commonDivisor_7 (by decide) rfl ?_
  exact H

set_option maxRecDepth 10000 in
theorem wX11_commonDivisor_9 {G : ZG} {d : Nat} {h : ZH} {Q : Option ZV → ZH → Prop} {x0 : Int64} {x2 : Int64} {x4 : Int64} {x6 : Int64} {x8 : Int32} 
  (H : (200 ≤ x8 → Q (some (zl x4)) h) ∧ (¬ 200 ≤ x8 → ((lg_cmp x6 0) = 0 → Q (some (zl x4)) h) ∧ (¬ (lg_cmp x6 0) = 0 → (¬ x6 = (0 : Int64)) ∧ zT G (d + 1) mX11_commonDivisor 9 [zl x0, zu, zl x2, zu, zl x6, zu, zl (x4 - x4 / x6 * x6), zu, zi (x8 + 1), zu, zu] [] h Q))) :
  zT G (d + 1) mX11_commonDivisor 9 [zl x0, zu, zl x2, zu, zl x4, zu, zl x6, zu, zi x8, zu, zu] [] h Q := by
  refine zt_iload kX11_commonDivisor_9 rfl ?_
  refine zt_sipush (v := 200) kX11_commonDivisor_11 rfl ?_
  refine zt_icmp_ge kX11_commonDivisor_14 (fun c => ?_) (fun c => ?_)
  · replace H := H.1 c
    refine zt_lload kX11_commonDivisor_45 rfl ?_
    exact zt_lret kX11_commonDivisor_47 rfl H
  · replace H := H.2 c
    refine zt_lload kX11_commonDivisor_17 rfl ?_
    refine zt_lconst (v := 0) kX11_commonDivisor_19 rfl ?_
    refine zt_lcmp kX11_commonDivisor_20 ?_
    refine zt_if_eq kX11_commonDivisor_21 (fun c => ?_) (fun c => ?_)
    · replace H := H.1 c
      refine zt_lload kX11_commonDivisor_45 rfl ?_
      exact zt_lret kX11_commonDivisor_47 rfl H
    · replace H := H.2 c
      refine zt_lload kX11_commonDivisor_24 rfl ?_
      refine zt_lload kX11_commonDivisor_26 rfl ?_
      obtain ⟨hne, H⟩ := H
      refine zt_lrem kX11_commonDivisor_28 hne ?_
      refine zt_lstore (L' := [zl x0, zu, zl x2, zu, zl x4, zu, zl x6, zu, zi x8, zl (x4 - x4 / x6 * x6), zu]) kX11_commonDivisor_29 (by decide) rfl ?_
      refine zt_lload kX11_commonDivisor_31 rfl ?_
      refine zt_lstore (L' := [zl x0, zu, zl x2, zu, zl x6, zu, zl x6, zu, zi x8, zl (x4 - x4 / x6 * x6), zu]) kX11_commonDivisor_33 (by decide) rfl ?_
      refine zt_lload kX11_commonDivisor_35 rfl ?_
      refine zt_lstore (L' := [zl x0, zu, zl x2, zu, zl x6, zu, zl (x4 - x4 / x6 * x6), zu, zi x8, zl (x4 - x4 / x6 * x6), zu]) kX11_commonDivisor_37 (by decide) rfl ?_
      refine zt_iinc (v := (x8 + 1)) (L' := [zl x0, zu, zl x2, zu, zl x6, zu, zl (x4 - x4 / x6 * x6), zu, zi (x8 + 1), zl (x4 - x4 / x6 * x6), zu]) kX11_commonDivisor_39 rfl rfl (by decide) rfl ?_
      refine zt_goto kX11_commonDivisor_42 ?_
      exact zt_sub [zl x0, zu, zl x2, zu, zl x6, zu, zl (x4 - x4 / x6 * x6), zu, zi (x8 + 1), zu, zu] ⟨rfl, ⟨rfl, ⟨rfl, ⟨rfl, ⟨rfl, trivial⟩⟩⟩⟩⟩ H

theorem kX12_gcd_0 : zD cX12_gcd 0 1 (.lload_n 0) 1 := by decide +kernel
theorem kX12_gcd_1 : zD cX12_gcd 1 3 (.lstore 4) 2 := by decide +kernel
theorem kX12_gcd_3 : zD cX12_gcd 3 4 (.lload_n 2) 1 := by decide +kernel
theorem kX12_gcd_4 : zD cX12_gcd 4 6 (.lstore 6) 2 := by decide +kernel
theorem kX12_gcd_6 : zD cX12_gcd 6 8 (.lload 6) 2 := by decide +kernel
theorem kX12_gcd_8 : zD cX12_gcd 8 9 (.lconst 0) 1 := by decide +kernel
theorem kX12_gcd_9 : zD cX12_gcd 9 10 (.lcmp) 1 := by decide +kernel
theorem kX12_gcd_10 : zB cX12_gcd 10 13 31 (.ifCond .eq 21) 21 := by decide +kernel
theorem kX12_gcd_13 : zD cX12_gcd 13 15 (.lload 4) 2 := by decide +kernel
theorem kX12_gcd_15 : zD cX12_gcd 15 17 (.lload 6) 2 := by decide +kernel
theorem kX12_gcd_17 : zD cX12_gcd 17 18 (.lrem) 1 := by decide +kernel
theorem kX12_gcd_18 : zD cX12_gcd 18 20 (.lstore 8) 2 := by decide +kernel
theorem kX12_gcd_20 : zD cX12_gcd 20 22 (.lload 6) 2 := by decide +kernel
theorem kX12_gcd_22 : zD cX12_gcd 22 24 (.lstore 4) 2 := by decide +kernel
theorem kX12_gcd_24 : zD cX12_gcd 24 26 (.lload 8) 2 := by decide +kernel
theorem kX12_gcd_26 : zD cX12_gcd 26 28 (.lstore 6) 2 := by decide +kernel
theorem kX12_gcd_28 : zB cX12_gcd 28 31 6 (.goto (-22)) (-22) := by decide +kernel
theorem kX12_gcd_31 : zD cX12_gcd 31 33 (.lload 4) 2 := by decide +kernel
theorem kX12_gcd_33 : zD cX12_gcd 33 34 (.lreturn) 1 := by decide +kernel
set_option maxRecDepth 10000 in
theorem wX12_gcd_0 {G : ZG} {d : Nat} {h : ZH} {Q : Option ZV → ZH → Prop} {x0 : Int64} {x2 : Int64} 
  (H : zT G (d + 1) mX12_gcd 6 [zl x0, zu, zl x2, zu, zl x0, zu, zl x2, zu, zu, zu] [] h Q) :
  zT G (d + 1) mX12_gcd 0 [zl x0, zu, zl x2, zu, zu, zu, zu, zu, zu, zu] [] h Q := by
  refine zt_lload_n kX12_gcd_0 rfl ?_
  refine zt_lstore (L' := [zl x0, zu, zl x2, zu, zl x0, zu, zu, zu, zu, zu]) kX12_gcd_1 (by decide) rfl ?_
  refine zt_lload_n kX12_gcd_3 rfl ?_
  refine zt_lstore (L' := [zl x0, zu, zl x2, zu, zl x0, zu, zl x2, zu, zu, zu]) kX12_gcd_4 (by decide) rfl ?_
  exact H

set_option maxRecDepth 10000 in
theorem wX12_gcd_6 {G : ZG} {d : Nat} {h : ZH} {Q : Option ZV → ZH → Prop} {x0 : Int64} {x2 : Int64} {x4 : Int64} {x6 : Int64} 
  (H : ((lg_cmp x6 0) = 0 → Q (some (zl x4)) h) ∧ (¬ (lg_cmp x6 0) = 0 → (¬ x6 = (0 : Int64)) ∧ zT G (d + 1) mX12_gcd 6 [zl x0, zu, zl x2, zu, zl x6, zu, zl (x4 - x4 / x6 * x6), zu, zu, zu] [] h Q)) :
  zT G (d + 1) mX12_gcd 6 [zl x0, zu, zl x2, zu, zl x4, zu, zl x6, zu, zu, zu] [] h Q := by
  refine zt_lload kX12_gcd_6 rfl ?_
  refine zt_lconst (v := 0) kX12_gcd_8 rfl ?_
  refine zt_lcmp kX12_gcd_9 ?_
  refine zt_if_eq kX12_gcd_10 (fun c => ?_) (fun c => ?_)
  · replace H := H.1 c
    refine zt_lload kX12_gcd_31 rfl ?_
    exact zt_lret kX12_gcd_33 rfl H
  · replace H := H.2 c
    refine zt_lload kX12_gcd_13 rfl ?_
    refine zt_lload kX12_gcd_15 rfl ?_
    obtain ⟨hne, H⟩ := H
    refine zt_lrem kX12_gcd_17 hne ?_
    refine zt_lstore (L' := [zl x0, zu, zl x2, zu, zl x4, zu, zl x6, zu, zl (x4 - x4 / x6 * x6), zu]) kX12_gcd_18 (by decide) rfl ?_
    refine zt_lload kX12_gcd_20 rfl ?_
    refine zt_lstore (L' := [zl x0, zu, zl x2, zu, zl x6, zu, zl x6, zu, zl (x4 - x4 / x6 * x6), zu]) kX12_gcd_22 (by decide) rfl ?_
    refine zt_lload kX12_gcd_24 rfl ?_
    refine zt_lstore (L' := [zl x0, zu, zl x2, zu, zl x6, zu, zl (x4 - x4 / x6 * x6), zu, zl (x4 - x4 / x6 * x6), zu]) kX12_gcd_26 (by decide) rfl ?_
    refine zt_goto kX12_gcd_28 ?_
    exact zt_sub [zl x0, zu, zl x2, zu, zl x6, zu, zl (x4 - x4 / x6 * x6), zu, zu, zu] ⟨rfl, ⟨rfl, ⟨rfl, ⟨rfl, trivial⟩⟩⟩⟩ H

theorem kX4_has_0 : zD cX4_has 0 1 (.iload_n 0) 1 := by decide +kernel
theorem kX4_has_1 : zD cX4_has 1 2 (.iload_n 1) 1 := by decide +kernel
theorem kX4_has_2 : zD cX4_has 2 3 (.ishr) 1 := by decide +kernel
theorem kX4_has_3 : zD cX4_has 3 4 (.iconst 1) 1 := by decide +kernel
theorem kX4_has_4 : zD cX4_has 4 5 (.iand) 1 := by decide +kernel
theorem kX4_has_5 : zB cX4_has 5 8 12 (.ifCond .eq 7) 7 := by decide +kernel
theorem kX4_has_8 : zD cX4_has 8 9 (.iconst 1) 1 := by decide +kernel
theorem kX4_has_9 : zB cX4_has 9 12 13 (.goto 4) 4 := by decide +kernel
theorem kX4_has_12 : zD cX4_has 12 13 (.iconst 0) 1 := by decide +kernel
theorem kX4_has_13 : zD cX4_has 13 14 (.ireturn) 1 := by decide +kernel
set_option maxRecDepth 10000 in
theorem wX4_has_0 {G : ZG} {d : Nat} {h : ZH} {Q : Option ZV → ZH → Prop} {x0 : Int32} {x1 : Int32} 
  (H : (((x0 >>> (x1 &&& 31)) &&& 1) = 0 → Q (some (zi 0)) h) ∧ (¬ ((x0 >>> (x1 &&& 31)) &&& 1) = 0 → Q (some (zi 1)) h)) :
  zT G (d + 1) mX4_has 0 [zi x0, zi x1] [] h Q := by
  refine zt_iload_n kX4_has_0 rfl ?_
  refine zt_iload_n kX4_has_1 rfl ?_
  refine zt_ishr kX4_has_2 ?_
  refine zt_iconst (v := 1) kX4_has_3 rfl ?_
  refine zt_iand kX4_has_4 ?_
  refine zt_if_eq kX4_has_5 (fun c => ?_) (fun c => ?_)
  · replace H := H.1 c
    refine zt_iconst (v := 0) kX4_has_12 rfl ?_
    exact zt_zret kX4_has_13 rfl (by decide) H
  · replace H := H.2 c
    refine zt_iconst (v := 1) kX4_has_8 rfl ?_
    refine zt_goto kX4_has_9 ?_
    exact zt_zret kX4_has_13 rfl (by decide) H

theorem kX8_clear_0 : zD cX8_clear 0 1 (.aload_n 0) 1 := by decide +kernel
theorem kX8_clear_1 : zD cX8_clear 1 2 (.iconst 0) 1 := by decide +kernel
theorem kX8_clear_2 : zD cX8_clear 2 5 (.putfield 11) 3 := by decide +kernel
theorem kX8_clear_5 : zD cX8_clear 5 6 (.aload_n 0) 1 := by decide +kernel
theorem kX8_clear_6 : zD cX8_clear 6 7 (.iconst 0) 1 := by decide +kernel
theorem kX8_clear_7 : zD cX8_clear 7 10 (.putfield 24) 3 := by decide +kernel
theorem kX8_clear_10 : zD cX8_clear 10 11 (.return_) 1 := by decide +kernel
set_option maxRecDepth 10000 in
theorem wX8_clear_0 {G : ZG} {d : Nat} {h : ZH} {Q : Option ZV → ZH → Prop} {i0 : Nat} (hi0 : i0 < zcnt 3)
  (H : ∀ h1 : ZH, h1 = zs1 h 3 i0 0 0 → ∀ h2 : ZH, h2 = zs1 h1 3 i0 4 0 → Q none h2) :
  zT G (d + 1) mX8_clear 0 [zr 3 i0] [] h Q := by
  refine zt_aload_n kX8_clear_0 rfl ?_
  refine zt_iconst (v := 0) kX8_clear_1 rfl ?_
  refine zt_put kX8_clear_2 fRX8_11 pRX8_0 rfl hi0 rfl ?_
  refine zt_heap (fun h1 eh1 => ?_)
  replace H := H h1 eh1
  refine zt_aload_n kX8_clear_5 rfl ?_
  refine zt_iconst (v := 0) kX8_clear_6 rfl ?_
  refine zt_put kX8_clear_7 fRX8_24 pRX8_4 rfl hi0 rfl ?_
  refine zt_heap (fun h2 eh2 => ?_)
  replace H := H h2 eh2
  exact zt_vret kX8_clear_10 rfl H

theorem kX8_holdKind_0 : zD cX8_holdKind 0 1 (.aload_n 0) 1 := by decide +kernel
theorem kX8_holdKind_1 : zD cX8_holdKind 1 2 (.iconst 1) 1 := by decide +kernel
theorem kX8_holdKind_2 : zD cX8_holdKind 2 5 (.putfield 11) 3 := by decide +kernel
theorem kX8_holdKind_5 : zD cX8_holdKind 5 6 (.aload_n 0) 1 := by decide +kernel
theorem kX8_holdKind_6 : zD cX8_holdKind 6 7 (.iload_n 1) 1 := by decide +kernel
theorem kX8_holdKind_7 : zD cX8_holdKind 7 10 (.putfield 15) 3 := by decide +kernel
theorem kX8_holdKind_10 : zD cX8_holdKind 10 11 (.aload_n 0) 1 := by decide +kernel
theorem kX8_holdKind_11 : zD cX8_holdKind 11 12 (.iload_n 2) 1 := by decide +kernel
theorem kX8_holdKind_12 : zD cX8_holdKind 12 15 (.putfield 18) 3 := by decide +kernel
theorem kX8_holdKind_15 : zD cX8_holdKind 15 16 (.aload_n 0) 1 := by decide +kernel
theorem kX8_holdKind_16 : zD cX8_holdKind 16 17 (.iconst 0) 1 := by decide +kernel
theorem kX8_holdKind_17 : zD cX8_holdKind 17 20 (.putfield 24) 3 := by decide +kernel
theorem kX8_holdKind_20 : zD cX8_holdKind 20 21 (.return_) 1 := by decide +kernel
set_option maxRecDepth 10000 in
theorem wX8_holdKind_0 {G : ZG} {d : Nat} {h : ZH} {Q : Option ZV → ZH → Prop} {i0 : Nat} {x1 : Int32} {x2 : Int32} (hi0 : i0 < zcnt 3)
  (H : ∀ h1 : ZH, h1 = zs1 h 3 i0 0 1 → ∀ h2 : ZH, h2 = zs1 h1 3 i0 1 x1 → ∀ h3 : ZH, h3 = zs1 h2 3 i0 2 x2 → ∀ h4 : ZH, h4 = zs1 h3 3 i0 4 0 → Q none h4) :
  zT G (d + 1) mX8_holdKind 0 [zr 3 i0, zi x1, zi x2] [] h Q := by
  refine zt_aload_n kX8_holdKind_0 rfl ?_
  refine zt_iconst (v := 1) kX8_holdKind_1 rfl ?_
  refine zt_put kX8_holdKind_2 fRX8_11 pRX8_0 rfl hi0 rfl ?_
  refine zt_heap (fun h1 eh1 => ?_)
  replace H := H h1 eh1
  refine zt_aload_n kX8_holdKind_5 rfl ?_
  refine zt_iload_n kX8_holdKind_6 rfl ?_
  refine zt_put kX8_holdKind_7 fRX8_15 pRX8_1 rfl hi0 rfl ?_
  refine zt_heap (fun h2 eh2 => ?_)
  replace H := H h2 eh2
  refine zt_aload_n kX8_holdKind_10 rfl ?_
  refine zt_iload_n kX8_holdKind_11 rfl ?_
  refine zt_put kX8_holdKind_12 fRX8_18 pRX8_2 rfl hi0 rfl ?_
  refine zt_heap (fun h3 eh3 => ?_)
  replace H := H h3 eh3
  refine zt_aload_n kX8_holdKind_15 rfl ?_
  refine zt_iconst (v := 0) kX8_holdKind_16 rfl ?_
  refine zt_put kX8_holdKind_17 fRX8_24 pRX8_4 rfl hi0 rfl ?_
  refine zt_heap (fun h4 eh4 => ?_)
  replace H := H h4 eh4
  exact zt_vret kX8_holdKind_20 rfl H

theorem kX8_isEmpty_0 : zD cX8_isEmpty 0 1 (.aload_n 0) 1 := by decide +kernel
theorem kX8_isEmpty_1 : zD cX8_isEmpty 1 4 (.getfield 11) 3 := by decide +kernel
theorem kX8_isEmpty_4 : zB cX8_isEmpty 4 7 11 (.ifCond .ne 7) 7 := by decide +kernel
theorem kX8_isEmpty_7 : zD cX8_isEmpty 7 8 (.iconst 1) 1 := by decide +kernel
theorem kX8_isEmpty_8 : zB cX8_isEmpty 8 11 12 (.goto 4) 4 := by decide +kernel
theorem kX8_isEmpty_11 : zD cX8_isEmpty 11 12 (.iconst 0) 1 := by decide +kernel
theorem kX8_isEmpty_12 : zD cX8_isEmpty 12 13 (.ireturn) 1 := by decide +kernel
set_option maxRecDepth 10000 in
theorem wX8_isEmpty_0 {G : ZG} {d : Nat} {h : ZH} {Q : Option ZV → ZH → Prop} {i0 : Nat} (hi0 : i0 < zcnt 3)
  (H : (¬ (h.1 3 i0 0) = 0 → Q (some (zi 0)) h) ∧ ((h.1 3 i0 0) = 0 → Q (some (zi 1)) h)) :
  zT G (d + 1) mX8_isEmpty 0 [zr 3 i0] [] h Q := by
  refine zt_aload_n kX8_isEmpty_0 rfl ?_
  refine zt_get (v := zi (h.1 3 i0 0)) kX8_isEmpty_1 fRX8_11 rfl hi0 rfl ?_
  refine zt_if_ne kX8_isEmpty_4 (fun c => ?_) (fun c => ?_)
  · replace H := H.1 c
    refine zt_iconst (v := 0) kX8_isEmpty_11 rfl ?_
    exact zt_zret kX8_isEmpty_12 rfl (by decide) H
  · replace H := H.2 c
    refine zt_iconst (v := 1) kX8_isEmpty_7 rfl ?_
    refine zt_goto kX8_isEmpty_8 ?_
    exact zt_zret kX8_isEmpty_12 rfl (by decide) H

theorem kX8_isRow_0 : zD cX8_isRow 0 1 (.aload_n 0) 1 := by decide +kernel
theorem kX8_isRow_1 : zD cX8_isRow 1 4 (.getfield 11) 3 := by decide +kernel
theorem kX8_isRow_4 : zD cX8_isRow 4 5 (.iconst 2) 1 := by decide +kernel
theorem kX8_isRow_5 : zB cX8_isRow 5 8 12 (.if_icmp .ne 7) 7 := by decide +kernel
theorem kX8_isRow_8 : zD cX8_isRow 8 9 (.iconst 1) 1 := by decide +kernel
theorem kX8_isRow_9 : zB cX8_isRow 9 12 13 (.goto 4) 4 := by decide +kernel
theorem kX8_isRow_12 : zD cX8_isRow 12 13 (.iconst 0) 1 := by decide +kernel
theorem kX8_isRow_13 : zD cX8_isRow 13 14 (.ireturn) 1 := by decide +kernel
set_option maxRecDepth 10000 in
theorem wX8_isRow_0 {G : ZG} {d : Nat} {h : ZH} {Q : Option ZV → ZH → Prop} {i0 : Nat} (hi0 : i0 < zcnt 3)
  (H : (¬ (h.1 3 i0 0) = 2 → Q (some (zi 0)) h) ∧ ((h.1 3 i0 0) = 2 → Q (some (zi 1)) h)) :
  zT G (d + 1) mX8_isRow 0 [zr 3 i0] [] h Q := by
  refine zt_aload_n kX8_isRow_0 rfl ?_
  refine zt_get (v := zi (h.1 3 i0 0)) kX8_isRow_1 fRX8_11 rfl hi0 rfl ?_
  refine zt_iconst (v := 2) kX8_isRow_4 rfl ?_
  refine zt_icmp_ne kX8_isRow_5 (fun c => ?_) (fun c => ?_)
  · replace H := H.1 c
    refine zt_iconst (v := 0) kX8_isRow_12 rfl ?_
    exact zt_zret kX8_isRow_13 rfl (by decide) H
  · replace H := H.2 c
    refine zt_iconst (v := 1) kX8_isRow_8 rfl ?_
    refine zt_goto kX8_isRow_9 ?_
    exact zt_zret kX8_isRow_13 rfl (by decide) H

theorem kX8_hasPlace_0 : zD cX8_hasPlace 0 1 (.iload_n 1) 1 := by decide +kernel
theorem kX8_hasPlace_1 : zB cX8_hasPlace 1 4 16 (.ifCond .lt 15) 15 := by decide +kernel
theorem kX8_hasPlace_4 : zD cX8_hasPlace 4 5 (.iload_n 1) 1 := by decide +kernel
theorem kX8_hasPlace_5 : zD cX8_hasPlace 5 6 (.aload_n 0) 1 := by decide +kernel
theorem kX8_hasPlace_6 : zD cX8_hasPlace 6 9 (.getfield 24) 3 := by decide +kernel
theorem kX8_hasPlace_9 : zB cX8_hasPlace 9 12 16 (.if_icmp .ge 7) 7 := by decide +kernel
theorem kX8_hasPlace_12 : zD cX8_hasPlace 12 13 (.iconst 1) 1 := by decide +kernel
theorem kX8_hasPlace_13 : zB cX8_hasPlace 13 16 17 (.goto 4) 4 := by decide +kernel
theorem kX8_hasPlace_16 : zD cX8_hasPlace 16 17 (.iconst 0) 1 := by decide +kernel
theorem kX8_hasPlace_17 : zD cX8_hasPlace 17 18 (.ireturn) 1 := by decide +kernel
set_option maxRecDepth 10000 in
theorem wX8_hasPlace_0 {G : ZG} {d : Nat} {h : ZH} {Q : Option ZV → ZH → Prop} {i0 : Nat} {x1 : Int32} (hi0 : i0 < zcnt 3)
  (H : (x1 < 0 → Q (some (zi 0)) h) ∧ (¬ x1 < 0 → ((h.1 3 i0 4) ≤ x1 → Q (some (zi 0)) h) ∧ (¬ (h.1 3 i0 4) ≤ x1 → Q (some (zi 1)) h))) :
  zT G (d + 1) mX8_hasPlace 0 [zr 3 i0, zi x1] [] h Q := by
  refine zt_iload_n kX8_hasPlace_0 rfl ?_
  refine zt_if_lt kX8_hasPlace_1 (fun c => ?_) (fun c => ?_)
  · replace H := H.1 c
    refine zt_iconst (v := 0) kX8_hasPlace_16 rfl ?_
    exact zt_zret kX8_hasPlace_17 rfl (by decide) H
  · replace H := H.2 c
    refine zt_iload_n kX8_hasPlace_4 rfl ?_
    refine zt_aload_n kX8_hasPlace_5 rfl ?_
    refine zt_get (v := zi (h.1 3 i0 4)) kX8_hasPlace_6 fRX8_24 rfl hi0 rfl ?_
    refine zt_icmp_ge kX8_hasPlace_9 (fun c => ?_) (fun c => ?_)
    · replace H := H.1 c
      refine zt_iconst (v := 0) kX8_hasPlace_16 rfl ?_
      exact zt_zret kX8_hasPlace_17 rfl (by decide) H
    · replace H := H.2 c
      refine zt_iconst (v := 1) kX8_hasPlace_12 rfl ?_
      refine zt_goto kX8_hasPlace_13 ?_
      exact zt_zret kX8_hasPlace_17 rfl (by decide) H

theorem kX8_hasSpan_0 : zD cX8_hasSpan 0 1 (.iload_n 1) 1 := by decide +kernel
theorem kX8_hasSpan_1 : zB cX8_hasSpan 1 4 30 (.ifCond .lt 29) 29 := by decide +kernel
theorem kX8_hasSpan_4 : zD cX8_hasSpan 4 5 (.iload_n 2) 1 := by decide +kernel
theorem kX8_hasSpan_5 : zB cX8_hasSpan 5 8 30 (.ifCond .lt 25) 25 := by decide +kernel
theorem kX8_hasSpan_8 : zD cX8_hasSpan 8 9 (.iload_n 1) 1 := by decide +kernel
theorem kX8_hasSpan_9 : zD cX8_hasSpan 9 10 (.aload_n 0) 1 := by decide +kernel
theorem kX8_hasSpan_10 : zD cX8_hasSpan 10 13 (.getfield 24) 3 := by decide +kernel
theorem kX8_hasSpan_13 : zB cX8_hasSpan 13 16 30 (.if_icmp .gt 17) 17 := by decide +kernel
theorem kX8_hasSpan_16 : zD cX8_hasSpan 16 17 (.iload_n 2) 1 := by decide +kernel
theorem kX8_hasSpan_17 : zD cX8_hasSpan 17 18 (.aload_n 0) 1 := by decide +kernel
theorem kX8_hasSpan_18 : zD cX8_hasSpan 18 21 (.getfield 24) 3 := by decide +kernel
theorem kX8_hasSpan_21 : zD cX8_hasSpan 21 22 (.iload_n 1) 1 := by decide +kernel
theorem kX8_hasSpan_22 : zD cX8_hasSpan 22 23 (.isub) 1 := by decide +kernel
theorem kX8_hasSpan_23 : zB cX8_hasSpan 23 26 30 (.if_icmp .gt 7) 7 := by decide +kernel
theorem kX8_hasSpan_26 : zD cX8_hasSpan 26 27 (.iconst 1) 1 := by decide +kernel
theorem kX8_hasSpan_27 : zB cX8_hasSpan 27 30 31 (.goto 4) 4 := by decide +kernel
theorem kX8_hasSpan_30 : zD cX8_hasSpan 30 31 (.iconst 0) 1 := by decide +kernel
theorem kX8_hasSpan_31 : zD cX8_hasSpan 31 32 (.ireturn) 1 := by decide +kernel
set_option maxRecDepth 10000 in
theorem wX8_hasSpan_0 {G : ZG} {d : Nat} {h : ZH} {Q : Option ZV → ZH → Prop} {i0 : Nat} {x1 : Int32} {x2 : Int32} (hi0 : i0 < zcnt 3)
  (H : (x1 < 0 → Q (some (zi 0)) h) ∧ (¬ x1 < 0 → (x2 < 0 → Q (some (zi 0)) h) ∧ (¬ x2 < 0 → ((h.1 3 i0 4) < x1 → Q (some (zi 0)) h) ∧ (¬ (h.1 3 i0 4) < x1 → (((h.1 3 i0 4) - x1) < x2 → Q (some (zi 0)) h) ∧ (¬ ((h.1 3 i0 4) - x1) < x2 → Q (some (zi 1)) h))))) :
  zT G (d + 1) mX8_hasSpan 0 [zr 3 i0, zi x1, zi x2] [] h Q := by
  refine zt_iload_n kX8_hasSpan_0 rfl ?_
  refine zt_if_lt kX8_hasSpan_1 (fun c => ?_) (fun c => ?_)
  · replace H := H.1 c
    refine zt_iconst (v := 0) kX8_hasSpan_30 rfl ?_
    exact zt_zret kX8_hasSpan_31 rfl (by decide) H
  · replace H := H.2 c
    refine zt_iload_n kX8_hasSpan_4 rfl ?_
    refine zt_if_lt kX8_hasSpan_5 (fun c => ?_) (fun c => ?_)
    · replace H := H.1 c
      refine zt_iconst (v := 0) kX8_hasSpan_30 rfl ?_
      exact zt_zret kX8_hasSpan_31 rfl (by decide) H
    · replace H := H.2 c
      refine zt_iload_n kX8_hasSpan_8 rfl ?_
      refine zt_aload_n kX8_hasSpan_9 rfl ?_
      refine zt_get (v := zi (h.1 3 i0 4)) kX8_hasSpan_10 fRX8_24 rfl hi0 rfl ?_
      refine zt_icmp_gt kX8_hasSpan_13 (fun c => ?_) (fun c => ?_)
      · replace H := H.1 c
        refine zt_iconst (v := 0) kX8_hasSpan_30 rfl ?_
        exact zt_zret kX8_hasSpan_31 rfl (by decide) H
      · replace H := H.2 c
        refine zt_iload_n kX8_hasSpan_16 rfl ?_
        refine zt_aload_n kX8_hasSpan_17 rfl ?_
        refine zt_get (v := zi (h.1 3 i0 4)) kX8_hasSpan_18 fRX8_24 rfl hi0 rfl ?_
        refine zt_iload_n kX8_hasSpan_21 rfl ?_
        refine zt_isub kX8_hasSpan_22 ?_
        refine zt_icmp_gt kX8_hasSpan_23 (fun c => ?_) (fun c => ?_)
        · replace H := H.1 c
          refine zt_iconst (v := 0) kX8_hasSpan_30 rfl ?_
          exact zt_zret kX8_hasSpan_31 rfl (by decide) H
        · replace H := H.2 c
          refine zt_iconst (v := 1) kX8_hasSpan_26 rfl ?_
          refine zt_goto kX8_hasSpan_27 ?_
          exact zt_zret kX8_hasSpan_31 rfl (by decide) H

theorem kX8_write_0 : zD cX8_write 0 1 (.aload_n 0) 1 := by decide +kernel
theorem kX8_write_1 : zD cX8_write 1 4 (.getfield 21) 3 := by decide +kernel
theorem kX8_write_4 : zB cX8_write 4 7 18 (.ifCond .ne 14) 14 := by decide +kernel
theorem kX8_write_7 : zD cX8_write 7 8 (.aload_n 0) 1 := by decide +kernel
theorem kX8_write_8 : zD cX8_write 8 11 (.getfield 27) 3 := by decide +kernel
theorem kX8_write_11 : zD cX8_write 11 12 (.iload_n 1) 1 := by decide +kernel
theorem kX8_write_12 : zD cX8_write 12 13 (.iload_n 2) 1 := by decide +kernel
theorem kX8_write_13 : zD cX8_write 13 14 (.i2b) 1 := by decide +kernel
theorem kX8_write_14 : zD cX8_write 14 15 (.iastore) 1 := by decide +kernel
theorem kX8_write_15 : zB cX8_write 15 18 44 (.goto 29) 29 := by decide +kernel
theorem kX8_write_18 : zD cX8_write 18 19 (.aload_n 0) 1 := by decide +kernel
theorem kX8_write_19 : zD cX8_write 19 22 (.getfield 21) 3 := by decide +kernel
theorem kX8_write_22 : zD cX8_write 22 23 (.iconst 1) 1 := by decide +kernel
theorem kX8_write_23 : zB cX8_write 23 26 37 (.if_icmp .ne 14) 14 := by decide +kernel
theorem kX8_write_26 : zD cX8_write 26 27 (.aload_n 0) 1 := by decide +kernel
theorem kX8_write_27 : zD cX8_write 27 30 (.getfield 27) 3 := by decide +kernel
theorem kX8_write_30 : zD cX8_write 30 31 (.iload_n 1) 1 := by decide +kernel
theorem kX8_write_31 : zD cX8_write 31 32 (.iload_n 2) 1 := by decide +kernel
theorem kX8_write_32 : zD cX8_write 32 33 (.i2s) 1 := by decide +kernel
theorem kX8_write_33 : zD cX8_write 33 34 (.iastore) 1 := by decide +kernel
theorem kX8_write_34 : zB cX8_write 34 37 44 (.goto 10) 10 := by decide +kernel
theorem kX8_write_37 : zD cX8_write 37 38 (.aload_n 0) 1 := by decide +kernel
theorem kX8_write_38 : zD cX8_write 38 41 (.getfield 27) 3 := by decide +kernel
theorem kX8_write_41 : zD cX8_write 41 42 (.iload_n 1) 1 := by decide +kernel
theorem kX8_write_42 : zD cX8_write 42 43 (.iload_n 2) 1 := by decide +kernel
theorem kX8_write_43 : zD cX8_write 43 44 (.iastore) 1 := by decide +kernel
theorem kX8_write_44 : zD cX8_write 44 45 (.return_) 1 := by decide +kernel
set_option maxRecDepth 10000 in
theorem wX8_write_0 {G : ZG} {d : Nat} {h : ZH} {Q : Option ZV → ZH → Prop} {i0 : Nat} {x1 : Int32} {x2 : Int32} (hi0 : i0 < zcnt 3)
  (H : (¬ (h.1 3 i0 3) = 0 → (¬ (h.1 3 i0 3) = 1 → vp_in x1 100 ∧ (∀ h1 : ZH, h1 = zs1 h 16 i0 x1.toNatClampNeg x2 → Q none h1)) ∧ ((h.1 3 i0 3) = 1 → vp_in x1 100 ∧ (∀ h2 : ZH, h2 = zs1 h 16 i0 x1.toNatClampNeg (x2).toInt16.toInt32 → Q none h2))) ∧ ((h.1 3 i0 3) = 0 → vp_in x1 100 ∧ (∀ h3 : ZH, h3 = zs1 h 16 i0 x1.toNatClampNeg (x2).toInt8.toInt32 → Q none h3))) :
  zT G (d + 1) mX8_write 0 [zr 3 i0, zi x1, zi x2] [] h Q := by
  refine zt_aload_n kX8_write_0 rfl ?_
  refine zt_get (v := zi (h.1 3 i0 3)) kX8_write_1 fRX8_21 rfl hi0 rfl ?_
  refine zt_if_ne kX8_write_4 (fun c => ?_) (fun c => ?_)
  · replace H := H.1 c
    refine zt_aload_n kX8_write_18 rfl ?_
    refine zt_get (v := zi (h.1 3 i0 3)) kX8_write_19 fRX8_21 rfl hi0 rfl ?_
    refine zt_iconst (v := 1) kX8_write_22 rfl ?_
    refine zt_icmp_ne kX8_write_23 (fun c => ?_) (fun c => ?_)
    · replace H := H.1 c
      refine zt_aload_n kX8_write_37 rfl ?_
      refine zt_get (v := zr 16 i0) kX8_write_38 fRX8_27 rfl hi0 rfl ?_
      refine zt_iload_n kX8_write_41 rfl ?_
      refine zt_iload_n kX8_write_42 rfl ?_
      obtain ⟨hv, H⟩ := H
      refine zt_iast kX8_write_43 rfl hi0 hv ?_
      refine zt_heap (fun h1 eh1 => ?_)
      replace H := H h1 eh1
      exact zt_vret kX8_write_44 rfl H
    · replace H := H.2 c
      refine zt_aload_n kX8_write_26 rfl ?_
      refine zt_get (v := zr 16 i0) kX8_write_27 fRX8_27 rfl hi0 rfl ?_
      refine zt_iload_n kX8_write_30 rfl ?_
      refine zt_iload_n kX8_write_31 rfl ?_
      refine zt_i2s kX8_write_32 ?_
      obtain ⟨hv, H⟩ := H
      refine zt_iast kX8_write_33 rfl hi0 hv ?_
      refine zt_heap (fun h2 eh2 => ?_)
      replace H := H h2 eh2
      refine zt_goto kX8_write_34 ?_
      exact zt_vret kX8_write_44 rfl H
  · replace H := H.2 c
    refine zt_aload_n kX8_write_7 rfl ?_
    refine zt_get (v := zr 16 i0) kX8_write_8 fRX8_27 rfl hi0 rfl ?_
    refine zt_iload_n kX8_write_11 rfl ?_
    refine zt_iload_n kX8_write_12 rfl ?_
    refine zt_i2b kX8_write_13 ?_
    obtain ⟨hv, H⟩ := H
    refine zt_iast kX8_write_14 rfl hi0 hv ?_
    refine zt_heap (fun h3 eh3 => ?_)
    replace H := H h3 eh3
    refine zt_goto kX8_write_15 ?_
    exact zt_vret kX8_write_44 rfl H

theorem kX3_drawn_0 : zD cX3_drawn 0 1 (.iload_n 0) 1 := by decide +kernel
theorem kX3_drawn_1 : zD cX3_drawn 1 3 (.ldc 157) 2 := by decide +kernel
theorem kX3_drawn_3 : zD cX3_drawn 3 4 (.imul) 1 := by decide +kernel
theorem kX3_drawn_4 : zD cX3_drawn 4 7 (.sipush 12345) 3 := by decide +kernel
theorem kX3_drawn_7 : zD cX3_drawn 7 8 (.iadd) 1 := by decide +kernel
theorem kX3_drawn_8 : zD cX3_drawn 8 9 (.ireturn) 1 := by decide +kernel
set_option maxRecDepth 10000 in
theorem wX3_drawn_0 {G : ZG} {d : Nat} {h : ZH} {Q : Option ZV → ZH → Prop} {x0 : Int32} 
  (H : Q (some (zi ((x0 * 1103515245) + 12345))) h) :
  zT G (d + 1) mX3_drawn 0 [zi x0] [] h Q := by
  refine zt_iload_n kX3_drawn_0 rfl ?_
  refine zt_ldc (v := 1103515245) kX3_drawn_1 wm_720 ?_
  refine zt_imul kX3_drawn_3 ?_
  refine zt_sipush (v := 12345) kX3_drawn_4 rfl ?_
  refine zt_iadd kX3_drawn_7 ?_
  exact zt_iret kX3_drawn_8 rfl H

theorem kX3_placeOf_0 : zD cX3_placeOf 0 1 (.iload_n 0) 1 := by decide +kernel
theorem kX3_placeOf_1 : zD cX3_placeOf 1 3 (.ldc 158) 2 := by decide +kernel
theorem kX3_placeOf_3 : zD cX3_placeOf 3 4 (.iand) 1 := by decide +kernel
theorem kX3_placeOf_4 : zD cX3_placeOf 4 6 (.ldc 159) 2 := by decide +kernel
theorem kX3_placeOf_6 : zD cX3_placeOf 6 7 (.idiv) 1 := by decide +kernel
theorem kX3_placeOf_7 : zD cX3_placeOf 7 9 (.bipush 12) 2 := by decide +kernel
theorem kX3_placeOf_9 : zD cX3_placeOf 9 10 (.irem) 1 := by decide +kernel
theorem kX3_placeOf_10 : zD cX3_placeOf 10 11 (.ireturn) 1 := by decide +kernel
set_option maxRecDepth 10000 in
theorem wX3_placeOf_0 {G : ZG} {d : Nat} {h : ZH} {Q : Option ZV → ZH → Prop} {x0 : Int32} 
  (H : Q (some (zi (((x0 &&& 2147483647) / 65536) - ((x0 &&& 2147483647) / 65536) / 12 * 12))) h) :
  zT G (d + 1) mX3_placeOf 0 [zi x0] [] h Q := by
  refine zt_iload_n kX3_placeOf_0 rfl ?_
  refine zt_ldc (v := 2147483647) kX3_placeOf_1 wm_724 ?_
  refine zt_iand kX3_placeOf_3 ?_
  refine zt_ldc (v := 65536) kX3_placeOf_4 wm_725 ?_
  refine zt_idiv kX3_placeOf_6 (by decide) ?_
  refine zt_bipush (v := 12) kX3_placeOf_7 rfl ?_
  refine zt_irem kX3_placeOf_9 (by decide) ?_
  exact zt_iret kX3_placeOf_10 rfl H

theorem kX12_drawn_0 : zD cX12_drawn 0 1 (.aload_n 0) 1 := by decide +kernel
theorem kX12_drawn_1 : zD cX12_drawn 1 2 (.aload_n 0) 1 := by decide +kernel
theorem kX12_drawn_2 : zD cX12_drawn 2 5 (.getfield 225) 3 := by decide +kernel
theorem kX12_drawn_5 : zD cX12_drawn 5 7 (.ldc 228) 2 := by decide +kernel
theorem kX12_drawn_7 : zD cX12_drawn 7 8 (.imul) 1 := by decide +kernel
theorem kX12_drawn_8 : zD cX12_drawn 8 11 (.sipush 12345) 3 := by decide +kernel
theorem kX12_drawn_11 : zD cX12_drawn 11 12 (.iadd) 1 := by decide +kernel
theorem kX12_drawn_12 : zD cX12_drawn 12 15 (.putfield 225) 3 := by decide +kernel
theorem kX12_drawn_15 : zD cX12_drawn 15 16 (.aload_n 0) 1 := by decide +kernel
theorem kX12_drawn_16 : zD cX12_drawn 16 19 (.getfield 225) 3 := by decide +kernel
theorem kX12_drawn_19 : zD cX12_drawn 19 21 (.ldc 229) 2 := by decide +kernel
theorem kX12_drawn_21 : zD cX12_drawn 21 22 (.iand) 1 := by decide +kernel
theorem kX12_drawn_22 : zD cX12_drawn 22 24 (.ldc 230) 2 := by decide +kernel
theorem kX12_drawn_24 : zD cX12_drawn 24 25 (.idiv) 1 := by decide +kernel
theorem kX12_drawn_25 : zD cX12_drawn 25 26 (.iload_n 1) 1 := by decide +kernel
theorem kX12_drawn_26 : zD cX12_drawn 26 27 (.irem) 1 := by decide +kernel
theorem kX12_drawn_27 : zD cX12_drawn 27 28 (.ireturn) 1 := by decide +kernel
set_option maxRecDepth 10000 in
theorem wX12_drawn_0 {G : ZG} {d : Nat} {h : ZH} {Q : Option ZV → ZH → Prop} {x1 : Int32} 
  (H : ∀ h1 : ZH, h1 = zs1 h 5 0 14 (((h.1 5 0 14) * 1103515245) + 12345) → (¬ x1 = 0) ∧ Q (some (zi ((((h1.1 5 0 14) &&& 2147483647) / 65536) - (((h1.1 5 0 14) &&& 2147483647) / 65536) / x1 * x1))) h1) :
  zT G (d + 1) mX12_drawn 0 [zr 5 0, zi x1] [] h Q := by
  refine zt_aload_n kX12_drawn_0 rfl ?_
  refine zt_aload_n kX12_drawn_1 rfl ?_
  refine zt_get (v := zi (h.1 5 0 14)) kX12_drawn_2 fRX12_225 rfl (by decide) rfl ?_
  refine zt_ldc (v := 1103515245) kX12_drawn_5 wm_1355 ?_
  refine zt_imul kX12_drawn_7 ?_
  refine zt_sipush (v := 12345) kX12_drawn_8 rfl ?_
  refine zt_iadd kX12_drawn_11 ?_
  refine zt_put kX12_drawn_12 fRX12_225 pRX12_14 rfl (by decide) rfl ?_
  refine zt_heap (fun h1 eh1 => ?_)
  replace H := H h1 eh1
  refine zt_aload_n kX12_drawn_15 rfl ?_
  refine zt_get (v := zi (h1.1 5 0 14)) kX12_drawn_16 fRX12_225 rfl (by decide) rfl ?_
  refine zt_ldc (v := 2147483647) kX12_drawn_19 wm_1356 ?_
  refine zt_iand kX12_drawn_21 ?_
  refine zt_ldc (v := 65536) kX12_drawn_22 wm_1357 ?_
  refine zt_idiv kX12_drawn_24 (by decide) ?_
  refine zt_iload_n kX12_drawn_25 rfl ?_
  obtain ⟨hne, H⟩ := H
  refine zt_irem kX12_drawn_26 hne ?_
  exact zt_iret kX12_drawn_27 rfl H

theorem kX12_costBy_0 : zD cX12_costBy 0 1 (.iload_n 0) 1 := by decide +kernel
theorem kX12_costBy_1 : decode cX12_costBy 1 = .ok (.tableswitch 61 1 7 #[43, 47, 49, 51, 55, 61, 49], 43) := by decide +kernel
theorem kX12_costBy_44 : zD cX12_costBy 44 45 (.iconst 2) 1 := by decide +kernel
theorem kX12_costBy_45 : zD cX12_costBy 45 46 (.iload_n 1) 1 := by decide +kernel
theorem kX12_costBy_46 : zD cX12_costBy 46 47 (.iadd) 1 := by decide +kernel
theorem kX12_costBy_47 : zD cX12_costBy 47 48 (.ireturn) 1 := by decide +kernel
theorem kX12_costBy_48 : zD cX12_costBy 48 49 (.iconst 5) 1 := by decide +kernel
theorem kX12_costBy_49 : zD cX12_costBy 49 50 (.ireturn) 1 := by decide +kernel
theorem kX12_costBy_50 : zD cX12_costBy 50 51 (.iconst 1) 1 := by decide +kernel
theorem kX12_costBy_51 : zD cX12_costBy 51 52 (.ireturn) 1 := by decide +kernel
theorem kX12_costBy_52 : zD cX12_costBy 52 53 (.iconst 5) 1 := by decide +kernel
theorem kX12_costBy_53 : zD cX12_costBy 53 54 (.iload_n 1) 1 := by decide +kernel
theorem kX12_costBy_54 : zD cX12_costBy 54 55 (.iadd) 1 := by decide +kernel
theorem kX12_costBy_55 : zD cX12_costBy 55 56 (.ireturn) 1 := by decide +kernel
theorem kX12_costBy_56 : zD cX12_costBy 56 57 (.iconst 4) 1 := by decide +kernel
theorem kX12_costBy_57 : zD cX12_costBy 57 58 (.iconst 2) 1 := by decide +kernel
theorem kX12_costBy_58 : zD cX12_costBy 58 59 (.iload_n 1) 1 := by decide +kernel
theorem kX12_costBy_59 : zD cX12_costBy 59 60 (.imul) 1 := by decide +kernel
theorem kX12_costBy_60 : zD cX12_costBy 60 61 (.iadd) 1 := by decide +kernel
theorem kX12_costBy_61 : zD cX12_costBy 61 62 (.ireturn) 1 := by decide +kernel
theorem kX12_costBy_62 : zD cX12_costBy 62 63 (.iconst 2) 1 := by decide +kernel
theorem kX12_costBy_63 : zD cX12_costBy 63 64 (.ireturn) 1 := by decide +kernel
set_option maxRecDepth 10000 in
theorem wX12_costBy_0 {G : ZG} {d : Nat} {h : ZH} {Q : Option ZV → ZH → Prop} {x0 : Int32} {x1 : Int32} 
  (H : (x0 = 1 → Q (some (zi (2 + x1))) h) ∧ (¬ x0 = 1 → (x0 = 2 → Q (some (zi 5)) h) ∧ (¬ x0 = 2 → (x0 = 3 → Q (some (zi 1)) h) ∧ (¬ x0 = 3 → (x0 = 4 → Q (some (zi (5 + x1))) h) ∧ (¬ x0 = 4 → (x0 = 5 → Q (some (zi (4 + (2 * x1)))) h) ∧ (¬ x0 = 5 → (x0 = 6 → Q (some (zi 2)) h) ∧ (¬ x0 = 6 → (x0 = 7 → Q (some (zi 1)) h) ∧ (¬ x0 = 7 → Q (some (zi 2)) h)))))))) :
  zT G (d + 1) mX12_costBy 0 [zi x0, zi x1] [] h Q := by
  refine zt_iload_n kX12_costBy_0 rfl ?_
  rcases Classical.em (x0 = 1) with c0 | c0
  · replace H := H.1 c0
    refine zt_tabIn (tgt := 44) kX12_costBy_1 (by rw [c0]; decide) (by rw [c0]; decide) (by rw [c0]; rfl) (by decide) ?_
    refine zt_iconst (v := 2) kX12_costBy_44 rfl ?_
    refine zt_iload_n kX12_costBy_45 rfl ?_
    refine zt_iadd kX12_costBy_46 ?_
    exact zt_iret kX12_costBy_47 rfl H
  replace H := H.2 c0
  rcases Classical.em (x0 = 2) with c1 | c1
  · replace H := H.1 c1
    refine zt_tabIn (tgt := 48) kX12_costBy_1 (by rw [c1]; decide) (by rw [c1]; decide) (by rw [c1]; rfl) (by decide) ?_
    refine zt_iconst (v := 5) kX12_costBy_48 rfl ?_
    exact zt_iret kX12_costBy_49 rfl H
  replace H := H.2 c1
  rcases Classical.em (x0 = 3) with c2 | c2
  · replace H := H.1 c2
    refine zt_tabIn (tgt := 50) kX12_costBy_1 (by rw [c2]; decide) (by rw [c2]; decide) (by rw [c2]; rfl) (by decide) ?_
    refine zt_iconst (v := 1) kX12_costBy_50 rfl ?_
    exact zt_iret kX12_costBy_51 rfl H
  replace H := H.2 c2
  rcases Classical.em (x0 = 4) with c3 | c3
  · replace H := H.1 c3
    refine zt_tabIn (tgt := 52) kX12_costBy_1 (by rw [c3]; decide) (by rw [c3]; decide) (by rw [c3]; rfl) (by decide) ?_
    refine zt_iconst (v := 5) kX12_costBy_52 rfl ?_
    refine zt_iload_n kX12_costBy_53 rfl ?_
    refine zt_iadd kX12_costBy_54 ?_
    exact zt_iret kX12_costBy_55 rfl H
  replace H := H.2 c3
  rcases Classical.em (x0 = 5) with c4 | c4
  · replace H := H.1 c4
    refine zt_tabIn (tgt := 56) kX12_costBy_1 (by rw [c4]; decide) (by rw [c4]; decide) (by rw [c4]; rfl) (by decide) ?_
    refine zt_iconst (v := 4) kX12_costBy_56 rfl ?_
    refine zt_iconst (v := 2) kX12_costBy_57 rfl ?_
    refine zt_iload_n kX12_costBy_58 rfl ?_
    refine zt_imul kX12_costBy_59 ?_
    refine zt_iadd kX12_costBy_60 ?_
    exact zt_iret kX12_costBy_61 rfl H
  replace H := H.2 c4
  rcases Classical.em (x0 = 6) with c5 | c5
  · replace H := H.1 c5
    refine zt_tabIn (tgt := 62) kX12_costBy_1 (by rw [c5]; decide) (by rw [c5]; decide) (by rw [c5]; rfl) (by decide) ?_
    refine zt_iconst (v := 2) kX12_costBy_62 rfl ?_
    exact zt_iret kX12_costBy_63 rfl H
  replace H := H.2 c5
  rcases Classical.em (x0 = 7) with c6 | c6
  · replace H := H.1 c6
    refine zt_tabIn (tgt := 50) kX12_costBy_1 (by rw [c6]; decide) (by rw [c6]; decide) (by rw [c6]; rfl) (by decide) ?_
    refine zt_iconst (v := 1) kX12_costBy_50 rfl ?_
    exact zt_iret kX12_costBy_51 rfl H
  replace H := H.2 c6
  refine zt_tabOut (tgt := 62) kX12_costBy_1 (by have n0 := lv_neT (a := 1) c0 rfl; have n1 := lv_neT (a := 2) c1 rfl; have n2 := lv_neT (a := 3) c2 rfl; have n3 := lv_neT (a := 4) c3 rfl; have n4 := lv_neT (a := 5) c4 rfl; have n5 := lv_neT (a := 6) c5 rfl; have n6 := lv_neT (a := 7) c6 rfl; omega) (by decide) ?_
  refine zt_iconst (v := 2) kX12_costBy_62 rfl ?_
  exact zt_iret kX12_costBy_63 rfl H

theorem kX12_thrown_0 : zD cX12_thrown 0 1 (.aload_n 0) 1 := by decide +kernel
theorem kX12_thrown_1 : zD cX12_thrown 1 4 (.getfield 238) 3 := by decide +kernel
theorem kX12_thrown_4 : zD cX12_thrown 4 5 (.ireturn) 1 := by decide +kernel
set_option maxRecDepth 10000 in
theorem wX12_thrown_0 {G : ZG} {d : Nat} {h : ZH} {Q : Option ZV → ZH → Prop}  
  (H : Q (some (zi (h.1 5 0 23))) h) :
  zT G (d + 1) mX12_thrown 0 [zr 5 0] [] h Q := by
  refine zt_aload_n kX12_thrown_0 rfl ?_
  refine zt_get (v := zi (h.1 5 0 23)) kX12_thrown_1 fRX12_238 rfl (by decide) rfl ?_
  exact zt_iret kX12_thrown_4 rfl H

theorem kX12_kind_0 : zD cX12_kind 0 1 (.aload_n 0) 1 := by decide +kernel
theorem kX12_kind_1 : zD cX12_kind 1 4 (.getfield 9) 3 := by decide +kernel
theorem kX12_kind_4 : zD cX12_kind 4 5 (.iconst 2) 1 := by decide +kernel
theorem kX12_kind_5 : zD cX12_kind 5 6 (.iconst 2) 1 := by decide +kernel
theorem kX12_kind_6 : zD cX12_kind 6 7 (.iload_n 1) 1 := by decide +kernel
theorem kX12_kind_7 : zD cX12_kind 7 8 (.imul) 1 := by decide +kernel
theorem kX12_kind_8 : zD cX12_kind 8 9 (.iadd) 1 := by decide +kernel
theorem kX12_kind_9 : zD cX12_kind 9 10 (.iaload) 1 := by decide +kernel
theorem kX12_kind_10 : zD cX12_kind 10 11 (.ireturn) 1 := by decide +kernel
set_option maxRecDepth 10000 in
theorem wX12_kind_0 {G : ZG} {d : Nat} {h : ZH} {Q : Option ZV → ZH → Prop} {x1 : Int32} 
  (H : vp_in (2 + (2 * x1)) 26 ∧ Q (some (zi (h.1 30 0 (2 + (2 * x1)).toNatClampNeg))) h) :
  zT G (d + 1) mX12_kind 0 [zr 5 0, zi x1] [] h Q := by
  refine zt_aload_n kX12_kind_0 rfl ?_
  refine zt_get (v := zr 30 0) kX12_kind_1 fRX12_9 rfl (by decide) rfl ?_
  refine zt_iconst (v := 2) kX12_kind_4 rfl ?_
  refine zt_iconst (v := 2) kX12_kind_5 rfl ?_
  refine zt_iload_n kX12_kind_6 rfl ?_
  refine zt_imul kX12_kind_7 ?_
  refine zt_iadd kX12_kind_8 ?_
  obtain ⟨hv, H⟩ := H
  refine zt_iald kX12_kind_9 rfl (by decide) hv ?_
  exact zt_iret kX12_kind_10 rfl H

theorem kX12_figure_0 : zD cX12_figure 0 1 (.aload_n 0) 1 := by decide +kernel
theorem kX12_figure_1 : zD cX12_figure 1 4 (.getfield 9) 3 := by decide +kernel
theorem kX12_figure_4 : zD cX12_figure 4 5 (.iconst 2) 1 := by decide +kernel
theorem kX12_figure_5 : zD cX12_figure 5 6 (.iconst 2) 1 := by decide +kernel
theorem kX12_figure_6 : zD cX12_figure 6 7 (.iload_n 1) 1 := by decide +kernel
theorem kX12_figure_7 : zD cX12_figure 7 8 (.imul) 1 := by decide +kernel
theorem kX12_figure_8 : zD cX12_figure 8 9 (.iadd) 1 := by decide +kernel
theorem kX12_figure_9 : zD cX12_figure 9 10 (.iconst 1) 1 := by decide +kernel
theorem kX12_figure_10 : zD cX12_figure 10 11 (.iadd) 1 := by decide +kernel
theorem kX12_figure_11 : zD cX12_figure 11 12 (.iaload) 1 := by decide +kernel
theorem kX12_figure_12 : zD cX12_figure 12 13 (.ireturn) 1 := by decide +kernel
set_option maxRecDepth 10000 in
theorem wX12_figure_0 {G : ZG} {d : Nat} {h : ZH} {Q : Option ZV → ZH → Prop} {x1 : Int32} 
  (H : vp_in ((2 + (2 * x1)) + 1) 26 ∧ Q (some (zi (h.1 30 0 ((2 + (2 * x1)) + 1).toNatClampNeg))) h) :
  zT G (d + 1) mX12_figure 0 [zr 5 0, zi x1] [] h Q := by
  refine zt_aload_n kX12_figure_0 rfl ?_
  refine zt_get (v := zr 30 0) kX12_figure_1 fRX12_9 rfl (by decide) rfl ?_
  refine zt_iconst (v := 2) kX12_figure_4 rfl ?_
  refine zt_iconst (v := 2) kX12_figure_5 rfl ?_
  refine zt_iload_n kX12_figure_6 rfl ?_
  refine zt_imul kX12_figure_7 ?_
  refine zt_iadd kX12_figure_8 ?_
  refine zt_iconst (v := 1) kX12_figure_9 rfl ?_
  refine zt_iadd kX12_figure_10 ?_
  obtain ⟨hv, H⟩ := H
  refine zt_iald kX12_figure_11 rfl (by decide) hv ?_
  exact zt_iret kX12_figure_12 rfl H

theorem kX4_noteAt_0 : zD cX4_noteAt 0 2 (.bipush 7) 2 := by decide +kernel
theorem kX4_noteAt_2 : zD cX4_noteAt 2 3 (.aload_n 0) 1 := by decide +kernel
theorem kX4_noteAt_3 : zD cX4_noteAt 3 6 (.getfield 18) 3 := by decide +kernel
theorem kX4_noteAt_6 : zD cX4_noteAt 6 7 (.iload_n 1) 1 := by decide +kernel
theorem kX4_noteAt_7 : zD cX4_noteAt 7 8 (.iaload) 1 := by decide +kernel
theorem kX4_noteAt_8 : zD cX4_noteAt 8 9 (.imul) 1 := by decide +kernel
theorem kX4_noteAt_9 : zD cX4_noteAt 9 10 (.iconst 3) 1 := by decide +kernel
theorem kX4_noteAt_10 : zD cX4_noteAt 10 11 (.aload_n 0) 1 := by decide +kernel
theorem kX4_noteAt_11 : zD cX4_noteAt 11 14 (.getfield 27) 3 := by decide +kernel
theorem kX4_noteAt_14 : zD cX4_noteAt 14 15 (.iload_n 1) 1 := by decide +kernel
theorem kX4_noteAt_15 : zD cX4_noteAt 15 16 (.iaload) 1 := by decide +kernel
theorem kX4_noteAt_16 : zD cX4_noteAt 16 17 (.imul) 1 := by decide +kernel
theorem kX4_noteAt_17 : zD cX4_noteAt 17 18 (.iadd) 1 := by decide +kernel
theorem kX4_noteAt_18 : zD cX4_noteAt 18 20 (.bipush 50) 2 := by decide +kernel
theorem kX4_noteAt_20 : zD cX4_noteAt 20 21 (.irem) 1 := by decide +kernel
theorem kX4_noteAt_21 : zD cX4_noteAt 21 22 (.ireturn) 1 := by decide +kernel
set_option maxRecDepth 10000 in
theorem wX4_noteAt_0 {G : ZG} {d : Nat} {h : ZH} {Q : Option ZV → ZH → Prop} {i0 : Nat} {x1 : Int32} (hi0 : i0 < zcnt 2)
  (H : vp_in x1 12 ∧ vp_in x1 12 ∧ Q (some (zi (((7 * (h.1 12 i0 x1.toNatClampNeg)) + (3 * (h.1 15 i0 x1.toNatClampNeg))) - ((7 * (h.1 12 i0 x1.toNatClampNeg)) + (3 * (h.1 15 i0 x1.toNatClampNeg))) / 50 * 50))) h) :
  zT G (d + 1) mX4_noteAt 0 [zr 2 i0, zi x1] [] h Q := by
  refine zt_bipush (v := 7) kX4_noteAt_0 rfl ?_
  refine zt_aload_n kX4_noteAt_2 rfl ?_
  refine zt_get (v := zr 12 i0) kX4_noteAt_3 fRX4_18 rfl hi0 rfl ?_
  refine zt_iload_n kX4_noteAt_6 rfl ?_
  obtain ⟨hv, H⟩ := H
  refine zt_iald kX4_noteAt_7 rfl hi0 hv ?_
  refine zt_imul kX4_noteAt_8 ?_
  refine zt_iconst (v := 3) kX4_noteAt_9 rfl ?_
  refine zt_aload_n kX4_noteAt_10 rfl ?_
  refine zt_get (v := zr 15 i0) kX4_noteAt_11 fRX4_27 rfl hi0 rfl ?_
  refine zt_iload_n kX4_noteAt_14 rfl ?_
  obtain ⟨hv, H⟩ := H
  refine zt_iald kX4_noteAt_15 rfl hi0 hv ?_
  refine zt_imul kX4_noteAt_16 ?_
  refine zt_iadd kX4_noteAt_17 ?_
  refine zt_bipush (v := 50) kX4_noteAt_18 rfl ?_
  refine zt_irem kX4_noteAt_20 (by decide) ?_
  exact zt_iret kX4_noteAt_21 rfl H

theorem kX10_weight_0 : zD cX10_weight 0 1 (.iconst 2) 1 := by decide +kernel
theorem kX10_weight_1 : zD cX10_weight 1 2 (.iload_n 1) 1 := by decide +kernel
theorem kX10_weight_2 : zD cX10_weight 2 3 (.iadd) 1 := by decide +kernel
theorem kX10_weight_3 : zD cX10_weight 3 4 (.ireturn) 1 := by decide +kernel
set_option maxRecDepth 10000 in
theorem wX10_weight_0 {G : ZG} {d : Nat} {h : ZH} {Q : Option ZV → ZH → Prop} {i0 : Nat} {x1 : Int32} (hi0 : i0 < zcnt 4)
  (H : Q (some (zi (2 + x1))) h) :
  zT G (d + 1) mX10_weight 0 [zr 4 i0, zi x1] [] h Q := by
  refine zt_iconst (v := 2) kX10_weight_0 rfl ?_
  refine zt_iload_n kX10_weight_1 rfl ?_
  refine zt_iadd kX10_weight_2 ?_
  exact zt_iret kX10_weight_3 rfl H

theorem kX10_bears_0 : zD cX10_bears 0 2 (.bipush 20) 2 := by decide +kernel
theorem kX10_bears_2 : zD cX10_bears 2 3 (.ireturn) 1 := by decide +kernel
set_option maxRecDepth 10000 in
theorem wX10_bears_0 {G : ZG} {d : Nat} {h : ZH} {Q : Option ZV → ZH → Prop} {i0 : Nat} {x1 : Int32} (hi0 : i0 < zcnt 4)
  (H : Q (some (zi 20)) h) :
  zT G (d + 1) mX10_bears 0 [zr 4 i0, zi x1] [] h Q := by
  refine zt_bipush (v := 20) kX10_bears_0 rfl ?_
  exact zt_iret kX10_bears_2 rfl H

theorem kX10_price_0 : zD cX10_price 0 1 (.iconst 2) 1 := by decide +kernel
theorem kX10_price_1 : zD cX10_price 1 2 (.ireturn) 1 := by decide +kernel
set_option maxRecDepth 10000 in
theorem wX10_price_0 {G : ZG} {d : Nat} {h : ZH} {Q : Option ZV → ZH → Prop} {i0 : Nat} {x1 : Int32} (hi0 : i0 < zcnt 4)
  (H : Q (some (zi 2)) h) :
  zT G (d + 1) mX10_price 0 [zr 4 i0, zi x1] [] h Q := by
  refine zt_iconst (v := 2) kX10_price_0 rfl ?_
  exact zt_iret kX10_price_1 rfl H

theorem kX10_manner_0 : zD cX10_manner 0 1 (.iconst 0) 1 := by decide +kernel
theorem kX10_manner_1 : zD cX10_manner 1 2 (.ireturn) 1 := by decide +kernel
set_option maxRecDepth 10000 in
theorem wX10_manner_0 {G : ZG} {d : Nat} {h : ZH} {Q : Option ZV → ZH → Prop} {i0 : Nat} (hi0 : i0 < zcnt 4)
  (H : Q (some (zi 0)) h) :
  zT G (d + 1) mX10_manner 0 [zr 4 i0] [] h Q := by
  refine zt_iconst (v := 0) kX10_manner_0 rfl ?_
  exact zt_iret kX10_manner_1 rfl H

theorem kX7_weight_0 : zD cX7_weight 0 1 (.iconst 1) 1 := by decide +kernel
theorem kX7_weight_1 : zD cX7_weight 1 2 (.ireturn) 1 := by decide +kernel
set_option maxRecDepth 10000 in
theorem wX7_weight_0 {G : ZG} {d : Nat} {h : ZH} {Q : Option ZV → ZH → Prop} {i0 : Nat} {x1 : Int32} (hi0 : i0 < zcnt 4)
  (H : Q (some (zi 1)) h) :
  zT G (d + 1) mX7_weight 0 [zr 4 i0, zi x1] [] h Q := by
  refine zt_iconst (v := 1) kX7_weight_0 rfl ?_
  exact zt_iret kX7_weight_1 rfl H

theorem kX7_bears_0 : zD cX7_bears 0 1 (.iconst 3) 1 := by decide +kernel
theorem kX7_bears_1 : zD cX7_bears 1 2 (.ireturn) 1 := by decide +kernel
set_option maxRecDepth 10000 in
theorem wX7_bears_0 {G : ZG} {d : Nat} {h : ZH} {Q : Option ZV → ZH → Prop} {i0 : Nat} {x1 : Int32} (hi0 : i0 < zcnt 4)
  (H : Q (some (zi 3)) h) :
  zT G (d + 1) mX7_bears 0 [zr 4 i0, zi x1] [] h Q := by
  refine zt_iconst (v := 3) kX7_bears_0 rfl ?_
  exact zt_iret kX7_bears_1 rfl H

theorem kX7_manner_0 : zD cX7_manner 0 1 (.iconst 3) 1 := by decide +kernel
theorem kX7_manner_1 : zD cX7_manner 1 2 (.ireturn) 1 := by decide +kernel
set_option maxRecDepth 10000 in
theorem wX7_manner_0 {G : ZG} {d : Nat} {h : ZH} {Q : Option ZV → ZH → Prop} {i0 : Nat} (hi0 : i0 < zcnt 4)
  (H : Q (some (zi 3)) h) :
  zT G (d + 1) mX7_manner 0 [zr 4 i0] [] h Q := by
  refine zt_iconst (v := 3) kX7_manner_0 rfl ?_
  exact zt_iret kX7_manner_1 rfl H

theorem kX6_weight_0 : zD cX6_weight 0 1 (.iconst 0) 1 := by decide +kernel
theorem kX6_weight_1 : zD cX6_weight 1 2 (.ireturn) 1 := by decide +kernel
set_option maxRecDepth 10000 in
theorem wX6_weight_0 {G : ZG} {d : Nat} {h : ZH} {Q : Option ZV → ZH → Prop} {i0 : Nat} {x1 : Int32} (hi0 : i0 < zcnt 4)
  (H : Q (some (zi 0)) h) :
  zT G (d + 1) mX6_weight 0 [zr 4 i0, zi x1] [] h Q := by
  refine zt_iconst (v := 0) kX6_weight_0 rfl ?_
  exact zt_iret kX6_weight_1 rfl H

theorem kX6_bears_0 : zD cX6_bears 0 1 (.iconst 0) 1 := by decide +kernel
theorem kX6_bears_1 : zD cX6_bears 1 2 (.ireturn) 1 := by decide +kernel
set_option maxRecDepth 10000 in
theorem wX6_bears_0 {G : ZG} {d : Nat} {h : ZH} {Q : Option ZV → ZH → Prop} {i0 : Nat} {x1 : Int32} (hi0 : i0 < zcnt 4)
  (H : Q (some (zi 0)) h) :
  zT G (d + 1) mX6_bears 0 [zr 4 i0, zi x1] [] h Q := by
  refine zt_iconst (v := 0) kX6_bears_0 rfl ?_
  exact zt_iret kX6_bears_1 rfl H

theorem kX0_manner_0 : zD cX0_manner 0 1 (.iconst 1) 1 := by decide +kernel
theorem kX0_manner_1 : zD cX0_manner 1 2 (.ireturn) 1 := by decide +kernel
set_option maxRecDepth 10000 in
theorem wX0_manner_0 {G : ZG} {d : Nat} {h : ZH} {Q : Option ZV → ZH → Prop} {i0 : Nat} (hi0 : i0 < zcnt 4)
  (H : Q (some (zi 1)) h) :
  zT G (d + 1) mX0_manner 0 [zr 4 i0] [] h Q := by
  refine zt_iconst (v := 1) kX0_manner_0 rfl ?_
  exact zt_iret kX0_manner_1 rfl H

theorem kX1_manner_0 : zD cX1_manner 0 1 (.iconst 2) 1 := by decide +kernel
theorem kX1_manner_1 : zD cX1_manner 1 2 (.ireturn) 1 := by decide +kernel
set_option maxRecDepth 10000 in
theorem wX1_manner_0 {G : ZG} {d : Nat} {h : ZH} {Q : Option ZV → ZH → Prop} {i0 : Nat} (hi0 : i0 < zcnt 4)
  (H : Q (some (zi 2)) h) :
  zT G (d + 1) mX1_manner 0 [zr 4 i0] [] h Q := by
  refine zt_iconst (v := 2) kX1_manner_0 rfl ?_
  exact zt_iret kX1_manner_1 rfl H
end
section
/-! plain facts on numbers and arrays, to paste: each family by itself; over the kit's rows on nI and upd -/
/-! ===== order of ints, in all its forms, and through longs ===== -/
theorem fa_lt (a b : Int32) : a < b ↔ a.toInt < b.toInt := Int32.lt_iff_toInt_lt
theorem fa_le (a b : Int32) : a ≤ b ↔ a.toInt ≤ b.toInt := Int32.le_iff_toInt_le
theorem fa_eq (a b : Int32) : a = b ↔ a.toInt = b.toInt := Int32.toInt_inj.symm
theorem fa_lt64 (a b : Int64) : a < b ↔ a.toInt < b.toInt := Int64.lt_iff_toInt_lt
theorem fa_le64 (a b : Int64) : a ≤ b ↔ a.toInt ≤ b.toInt := Int64.le_iff_toInt_le
theorem fa_eq64 (a b : Int64) : a = b ↔ a.toInt = b.toInt := Int64.toInt_inj.symm
/-- a comparison of two ints taken as longs -/
theorem fa_wide_lt (a b : Int32) : a.toInt64 < b.toInt64 ↔ a < b := by rw [fa_lt64, fa_lt, Int32.toInt_toInt64, Int32.toInt_toInt64]
theorem fa_wide_le (a b : Int32) : a.toInt64 ≤ b.toInt64 ↔ a ≤ b := by rw [fa_le64, fa_le, Int32.toInt_toInt64, Int32.toInt_toInt64]
theorem fa_wide_eq (a b : Int32) : a.toInt64 = b.toInt64 ↔ a = b := by rw [fa_eq64, fa_eq, Int32.toInt_toInt64, Int32.toInt_toInt64]
/-- one strict comparison gives all the others -/
theorem fa_of_lt {a b : Int32} (h : a < b) : a ≤ b ∧ ¬ b ≤ a ∧ ¬ b < a ∧ a ≠ b ∧ b ≠ a := by
  rw [fa_lt] at h
  refine ⟨?_, ?_, ?_, ?_, ?_⟩
  · rw [fa_le]; omega
  · rw [fa_le]; omega
  · rw [fa_lt]; omega
  · intro e; rw [fa_eq] at e; omega
  · intro e; rw [fa_eq] at e; omega
theorem fa_of_nlt {a b : Int32} (h : ¬ a < b) : b ≤ a := by
  rw [fa_lt] at h
  rw [fa_le]
  omega
theorem fa_of_nle {a b : Int32} (h : ¬ a ≤ b) : b < a := by
  rw [fa_le] at h
  rw [fa_lt]
  omega
theorem fa_le_ne {a b : Int32} (h : a ≤ b) (h2 : a ≠ b) : a < b := by
  rw [fa_le] at h
  rw [fa_lt]
  have h3 : a.toInt ≠ b.toInt := fun e => h2 ((fa_eq a b).mpr e)
  omega
theorem fa_three (a b : Int32) : a < b ∨ a = b ∨ b < a := by
  rw [fa_lt, fa_lt, fa_eq]
  omega
theorem fa_trans {a b c : Int32} (h : a < b) (h2 : b ≤ c) : a < c := by
  rw [fa_lt] at *
  rw [fa_le] at h2
  omega
/-! ===== small literals as numbers ===== -/
theorem fa_lit (n : Nat) : (OfNat.ofNat n : Int32) = nI n := rfl
theorem fa_litL (n : Nat) : (OfNat.ofNat n : Int64) = lN n := rfl
/-! ===== bits of a number: 'or', masks, one bit ===== -/
theorem fa_and (a b : Nat) : nI a &&& nI b = nI (a &&& b) := by
  apply Int32.toBitVec_inj.1
  show BitVec.ofNat 32 a &&& BitVec.ofNat 32 b = BitVec.ofNat 32 (a &&& b)
  apply BitVec.eq_of_getLsbD_eq
  intro i hi
  simp [hi]
theorem fa_or (a b : Nat) : nI a ||| nI b = nI (a ||| b) := by
  apply Int32.toBitVec_inj.1
  show BitVec.ofNat 32 a ||| BitVec.ofNat 32 b = BitVec.ofNat 32 (a ||| b)
  apply BitVec.eq_of_getLsbD_eq
  intro i hi
  simp [hi]
/-- a remainder by a power of two, as a mask -/
theorem fa_mask (n k : Nat) : nI n &&& nI (2 ^ k - 1) = nI (n % 2 ^ k) := by rw [fa_and, Nat.and_two_pow_sub_one_eq_mod]
/-- 'or' of a high part and a low one that don't meet is their sum -/
theorem fa_or_sum {a k : Nat} (b : Nat) (h : a < 2 ^ k) : nI (2 ^ k * b) ||| nI a = nI (2 ^ k * b + a) := by rw [fa_or, Nat.two_pow_add_eq_or_of_lt h]
/-- one bit, by 'and' with a power of two -/
theorem fa_bit {n j : Nat} (hj : j < 31) : nI n &&& nI (2 ^ j) = 0 ↔ n.testBit j = false := by
  have h2 : (2 : Nat) ^ j < 2 ^ 31 := Nat.pow_lt_pow_right (by decide) hj
  have hle : n &&& 2 ^ j ≤ 2 ^ j := Nat.and_le_right
  have e : n &&& 2 ^ j = 0 ↔ n.testBit j = false := by
    constructor
    · intro h
      have h1 : (n &&& 2 ^ j).testBit j = false := by rw [h]; simp
      rw [Nat.testBit_and] at h1
      first | simpa using h1 | simpa [Nat.testBit_two_pow_self] using h1 | simpa [Nat.testBit_two_pow] using h1
    · intro h
      apply Nat.eq_of_testBit_eq
      intro i
      rw [Nat.testBit_and]
      by_cases hi : j = i
      · subst hi; simp [h]
      · first | (simp [Nat.testBit_two_pow, hi]; done) | (simp [Nat.testBit_two_pow_of_ne hi]; done)
  rw [fa_and]
  constructor
  · intro h
    apply e.mp
    rcases Nat.eq_zero_or_pos (n &&& 2 ^ j) with z | z
    · exact z
    · exact absurd h (nI_ne0 z (Nat.lt_of_le_of_lt hle h2))
  · intro h
    rw [e.mpr h]; exact nI_0
/-- a remainder by a power of two of a number that isn't negative, as Java divides -/
theorem fa_rem {a k : Nat} (ha : a < 2 ^ 31) (hk : k < 31) : nI a - nI a / nI (2 ^ k) * nI (2 ^ k) = nI (a % 2 ^ k) := pk_rem ha (Nat.two_pow_pos k) (Nat.pow_lt_pow_right (by decide) hk)
/-! ===== cuts to a byte, a short ===== -/
theorem fa_byte_xor (x y : Int32) : (x ^^^ y).toInt8 = x.toInt8 ^^^ y.toInt8 := by
  apply Int8.toBitVec_inj.1
  apply BitVec.eq_of_getLsbD_eq
  intro i hi
  first | (simp [hi]; done) | (simp [hi, BitVec.getLsbD_setWidth, BitVec.getLsbD_signExtend]; done)
theorem fa_short_xor (x y : Int32) : (x ^^^ y).toInt16 = x.toInt16 ^^^ y.toInt16 := by
  apply Int16.toBitVec_inj.1
  apply BitVec.eq_of_getLsbD_eq
  intro i hi
  first | (simp [hi]; done) | (simp [hi, BitVec.getLsbD_setWidth, BitVec.getLsbD_signExtend]; done)
/-- the cut to a byte sees the low byte alone -/
theorem fa_byte_low (x : Int32) : (x &&& 255).toInt8 = x.toInt8 := by
  apply Int8.toBitVec_inj.1
  apply BitVec.eq_of_getLsbD_eq
  intro i hi
  have h2 : (255 : Int32).toBitVec.getLsbD i = true := by
    have : ∀ j : Fin 8, (255 : Int32).toBitVec.getLsbD j.val = true := by decide +kernel
    exact this ⟨i, hi⟩
  have h4 : (x &&& 255).toBitVec.getLsbD i = x.toBitVec.getLsbD i := by
    show (x.toBitVec &&& (255 : Int32).toBitVec).getLsbD i = _
    rw [BitVec.getLsbD_and, h2, Bool.and_true]
  have h3 : i < 32 := by omega
  first
    | (show (((x &&& 255).toBitVec).signExtend 8).getLsbD i = (x.toBitVec.signExtend 8).getLsbD i; rw [BitVec.getLsbD_signExtend, BitVec.getLsbD_signExtend, if_pos h3, if_pos h3, h4])
    | (show (((x &&& 255).toBitVec).setWidth 8).getLsbD i = (x.toBitVec.setWidth 8).getLsbD i; rw [BitVec.getLsbD_setWidth, BitVec.getLsbD_setWidth, h4])
    | (simp [hi, h3, h4]; done)
theorem fa_short_low (x : Int32) : (x &&& 65535).toInt16 = x.toInt16 := by
  apply Int16.toBitVec_inj.1
  apply BitVec.eq_of_getLsbD_eq
  intro i hi
  have h2 : (65535 : Int32).toBitVec.getLsbD i = true := by
    have : ∀ j : Fin 16, (65535 : Int32).toBitVec.getLsbD j.val = true := by decide +kernel
    exact this ⟨i, hi⟩
  have h4 : (x &&& 65535).toBitVec.getLsbD i = x.toBitVec.getLsbD i := by
    show (x.toBitVec &&& (65535 : Int32).toBitVec).getLsbD i = _
    rw [BitVec.getLsbD_and, h2, Bool.and_true]
  have h3 : i < 32 := by omega
  first
    | (show (((x &&& 65535).toBitVec).signExtend 16).getLsbD i = (x.toBitVec.signExtend 16).getLsbD i; rw [BitVec.getLsbD_signExtend, BitVec.getLsbD_signExtend, if_pos h3, if_pos h3, h4])
    | (show (((x &&& 65535).toBitVec).setWidth 16).getLsbD i = (x.toBitVec.setWidth 16).getLsbD i; rw [BitVec.getLsbD_setWidth, BitVec.getLsbD_setWidth, h4])
    | (simp [hi, h3, h4]; done)
/-- a small number is its own byte, its own short -/
theorem fa_byte_small {n : Nat} (h : n < 128) : (nI n).toInt8.toInt32 = nI n := by
  have : ∀ j : Fin 128, (nI j.val).toInt8.toInt32 = nI j.val := by decide +kernel
  exact this ⟨n, h⟩
/-! ===== absolute difference ===== -/
theorem fa_absdiff {a b : Nat} (ha : a < 2 ^ 31) (hb : b < 2 ^ 31) : (if nI a < nI b then nI b - nI a else nI a - nI b) = nI (if a < b then b - a else a - b) := by
  by_cases h : a < b
  · rw [if_pos (nI_lt h hb), if_pos h]
    exact pk_sub (Nat.le_of_lt h)
  · rw [if_neg (nI_nlt (Nat.le_of_not_lt h) ha), if_neg h]
    exact pk_sub (Nat.le_of_not_lt h)
/-! ===== an array behind i stores, a conditional store, a row copied ===== -/
/-- f where k < i, what stood there else -/
def fa_fill {α : Type} (f g : Nat → α) (i : Nat) : Nat → α := fun k => if k < i then f k else g k
theorem fa_fill_0 {α : Type} (f g : Nat → α) : fa_fill f g 0 = g := funext fun k => if_neg (Nat.not_lt_zero k)
theorem fa_fill_in {α : Type} {f g : Nat → α} {i k : Nat} (h : k < i) : fa_fill f g i k = f k := if_pos h
theorem fa_fill_out {α : Type} {f g : Nat → α} {i k : Nat} (h : i ≤ k) : fa_fill f g i k = g k := if_neg (Nat.not_lt.mpr h)
theorem fa_fill_succ (f g : Nat → Int32) (i : Nat) : upd (fa_fill f g i) i (f i) = fa_fill f g (i + 1) := by
  funext k
  by_cases e : k = i
  · subst e
    rw [pk_us]
    exact (if_pos (Nat.lt_succ_self k)).symm
  · rw [pk_un e]
    by_cases h : k < i
    · rw [fa_fill_in h, fa_fill_in (Nat.lt_succ_of_lt h)]
    · rw [fa_fill_out (Nat.le_of_not_lt h), fa_fill_out (by omega)]
/-- a store that changes nothing -/
theorem fa_upd_same {f : Nat → Int32} {i : Nat} {x : Int32} (h : f i = x) : upd f i x = f := by
  funext k
  by_cases e : k = i
  · subst e
    rw [pk_us, h]
  · rw [pk_un e]
/-- a store under a condition, told as one -/
theorem fa_upd_if (c : Prop) [Decidable c] (f : Nat → Int32) (i : Nat) (x : Int32) : (if c then upd f i x else f) = upd f i (if c then x else f i) := by
  by_cases h : c
  · rw [if_pos h, if_pos h]
  · rw [if_neg h, if_neg h, fa_upd_same rfl]
/-- two stores at one place, at two -/
theorem fa_upd_twice (f : Nat → Int32) (i : Nat) (x y : Int32) : upd (upd f i x) i y = upd f i y := by
  funext k
  by_cases e : k = i
  · subst e
    rw [pk_us, pk_us]
  · rw [pk_un e, pk_un e, pk_un e]
theorem fa_upd_swap (f : Nat → Int32) {i j : Nat} (h : i ≠ j) (x y : Int32) : upd (upd f i x) j y = upd (upd f j y) i x := by
  funext k
  by_cases e : k = i
  · subst e
    rw [pk_un h, pk_us, pk_us]
  · by_cases e2 : k = j
    · subst e2
      rw [pk_us, pk_un e, pk_us]
    · rw [pk_un e2, pk_un e, pk_un e, pk_un e2]
/-! ===== the first index with a property; a count ===== -/
/-- the first k < n with p k, n if there is none -/
def fa_first (p : Nat → Bool) : Nat → Nat
  | 0 => 0
  | n + 1 => if fa_first p n < n then fa_first p n else if p n then n else n + 1
theorem fa_first_le (p : Nat → Bool) : ∀ n, fa_first p n ≤ n
  | 0 => Nat.le_refl 0
  | n + 1 => by
    have ih := fa_first_le p n
    unfold fa_first
    split
    · omega
    · split
      · omega
      · omega
theorem fa_first_no (p : Nat → Bool) : ∀ n k, k < fa_first p n → p k = false
  | 0, k, h => absurd h (Nat.not_lt_zero k)
  | n + 1, k, h => by
    have ih := fa_first_no p n
    have hl := fa_first_le p n
    unfold fa_first at h
    split at h
    · exact ih k h
    · rename_i h1
      split at h
      · exact ih k (by omega)
      · rename_i h2
        by_cases e : k = n
        · subst e
          exact Bool.eq_false_iff.mpr h2
        · exact ih k (by omega)
theorem fa_first_yes (p : Nat → Bool) : ∀ n, fa_first p n < n → p (fa_first p n) = true
  | 0, h => absurd h (Nat.not_lt_zero _)
  | n + 1, h => by
    have ih := fa_first_yes p n
    have hl := fa_first_le p n
    unfold fa_first at h ⊢
    split at h
    · rename_i h1
      rw [if_pos h1]
      exact ih h1
    · rename_i h1
      rw [if_neg h1]
      split at h
      · rename_i h2
        rw [if_pos h2]
        exact h2
      · omega
/-- how many k < n have p k -/
def fa_cnt (p : Nat → Bool) : Nat → Nat
  | 0 => 0
  | n + 1 => fa_cnt p n + if p n then 1 else 0
theorem fa_cnt_le (p : Nat → Bool) : ∀ n, fa_cnt p n ≤ n
  | 0 => Nat.le_refl 0
  | n + 1 => by
    have ih := fa_cnt_le p n
    unfold fa_cnt
    split
    · omega
    · omega
theorem fa_cnt_yes {p : Nat → Bool} {n : Nat} (h : p n = true) : fa_cnt p (n + 1) = fa_cnt p n + 1 := by rw [fa_cnt, if_pos h]
theorem fa_cnt_no {p : Nat → Bool} {n : Nat} (h : p n = false) : fa_cnt p (n + 1) = fa_cnt p n := by rw [fa_cnt, if_neg (by rw [h]; decide)]; rfl
theorem fa_cnt_cong {p q : Nat → Bool} : ∀ {n : Nat}, (∀ k, k < n → p k = q k) → fa_cnt p n = fa_cnt q n
  | 0, _ => rfl
  | n + 1, h => by rw [fa_cnt, fa_cnt, fa_cnt_cong (fun k hk => h k (Nat.lt_succ_of_lt hk)), h n (Nat.lt_succ_self n)]
/-! ===== an answer carried into a post; a branch on a boolean answer ===== -/
theorem fa_post {α : Type} {P : α → Prop} {x y : α} (h : x = y) (hp : P y) : P x := h ▸ hp
theorem fa_post2 {α β : Type} {P : α → β → Prop} {x y : α} {u v : β} (h : x = y) (h2 : u = v) (hp : P y v) : P x u := h ▸ h2 ▸ hp
theorem fa_bool {r : Int32} {b : Bool} (h : r = if b then 1 else 0) : (r = 0 ↔ b = false) ∧ (¬ r = 0 ↔ b = true) := by
  subst h
  cases b
  · exact ⟨⟨fun _ => rfl, fun _ => rfl⟩, ⟨fun h => absurd rfl h, fun h => absurd h (by decide)⟩⟩
  · exact ⟨⟨fun h => absurd h (by decide), fun h => absurd h (by decide)⟩, ⟨fun _ => rfl, fun _ => by decide⟩⟩
/-- a boolean's narrowing changes nothing -/
theorem fa_bool_and {r : Int32} (h : r = 0 ∨ r = 1) : r &&& 1 = r := by
  rcases h with rfl | rfl
  · decide
  · decide
theorem fa_bool_prop {c : Prop} [Decidable c] {r : Int32} (h : r = if c then 1 else 0) : (r = 0 ↔ ¬ c) ∧ (¬ r = 0 ↔ c) := by
  subst h
  by_cases hc : c
  · rw [if_pos hc]
    exact ⟨⟨fun h => absurd h (by decide), fun h => absurd hc h⟩, ⟨fun _ => hc, fun _ => by decide⟩⟩
  · rw [if_neg hc]
    exact ⟨⟨fun _ => hc, fun _ => rfl⟩, ⟨fun h => absurd rfl h, fun h => absurd h hc⟩⟩

/-! plain facts to paste, each family by itself; over the kit's nI, lN and upd -/
/-! ===== drawers: more things than places ===== -/
theorem fb_holes : ∀ (m n : Nat) (f : Nat → Nat), (∀ i, i < n → f i < m) → (∀ i j, i < j → j < n → f i ≠ f j) → n ≤ m := by
  intro m
  induction m with
  | zero =>
    intro n f h1 _
    rcases Nat.eq_zero_or_pos n with h | h
    · omega
    · exact absurd (h1 0 h) (Nat.not_lt_zero _)
  | succ m ih =>
    intro n f h1 h2
    by_cases hx : ∃ i, i < n ∧ f i = m
    · obtain ⟨a, ha, hfa⟩ := hx
      have hg := ih (n - 1) (fun i => if i < a then f i else f (i + 1)) (by
        intro i hi
        by_cases q : i < a
        · simp only [if_pos q]
          have b1 := h1 i (by omega)
          have b2 := h2 i a q ha
          omega
        · simp only [if_neg q]
          have b1 := h1 (i + 1) (by omega)
          have b2 := h2 a (i + 1) (by omega) (by omega)
          omega) (by
        intro i j hij hj
        by_cases q : i < a
        · by_cases r : j < a
          · simp only [if_pos q, if_pos r]
            exact h2 i j hij (by omega)
          · simp only [if_pos q, if_neg r]
            exact h2 i (j + 1) (by omega) (by omega)
        · have r : ¬ j < a := by omega
          simp only [if_neg q, if_neg r]
          exact h2 (i + 1) (j + 1) (by omega) (by omega))
      omega
    · have hg := ih n f (fun i hi => by
        have b1 := h1 i hi
        have b2 : f i ≠ m := fun e => hx ⟨i, hi, e⟩
        omega) h2
      omega
/-- two of them in one place -/
theorem fb_twice {m n : Nat} {f : Nat → Nat} (h : ∀ i, i < n → f i < m) (hm : m < n) : ∃ i j, i < j ∧ j < n ∧ f i = f j := by
  refine Classical.byContradiction fun hx => ?_
  have := fb_holes m n f h (fun i j hij hj e => hx ⟨i, j, hij, hj, e⟩)
  omega
/-- as many as places, none twice: each place is taken -/
theorem fb_onto {n : Nat} {f : Nat → Nat} (h : ∀ i, i < n → f i < n) (h2 : ∀ i j, i < j → j < n → f i ≠ f j) {y : Nat} (hy : y < n) : ∃ i, i < n ∧ f i = y := by
  refine Classical.byContradiction fun hx => ?_
  have hne : ∀ i, i < n → f i ≠ y := fun i hi e => hx ⟨i, hi, e⟩
  have := fb_holes (n - 1) n (fun i => if f i < y then f i else f i - 1) (by
    intro i hi
    have b1 := h i hi
    have b2 := hne i hi
    by_cases q : f i < y
    · simp only [if_pos q]; omega
    · simp only [if_neg q]; omega) (by
    intro i j hij hj
    have b1 := hne i (by omega)
    have b2 := hne j hj
    have b3 := h2 i j hij hj
    by_cases q : f i < y
    · by_cases r : f j < y
      · simp only [if_pos q, if_pos r]; exact b3
      · simp only [if_pos q, if_neg r]; omega
    · by_cases r : f j < y
      · simp only [if_neg q, if_pos r]; omega
      · simp only [if_neg q, if_neg r]; omega)
  omega
/-! ===== how many places have a property ===== -/
def fb_ct (p : Nat → Bool) : Nat → Nat
  | 0 => 0
  | n + 1 => fb_ct p n + (if p n then 1 else 0)
theorem fb_ct_succ (p : Nat → Bool) (n : Nat) : fb_ct p (n + 1) = fb_ct p n + (if p n then 1 else 0) := rfl
theorem fb_ct_le (p : Nat → Bool) : ∀ n, fb_ct p n ≤ n
  | 0 => Nat.le_refl _
  | n + 1 => by
    have h := fb_ct_le p n
    rw [fb_ct_succ]
    split <;> omega
theorem fb_ct_step (p : Nat → Bool) (m : Nat) : ∀ n, fb_ct p m ≤ fb_ct p (m + n)
  | 0 => Nat.le_refl _
  | n + 1 => by
    have h := fb_ct_step p m n
    show fb_ct p m ≤ fb_ct p (m + n + 1)
    rw [fb_ct_succ]
    omega
theorem fb_ct_mono (p : Nat → Bool) {m n : Nat} (h : m ≤ n) : fb_ct p m ≤ fb_ct p n := by
  have := fb_ct_step p m (n - m)
  rwa [Nat.add_sub_cancel' h] at this
theorem fb_ct_cong {p q : Nat → Bool} : ∀ {n : Nat}, (∀ k, k < n → p k = q k) → fb_ct p n = fb_ct q n
  | 0, _ => rfl
  | n + 1, h => by
    rw [fb_ct_succ, fb_ct_succ, fb_ct_cong (fun k hk => h k (by omega)), h n (by omega)]
/-- one place changed -/
theorem fb_ct_out (p : Nat → Bool) (b : Bool) {i n : Nat} (h : n ≤ i) : fb_ct (fun k => if k = i then b else p k) n = fb_ct p n :=
  fb_ct_cong fun k hk => if_neg (by omega)
theorem fb_ct_upd (p : Nat → Bool) (b : Bool) {i : Nat} : ∀ {n : Nat}, i < n → fb_ct (fun k => if k = i then b else p k) n + (if p i then 1 else 0) = fb_ct p n + (if b then 1 else 0)
  | 0, h => absurd h (Nat.not_lt_zero i)
  | n + 1, h => by
    rw [fb_ct_succ, fb_ct_succ]
    rcases Nat.lt_or_ge i n with q | q
    · have := fb_ct_upd p b q
      have e : (if n = i then b else p n) = p n := if_neg (by omega)
      rw [e]
      omega
    · have e : i = n := by omega
      subst e
      rw [fb_ct_out p b (Nat.le_refl _)]
      simp only [if_true]
      omega
theorem fb_ct_sub {p q : Nat → Bool} : ∀ {n : Nat}, (∀ k, k < n → p k = true → q k = true) → fb_ct p n ≤ fb_ct q n
  | 0, _ => Nat.le_refl _
  | n + 1, h => by
    have h1 := fb_ct_sub (n := n) (p := p) (q := q) (fun k hk => h k (by omega))
    have h2 := h n (by omega)
    rw [fb_ct_succ, fb_ct_succ]
    cases hp : p n <;> cases hq : q n <;> simp_all <;> omega
theorem fb_ct_or {p q : Nat → Bool} : ∀ {n : Nat}, (∀ k, k < n → ¬ (p k = true ∧ q k = true)) → fb_ct (fun k => p k || q k) n = fb_ct p n + fb_ct q n
  | 0, _ => rfl
  | n + 1, h => by
    have h1 := fb_ct_or (n := n) (p := p) (q := q) (fun k hk => h k (by omega))
    have h2 := h n (by omega)
    rw [fb_ct_succ, fb_ct_succ, fb_ct_succ, h1]
    cases hp : p n <;> cases hq : q n <;> simp_all <;> omega
theorem fb_ct_not (p : Nat → Bool) : ∀ n, fb_ct p n + fb_ct (fun k => !p k) n = n
  | 0 => rfl
  | n + 1 => by
    have h := fb_ct_not p n
    rw [fb_ct_succ, fb_ct_succ]
    cases p n <;> simp <;> omega
theorem fb_ct_split (p : Nat → Bool) (m : Nat) : ∀ n, fb_ct p (m + n) = fb_ct p m + fb_ct (fun k => p (m + k)) n
  | 0 => rfl
  | n + 1 => by
    have h := fb_ct_split p m n
    show fb_ct p (m + n + 1) = _
    rw [fb_ct_succ, fb_ct_succ, h, Nat.add_assoc]
theorem fb_ct_zero {p : Nat → Bool} : ∀ {n : Nat}, fb_ct p n = 0 ↔ ∀ k, k < n → p k = false
  | 0 => ⟨fun _ k hk => absurd hk (Nat.not_lt_zero k), fun _ => rfl⟩
  | n + 1 => by
    have h := fb_ct_zero (p := p) (n := n)
    rw [fb_ct_succ]
    constructor
    · intro e k hk
      have e1 : fb_ct p n = 0 := by omega
      rcases Nat.lt_or_ge k n with q | q
      · exact h.mp e1 k q
      · have ek : k = n := by omega
        subst ek
        cases hp : p k
        · rfl
        · simp [hp] at e
    · intro a
      rw [h.mpr (fun k hk => a k (by omega)), a n (by omega)]
      rfl
theorem fb_ct_pos {p : Nat → Bool} {n : Nat} : 0 < fb_ct p n ↔ ∃ k, k < n ∧ p k = true := by
  constructor
  · intro h
    refine Classical.byContradiction fun hx => ?_
    have := fb_ct_zero.mpr (fun k hk => by
      cases hp : p k
      · rfl
      · exact absurd ⟨k, hk, hp⟩ hx : ∀ k, k < n → p k = false)
    omega
  · rintro ⟨k, hk, hp⟩
    rcases Nat.eq_zero_or_pos (fb_ct p n) with e | e
    · have := fb_ct_zero.mp e k hk
      rw [this] at hp
      cases hp
    · exact e
theorem fb_ct_all {p : Nat → Bool} {n : Nat} : fb_ct p n = n ↔ ∀ k, k < n → p k = true := by
  have h := fb_ct_not p n
  constructor
  · intro e k hk
    have z : fb_ct (fun k => !p k) n = 0 := by omega
    have := fb_ct_zero.mp z k hk
    cases hp : p k
    · simp [hp] at this
    · rfl
  · intro a
    have z : fb_ct (fun k => !p k) n = 0 := fb_ct_zero.mpr (fun k hk => by simp [a k hk])
    omega
/-- the k-th place with the property -/
theorem fb_ct_kth {p : Nat → Bool} {k : Nat} : ∀ {n : Nat}, k < fb_ct p n → ∃ i, i < n ∧ p i = true ∧ fb_ct p i = k
  | 0, h => absurd h (Nat.not_lt_zero k)
  | n + 1, h => by
    rcases Nat.lt_or_ge k (fb_ct p n) with q | q
    · obtain ⟨i, h1, h2⟩ := fb_ct_kth q
      exact ⟨i, by omega, h2⟩
    · rw [fb_ct_succ] at h
      cases hp : p n
      · simp [hp] at h; omega
      · simp [hp] at h
        exact ⟨n, by omega, hp, by omega⟩
theorem fb_ct_kth_one {p : Nat → Bool} {i j : Nat} (hi : p i = true) (hj : p j = true) (e : fb_ct p i = fb_ct p j) : i = j := by
  have key : ∀ a b : Nat, a < b → p a = true → fb_ct p a < fb_ct p b := by
    intro a b hab ha
    have h := fb_ct_mono p (show a + 1 ≤ b from hab)
    rw [fb_ct_succ, ha] at h
    simp at h
    omega
  rcases Nat.lt_trichotomy i j with q | q | q
  · have := key i j q hi; omega
  · exact q
  · have := key j i q hj; omega
/-! ===== sums over a range: one place changed, parts, bounds ===== -/
def fb_sm (f : Nat → Nat) : Nat → Nat
  | 0 => 0
  | n + 1 => fb_sm f n + f n
theorem fb_sm_succ (f : Nat → Nat) (n : Nat) : fb_sm f (n + 1) = fb_sm f n + f n := rfl
theorem fb_sm_cong {f g : Nat → Nat} : ∀ {n : Nat}, (∀ k, k < n → f k = g k) → fb_sm f n = fb_sm g n
  | 0, _ => rfl
  | n + 1, h => by rw [fb_sm_succ, fb_sm_succ, fb_sm_cong (fun k hk => h k (by omega)), h n (by omega)]
theorem fb_sm_out (f : Nat → Nat) (v : Nat) {i n : Nat} (h : n ≤ i) : fb_sm (fun k => if k = i then v else f k) n = fb_sm f n :=
  fb_sm_cong fun k hk => if_neg (by omega)
theorem fb_sm_upd (f : Nat → Nat) (v : Nat) {i : Nat} : ∀ {n : Nat}, i < n → fb_sm (fun k => if k = i then v else f k) n + f i = fb_sm f n + v
  | 0, h => absurd h (Nat.not_lt_zero i)
  | n + 1, h => by
    rw [fb_sm_succ, fb_sm_succ]
    rcases Nat.lt_or_ge i n with q | q
    · have := fb_sm_upd f v q
      have e : (if n = i then v else f n) = f n := if_neg (by omega)
      rw [e]
      omega
    · have e : i = n := by omega
      subst e
      rw [fb_sm_out f v (Nat.le_refl _)]
      simp only [if_true]
      omega
theorem fb_sm_add (f g : Nat → Nat) : ∀ n, fb_sm (fun k => f k + g k) n = fb_sm f n + fb_sm g n
  | 0 => rfl
  | n + 1 => by
    have h := fb_sm_add f g n
    rw [fb_sm_succ, fb_sm_succ, fb_sm_succ, h]
    omega
theorem fb_sm_le {f g : Nat → Nat} : ∀ {n : Nat}, (∀ k, k < n → f k ≤ g k) → fb_sm f n ≤ fb_sm g n
  | 0, _ => Nat.le_refl _
  | n + 1, h => by
    have h1 := fb_sm_le (n := n) (f := f) (g := g) (fun k hk => h k (by omega))
    have h2 := h n (by omega)
    rw [fb_sm_succ, fb_sm_succ]
    omega
theorem fb_sm_const (c : Nat) : ∀ n, fb_sm (fun _ => c) n = n * c
  | 0 => by rw [Nat.zero_mul]; rfl
  | n + 1 => by rw [fb_sm_succ, fb_sm_const c n, Nat.succ_mul]
theorem fb_sm_bound {f : Nat → Nat} {c n : Nat} (h : ∀ k, k < n → f k ≤ c) : fb_sm f n ≤ n * c := by
  rw [← fb_sm_const c n]
  exact fb_sm_le h
theorem fb_sm_mono (f : Nat → Nat) (m : Nat) : ∀ n, fb_sm f m ≤ fb_sm f (m + n)
  | 0 => Nat.le_refl _
  | n + 1 => by
    have h := fb_sm_mono f m n
    show fb_sm f m ≤ fb_sm f (m + n + 1)
    rw [fb_sm_succ]
    omega
theorem fb_sm_part (f : Nat → Nat) {i n : Nat} (h : i < n) : fb_sm f i + f i ≤ fb_sm f n := by
  have := fb_sm_mono f (i + 1) (n - (i + 1))
  rw [fb_sm_succ, show i + 1 + (n - (i + 1)) = n by omega] at this
  exact this
theorem fb_sm_split (f : Nat → Nat) (m : Nat) : ∀ n, fb_sm f (m + n) = fb_sm f m + fb_sm (fun k => f (m + k)) n
  | 0 => rfl
  | n + 1 => by
    have h := fb_sm_split f m n
    show fb_sm f (m + n + 1) = _
    rw [fb_sm_succ, fb_sm_succ, h, Nat.add_assoc]
theorem fb_sm_zero {f : Nat → Nat} {n : Nat} (h : fb_sm f n = 0) : ∀ k, k < n → f k = 0 := fun k hk => by
  have := fb_sm_part f hk
  omega
/-- the same over whole numbers -/
def fb_si (f : Nat → Int) : Nat → Int
  | 0 => 0
  | n + 1 => fb_si f n + f n
theorem fb_si_succ (f : Nat → Int) (n : Nat) : fb_si f (n + 1) = fb_si f n + f n := rfl
theorem fb_si_cong {f g : Nat → Int} : ∀ {n : Nat}, (∀ k, k < n → f k = g k) → fb_si f n = fb_si g n
  | 0, _ => rfl
  | n + 1, h => by rw [fb_si_succ, fb_si_succ, fb_si_cong (fun k hk => h k (by omega)), h n (by omega)]
theorem fb_si_out (f : Nat → Int) (v : Int) {i n : Nat} (h : n ≤ i) : fb_si (fun k => if k = i then v else f k) n = fb_si f n :=
  fb_si_cong fun k hk => if_neg (by omega)
theorem fb_si_upd (f : Nat → Int) (v : Int) {i : Nat} : ∀ {n : Nat}, i < n → fb_si (fun k => if k = i then v else f k) n = fb_si f n - f i + v
  | 0, h => absurd h (Nat.not_lt_zero i)
  | n + 1, h => by
    rw [fb_si_succ, fb_si_succ]
    rcases Nat.lt_or_ge i n with q | q
    · have := fb_si_upd f v q
      have e : (if n = i then v else f n) = f n := if_neg (by omega)
      rw [e]
      omega
    · have e : i = n := by omega
      subst e
      rw [fb_si_out f v (Nat.le_refl _)]
      simp only [if_true]
      omega
theorem fb_si_add (f g : Nat → Int) : ∀ n, fb_si (fun k => f k + g k) n = fb_si f n + fb_si g n
  | 0 => rfl
  | n + 1 => by
    have h := fb_si_add f g n
    rw [fb_si_succ, fb_si_succ, fb_si_succ, h]
    omega
theorem fb_si_sub (f g : Nat → Int) : ∀ n, fb_si (fun k => f k - g k) n = fb_si f n - fb_si g n
  | 0 => rfl
  | n + 1 => by
    have h := fb_si_sub f g n
    rw [fb_si_succ, fb_si_succ, fb_si_succ, h]
    omega
theorem fb_si_mul (c : Int) (f : Nat → Int) : ∀ n, fb_si (fun k => c * f k) n = c * fb_si f n
  | 0 => (Int.mul_zero c).symm
  | n + 1 => by
    have h := fb_si_mul c f n
    rw [fb_si_succ, fb_si_succ, h, Int.mul_add]
theorem fb_si_split (f : Nat → Int) (m : Nat) : ∀ n, fb_si f (m + n) = fb_si f m + fb_si (fun k => f (m + k)) n
  | 0 => (Int.add_zero _).symm
  | n + 1 => by
    have h := fb_si_split f m n
    show fb_si f (m + n + 1) = _
    rw [fb_si_succ, fb_si_succ, h, Int.add_assoc]
theorem fb_si_nat (f : Nat → Nat) : ∀ n, fb_si (fun k => (f k : Int)) n = (fb_sm f n : Int)
  | 0 => rfl
  | n + 1 => by
    have h := fb_si_nat f n
    rw [fb_si_succ, fb_sm_succ, h]
    omega
theorem fb_si_bound {f : Nat → Int} {c : Int} (hc : 0 ≤ c) : ∀ {n : Nat}, (∀ k, k < n → -c ≤ f k ∧ f k ≤ c) → -(n * c) ≤ fb_si f n ∧ fb_si f n ≤ n * c
  | 0, _ => by simp [fb_si]
  | n + 1, h => by
    have h1 := fb_si_bound (n := n) (f := f) hc (fun k hk => h k (by omega))
    have h2 := h n (by omega)
    have e : ((n + 1 : Nat) : Int) * c = n * c + c := by rw [Int.natCast_add, Int.add_mul]; simp
    rw [fb_si_succ, e]
    omega
/-! ===== bits of a long that isn't negative ===== -/
theorem fb_andL (a b : Nat) : lN a &&& lN b = lN (a &&& b) := by
  apply Int64.toBitVec_inj.1
  show BitVec.ofNat 64 a &&& BitVec.ofNat 64 b = BitVec.ofNat 64 (a &&& b)
  apply BitVec.eq_of_getLsbD_eq
  intro i hi
  simp [hi]
theorem fb_orL (a b : Nat) : lN a ||| lN b = lN (a ||| b) := by
  apply Int64.toBitVec_inj.1
  show BitVec.ofNat 64 a ||| BitVec.ofNat 64 b = BitVec.ofNat 64 (a ||| b)
  apply BitVec.eq_of_getLsbD_eq
  intro i hi
  simp [hi]
theorem fb_xorL (a b : Nat) : lN a ^^^ lN b = lN (a ^^^ b) := by
  apply Int64.toBitVec_inj.1
  show BitVec.ofNat 64 a ^^^ BitVec.ofNat 64 b = BitVec.ofNat 64 (a ^^^ b)
  apply BitVec.eq_of_getLsbD_eq
  intro i hi
  simp [hi]
theorem fb_xorI (a b : Nat) : nI a ^^^ nI b = nI (a ^^^ b) := by
  apply Int32.toBitVec_inj.1
  show BitVec.ofNat 32 a ^^^ BitVec.ofNat 32 b = BitVec.ofNat 32 (a ^^^ b)
  apply BitVec.eq_of_getLsbD_eq
  intro i hi
  simp [hi]
theorem fb_maskL (n k : Nat) : lN n &&& lN (2 ^ k - 1) = lN (n % 2 ^ k) := by rw [fb_andL, Nat.and_two_pow_sub_one_eq_mod]
theorem fb_or_sumL {a k : Nat} (b : Nat) (h : a < 2 ^ k) : lN (2 ^ k * b) ||| lN a = lN (2 ^ k * b + a) := by rw [fb_orL, Nat.two_pow_add_eq_or_of_lt h]
theorem fb_lN_inj {a b : Nat} (ha : a < 2 ^ 63) (hb : b < 2 ^ 63) : lN a = lN b ↔ a = b := by
  constructor
  · intro h
    have h1 : (BitVec.ofNat 64 a).toNat = (BitVec.ofNat 64 b).toNat := congrArg (fun x : Int64 => x.toBitVec.toNat) h
    rw [BitVec.toNat_ofNat, BitVec.toNat_ofNat, Nat.mod_eq_of_lt (by omega), Nat.mod_eq_of_lt (by omega)] at h1
    exact h1
  · rintro rfl; rfl
theorem fb_bit_nat (n j : Nat) : n &&& 2 ^ j = 0 ↔ n.testBit j = false := by
  constructor
  · intro h
    have h1 : (n &&& 2 ^ j).testBit j = false := by rw [h]; simp
    rw [Nat.testBit_and] at h1
    simpa using h1
  · intro h
    apply Nat.eq_of_testBit_eq
    intro i
    rw [Nat.testBit_and]
    by_cases hi : j = i
    · subst hi; simp [h]
    · first | (simp [Nat.testBit_two_pow, hi]; done) | (simp [Nat.testBit_two_pow_of_ne hi]; done)
/-- one bit of a long -/
theorem fb_bitL {n j : Nat} (hj : j < 63) : lN n &&& lN (2 ^ j) = 0 ↔ n.testBit j = false := by
  have h2 : (2 : Nat) ^ j < 2 ^ 63 := Nat.pow_lt_pow_right (by decide) hj
  have hle : n &&& 2 ^ j ≤ 2 ^ j := Nat.and_le_right
  rw [fb_andL, ← fb_bit_nat, show (0 : Int64) = lN 0 from rfl]
  exact fb_lN_inj (by omega) (by decide)
/-- a bit set, a bit taken off -/
theorem fb_bit_set (n j i : Nat) : (n ||| 2 ^ j).testBit i = (n.testBit i || decide (i = j)) := by
  rw [Nat.testBit_or]
  by_cases h : j = i
  · subst h; simp
  · have h2 : ¬ i = j := fun e => h e.symm
    first | (simp [Nat.testBit_two_pow, h, h2]; done) | (simp [Nat.testBit_two_pow_of_ne h, h2]; done)
theorem fb_bit_flip (n j i : Nat) : (n ^^^ 2 ^ j).testBit i = (n.testBit i ^^ decide (i = j)) := by
  rw [Nat.testBit_xor]
  by_cases h : j = i
  · subst h; simp
  · have h2 : ¬ i = j := fun e => h e.symm
    first | (simp [Nat.testBit_two_pow, h, h2]; done) | (simp [Nat.testBit_two_pow_of_ne h, h2]; done)
/-! ===== a stretch of an array written over by a function ===== -/
def fb_put {α : Type} (f g : Nat → α) (a n : Nat) : Nat → α := fun k => if a ≤ k ∧ k < a + n then g (k - a) else f k
theorem fb_put_0 {α : Type} (f g : Nat → α) (a : Nat) : fb_put f g a 0 = f := funext fun k => if_neg (by omega)
theorem fb_put_in {α : Type} {f g : Nat → α} {a n k : Nat} (h1 : a ≤ k) (h2 : k < a + n) : fb_put f g a n k = g (k - a) := if_pos ⟨h1, h2⟩
theorem fb_put_out {α : Type} {f g : Nat → α} {a n k : Nat} (h : k < a ∨ a + n ≤ k) : fb_put f g a n k = f k := if_neg (by omega)
theorem fb_put_succ (f g : Nat → Int32) (a n : Nat) : upd (fb_put f g a n) (a + n) (g n) = fb_put f g a (n + 1) := by
  funext k
  by_cases h : k = a + n
  · subst h
    simp [upd, fb_put]
  · by_cases h1 : a ≤ k ∧ k < a + n
    · have h2 : a ≤ k ∧ k < a + (n + 1) := by omega
      simp only [upd, fb_put, if_neg h, if_pos h1, if_pos h2]
    · have h2 : ¬ (a ≤ k ∧ k < a + (n + 1)) := by omega
      simp only [upd, fb_put, if_neg h, if_neg h1, if_neg h2]
/-- .. from the far end down -/
theorem fb_put_down (f g : Nat → Int32) {a n m : Nat} (h : m < n) : upd (fb_put f (fun k => g (k + (m + 1))) (a + (m + 1)) (n - (m + 1))) (a + m) (g m) = fb_put f (fun k => g (k + m)) (a + m) (n - m) := by
  funext k
  by_cases h0 : k = a + m
  · subst h0
    simp only [upd, if_true]
    rw [fb_put_in (by omega) (by omega)]
    exact congrArg g (by omega)
  · simp only [upd, if_neg h0]
    by_cases h1 : a + (m + 1) ≤ k ∧ k < a + (m + 1) + (n - (m + 1))
    · rw [fb_put_in h1.1 h1.2, fb_put_in (by omega) (by omega)]
      exact congrArg g (by omega)
    · rw [fb_put_out (by omega), fb_put_out (by omega)]
theorem fb_put_cong {α : Type} {f f2 g g2 : Nat → α} {a n : Nat} (hf : ∀ k, (k < a ∨ a + n ≤ k) → f k = f2 k) (hg : ∀ k, k < n → g k = g2 k) : fb_put f g a n = fb_put f2 g2 a n := by
  funext k
  by_cases h : a ≤ k ∧ k < a + n
  · rw [fb_put_in h.1 h.2, fb_put_in h.1 h.2, hg _ (by omega)]
  · rw [fb_put_out (by omega), fb_put_out (by omega), hf _ (by omega)]
/-! ===== the least, the first, the best so far; that there is one alone ===== -/
theorem fb_first {p : Nat → Prop} [DecidablePred p] : ∀ {n : Nat}, (∃ i, i < n ∧ p i) → ∃ i, i < n ∧ p i ∧ ∀ j, j < i → ¬ p j
  | 0, h => by obtain ⟨i, hi, -⟩ := h; exact absurd hi (Nat.not_lt_zero i)
  | n + 1, h => by
    by_cases q : ∃ i, i < n ∧ p i
    · obtain ⟨i, h1, h2⟩ := fb_first q
      exact ⟨i, by omega, h2⟩
    · obtain ⟨i, h1, h2⟩ := h
      have e : i = n := by
        rcases Nat.lt_or_ge i n with r | r
        · exact absurd ⟨i, r, h2⟩ q
        · omega
      subst e
      exact ⟨i, by omega, h2, fun j hj hp => q ⟨j, hj, hp⟩⟩
theorem fb_first_one {p : Nat → Prop} {i j : Nat} (hi : p i) (hi2 : ∀ k, k < i → ¬ p k) (hj : p j) (hj2 : ∀ k, k < j → ¬ p k) : i = j := by
  rcases Nat.lt_trichotomy i j with q | q | q
  · exact absurd hi (hj2 i q)
  · exact q
  · exact absurd hj (hi2 j q)
theorem fb_last {p : Nat → Prop} [DecidablePred p] : ∀ {n : Nat}, (∃ i, i < n ∧ p i) → ∃ i, i < n ∧ p i ∧ ∀ j, i < j → j < n → ¬ p j
  | 0, h => by obtain ⟨i, hi, -⟩ := h; exact absurd hi (Nat.not_lt_zero i)
  | n + 1, h => by
    by_cases q : p n
    · exact ⟨n, by omega, q, fun j h1 h2 => by omega⟩
    · obtain ⟨i, h1, h2⟩ := h
      have hi : i < n := by
        rcases Nat.lt_or_ge i n with r | r
        · exact r
        · have e : i = n := by omega
          subst e
          exact absurd h2 q
      obtain ⟨i2, a1, a2, a3⟩ := fb_last (n := n) ⟨i, hi, h2⟩
      refine ⟨i2, by omega, a2, fun j b1 b2 => ?_⟩
      rcases Nat.lt_or_ge j n with r | r
      · exact a3 j b1 r
      · have e : j = n := by omega
        subst e
        exact q
/-- the first greatest -/
theorem fb_best (f : Nat → Int) : ∀ {n : Nat}, 0 < n → ∃ i, i < n ∧ (∀ j, j < n → f j ≤ f i) ∧ ∀ j, j < i → f j < f i
  | 0, h => absurd h (Nat.lt_irrefl 0)
  | 1, _ => ⟨0, by omega, fun j hj => by have e : j = 0 := by omega
                                         subst e; exact Int.le_refl _, fun j hj => absurd hj (Nat.not_lt_zero j)⟩
  | n + 2, _ => by
    obtain ⟨i, h1, h2, h3⟩ := fb_best f (n := n + 1) (by omega)
    by_cases q : f i < f (n + 1)
    · refine ⟨n + 1, by omega, fun j hj => ?_, fun j hj => ?_⟩
      · rcases Nat.lt_or_ge j (n + 1) with r | r
        · have := h2 j r; omega
        · have e : j = n + 1 := by omega
          subst e; exact Int.le_refl _
      · have := h2 j hj; omega
    · refine ⟨i, by omega, fun j hj => ?_, h3⟩
      rcases Nat.lt_or_ge j (n + 1) with r | r
      · exact h2 j r
      · have e : j = n + 1 := by omega
        subst e; omega
theorem fb_best_one {f : Nat → Int} {n i j : Nat} (hi : i < n) (hi2 : ∀ k, k < n → f k ≤ f i) (hi3 : ∀ k, k < i → f k < f i) (hj : j < n) (hj2 : ∀ k, k < n → f k ≤ f j) (hj3 : ∀ k, k < j → f k < f j) : i = j := by
  rcases Nat.lt_trichotomy i j with q | q | q
  · have a := hj3 i q
    have b := hi2 j hj
    omega
  · exact q
  · have a := hi3 j q
    have b := hj2 i hi
    omega
/-- the first least -/
theorem fb_low (f : Nat → Int) {n : Nat} (h : 0 < n) : ∃ i, i < n ∧ (∀ j, j < n → f i ≤ f j) ∧ ∀ j, j < i → f i < f j := by
  obtain ⟨i, h1, h2, h3⟩ := fb_best (fun k => -f k) h
  exact ⟨i, h1, fun j hj => by have := h2 j hj; omega, fun j hj => by have := h3 j hj; omega⟩
/-! ===== signed ints as whole numbers, within bounds ===== -/
theorem fb_rng (x : Int32) : -2147483648 ≤ x.toInt ∧ x.toInt < 2147483648 := by
  have h1 := Int32.le_toInt x
  have h2 := Int32.toInt_lt x
  omega
theorem fb_bmod {z : Int} (h1 : -2147483648 ≤ z) (h2 : z < 2147483648) : z.bmod (2 ^ 32) = z := by
  rw [Int.bmod_eq_of_le (by omega) (by omega)]
theorem fb_addI {x y : Int32} (h1 : -2147483648 ≤ x.toInt + y.toInt) (h2 : x.toInt + y.toInt < 2147483648) : (x + y).toInt = x.toInt + y.toInt := by
  rw [Int32.toInt_add, fb_bmod h1 h2]
theorem fb_subI {x y : Int32} (h1 : -2147483648 ≤ x.toInt - y.toInt) (h2 : x.toInt - y.toInt < 2147483648) : (x - y).toInt = x.toInt - y.toInt := by
  rw [Int32.toInt_sub, fb_bmod h1 h2]
theorem fb_mulI {x y : Int32} (h1 : -2147483648 ≤ x.toInt * y.toInt) (h2 : x.toInt * y.toInt < 2147483648) : (x * y).toInt = x.toInt * y.toInt := by
  rw [Int32.toInt_mul, fb_bmod h1 h2]
theorem fb_negI {x : Int32} (h : x.toInt ≠ -2147483648) : (-x).toInt = -x.toInt := by
  have := fb_rng x
  rw [Int32.toInt_neg, fb_bmod (by omega) (by omega)]
theorem fb_ofI {z : Int} (h1 : -2147483648 ≤ z) (h2 : z < 2147483648) : (Int32.ofInt z).toInt = z := by
  rw [Int32.toInt_ofInt, fb_bmod h1 h2]
theorem fb_asI (x : Int32) : Int32.ofInt x.toInt = x := Int32.ofInt_toInt x
theorem fb_rngL (x : Int64) : -9223372036854775808 ≤ x.toInt ∧ x.toInt < 9223372036854775808 := by
  have h1 := Int64.le_toInt x
  have h2 := Int64.toInt_lt x
  omega
theorem fb_bmodL {z : Int} (h1 : -9223372036854775808 ≤ z) (h2 : z < 9223372036854775808) : z.bmod (2 ^ 64) = z := by
  rw [Int.bmod_eq_of_le (by omega) (by omega)]
theorem fb_addL {x y : Int64} (h1 : -9223372036854775808 ≤ x.toInt + y.toInt) (h2 : x.toInt + y.toInt < 9223372036854775808) : (x + y).toInt = x.toInt + y.toInt := by
  rw [Int64.toInt_add, fb_bmodL h1 h2]
theorem fb_subL {x y : Int64} (h1 : -9223372036854775808 ≤ x.toInt - y.toInt) (h2 : x.toInt - y.toInt < 9223372036854775808) : (x - y).toInt = x.toInt - y.toInt := by
  rw [Int64.toInt_sub, fb_bmodL h1 h2]
theorem fb_mulL {x y : Int64} (h1 : -9223372036854775808 ≤ x.toInt * y.toInt) (h2 : x.toInt * y.toInt < 9223372036854775808) : (x * y).toInt = x.toInt * y.toInt := by
  rw [Int64.toInt_mul, fb_bmodL h1 h2]
/-! ===== cuts of what is narrow already ===== -/
theorem fb_byte {x : Int32} (h1 : -128 ≤ x.toInt) (h2 : x.toInt < 128) : x.toInt8.toInt32 = x := by
  apply Int32.toInt_inj.1
  rw [Int8.toInt_toInt32, Int32.toInt_toInt8, Int.bmod_eq_of_le (by omega) (by omega)]
theorem fb_short {x : Int32} (h1 : -32768 ≤ x.toInt) (h2 : x.toInt < 32768) : x.toInt16.toInt32 = x := by
  apply Int32.toInt_inj.1
  rw [Int16.toInt_toInt32, Int32.toInt_toInt16, Int.bmod_eq_of_le (by omega) (by omega)]
theorem fb_byte_rng (x : Int32) : -128 ≤ x.toInt8.toInt32.toInt ∧ x.toInt8.toInt32.toInt < 128 := by
  rw [Int8.toInt_toInt32]
  have h1 := Int8.le_toInt x.toInt8
  have h2 := Int8.toInt_lt x.toInt8
  omega
theorem fb_short_rng (x : Int32) : -32768 ≤ x.toInt16.toInt32.toInt ∧ x.toInt16.toInt32.toInt < 32768 := by
  rw [Int16.toInt_toInt32]
  have h1 := Int16.le_toInt x.toInt16
  have h2 := Int16.toInt_lt x.toInt16
  omega
theorem fb_byte_twice (x : Int32) : x.toInt8.toInt32.toInt8.toInt32 = x.toInt8.toInt32 := fb_byte (fb_byte_rng x).1 (fb_byte_rng x).2
theorem fb_short_twice (x : Int32) : x.toInt16.toInt32.toInt16.toInt32 = x.toInt16.toInt32 := fb_short (fb_short_rng x).1 (fb_short_rng x).2
theorem fb_char {n : Nat} (h : n < 65536) : (nI n).toUInt32.toUInt16.toUInt32.toInt32 = nI n := by
  apply Int32.toBitVec_inj.1
  apply BitVec.eq_of_toNat_eq
  have e1 : (nI n).toBitVec.toNat = n := by
    show (BitVec.ofNat 32 n).toNat = n
    rw [BitVec.toNat_ofNat, Nat.mod_eq_of_lt (by omega)]
  have e2 : ((nI n).toUInt32.toUInt16.toUInt32).toNat = n := by
    rw [UInt16.toNat_toUInt32, UInt32.toNat_toUInt16]
    show (nI n).toBitVec.toNat % 2 ^ 16 = n
    rw [e1, Nat.mod_eq_of_lt (by omega)]
  rw [e1]
  exact e2
end
section
/-! rows on bits, shifts and unsigned numbers, to paste: each family out of a closed proof of our own, whole with what it rests on; each by itself clean at Lean in its own claim (generation 39, form 5). Take a family whole -/
/-! ===== Int32 by its bits: bt x i ===== -/
def bt (x : Int32) (i : Nat) : Bool := x.toBitVec.getLsbD i
theorem b_ext {x y : Int32} (h : ∀ i, i < 32 → bt x i = bt y i) : x = y := Int32.toBitVec_inj.mp (BitVec.eq_of_getLsbD_eq (fun i hi => h i hi))
theorem b_or (x y : Int32) (i : Nat) : bt (x ||| y) i = (bt x i || bt y i) := by unfold bt; rw [Int32.toBitVec_or, BitVec.getLsbD_or]
theorem b_and (x y : Int32) (i : Nat) : bt (x &&& y) i = (bt x i && bt y i) := by unfold bt; rw [Int32.toBitVec_and, BitVec.getLsbD_and]
theorem b_xor (x y : Int32) (i : Nat) : bt (x ^^^ y) i = (bt x i ^^ bt y i) := by unfold bt; rw [Int32.toBitVec_xor, BitVec.getLsbD_xor]
theorem b_big {x : Int32} {i : Nat} (h : 32 ≤ i) : bt x i = false := BitVec.getLsbD_of_ge _ _ h
theorem b_255 (i : Nat) : bt 255 i = decide (i < 8) := by
  rcases Nat.lt_or_ge i 32 with h | h
  · exact (by decide +kernel : ∀ i, i < 32 → bt 255 i = decide (i < 8)) i h
  · rw [b_big h, decide_eq_false (by omega)]
theorem b_65535 (i : Nat) : bt 65535 i = decide (i < 16) := by
  rcases Nat.lt_or_ge i 32 with h | h
  · exact (by decide +kernel : ∀ i, i < 32 → bt 65535 i = decide (i < 16)) i h
  · rw [b_big h, decide_eq_false (by omega)]
theorem b_m1 : ∀ i, i < 32 → bt (-1) i = true := by decide +kernel
theorem b_0 (i : Nat) : bt 0 i = false := BitVec.getLsbD_zero
theorem s_l : ∀ n, n < 32 → ((nI n &&& 31).toBitVec.smod 32).toNat = n := by decide +kernel
theorem s_u : ∀ n, n < 32 → (((nI n).toUInt32 &&& Int32.toUInt32 31).toBitVec % 32).toNat = n := by decide +kernel
theorem b_shl (n : Nat) (hn : n < 32) (x : Int32) {i : Nat} (hi : i < 32) : bt (x <<< (nI n &&& 31)) i = (decide (n ≤ i) && bt x (i - n)) := by
  unfold bt
  rw [Int32.toBitVec_shiftLeft]
  show (x.toBitVec <<< ((nI n &&& 31).toBitVec.smod 32).toNat).getLsbD i = _
  rw [s_l n hn, BitVec.getLsbD_shiftLeft]
  rcases Nat.lt_or_ge i n with h | h
  · simp [h, Nat.not_le.mpr h]
  · simp [hi, h, Nat.not_lt.mpr h]
theorem b_ushr (n : Nat) (hn : n < 32) (x : Int32) (i : Nat) : bt ((x.toUInt32 >>> ((nI n).toUInt32 &&& Int32.toUInt32 31)).toInt32) i = bt x (n + i) := by
  show (x.toUInt32 >>> ((nI n).toUInt32 &&& Int32.toUInt32 31)).toBitVec.getLsbD i = x.toUInt32.toBitVec.getLsbD (n + i)
  rw [UInt32.toBitVec_shiftRight]
  show (x.toUInt32.toBitVec >>> (((nI n).toUInt32 &&& Int32.toUInt32 31).toBitVec % 32).toNat).getLsbD i = _
  rw [s_u n hn, BitVec.getLsbD_ushiftRight]
theorem b_sshr (n : Nat) (hn : n < 32) (x : Int32) {i : Nat} (hi : i < 32) : bt (x >>> (nI n &&& 31)) i = if n + i < 32 then bt x (n + i) else bt x 31 := by
  unfold bt
  rw [Int32.toBitVec_shiftRight]
  show (x.toBitVec.sshiftRight ((nI n &&& 31).toBitVec.smod 32).toNat).getLsbD i = _
  rw [s_l n hn, BitVec.getLsbD_sshiftRight, BitVec.msb_eq_getLsbD_last]
  simp [hi]
theorem b_shl8 (x : Int32) {i : Nat} (hi : i < 32) : bt (x <<< ((8 : Int32) &&& 31)) i = (decide (8 ≤ i) && bt x (i - 8)) := b_shl 8 (by omega) x hi
theorem b_shl16 (x : Int32) {i : Nat} (hi : i < 32) : bt (x <<< ((16 : Int32) &&& 31)) i = (decide (16 ≤ i) && bt x (i - 16)) := b_shl 16 (by omega) x hi
theorem b_shl24 (x : Int32) {i : Nat} (hi : i < 32) : bt (x <<< ((24 : Int32) &&& 31)) i = (decide (24 ≤ i) && bt x (i - 24)) := b_shl 24 (by omega) x hi
theorem b_sshr8 (x : Int32) {i : Nat} (hi : i < 32) : bt (x >>> ((8 : Int32) &&& 31)) i = if 8 + i < 32 then bt x (8 + i) else bt x 31 := b_sshr 8 (by omega) x hi
/-! ===== nI under and, xor, >>>, one bit, 65535 ===== -/
theorem nx_and (a b : Nat) : nI a &&& nI b = nI (a &&& b) := by
  apply Int32.toBitVec_inj.1
  show BitVec.ofNat 32 a &&& BitVec.ofNat 32 b = BitVec.ofNat 32 (a &&& b)
  apply BitVec.eq_of_getLsbD_eq
  intro i hi
  simp [hi]
theorem nx_xor (a b : Nat) : nI a ^^^ nI b = nI (a ^^^ b) := by
  apply Int32.toBitVec_inj.1
  show BitVec.ofNat 32 a ^^^ BitVec.ofNat 32 b = BitVec.ofNat 32 (a ^^^ b)
  apply BitVec.eq_of_getLsbD_eq
  intro i hi
  simp [hi]
theorem nx_cnt : ∀ j : Fin 32, (UInt32.ofNat j.val &&& Int32.toUInt32 31).toNat % 32 = j.val := by decide +kernel
theorem nx_ush {k j : Nat} (hk : k < 65536) (hj : j < 32) : ((nI k).toUInt32 >>> ((nI j).toUInt32 &&& Int32.toUInt32 31)).toInt32 = nI (k >>> j) := by
  have hs : k >>> j ≤ k := by
    rw [Nat.shiftRight_eq_div_pow]
    exact Nat.div_le_self _ _
  have e2 : UInt32.ofNat k >>> (UInt32.ofNat j &&& Int32.toUInt32 31) = UInt32.ofNat (k >>> j) := by
    apply UInt32.toNat_inj.1
    have h1 : (UInt32.ofNat k).toNat = k := Nat.mod_eq_of_lt (by omega)
    have h2 : (UInt32.ofNat (k >>> j)).toNat = k >>> j := Nat.mod_eq_of_lt (by omega)
    rw [UInt32.toNat_shiftRight, nx_cnt ⟨j, hj⟩, h1, h2]
  show (UInt32.ofNat k >>> (UInt32.ofNat j &&& Int32.toUInt32 31)).toInt32 = _
  rw [e2]
  rfl
theorem nx_bit {k j : Nat} (hk : k < 65536) (hj : j < 16) : (((nI k).toUInt32 >>> ((nI j).toUInt32 &&& Int32.toUInt32 31)).toInt32 &&& 1) = 0 ↔ k.testBit j = false := by
  rw [nx_ush hk (by omega)]
  show nI (k >>> j) &&& nI 1 = 0 ↔ _
  rw [nx_and, Nat.and_one_is_mod, ← nI_0, nI_eq (by omega) (by omega), Nat.testBit_eq_decide_div_mod_eq, Nat.shiftRight_eq_div_pow, decide_eq_false_iff_not]
  generalize k / 2 ^ j = z
  omega
theorem nx_mod (k : Nat) : nI k &&& 65535 = nI (k % 65536) := by
  show nI k &&& nI 65535 = _
  rw [nx_and, show (65535 : Nat) = 2 ^ 16 - 1 from rfl, Nat.and_two_pow_sub_one_eq_mod]
theorem nx_m16 {k : Nat} (h : k < 65536) : nI k &&& 65535 = nI k := by rw [nx_mod, Nat.mod_eq_of_lt h]
theorem nx_mask (x : Int32) : ∃ k, k < 65536 ∧ x &&& 65535 = nI k := by
  have e : x = nI x.toBitVec.toNat := by
    apply Int32.toBitVec_inj.1
    show x.toBitVec = BitVec.ofNat 32 x.toBitVec.toNat
    simp
  refine ⟨x.toBitVec.toNat % 65536, Nat.mod_lt _ (by omega), ?_⟩
  rw [← nx_mod, ← e]
/-! ===== Int32 as a set of bits: test, set ===== -/
def nf_M (m : Int32) : Nat := 4294967296 - m.toBitVec.toNat
theorem nf_sh : ∀ l, l < 32 → ((1 : Int32) <<< (nI l &&& 31)).toBitVec = BitVec.twoPow 32 l := by decide +kernel
theorem nf_sl : ∀ l, l < 32 → (((nI l).toUInt32 &&& Int32.toUInt32 31).toBitVec % 32).toNat = l := by decide +kernel
theorem nf_tp : ∀ l, l < 32 → BitVec.twoPow 32 l ≠ 0#32 := by decide +kernel
theorem nf_bit (m : Int32) (l : Nat) (hl : l < 32) : ((m.toUInt32 >>> ((nI l).toUInt32 &&& Int32.toUInt32 31)).toInt32 &&& 1) = 0 ↔ (m &&& ((1 : Int32) <<< (nI l &&& 31))) = 0 := by
  have e : ((m.toUInt32 >>> ((nI l).toUInt32 &&& Int32.toUInt32 31)).toInt32).toBitVec = m.toBitVec >>> l := by
    show m.toBitVec >>> (((nI l).toUInt32 &&& Int32.toUInt32 31).toBitVec % 32) = m.toBitVec >>> l
    rw [BitVec.ushiftRight_eq', nf_sl l hl]
  rw [← Int32.toBitVec_inj, ← Int32.toBitVec_inj, Int32.toBitVec_and, Int32.toBitVec_and, nf_sh l hl, e, BitVec.and_twoPow]
  show (m.toBitVec >>> l &&& 1#32) = 0#32 ↔ _ = 0#32
  rw [BitVec.and_one_eq_setWidth_ofBool_getLsbD, BitVec.getLsbD_ushiftRight, Nat.add_zero]
  cases hb : m.toBitVec.getLsbD l
  · exact ⟨fun _ => by simp, fun _ => by decide⟩
  · exact ⟨fun z => absurd z (by decide), fun z => absurd ((if_pos rfl).symm.trans z) (nf_tp l hl)⟩
theorem nf_gr (m k : Int32) (h : m &&& k = 0) (hk : k ≠ 0) : nf_M (m ||| k) < nf_M m := by
  have hm := m.toBitVec.isLt
  have hm' := (m ||| k).toBitVec.isLt
  have h1 : m.toBitVec.toNat ≤ (m ||| k).toBitVec.toNat := by
    rw [Int32.toBitVec_or, BitVec.toNat_or]
    exact Nat.left_le_or
  have h2 : m.toBitVec.toNat ≠ (m ||| k).toBitVec.toNat := by
    intro e
    have e2 : m = m ||| k := Int32.toBitVec_inj.mp (BitVec.eq_of_toNat_eq e)
    apply hk
    apply Int32.toBitVec_inj.mp
    show k.toBitVec = 0#32
    apply BitVec.eq_of_getLsbD_eq
    intro i hi
    have a : m.toBitVec.getLsbD i = (m.toBitVec.getLsbD i || k.toBitVec.getLsbD i) := by rw [← BitVec.getLsbD_or, ← Int32.toBitVec_or, ← e2]
    have b : (m.toBitVec.getLsbD i && k.toBitVec.getLsbD i) = false := by
      rw [← BitVec.getLsbD_and, ← Int32.toBitVec_and, h]
      exact BitVec.getLsbD_zero
    rw [BitVec.getLsbD_zero]
    revert a b
    cases m.toBitVec.getLsbD i <;> cases k.toBitVec.getLsbD i <;> simp
  unfold nf_M
  omega
/-! ===== a byte read unsigned ===== -/
theorem bp_b (x : Int32) : x.toInt8.toInt32 &&& 255 = x &&& 255 := by
  apply Int32.toBitVec_inj.mp
  rw [Int32.toBitVec_and, Int32.toBitVec_and, Int8.toBitVec_toInt32, Int32.toBitVec_toInt8]
  apply BitVec.eq_of_getLsbD_eq
  intro i hi
  rw [BitVec.getLsbD_and, BitVec.getLsbD_and]
  have hm : ∀ i < 32, 8 ≤ i → (255 : Int32).toBitVec.getLsbD i = false := by decide
  rcases Nat.lt_or_ge i 8 with z | z
  · rw [BitVec.getLsbD_signExtend, BitVec.getLsbD_signExtend, if_pos z, if_pos hi]
    simp only [z, hi, decide_true, Bool.true_and]
  · rw [hm i hi z]; simp
/-! ===== the char cast and 65535 ===== -/
/-! ===== Int64 as a set of bits: test, set, clear ===== -/
theorem ts_nf {x : Bool} (h : ¬ x = false) : x = true := by cases x <;> first | rfl | exact absurd rfl h
theorem ts_nt {x : Bool} (h : ¬ x = true) : x = false := by cases x <;> first | rfl | exact absurd rfl h
theorem ts_bit {w : Int64} {s : UInt64} {j : Nat} (hj : j < 64) (hs : s.toNat = j) : ((w.toUInt64 >>> s).toInt64 &&& 1) = 0 ↔ w.toBitVec.getLsbD j = false := by
  have e : (w.toUInt64 >>> s).toInt64.toBitVec = w.toBitVec >>> j := by
    apply BitVec.eq_of_toNat_eq
    show (w.toUInt64 >>> s).toNat = _
    rw [UInt64.toNat_shiftRight, hs, Nat.mod_eq_of_lt hj, BitVec.toNat_ushiftRight]
    rfl
  rw [← Int64.toBitVec_inj, Int64.toBitVec_and, e]
  show w.toBitVec >>> j &&& 1#64 = 0#64 ↔ _
  constructor
  · intro h
    have t := congrArg (fun x => x.getLsbD 0) h
    simpa using t
  · intro h
    apply BitVec.eq_of_getLsbD_eq
    intro i hi
    cases i with
    | zero => simp [h]
    | succ i => simp
theorem ts_or {w m : Int64} {j : Nat} (hj : j < 64) (hm : m.toBitVec = BitVec.twoPow 64 j) : (w ||| m) = w ↔ w.toBitVec.getLsbD j = true := by
  rw [← Int64.toBitVec_inj, Int64.toBitVec_or, hm]
  constructor
  · intro h
    have t := congrArg (fun x => x.getLsbD j) h
    simp only [BitVec.getLsbD_or, BitVec.getLsbD_twoPow] at t
    simpa [hj] using t.symm
  · intro h
    apply BitVec.eq_of_getLsbD_eq
    intro i hi
    rw [BitVec.getLsbD_or, BitVec.getLsbD_twoPow]
    by_cases e : j = i
    · subst e; rw [h, Bool.true_or]
    · simp [e]
theorem ts_and {w m : Int64} {j : Nat} (hj : j < 64) (hm : m.toBitVec = BitVec.twoPow 64 j) : (w &&& (m ^^^ (-1))) = w ↔ w.toBitVec.getLsbD j = false := by
  have ha : (-1 : Int64).toBitVec = BitVec.allOnes 64 := by decide
  rw [← Int64.toBitVec_inj, Int64.toBitVec_and, Int64.toBitVec_xor, hm, ha]
  constructor
  · intro h
    have t := congrArg (fun x => x.getLsbD j) h
    simp only [BitVec.getLsbD_and, BitVec.getLsbD_xor, BitVec.getLsbD_twoPow, BitVec.getLsbD_allOnes] at t
    simpa [hj] using t.symm
  · intro h
    apply BitVec.eq_of_getLsbD_eq
    intro i hi
    rw [BitVec.getLsbD_and, BitVec.getLsbD_xor, BitVec.getLsbD_twoPow, BitVec.getLsbD_allOnes]
    by_cases e : j = i
    · subst e; rw [h, Bool.false_and]
    · simp [e, hi]
/-! ===== lN n to 2^64: shifts, and, or, masks, one bit ===== -/
theorem wb_tb (n : Nat) : (lN n).toBitVec = BitVec.ofNat 64 n := rfl
theorem wb_inj {a b : Int64} (h : a.toBitVec = b.toBitVec) : a = b := Int64.toBitVec_inj.mp h
theorem wb_tn {n : Nat} (h : n < 2 ^ 64) : (lN n).toBitVec.toNat = n := by rw [wb_tb, BitVec.toNat_ofNat, Nat.mod_eq_of_lt h]
theorem wb_of (x : Int64) : ∃ n, n < 2 ^ 64 ∧ x = lN n := ⟨x.toBitVec.toNat, x.toBitVec.isLt, wb_inj (by rw [wb_tb]; simp)⟩
theorem wb_of32 (x : Int32) : ∃ n, n < 2 ^ 32 ∧ x = nI n := ⟨x.toBitVec.toNat, x.toBitVec.isLt, Int32.toBitVec_inj.mp (by show _ = BitVec.ofNat 32 _; simp)⟩
theorem wb_c : ∀ k, k < 64 → ((nI k).toInt64 &&& 63) = lN k := by decide +kernel
theorem wb_cu : ∀ k, k < 64 → ((nI k).toInt64.toUInt64 &&& Int64.toUInt64 63) = UInt64.ofNat k := by decide +kernel
theorem wb_sm : ∀ k, k < 64 → (BitVec.ofNat 64 k).smod 64 = BitVec.ofNat 64 k := by decide +kernel
theorem wb_pw {a b : Nat} (h : a ≤ b) : 2 ^ b = 2 ^ a * 2 ^ (b - a) := by rw [← Nat.pow_add]; congr 1; omega
theorem wb_lt2 {a b : Nat} (h : a < b) : 2 ^ a < 2 ^ b := Nat.pow_lt_pow_right (by decide) h
theorem wb_mod (n : Nat) : lN n = lN (n % 2 ^ 64) := wb_inj (by rw [wb_tb, wb_tb]; apply BitVec.eq_of_toNat_eq; rw [BitVec.toNat_ofNat, BitVec.toNat_ofNat, Nat.mod_mod])
theorem wb_shr {n k : Nat} (hn : n < 2 ^ 64) (hk : k < 64) : ((lN n).toUInt64 >>> ((nI k).toInt64.toUInt64 &&& Int64.toUInt64 63)).toInt64 = lN (n / 2 ^ k) := by
  rw [wb_cu k hk]
  apply wb_inj
  apply BitVec.eq_of_toNat_eq
  show ((lN n).toUInt64 >>> UInt64.ofNat k).toNat = (BitVec.ofNat 64 _).toNat
  have h1 : (UInt64.ofNat k).toNat = k := by
    show (BitVec.ofNat 64 k).toNat = k
    rw [BitVec.toNat_ofNat, Nat.mod_eq_of_lt (by omega)]
  have h2 : (lN n).toUInt64.toNat = n := wb_tn hn
  rw [UInt64.toNat_shiftRight, h1, h2, Nat.mod_eq_of_lt hk, Nat.shiftRight_eq_div_pow, BitVec.toNat_ofNat, Nat.mod_eq_of_lt (Nat.lt_of_le_of_lt (Nat.div_le_self _ _) hn)]
theorem wb_shl (n : Nat) {k : Nat} (hk : k < 64) : lN n <<< ((nI k).toInt64 &&& 63) = lN (n * 2 ^ k) := by
  rw [wb_c k hk]
  apply wb_inj
  rw [Int64.toBitVec_shiftLeft, wb_tb, wb_tb, wb_tb, wb_sm k hk]
  apply BitVec.eq_of_toNat_eq
  rw [BitVec.shiftLeft_eq', BitVec.toNat_shiftLeft, BitVec.toNat_ofNat, BitVec.toNat_ofNat, BitVec.toNat_ofNat, Nat.mod_eq_of_lt (show k < 2 ^ 64 by omega), Nat.shiftLeft_eq, Nat.mul_mod, Nat.mod_mod, ← Nat.mul_mod]
theorem wb_and {a b : Nat} (ha : a < 2 ^ 64) (hb : b < 2 ^ 64) : lN a &&& lN b = lN (a &&& b) := by
  apply wb_inj
  rw [Int64.toBitVec_and, wb_tb, wb_tb, wb_tb]
  apply BitVec.eq_of_toNat_eq
  rw [BitVec.toNat_and, BitVec.toNat_ofNat, BitVec.toNat_ofNat, BitVec.toNat_ofNat, Nat.mod_eq_of_lt ha, Nat.mod_eq_of_lt hb, Nat.mod_eq_of_lt (Nat.and_lt_two_pow _ hb)]
theorem wb_or {a b : Nat} (ha : a < 2 ^ 64) (hb : b < 2 ^ 64) : lN a ||| lN b = lN (a ||| b) := by
  apply wb_inj
  rw [Int64.toBitVec_or, wb_tb, wb_tb, wb_tb]
  apply BitVec.eq_of_toNat_eq
  rw [BitVec.toNat_or, BitVec.toNat_ofNat, BitVec.toNat_ofNat, BitVec.toNat_ofNat, Nat.mod_eq_of_lt ha, Nat.mod_eq_of_lt hb, Nat.mod_eq_of_lt (Nat.or_lt_two_pow ha hb)]
theorem wb_mask {n k : Nat} (hn : n < 2 ^ 64) (hk : k < 64) : lN n &&& lN (2 ^ k - 1) = lN (n % 2 ^ k) := by
  rw [wb_and hn (by have := wb_lt2 hk; omega), Nat.and_two_pow_sub_one_eq_mod]
theorem wb_a1 {n : Nat} (hn : n < 2 ^ 64) : lN n &&& 1 = lN (n % 2) := wb_mask (k := 1) hn (by decide)
theorem wb_bit {n k : Nat} (hn : n < 2 ^ 64) (hk : k < 64) : ((lN n).toUInt64 >>> ((nI k).toInt64.toUInt64 &&& Int64.toUInt64 63)).toInt64 &&& 1 = lN (n / 2 ^ k % 2) := by
  rw [wb_shr hn hk, wb_a1 (Nat.lt_of_le_of_lt (Nat.div_le_self _ _) hn)]
theorem wb_xor {q k : Nat} (hk : k < 63) (h : 2 ^ k ≤ q) (h2 : q < 2 ^ (k + 1)) : lN q ^^^ lN (2 ^ k) = lN (q - 2 ^ k) := by
  obtain ⟨r, rfl⟩ : ∃ r, q = 2 ^ k + r := ⟨q - 2 ^ k, by omega⟩
  have hr : r < 2 ^ k := by rw [Nat.pow_succ] at h2; omega
  have hx : (2 ^ k + r) ^^^ 2 ^ k = r := by
    apply Nat.eq_of_testBit_eq
    intro i
    rw [Nat.testBit_xor, Nat.testBit_two_pow]
    rcases Nat.lt_trichotomy i k with h | h | h
    · rw [Nat.testBit_two_pow_add_gt h]
      simp [show ¬ k = i by omega]
    · subst h
      rw [Nat.testBit_two_pow_add_eq]
      simp
    · have a1 : 2 ^ (k + 1) ≤ 2 ^ i := Nat.pow_le_pow_right (by decide) h
      rw [Nat.testBit_lt_two_pow (show 2 ^ k + r < 2 ^ i by omega), Nat.testBit_lt_two_pow (show r < 2 ^ i by omega)]
      simp [show ¬ k = i by omega]
  have b1 := wb_lt2 (show k + 1 < 64 by omega)
  have b2 := wb_lt2 (show k < 64 by omega)
  apply wb_inj
  rw [Int64.toBitVec_xor, wb_tb, wb_tb, wb_tb]
  apply BitVec.eq_of_toNat_eq
  rw [BitVec.toNat_xor, BitVec.toNat_ofNat, BitVec.toNat_ofNat, BitVec.toNat_ofNat, Nat.mod_eq_of_lt (by omega : 2 ^ k + r < 2 ^ 64), Nat.mod_eq_of_lt b2, hx, Nat.add_sub_cancel_left, Nat.mod_eq_of_lt (by omega)]
/-! ===== lN: masks, 'or' of parts that don't overlap is a sum ===== -/
theorem u_tn {n : Nat} (h : n < 2 ^ 64) : (UInt64.ofNat n).toNat = n := Nat.mod_eq_of_lt h
theorem g_and {a b c : Nat} (ha : a < 2 ^ 64) (hb : b < 2 ^ 64) (hc : a &&& b = c) : lN a &&& lN b = lN c := by
  subst hc
  have h : UInt64.ofNat a &&& UInt64.ofNat b = UInt64.ofNat (a &&& b) := UInt64.toNat_inj.mp (by rw [UInt64.toNat_and, u_tn ha, u_tn hb, u_tn (Nat.and_lt_two_pow a hb)])
  have h2 := congrArg UInt64.toInt64 h
  exact h2
theorem g_and1 {a : Nat} (ha : a < 2 ^ 64) : lN a &&& 1 = lN (a % 2) := g_and (b := 1) ha (by decide) (Nat.and_two_pow_sub_one_eq_mod a 1)
theorem g_mask {a s p : Nat} (hp : 2 ^ s = p) (hs : s < 64) (ha : a < 2 ^ 64) : lN a &&& lN (p - 1) = lN (a % p) := by
  subst hp
  have := Nat.pow_lt_pow_right (show 1 < 2 by decide) hs
  exact g_and ha (by omega) (Nat.and_two_pow_sub_one_eq_mod a s)
theorem g_or {k p a b : Nat} (hp : 2 ^ k = p) (ha : a < p) (h : b * p + a < 2 ^ 64) : lN (b * p) ||| lN a = lN (b * p + a) := by
  subst hp
  have h1 : b * 2 ^ k ||| a = b * 2 ^ k + a := by rw [← Nat.shiftLeft_eq, Nat.shiftLeft_add_eq_or_of_lt ha]
  have h3 : UInt64.ofNat (b * 2 ^ k) ||| UInt64.ofNat a = UInt64.ofNat (b * 2 ^ k + a) := UInt64.toNat_inj.mp (by rw [UInt64.toNat_or, u_tn (by omega), u_tn (by omega), u_tn h, h1])
  have h2 := congrArg UInt64.toInt64 h3
  exact h2
theorem g_or' {k p a b : Nat} (hp : 2 ^ k = p) (ha : a < p) (h : a + b * p < 2 ^ 64) : lN a ||| lN (b * p) = lN (a + b * p) := by
  rw [Int64.or_comm, g_or hp ha (by omega), Nat.add_comm]
theorem g_ushr {a k p : Nat} {y : UInt64} (hy : y = UInt64.ofNat k) (hk : k < 64) (hp : 2 ^ k = p) (ha : a < 2 ^ 64) : ((lN a).toUInt64 >>> y).toInt64 = lN (a / p) := by
  subst hy hp
  have h : UInt64.ofNat a >>> UInt64.ofNat k = UInt64.ofNat (a / 2 ^ k) := UInt64.toNat_inj.mp (by rw [UInt64.toNat_shiftRight, u_tn ha, u_tn (by omega), u_tn (Nat.lt_of_le_of_lt (Nat.div_le_self _ _) ha), Nat.mod_eq_of_lt hk, Nat.shiftRight_eq_div_pow])
  have h2 := congrArg UInt64.toInt64 h
  exact h2
theorem g_shl {a k p : Nat} {y : Int64} (hy : y.toBitVec.smod 64 = BitVec.ofNat 64 k) (hk : k < 64) (hp : 2 ^ k = p) (ha : a < 2 ^ 64) : lN a <<< y = lN (a * p) := by
  subst hp
  apply Int64.toBitVec_inj.mp
  rw [Int64.toBitVec_shiftLeft, hy]
  apply BitVec.eq_of_toNat_eq
  have hb : (lN a).toBitVec.toNat = a := Nat.mod_eq_of_lt ha
  have hk' : (BitVec.ofNat 64 k).toNat = k := Nat.mod_eq_of_lt (by omega)
  have h : ((lN a).toBitVec <<< BitVec.ofNat 64 k).toNat = (a * 2 ^ k) % 2 ^ 64 := by simp only [BitVec.shiftLeft_eq', BitVec.toNat_shiftLeft, hb, hk', Nat.shiftLeft_eq]
  exact h
/-! ===== lN to 2^62 under >> and >>> ===== -/
theorem pf_lI {a : Nat} (h : a < 2 ^ 63) : (lN a).toInt = (a : Int) := lg_ofNat_toInt h
theorem pf_shr {a d : Nat} {D : Int64} (hD : (D.toBitVec.smod 64).toNat = d) (h : a < 2 ^ 62) : lN a >>> D = lN (a / 2 ^ d) := by
  have hd : a / 2 ^ d ≤ a := Nat.div_le_self _ _
  apply Int64.toInt_inj.mp
  have e : (lN a >>> D).toInt = (lN a).toInt >>> d := by
    rw [← hD]
    exact BitVec.toInt_sshiftRight ..
  rw [e, Int.shiftRight_eq_div_pow, pf_lI (by omega), pf_lI (by omega)]
  rfl
theorem pf_ushr {a d : Nat} {D : UInt64} (hD : D.toNat % 64 = d) (h : a < 2 ^ 62) : ((lN a).toUInt64 >>> D).toInt64 = lN (a / 2 ^ d) := by
  have hd : a / 2 ^ d ≤ a := Nat.div_le_self _ _
  have e : (lN a).toUInt64 >>> D = UInt64.ofNat (a / 2 ^ d) := UInt64.toNat_inj.mp (by
    rw [UInt64.toNat_shiftRight, hD, Nat.shiftRight_eq_div_pow, UInt64.toNat_ofNat']
    show (UInt64.ofNat a).toNat / 2 ^ d = _
    rw [UInt64.toNat_ofNat', Nat.mod_eq_of_lt (by omega), Nat.mod_eq_of_lt (by omega)])
  rw [e]
  rfl
theorem pf_andw (x : Int64) : ∃ m, m < 2 ^ 32 ∧ x &&& 4294967295 = lN m := ⟨x.toBitVec.toNat % 2 ^ 32, Nat.mod_lt _ (by decide), Int64.toBitVec_inj.mp (BitVec.eq_of_toNat_eq (by
  show (x.toBitVec &&& 4294967295#64).toNat = (BitVec.ofNat 64 (x.toBitVec.toNat % 2 ^ 32)).toNat
  rw [BitVec.toNat_and, show (4294967295#64).toNat = 2 ^ 32 - 1 from by decide, Nat.and_two_pow_sub_one_eq_mod, BitVec.toNat_ofNat]
  omega))⟩
/-! ===== Int64 as an unsigned number: uN x ===== -/
def uN (x : Int64) : Nat := x.toUInt64.toNat
theorem uN_lt (x : Int64) : uN x < 18446744073709551616 := x.toUInt64.toNat_lt
theorem uN_inj {x y : Int64} (h : uN x = uN y) : x = y := congrArg UInt64.toInt64 (UInt64.toNat_inj.mp h)
theorem uN_add (x y : Int64) : uN (x + y) = (uN x + uN y) % 18446744073709551616 := by
  show (x.toUInt64 + y.toUInt64).toNat = _
  exact UInt64.toNat_add _ _
theorem uN_mul (x y : Int64) : uN (x * y) = (uN x * uN y) % 18446744073709551616 := by
  show (x.toUInt64 * y.toUInt64).toNat = _
  exact UInt64.toNat_mul _ _
theorem uN_shl (x : Int64) : uN (x <<< ((1 : Int32).toInt64 &&& 63)) = (2 * uN x) % 18446744073709551616 := by
  have h : (((1 : Int32).toInt64 &&& 63).toBitVec.smod 64).toNat = 1 := by decide
  show (x.toBitVec <<< (((1 : Int32).toInt64 &&& 63).toBitVec.smod 64).toNat).toNat = _
  rw [h, BitVec.toNat_shiftLeft, Nat.shiftLeft_eq, Nat.mul_comm]
  rfl
theorem uN_shr (x : Int64) (s : UInt64) : uN (x.toUInt64 >>> s).toInt64 = uN x / 2 ^ (s.toNat % 64) := by
  show (x.toUInt64 >>> s).toNat = _
  rw [UInt64.toNat_shiftRight, Nat.shiftRight_eq_div_pow]
  rfl
theorem uN_s32 (x : Int64) : uN (x.toUInt64 >>> ((32 : Int32).toInt64.toUInt64 &&& Int64.toUInt64 63)).toInt64 = uN x / 4294967296 := by
  have h : ((32 : Int32).toInt64.toUInt64 &&& Int64.toUInt64 63).toNat % 64 = 32 := by decide
  rw [uN_shr, h]
theorem uN_s63 (x : Int64) : uN (x.toUInt64 >>> ((63 : Int32).toInt64.toUInt64 &&& Int64.toUInt64 63)).toInt64 = uN x / 9223372036854775808 := by
  have h : ((63 : Int32).toInt64.toUInt64 &&& Int64.toUInt64 63).toNat % 64 = 63 := by decide
  rw [uN_shr, h]
theorem uN_lo (x : Int64) : uN (x &&& 4294967295) = uN x % 4294967296 := by
  show (x.toUInt64 &&& Int64.toUInt64 4294967295).toNat = _
  rw [UInt64.toNat_and]
  exact Nat.and_two_pow_sub_one_eq_mod _ 32
theorem uN_bit (x : Int64) : (x &&& 1) = 0 ↔ uN x % 2 = 0 := by
  have h : uN (x &&& 1) = uN x % 2 := by
    show (x.toUInt64 &&& Int64.toUInt64 1).toNat = _
    rw [UInt64.toNat_and]
    exact Nat.and_two_pow_sub_one_eq_mod _ 1
  rw [← h]
  exact ⟨fun z => by rw [z]; rfl, fun z => uN_inj (z.trans rfl)⟩
theorem uN_or {x y : Int64} (hy : uN y < 2) : uN ((x <<< ((1 : Int32).toInt64 &&& 63)) ||| y) = (2 * uN x) % 18446744073709551616 + uN y := by
  have h1 : uN ((x <<< ((1 : Int32).toInt64 &&& 63)) ||| y) = uN (x <<< ((1 : Int32).toInt64 &&& 63)) ||| uN y := UInt64.toNat_or _ _
  have h2 : (2 * uN x) % 18446744073709551616 = 2 ^ 1 * (uN x % 9223372036854775808) := by omega
  rw [h1, uN_shl, h2]
  exact (Nat.two_pow_add_eq_or_of_lt (i := 1) hy _).symm
theorem nat_xor {a : Nat} (h : a < 18446744073709551616) : a ^^^ 2 ^ 63 = (a + 9223372036854775808) % 18446744073709551616 := by
  have h1 : (a ^^^ 2 ^ 63) % 2 ^ 63 = a % 2 ^ 63 := by rw [Nat.xor_mod_two_pow, Nat.mod_self, Nat.xor_zero]
  have h2 : (a ^^^ 2 ^ 63) / 2 ^ 63 = (a / 2 ^ 63) ^^^ 1 := by rw [Nat.xor_div_two_pow, Nat.div_self (Nat.two_pow_pos 63)]
  have h3 : a / 2 ^ 63 = 0 ∨ a / 2 ^ 63 = 1 := by omega
  generalize a ^^^ 2 ^ 63 = t at h1 h2
  rcases h3 with h3 | h3
  · rw [h3] at h2
    have h2 : t / 2 ^ 63 = 1 := h2
    omega
  · rw [h3] at h2
    have h2 : t / 2 ^ 63 = 0 := h2
    omega
theorem uN_xor (x : Int64) : uN (x ^^^ (-9223372036854775808)) = (uN x + 9223372036854775808) % 18446744073709551616 := by
  rw [← nat_xor (uN_lt x)]
  exact UInt64.toNat_xor _ _
theorem uN_int (x : Int64) : x.toInt = if 2 * uN x < 18446744073709551616 then (uN x : Int) else (uN x : Int) - 18446744073709551616 := BitVec.toInt_eq_toNat_cond _
theorem uN_le (x y : Int64) : (x ^^^ (-9223372036854775808)) ≤ (y ^^^ (-9223372036854775808)) ↔ uN x ≤ uN y := by
  have hx := uN_lt x
  have hy := uN_lt y
  rw [Int64.le_iff_toInt_le, uN_int, uN_int, uN_xor, uN_xor]
  omega
theorem uN_sk (x : Int64) {k : Nat} (hk : k < 64) : uN (x.toUInt64 >>> ((nI k).toInt64.toUInt64 &&& Int64.toUInt64 63)).toInt64 = uN x / 2 ^ k := by
  have h : ((nI k).toInt64.toUInt64 &&& Int64.toUInt64 63).toNat % 64 = k := by
    rw [nI_l (by omega), UInt64.toNat_and]
    have e : (lN k).toUInt64.toNat = k % 2 ^ 64 := rfl
    have e2 : (Int64.toUInt64 63).toNat = 2 ^ 6 - 1 := by decide
    rw [e, e2, Nat.and_two_pow_sub_one_eq_mod]
    omega
  rw [uN_shr, h]
/-! ===== unsigned comparison by xor with the least ===== -/
theorem lN_bv (n : Nat) : (lN n).toBitVec = BitVec.ofNat 64 n := rfl
theorem lN_nat {n : Nat} (h : n < 2 ^ 64) : (lN n).toBitVec.toNat = n := by rw [lN_bv, BitVec.toNat_ofNat]; exact Nat.mod_eq_of_lt h
theorem lN_xor (a b : Nat) : lN a ^^^ lN b = lN (a ^^^ b) := by
  apply Int64.toBitVec_inj.mp; rw [Int64.toBitVec_xor, lN_bv, lN_bv, lN_bv]; apply BitVec.eq_of_getLsbD_eq; intro i hi; simp [BitVec.getLsbD_ofNat, Nat.testBit_xor, hi]
theorem lN_ti {m : Nat} (h : m < 2 ^ 64) : (lN m).toInt = if m < 2 ^ 63 then (m : Int) else (m : Int) - 2 ^ 64 := by
  have c := BitVec.toInt_eq_toNat_cond (lN m).toBitVec
  rw [lN_nat h] at c
  show (lN m).toBitVec.toInt = _
  rw [c]
  split <;> split <;> omega
theorem xor63 {x : Nat} (h : x < 2 ^ 63) : x ^^^ 2 ^ 63 = 2 ^ 63 + x := by
  apply Nat.eq_of_testBit_eq
  intro i
  rw [Nat.testBit_xor, Nat.testBit_two_pow]
  rcases Nat.lt_trichotomy i 63 with z | z | z
  · rw [Nat.testBit_two_pow_add_gt z, decide_eq_false (by omega)]; simp
  · subst z; rw [Nat.testBit_two_pow_add_eq]; simp
  · have hp : 2 ^ 64 ≤ 2 ^ i := Nat.pow_le_pow_right (by decide) z
    rw [Nat.testBit_lt_two_pow (show x < 2 ^ i by omega), Nat.testBit_lt_two_pow (show 2 ^ 63 + x < 2 ^ i by omega), decide_eq_false (by omega)]; rfl
theorem xorS {a : Nat} (h : a < 2 ^ 64) : (lN a ^^^ (-9223372036854775808)).toInt = (a : Int) - 2 ^ 63 := by
  rw [show (-9223372036854775808 : Int64) = lN (2 ^ 63) from by decide +kernel, lN_xor]
  rcases Nat.lt_or_ge a (2 ^ 63) with z | z
  · rw [xor63 z, lN_ti (by omega), if_neg (by omega)]; omega
  · obtain ⟨x, rfl⟩ : ∃ x, a = 2 ^ 63 + x := ⟨a - 2 ^ 63, by omega⟩
    rw [← xor63 (by omega), Nat.xor_assoc, Nat.xor_self, Nat.xor_zero, lN_ti (by omega), if_pos (by omega), xor63 (by omega)]; omega
theorem ultL {a b : Nat} (ha : a < 2 ^ 64) (hb : b < 2 ^ 64) : ((lN b ^^^ (-9223372036854775808)) ≤ (lN a ^^^ (-9223372036854775808))) ↔ b ≤ a := by
  rw [Int64.le_iff_toInt_le, xorS ha, xorS hb]; omega
/-! ===== Int64 masks of n low bits ===== -/
theorem cr_bits (W U M : BitVec 64) : ((W &&& U) &&& (U &&& (M ^^^ BitVec.allOnes 64))) = 0#64 ↔ (W &&& U) &&& M = W &&& U := by
  constructor
  · intro h
    apply BitVec.eq_of_getLsbD_eq
    intro i hi
    have e := congrArg (fun x => BitVec.getLsbD x i) h
    simp only [BitVec.getLsbD_and, BitVec.getLsbD_xor, BitVec.getLsbD_allOnes, BitVec.getLsbD_zero, hi, decide_true] at e ⊢
    revert e
    cases W.getLsbD i <;> cases U.getLsbD i <;> cases M.getLsbD i <;> decide
  · intro h
    apply BitVec.eq_of_getLsbD_eq
    intro i hi
    have e := congrArg (fun x => BitVec.getLsbD x i) h
    simp only [BitVec.getLsbD_and, BitVec.getLsbD_xor, BitVec.getLsbD_allOnes, BitVec.getLsbD_zero, hi, decide_true] at e ⊢
    revert e
    cases W.getLsbD i <;> cases U.getLsbD i <;> cases M.getLsbD i <;> decide
theorem cr_mask (w U m : Int64) (n : Nat) (hm : m.toBitVec.toNat = 2 ^ n - 1) : ((w &&& U) &&& (U &&& (m ^^^ (-1)))) = 0 ↔ (w &&& U).toBitVec.toNat < 2 ^ n := by
  have e0 : (-1 : Int64).toBitVec = BitVec.allOnes 64 := by decide
  have z0 : (0 : Int64).toBitVec = 0#64 := by decide
  rw [← Int64.toBitVec_inj, z0, Int64.toBitVec_and, Int64.toBitVec_and, Int64.toBitVec_and, Int64.toBitVec_xor, e0, cr_bits]
  generalize w.toBitVec &&& U.toBitVec = T
  rw [← BitVec.toNat_inj, BitVec.toNat_and, hm, Nat.and_two_pow_sub_one_eq_mod]
  constructor
  · intro h
    have t := Nat.mod_lt T.toNat (Nat.two_pow_pos n)
    rw [h] at t
    exact t
  · exact Nat.mod_eq_of_lt
theorem cr_shr (t : Int64) (x : UInt64) (n : Nat) (hx : x.toNat % 64 = n) : (t.toUInt64 >>> x).toInt64 = 0 ↔ t.toBitVec.toNat < 2 ^ n := by
  rw [← Int64.toBitVec_inj, ← BitVec.toNat_inj]
  show (t.toUInt64 >>> x).toNat = 0 ↔ t.toUInt64.toNat < 2 ^ n
  rw [UInt64.toNat_shiftRight, hx, Nat.shiftRight_eq_div_pow]
  constructor
  · intro h
    have d : t.toUInt64.toNat / 2 ^ n < 1 := by
      rw [h]
      decide
    have e := (Nat.div_lt_iff_lt_mul (Nat.two_pow_pos n)).mp d
    rw [Nat.one_mul] at e
    exact e
  · exact Nat.div_eq_of_lt
theorem cr_amt (s : Int64) : ∃ n, n < 64 ∧ s &&& 63 = lN n ∧ (s.toUInt64 &&& Int64.toUInt64 63).toNat % 64 = n := by
  have e : (s.toUInt64 &&& Int64.toUInt64 63).toNat = s.toUInt64.toNat % 2 ^ 6 := by
    rw [UInt64.toNat_and, show (Int64.toUInt64 63).toNat = 2 ^ 6 - 1 from by decide, Nat.and_two_pow_sub_one_eq_mod]
  refine ⟨s.toUInt64.toNat % 2 ^ 6, by omega, ?_, by omega⟩
  rw [← Int64.toBitVec_inj, ← BitVec.toNat_inj]
  show (s.toUInt64 &&& Int64.toUInt64 63).toNat = (BitVec.ofNat 64 (s.toUInt64.toNat % 2 ^ 6)).toNat
  rw [e, BitVec.toNat_ofNat]
  omega
end
section
/-! ===== sets of places as numbers below 4096 ===== -/
def zmk (f : Nat → Bool) : Nat → Nat
  | 0 => 0
  | n + 1 => zmk f n ||| (if f n then 2 ^ n else 0)
theorem zmk_bit (f : Nat → Bool) : ∀ (n p : Nat), (zmk f n).testBit p = (decide (p < n) && f p) := by
  intro n
  induction n with
  | zero => intro p; simp [zmk]
  | succ n ih =>
    intro p
    rw [zmk, Nat.testBit_or, ih]
    by_cases hp : p = n
    · subst hp
      cases hf : f p <;> simp
    · have : (if f n then 2 ^ n else 0).testBit p = false := by
        cases f n with
        | true => simp [Nat.testBit_two_pow]; omega
        | false => simp
      rw [this, Bool.or_false]
      congr 1
      simp only [decide_eq_decide]
      omega
theorem zmk_lt (f : Nat → Bool) : ∀ n, zmk f n < 2 ^ n := by
  intro n
  induction n with
  | zero => simp [zmk]
  | succ n ih =>
    rw [zmk]
    apply Nat.or_lt_two_pow
    · exact Nat.lt_of_lt_of_le ih (Nat.pow_le_pow_right (by decide) (by omega))
    · cases f n with
      | true => simpa using Nat.pow_lt_pow_right (a := 2) (by decide) (Nat.lt_succ_self n)
      | false => simpa using Nat.two_pow_pos (n + 1)
theorem zmk_congr {f g : Nat → Bool} : ∀ {n : Nat}, (∀ p, p < n → f p = g p) → zmk f n = zmk g n := by
  intro n
  induction n with
  | zero => intro _; rfl
  | succ n ih =>
    intro h
    rw [zmk, zmk, ih (fun p hp => h p (by omega)), h n (by omega)]
theorem zms_lt (f : Nat → Bool) : zmk f 12 < 4096 := zmk_lt f 12
theorem zms_bit (f : Nat → Bool) {p : Nat} (hp : p < 12) : (zmk f 12).testBit p = f p := by rw [zmk_bit]; simp [hp]
theorem zhi {S p : Nat} (hS : S < 4096) (hp : 12 ≤ p) : S.testBit p = false := Nat.testBit_lt_two_pow (Nat.lt_of_lt_of_le hS (show 2 ^ 12 ≤ 2 ^ p from Nat.pow_le_pow_right (by decide) hp))
theorem zs_ext {S T : Nat} (hS : S < 4096) (hT : T < 4096) (h : ∀ p, p < 12 → S.testBit p = T.testBit p) : S = T := by
  apply Nat.eq_of_testBit_eq
  intro p
  rcases Nat.lt_or_ge p 12 with q | q
  · exact h p q
  · rw [zhi hS q, zhi hT q]
/-- S without T -/
def zsd (S T : Nat) : Nat := S &&& (T ^^^ 4095)
theorem z4095 (p : Nat) : (4095 : Nat).testBit p = decide (p < 12) := by
  rw [show (4095 : Nat) = 2 ^ 12 - 1 from rfl, Nat.testBit_two_pow_sub_one]
theorem zsd_bit {S T p : Nat} (hS : S < 4096) : (zsd S T).testBit p = (S.testBit p && !T.testBit p) := by
  unfold zsd
  rw [Nat.testBit_and, Nat.testBit_xor, z4095]
  rcases Nat.lt_or_ge p 12 with q | q
  · simp [q]
  · rw [zhi hS q]; simp
theorem zsd_lt {S T : Nat} (hS : S < 4096) : zsd S T < 4096 := Nat.lt_of_le_of_lt Nat.and_le_left hS
theorem zand_lt {S T : Nat} (hS : S < 4096) : S &&& T < 4096 := Nat.lt_of_le_of_lt Nat.and_le_left hS
theorem zor_lt {S T : Nat} (hS : S < 4096) (hT : T < 4096) : S ||| T < 4096 := Nat.or_lt_two_pow (n := 12) hS hT
theorem zxor_lt {S T : Nat} (hS : S < 4096) (hT : T < 4096) : S ^^^ T < 4096 := Nat.xor_lt_two_pow (n := 12) hS hT
theorem zp_lt {p : Nat} (hp : p < 12) : 2 ^ p < 4096 := Nat.pow_lt_pow_right (a := 2) (by decide) hp
theorem zp_bit (p q : Nat) : (2 ^ p).testBit q = decide (p = q) := Nat.testBit_two_pow
/-- S lies in T -/
def zle (S T : Nat) : Prop := ∀ p, S.testBit p = true → T.testBit p = true
theorem zle_rf (S : Nat) : zle S S := fun _ h => h
theorem zle_tr {S T U : Nat} (h : zle S T) (h2 : zle T U) : zle S U := fun p q => h2 p (h p q)
theorem zsd_le {S T : Nat} (hS : S < 4096) : zle (zsd S T) S := fun p h => by rw [zsd_bit hS] at h; simp at h; exact h.1
theorem zle_and {S T : Nat} (h : zle S T) : S &&& T = S := by
  apply Nat.eq_of_testBit_eq
  intro p
  rw [Nat.testBit_and]
  rcases hp : S.testBit p with _ | _
  · rfl
  · rw [h p hp]; rfl
theorem zle_le {S T : Nat} (h : zle S T) : S ≤ T := by
  rw [← zle_and h]
  exact Nat.and_le_right
theorem zle_lt {S T : Nat} (h : zle S T) (hT : T < 4096) : S < 4096 := Nat.lt_of_le_of_lt (zle_le h) hT
theorem zle_as {S T : Nat} (h : zle S T) (h2 : zle T S) : S = T := by
  apply Nat.eq_of_testBit_eq
  intro p
  rcases hp : S.testBit p with _ | _
  · rcases hq : T.testBit p with _ | _
    · rfl
    · exact absurd (h2 p hq) (by rw [hp]; decide)
  · exact (h p hp).symm
/-- how many places -/
def zpc (S : Nat) : Nat := fb_ct (fun p => S.testBit p) 12
theorem zpc_le (S : Nat) : zpc S ≤ 12 := fb_ct_le _ 12
theorem zpc_mono {S T : Nat} (h : zle S T) : zpc S ≤ zpc T := fb_ct_sub (fun k _ q => h k q)
theorem zpc_0 : zpc 0 = 0 := by decide
theorem zpc_eq0 {S : Nat} (hS : S < 4096) : zpc S = 0 ↔ S = 0 := by
  unfold zpc
  rw [fb_ct_zero]
  constructor
  · intro h
    exact zs_ext hS (by decide) (fun p hp => by rw [h p hp]; simp)
  · intro h k _
    rw [h]; simp
theorem zpc_lt {S T : Nat} (h : zle S T) (hS : S < 4096) (hT : T < 4096) (hn : S ≠ T) : zpc S < zpc T := by
  have hu : fb_ct (fun p => S.testBit p || (zsd T S).testBit p) 12 = zpc S + zpc (zsd T S) := fb_ct_or (fun k _ q => by
    obtain ⟨q1, q2⟩ := q
    rw [zsd_bit hT] at q2
    simp [q1] at q2)
  have e : fb_ct (fun p => S.testBit p || (zsd T S).testBit p) 12 = zpc T := fb_ct_cong (fun k hk => by
    show (S.testBit k || (zsd T S).testBit k) = T.testBit k
    rw [zsd_bit hT]
    rcases hp : S.testBit k with _ | _
    · simp
    · simp [h k hp])
  have hd : zpc (zsd T S) ≠ 0 := by
    rw [Ne, zpc_eq0 (zsd_lt hT)]
    intro q
    apply hn
    apply zle_as h
    intro p hp
    rcases hs : S.testBit p with _ | _
    · have : (zsd T S).testBit p = true := by rw [zsd_bit hT, hp, hs]; rfl
      rw [q] at this
      simp at this
    · rfl
  omega
theorem zpc_sub {S T : Nat} (h : zle S T) (hT : T < 4096) : zpc T = zpc S + zpc (zsd T S) := by
  have hu : fb_ct (fun p => S.testBit p || (zsd T S).testBit p) 12 = zpc S + zpc (zsd T S) := fb_ct_or (fun k _ q => by
    obtain ⟨q1, q2⟩ := q
    rw [zsd_bit hT] at q2
    simp [q1] at q2)
  have e : fb_ct (fun p => S.testBit p || (zsd T S).testBit p) 12 = zpc T := fb_ct_cong (fun k hk => by
    show (S.testBit k || (zsd T S).testBit k) = T.testBit k
    rw [zsd_bit hT]
    rcases hp : S.testBit k with _ | _
    · simp
    · simp [h k hp])
  omega
/-! ===== and as ints ===== -/
theorem zi_sh {p : Nat} (hp : p < 12) : (1 : Int32) <<< (nI p &&& 31) = nI (2 ^ p) := by
  have : ∀ p, p < 12 → (1 : Int32) <<< (nI p &&& 31) = nI (2 ^ p) := by decide
  exact this p hp
theorem zi_m1 : (-1 : Int32) = nI 4294967295 := by decide
theorem zi_not {S T : Nat} (hS : S < 4096) : nI S &&& (nI T ^^^ (-1)) = nI (zsd S T) := by
  rw [zi_m1, fb_xorI, fa_and]
  congr 1
  apply Nat.eq_of_testBit_eq
  intro p
  unfold zsd
  rw [Nat.testBit_and, Nat.testBit_and, Nat.testBit_xor, Nat.testBit_xor, z4095, show (4294967295 : Nat) = 2 ^ 32 - 1 from rfl, Nat.testBit_two_pow_sub_one]
  rcases Nat.lt_or_ge p 12 with q | q
  · simp [q, show p < 32 by omega]
  · rw [zhi hS q]; simp
theorem zi_and (S T : Nat) : nI S &&& nI T = nI (S &&& T) := fa_and S T
theorem zi_or (S T : Nat) : nI S ||| nI T = nI (S ||| T) := fa_or S T
theorem zi_bt {m i : Nat} (hi : i < 32) : bt (nI m) i = m.testBit i := by
  show (BitVec.ofNat 32 m).getLsbD i = _
  rw [BitVec.getLsbD_ofNat]
  simp [hi]
theorem zi_shr {S p : Nat} (hS : S < 2 ^ 31) (hp : p < 32) : nI S >>> (nI p &&& 31) = nI (S >>> p) := by
  apply b_ext
  intro i hi
  rw [b_sshr p hp _ hi, zi_bt hi, Nat.testBit_shiftRight]
  by_cases h : p + i < 32
  · rw [if_pos h, zi_bt h]
  · rw [if_neg h, zi_bt (by decide)]
    rw [Nat.testBit_lt_two_pow hS, Nat.testBit_lt_two_pow (Nat.lt_of_lt_of_le hS (Nat.pow_le_pow_right (by decide) (by omega)))]
theorem zi_1 : (1 : Int32) = nI 1 := by decide
theorem zi_0 : (0 : Int32) = nI 0 := by decide
theorem zi_inj {a b : Nat} (ha : a < 4096) (hb : b < 4096) : nI a = nI b ↔ a = b := nI_eq (by omega) (by omega)
theorem zi_bit {S p : Nat} (hS : S < 4096) (hp : p < 32) : (nI S >>> (nI p &&& 31)) &&& 1 = zb (S.testBit p = true) := by
  rw [zi_shr (by omega) hp, zi_1, fa_and]
  have e : S >>> p &&& 1 = if S.testBit p = true then 1 else 0 := by
    rw [Nat.and_one_is_mod, Nat.shiftRight_eq_div_pow, Nat.testBit_eq_decide_div_mod_eq]
    rcases Nat.mod_two_eq_zero_or_one (S / 2 ^ p) with q | q <;> rw [q] <;> simp
  rw [e]
  unfold zb
  by_cases h : S.testBit p = true
  · rw [if_pos h, if_pos h]; rfl
  · rw [if_neg h, if_neg h]; rfl
theorem zi_band {S p : Nat} (hp : p < 12) : nI S &&& nI (2 ^ p) = 0 ↔ S.testBit p = false := fa_bit (by omega)
end
section
/-! ===== what the small methods answer, as functions of ints ===== -/
abbrev hasI (s p : Int32) : Prop := (s >>> (p &&& 31)) &&& 1 = 1
theorem zi_and1 (y : Int32) : y &&& 1 = 0 ∨ y &&& 1 = 1 := by
  obtain ⟨n, -, rfl⟩ := wb_of32 y
  rw [zi_1, fa_and, Nat.and_one_is_mod]
  rcases Nat.mod_two_eq_zero_or_one n with q | q <;> rw [q]
  · exact Or.inl rfl
  · exact Or.inr rfl
theorem hasI_0 {s p : Int32} : (s >>> (p &&& 31)) &&& 1 = 0 ↔ ¬ hasI s p := by
  unfold hasI
  rcases zi_and1 (s >>> (p &&& 31)) with q | q <;> rw [q] <;> decide
theorem hasI_iff {S p : Nat} (hS : S < 4096) (hp : p < 32) : hasI (nI S) (nI p) ↔ S.testBit p = true := by
  unfold hasI
  rw [zi_bit hS hp, zb_eq1]
def zmax (a b : Int32) : Int32 := if a ≤ b then b else a
/-- the sum of the low twelve bits -/
def bitsN (x : Int32) : Nat → Int32
  | 0 => 0
  | n + 1 => bitsN x n + ((x >>> (nI n &&& 31)) &&& 1)
def bitsI (x : Int32) : Int32 := bitsN x 12
theorem bitsN_nI {S : Nat} (hS : S < 4096) : ∀ n, n ≤ 12 → bitsN (nI S) n = nI (fb_ct (fun p => S.testBit p) n) := by
  intro n
  induction n with
  | zero => intro _; rfl
  | succ n ih =>
    intro h
    rw [bitsN, ih (by omega), zi_bit hS (by omega), fb_ct_succ, ← nI_add]
    congr 1
    unfold zb
    by_cases q : S.testBit n = true
    · rw [if_pos q, if_pos q]; rfl
    · rw [if_neg q, if_neg q]; rfl
theorem bitsI_nI {S : Nat} (hS : S < 4096) : bitsI (nI S) = nI (zpc S) := bitsN_nI hS 12 (Nat.le_refl _)
def dbI (c : Int32) : Int32 := if c = 115 then 4 else if c = 120 ∨ c = 112 then 2 else 0
def costI (k f : Int32) : Int32 := if k = 1 then 2 + f else if k = 2 then 5 else if k = 3 then 1 else if k = 4 then 5 + f else if k = 5 then 4 + 2 * f else if k = 6 then 2 else if k = 7 then 1 else 2
def noteI (w l : Int32) : Int32 := (7 * w + 3 * l) - (7 * w + 3 * l) / 50 * 50
def kindI (h : ZH) (p : Int32) : Int32 := h.1 30 0 (2 + 2 * p).toNatClampNeg
def figI (h : ZH) (p : Int32) : Int32 := h.1 30 0 (2 + 2 * p + 1).toNatClampNeg
def wgtI (k f : Int32) : Int32 := if k = 1 ∨ k = 5 then 5 + f else if k = 2 then 1 + f else if k = 3 then 1 else if k = 4 then 1 + 2 * f else if k = 6 then 2 + 2 * f else if k = 7 then 0 else 2 + f
def brsI (k f : Int32) : Int32 := if k = 1 then 40 else if k = 5 then 40 - f else if k = 2 then 12 else if k = 4 then 12 + f else if k = 3 then 3 else if k = 6 then 6 else if k = 7 then 0 else 20
abbrev lightK (k : Int32) : Prop := k = 3 ∨ k = 7
abbrev archK (k : Int32) : Prop := k = 2 ∨ k = 4
abbrev atI (s r c : Int32) : Prop := (0 ≤ c ∧ c ≤ 3) ∧ hasI s (4 * r + c)
abbrev divI (p : Int32) : Int32 := p / 4
abbrev modI (p : Int32) : Int32 := p - p / 4 * 4
abbrev leftI (s p : Int32) : Prop := atI s (divI p - 1) (modI p - 1)
abbrev rightI (s p : Int32) : Prop := atI s (divI p - 1) (modI p + 1)
abbrev clingI (h : ZH) (s p : Int32) : Prop := (atI s (divI p) (modI p - 1) ∧ ¬ lightK (kindI h (p - 1))) ∨ (atI s (divI p) (modI p + 1) ∧ ¬ lightK (kindI h (p + 1)))
abbrev heldI (h : ZH) (s p : Int32) : Prop := (p < 4 ∨ hasI (h.1 30 0 1) p ∨ hasI s (p - 4)) ∨ (if archK (kindI h p) then leftI s p ∧ rightI s p else if kindI h p = 6 then leftI s p ∨ rightI s p else lightK (kindI h p) ∧ clingI h s p)
theorem vp_12 {p : Int32} (h : vp_in p 12) : ∃ n : Nat, n < 12 ∧ p = nI n := vp_in_of h (by decide)
theorem vp_s2 {p : Int32} (h : vp_in p 12) : vp_in (2 + 2 * p) 26 := by
  obtain ⟨n, hn, rfl⟩ := vp_12 h
  have : ∀ n, n < 12 → (decide (2 + 2 * nI n < 0) || decide (26 ≤ (2 + 2 * nI n).toNatClampNeg)) = false := by decide
  exact zvp_dec (this n hn)
theorem vp_s3 {p : Int32} (h : vp_in p 12) : vp_in (2 + 2 * p + 1) 26 := by
  obtain ⟨n, hn, rfl⟩ := vp_12 h
  have : ∀ n, n < 12 → (decide (2 + 2 * nI n + 1 < 0) || decide (26 ≤ (2 + 2 * nI n + 1).toNatClampNeg)) = false := by decide
  exact zvp_dec (this n hn)
theorem vp_l {p : Int32} (h : vp_in p 12) (hc : 0 ≤ modI p - 1) : vp_in (p - 1) 12 := by
  obtain ⟨n, hn, rfl⟩ := vp_12 h
  have : ∀ n, n < 12 → 0 ≤ modI (nI n) - 1 → (decide (nI n - 1 < 0) || decide (12 ≤ (nI n - 1).toNatClampNeg)) = false := by decide
  exact zvp_dec (this n hn hc)
theorem vp_r {p : Int32} (h : vp_in p 12) (hc : modI p + 1 ≤ 3) : vp_in (p + 1) 12 := by
  obtain ⟨n, hn, rfl⟩ := vp_12 h
  have : ∀ n, n < 12 → modI (nI n) + 1 ≤ 3 → (decide (nI n + 1 < 0) || decide (12 ≤ (nI n + 1).toNatClampNeg)) = false := by decide
  exact zvp_dec (this n hn hc)
theorem vp_of8 {d : Int32} (h1 : ¬ d < 0) (h2 : ¬ 8 ≤ d) : vp_in d 8 := by
  rw [vp_in_iff]
  have h3 := (Int32.not_lt.mp h1)
  have h4 := (Int32.not_le.mp h2)
  rw [Int32.le_iff_toInt_le] at h3
  rw [Int32.lt_iff_toInt_lt] at h4
  exact ⟨h3, h4⟩
theorem vp_of12 {d : Int32} (h1 : ¬ d < 0) (h2 : ¬ 12 ≤ d) : vp_in d 12 := by
  rw [vp_in_iff]
  have h3 := (Int32.not_lt.mp h1)
  have h4 := (Int32.not_le.mp h2)
  rw [Int32.le_iff_toInt_le] at h3
  rw [Int32.lt_iff_toInt_lt] at h4
  exact ⟨h3, h4⟩
theorem ile_nlt {a b : Int32} : b ≤ a ↔ ¬ a < b := Int32.not_lt.symm
end
section
/-! ===== Math.max, Math.min ===== -/
def zMX (own : String) (index : Nat) : Prop := Cond.methodLink own index Lib.Math.max.name ∈ zall ∧ Cond.static Lib.Math.max.name ∈ zall ∧ Cond.initialized "java/lang/Math" ∈ zall ∧ Cond.code Lib.Math.max.name Lib.Math.max.code 2 (some .int) ∈ zall
def zMN (own : String) (index : Nat) : Prop := Cond.methodLink own index Lib.Math.min.name ∈ zall ∧ Cond.static Lib.Math.min.name ∈ zall ∧ Cond.initialized "java/lang/Math" ∈ zall ∧ Cond.code Lib.Math.min.name Lib.Math.min.code 2 (some .int) ∈ zall
def zmx (x y : Int32) : Int32 := if x < y then y else x
def zmn (x y : Int32) : Int32 := if y < x then y else x
theorem zt_mmax {G : ZG} {d : Nat} {M : ZM} {pc pc' : Nat} {L S : List ZV} {h : ZH} {Q : Option ZV → ZH → Prop} {index : Nat} {x y : Int32} (hd : zD M.2.1 pc pc' (.invokestatic index) 3) (ha : zMX M.1.cls index) (hS4 : S.length ≤ 2) (kk : zT G (d + 1) M pc' L (zi (zmx x y) :: S) h Q) : zT G (d + 1) M pc L (zi y :: zi x :: S) h Q := by
  obtain ⟨hd, rfl⟩ := hd
  intro p e s m args below meth c H locs ls hX hS hW hL
  obtain ⟨hx, hb, hml, hr, hts, hown, hlk, hK, hSt⟩ := id hX
  obtain ⟨w1, w2, w3, w4⟩ := ha
  have h6 := zc_sum G S (by omega)
  exact va_mmax hx hb (hml.trans hL.1.symm) hown (hts _ w1) (hts _ w2) (hts _ w3) (hts _ w4) (by show 1 ≤ d + 1; omega) (by show _ ≤ 48 * (d + 1); omega) (Nat.le_refl _) (Nat.le_refl _) hd (kk p e s m args below meth c H locs ls hX hS hW hL)
theorem zt_mmin {G : ZG} {d : Nat} {M : ZM} {pc pc' : Nat} {L S : List ZV} {h : ZH} {Q : Option ZV → ZH → Prop} {index : Nat} {x y : Int32} (hd : zD M.2.1 pc pc' (.invokestatic index) 3) (ha : zMN M.1.cls index) (hS4 : S.length ≤ 2) (kk : zT G (d + 1) M pc' L (zi (zmn x y) :: S) h Q) : zT G (d + 1) M pc L (zi y :: zi x :: S) h Q := by
  obtain ⟨hd, rfl⟩ := hd
  intro p e s m args below meth c H locs ls hX hS hW hL
  obtain ⟨hx, hb, hml, hr, hts, hown, hlk, hK, hSt⟩ := id hX
  obtain ⟨w1, w2, w3, w4⟩ := ha
  have h6 := zc_sum G S (by omega)
  exact va_mmin hx hb (hml.trans hL.1.symm) hown (hts _ w1) (hts _ w2) (hts _ w3) (hts _ w4) (by show 1 ≤ d + 1; omega) (by show _ ≤ 48 * (d + 1); omega) (Nat.le_refl _) (Nat.le_refl _) hd (kk p e s m args below meth c H locs ls hX hS hW hL)
theorem qRX11_213 : zMN RX11 213 := ⟨wmk 640 (by decide +kernel) rfl, wmk 641 (by decide +kernel) rfl, wmk 17 (by decide +kernel) rfl, wmk 642 (by decide +kernel) rfl⟩
theorem qRX11_219 : zMX RX11 219 := ⟨wmk 643 (by decide +kernel) rfl, wmk 535 (by decide +kernel) rfl, wmk 17 (by decide +kernel) rfl, wmk 536 (by decide +kernel) rfl⟩
theorem qRX3_86 : zMX RX3 86 := ⟨wmk 534 (by decide +kernel) rfl, wmk 535 (by decide +kernel) rfl, wmk 17 (by decide +kernel) rfl, wmk 536 (by decide +kernel) rfl⟩
end
section
theorem sX12_isIn {G : ZG} (d : Nat) {h : ZH} {x0 : Int32} {x1 : Int32} {x2 : Int32}   : zC G (d + 1) mX12_isIn [zi x0, zi x1, zi x2] h (fun r h' => r = some (zi (zb (x1 ≤ x0 ∧ x0 ≤ x2))) ∧ h' = h) := by
  refine zC_of (by decide +kernel) (Nat.le_of_ble_eq_true rfl) (L := [zi x0, zi x1, zi x2]) ⟨rfl, ⟨rfl, ⟨rfl, trivial⟩⟩⟩ ?_
  refine wX12_isIn_0  ?_
  refine ⟨fun c => ⟨?_, rfl⟩, fun c => ⟨fun c2 => ⟨?_, rfl⟩, fun c2 => ⟨?_, rfl⟩⟩⟩
  · rw [zb_f (fun q => Int32.not_le.mpr c q.1)]
  · rw [zb_f (fun q => Int32.not_le.mpr c2 q.2)]
  · rw [zb_t ⟨Int32.not_lt.mp c, Int32.not_lt.mp c2⟩]

theorem sX12_most {G : ZG} (d : Nat) {h : ZH} {x0 : Int32} {x1 : Int32}   : zC G (d + 1) mX12_most [zi x0, zi x1] h (fun r h' => r = some (zi (zmax x0 x1)) ∧ h' = h) := by
  refine zC_of (by decide +kernel) (Nat.le_of_ble_eq_true rfl) (L := [zi x0, zi x1]) ⟨rfl, ⟨rfl, trivial⟩⟩ ?_
  refine wX12_most_0  ?_
  refine ⟨fun c => ⟨?_, rfl⟩, fun c => ⟨?_, rfl⟩⟩
  · unfold zmax; rw [if_pos c]
  · unfold zmax; rw [if_neg c]

theorem sX12_has {G : ZG} (d : Nat) {h : ZH} {x0 : Int32} {x1 : Int32}   : zC G (d + 1) mX12_has [zi x0, zi x1] h (fun r h' => r = some (zi (zb (hasI x0 x1))) ∧ h' = h) := by
  refine zC_of (by decide +kernel) (Nat.le_of_ble_eq_true rfl) (L := [zi x0, zi x1]) ⟨rfl, ⟨rfl, trivial⟩⟩ ?_
  refine wX12_has_0  ?_
  repeat' (first | (refine ⟨?_, ?_⟩ <;> intro c) | fail)
  all_goals (refine ⟨?_, rfl⟩)
  all_goals (first | rfl | (refine congrArg (fun z => some (Sum.inl z)) ?_; first | (refine (zb_t ?_).symm; (try simp only [← Int32.not_le] at *); first | exact c | (simp_all; done)) | (refine (zb_f ?_).symm; (try simp only [← Int32.not_le] at *); first | exact c | (simp_all; done)) | (simp_all; done)))

theorem sX4_has {G : ZG} (d : Nat) {h : ZH} {x0 : Int32} {x1 : Int32}   : zC G (d + 1) mX4_has [zi x0, zi x1] h (fun r h' => r = some (zi (zb (hasI x0 x1))) ∧ h' = h) := by
  refine zC_of (by decide +kernel) (Nat.le_of_ble_eq_true rfl) (L := [zi x0, zi x1]) ⟨rfl, ⟨rfl, trivial⟩⟩ ?_
  refine wX4_has_0  ?_
  refine ⟨fun c => ⟨?_, rfl⟩, fun c => ⟨?_, rfl⟩⟩
  · rw [zb_f (hasI_0.mp c)]
  · rw [zb_t (Classical.byContradiction fun q => c (hasI_0.mpr q))]

theorem sX11_isPlace {G : ZG} (d : Nat) {h : ZH} {x0 : Int32}   : zC G (d + 1) mX11_isPlace [zi x0] h (fun r h' => r = some (zi (zb (0 ≤ x0 ∧ x0 ≤ 11))) ∧ h' = h) := by
  refine zC_of (by decide +kernel) (Nat.le_of_ble_eq_true rfl) (L := [zi x0]) ⟨rfl, trivial⟩ ?_
  refine wX11_isPlace_0  ?_
  refine ⟨fun c => ⟨?_, rfl⟩, fun c => ⟨fun c2 => ⟨?_, rfl⟩, fun c2 => ⟨?_, rfl⟩⟩⟩
  · rw [zb_f (fun q => Int32.not_le.mpr c q.1)]
  · rw [zb_f (fun q => by have := q.2; rw [Int32.le_iff_toInt_le] at this c2; have e1 : (11 : Int32).toInt = 11 := by decide
                          have e2 : (12 : Int32).toInt = 12 := by decide
                          omega)]
  · rw [zb_t ⟨Int32.not_lt.mp c, by have h3 := Int32.not_le.mp c2; rw [Int32.lt_iff_toInt_lt] at h3; rw [Int32.le_iff_toInt_le]; have e1 : (11 : Int32).toInt = 11 := by decide
                                    have e2 : (12 : Int32).toInt = 12 := by decide
                                    omega⟩]

theorem sX11_isShelf {G : ZG} (d : Nat) {h : ZH} {x0 : Int32}   : zC G (d + 1) mX11_isShelf [zi x0] h (fun r h' => r = some (zi (zb (0 ≤ x0 ∧ x0 ≤ 7))) ∧ h' = h) := by
  refine zC_of (by decide +kernel) (Nat.le_of_ble_eq_true rfl) (L := [zi x0]) ⟨rfl, trivial⟩ ?_
  refine wX11_isShelf_0  ?_
  refine ⟨fun c => ⟨?_, rfl⟩, fun c => ⟨fun c2 => ⟨?_, rfl⟩, fun c2 => ⟨?_, rfl⟩⟩⟩
  · rw [zb_f (fun q => Int32.not_le.mpr c q.1)]
  · rw [zb_f (fun q => by have := q.2; rw [Int32.le_iff_toInt_le] at this c2; have e1 : (7 : Int32).toInt = 7 := by decide
                          have e2 : (8 : Int32).toInt = 8 := by decide
                          omega)]
  · rw [zb_t ⟨Int32.not_lt.mp c, by have h3 := Int32.not_le.mp c2; rw [Int32.lt_iff_toInt_lt] at h3; rw [Int32.le_iff_toInt_le]; have e1 : (7 : Int32).toInt = 7 := by decide
                                    have e2 : (8 : Int32).toInt = 8 := by decide
                                    omega⟩]

theorem sX11_isEither {G : ZG} (d : Nat) {h : ZH} {x0 : Int32}   : zC G (d + 1) mX11_isEither [zi x0] h (fun r h' => r = some (zi (zb (0 ≤ x0 ∧ x0 ≤ 1))) ∧ h' = h) := by
  refine zC_of (by decide +kernel) (Nat.le_of_ble_eq_true rfl) (L := [zi x0]) ⟨rfl, trivial⟩ ?_
  refine wX11_isEither_0  ?_
  refine ⟨fun c => ⟨?_, rfl⟩, fun c => ⟨fun c2 => ⟨?_, rfl⟩, fun c2 => ⟨?_, rfl⟩⟩⟩
  · rw [c]; rfl
  · rw [zb_f (fun q => by
      obtain ⟨q1, q2⟩ := q
      rw [Int32.le_iff_toInt_le] at q1 q2
      have e1 : (1 : Int32).toInt = 1 := by decide
      have e0 : (0 : Int32).toInt = 0 := by decide
      have : x0.toInt = 0 ∨ x0.toInt = 1 := by omega
      rcases this with z | z
      · exact c (Int32.toInt_inj.mp (z.trans e0.symm))
      · exact c2 (Int32.toInt_inj.mp (z.trans e1.symm)))]
  · rw [c2]; rfl

theorem sX11_isSomeStones {G : ZG} (d : Nat) {h : ZH} {x0 : Int32}   : zC G (d + 1) mX11_isSomeStones [zi x0] h (fun r h' => r = some (zi (zb (1 ≤ x0 ∧ x0 ≤ 12))) ∧ h' = h) := by
  refine zC_of (by decide +kernel) (Nat.le_of_ble_eq_true rfl) (L := [zi x0]) ⟨rfl, trivial⟩ ?_
  refine wX11_isSomeStones_0  ?_
  refine ⟨fun c => ⟨?_, rfl⟩, fun c => ⟨fun c2 => ⟨?_, rfl⟩, fun c2 => ⟨?_, rfl⟩⟩⟩
  · rw [zb_f (fun q => Int32.not_le.mpr c q.1)]
  · rw [zb_f (fun q => Int32.not_le.mpr c2 q.2)]
  · rw [zb_t ⟨Int32.not_lt.mp c, Int32.not_lt.mp c2⟩]

theorem sX11_digitsBehind {G : ZG} (d : Nat) {h : ZH} {x0 : Int32}   : zC G (d + 1) mX11_digitsBehind [zi x0] h (fun r h' => r = some (zi (dbI x0)) ∧ h' = h) := by
  refine zC_of (by decide +kernel) (Nat.le_of_ble_eq_true rfl) (L := [zi x0]) ⟨rfl, trivial⟩ ?_
  refine wX11_digitsBehind_0  ?_
  unfold dbI
  refine ⟨fun c => ⟨fun c2 => ⟨?_, rfl⟩, fun c2 => ⟨fun c3 => ⟨?_, rfl⟩, fun c3 => ⟨?_, rfl⟩⟩⟩, fun c => ⟨?_, rfl⟩⟩
  · rw [if_neg c, if_pos (Or.inl c2)]
  · rw [if_neg c, if_neg (fun q => q.elim c2 c3)]
  · rw [if_neg c, if_pos (Or.inr c3)]
  · rw [if_pos c]

theorem sX8_isEmpty {G : ZG} (d : Nat) {h : ZH} {i0 : Nat} (hi0 : i0 < zcnt 3)  : zC G (d + 1) mX8_isEmpty [zr 3 i0] h (fun r h' => r = some (zi (zb (h.1 3 i0 0 = 0))) ∧ h' = h) := by
  refine zC_of (by decide +kernel) (Nat.le_of_ble_eq_true rfl) (L := [zr 3 i0]) ⟨rfl, trivial⟩ ?_
  refine wX8_isEmpty_0 hi0 ?_
  repeat' (first | (refine ⟨?_, ?_⟩ <;> intro c) | fail)
  all_goals (refine ⟨?_, rfl⟩)
  all_goals (first | rfl | (refine congrArg (fun z => some (Sum.inl z)) ?_; first | (refine (zb_t ?_).symm; (try simp only [← Int32.not_le] at *); first | exact c | (simp_all; done)) | (refine (zb_f ?_).symm; (try simp only [← Int32.not_le] at *); first | exact c | (simp_all; done)) | (simp_all; done)))

theorem sX8_isRow {G : ZG} (d : Nat) {h : ZH} {i0 : Nat} (hi0 : i0 < zcnt 3)  : zC G (d + 1) mX8_isRow [zr 3 i0] h (fun r h' => r = some (zi (zb (h.1 3 i0 0 = 2))) ∧ h' = h) := by
  refine zC_of (by decide +kernel) (Nat.le_of_ble_eq_true rfl) (L := [zr 3 i0]) ⟨rfl, trivial⟩ ?_
  refine wX8_isRow_0 hi0 ?_
  repeat' (first | (refine ⟨?_, ?_⟩ <;> intro c) | fail)
  all_goals (refine ⟨?_, rfl⟩)
  all_goals (first | rfl | (refine congrArg (fun z => some (Sum.inl z)) ?_; first | (refine (zb_t ?_).symm; (try simp only [← Int32.not_le] at *); first | exact c | (simp_all; done)) | (refine (zb_f ?_).symm; (try simp only [← Int32.not_le] at *); first | exact c | (simp_all; done)) | (simp_all; done)))

theorem sX8_hasPlace {G : ZG} (d : Nat) {h : ZH} {i0 : Nat} {x1 : Int32} (hi0 : i0 < zcnt 3)  : zC G (d + 1) mX8_hasPlace [zr 3 i0, zi x1] h (fun r h' => r = some (zi (zb (0 ≤ x1 ∧ x1 < h.1 3 i0 4))) ∧ h' = h) := by
  refine zC_of (by decide +kernel) (Nat.le_of_ble_eq_true rfl) (L := [zr 3 i0, zi x1]) ⟨rfl, ⟨rfl, trivial⟩⟩ ?_
  refine wX8_hasPlace_0 hi0 ?_
  refine ⟨fun c => ⟨?_, rfl⟩, fun c => ⟨fun c2 => ⟨?_, rfl⟩, fun c2 => ⟨?_, rfl⟩⟩⟩
  · rw [zb_f (fun q => Int32.not_le.mpr c q.1)]
  · rw [zb_f (fun q => Int32.not_lt.mpr c2 q.2)]
  · rw [zb_t ⟨Int32.not_lt.mp c, Int32.not_le.mp c2⟩]

theorem sX8_hasSpan {G : ZG} (d : Nat) {h : ZH} {i0 : Nat} {x1 : Int32} {x2 : Int32} (hi0 : i0 < zcnt 3)  : zC G (d + 1) mX8_hasSpan [zr 3 i0, zi x1, zi x2] h (fun r h' => r = some (zi (zb ((0 ≤ x1 ∧ 0 ≤ x2) ∧ (x1 ≤ h.1 3 i0 4 ∧ x2 ≤ h.1 3 i0 4 - x1)))) ∧ h' = h) := by
  refine zC_of (by decide +kernel) (Nat.le_of_ble_eq_true rfl) (L := [zr 3 i0, zi x1, zi x2]) ⟨rfl, ⟨rfl, ⟨rfl, trivial⟩⟩⟩ ?_
  refine wX8_hasSpan_0 hi0 ?_
  refine ⟨fun c => ⟨?_, rfl⟩, fun c => ⟨fun c2 => ⟨?_, rfl⟩, fun c2 => ⟨fun c3 => ⟨?_, rfl⟩, fun c3 => ⟨fun c4 => ⟨?_, rfl⟩, fun c4 => ⟨?_, rfl⟩⟩⟩⟩⟩
  · rw [zb_f (fun q => Int32.not_le.mpr c q.1.1)]
  · rw [zb_f (fun q => Int32.not_le.mpr c2 q.1.2)]
  · rw [zb_f (fun q => Int32.not_le.mpr c3 q.2.1)]
  · rw [zb_f (fun q => Int32.not_le.mpr c4 q.2.2)]
  · rw [zb_t ⟨⟨Int32.not_lt.mp c, Int32.not_lt.mp c2⟩, Int32.not_lt.mp c3, Int32.not_lt.mp c4⟩]

theorem sX3_drawn {G : ZG} (d : Nat) {h : ZH} {x0 : Int32}   : zC G (d + 1) mX3_drawn [zi x0] h (fun r h' => r = some (zi (x0 * 1103515245 + 12345)) ∧ h' = h) := by
  refine zC_of (by decide +kernel) (Nat.le_of_ble_eq_true rfl) (L := [zi x0]) ⟨rfl, trivial⟩ ?_
  refine wX3_drawn_0  ?_
  exact ⟨rfl, rfl⟩

theorem sX3_placeOf {G : ZG} (d : Nat) {h : ZH} {x0 : Int32}   : zC G (d + 1) mX3_placeOf [zi x0] h (fun r h' => r = some (zi ((((x0 &&& 2147483647) / 65536) - ((x0 &&& 2147483647) / 65536) / 12 * 12))) ∧ h' = h) := by
  refine zC_of (by decide +kernel) (Nat.le_of_ble_eq_true rfl) (L := [zi x0]) ⟨rfl, trivial⟩ ?_
  refine wX3_placeOf_0  ?_
  exact ⟨rfl, rfl⟩

theorem sX12_costBy {G : ZG} (d : Nat) {h : ZH} {x0 : Int32} {x1 : Int32}   : zC G (d + 1) mX12_costBy [zi x0, zi x1] h (fun r h' => r = some (zi (costI x0 x1)) ∧ h' = h) := by
  refine zC_of (by decide +kernel) (Nat.le_of_ble_eq_true rfl) (L := [zi x0, zi x1]) ⟨rfl, ⟨rfl, trivial⟩⟩ ?_
  refine wX12_costBy_0  ?_
  unfold costI
  refine ⟨fun c1 => ⟨?_, rfl⟩, fun c1 => ⟨fun c2 => ⟨?_, rfl⟩, fun c2 => ⟨fun c3 => ⟨?_, rfl⟩, fun c3 => ⟨fun c4 => ⟨?_, rfl⟩, fun c4 => ⟨fun c5 => ⟨?_, rfl⟩, fun c5 => ⟨fun c6 => ⟨?_, rfl⟩, fun c6 => ⟨fun c7 => ⟨?_, rfl⟩, fun c7 => ⟨?_, rfl⟩⟩⟩⟩⟩⟩⟩⟩
  · rw [if_pos c1]
  · rw [if_neg c1, if_pos c2]
  · rw [if_neg c1, if_neg c2, if_pos c3]
  · rw [if_neg c1, if_neg c2, if_neg c3, if_pos c4]
  · rw [if_neg c1, if_neg c2, if_neg c3, if_neg c4, if_pos c5]
  · rw [if_neg c1, if_neg c2, if_neg c3, if_neg c4, if_neg c5, if_pos c6]
  · rw [if_neg c1, if_neg c2, if_neg c3, if_neg c4, if_neg c5, if_neg c6, if_pos c7]
  · rw [if_neg c1, if_neg c2, if_neg c3, if_neg c4, if_neg c5, if_neg c6, if_neg c7]

theorem sX12_thrown {G : ZG} (d : Nat) {h : ZH}    : zC G (d + 1) mX12_thrown [zr 5 0] h (fun r h' => r = some (zi (h.1 5 0 23)) ∧ h' = h) := by
  refine zC_of (by decide +kernel) (Nat.le_of_ble_eq_true rfl) (L := [zr 5 0]) ⟨rfl, trivial⟩ ?_
  refine wX12_thrown_0  ?_
  exact ⟨rfl, rfl⟩

theorem sX12_kind {G : ZG} (d : Nat) {h : ZH} {x1 : Int32}  (hp0 : vp_in x1 12) : zC G (d + 1) mX12_kind [zr 5 0, zi x1] h (fun r h' => r = some (zi (kindI h x1)) ∧ h' = h) := by
  refine zC_of (by decide +kernel) (Nat.le_of_ble_eq_true rfl) (L := [zr 5 0, zi x1]) ⟨rfl, ⟨rfl, trivial⟩⟩ ?_
  refine wX12_kind_0  ?_
  exact ⟨vp_s2 hp0, rfl, rfl⟩

theorem sX12_figure {G : ZG} (d : Nat) {h : ZH} {x1 : Int32}  (hp0 : vp_in x1 12) : zC G (d + 1) mX12_figure [zr 5 0, zi x1] h (fun r h' => r = some (zi (figI h x1)) ∧ h' = h) := by
  refine zC_of (by decide +kernel) (Nat.le_of_ble_eq_true rfl) (L := [zr 5 0, zi x1]) ⟨rfl, ⟨rfl, trivial⟩⟩ ?_
  refine wX12_figure_0  ?_
  exact ⟨vp_s3 hp0, rfl, rfl⟩

theorem sX4_noteAt {G : ZG} (d : Nat) {h : ZH} {i0 : Nat} {x1 : Int32} (hi0 : i0 < zcnt 2) (hp0 : vp_in x1 12) : zC G (d + 1) mX4_noteAt [zr 2 i0, zi x1] h (fun r h' => r = some (zi (noteI (h.1 12 i0 x1.toNatClampNeg) (h.1 15 i0 x1.toNatClampNeg))) ∧ h' = h) := by
  refine zC_of (by decide +kernel) (Nat.le_of_ble_eq_true rfl) (L := [zr 2 i0, zi x1]) ⟨rfl, ⟨rfl, trivial⟩⟩ ?_
  refine wX4_noteAt_0 hi0 ?_
  exact ⟨hp0, hp0, rfl, rfl⟩

theorem sX10_weight {G : ZG} (d : Nat) {h : ZH} {i0 : Nat} {x1 : Int32} (hi0 : i0 < zcnt 4)  : zC G (d + 1) mX10_weight [zr 4 i0, zi x1] h (fun r h' => r = some (zi (2 + x1)) ∧ h' = h) := by
  refine zC_of (by decide +kernel) (Nat.le_of_ble_eq_true rfl) (L := [zr 4 i0, zi x1]) ⟨rfl, ⟨rfl, trivial⟩⟩ ?_
  refine wX10_weight_0 hi0 ?_
  exact ⟨rfl, rfl⟩

theorem sX10_bears {G : ZG} (d : Nat) {h : ZH} {i0 : Nat} {x1 : Int32} (hi0 : i0 < zcnt 4)  : zC G (d + 1) mX10_bears [zr 4 i0, zi x1] h (fun r h' => r = some (zi (20)) ∧ h' = h) := by
  refine zC_of (by decide +kernel) (Nat.le_of_ble_eq_true rfl) (L := [zr 4 i0, zi x1]) ⟨rfl, ⟨rfl, trivial⟩⟩ ?_
  refine wX10_bears_0 hi0 ?_
  exact ⟨rfl, rfl⟩

theorem sX10_price {G : ZG} (d : Nat) {h : ZH} {i0 : Nat} {x1 : Int32} (hi0 : i0 < zcnt 4)  : zC G (d + 1) mX10_price [zr 4 i0, zi x1] h (fun r h' => r = some (zi (2)) ∧ h' = h) := by
  refine zC_of (by decide +kernel) (Nat.le_of_ble_eq_true rfl) (L := [zr 4 i0, zi x1]) ⟨rfl, ⟨rfl, trivial⟩⟩ ?_
  refine wX10_price_0 hi0 ?_
  exact ⟨rfl, rfl⟩

theorem sX10_manner {G : ZG} (d : Nat) {h : ZH} {i0 : Nat} (hi0 : i0 < zcnt 4)  : zC G (d + 1) mX10_manner [zr 4 i0] h (fun r h' => r = some (zi (0)) ∧ h' = h) := by
  refine zC_of (by decide +kernel) (Nat.le_of_ble_eq_true rfl) (L := [zr 4 i0]) ⟨rfl, trivial⟩ ?_
  refine wX10_manner_0 hi0 ?_
  exact ⟨rfl, rfl⟩

theorem sX7_weight {G : ZG} (d : Nat) {h : ZH} {i0 : Nat} {x1 : Int32} (hi0 : i0 < zcnt 4)  : zC G (d + 1) mX7_weight [zr 4 i0, zi x1] h (fun r h' => r = some (zi (1)) ∧ h' = h) := by
  refine zC_of (by decide +kernel) (Nat.le_of_ble_eq_true rfl) (L := [zr 4 i0, zi x1]) ⟨rfl, ⟨rfl, trivial⟩⟩ ?_
  refine wX7_weight_0 hi0 ?_
  exact ⟨rfl, rfl⟩

theorem sX7_bears {G : ZG} (d : Nat) {h : ZH} {i0 : Nat} {x1 : Int32} (hi0 : i0 < zcnt 4)  : zC G (d + 1) mX7_bears [zr 4 i0, zi x1] h (fun r h' => r = some (zi (3)) ∧ h' = h) := by
  refine zC_of (by decide +kernel) (Nat.le_of_ble_eq_true rfl) (L := [zr 4 i0, zi x1]) ⟨rfl, ⟨rfl, trivial⟩⟩ ?_
  refine wX7_bears_0 hi0 ?_
  exact ⟨rfl, rfl⟩

theorem sX7_manner {G : ZG} (d : Nat) {h : ZH} {i0 : Nat} (hi0 : i0 < zcnt 4)  : zC G (d + 1) mX7_manner [zr 4 i0] h (fun r h' => r = some (zi (3)) ∧ h' = h) := by
  refine zC_of (by decide +kernel) (Nat.le_of_ble_eq_true rfl) (L := [zr 4 i0]) ⟨rfl, trivial⟩ ?_
  refine wX7_manner_0 hi0 ?_
  exact ⟨rfl, rfl⟩

theorem sX6_weight {G : ZG} (d : Nat) {h : ZH} {i0 : Nat} {x1 : Int32} (hi0 : i0 < zcnt 4)  : zC G (d + 1) mX6_weight [zr 4 i0, zi x1] h (fun r h' => r = some (zi (0)) ∧ h' = h) := by
  refine zC_of (by decide +kernel) (Nat.le_of_ble_eq_true rfl) (L := [zr 4 i0, zi x1]) ⟨rfl, ⟨rfl, trivial⟩⟩ ?_
  refine wX6_weight_0 hi0 ?_
  exact ⟨rfl, rfl⟩

theorem sX6_bears {G : ZG} (d : Nat) {h : ZH} {i0 : Nat} {x1 : Int32} (hi0 : i0 < zcnt 4)  : zC G (d + 1) mX6_bears [zr 4 i0, zi x1] h (fun r h' => r = some (zi (0)) ∧ h' = h) := by
  refine zC_of (by decide +kernel) (Nat.le_of_ble_eq_true rfl) (L := [zr 4 i0, zi x1]) ⟨rfl, ⟨rfl, trivial⟩⟩ ?_
  refine wX6_bears_0 hi0 ?_
  exact ⟨rfl, rfl⟩

theorem sX0_manner {G : ZG} (d : Nat) {h : ZH} {i0 : Nat} (hi0 : i0 < zcnt 4)  : zC G (d + 1) mX0_manner [zr 4 i0] h (fun r h' => r = some (zi (1)) ∧ h' = h) := by
  refine zC_of (by decide +kernel) (Nat.le_of_ble_eq_true rfl) (L := [zr 4 i0]) ⟨rfl, trivial⟩ ?_
  refine wX0_manner_0 hi0 ?_
  exact ⟨rfl, rfl⟩

theorem sX1_manner {G : ZG} (d : Nat) {h : ZH} {i0 : Nat} (hi0 : i0 < zcnt 4)  : zC G (d + 1) mX1_manner [zr 4 i0] h (fun r h' => r = some (zi (2)) ∧ h' = h) := by
  refine zC_of (by decide +kernel) (Nat.le_of_ble_eq_true rfl) (L := [zr 4 i0]) ⟨rfl, trivial⟩ ?_
  refine wX1_manner_0 hi0 ?_
  exact ⟨rfl, rfl⟩
end
section
/-! ===== the small loops ===== -/
theorem zh_ext {h h' : ZH} (h1 : ∀ k i j, h.1 k i j = h'.1 k i j) (h2 : ∀ k i j, h.2 k i j = h'.2 k i j) : h = h' := by
  obtain ⟨a, b⟩ := h
  obtain ⟨a', b'⟩ := h'
  have e1 : a = a' := by funext k i j; exact h1 k i j
  have e2 : b = b' := by funext k i j; exact h2 k i j
  rw [e1, e2]
theorem zkd_n {k i t n : Nat} (h : zkd k i = .inr (t, n)) : n ≤ 4096 := by
  unfold zkd at h
  split at h <;> first | (cases h; decide) | cases h
theorem zs1_at (h : ZH) (k i j : Nat) (v : Int32) (k' i' j' : Nat) : (zs1 h k i j v).1 k' i' j' = if k' = k ∧ i' = i ∧ j' = j then v else h.1 k' i' j' := rfl
theorem zs2_at (h : ZH) (k i j : Nat) (v : Int64) (k' i' j' : Nat) : (zs2 h k i j v).2 k' i' j' = if k' = k ∧ i' = i ∧ j' = j then v else h.2 k' i' j' := rfl
theorem zsR_at (h : ZH) (k i : Nat) (f : Nat → Int32) (k' i' j' : Nat) : (zsR h k i f).1 k' i' j' = if k' = k ∧ i' = i then f j' else h.1 k' i' j' := rfl
def zsR2 (h : ZH) (k i : Nat) (f : Nat → Int64) : ZH := (h.1, fun k' i' j' => if k' = k ∧ i' = i then f j' else h.2 k' i' j')
theorem zsR2_at (h : ZH) (k i : Nat) (f : Nat → Int64) (k' i' j' : Nat) : (zsR2 h k i f).2 k' i' j' = if k' = k ∧ i' = i then f j' else h.2 k' i' j' := rfl
/-- the first m of a row are v -/
def zfl {α : Type} (f : Nat → α) (v : α) (m : Nat) : Nat → α := fun j => if j < m then v else f j
theorem zsR_id (h : ZH) (k i : Nat) : zsR h k i (h.1 k i) = h := by
  apply zh_ext
  · intro k' i' j'
    rw [zsR_at]
    by_cases q : k' = k ∧ i' = i
    · rw [if_pos q, q.1, q.2]
    · rw [if_neg q]
  · intro k' i' j'; rfl
theorem zsR_s1 (h : ZH) (k i : Nat) (f : Nat → Int32) (j : Nat) (v : Int32) : zs1 (zsR h k i f) k i j v = zsR h k i (upd f j v) := by
  apply zh_ext
  · intro k' i' j'
    rw [zs1_at, zsR_at, zsR_at]
    by_cases q : k' = k ∧ i' = i
    · rw [if_pos q, if_pos q]
      by_cases q2 : j' = j
      · rw [if_pos ⟨q.1, q.2, q2⟩]; simp [upd, q2]
      · rw [if_neg (fun z => q2 z.2.2)]; simp [upd, q2]
    · rw [if_neg q, if_neg q, if_neg (fun z => q ⟨z.1, z.2.1⟩)]
  · intro k' i' j'; rfl
theorem zsR_R (h : ZH) (k i : Nat) (f g : Nat → Int32) : zsR (zsR h k i f) k i g = zsR h k i g := by
  apply zh_ext
  · intro k' i' j'
    rw [zsR_at, zsR_at, zsR_at]
    by_cases q : k' = k ∧ i' = i
    · rw [if_pos q, if_pos q]
    · rw [if_neg q, if_neg q, if_neg q]
  · intro k' i' j'; rfl
theorem zs1_R (h : ZH) (k i j : Nat) (v : Int32) : zs1 h k i j v = zsR h k i (upd (h.1 k i) j v) := by
  rw [← zsR_s1, zsR_id]
theorem zsR2_id (h : ZH) (k i : Nat) : zsR2 h k i (h.2 k i) = h := by
  apply zh_ext
  · intro k' i' j'; rfl
  · intro k' i' j'
    rw [zsR2_at]
    by_cases q : k' = k ∧ i' = i
    · rw [if_pos q, q.1, q.2]
    · rw [if_neg q]
theorem zsR2_s2 (h : ZH) (k i : Nat) (f : Nat → Int64) (j : Nat) (v : Int64) : zs2 (zsR2 h k i f) k i j v = zsR2 h k i (vp_updL f j v) := by
  apply zh_ext
  · intro k' i' j'; rfl
  · intro k' i' j'
    rw [zs2_at, zsR2_at, zsR2_at]
    by_cases q : k' = k ∧ i' = i
    · rw [if_pos q, if_pos q]
      by_cases q2 : j' = j
      · rw [if_pos ⟨q.1, q.2, q2⟩]; simp [vp_updL, q2]
      · rw [if_neg (fun z => q2 z.2.2)]; simp [vp_updL, q2]
    · rw [if_neg q, if_neg q, if_neg (fun z => q ⟨z.1, z.2.1⟩)]
theorem zfl_upd (f : Nat → Int32) (v : Int32) (m : Nat) : upd (zfl f v m) m v = zfl f v (m + 1) := by
  funext j
  unfold upd zfl
  by_cases q : j = m
  · rw [if_pos q, if_pos (by omega)]
  · rw [if_neg q]
    by_cases q2 : j < m
    · rw [if_pos q2, if_pos (by omega)]
    · rw [if_neg q2, if_neg (by omega)]
theorem zfl_updL (f : Nat → Int64) (v : Int64) (m : Nat) : vp_updL (zfl f v m) m v = zfl f v (m + 1) := by
  funext j
  unfold vp_updL zfl
  by_cases q : j = m
  · rw [if_pos q, if_pos (by omega)]
  · rw [if_neg q]
    by_cases q2 : j < m
    · rw [if_pos q2, if_pos (by omega)]
    · rw [if_neg q2, if_neg (by omega)]
theorem zfl_0 {α : Type} (f : Nat → α) (v : α) : zfl f v 0 = f := by
  funext j
  unfold zfl
  rw [if_neg (by omega)]
theorem nI_cl {n : Nat} (h : n ≤ 4096) : (nI n).toNatClampNeg = n := nI_clamp (by omega)
/-- Arrays.fill of ints -/
theorem sJ7_fillI {G : ZG} (d : Nat) {h : ZH} {k i n : Nat} {v : Int32} (hk : zkd k i = .inr (0, n)) (hi : i < zcnt k) : zC G (d + 1) mJ7_fill_53178 [zr k i, zi v] h (fun r h' => r = none ∧ h' = zsR h k i (zfl (h.1 k i) v n)) := by
  have hn := zkd_n hk
  refine zC_of (by decide +kernel) (Nat.le_of_ble_eq_true rfl) (L := [zr k i, zi v, zu, zu]) ⟨rfl, ⟨rfl, trivial⟩⟩ ?_
  refine wJ7_fill_53178_0 hk hi ?_
  have key : ∀ (f m : Nat), f + m = n → zT G (d + 1) mJ7_fill_53178 5 [zr k i, zi v, zi (nI m), zi (nI n)] [] (zsR h k i (zfl (h.1 k i) v m)) (fun r h' => r = none ∧ h' = zsR h k i (zfl (h.1 k i) v n)) := by
    intro f
    induction f with
    | zero =>
      intro m hm
      have e : m = n := by omega
      subst e
      refine wJ7_fill_53178_5 hk hi ?_
      exact br_t (Int32.le_refl _) ⟨rfl, rfl⟩
    | succ f ih =>
      intro m hm
      refine wJ7_fill_53178_5 hk hi ?_
      refine br_f (nI_ge (by omega) (by omega)) ⟨vp_in_nI (by omega) (by omega), ?_⟩
      intro h1 e1
      rw [e1, nI_cl (by omega), zsR_s1, zfl_upd, nI_1]
      exact ih (m + 1) (by omega)
  have := key n 0 (by omega)
  rw [zfl_0, zsR_id] at this
  exact this
theorem sJ7_fillL {G : ZG} (d : Nat) {h : ZH} {k i n : Nat} {v : Int64} (hk : zkd k i = .inr (1, n)) (hi : i < zcnt k) : zC G (d + 1) mJ7_fill_d0a16 [zr k i, zl v] h (fun r h' => r = none ∧ h' = zsR2 h k i (zfl (h.2 k i) v n)) := by
  have hn := zkd_n hk
  refine zC_of (by decide +kernel) (Nat.le_of_ble_eq_true rfl) (L := [zr k i, zl v, zu, zu, zu]) ⟨rfl, ⟨rfl, trivial⟩⟩ ?_
  refine wJ7_fill_d0a16_0 hk hi ?_
  have key : ∀ (f m : Nat), f + m = n → zT G (d + 1) mJ7_fill_d0a16 6 [zr k i, zl v, zu, zi (nI m), zi (nI n)] [] (zsR2 h k i (zfl (h.2 k i) v m)) (fun r h' => r = none ∧ h' = zsR2 h k i (zfl (h.2 k i) v n)) := by
    intro f
    induction f with
    | zero =>
      intro m hm
      have e : m = n := by omega
      subst e
      refine wJ7_fill_d0a16_6 hk hi ?_
      exact br_t (Int32.le_refl _) ⟨rfl, rfl⟩
    | succ f ih =>
      intro m hm
      refine wJ7_fill_d0a16_6 hk hi ?_
      refine br_f (nI_ge (by omega) (by omega)) ⟨vp_in_nI (by omega) (by omega), ?_⟩
      intro h1 e1
      rw [e1, nI_cl (by omega), zsR2_s2, zfl_updL, nI_1]
      exact ih (m + 1) (by omega)
  have := key n 0 (by omega)
  rw [zfl_0, zsR2_id] at this
  exact this
/-- bits -/
theorem sX12_bits {G : ZG} (d : Nat) {h : ZH} {x0 : Int32} : zC G (d + 1) mX12_bits [zi x0] h (fun r h' => r = some (zi (bitsI x0)) ∧ h' = h) := by
  refine zC_of (by decide +kernel) (Nat.le_of_ble_eq_true rfl) (L := [zi x0, zu, zu]) ⟨rfl, trivial⟩ ?_
  refine wX12_bits_0 ?_
  have key : ∀ (f m : Nat), f + m = 12 → zT G (d + 1) mX12_bits 4 [zi x0, zi (bitsN x0 m), zi (nI m)] [] h (fun r h' => r = some (zi (bitsI x0)) ∧ h' = h) := by
    intro f
    induction f with
    | zero =>
      intro m hm
      have e : m = 12 := by omega
      subst e
      refine wX12_bits_4 ?_
      exact br_t (by decide) ⟨rfl, rfl⟩
    | succ f ih =>
      intro m hm
      refine wX12_bits_4 ?_
      refine br_f (nI_ge (a := m) (b := 12) (by omega) (by decide)) ?_
      rw [nI_1]
      exact ih (m + 1) (by omega)
  exact key 12 0 (by omega)
/-- copies, of one row to another -/
theorem sX12_copies {G : ZG} (d : Nat) {h : ZH} {a0 a1 : Nat} (hk0 : zkd a0 0 = .inr (0, 26)) (hk1 : zkd a1 0 = .inr (0, 26)) (hi0 : 0 < zcnt a0) (hi1 : 0 < zcnt a1) (hne : a0 ≠ a1) : zC G (d + 1) mX12_copies [zr a0 0, zr a1 0] h (fun r h' => r = none ∧ h' = zsR h a1 0 (fun j => if j < 26 then h.1 a0 0 j else h.1 a1 0 j)) := by
  refine zC_of (by decide +kernel) (Nat.le_of_ble_eq_true rfl) (L := [zr a0 0, zr a1 0, zu]) ⟨rfl, ⟨rfl, trivial⟩⟩ ?_
  refine wX12_copies_0 hk0 hi0 hk1 hi1 ?_
  have key : ∀ (f m : Nat), f + m = 26 → zT G (d + 1) mX12_copies 2 [zr a0 0, zr a1 0, zi (nI m)] [] (zsR h a1 0 (fun j => if j < m then h.1 a0 0 j else h.1 a1 0 j)) (fun r h' => r = none ∧ h' = zsR h a1 0 (fun j => if j < 26 then h.1 a0 0 j else h.1 a1 0 j)) := by
    intro f
    induction f with
    | zero =>
      intro m hm
      have e : m = 26 := by omega
      subst e
      refine wX12_copies_2 hk0 hi0 hk1 hi1 ?_
      exact br_t (by decide) ⟨rfl, rfl⟩
    | succ f ih =>
      intro m hm
      refine wX12_copies_2 hk0 hi0 hk1 hi1 ?_
      refine br_f (nI_ge (a := m) (b := 26) (by omega) (by decide)) ⟨vp_in_nI (by omega) (by decide), vp_in_nI (by omega) (by decide), ?_⟩
      intro h1 e1
      rw [e1, nI_cl (by omega), zsR_s1, zsR_at, if_neg (fun z => hne z.1), nI_1]
      have e2 : upd (fun j => if j < m then h.1 a0 0 j else h.1 a1 0 j) m (h.1 a0 0 m) = (fun j => if j < m + 1 then h.1 a0 0 j else h.1 a1 0 j) := by
        funext j
        unfold upd
        by_cases q : j = m
        · subst q
          rw [if_pos rfl, if_pos (by omega)]
        · rw [if_neg q]
          dsimp only
          by_cases q2 : j < m
          · rw [if_pos q2, if_pos (by omega)]
          · rw [if_neg q2, if_neg (by omega)]
      rw [e2]
      exact ih (m + 1) (by omega)
  have := key 26 0 (by omega)
  have e0 : (fun j => if j < 0 then h.1 a0 0 j else h.1 a1 0 j) = h.1 a1 0 := by
    funext j
    rw [if_neg (by omega)]
  rw [e0, zsR_id] at this
  exact this
/-- powers -/
def pwL (b : Int64) : Nat → Int64
  | 0 => 1
  | n + 1 => pwL b n * b
theorem sX11_powerOf {G : ZG} (d : Nat) {h : ZH} {x0 : Int32} {n : Nat} (hn : n ≤ 4096) : zC G (d + 1) mX11_powerOf [zi x0, zi (nI n)] h (fun r h' => r = some (zl (pwL x0.toInt64 n)) ∧ h' = h) := by
  refine zC_of (by decide +kernel) (Nat.le_of_ble_eq_true rfl) (L := [zi x0, zi (nI n), zu, zu, zu]) ⟨rfl, ⟨rfl, trivial⟩⟩ ?_
  refine wX11_powerOf_0 ?_
  have key : ∀ (f m : Nat), f + m = n → zT G (d + 1) mX11_powerOf 5 [zi x0, zi (nI n), zl (pwL x0.toInt64 m), zu, zi (nI m)] [] h (fun r h' => r = some (zl (pwL x0.toInt64 n)) ∧ h' = h) := by
    intro f
    induction f with
    | zero =>
      intro m hm
      have e : m = n := by omega
      subst e
      refine wX11_powerOf_5 ?_
      exact br_t (Int32.le_refl _) ⟨rfl, rfl⟩
    | succ f ih =>
      intro m hm
      refine wX11_powerOf_5 ?_
      refine br_f (nI_ge (by omega) (by omega)) ?_
      rw [nI_1]
      exact ih (m + 1) (by omega)
  exact key n 0 (by omega)
end
section
/-! ===== the two ways to the greatest common divisor ===== -/
theorem lN_q {a b : Nat} (ha : a < 2 ^ 62) (hb : b < 2 ^ 62) (h0 : b ≠ 0) : lN a / lN b = lN (a / b) := by
  apply Int64.toInt_inj.mp
  rw [Int64.toInt_div, pf_lI (by omega), pf_lI (by omega), pf_lI (Nat.lt_of_le_of_lt (Nat.div_le_self a b) (by omega))]
  have e : (a : Int).tdiv (b : Int) = ((a / b : Nat) : Int) := by
    rw [Int.tdiv_eq_ediv_of_nonneg (by omega)]; rfl
  rw [e]
  have h1 : a / b < 2 ^ 62 := Nat.lt_of_le_of_lt (Nat.div_le_self a b) ha
  generalize a / b = q at h1 ⊢
  exact fb_bmodL (by omega) (by omega)
theorem lN_rem {a b : Nat} (ha : a < 2 ^ 62) (hb : b < 2 ^ 62) (h0 : b ≠ 0) : lN a - lN a / lN b * lN b = lN (a % b) := by
  rw [lN_q ha hb h0, lN_mul, lN_sub (Nat.div_mul_le_self a b)]
  congr 1
  have := Nat.div_add_mod a b
  rw [Nat.mul_comm] at this
  omega
theorem lN_eq0 {a : Nat} (ha : a < 2 ^ 62) : lN a = 0 ↔ a = 0 := by
  have : (0 : Int64) = lN 0 := by decide
  rw [this, fb_lN_inj (by omega) (by decide)]
theorem lg_0 {a : Nat} (ha : a < 2 ^ 62) : lg_cmp (lN a) 0 = 0 ↔ a = 0 := by
  unfold lg_cmp
  by_cases h : lN a > 0
  · rw [if_pos h]
    constructor
    · intro q; exact absurd q (by decide)
    · intro q; subst q; exact absurd h (by decide)
  · rw [if_neg h]
    by_cases h2 : lN a = 0
    · rw [if_pos h2]; simp [(lN_eq0 ha).mp h2]
    · rw [if_neg h2]
      constructor
      · intro q; exact absurd q (by decide)
      · intro q; exact absurd ((lN_eq0 ha).mpr q) h2
theorem zhalf {l r : Nat} (h : r < l) (h0 : r ≠ 0) : 2 * (l % r) < l := by
  rcases Nat.lt_or_ge l (2 * r) with q | q
  · have : l % r = l - r := by
      rw [Nat.mod_eq_sub_mod (by omega), Nat.mod_eq_of_lt (by omega)]
    omega
  · have := Nat.mod_lt l (show 0 < r by omega)
    omega
theorem sX11_commonDivisor {G : ZG} (d : Nat) {h : ZH} {a b : Nat} (ha : a < 2 ^ 62) (hb : b < 2 ^ 62) : zC G (d + 1) mX11_commonDivisor [zl (lN a), zl (lN b)] h (fun r h' => r = some (zl (lN (Nat.gcd a b))) ∧ h' = h) := by
  refine zC_of (by decide +kernel) (Nat.le_of_ble_eq_true rfl) (L := [zl (lN a), zu, zl (lN b), zu, zu, zu, zu, zu, zu, zu, zu]) ⟨rfl, ⟨rfl, trivial⟩⟩ ?_
  refine wX11_commonDivisor_0 ?_
  have key : ∀ (k g l t : Nat), l < 2 ^ k → t + 2 * k ≤ 200 → g < 2 ^ 62 → l < 2 ^ 62 → zT G (d + 1) mX11_commonDivisor 9 [zl (lN a), zu, zl (lN b), zu, zl (lN g), zu, zl (lN l), zu, zi (nI t), zu, zu] [] h (fun r h' => r = some (zl (lN (Nat.gcd l g))) ∧ h' = h) := by
    intro k
    induction k with
    | zero =>
      intro g l t hl ht hg hl2
      have e : l = 0 := by simpa using hl
      subst e
      refine wX11_commonDivisor_9 ?_
      rw [Nat.gcd_zero_left]
      refine br_c (fun _ => ⟨rfl, rfl⟩) (fun _ => br_t ((lg_0 (by omega)).mpr rfl) ⟨rfl, rfl⟩)
    | succ k ih =>
      intro g l t hl ht hg hl2
      refine wX11_commonDivisor_9 ?_
      by_cases h0 : l = 0
      · subst h0
        rw [Nat.gcd_zero_left]
        refine br_c (fun _ => ⟨rfl, rfl⟩) (fun _ => br_t ((lg_0 (by omega)).mpr rfl) ⟨rfl, rfl⟩)
      · refine br_f (nI_ge (a := t) (b := 200) (by omega) (by decide)) (br_f (fun q => h0 ((lg_0 hl2).mp q)) ⟨fun q => h0 ((lN_eq0 hl2).mp q), ?_⟩)
        rw [lN_rem hg hl2 h0, nI_1, Nat.gcd_rec l g]
        have hr : g % l < l := Nat.mod_lt g (by omega)
        refine wX11_commonDivisor_9 ?_
        by_cases h1 : g % l = 0
        · rw [h1, Nat.gcd_zero_left]
          refine br_c (fun _ => ⟨rfl, rfl⟩) (fun _ => br_t ((lg_0 (by omega)).mpr rfl) ⟨rfl, rfl⟩)
        · refine br_f (nI_ge (a := t + 1) (b := 200) (by omega) (by decide)) (br_f (fun q => h1 ((lg_0 (by omega)).mp q)) ⟨fun q => h1 ((lN_eq0 (by omega)).mp q), ?_⟩)
          rw [lN_rem hl2 (by omega) h1, nI_1, Nat.gcd_rec (g % l) l]
          have h2 := zhalf hr h1
          have h3 : 2 ^ (k + 1) = 2 * 2 ^ k := by rw [Nat.pow_succ]; omega
          exact ih (g % l) (l % (g % l)) (t + 1 + 1) (by omega) (by omega) (by omega) (by omega)
  exact key 62 b a 0 (by omega) (by decide) hb ha
theorem sX12_gcd {G : ZG} (d : Nat) {h : ZH} {a b : Nat} (ha : a < 2 ^ 62) (hb : b < 2 ^ 62) : zC G (d + 1) mX12_gcd [zl (lN a), zl (lN b)] h (fun r h' => r = some (zl (lN (Nat.gcd a b))) ∧ h' = h) := by
  refine zC_of (by decide +kernel) (Nat.le_of_ble_eq_true rfl) (L := [zl (lN a), zu, zl (lN b), zu, zu, zu, zu, zu, zu, zu]) ⟨rfl, ⟨rfl, trivial⟩⟩ ?_
  refine wX12_gcd_0 ?_
  have key : ∀ (n x y : Nat), y ≤ n → x < 2 ^ 62 → y < 2 ^ 62 → zT G (d + 1) mX12_gcd 6 [zl (lN a), zu, zl (lN b), zu, zl (lN x), zu, zl (lN y), zu, zu, zu] [] h (fun r h' => r = some (zl (lN (Nat.gcd y x))) ∧ h' = h) := by
    intro n
    induction n with
    | zero =>
      intro x y hy hx hy2
      have e : y = 0 := by omega
      subst e
      refine wX12_gcd_6 ?_
      rw [Nat.gcd_zero_left]
      exact br_t ((lg_0 (by omega)).mpr rfl) ⟨rfl, rfl⟩
    | succ n ih =>
      intro x y hy hx hy2
      refine wX12_gcd_6 ?_
      by_cases h0 : y = 0
      · subst h0
        rw [Nat.gcd_zero_left]
        exact br_t ((lg_0 (by omega)).mpr rfl) ⟨rfl, rfl⟩
      · refine br_f (fun q => h0 ((lg_0 hy2).mp q)) ⟨fun q => h0 ((lN_eq0 hy2).mp q), ?_⟩
        rw [lN_rem hx hy2 h0, Nat.gcd_rec y x]
        have hr : x % y < y := Nat.mod_lt x (by omega)
        exact ih y (x % y) (by omega) hy2 (by omega)
  have := key b a b (Nat.le_refl _) ha hb
  rw [Nat.gcd_comm] at this
  exact this
end
section
/-! ===== Integer.bitCount, Integer.numberOfTrailingZeros ===== -/
abbrev ushI (x n : Int32) : Int32 := (x.toUInt32 >>> (n.toUInt32 &&& Int32.toUInt32 31)).toInt32
def bcI (x0 : Int32) : Int32 :=
  let y1 := x0 - (ushI x0 1 &&& 1431655765)
  let y2 := (y1 &&& 858993459) + (ushI y1 2 &&& 858993459)
  let y3 := (y2 + ushI y2 4) &&& 252645135
  let y4 := y3 + ushI y3 8
  let y5 := y4 + ushI y4 16
  y5 &&& 63
theorem sJ6_bitCount_0f7a4 {G : ZG} (d : Nat) {h : ZH} {x0 : Int32} : zC G (d + 1) mJ6_bitCount_0f7a4 [zi x0] h (fun r h' => r = some (zi (bcI x0)) ∧ h' = h) := by
  refine zC_of (by decide +kernel) (Nat.le_of_ble_eq_true rfl) (L := [zi x0]) ⟨rfl, trivial⟩ ?_
  refine wJ6_bitCount_0f7a4_0 ?_
  intro y1 e1 y2 e2 y3 e3 y4 e4 y5 e5
  subst e1; subst e2; subst e3; subst e4; subst e5
  exact ⟨rfl, rfl⟩
def zpcF (S : Nat) : Nat := (List.range 12).foldl (fun n p => n + if S.testBit p = true then 1 else 0) 0
theorem zpcF_eq (S : Nat) : zpcF S = zpc S := rfl
theorem bcI_chk : ∀ a, a < 64 → ∀ b, b < 64 → bcI (nI (64 * a + b)) = nI (zpcF (64 * a + b)) := by decide +kernel
theorem bcI_nI {S : Nat} (hS : S < 4096) : bcI (nI S) = nI (zpc S) := by
  have := bcI_chk (S / 64) (by omega) (S % 64) (by omega)
  rw [Nat.div_add_mod S 64] at this
  rw [this, zpcF_eq]
def nz5 (n i : Int32) : Int32 := n + ushI i 1
def nz4 (n i : Int32) : Int32 := if i ≤ 4 then nz5 n i else nz5 (n + 2) (ushI i 2)
def nz3 (n i : Int32) : Int32 := if i ≤ 16 then nz4 n i else nz4 (n + 4) (ushI i 4)
def nz2 (n i : Int32) : Int32 := if i ≤ 256 then nz3 n i else nz3 (n + 8) (ushI i 8)
def nz1 (n i : Int32) : Int32 := if i ≤ 65536 then nz2 n i else nz2 (n + 16) (ushI i 16)
def ntzI (x0 : Int32) : Int32 := if 0 < ((x0 ^^^ (-1)) &&& (x0 - 1)) then nz1 1 ((x0 ^^^ (-1)) &&& (x0 - 1)) else ((x0 ^^^ (-1)) &&& (x0 - 1)) &&& 32
set_option maxHeartbeats 4000000 in
theorem sJ6_numberOfTrailingZeros_0f7a4 {G : ZG} (d : Nat) {h : ZH} {x0 : Int32} : zC G (d + 1) mJ6_numberOfTrailingZeros_0f7a4 [zi x0] h (fun r h' => r = some (zi (ntzI x0)) ∧ h' = h) := by
  refine zC_of (by decide +kernel) (Nat.le_of_ble_eq_true rfl) (L := [zi x0, zu]) ⟨rfl, trivial⟩ ?_
  refine wJ6_numberOfTrailingZeros_0f7a4_0 ?_
  unfold ntzI nz1 nz2 nz3 nz4 nz5
  repeat' (first | (refine br_c ?_ ?_ <;> intro c) | (intro y e; subst e) | fail)
  all_goals (refine ⟨?_, rfl⟩)
  all_goals (refine congrArg (fun z => some (Sum.inl z)) ?_)
  all_goals (simp only [if_pos, if_neg, *, ite_true, ite_false, not_false_eq_true, if_true, if_false])
end
section
/-! ===== the bytecode of these methods, walked (by program): X12_isPlace X12_isThere X12_isLight X12_isArch X12_isAt X12_weight X12_bears X12_isShelf X8_at X4_holds X3_nextChoice X0_weight X0_bears X0_price X2_weight X2_bears X2_price X7_price X11_rowRefused X11_kindRefused ===== -/
theorem kX12_isPlace_0 : zD cX12_isPlace 0 1 (.iload_n 0) 1 := by decide +kernel
theorem kX12_isPlace_1 : zD cX12_isPlace 1 2 (.iconst 0) 1 := by decide +kernel
theorem kX12_isPlace_2 : zD cX12_isPlace 2 4 (.bipush 11) 2 := by decide +kernel
theorem kX12_isPlace_4 : zD cX12_isPlace 4 7 (.invokestatic 53) 3 := by decide +kernel
theorem kX12_isPlace_7 : zD cX12_isPlace 7 8 (.ireturn) 1 := by decide +kernel
set_option maxRecDepth 10000 in
theorem wX12_isPlace_0 {G : ZG} {d : Nat} {h : ZH} {Q : Option ZV → ZH → Prop} {x0 : Int32} 
  (H : Q (some (zi (zb ((0 : Int32) ≤ x0 ∧ x0 ≤ (11 : Int32))))) h) :
  zT G (d + 2) mX12_isPlace 0 [zi x0] [] h Q := by
  refine zt_iload_n kX12_isPlace_0 rfl ?_
  refine zt_iconst (v := 0) kX12_isPlace_1 rfl ?_
  refine zt_bipush (v := 11) kX12_isPlace_2 rfl ?_
  refine zt_cS (as := [zi x0, zi 0, zi 11]) kX12_isPlace_4 sRX12_53 rfl (by simp) rfl (sX12_isIn _  ) (fun r h0 hq => ?_)
  obtain ⟨rfl, hh⟩ := hq
  replace hh := hh.symm
  subst hh
  exact zt_zret kX12_isPlace_7 rfl (zb_01 _) H

theorem kX12_isThere_0 : zD cX12_isThere 0 1 (.aload_n 0) 1 := by decide +kernel
theorem kX12_isThere_1 : zD cX12_isThere 1 4 (.getfield 9) 3 := by decide +kernel
theorem kX12_isThere_4 : zD cX12_isThere 4 5 (.iconst 0) 1 := by decide +kernel
theorem kX12_isThere_5 : zD cX12_isThere 5 6 (.iaload) 1 := by decide +kernel
theorem kX12_isThere_6 : zD cX12_isThere 6 7 (.iload_n 1) 1 := by decide +kernel
theorem kX12_isThere_7 : zD cX12_isThere 7 10 (.invokestatic 57) 3 := by decide +kernel
theorem kX12_isThere_10 : zD cX12_isThere 10 11 (.ireturn) 1 := by decide +kernel
set_option maxRecDepth 10000 in
theorem wX12_isThere_0 {G : ZG} {d : Nat} {h : ZH} {Q : Option ZV → ZH → Prop} {x1 : Int32} 
  (H : Q (some (zi (zb (hasI (h.1 30 0 0) x1)))) h) :
  zT G (d + 2) mX12_isThere 0 [zr 5 0, zi x1] [] h Q := by
  refine zt_aload_n kX12_isThere_0 rfl ?_
  refine zt_get (v := zr 30 0) kX12_isThere_1 fRX12_9 rfl (by decide) rfl ?_
  refine zt_iconst (v := 0) kX12_isThere_4 rfl ?_
  refine zt_ialdc 0 rfl kX12_isThere_5 rfl (by decide) (zvp_dec (by decide)) ?_
  refine zt_iload_n kX12_isThere_6 rfl ?_
  refine zt_cS (as := [zi (h.1 30 0 0), zi x1]) kX12_isThere_7 sRX12_57 rfl (by simp) rfl (sX12_has _  ) (fun r h0 hq => ?_)
  obtain ⟨rfl, hh⟩ := hq
  replace hh := hh.symm
  subst hh
  exact zt_zret kX12_isThere_10 rfl (zb_01 _) H

theorem kX12_isLight_0 : zD cX12_isLight 0 1 (.aload_n 0) 1 := by decide +kernel
theorem kX12_isLight_1 : zD cX12_isLight 1 2 (.iload_n 1) 1 := by decide +kernel
theorem kX12_isLight_2 : zD cX12_isLight 2 5 (.invokevirtual 65) 3 := by decide +kernel
theorem kX12_isLight_5 : zD cX12_isLight 5 6 (.iconst 3) 1 := by decide +kernel
theorem kX12_isLight_6 : zB cX12_isLight 6 9 19 (.if_icmp .eq 13) 13 := by decide +kernel
theorem kX12_isLight_9 : zD cX12_isLight 9 10 (.aload_n 0) 1 := by decide +kernel
theorem kX12_isLight_10 : zD cX12_isLight 10 11 (.iload_n 1) 1 := by decide +kernel
theorem kX12_isLight_11 : zD cX12_isLight 11 14 (.invokevirtual 65) 3 := by decide +kernel
theorem kX12_isLight_14 : zD cX12_isLight 14 16 (.bipush 7) 2 := by decide +kernel
theorem kX12_isLight_16 : zB cX12_isLight 16 19 23 (.if_icmp .ne 7) 7 := by decide +kernel
theorem kX12_isLight_19 : zD cX12_isLight 19 20 (.iconst 1) 1 := by decide +kernel
theorem kX12_isLight_20 : zB cX12_isLight 20 23 24 (.goto 4) 4 := by decide +kernel
theorem kX12_isLight_23 : zD cX12_isLight 23 24 (.iconst 0) 1 := by decide +kernel
theorem kX12_isLight_24 : zD cX12_isLight 24 25 (.ireturn) 1 := by decide +kernel
set_option maxRecDepth 10000 in
theorem wX12_isLight_0 {G : ZG} {d : Nat} {h : ZH} {Q : Option ZV → ZH → Prop} {x1 : Int32} 
  (H : vp_in x1 12 ∧ (((kindI h x1) = 3 → Q (some (zi 1)) h) ∧ (¬ (kindI h x1) = 3 → vp_in x1 12 ∧ ((¬ (kindI h x1) = 7 → Q (some (zi 0)) h) ∧ ((kindI h x1) = 7 → Q (some (zi 1)) h))))) :
  zT G (d + 2) mX12_isLight 0 [zr 5 0, zi x1] [] h Q := by
  refine zt_aload_n kX12_isLight_0 rfl ?_
  refine zt_iload_n kX12_isLight_1 rfl ?_
  obtain ⟨pp0, H⟩ := H
  refine zt_cV (as := [zi x1]) kX12_isLight_2 sRX12_65 rfl (by decide) rfl (by simp) rfl (sX12_kind _  pp0) (fun r h0 hq => ?_)
  obtain ⟨rfl, hh⟩ := hq
  replace hh := hh.symm
  subst hh
  refine zt_iconst (v := 3) kX12_isLight_5 rfl ?_
  refine zt_icmp_eq kX12_isLight_6 (fun c => ?_) (fun c => ?_)
  · replace H := H.1 c
    refine zt_iconst (v := 1) kX12_isLight_19 rfl ?_
    refine zt_goto kX12_isLight_20 ?_
    exact zt_zret kX12_isLight_24 rfl (by decide) H
  · replace H := H.2 c
    refine zt_aload_n kX12_isLight_9 rfl ?_
    refine zt_iload_n kX12_isLight_10 rfl ?_
    obtain ⟨pp0, H⟩ := H
    refine zt_cV (as := [zi x1]) kX12_isLight_11 sRX12_65 rfl (by decide) rfl (by simp) rfl (sX12_kind _  pp0) (fun r h0 hq => ?_)
    obtain ⟨rfl, hh⟩ := hq
    replace hh := hh.symm
    subst hh
    refine zt_bipush (v := 7) kX12_isLight_14 rfl ?_
    refine zt_icmp_ne kX12_isLight_16 (fun c => ?_) (fun c => ?_)
    · replace H := H.1 c
      refine zt_iconst (v := 0) kX12_isLight_23 rfl ?_
      exact zt_zret kX12_isLight_24 rfl (by decide) H
    · replace H := H.2 c
      refine zt_iconst (v := 1) kX12_isLight_19 rfl ?_
      refine zt_goto kX12_isLight_20 ?_
      exact zt_zret kX12_isLight_24 rfl (by decide) H

theorem kX12_isArch_0 : zD cX12_isArch 0 1 (.aload_n 0) 1 := by decide +kernel
theorem kX12_isArch_1 : zD cX12_isArch 1 2 (.iload_n 1) 1 := by decide +kernel
theorem kX12_isArch_2 : zD cX12_isArch 2 5 (.invokevirtual 65) 3 := by decide +kernel
theorem kX12_isArch_5 : zD cX12_isArch 5 6 (.iconst 2) 1 := by decide +kernel
theorem kX12_isArch_6 : zB cX12_isArch 6 9 18 (.if_icmp .eq 12) 12 := by decide +kernel
theorem kX12_isArch_9 : zD cX12_isArch 9 10 (.aload_n 0) 1 := by decide +kernel
theorem kX12_isArch_10 : zD cX12_isArch 10 11 (.iload_n 1) 1 := by decide +kernel
theorem kX12_isArch_11 : zD cX12_isArch 11 14 (.invokevirtual 65) 3 := by decide +kernel
theorem kX12_isArch_14 : zD cX12_isArch 14 15 (.iconst 4) 1 := by decide +kernel
theorem kX12_isArch_15 : zB cX12_isArch 15 18 22 (.if_icmp .ne 7) 7 := by decide +kernel
theorem kX12_isArch_18 : zD cX12_isArch 18 19 (.iconst 1) 1 := by decide +kernel
theorem kX12_isArch_19 : zB cX12_isArch 19 22 23 (.goto 4) 4 := by decide +kernel
theorem kX12_isArch_22 : zD cX12_isArch 22 23 (.iconst 0) 1 := by decide +kernel
theorem kX12_isArch_23 : zD cX12_isArch 23 24 (.ireturn) 1 := by decide +kernel
set_option maxRecDepth 10000 in
theorem wX12_isArch_0 {G : ZG} {d : Nat} {h : ZH} {Q : Option ZV → ZH → Prop} {x1 : Int32} 
  (H : vp_in x1 12 ∧ (((kindI h x1) = 2 → Q (some (zi 1)) h) ∧ (¬ (kindI h x1) = 2 → vp_in x1 12 ∧ ((¬ (kindI h x1) = 4 → Q (some (zi 0)) h) ∧ ((kindI h x1) = 4 → Q (some (zi 1)) h))))) :
  zT G (d + 2) mX12_isArch 0 [zr 5 0, zi x1] [] h Q := by
  refine zt_aload_n kX12_isArch_0 rfl ?_
  refine zt_iload_n kX12_isArch_1 rfl ?_
  obtain ⟨pp0, H⟩ := H
  refine zt_cV (as := [zi x1]) kX12_isArch_2 sRX12_65 rfl (by decide) rfl (by simp) rfl (sX12_kind _  pp0) (fun r h0 hq => ?_)
  obtain ⟨rfl, hh⟩ := hq
  replace hh := hh.symm
  subst hh
  refine zt_iconst (v := 2) kX12_isArch_5 rfl ?_
  refine zt_icmp_eq kX12_isArch_6 (fun c => ?_) (fun c => ?_)
  · replace H := H.1 c
    refine zt_iconst (v := 1) kX12_isArch_18 rfl ?_
    refine zt_goto kX12_isArch_19 ?_
    exact zt_zret kX12_isArch_23 rfl (by decide) H
  · replace H := H.2 c
    refine zt_aload_n kX12_isArch_9 rfl ?_
    refine zt_iload_n kX12_isArch_10 rfl ?_
    obtain ⟨pp0, H⟩ := H
    refine zt_cV (as := [zi x1]) kX12_isArch_11 sRX12_65 rfl (by decide) rfl (by simp) rfl (sX12_kind _  pp0) (fun r h0 hq => ?_)
    obtain ⟨rfl, hh⟩ := hq
    replace hh := hh.symm
    subst hh
    refine zt_iconst (v := 4) kX12_isArch_14 rfl ?_
    refine zt_icmp_ne kX12_isArch_15 (fun c => ?_) (fun c => ?_)
    · replace H := H.1 c
      refine zt_iconst (v := 0) kX12_isArch_22 rfl ?_
      exact zt_zret kX12_isArch_23 rfl (by decide) H
    · replace H := H.2 c
      refine zt_iconst (v := 1) kX12_isArch_18 rfl ?_
      refine zt_goto kX12_isArch_19 ?_
      exact zt_zret kX12_isArch_23 rfl (by decide) H

theorem kX12_isAt_0 : zD cX12_isAt 0 1 (.iload_n 2) 1 := by decide +kernel
theorem kX12_isAt_1 : zD cX12_isAt 1 2 (.iconst 0) 1 := by decide +kernel
theorem kX12_isAt_2 : zD cX12_isAt 2 3 (.iconst 3) 1 := by decide +kernel
theorem kX12_isAt_3 : zD cX12_isAt 3 6 (.invokestatic 53) 3 := by decide +kernel
theorem kX12_isAt_6 : zB cX12_isAt 6 9 25 (.ifCond .eq 19) 19 := by decide +kernel
theorem kX12_isAt_9 : zD cX12_isAt 9 10 (.iload_n 0) 1 := by decide +kernel
theorem kX12_isAt_10 : zD cX12_isAt 10 11 (.iconst 4) 1 := by decide +kernel
theorem kX12_isAt_11 : zD cX12_isAt 11 12 (.iload_n 1) 1 := by decide +kernel
theorem kX12_isAt_12 : zD cX12_isAt 12 13 (.imul) 1 := by decide +kernel
theorem kX12_isAt_13 : zD cX12_isAt 13 14 (.iload_n 2) 1 := by decide +kernel
theorem kX12_isAt_14 : zD cX12_isAt 14 15 (.iadd) 1 := by decide +kernel
theorem kX12_isAt_15 : zD cX12_isAt 15 18 (.invokestatic 57) 3 := by decide +kernel
theorem kX12_isAt_18 : zB cX12_isAt 18 21 25 (.ifCond .eq 7) 7 := by decide +kernel
theorem kX12_isAt_21 : zD cX12_isAt 21 22 (.iconst 1) 1 := by decide +kernel
theorem kX12_isAt_22 : zB cX12_isAt 22 25 26 (.goto 4) 4 := by decide +kernel
theorem kX12_isAt_25 : zD cX12_isAt 25 26 (.iconst 0) 1 := by decide +kernel
theorem kX12_isAt_26 : zD cX12_isAt 26 27 (.ireturn) 1 := by decide +kernel
set_option maxRecDepth 10000 in
theorem wX12_isAt_0 {G : ZG} {d : Nat} {h : ZH} {Q : Option ZV → ZH → Prop} {x0 : Int32} {x1 : Int32} {x2 : Int32} 
  (H : (¬ ((0 : Int32) ≤ x2 ∧ x2 ≤ (3 : Int32)) → Q (some (zi 0)) h) ∧ (((0 : Int32) ≤ x2 ∧ x2 ≤ (3 : Int32)) → (¬ (hasI x0 ((4 * x1) + x2)) → Q (some (zi 0)) h) ∧ ((hasI x0 ((4 * x1) + x2)) → Q (some (zi 1)) h))) :
  zT G (d + 2) mX12_isAt 0 [zi x0, zi x1, zi x2] [] h Q := by
  refine zt_iload_n kX12_isAt_0 rfl ?_
  refine zt_iconst (v := 0) kX12_isAt_1 rfl ?_
  refine zt_iconst (v := 3) kX12_isAt_2 rfl ?_
  refine zt_cS (as := [zi x2, zi 0, zi 3]) kX12_isAt_3 sRX12_53 rfl (by simp) rfl (sX12_isIn _  ) (fun r h0 hq => ?_)
  obtain ⟨rfl, hh⟩ := hq
  replace hh := hh.symm
  subst hh
  refine zt_ifb_eq kX12_isAt_6 (fun c => ?_) (fun c => ?_)
  · replace H := H.1 c
    refine zt_iconst (v := 0) kX12_isAt_25 rfl ?_
    exact zt_zret kX12_isAt_26 rfl (by decide) H
  · replace H := H.2 c
    refine zt_iload_n kX12_isAt_9 rfl ?_
    refine zt_iconst (v := 4) kX12_isAt_10 rfl ?_
    refine zt_iload_n kX12_isAt_11 rfl ?_
    refine zt_imul kX12_isAt_12 ?_
    refine zt_iload_n kX12_isAt_13 rfl ?_
    refine zt_iadd kX12_isAt_14 ?_
    refine zt_cS (as := [zi x0, zi ((4 * x1) + x2)]) kX12_isAt_15 sRX12_57 rfl (by simp) rfl (sX12_has _  ) (fun r h0 hq => ?_)
    obtain ⟨rfl, hh⟩ := hq
    replace hh := hh.symm
    subst hh
    refine zt_ifb_eq kX12_isAt_18 (fun c => ?_) (fun c => ?_)
    · replace H := H.1 c
      refine zt_iconst (v := 0) kX12_isAt_25 rfl ?_
      exact zt_zret kX12_isAt_26 rfl (by decide) H
    · replace H := H.2 c
      refine zt_iconst (v := 1) kX12_isAt_21 rfl ?_
      refine zt_goto kX12_isAt_22 ?_
      exact zt_zret kX12_isAt_26 rfl (by decide) H

theorem kX12_weight_0 : zD cX12_weight 0 1 (.aload_n 0) 1 := by decide +kernel
theorem kX12_weight_1 : zD cX12_weight 1 2 (.iload_n 1) 1 := by decide +kernel
theorem kX12_weight_2 : zD cX12_weight 2 5 (.invokevirtual 61) 3 := by decide +kernel
theorem kX12_weight_5 : zD cX12_weight 5 6 (.istore_n 2) 1 := by decide +kernel
theorem kX12_weight_6 : zD cX12_weight 6 7 (.aload_n 0) 1 := by decide +kernel
theorem kX12_weight_7 : zD cX12_weight 7 8 (.iload_n 1) 1 := by decide +kernel
theorem kX12_weight_8 : zD cX12_weight 8 11 (.invokevirtual 65) 3 := by decide +kernel
theorem kX12_weight_11 : decode cX12_weight 11 = .ok (.tableswitch 65 1 7 #[41, 45, 49, 51, 41, 57, 63], 41) := by decide +kernel
theorem kX12_weight_52 : zD cX12_weight 52 53 (.iconst 5) 1 := by decide +kernel
theorem kX12_weight_53 : zD cX12_weight 53 54 (.iload_n 2) 1 := by decide +kernel
theorem kX12_weight_54 : zD cX12_weight 54 55 (.iadd) 1 := by decide +kernel
theorem kX12_weight_55 : zD cX12_weight 55 56 (.ireturn) 1 := by decide +kernel
theorem kX12_weight_56 : zD cX12_weight 56 57 (.iconst 1) 1 := by decide +kernel
theorem kX12_weight_57 : zD cX12_weight 57 58 (.iload_n 2) 1 := by decide +kernel
theorem kX12_weight_58 : zD cX12_weight 58 59 (.iadd) 1 := by decide +kernel
theorem kX12_weight_59 : zD cX12_weight 59 60 (.ireturn) 1 := by decide +kernel
theorem kX12_weight_60 : zD cX12_weight 60 61 (.iconst 1) 1 := by decide +kernel
theorem kX12_weight_61 : zD cX12_weight 61 62 (.ireturn) 1 := by decide +kernel
theorem kX12_weight_62 : zD cX12_weight 62 63 (.iconst 1) 1 := by decide +kernel
theorem kX12_weight_63 : zD cX12_weight 63 64 (.iconst 2) 1 := by decide +kernel
theorem kX12_weight_64 : zD cX12_weight 64 65 (.iload_n 2) 1 := by decide +kernel
theorem kX12_weight_65 : zD cX12_weight 65 66 (.imul) 1 := by decide +kernel
theorem kX12_weight_66 : zD cX12_weight 66 67 (.iadd) 1 := by decide +kernel
theorem kX12_weight_67 : zD cX12_weight 67 68 (.ireturn) 1 := by decide +kernel
theorem kX12_weight_68 : zD cX12_weight 68 69 (.iconst 2) 1 := by decide +kernel
theorem kX12_weight_69 : zD cX12_weight 69 70 (.iconst 2) 1 := by decide +kernel
theorem kX12_weight_70 : zD cX12_weight 70 71 (.iload_n 2) 1 := by decide +kernel
theorem kX12_weight_71 : zD cX12_weight 71 72 (.imul) 1 := by decide +kernel
theorem kX12_weight_72 : zD cX12_weight 72 73 (.iadd) 1 := by decide +kernel
theorem kX12_weight_73 : zD cX12_weight 73 74 (.ireturn) 1 := by decide +kernel
theorem kX12_weight_74 : zD cX12_weight 74 75 (.iconst 0) 1 := by decide +kernel
theorem kX12_weight_75 : zD cX12_weight 75 76 (.ireturn) 1 := by decide +kernel
theorem kX12_weight_76 : zD cX12_weight 76 77 (.iconst 2) 1 := by decide +kernel
theorem kX12_weight_77 : zD cX12_weight 77 78 (.iload_n 2) 1 := by decide +kernel
theorem kX12_weight_78 : zD cX12_weight 78 79 (.iadd) 1 := by decide +kernel
theorem kX12_weight_79 : zD cX12_weight 79 80 (.ireturn) 1 := by decide +kernel
set_option maxRecDepth 10000 in
theorem wX12_weight_0 {G : ZG} {d : Nat} {h : ZH} {Q : Option ZV → ZH → Prop} {x1 : Int32} 
  (H : vp_in x1 12 ∧ (vp_in x1 12 ∧ (((kindI h x1) = 1 → Q (some (zi (5 + (figI h x1)))) h) ∧ (¬ (kindI h x1) = 1 → ((kindI h x1) = 2 → Q (some (zi (1 + (figI h x1)))) h) ∧ (¬ (kindI h x1) = 2 → ((kindI h x1) = 3 → Q (some (zi 1)) h) ∧ (¬ (kindI h x1) = 3 → ((kindI h x1) = 4 → Q (some (zi (1 + (2 * (figI h x1))))) h) ∧ (¬ (kindI h x1) = 4 → ((kindI h x1) = 5 → Q (some (zi (5 + (figI h x1)))) h) ∧ (¬ (kindI h x1) = 5 → ((kindI h x1) = 6 → Q (some (zi (2 + (2 * (figI h x1))))) h) ∧ (¬ (kindI h x1) = 6 → ((kindI h x1) = 7 → Q (some (zi 0)) h) ∧ (¬ (kindI h x1) = 7 → Q (some (zi (2 + (figI h x1)))) h)))))))))) :
  zT G (d + 2) mX12_weight 0 [zr 5 0, zi x1, zu] [] h Q := by
  refine zt_aload_n kX12_weight_0 rfl ?_
  refine zt_iload_n kX12_weight_1 rfl ?_
  obtain ⟨pp0, H⟩ := H
  refine zt_cV (as := [zi x1]) kX12_weight_2 sRX12_61 rfl (by decide) rfl (by simp) rfl (sX12_figure _  pp0) (fun r h0 hq => ?_)
  obtain ⟨rfl, hh⟩ := hq
  replace hh := hh.symm
  subst hh
  refine zt_istore_n (L' := [zr 5 0, zi x1, zi (figI h x1)]) kX12_weight_5 (by decide) rfl ?_
  refine zt_aload_n kX12_weight_6 rfl ?_
  refine zt_iload_n kX12_weight_7 rfl ?_
  obtain ⟨pp0, H⟩ := H
  refine zt_cV (as := [zi x1]) kX12_weight_8 sRX12_65 rfl (by decide) rfl (by simp) rfl (sX12_kind _  pp0) (fun r h0 hq => ?_)
  obtain ⟨rfl, hh⟩ := hq
  replace hh := hh.symm
  subst hh
  rcases Classical.em ((kindI h x1) = 1) with c0 | c0
  · replace H := H.1 c0
    refine zt_tabIn (tgt := 52) kX12_weight_11 (by rw [c0]; decide) (by rw [c0]; decide) (by rw [c0]; rfl) (by decide) ?_
    refine zt_iconst (v := 5) kX12_weight_52 rfl ?_
    refine zt_iload_n kX12_weight_53 rfl ?_
    refine zt_iadd kX12_weight_54 ?_
    exact zt_iret kX12_weight_55 rfl H
  replace H := H.2 c0
  rcases Classical.em ((kindI h x1) = 2) with c1 | c1
  · replace H := H.1 c1
    refine zt_tabIn (tgt := 56) kX12_weight_11 (by rw [c1]; decide) (by rw [c1]; decide) (by rw [c1]; rfl) (by decide) ?_
    refine zt_iconst (v := 1) kX12_weight_56 rfl ?_
    refine zt_iload_n kX12_weight_57 rfl ?_
    refine zt_iadd kX12_weight_58 ?_
    exact zt_iret kX12_weight_59 rfl H
  replace H := H.2 c1
  rcases Classical.em ((kindI h x1) = 3) with c2 | c2
  · replace H := H.1 c2
    refine zt_tabIn (tgt := 60) kX12_weight_11 (by rw [c2]; decide) (by rw [c2]; decide) (by rw [c2]; rfl) (by decide) ?_
    refine zt_iconst (v := 1) kX12_weight_60 rfl ?_
    exact zt_iret kX12_weight_61 rfl H
  replace H := H.2 c2
  rcases Classical.em ((kindI h x1) = 4) with c3 | c3
  · replace H := H.1 c3
    refine zt_tabIn (tgt := 62) kX12_weight_11 (by rw [c3]; decide) (by rw [c3]; decide) (by rw [c3]; rfl) (by decide) ?_
    refine zt_iconst (v := 1) kX12_weight_62 rfl ?_
    refine zt_iconst (v := 2) kX12_weight_63 rfl ?_
    refine zt_iload_n kX12_weight_64 rfl ?_
    refine zt_imul kX12_weight_65 ?_
    refine zt_iadd kX12_weight_66 ?_
    exact zt_iret kX12_weight_67 rfl H
  replace H := H.2 c3
  rcases Classical.em ((kindI h x1) = 5) with c4 | c4
  · replace H := H.1 c4
    refine zt_tabIn (tgt := 52) kX12_weight_11 (by rw [c4]; decide) (by rw [c4]; decide) (by rw [c4]; rfl) (by decide) ?_
    refine zt_iconst (v := 5) kX12_weight_52 rfl ?_
    refine zt_iload_n kX12_weight_53 rfl ?_
    refine zt_iadd kX12_weight_54 ?_
    exact zt_iret kX12_weight_55 rfl H
  replace H := H.2 c4
  rcases Classical.em ((kindI h x1) = 6) with c5 | c5
  · replace H := H.1 c5
    refine zt_tabIn (tgt := 68) kX12_weight_11 (by rw [c5]; decide) (by rw [c5]; decide) (by rw [c5]; rfl) (by decide) ?_
    refine zt_iconst (v := 2) kX12_weight_68 rfl ?_
    refine zt_iconst (v := 2) kX12_weight_69 rfl ?_
    refine zt_iload_n kX12_weight_70 rfl ?_
    refine zt_imul kX12_weight_71 ?_
    refine zt_iadd kX12_weight_72 ?_
    exact zt_iret kX12_weight_73 rfl H
  replace H := H.2 c5
  rcases Classical.em ((kindI h x1) = 7) with c6 | c6
  · replace H := H.1 c6
    refine zt_tabIn (tgt := 74) kX12_weight_11 (by rw [c6]; decide) (by rw [c6]; decide) (by rw [c6]; rfl) (by decide) ?_
    refine zt_iconst (v := 0) kX12_weight_74 rfl ?_
    exact zt_iret kX12_weight_75 rfl H
  replace H := H.2 c6
  refine zt_tabOut (tgt := 76) kX12_weight_11 (by have n0 := lv_neT (a := 1) c0 rfl; have n1 := lv_neT (a := 2) c1 rfl; have n2 := lv_neT (a := 3) c2 rfl; have n3 := lv_neT (a := 4) c3 rfl; have n4 := lv_neT (a := 5) c4 rfl; have n5 := lv_neT (a := 6) c5 rfl; have n6 := lv_neT (a := 7) c6 rfl; omega) (by decide) ?_
  refine zt_iconst (v := 2) kX12_weight_76 rfl ?_
  refine zt_iload_n kX12_weight_77 rfl ?_
  refine zt_iadd kX12_weight_78 ?_
  exact zt_iret kX12_weight_79 rfl H

theorem kX12_bears_0 : zD cX12_bears 0 1 (.aload_n 0) 1 := by decide +kernel
theorem kX12_bears_1 : zD cX12_bears 1 2 (.iload_n 1) 1 := by decide +kernel
theorem kX12_bears_2 : zD cX12_bears 2 5 (.invokevirtual 65) 3 := by decide +kernel
theorem kX12_bears_5 : decode cX12_bears 5 = .ok (.tableswitch 74 1 7 #[43, 55, 67, 58, 46, 69, 72], 43) := by decide +kernel
theorem kX12_bears_48 : zD cX12_bears 48 50 (.bipush 40) 2 := by decide +kernel
theorem kX12_bears_50 : zD cX12_bears 50 51 (.ireturn) 1 := by decide +kernel
theorem kX12_bears_51 : zD cX12_bears 51 53 (.bipush 40) 2 := by decide +kernel
theorem kX12_bears_53 : zD cX12_bears 53 54 (.aload_n 0) 1 := by decide +kernel
theorem kX12_bears_54 : zD cX12_bears 54 55 (.iload_n 1) 1 := by decide +kernel
theorem kX12_bears_55 : zD cX12_bears 55 58 (.invokevirtual 61) 3 := by decide +kernel
theorem kX12_bears_58 : zD cX12_bears 58 59 (.isub) 1 := by decide +kernel
theorem kX12_bears_59 : zD cX12_bears 59 60 (.ireturn) 1 := by decide +kernel
theorem kX12_bears_60 : zD cX12_bears 60 62 (.bipush 12) 2 := by decide +kernel
theorem kX12_bears_62 : zD cX12_bears 62 63 (.ireturn) 1 := by decide +kernel
theorem kX12_bears_63 : zD cX12_bears 63 65 (.bipush 12) 2 := by decide +kernel
theorem kX12_bears_65 : zD cX12_bears 65 66 (.aload_n 0) 1 := by decide +kernel
theorem kX12_bears_66 : zD cX12_bears 66 67 (.iload_n 1) 1 := by decide +kernel
theorem kX12_bears_67 : zD cX12_bears 67 70 (.invokevirtual 61) 3 := by decide +kernel
theorem kX12_bears_70 : zD cX12_bears 70 71 (.iadd) 1 := by decide +kernel
theorem kX12_bears_71 : zD cX12_bears 71 72 (.ireturn) 1 := by decide +kernel
theorem kX12_bears_72 : zD cX12_bears 72 73 (.iconst 3) 1 := by decide +kernel
theorem kX12_bears_73 : zD cX12_bears 73 74 (.ireturn) 1 := by decide +kernel
theorem kX12_bears_74 : zD cX12_bears 74 76 (.bipush 6) 2 := by decide +kernel
theorem kX12_bears_76 : zD cX12_bears 76 77 (.ireturn) 1 := by decide +kernel
theorem kX12_bears_77 : zD cX12_bears 77 78 (.iconst 0) 1 := by decide +kernel
theorem kX12_bears_78 : zD cX12_bears 78 79 (.ireturn) 1 := by decide +kernel
theorem kX12_bears_79 : zD cX12_bears 79 81 (.bipush 20) 2 := by decide +kernel
theorem kX12_bears_81 : zD cX12_bears 81 82 (.ireturn) 1 := by decide +kernel
set_option maxRecDepth 10000 in
theorem wX12_bears_0 {G : ZG} {d : Nat} {h : ZH} {Q : Option ZV → ZH → Prop} {x1 : Int32} 
  (H : vp_in x1 12 ∧ (((kindI h x1) = 1 → Q (some (zi 40)) h) ∧ (¬ (kindI h x1) = 1 → ((kindI h x1) = 2 → Q (some (zi 12)) h) ∧ (¬ (kindI h x1) = 2 → ((kindI h x1) = 3 → Q (some (zi 3)) h) ∧ (¬ (kindI h x1) = 3 → ((kindI h x1) = 4 → vp_in x1 12 ∧ (Q (some (zi (12 + (figI h x1)))) h)) ∧ (¬ (kindI h x1) = 4 → ((kindI h x1) = 5 → vp_in x1 12 ∧ (Q (some (zi (40 - (figI h x1)))) h)) ∧ (¬ (kindI h x1) = 5 → ((kindI h x1) = 6 → Q (some (zi 6)) h) ∧ (¬ (kindI h x1) = 6 → ((kindI h x1) = 7 → Q (some (zi 0)) h) ∧ (¬ (kindI h x1) = 7 → Q (some (zi 20)) h))))))))) :
  zT G (d + 2) mX12_bears 0 [zr 5 0, zi x1] [] h Q := by
  refine zt_aload_n kX12_bears_0 rfl ?_
  refine zt_iload_n kX12_bears_1 rfl ?_
  obtain ⟨pp0, H⟩ := H
  refine zt_cV (as := [zi x1]) kX12_bears_2 sRX12_65 rfl (by decide) rfl (by simp) rfl (sX12_kind _  pp0) (fun r h0 hq => ?_)
  obtain ⟨rfl, hh⟩ := hq
  replace hh := hh.symm
  subst hh
  rcases Classical.em ((kindI h x1) = 1) with c0 | c0
  · replace H := H.1 c0
    refine zt_tabIn (tgt := 48) kX12_bears_5 (by rw [c0]; decide) (by rw [c0]; decide) (by rw [c0]; rfl) (by decide) ?_
    refine zt_bipush (v := 40) kX12_bears_48 rfl ?_
    exact zt_iret kX12_bears_50 rfl H
  replace H := H.2 c0
  rcases Classical.em ((kindI h x1) = 2) with c1 | c1
  · replace H := H.1 c1
    refine zt_tabIn (tgt := 60) kX12_bears_5 (by rw [c1]; decide) (by rw [c1]; decide) (by rw [c1]; rfl) (by decide) ?_
    refine zt_bipush (v := 12) kX12_bears_60 rfl ?_
    exact zt_iret kX12_bears_62 rfl H
  replace H := H.2 c1
  rcases Classical.em ((kindI h x1) = 3) with c2 | c2
  · replace H := H.1 c2
    refine zt_tabIn (tgt := 72) kX12_bears_5 (by rw [c2]; decide) (by rw [c2]; decide) (by rw [c2]; rfl) (by decide) ?_
    refine zt_iconst (v := 3) kX12_bears_72 rfl ?_
    exact zt_iret kX12_bears_73 rfl H
  replace H := H.2 c2
  rcases Classical.em ((kindI h x1) = 4) with c3 | c3
  · replace H := H.1 c3
    refine zt_tabIn (tgt := 63) kX12_bears_5 (by rw [c3]; decide) (by rw [c3]; decide) (by rw [c3]; rfl) (by decide) ?_
    refine zt_bipush (v := 12) kX12_bears_63 rfl ?_
    refine zt_aload_n kX12_bears_65 rfl ?_
    refine zt_iload_n kX12_bears_66 rfl ?_
    obtain ⟨pp0, H⟩ := H
    refine zt_cV (as := [zi x1]) kX12_bears_67 sRX12_61 rfl (by decide) rfl (by simp) rfl (sX12_figure _  pp0) (fun r h0 hq => ?_)
    obtain ⟨rfl, hh⟩ := hq
    replace hh := hh.symm
    subst hh
    refine zt_iadd kX12_bears_70 ?_
    exact zt_iret kX12_bears_71 rfl H
  replace H := H.2 c3
  rcases Classical.em ((kindI h x1) = 5) with c4 | c4
  · replace H := H.1 c4
    refine zt_tabIn (tgt := 51) kX12_bears_5 (by rw [c4]; decide) (by rw [c4]; decide) (by rw [c4]; rfl) (by decide) ?_
    refine zt_bipush (v := 40) kX12_bears_51 rfl ?_
    refine zt_aload_n kX12_bears_53 rfl ?_
    refine zt_iload_n kX12_bears_54 rfl ?_
    obtain ⟨pp0, H⟩ := H
    refine zt_cV (as := [zi x1]) kX12_bears_55 sRX12_61 rfl (by decide) rfl (by simp) rfl (sX12_figure _  pp0) (fun r h0 hq => ?_)
    obtain ⟨rfl, hh⟩ := hq
    replace hh := hh.symm
    subst hh
    refine zt_isub kX12_bears_58 ?_
    exact zt_iret kX12_bears_59 rfl H
  replace H := H.2 c4
  rcases Classical.em ((kindI h x1) = 6) with c5 | c5
  · replace H := H.1 c5
    refine zt_tabIn (tgt := 74) kX12_bears_5 (by rw [c5]; decide) (by rw [c5]; decide) (by rw [c5]; rfl) (by decide) ?_
    refine zt_bipush (v := 6) kX12_bears_74 rfl ?_
    exact zt_iret kX12_bears_76 rfl H
  replace H := H.2 c5
  rcases Classical.em ((kindI h x1) = 7) with c6 | c6
  · replace H := H.1 c6
    refine zt_tabIn (tgt := 77) kX12_bears_5 (by rw [c6]; decide) (by rw [c6]; decide) (by rw [c6]; rfl) (by decide) ?_
    refine zt_iconst (v := 0) kX12_bears_77 rfl ?_
    exact zt_iret kX12_bears_78 rfl H
  replace H := H.2 c6
  refine zt_tabOut (tgt := 79) kX12_bears_5 (by have n0 := lv_neT (a := 1) c0 rfl; have n1 := lv_neT (a := 2) c1 rfl; have n2 := lv_neT (a := 3) c2 rfl; have n3 := lv_neT (a := 4) c3 rfl; have n4 := lv_neT (a := 5) c4 rfl; have n5 := lv_neT (a := 6) c5 rfl; have n6 := lv_neT (a := 7) c6 rfl; omega) (by decide) ?_
  refine zt_bipush (v := 20) kX12_bears_79 rfl ?_
  exact zt_iret kX12_bears_81 rfl H

theorem kX12_isShelf_0 : zD cX12_isShelf 0 1 (.iload_n 0) 1 := by decide +kernel
theorem kX12_isShelf_1 : zD cX12_isShelf 1 2 (.iconst 0) 1 := by decide +kernel
theorem kX12_isShelf_2 : zD cX12_isShelf 2 4 (.bipush 7) 2 := by decide +kernel
theorem kX12_isShelf_4 : zD cX12_isShelf 4 7 (.invokestatic 53) 3 := by decide +kernel
theorem kX12_isShelf_7 : zD cX12_isShelf 7 8 (.ireturn) 1 := by decide +kernel
set_option maxRecDepth 10000 in
theorem wX12_isShelf_0 {G : ZG} {d : Nat} {h : ZH} {Q : Option ZV → ZH → Prop} {x0 : Int32} 
  (H : Q (some (zi (zb ((0 : Int32) ≤ x0 ∧ x0 ≤ (7 : Int32))))) h) :
  zT G (d + 2) mX12_isShelf 0 [zi x0] [] h Q := by
  refine zt_iload_n kX12_isShelf_0 rfl ?_
  refine zt_iconst (v := 0) kX12_isShelf_1 rfl ?_
  refine zt_bipush (v := 7) kX12_isShelf_2 rfl ?_
  refine zt_cS (as := [zi x0, zi 0, zi 7]) kX12_isShelf_4 sRX12_53 rfl (by simp) rfl (sX12_isIn _  ) (fun r h0 hq => ?_)
  obtain ⟨rfl, hh⟩ := hq
  replace hh := hh.symm
  subst hh
  exact zt_zret kX12_isShelf_7 rfl (zb_01 _) H

theorem kX8_at_0 : zD cX8_at 0 1 (.aload_n 0) 1 := by decide +kernel
theorem kX8_at_1 : zD cX8_at 1 2 (.iload_n 1) 1 := by decide +kernel
theorem kX8_at_2 : zD cX8_at 2 5 (.invokevirtual 37) 3 := by decide +kernel
theorem kX8_at_5 : zB cX8_at 5 8 17 (.ifCond .eq 12) 12 := by decide +kernel
theorem kX8_at_8 : zD cX8_at 8 9 (.aload_n 0) 1 := by decide +kernel
theorem kX8_at_9 : zD cX8_at 9 12 (.getfield 27) 3 := by decide +kernel
theorem kX8_at_12 : zD cX8_at 12 13 (.iload_n 1) 1 := by decide +kernel
theorem kX8_at_13 : zD cX8_at 13 14 (.iaload) 1 := by decide +kernel
theorem kX8_at_14 : zB cX8_at 14 17 18 (.goto 4) 4 := by decide +kernel
theorem kX8_at_17 : zD cX8_at 17 18 (.iconst (-1)) 1 := by decide +kernel
theorem kX8_at_18 : zD cX8_at 18 19 (.ireturn) 1 := by decide +kernel
set_option maxRecDepth 10000 in
theorem wX8_at_0 {G : ZG} {d : Nat} {h : ZH} {Q : Option ZV → ZH → Prop} {i0 : Nat} {x1 : Int32} (hi0 : i0 < zcnt 3)
  (H : (¬ (0 ≤ x1 ∧ x1 < h.1 3 i0 4) → Q (some (zi (-1))) h) ∧ ((0 ≤ x1 ∧ x1 < h.1 3 i0 4) → vp_in x1 100 ∧ Q (some (zi (h.1 16 i0 x1.toNatClampNeg))) h)) :
  zT G (d + 2) mX8_at 0 [zr 3 i0, zi x1] [] h Q := by
  refine zt_aload_n kX8_at_0 rfl ?_
  refine zt_iload_n kX8_at_1 rfl ?_
  refine zt_cV (as := [zi x1]) kX8_at_2 sRX8_37 rfl hi0 rfl (by simp) rfl (sX8_hasPlace _ hi0 ) (fun r h0 hq => ?_)
  obtain ⟨rfl, hh⟩ := hq
  replace hh := hh.symm
  subst hh
  refine zt_ifb_eq kX8_at_5 (fun c => ?_) (fun c => ?_)
  · replace H := H.1 c
    refine zt_iconst (v := (-1)) kX8_at_17 rfl ?_
    exact zt_iret kX8_at_18 rfl H
  · replace H := H.2 c
    refine zt_aload_n kX8_at_8 rfl ?_
    refine zt_get (v := zr 16 i0) kX8_at_9 fRX8_27 rfl hi0 rfl ?_
    refine zt_iload_n kX8_at_12 rfl ?_
    obtain ⟨hv, H⟩ := H
    refine zt_iald kX8_at_13 rfl hi0 hv ?_
    refine zt_goto kX8_at_14 ?_
    exact zt_iret kX8_at_18 rfl H

theorem kX4_holds_0 : zD cX4_holds 0 1 (.aload_n 0) 1 := by decide +kernel
theorem kX4_holds_1 : zD cX4_holds 1 4 (.getfield 30) 3 := by decide +kernel
theorem kX4_holds_4 : zD cX4_holds 4 5 (.iload_n 1) 1 := by decide +kernel
theorem kX4_holds_5 : zD cX4_holds 5 8 (.invokestatic 43) 3 := by decide +kernel
theorem kX4_holds_8 : zD cX4_holds 8 9 (.ireturn) 1 := by decide +kernel
set_option maxRecDepth 10000 in
theorem wX4_holds_0 {G : ZG} {d : Nat} {h : ZH} {Q : Option ZV → ZH → Prop} {i0 : Nat} {x1 : Int32} (hi0 : i0 < zcnt 2)
  (H : Q (some (zi (zb (hasI (h.1 2 i0 6) x1)))) h) :
  zT G (d + 2) mX4_holds 0 [zr 2 i0, zi x1] [] h Q := by
  refine zt_aload_n kX4_holds_0 rfl ?_
  refine zt_get (v := zi (h.1 2 i0 6)) kX4_holds_1 fRX4_30 rfl hi0 rfl ?_
  refine zt_iload_n kX4_holds_4 rfl ?_
  refine zt_cS (as := [zi (h.1 2 i0 6), zi x1]) kX4_holds_5 sRX4_43 rfl (by simp) rfl (sX4_has _  ) (fun r h0 hq => ?_)
  obtain ⟨rfl, hh⟩ := hq
  replace hh := hh.symm
  subst hh
  exact zt_zret kX4_holds_8 rfl (zb_01 _) H

theorem kX3_nextChoice_0 : zD cX3_nextChoice 0 1 (.iconst 2) 1 := by decide +kernel
theorem kX3_nextChoice_1 : zD cX3_nextChoice 1 2 (.iload_n 0) 1 := by decide +kernel
theorem kX3_nextChoice_2 : zD cX3_nextChoice 2 5 (.invokestatic 56) 3 := by decide +kernel
theorem kX3_nextChoice_5 : zD cX3_nextChoice 5 6 (.ishl) 1 := by decide +kernel
theorem kX3_nextChoice_6 : zD cX3_nextChoice 6 7 (.iconst 1) 1 := by decide +kernel
theorem kX3_nextChoice_7 : zD cX3_nextChoice 7 8 (.isub) 1 := by decide +kernel
theorem kX3_nextChoice_8 : zD cX3_nextChoice 8 9 (.istore_n 1) 1 := by decide +kernel
theorem kX3_nextChoice_9 : zD cX3_nextChoice 9 10 (.iload_n 0) 1 := by decide +kernel
theorem kX3_nextChoice_10 : zB cX3_nextChoice 10 13 15 (.ifCond .ne 5) 5 := by decide +kernel
theorem kX3_nextChoice_13 : zD cX3_nextChoice 13 14 (.iload_n 1) 1 := by decide +kernel
theorem kX3_nextChoice_14 : zD cX3_nextChoice 14 15 (.ireturn) 1 := by decide +kernel
theorem kX3_nextChoice_15 : zD cX3_nextChoice 15 16 (.iload_n 0) 1 := by decide +kernel
theorem kX3_nextChoice_16 : zD cX3_nextChoice 16 17 (.iload_n 0) 1 := by decide +kernel
theorem kX3_nextChoice_17 : zD cX3_nextChoice 17 18 (.iload_n 0) 1 := by decide +kernel
theorem kX3_nextChoice_18 : zD cX3_nextChoice 18 19 (.ineg) 1 := by decide +kernel
theorem kX3_nextChoice_19 : zD cX3_nextChoice 19 20 (.iand) 1 := by decide +kernel
theorem kX3_nextChoice_20 : zD cX3_nextChoice 20 21 (.iadd) 1 := by decide +kernel
theorem kX3_nextChoice_21 : zD cX3_nextChoice 21 22 (.istore_n 2) 1 := by decide +kernel
theorem kX3_nextChoice_22 : zD cX3_nextChoice 22 23 (.iload_n 0) 1 := by decide +kernel
theorem kX3_nextChoice_23 : zD cX3_nextChoice 23 24 (.iload_n 2) 1 := by decide +kernel
theorem kX3_nextChoice_24 : zD cX3_nextChoice 24 25 (.ixor) 1 := by decide +kernel
theorem kX3_nextChoice_25 : zD cX3_nextChoice 25 26 (.iconst 2) 1 := by decide +kernel
theorem kX3_nextChoice_26 : zD cX3_nextChoice 26 27 (.iload_n 0) 1 := by decide +kernel
theorem kX3_nextChoice_27 : zD cX3_nextChoice 27 30 (.invokestatic 72) 3 := by decide +kernel
theorem kX3_nextChoice_30 : zD cX3_nextChoice 30 31 (.iadd) 1 := by decide +kernel
theorem kX3_nextChoice_31 : zD cX3_nextChoice 31 32 (.iushr) 1 := by decide +kernel
theorem kX3_nextChoice_32 : zD cX3_nextChoice 32 33 (.istore_n 3) 1 := by decide +kernel
theorem kX3_nextChoice_33 : zD cX3_nextChoice 33 34 (.iload_n 2) 1 := by decide +kernel
theorem kX3_nextChoice_34 : zD cX3_nextChoice 34 35 (.iload_n 3) 1 := by decide +kernel
theorem kX3_nextChoice_35 : zD cX3_nextChoice 35 36 (.ior) 1 := by decide +kernel
theorem kX3_nextChoice_36 : zD cX3_nextChoice 36 39 (.sipush 4095) 3 := by decide +kernel
theorem kX3_nextChoice_39 : zB cX3_nextChoice 39 42 48 (.if_icmp .gt 9) 9 := by decide +kernel
theorem kX3_nextChoice_42 : zD cX3_nextChoice 42 43 (.iload_n 2) 1 := by decide +kernel
theorem kX3_nextChoice_43 : zD cX3_nextChoice 43 44 (.iload_n 3) 1 := by decide +kernel
theorem kX3_nextChoice_44 : zD cX3_nextChoice 44 45 (.ior) 1 := by decide +kernel
theorem kX3_nextChoice_45 : zB cX3_nextChoice 45 48 49 (.goto 4) 4 := by decide +kernel
theorem kX3_nextChoice_48 : zD cX3_nextChoice 48 49 (.iload_n 1) 1 := by decide +kernel
theorem kX3_nextChoice_49 : zD cX3_nextChoice 49 50 (.ireturn) 1 := by decide +kernel
set_option maxRecDepth 10000 in
theorem wX3_nextChoice_0 {G : ZG} {d : Nat} {h : ZH} {Q : Option ZV → ZH → Prop} {x0 : Int32} 
  (H : (¬ x0 = 0 → ∀ y1 : Int32, y1 = ((((x0 ^^^ (x0 + (x0 &&& (-x0))))).toUInt32 >>> (((2 + (ntzI x0)) : Int32).toUInt32 &&& Int32.toUInt32 31)).toInt32) → (4095 < ((x0 + (x0 &&& (-x0))) ||| y1) → Q (some (zi (((2 : Int32) <<< ((bcI x0) &&& 31)) - 1))) h) ∧ (¬ 4095 < ((x0 + (x0 &&& (-x0))) ||| y1) → Q (some (zi ((x0 + (x0 &&& (-x0))) ||| y1))) h)) ∧ (x0 = 0 → Q (some (zi (((2 : Int32) <<< ((bcI x0) &&& 31)) - 1))) h)) :
  zT G (d + 2) mX3_nextChoice 0 [zi x0, zu, zu, zu] [] h Q := by
  refine zt_iconst (v := 2) kX3_nextChoice_0 rfl ?_
  refine zt_iload_n kX3_nextChoice_1 rfl ?_
  refine zt_cS (as := [zi x0]) kX3_nextChoice_2 sRX3_56 rfl (by simp) rfl (sJ6_bitCount_0f7a4 _  ) (fun r h0 hq => ?_)
  obtain ⟨rfl, hh⟩ := hq
  replace hh := hh.symm
  subst hh
  refine zt_ishl kX3_nextChoice_5 ?_
  refine zt_iconst (v := 1) kX3_nextChoice_6 rfl ?_
  refine zt_isub kX3_nextChoice_7 ?_
  refine zt_istore_n (L' := [zi x0, zi (((2 : Int32) <<< ((bcI x0) &&& 31)) - 1), zu, zu]) kX3_nextChoice_8 (by decide) rfl ?_
  refine zt_iload_n kX3_nextChoice_9 rfl ?_
  refine zt_if_ne kX3_nextChoice_10 (fun c => ?_) (fun c => ?_)
  · replace H := H.1 c
    refine zt_iload_n kX3_nextChoice_15 rfl ?_
    refine zt_iload_n kX3_nextChoice_16 rfl ?_
    refine zt_iload_n kX3_nextChoice_17 rfl ?_
    refine zt_ineg kX3_nextChoice_18 ?_
    refine zt_iand kX3_nextChoice_19 ?_
    refine zt_iadd kX3_nextChoice_20 ?_
    refine zt_istore_n (L' := [zi x0, zi (((2 : Int32) <<< ((bcI x0) &&& 31)) - 1), zi (x0 + (x0 &&& (-x0))), zu]) kX3_nextChoice_21 (by decide) rfl ?_
    refine zt_iload_n kX3_nextChoice_22 rfl ?_
    refine zt_iload_n kX3_nextChoice_23 rfl ?_
    refine zt_ixor kX3_nextChoice_24 ?_
    refine zt_iconst (v := 2) kX3_nextChoice_25 rfl ?_
    refine zt_iload_n kX3_nextChoice_26 rfl ?_
    refine zt_cS (as := [zi x0]) kX3_nextChoice_27 sRX3_72 rfl (by simp) rfl (sJ6_numberOfTrailingZeros_0f7a4 _  ) (fun r h0 hq => ?_)
    obtain ⟨rfl, hh⟩ := hq
    replace hh := hh.symm
    subst hh
    refine zt_iadd kX3_nextChoice_30 ?_
    refine zt_iushr kX3_nextChoice_31 ?_
    refine zt_topi (fun y1 ey1 => ?_)
    replace H := H y1 ey1
    refine zt_istore_n (L' := [zi x0, zi (((2 : Int32) <<< ((bcI x0) &&& 31)) - 1), zi (x0 + (x0 &&& (-x0))), zi y1]) kX3_nextChoice_32 (by decide) rfl ?_
    refine zt_iload_n kX3_nextChoice_33 rfl ?_
    refine zt_iload_n kX3_nextChoice_34 rfl ?_
    refine zt_ior kX3_nextChoice_35 ?_
    refine zt_sipush (v := 4095) kX3_nextChoice_36 rfl ?_
    refine zt_icmp_gt kX3_nextChoice_39 (fun c => ?_) (fun c => ?_)
    · replace H := H.1 c
      refine zt_iload_n kX3_nextChoice_48 rfl ?_
      exact zt_iret kX3_nextChoice_49 rfl H
    · replace H := H.2 c
      refine zt_iload_n kX3_nextChoice_42 rfl ?_
      refine zt_iload_n kX3_nextChoice_43 rfl ?_
      refine zt_ior kX3_nextChoice_44 ?_
      refine zt_goto kX3_nextChoice_45 ?_
      exact zt_iret kX3_nextChoice_49 rfl H
  · replace H := H.2 c
    refine zt_iload_n kX3_nextChoice_13 rfl ?_
    exact zt_iret kX3_nextChoice_14 rfl H

theorem kX0_weight_0 : zD cX0_weight 0 1 (.aload_n 0) 1 := by decide +kernel
theorem kX0_weight_1 : zD cX0_weight 1 2 (.iload_n 1) 1 := by decide +kernel
theorem kX0_weight_2 : zD cX0_weight 2 5 (.invokespecial 9) 3 := by decide +kernel
theorem kX0_weight_5 : zD cX0_weight 5 6 (.iconst 1) 1 := by decide +kernel
theorem kX0_weight_6 : zD cX0_weight 6 7 (.isub) 1 := by decide +kernel
theorem kX0_weight_7 : zD cX0_weight 7 8 (.ireturn) 1 := by decide +kernel
set_option maxRecDepth 10000 in
theorem wX0_weight_0 {G : ZG} {d : Nat} {h : ZH} {Q : Option ZV → ZH → Prop} {i0 : Nat} {x1 : Int32} (hi0 : i0 < zcnt 4)
  (H : Q (some (zi ((2 + x1) - 1))) h) :
  zT G (d + 2) mX0_weight 0 [zr 4 i0, zi x1] [] h Q := by
  refine zt_aload_n kX0_weight_0 rfl ?_
  refine zt_iload_n kX0_weight_1 rfl ?_
  refine zt_cU (as := [zi x1]) kX0_weight_2 sRX0_9 (zcl4 hi0) rfl hi0 rfl (by simp) rfl (sX10_weight _ hi0 ) (fun r h0 hq => ?_)
  obtain ⟨rfl, hh⟩ := hq
  replace hh := hh.symm
  subst hh
  refine zt_iconst (v := 1) kX0_weight_5 rfl ?_
  refine zt_isub kX0_weight_6 ?_
  exact zt_iret kX0_weight_7 rfl H

theorem kX0_bears_0 : zD cX0_bears 0 1 (.aload_n 0) 1 := by decide +kernel
theorem kX0_bears_1 : zD cX0_bears 1 2 (.iload_n 1) 1 := by decide +kernel
theorem kX0_bears_2 : zD cX0_bears 2 5 (.invokespecial 13) 3 := by decide +kernel
theorem kX0_bears_5 : zD cX0_bears 5 7 (.bipush 8) 2 := by decide +kernel
theorem kX0_bears_7 : zD cX0_bears 7 8 (.isub) 1 := by decide +kernel
theorem kX0_bears_8 : zD cX0_bears 8 9 (.ireturn) 1 := by decide +kernel
set_option maxRecDepth 10000 in
theorem wX0_bears_0 {G : ZG} {d : Nat} {h : ZH} {Q : Option ZV → ZH → Prop} {i0 : Nat} {x1 : Int32} (hi0 : i0 < zcnt 4)
  (H : Q (some (zi ((20) - 8))) h) :
  zT G (d + 2) mX0_bears 0 [zr 4 i0, zi x1] [] h Q := by
  refine zt_aload_n kX0_bears_0 rfl ?_
  refine zt_iload_n kX0_bears_1 rfl ?_
  refine zt_cU (as := [zi x1]) kX0_bears_2 sRX0_13 (zcl4 hi0) rfl hi0 rfl (by simp) rfl (sX10_bears _ hi0 ) (fun r h0 hq => ?_)
  obtain ⟨rfl, hh⟩ := hq
  replace hh := hh.symm
  subst hh
  refine zt_bipush (v := 8) kX0_bears_5 rfl ?_
  refine zt_isub kX0_bears_7 ?_
  exact zt_iret kX0_bears_8 rfl H

theorem kX0_price_0 : zD cX0_price 0 1 (.aload_n 0) 1 := by decide +kernel
theorem kX0_price_1 : zD cX0_price 1 2 (.iload_n 1) 1 := by decide +kernel
theorem kX0_price_2 : zD cX0_price 2 5 (.invokespecial 16) 3 := by decide +kernel
theorem kX0_price_5 : zD cX0_price 5 6 (.iconst 3) 1 := by decide +kernel
theorem kX0_price_6 : zD cX0_price 6 7 (.iadd) 1 := by decide +kernel
theorem kX0_price_7 : zD cX0_price 7 8 (.ireturn) 1 := by decide +kernel
set_option maxRecDepth 10000 in
theorem wX0_price_0 {G : ZG} {d : Nat} {h : ZH} {Q : Option ZV → ZH → Prop} {i0 : Nat} {x1 : Int32} (hi0 : i0 < zcnt 4)
  (H : Q (some (zi ((2) + 3))) h) :
  zT G (d + 2) mX0_price 0 [zr 4 i0, zi x1] [] h Q := by
  refine zt_aload_n kX0_price_0 rfl ?_
  refine zt_iload_n kX0_price_1 rfl ?_
  refine zt_cU (as := [zi x1]) kX0_price_2 sRX0_16 (zcl4 hi0) rfl hi0 rfl (by simp) rfl (sX10_price _ hi0 ) (fun r h0 hq => ?_)
  obtain ⟨rfl, hh⟩ := hq
  replace hh := hh.symm
  subst hh
  refine zt_iconst (v := 3) kX0_price_5 rfl ?_
  refine zt_iadd kX0_price_6 ?_
  exact zt_iret kX0_price_7 rfl H

theorem kX2_weight_0 : zD cX2_weight 0 1 (.aload_n 0) 1 := by decide +kernel
theorem kX2_weight_1 : zD cX2_weight 1 2 (.iload_n 1) 1 := by decide +kernel
theorem kX2_weight_2 : zD cX2_weight 2 5 (.invokespecial 7) 3 := by decide +kernel
theorem kX2_weight_5 : zD cX2_weight 5 6 (.iconst 3) 1 := by decide +kernel
theorem kX2_weight_6 : zD cX2_weight 6 7 (.iadd) 1 := by decide +kernel
theorem kX2_weight_7 : zD cX2_weight 7 8 (.ireturn) 1 := by decide +kernel
set_option maxRecDepth 10000 in
theorem wX2_weight_0 {G : ZG} {d : Nat} {h : ZH} {Q : Option ZV → ZH → Prop} {i0 : Nat} {x1 : Int32} (hi0 : i0 < zcnt 4)
  (H : Q (some (zi ((2 + x1) + 3))) h) :
  zT G (d + 2) mX2_weight 0 [zr 4 i0, zi x1] [] h Q := by
  refine zt_aload_n kX2_weight_0 rfl ?_
  refine zt_iload_n kX2_weight_1 rfl ?_
  refine zt_cU (as := [zi x1]) kX2_weight_2 sRX2_7 (zcl4 hi0) rfl hi0 rfl (by simp) rfl (sX10_weight _ hi0 ) (fun r h0 hq => ?_)
  obtain ⟨rfl, hh⟩ := hq
  replace hh := hh.symm
  subst hh
  refine zt_iconst (v := 3) kX2_weight_5 rfl ?_
  refine zt_iadd kX2_weight_6 ?_
  exact zt_iret kX2_weight_7 rfl H

theorem kX2_bears_0 : zD cX2_bears 0 1 (.iconst 2) 1 := by decide +kernel
theorem kX2_bears_1 : zD cX2_bears 1 2 (.aload_n 0) 1 := by decide +kernel
theorem kX2_bears_2 : zD cX2_bears 2 3 (.iload_n 1) 1 := by decide +kernel
theorem kX2_bears_3 : zD cX2_bears 3 6 (.invokespecial 11) 3 := by decide +kernel
theorem kX2_bears_6 : zD cX2_bears 6 7 (.imul) 1 := by decide +kernel
theorem kX2_bears_7 : zD cX2_bears 7 8 (.ireturn) 1 := by decide +kernel
set_option maxRecDepth 10000 in
theorem wX2_bears_0 {G : ZG} {d : Nat} {h : ZH} {Q : Option ZV → ZH → Prop} {i0 : Nat} {x1 : Int32} (hi0 : i0 < zcnt 4)
  (H : Q (some (zi (2 * (20)))) h) :
  zT G (d + 2) mX2_bears 0 [zr 4 i0, zi x1] [] h Q := by
  refine zt_iconst (v := 2) kX2_bears_0 rfl ?_
  refine zt_aload_n kX2_bears_1 rfl ?_
  refine zt_iload_n kX2_bears_2 rfl ?_
  refine zt_cU (as := [zi x1]) kX2_bears_3 sRX2_11 (zcl4 hi0) rfl hi0 rfl (by simp) rfl (sX10_bears _ hi0 ) (fun r h0 hq => ?_)
  obtain ⟨rfl, hh⟩ := hq
  replace hh := hh.symm
  subst hh
  refine zt_imul kX2_bears_6 ?_
  exact zt_iret kX2_bears_7 rfl H

theorem kX2_price_0 : zD cX2_price 0 1 (.aload_n 0) 1 := by decide +kernel
theorem kX2_price_1 : zD cX2_price 1 2 (.iload_n 1) 1 := by decide +kernel
theorem kX2_price_2 : zD cX2_price 2 5 (.invokespecial 14) 3 := by decide +kernel
theorem kX2_price_5 : zD cX2_price 5 6 (.iload_n 1) 1 := by decide +kernel
theorem kX2_price_6 : zD cX2_price 6 7 (.iadd) 1 := by decide +kernel
theorem kX2_price_7 : zD cX2_price 7 8 (.ireturn) 1 := by decide +kernel
set_option maxRecDepth 10000 in
theorem wX2_price_0 {G : ZG} {d : Nat} {h : ZH} {Q : Option ZV → ZH → Prop} {i0 : Nat} {x1 : Int32} (hi0 : i0 < zcnt 4)
  (H : Q (some (zi ((2) + x1))) h) :
  zT G (d + 2) mX2_price 0 [zr 4 i0, zi x1] [] h Q := by
  refine zt_aload_n kX2_price_0 rfl ?_
  refine zt_iload_n kX2_price_1 rfl ?_
  refine zt_cU (as := [zi x1]) kX2_price_2 sRX2_14 (zcl4 hi0) rfl hi0 rfl (by simp) rfl (sX10_price _ hi0 ) (fun r h0 hq => ?_)
  obtain ⟨rfl, hh⟩ := hq
  replace hh := hh.symm
  subst hh
  refine zt_iload_n kX2_price_5 rfl ?_
  refine zt_iadd kX2_price_6 ?_
  exact zt_iret kX2_price_7 rfl H

theorem kX7_price_0 : zD cX7_price 0 1 (.aload_n 0) 1 := by decide +kernel
theorem kX7_price_1 : zD cX7_price 1 2 (.iload_n 1) 1 := by decide +kernel
theorem kX7_price_2 : zD cX7_price 2 5 (.invokespecial 9) 3 := by decide +kernel
theorem kX7_price_5 : zD cX7_price 5 6 (.iconst 1) 1 := by decide +kernel
theorem kX7_price_6 : zD cX7_price 6 7 (.isub) 1 := by decide +kernel
theorem kX7_price_7 : zD cX7_price 7 8 (.ireturn) 1 := by decide +kernel
set_option maxRecDepth 10000 in
theorem wX7_price_0 {G : ZG} {d : Nat} {h : ZH} {Q : Option ZV → ZH → Prop} {i0 : Nat} {x1 : Int32} (hi0 : i0 < zcnt 4)
  (H : Q (some (zi ((2) - 1))) h) :
  zT G (d + 2) mX7_price 0 [zr 4 i0, zi x1] [] h Q := by
  refine zt_aload_n kX7_price_0 rfl ?_
  refine zt_iload_n kX7_price_1 rfl ?_
  refine zt_cU (as := [zi x1]) kX7_price_2 sRX7_9 (zcl4 hi0) rfl hi0 rfl (by simp) rfl (sX10_price _ hi0 ) (fun r h0 hq => ?_)
  obtain ⟨rfl, hh⟩ := hq
  replace hh := hh.symm
  subst hh
  refine zt_iconst (v := 1) kX7_price_5 rfl ?_
  refine zt_isub kX7_price_6 ?_
  exact zt_iret kX7_price_7 rfl H

theorem kX11_rowRefused_0 : zD cX11_rowRefused 0 1 (.iload_n 1) 1 := by decide +kernel
theorem kX11_rowRefused_1 : zD cX11_rowRefused 1 4 (.invokestatic 282) 3 := by decide +kernel
theorem kX11_rowRefused_4 : zB cX11_rowRefused 4 7 9 (.ifCond .ne 5) 5 := by decide +kernel
theorem kX11_rowRefused_7 : zD cX11_rowRefused 7 8 (.iconst (-1)) 1 := by decide +kernel
theorem kX11_rowRefused_8 : zD cX11_rowRefused 8 9 (.ireturn) 1 := by decide +kernel
theorem kX11_rowRefused_9 : zD cX11_rowRefused 9 10 (.aload_n 0) 1 := by decide +kernel
theorem kX11_rowRefused_10 : zD cX11_rowRefused 10 13 (.getfield 62) 3 := by decide +kernel
theorem kX11_rowRefused_13 : zD cX11_rowRefused 13 14 (.iload_n 1) 1 := by decide +kernel
theorem kX11_rowRefused_14 : zD cX11_rowRefused 14 15 (.aaload) 1 := by decide +kernel
theorem kX11_rowRefused_15 : zD cX11_rowRefused 15 18 (.invokevirtual 319) 3 := by decide +kernel
theorem kX11_rowRefused_18 : zB cX11_rowRefused 18 21 24 (.ifCond .eq 6) 6 := by decide +kernel
theorem kX11_rowRefused_21 : zD cX11_rowRefused 21 23 (.bipush (-11)) 2 := by decide +kernel
theorem kX11_rowRefused_23 : zD cX11_rowRefused 23 24 (.ireturn) 1 := by decide +kernel
theorem kX11_rowRefused_24 : zD cX11_rowRefused 24 25 (.aload_n 0) 1 := by decide +kernel
theorem kX11_rowRefused_25 : zD cX11_rowRefused 25 28 (.getfield 62) 3 := by decide +kernel
theorem kX11_rowRefused_28 : zD cX11_rowRefused 28 29 (.iload_n 1) 1 := by decide +kernel
theorem kX11_rowRefused_29 : zD cX11_rowRefused 29 30 (.aaload) 1 := by decide +kernel
theorem kX11_rowRefused_30 : zD cX11_rowRefused 30 33 (.invokevirtual 308) 3 := by decide +kernel
theorem kX11_rowRefused_33 : zB cX11_rowRefused 33 36 40 (.ifCond .eq 7) 7 := by decide +kernel
theorem kX11_rowRefused_36 : zD cX11_rowRefused 36 37 (.iconst 0) 1 := by decide +kernel
theorem kX11_rowRefused_37 : zB cX11_rowRefused 37 40 42 (.goto 5) 5 := by decide +kernel
theorem kX11_rowRefused_40 : zD cX11_rowRefused 40 42 (.bipush (-12)) 2 := by decide +kernel
theorem kX11_rowRefused_42 : zD cX11_rowRefused 42 43 (.ireturn) 1 := by decide +kernel
set_option maxRecDepth 10000 in
theorem wX11_rowRefused_0 {G : ZG} {d : Nat} {h : ZH} {Q : Option ZV → ZH → Prop} {x1 : Int32} 
  (H : ((0 ≤ x1 ∧ x1 ≤ 7) → vp_in x1 8 ∧ (¬ (h.1 3 (x1.toNatClampNeg) 0 = 0) → vp_in x1 8 ∧ (¬ (h.1 3 (x1.toNatClampNeg) 0 = 2) → Q (some (zi (-12))) h) ∧ ((h.1 3 (x1.toNatClampNeg) 0 = 2) → Q (some (zi 0)) h)) ∧ ((h.1 3 (x1.toNatClampNeg) 0 = 0) → Q (some (zi (-11))) h)) ∧ (¬ (0 ≤ x1 ∧ x1 ≤ 7) → Q (some (zi (-1))) h)) :
  zT G (d + 2) mX11_rowRefused 0 [zr 0 0, zi x1] [] h Q := by
  refine zt_iload_n kX11_rowRefused_0 rfl ?_
  refine zt_cS (as := [zi x1]) kX11_rowRefused_1 sRX11_282 rfl (by simp) rfl (sX11_isShelf _  ) (fun r h0 hq => ?_)
  obtain ⟨rfl, hh⟩ := hq
  replace hh := hh.symm
  subst hh
  refine zt_ifb_ne kX11_rowRefused_4 (fun c => ?_) (fun c => ?_)
  · replace H := H.1 c
    refine zt_aload_n kX11_rowRefused_9 rfl ?_
    refine zt_get (v := zr 22 0) kX11_rowRefused_10 fRX11_62 rfl (by decide) rfl ?_
    refine zt_iload_n kX11_rowRefused_13 rfl ?_
    obtain ⟨hv1, H⟩ := H
    refine zt_aaldH kX11_rowRefused_14 hv1 ?_
    refine zt_cV (as := []) kX11_rowRefused_15 sRX11_319 rfl (zok3 hv1) rfl (by simp) rfl (sX8_isEmpty _ (zok3 hv1) ) (fun r h0 hq => ?_)
    obtain ⟨rfl, hh⟩ := hq
    replace hh := hh.symm
    subst hh
    refine zt_ifb_eq kX11_rowRefused_18 (fun c => ?_) (fun c => ?_)
    · replace H := H.1 c
      refine zt_aload_n kX11_rowRefused_24 rfl ?_
      refine zt_get (v := zr 22 0) kX11_rowRefused_25 fRX11_62 rfl (by decide) rfl ?_
      refine zt_iload_n kX11_rowRefused_28 rfl ?_
      obtain ⟨hv2, H⟩ := H
      refine zt_aaldH kX11_rowRefused_29 hv2 ?_
      refine zt_cV (as := []) kX11_rowRefused_30 sRX11_308 rfl (zok3 hv2) rfl (by simp) rfl (sX8_isRow _ (zok3 hv2) ) (fun r h0 hq => ?_)
      obtain ⟨rfl, hh⟩ := hq
      replace hh := hh.symm
      subst hh
      refine zt_ifb_eq kX11_rowRefused_33 (fun c => ?_) (fun c => ?_)
      · replace H := H.1 c
        refine zt_bipush (v := (-12)) kX11_rowRefused_40 rfl ?_
        exact zt_iret kX11_rowRefused_42 rfl H
      · replace H := H.2 c
        refine zt_iconst (v := 0) kX11_rowRefused_36 rfl ?_
        refine zt_goto kX11_rowRefused_37 ?_
        exact zt_iret kX11_rowRefused_42 rfl H
    · replace H := H.2 c
      refine zt_bipush (v := (-11)) kX11_rowRefused_21 rfl ?_
      exact zt_iret kX11_rowRefused_23 rfl H
  · replace H := H.2 c
    refine zt_iconst (v := (-1)) kX11_rowRefused_7 rfl ?_
    exact zt_iret kX11_rowRefused_8 rfl H

theorem kX11_kindRefused_0 : zD cX11_kindRefused 0 1 (.iload_n 1) 1 := by decide +kernel
theorem kX11_kindRefused_1 : zD cX11_kindRefused 1 4 (.invokestatic 282) 3 := by decide +kernel
theorem kX11_kindRefused_4 : zB cX11_kindRefused 4 7 9 (.ifCond .ne 5) 5 := by decide +kernel
theorem kX11_kindRefused_7 : zD cX11_kindRefused 7 8 (.iconst (-1)) 1 := by decide +kernel
theorem kX11_kindRefused_8 : zD cX11_kindRefused 8 9 (.ireturn) 1 := by decide +kernel
theorem kX11_kindRefused_9 : zD cX11_kindRefused 9 10 (.aload_n 0) 1 := by decide +kernel
theorem kX11_kindRefused_10 : zD cX11_kindRefused 10 13 (.getfield 62) 3 := by decide +kernel
theorem kX11_kindRefused_13 : zD cX11_kindRefused 13 14 (.iload_n 1) 1 := by decide +kernel
theorem kX11_kindRefused_14 : zD cX11_kindRefused 14 15 (.aaload) 1 := by decide +kernel
theorem kX11_kindRefused_15 : zD cX11_kindRefused 15 18 (.invokevirtual 319) 3 := by decide +kernel
theorem kX11_kindRefused_18 : zB cX11_kindRefused 18 21 24 (.ifCond .eq 6) 6 := by decide +kernel
theorem kX11_kindRefused_21 : zD cX11_kindRefused 21 23 (.bipush (-11)) 2 := by decide +kernel
theorem kX11_kindRefused_23 : zD cX11_kindRefused 23 24 (.ireturn) 1 := by decide +kernel
theorem kX11_kindRefused_24 : zD cX11_kindRefused 24 25 (.aload_n 0) 1 := by decide +kernel
theorem kX11_kindRefused_25 : zD cX11_kindRefused 25 28 (.getfield 62) 3 := by decide +kernel
theorem kX11_kindRefused_28 : zD cX11_kindRefused 28 29 (.iload_n 1) 1 := by decide +kernel
theorem kX11_kindRefused_29 : zD cX11_kindRefused 29 30 (.aaload) 1 := by decide +kernel
theorem kX11_kindRefused_30 : zD cX11_kindRefused 30 33 (.invokevirtual 308) 3 := by decide +kernel
theorem kX11_kindRefused_33 : zB cX11_kindRefused 33 36 41 (.ifCond .eq 8) 8 := by decide +kernel
theorem kX11_kindRefused_36 : zD cX11_kindRefused 36 38 (.bipush (-12)) 2 := by decide +kernel
theorem kX11_kindRefused_38 : zB cX11_kindRefused 38 41 42 (.goto 4) 4 := by decide +kernel
theorem kX11_kindRefused_41 : zD cX11_kindRefused 41 42 (.iconst 0) 1 := by decide +kernel
theorem kX11_kindRefused_42 : zD cX11_kindRefused 42 43 (.ireturn) 1 := by decide +kernel
set_option maxRecDepth 10000 in
theorem wX11_kindRefused_0 {G : ZG} {d : Nat} {h : ZH} {Q : Option ZV → ZH → Prop} {x1 : Int32} 
  (H : ((0 ≤ x1 ∧ x1 ≤ 7) → vp_in x1 8 ∧ (¬ (h.1 3 (x1.toNatClampNeg) 0 = 0) → vp_in x1 8 ∧ (¬ (h.1 3 (x1.toNatClampNeg) 0 = 2) → Q (some (zi 0)) h) ∧ ((h.1 3 (x1.toNatClampNeg) 0 = 2) → Q (some (zi (-12))) h)) ∧ ((h.1 3 (x1.toNatClampNeg) 0 = 0) → Q (some (zi (-11))) h)) ∧ (¬ (0 ≤ x1 ∧ x1 ≤ 7) → Q (some (zi (-1))) h)) :
  zT G (d + 2) mX11_kindRefused 0 [zr 0 0, zi x1] [] h Q := by
  refine zt_iload_n kX11_kindRefused_0 rfl ?_
  refine zt_cS (as := [zi x1]) kX11_kindRefused_1 sRX11_282 rfl (by simp) rfl (sX11_isShelf _  ) (fun r h0 hq => ?_)
  obtain ⟨rfl, hh⟩ := hq
  replace hh := hh.symm
  subst hh
  refine zt_ifb_ne kX11_kindRefused_4 (fun c => ?_) (fun c => ?_)
  · replace H := H.1 c
    refine zt_aload_n kX11_kindRefused_9 rfl ?_
    refine zt_get (v := zr 22 0) kX11_kindRefused_10 fRX11_62 rfl (by decide) rfl ?_
    refine zt_iload_n kX11_kindRefused_13 rfl ?_
    obtain ⟨hv1, H⟩ := H
    refine zt_aaldH kX11_kindRefused_14 hv1 ?_
    refine zt_cV (as := []) kX11_kindRefused_15 sRX11_319 rfl (zok3 hv1) rfl (by simp) rfl (sX8_isEmpty _ (zok3 hv1) ) (fun r h0 hq => ?_)
    obtain ⟨rfl, hh⟩ := hq
    replace hh := hh.symm
    subst hh
    refine zt_ifb_eq kX11_kindRefused_18 (fun c => ?_) (fun c => ?_)
    · replace H := H.1 c
      refine zt_aload_n kX11_kindRefused_24 rfl ?_
      refine zt_get (v := zr 22 0) kX11_kindRefused_25 fRX11_62 rfl (by decide) rfl ?_
      refine zt_iload_n kX11_kindRefused_28 rfl ?_
      obtain ⟨hv2, H⟩ := H
      refine zt_aaldH kX11_kindRefused_29 hv2 ?_
      refine zt_cV (as := []) kX11_kindRefused_30 sRX11_308 rfl (zok3 hv2) rfl (by simp) rfl (sX8_isRow _ (zok3 hv2) ) (fun r h0 hq => ?_)
      obtain ⟨rfl, hh⟩ := hq
      replace hh := hh.symm
      subst hh
      refine zt_ifb_eq kX11_kindRefused_33 (fun c => ?_) (fun c => ?_)
      · replace H := H.1 c
        refine zt_iconst (v := 0) kX11_kindRefused_41 rfl ?_
        exact zt_iret kX11_kindRefused_42 rfl H
      · replace H := H.2 c
        refine zt_bipush (v := (-12)) kX11_kindRefused_36 rfl ?_
        refine zt_goto kX11_kindRefused_38 ?_
        exact zt_iret kX11_kindRefused_42 rfl H
    · replace H := H.2 c
      refine zt_bipush (v := (-11)) kX11_kindRefused_21 rfl ?_
      exact zt_iret kX11_kindRefused_23 rfl H
  · replace H := H.2 c
    refine zt_iconst (v := (-1)) kX11_kindRefused_7 rfl ?_
    exact zt_iret kX11_kindRefused_8 rfl H
end
section
theorem vp8 {x : Int32} (h : 0 ≤ x ∧ x ≤ 7) : vp_in x 8 := by
  rw [vp_in_iff]
  obtain ⟨h1, h2⟩ := h
  rw [Int32.le_iff_toInt_le] at h1 h2
  exact ⟨h1, Int.lt_of_le_of_lt h2 (by decide)⟩
theorem vp12 {x : Int32} (h : 0 ≤ x ∧ x ≤ 11) : vp_in x 12 := by
  rw [vp_in_iff]
  obtain ⟨h1, h2⟩ := h
  rw [Int32.le_iff_toInt_le] at h1 h2
  exact ⟨h1, Int.lt_of_le_of_lt h2 (by decide)⟩
/-- an element of a shelf's row, -1 where there is none -/
def shAt (h : ZH) (i : Nat) (x : Int32) : Int32 := if 0 ≤ x ∧ x < h.1 3 i 4 then h.1 16 i x.toNatClampNeg else -1
def nextI (x0 : Int32) : Int32 := if x0 = 0 then ((2 : Int32) <<< ((bcI x0) &&& 31)) - 1 else if 4095 < ((x0 + (x0 &&& (-x0))) ||| ushI (x0 ^^^ (x0 + (x0 &&& (-x0)))) (2 + ntzI x0)) then ((2 : Int32) <<< ((bcI x0) &&& 31)) - 1 else (x0 + (x0 &&& (-x0))) ||| ushI (x0 ^^^ (x0 + (x0 &&& (-x0)))) (2 + ntzI x0)
def rowRefI (h : ZH) (d : Int32) : Int32 := if 0 ≤ d ∧ d ≤ 7 then (if h.1 3 d.toNatClampNeg 0 = 0 then -11 else if h.1 3 d.toNatClampNeg 0 = 2 then 0 else -12) else -1
def kindRefI (h : ZH) (d : Int32) : Int32 := if 0 ≤ d ∧ d ≤ 7 then (if h.1 3 d.toNatClampNeg 0 = 0 then -11 else if h.1 3 d.toNatClampNeg 0 = 2 then -12 else 0) else -1

theorem sX12_isPlace {G : ZG} (d : Nat) {h : ZH} {x0 : Int32}   : zC G (d + 2) mX12_isPlace [zi x0] h (fun r h' => r = some (zi (zb (0 ≤ x0 ∧ x0 ≤ 11))) ∧ h' = h) := by
  refine zC_of (by decide +kernel) (Nat.le_of_ble_eq_true rfl) (L := [zi x0]) ⟨rfl, trivial⟩ ?_
  refine wX12_isPlace_0  ?_
  exact ⟨rfl, rfl⟩

theorem sX12_isThere {G : ZG} (d : Nat) {h : ZH} {x1 : Int32}   : zC G (d + 2) mX12_isThere [zr 5 0, zi x1] h (fun r h' => r = some (zi (zb (hasI (h.1 30 0 0) x1))) ∧ h' = h) := by
  refine zC_of (by decide +kernel) (Nat.le_of_ble_eq_true rfl) (L := [zr 5 0, zi x1]) ⟨rfl, ⟨rfl, trivial⟩⟩ ?_
  refine wX12_isThere_0  ?_
  exact ⟨rfl, rfl⟩

theorem sX12_isShelf {G : ZG} (d : Nat) {h : ZH} {x0 : Int32}   : zC G (d + 2) mX12_isShelf [zi x0] h (fun r h' => r = some (zi (zb (0 ≤ x0 ∧ x0 ≤ 7))) ∧ h' = h) := by
  refine zC_of (by decide +kernel) (Nat.le_of_ble_eq_true rfl) (L := [zi x0]) ⟨rfl, trivial⟩ ?_
  refine wX12_isShelf_0  ?_
  exact ⟨rfl, rfl⟩

theorem sX12_isLight {G : ZG} (d : Nat) {h : ZH} {x1 : Int32}  (hp0 : vp_in x1 12) : zC G (d + 2) mX12_isLight [zr 5 0, zi x1] h (fun r h' => r = some (zi (zb (lightK (kindI h x1)))) ∧ h' = h) := by
  refine zC_of (by decide +kernel) (Nat.le_of_ble_eq_true rfl) (L := [zr 5 0, zi x1]) ⟨rfl, ⟨rfl, trivial⟩⟩ ?_
  refine wX12_isLight_0  ?_
  refine ⟨hp0, fun c => ⟨?_, rfl⟩, fun c => ⟨hp0, fun c2 => ⟨?_, rfl⟩, fun c2 => ⟨?_, rfl⟩⟩⟩
  · rw [zb_t (Or.inl c)]
  · rw [zb_f (fun q => q.elim c c2)]
  · rw [zb_t (Or.inr c2)]

theorem sX12_isArch {G : ZG} (d : Nat) {h : ZH} {x1 : Int32}  (hp0 : vp_in x1 12) : zC G (d + 2) mX12_isArch [zr 5 0, zi x1] h (fun r h' => r = some (zi (zb (archK (kindI h x1)))) ∧ h' = h) := by
  refine zC_of (by decide +kernel) (Nat.le_of_ble_eq_true rfl) (L := [zr 5 0, zi x1]) ⟨rfl, ⟨rfl, trivial⟩⟩ ?_
  refine wX12_isArch_0  ?_
  refine ⟨hp0, fun c => ⟨?_, rfl⟩, fun c => ⟨hp0, fun c2 => ⟨?_, rfl⟩, fun c2 => ⟨?_, rfl⟩⟩⟩
  · rw [zb_t (Or.inl c)]
  · rw [zb_f (fun q => q.elim c c2)]
  · rw [zb_t (Or.inr c2)]

theorem sX12_isAt {G : ZG} (d : Nat) {h : ZH} {x0 : Int32} {x1 : Int32} {x2 : Int32}   : zC G (d + 2) mX12_isAt [zi x0, zi x1, zi x2] h (fun r h' => r = some (zi (zb (atI x0 x1 x2))) ∧ h' = h) := by
  refine zC_of (by decide +kernel) (Nat.le_of_ble_eq_true rfl) (L := [zi x0, zi x1, zi x2]) ⟨rfl, ⟨rfl, ⟨rfl, trivial⟩⟩⟩ ?_
  refine wX12_isAt_0  ?_
  refine ⟨fun c => ⟨?_, rfl⟩, fun c => ⟨fun c2 => ⟨?_, rfl⟩, fun c2 => ⟨?_, rfl⟩⟩⟩
  · rw [zb_f (fun q => c q.1)]
  · rw [zb_f (fun q => c2 q.2)]
  · rw [zb_t ⟨c, c2⟩]

theorem sX12_weight {G : ZG} (d : Nat) {h : ZH} {x1 : Int32}  (hp0 : vp_in x1 12) : zC G (d + 2) mX12_weight [zr 5 0, zi x1] h (fun r h' => r = some (zi (wgtI (kindI h x1) (figI h x1))) ∧ h' = h) := by
  refine zC_of (by decide +kernel) (Nat.le_of_ble_eq_true rfl) (L := [zr 5 0, zi x1, zu]) ⟨rfl, ⟨rfl, trivial⟩⟩ ?_
  refine wX12_weight_0  ?_
  unfold wgtI
  refine ⟨hp0, hp0, fun c1 => ⟨?_, rfl⟩, fun c1 => ⟨fun c2 => ⟨?_, rfl⟩, fun c2 => ⟨fun c3 => ⟨?_, rfl⟩, fun c3 => ⟨fun c4 => ⟨?_, rfl⟩, fun c4 => ⟨fun c5 => ⟨?_, rfl⟩, fun c5 => ⟨fun c6 => ⟨?_, rfl⟩, fun c6 => ⟨fun c7 => ⟨?_, rfl⟩, fun c7 => ⟨?_, rfl⟩⟩⟩⟩⟩⟩⟩⟩
  · rw [if_pos (Or.inl c1)]
  · rw [c2]; rfl
  · rw [c3]; rfl
  · rw [c4]; rfl
  · rw [c5]; rfl
  · rw [c6]; rfl
  · rw [c7]; rfl
  · rw [if_neg (fun q => q.elim c1 c5), if_neg c2, if_neg c3, if_neg c4, if_neg c6, if_neg c7]

theorem sX12_bears {G : ZG} (d : Nat) {h : ZH} {x1 : Int32}  (hp0 : vp_in x1 12) : zC G (d + 2) mX12_bears [zr 5 0, zi x1] h (fun r h' => r = some (zi (brsI (kindI h x1) (figI h x1))) ∧ h' = h) := by
  refine zC_of (by decide +kernel) (Nat.le_of_ble_eq_true rfl) (L := [zr 5 0, zi x1]) ⟨rfl, ⟨rfl, trivial⟩⟩ ?_
  refine wX12_bears_0  ?_
  unfold brsI
  refine ⟨hp0, fun c1 => ⟨?_, rfl⟩, fun c1 => ⟨fun c2 => ⟨?_, rfl⟩, fun c2 => ⟨fun c3 => ⟨?_, rfl⟩, fun c3 => ⟨fun c4 => ⟨hp0, ?_, rfl⟩, fun c4 => ⟨fun c5 => ⟨hp0, ?_, rfl⟩, fun c5 => ⟨fun c6 => ⟨?_, rfl⟩, fun c6 => ⟨fun c7 => ⟨?_, rfl⟩, fun c7 => ⟨?_, rfl⟩⟩⟩⟩⟩⟩⟩⟩
  · rw [c1]; rfl
  · rw [c2]; rfl
  · rw [c3]; rfl
  · rw [c4]; rfl
  · rw [c5]; rfl
  · rw [c6]; rfl
  · rw [c7]; rfl
  · rw [if_neg c1, if_neg c5, if_neg c2, if_neg c4, if_neg c3, if_neg c6, if_neg c7]

theorem sX8_at {G : ZG} (d : Nat) {h : ZH} {i0 : Nat} {x1 : Int32} (hi0 : i0 < zcnt 3) (hp0 : h.1 3 i0 4 ≤ 100) : zC G (d + 2) mX8_at [zr 3 i0, zi x1] h (fun r h' => r = some (zi (shAt h i0 x1)) ∧ h' = h) := by
  refine zC_of (by decide +kernel) (Nat.le_of_ble_eq_true rfl) (L := [zr 3 i0, zi x1]) ⟨rfl, ⟨rfl, trivial⟩⟩ ?_
  refine wX8_at_0 hi0 ?_
  unfold shAt
  refine ⟨fun c => ⟨?_, rfl⟩, fun c => ⟨?_, ?_, rfl⟩⟩
  · rw [if_neg c]
  · rw [vp_in_iff]
    obtain ⟨h1, h2⟩ := c
    rw [Int32.le_iff_toInt_le] at h1 hp0
    rw [Int32.lt_iff_toInt_lt] at h2
    exact ⟨h1, Int.lt_of_lt_of_le h2 hp0⟩
  · rw [if_pos c]

theorem sX4_holds {G : ZG} (d : Nat) {h : ZH} {i0 : Nat} {x1 : Int32} (hi0 : i0 < zcnt 2)  : zC G (d + 2) mX4_holds [zr 2 i0, zi x1] h (fun r h' => r = some (zi (zb (hasI (h.1 2 i0 6) x1))) ∧ h' = h) := by
  refine zC_of (by decide +kernel) (Nat.le_of_ble_eq_true rfl) (L := [zr 2 i0, zi x1]) ⟨rfl, ⟨rfl, trivial⟩⟩ ?_
  refine wX4_holds_0 hi0 ?_
  exact ⟨rfl, rfl⟩

theorem sX3_nextChoice {G : ZG} (d : Nat) {h : ZH} {x0 : Int32}   : zC G (d + 2) mX3_nextChoice [zi x0] h (fun r h' => r = some (zi (nextI x0)) ∧ h' = h) := by
  refine zC_of (by decide +kernel) (Nat.le_of_ble_eq_true rfl) (L := [zi x0, zu, zu, zu]) ⟨rfl, trivial⟩ ?_
  refine wX3_nextChoice_0  ?_
  unfold nextI
  refine ⟨fun c => ?_, fun c => ⟨?_, rfl⟩⟩
  · intro y1 e1
    subst e1
    refine ⟨fun c2 => ⟨?_, rfl⟩, fun c2 => ⟨?_, rfl⟩⟩
    · rw [if_neg c, if_pos c2]
    · rw [if_neg c, if_neg c2]
  · rw [if_pos c]

theorem sX0_weight {G : ZG} (d : Nat) {h : ZH} {i0 : Nat} {x1 : Int32} (hi0 : i0 < zcnt 4)  : zC G (d + 2) mX0_weight [zr 4 i0, zi x1] h (fun r h' => r = some (zi (2 + x1 - 1)) ∧ h' = h) := by
  refine zC_of (by decide +kernel) (Nat.le_of_ble_eq_true rfl) (L := [zr 4 i0, zi x1]) ⟨rfl, ⟨rfl, trivial⟩⟩ ?_
  refine wX0_weight_0 hi0 ?_
  exact ⟨rfl, rfl⟩

theorem sX0_bears {G : ZG} (d : Nat) {h : ZH} {i0 : Nat} {x1 : Int32} (hi0 : i0 < zcnt 4)  : zC G (d + 2) mX0_bears [zr 4 i0, zi x1] h (fun r h' => r = some (zi (20 - 8)) ∧ h' = h) := by
  refine zC_of (by decide +kernel) (Nat.le_of_ble_eq_true rfl) (L := [zr 4 i0, zi x1]) ⟨rfl, ⟨rfl, trivial⟩⟩ ?_
  refine wX0_bears_0 hi0 ?_
  exact ⟨rfl, rfl⟩

theorem sX0_price {G : ZG} (d : Nat) {h : ZH} {i0 : Nat} {x1 : Int32} (hi0 : i0 < zcnt 4)  : zC G (d + 2) mX0_price [zr 4 i0, zi x1] h (fun r h' => r = some (zi (2 + 3)) ∧ h' = h) := by
  refine zC_of (by decide +kernel) (Nat.le_of_ble_eq_true rfl) (L := [zr 4 i0, zi x1]) ⟨rfl, ⟨rfl, trivial⟩⟩ ?_
  refine wX0_price_0 hi0 ?_
  exact ⟨rfl, rfl⟩

theorem sX2_weight {G : ZG} (d : Nat) {h : ZH} {i0 : Nat} {x1 : Int32} (hi0 : i0 < zcnt 4)  : zC G (d + 2) mX2_weight [zr 4 i0, zi x1] h (fun r h' => r = some (zi (2 + x1 + 3)) ∧ h' = h) := by
  refine zC_of (by decide +kernel) (Nat.le_of_ble_eq_true rfl) (L := [zr 4 i0, zi x1]) ⟨rfl, ⟨rfl, trivial⟩⟩ ?_
  refine wX2_weight_0 hi0 ?_
  exact ⟨rfl, rfl⟩

theorem sX2_bears {G : ZG} (d : Nat) {h : ZH} {i0 : Nat} {x1 : Int32} (hi0 : i0 < zcnt 4)  : zC G (d + 2) mX2_bears [zr 4 i0, zi x1] h (fun r h' => r = some (zi (2 * 20)) ∧ h' = h) := by
  refine zC_of (by decide +kernel) (Nat.le_of_ble_eq_true rfl) (L := [zr 4 i0, zi x1]) ⟨rfl, ⟨rfl, trivial⟩⟩ ?_
  refine wX2_bears_0 hi0 ?_
  exact ⟨rfl, rfl⟩

theorem sX2_price {G : ZG} (d : Nat) {h : ZH} {i0 : Nat} {x1 : Int32} (hi0 : i0 < zcnt 4)  : zC G (d + 2) mX2_price [zr 4 i0, zi x1] h (fun r h' => r = some (zi (2 + x1)) ∧ h' = h) := by
  refine zC_of (by decide +kernel) (Nat.le_of_ble_eq_true rfl) (L := [zr 4 i0, zi x1]) ⟨rfl, ⟨rfl, trivial⟩⟩ ?_
  refine wX2_price_0 hi0 ?_
  exact ⟨rfl, rfl⟩

theorem sX7_price {G : ZG} (d : Nat) {h : ZH} {i0 : Nat} {x1 : Int32} (hi0 : i0 < zcnt 4)  : zC G (d + 2) mX7_price [zr 4 i0, zi x1] h (fun r h' => r = some (zi (2 - 1)) ∧ h' = h) := by
  refine zC_of (by decide +kernel) (Nat.le_of_ble_eq_true rfl) (L := [zr 4 i0, zi x1]) ⟨rfl, ⟨rfl, trivial⟩⟩ ?_
  refine wX7_price_0 hi0 ?_
  exact ⟨rfl, rfl⟩

theorem sX11_rowRefused {G : ZG} (d : Nat) {h : ZH} {x1 : Int32}   : zC G (d + 2) mX11_rowRefused [zr 0 0, zi x1] h (fun r h' => r = some (zi (rowRefI h x1)) ∧ h' = h) := by
  refine zC_of (by decide +kernel) (Nat.le_of_ble_eq_true rfl) (L := [zr 0 0, zi x1]) ⟨rfl, ⟨rfl, trivial⟩⟩ ?_
  refine wX11_rowRefused_0  ?_
  unfold rowRefI
  refine ⟨fun c => ⟨vp8 c, fun c2 => ⟨vp8 c, fun c3 => ⟨?_, rfl⟩, fun c3 => ⟨?_, rfl⟩⟩, fun c2 => ⟨?_, rfl⟩⟩, fun c => ⟨?_, rfl⟩⟩
  · rw [if_pos c, if_neg c2, if_neg c3]
  · rw [if_pos c, if_neg c2, if_pos c3]
  · rw [if_pos c, if_pos c2]
  · rw [if_neg c]

theorem sX11_kindRefused {G : ZG} (d : Nat) {h : ZH} {x1 : Int32}   : zC G (d + 2) mX11_kindRefused [zr 0 0, zi x1] h (fun r h' => r = some (zi (kindRefI h x1)) ∧ h' = h) := by
  refine zC_of (by decide +kernel) (Nat.le_of_ble_eq_true rfl) (L := [zr 0 0, zi x1]) ⟨rfl, ⟨rfl, trivial⟩⟩ ?_
  refine wX11_kindRefused_0  ?_
  unfold kindRefI
  refine ⟨fun c => ⟨vp8 c, fun c2 => ⟨vp8 c, fun c3 => ⟨?_, rfl⟩, fun c3 => ⟨?_, rfl⟩⟩, fun c2 => ⟨?_, rfl⟩⟩, fun c => ⟨?_, rfl⟩⟩
  · rw [if_pos c, if_neg c2, if_neg c3]
  · rw [if_pos c, if_neg c2, if_pos c3]
  · rw [if_pos c, if_pos c2]
  · rw [if_neg c]
end
section
/-! ===== the bytecode of these methods, walked (by program): X12_isLeft X12_isRight X12_isClinging X12_noteOf X12_wrongKept X12_wrongRow X12_wrongStone X11_stoneRefused X11_digitAt X5_weight X5_bears X5_price X9_bears X9_price X1_weight X1_bears X1_price ===== -/
theorem kX12_isLeft_0 : zD cX12_isLeft 0 1 (.iload_n 1) 1 := by decide +kernel
theorem kX12_isLeft_1 : zD cX12_isLeft 1 2 (.iload_n 2) 1 := by decide +kernel
theorem kX12_isLeft_2 : zD cX12_isLeft 2 3 (.iconst 4) 1 := by decide +kernel
theorem kX12_isLeft_3 : zD cX12_isLeft 3 4 (.idiv) 1 := by decide +kernel
theorem kX12_isLeft_4 : zD cX12_isLeft 4 5 (.iconst 1) 1 := by decide +kernel
theorem kX12_isLeft_5 : zD cX12_isLeft 5 6 (.isub) 1 := by decide +kernel
theorem kX12_isLeft_6 : zD cX12_isLeft 6 7 (.iload_n 2) 1 := by decide +kernel
theorem kX12_isLeft_7 : zD cX12_isLeft 7 8 (.iconst 4) 1 := by decide +kernel
theorem kX12_isLeft_8 : zD cX12_isLeft 8 9 (.irem) 1 := by decide +kernel
theorem kX12_isLeft_9 : zD cX12_isLeft 9 10 (.iconst 1) 1 := by decide +kernel
theorem kX12_isLeft_10 : zD cX12_isLeft 10 11 (.isub) 1 := by decide +kernel
theorem kX12_isLeft_11 : zD cX12_isLeft 11 14 (.invokestatic 68) 3 := by decide +kernel
theorem kX12_isLeft_14 : zD cX12_isLeft 14 15 (.ireturn) 1 := by decide +kernel
set_option maxRecDepth 10000 in
theorem wX12_isLeft_0 {G : ZG} {d : Nat} {h : ZH} {Q : Option ZV → ZH → Prop} {x1 : Int32} {x2 : Int32} 
  (H : Q (some (zi (zb (atI x1 ((x2 / 4) - 1) ((x2 - x2 / 4 * 4) - 1))))) h) :
  zT G (d + 3) mX12_isLeft 0 [zr 5 0, zi x1, zi x2] [] h Q := by
  refine zt_iload_n kX12_isLeft_0 rfl ?_
  refine zt_iload_n kX12_isLeft_1 rfl ?_
  refine zt_iconst (v := 4) kX12_isLeft_2 rfl ?_
  refine zt_idiv kX12_isLeft_3 (by decide) ?_
  refine zt_iconst (v := 1) kX12_isLeft_4 rfl ?_
  refine zt_isub kX12_isLeft_5 ?_
  refine zt_iload_n kX12_isLeft_6 rfl ?_
  refine zt_iconst (v := 4) kX12_isLeft_7 rfl ?_
  refine zt_irem kX12_isLeft_8 (by decide) ?_
  refine zt_iconst (v := 1) kX12_isLeft_9 rfl ?_
  refine zt_isub kX12_isLeft_10 ?_
  refine zt_cS (as := [zi x1, zi ((x2 / 4) - 1), zi ((x2 - x2 / 4 * 4) - 1)]) kX12_isLeft_11 sRX12_68 rfl (by simp) rfl (sX12_isAt _  ) (fun r h0 hq => ?_)
  obtain ⟨rfl, hh⟩ := hq
  replace hh := hh.symm
  subst hh
  exact zt_zret kX12_isLeft_14 rfl (zb_01 _) H

theorem kX12_isRight_0 : zD cX12_isRight 0 1 (.iload_n 1) 1 := by decide +kernel
theorem kX12_isRight_1 : zD cX12_isRight 1 2 (.iload_n 2) 1 := by decide +kernel
theorem kX12_isRight_2 : zD cX12_isRight 2 3 (.iconst 4) 1 := by decide +kernel
theorem kX12_isRight_3 : zD cX12_isRight 3 4 (.idiv) 1 := by decide +kernel
theorem kX12_isRight_4 : zD cX12_isRight 4 5 (.iconst 1) 1 := by decide +kernel
theorem kX12_isRight_5 : zD cX12_isRight 5 6 (.isub) 1 := by decide +kernel
theorem kX12_isRight_6 : zD cX12_isRight 6 7 (.iload_n 2) 1 := by decide +kernel
theorem kX12_isRight_7 : zD cX12_isRight 7 8 (.iconst 4) 1 := by decide +kernel
theorem kX12_isRight_8 : zD cX12_isRight 8 9 (.irem) 1 := by decide +kernel
theorem kX12_isRight_9 : zD cX12_isRight 9 10 (.iconst 1) 1 := by decide +kernel
theorem kX12_isRight_10 : zD cX12_isRight 10 11 (.iadd) 1 := by decide +kernel
theorem kX12_isRight_11 : zD cX12_isRight 11 14 (.invokestatic 68) 3 := by decide +kernel
theorem kX12_isRight_14 : zD cX12_isRight 14 15 (.ireturn) 1 := by decide +kernel
set_option maxRecDepth 10000 in
theorem wX12_isRight_0 {G : ZG} {d : Nat} {h : ZH} {Q : Option ZV → ZH → Prop} {x1 : Int32} {x2 : Int32} 
  (H : Q (some (zi (zb (atI x1 ((x2 / 4) - 1) ((x2 - x2 / 4 * 4) + 1))))) h) :
  zT G (d + 3) mX12_isRight 0 [zr 5 0, zi x1, zi x2] [] h Q := by
  refine zt_iload_n kX12_isRight_0 rfl ?_
  refine zt_iload_n kX12_isRight_1 rfl ?_
  refine zt_iconst (v := 4) kX12_isRight_2 rfl ?_
  refine zt_idiv kX12_isRight_3 (by decide) ?_
  refine zt_iconst (v := 1) kX12_isRight_4 rfl ?_
  refine zt_isub kX12_isRight_5 ?_
  refine zt_iload_n kX12_isRight_6 rfl ?_
  refine zt_iconst (v := 4) kX12_isRight_7 rfl ?_
  refine zt_irem kX12_isRight_8 (by decide) ?_
  refine zt_iconst (v := 1) kX12_isRight_9 rfl ?_
  refine zt_iadd kX12_isRight_10 ?_
  refine zt_cS (as := [zi x1, zi ((x2 / 4) - 1), zi ((x2 - x2 / 4 * 4) + 1)]) kX12_isRight_11 sRX12_68 rfl (by simp) rfl (sX12_isAt _  ) (fun r h0 hq => ?_)
  obtain ⟨rfl, hh⟩ := hq
  replace hh := hh.symm
  subst hh
  exact zt_zret kX12_isRight_14 rfl (zb_01 _) H

theorem kX12_isClinging_0 : zD cX12_isClinging 0 1 (.iload_n 2) 1 := by decide +kernel
theorem kX12_isClinging_1 : zD cX12_isClinging 1 2 (.iconst 4) 1 := by decide +kernel
theorem kX12_isClinging_2 : zD cX12_isClinging 2 3 (.idiv) 1 := by decide +kernel
theorem kX12_isClinging_3 : zD cX12_isClinging 3 4 (.istore_n 3) 1 := by decide +kernel
theorem kX12_isClinging_4 : zD cX12_isClinging 4 5 (.iload_n 2) 1 := by decide +kernel
theorem kX12_isClinging_5 : zD cX12_isClinging 5 6 (.iconst 4) 1 := by decide +kernel
theorem kX12_isClinging_6 : zD cX12_isClinging 6 7 (.irem) 1 := by decide +kernel
theorem kX12_isClinging_7 : zD cX12_isClinging 7 9 (.istore 4) 2 := by decide +kernel
theorem kX12_isClinging_9 : zD cX12_isClinging 9 10 (.iload_n 1) 1 := by decide +kernel
theorem kX12_isClinging_10 : zD cX12_isClinging 10 11 (.iload_n 3) 1 := by decide +kernel
theorem kX12_isClinging_11 : zD cX12_isClinging 11 13 (.iload 4) 2 := by decide +kernel
theorem kX12_isClinging_13 : zD cX12_isClinging 13 14 (.iconst 1) 1 := by decide +kernel
theorem kX12_isClinging_14 : zD cX12_isClinging 14 15 (.isub) 1 := by decide +kernel
theorem kX12_isClinging_15 : zD cX12_isClinging 15 18 (.invokestatic 68) 3 := by decide +kernel
theorem kX12_isClinging_18 : zB cX12_isClinging 18 21 35 (.ifCond .eq 17) 17 := by decide +kernel
theorem kX12_isClinging_21 : zD cX12_isClinging 21 22 (.aload_n 0) 1 := by decide +kernel
theorem kX12_isClinging_22 : zD cX12_isClinging 22 23 (.iload_n 2) 1 := by decide +kernel
theorem kX12_isClinging_23 : zD cX12_isClinging 23 24 (.iconst 1) 1 := by decide +kernel
theorem kX12_isClinging_24 : zD cX12_isClinging 24 25 (.isub) 1 := by decide +kernel
theorem kX12_isClinging_25 : zD cX12_isClinging 25 28 (.invokevirtual 71) 3 := by decide +kernel
theorem kX12_isClinging_28 : zB cX12_isClinging 28 31 35 (.ifCond .ne 7) 7 := by decide +kernel
theorem kX12_isClinging_31 : zD cX12_isClinging 31 32 (.iconst 1) 1 := by decide +kernel
theorem kX12_isClinging_32 : zB cX12_isClinging 32 35 36 (.goto 4) 4 := by decide +kernel
theorem kX12_isClinging_35 : zD cX12_isClinging 35 36 (.iconst 0) 1 := by decide +kernel
theorem kX12_isClinging_36 : zD cX12_isClinging 36 38 (.istore 5) 2 := by decide +kernel
theorem kX12_isClinging_38 : zD cX12_isClinging 38 40 (.iload 5) 2 := by decide +kernel
theorem kX12_isClinging_40 : zB cX12_isClinging 40 43 65 (.ifCond .ne 25) 25 := by decide +kernel
theorem kX12_isClinging_43 : zD cX12_isClinging 43 44 (.iload_n 1) 1 := by decide +kernel
theorem kX12_isClinging_44 : zD cX12_isClinging 44 45 (.iload_n 3) 1 := by decide +kernel
theorem kX12_isClinging_45 : zD cX12_isClinging 45 47 (.iload 4) 2 := by decide +kernel
theorem kX12_isClinging_47 : zD cX12_isClinging 47 48 (.iconst 1) 1 := by decide +kernel
theorem kX12_isClinging_48 : zD cX12_isClinging 48 49 (.iadd) 1 := by decide +kernel
theorem kX12_isClinging_49 : zD cX12_isClinging 49 52 (.invokestatic 68) 3 := by decide +kernel
theorem kX12_isClinging_52 : zB cX12_isClinging 52 55 69 (.ifCond .eq 17) 17 := by decide +kernel
theorem kX12_isClinging_55 : zD cX12_isClinging 55 56 (.aload_n 0) 1 := by decide +kernel
theorem kX12_isClinging_56 : zD cX12_isClinging 56 57 (.iload_n 2) 1 := by decide +kernel
theorem kX12_isClinging_57 : zD cX12_isClinging 57 58 (.iconst 1) 1 := by decide +kernel
theorem kX12_isClinging_58 : zD cX12_isClinging 58 59 (.iadd) 1 := by decide +kernel
theorem kX12_isClinging_59 : zD cX12_isClinging 59 62 (.invokevirtual 71) 3 := by decide +kernel
theorem kX12_isClinging_62 : zB cX12_isClinging 62 65 69 (.ifCond .ne 7) 7 := by decide +kernel
theorem kX12_isClinging_65 : zD cX12_isClinging 65 66 (.iconst 1) 1 := by decide +kernel
theorem kX12_isClinging_66 : zB cX12_isClinging 66 69 70 (.goto 4) 4 := by decide +kernel
theorem kX12_isClinging_69 : zD cX12_isClinging 69 70 (.iconst 0) 1 := by decide +kernel
theorem kX12_isClinging_70 : zD cX12_isClinging 70 71 (.ireturn) 1 := by decide +kernel
set_option maxRecDepth 10000 in
theorem wX12_isClinging_0 {G : ZG} {d : Nat} {h : ZH} {Q : Option ZV → ZH → Prop} {x1 : Int32} {x2 : Int32} 
  (H : (¬ (atI x1 (x2 / 4) ((x2 - x2 / 4 * 4) - 1)) → (¬ (atI x1 (x2 / 4) ((x2 - x2 / 4 * 4) + 1)) → Q (some (zi 0)) h) ∧ ((atI x1 (x2 / 4) ((x2 - x2 / 4 * 4) + 1)) → vp_in (x2 + 1) 12 ∧ (((lightK (kindI h (x2 + 1))) → Q (some (zi 0)) h) ∧ (¬ (lightK (kindI h (x2 + 1))) → Q (some (zi 1)) h)))) ∧ ((atI x1 (x2 / 4) ((x2 - x2 / 4 * 4) - 1)) → vp_in (x2 - 1) 12 ∧ (((lightK (kindI h (x2 - 1))) → (¬ (atI x1 (x2 / 4) ((x2 - x2 / 4 * 4) + 1)) → Q (some (zi 0)) h) ∧ ((atI x1 (x2 / 4) ((x2 - x2 / 4 * 4) + 1)) → vp_in (x2 + 1) 12 ∧ (((lightK (kindI h (x2 + 1))) → Q (some (zi 0)) h) ∧ (¬ (lightK (kindI h (x2 + 1))) → Q (some (zi 1)) h)))) ∧ (¬ (lightK (kindI h (x2 - 1))) → Q (some (zi 1)) h)))) :
  zT G (d + 3) mX12_isClinging 0 [zr 5 0, zi x1, zi x2, zu, zu, zu] [] h Q := by
  refine zt_iload_n kX12_isClinging_0 rfl ?_
  refine zt_iconst (v := 4) kX12_isClinging_1 rfl ?_
  refine zt_idiv kX12_isClinging_2 (by decide) ?_
  refine zt_istore_n (L' := [zr 5 0, zi x1, zi x2, zi (x2 / 4), zu, zu]) kX12_isClinging_3 (by decide) rfl ?_
  refine zt_iload_n kX12_isClinging_4 rfl ?_
  refine zt_iconst (v := 4) kX12_isClinging_5 rfl ?_
  refine zt_irem kX12_isClinging_6 (by decide) ?_
  refine zt_istore (L' := [zr 5 0, zi x1, zi x2, zi (x2 / 4), zi (x2 - x2 / 4 * 4), zu]) kX12_isClinging_7 (by decide) rfl ?_
  refine zt_iload_n kX12_isClinging_9 rfl ?_
  refine zt_iload_n kX12_isClinging_10 rfl ?_
  refine zt_iload kX12_isClinging_11 rfl ?_
  refine zt_iconst (v := 1) kX12_isClinging_13 rfl ?_
  refine zt_isub kX12_isClinging_14 ?_
  refine zt_cS (as := [zi x1, zi (x2 / 4), zi ((x2 - x2 / 4 * 4) - 1)]) kX12_isClinging_15 sRX12_68 rfl (by simp) rfl (sX12_isAt _  ) (fun r h0 hq => ?_)
  obtain ⟨rfl, hh⟩ := hq
  replace hh := hh.symm
  subst hh
  refine zt_ifb_eq kX12_isClinging_18 (fun c => ?_) (fun c => ?_)
  · replace H := H.1 c
    refine zt_iconst (v := 0) kX12_isClinging_35 rfl ?_
    refine zt_istore (L' := [zr 5 0, zi x1, zi x2, zi (x2 / 4), zi (x2 - x2 / 4 * 4), zi 0]) kX12_isClinging_36 (by decide) rfl ?_
    refine zt_iload kX12_isClinging_38 rfl ?_
    refine zt_if_ne kX12_isClinging_40 (fun c => absurd c (by decide)) (fun _ => ?_)
    refine zt_iload_n kX12_isClinging_43 rfl ?_
    refine zt_iload_n kX12_isClinging_44 rfl ?_
    refine zt_iload kX12_isClinging_45 rfl ?_
    refine zt_iconst (v := 1) kX12_isClinging_47 rfl ?_
    refine zt_iadd kX12_isClinging_48 ?_
    refine zt_cS (as := [zi x1, zi (x2 / 4), zi ((x2 - x2 / 4 * 4) + 1)]) kX12_isClinging_49 sRX12_68 rfl (by simp) rfl (sX12_isAt _  ) (fun r h0 hq => ?_)
    obtain ⟨rfl, hh⟩ := hq
    replace hh := hh.symm
    subst hh
    refine zt_ifb_eq kX12_isClinging_52 (fun c => ?_) (fun c => ?_)
    · replace H := H.1 c
      refine zt_iconst (v := 0) kX12_isClinging_69 rfl ?_
      exact zt_zret kX12_isClinging_70 rfl (by decide) H
    · replace H := H.2 c
      refine zt_aload_n kX12_isClinging_55 rfl ?_
      refine zt_iload_n kX12_isClinging_56 rfl ?_
      refine zt_iconst (v := 1) kX12_isClinging_57 rfl ?_
      refine zt_iadd kX12_isClinging_58 ?_
      obtain ⟨pp0, H⟩ := H
      refine zt_cV (as := [zi (x2 + 1)]) kX12_isClinging_59 sRX12_71 rfl (by decide) rfl (by simp) rfl (sX12_isLight _  pp0) (fun r h0 hq => ?_)
      obtain ⟨rfl, hh⟩ := hq
      replace hh := hh.symm
      subst hh
      refine zt_ifb_ne kX12_isClinging_62 (fun c => ?_) (fun c => ?_)
      · replace H := H.1 c
        refine zt_iconst (v := 0) kX12_isClinging_69 rfl ?_
        exact zt_zret kX12_isClinging_70 rfl (by decide) H
      · replace H := H.2 c
        refine zt_iconst (v := 1) kX12_isClinging_65 rfl ?_
        refine zt_goto kX12_isClinging_66 ?_
        exact zt_zret kX12_isClinging_70 rfl (by decide) H
  · replace H := H.2 c
    refine zt_aload_n kX12_isClinging_21 rfl ?_
    refine zt_iload_n kX12_isClinging_22 rfl ?_
    refine zt_iconst (v := 1) kX12_isClinging_23 rfl ?_
    refine zt_isub kX12_isClinging_24 ?_
    obtain ⟨pp0, H⟩ := H
    refine zt_cV (as := [zi (x2 - 1)]) kX12_isClinging_25 sRX12_71 rfl (by decide) rfl (by simp) rfl (sX12_isLight _  pp0) (fun r h0 hq => ?_)
    obtain ⟨rfl, hh⟩ := hq
    replace hh := hh.symm
    subst hh
    refine zt_ifb_ne kX12_isClinging_28 (fun c => ?_) (fun c => ?_)
    · replace H := H.1 c
      refine zt_iconst (v := 0) kX12_isClinging_35 rfl ?_
      refine zt_istore (L' := [zr 5 0, zi x1, zi x2, zi (x2 / 4), zi (x2 - x2 / 4 * 4), zi 0]) kX12_isClinging_36 (by decide) rfl ?_
      refine zt_iload kX12_isClinging_38 rfl ?_
      refine zt_if_ne kX12_isClinging_40 (fun c => absurd c (by decide)) (fun _ => ?_)
      refine zt_iload_n kX12_isClinging_43 rfl ?_
      refine zt_iload_n kX12_isClinging_44 rfl ?_
      refine zt_iload kX12_isClinging_45 rfl ?_
      refine zt_iconst (v := 1) kX12_isClinging_47 rfl ?_
      refine zt_iadd kX12_isClinging_48 ?_
      refine zt_cS (as := [zi x1, zi (x2 / 4), zi ((x2 - x2 / 4 * 4) + 1)]) kX12_isClinging_49 sRX12_68 rfl (by simp) rfl (sX12_isAt _  ) (fun r h0 hq => ?_)
      obtain ⟨rfl, hh⟩ := hq
      replace hh := hh.symm
      subst hh
      refine zt_ifb_eq kX12_isClinging_52 (fun c => ?_) (fun c => ?_)
      · replace H := H.1 c
        refine zt_iconst (v := 0) kX12_isClinging_69 rfl ?_
        exact zt_zret kX12_isClinging_70 rfl (by decide) H
      · replace H := H.2 c
        refine zt_aload_n kX12_isClinging_55 rfl ?_
        refine zt_iload_n kX12_isClinging_56 rfl ?_
        refine zt_iconst (v := 1) kX12_isClinging_57 rfl ?_
        refine zt_iadd kX12_isClinging_58 ?_
        obtain ⟨pp0, H⟩ := H
        refine zt_cV (as := [zi (x2 + 1)]) kX12_isClinging_59 sRX12_71 rfl (by decide) rfl (by simp) rfl (sX12_isLight _  pp0) (fun r h0 hq => ?_)
        obtain ⟨rfl, hh⟩ := hq
        replace hh := hh.symm
        subst hh
        refine zt_ifb_ne kX12_isClinging_62 (fun c => ?_) (fun c => ?_)
        · replace H := H.1 c
          refine zt_iconst (v := 0) kX12_isClinging_69 rfl ?_
          exact zt_zret kX12_isClinging_70 rfl (by decide) H
        · replace H := H.2 c
          refine zt_iconst (v := 1) kX12_isClinging_65 rfl ?_
          refine zt_goto kX12_isClinging_66 ?_
          exact zt_zret kX12_isClinging_70 rfl (by decide) H
    · replace H := H.2 c
      refine zt_iconst (v := 1) kX12_isClinging_31 rfl ?_
      refine zt_goto kX12_isClinging_32 ?_
      refine zt_istore (L' := [zr 5 0, zi x1, zi x2, zi (x2 / 4), zi (x2 - x2 / 4 * 4), zi 1]) kX12_isClinging_36 (by decide) rfl ?_
      refine zt_iload kX12_isClinging_38 rfl ?_
      refine zt_if_ne kX12_isClinging_40 (fun _ => ?_) (fun c => absurd c (by decide))
      refine zt_iconst (v := 1) kX12_isClinging_65 rfl ?_
      refine zt_goto kX12_isClinging_66 ?_
      exact zt_zret kX12_isClinging_70 rfl (by decide) H

theorem kX12_noteOf_0 : zD cX12_noteOf 0 2 (.bipush 7) 2 := by decide +kernel
theorem kX12_noteOf_2 : zD cX12_noteOf 2 3 (.aload_n 0) 1 := by decide +kernel
theorem kX12_noteOf_3 : zD cX12_noteOf 3 4 (.iload_n 1) 1 := by decide +kernel
theorem kX12_noteOf_4 : zD cX12_noteOf 4 7 (.invokevirtual 87) 3 := by decide +kernel
theorem kX12_noteOf_7 : zD cX12_noteOf 7 8 (.imul) 1 := by decide +kernel
theorem kX12_noteOf_8 : zD cX12_noteOf 8 9 (.iconst 3) 1 := by decide +kernel
theorem kX12_noteOf_9 : zD cX12_noteOf 9 10 (.aload_n 0) 1 := by decide +kernel
theorem kX12_noteOf_10 : zD cX12_noteOf 10 13 (.getfield 19) 3 := by decide +kernel
theorem kX12_noteOf_13 : zD cX12_noteOf 13 14 (.iload_n 1) 1 := by decide +kernel
theorem kX12_noteOf_14 : zD cX12_noteOf 14 15 (.iaload) 1 := by decide +kernel
theorem kX12_noteOf_15 : zD cX12_noteOf 15 16 (.imul) 1 := by decide +kernel
theorem kX12_noteOf_16 : zD cX12_noteOf 16 17 (.iadd) 1 := by decide +kernel
theorem kX12_noteOf_17 : zD cX12_noteOf 17 19 (.bipush 50) 2 := by decide +kernel
theorem kX12_noteOf_19 : zD cX12_noteOf 19 20 (.irem) 1 := by decide +kernel
theorem kX12_noteOf_20 : zD cX12_noteOf 20 21 (.ireturn) 1 := by decide +kernel
set_option maxRecDepth 10000 in
theorem wX12_noteOf_0 {G : ZG} {d : Nat} {h : ZH} {Q : Option ZV → ZH → Prop} {x1 : Int32} 
  (H : vp_in x1 12 ∧ (vp_in x1 12 ∧ Q (some (zi (((7 * (wgtI (kindI h x1) (figI h x1))) + (3 * (h.1 33 0 x1.toNatClampNeg))) - ((7 * (wgtI (kindI h x1) (figI h x1))) + (3 * (h.1 33 0 x1.toNatClampNeg))) / 50 * 50))) h)) :
  zT G (d + 3) mX12_noteOf 0 [zr 5 0, zi x1] [] h Q := by
  refine zt_bipush (v := 7) kX12_noteOf_0 rfl ?_
  refine zt_aload_n kX12_noteOf_2 rfl ?_
  refine zt_iload_n kX12_noteOf_3 rfl ?_
  obtain ⟨pp0, H⟩ := H
  refine zt_cV (as := [zi x1]) kX12_noteOf_4 sRX12_87 rfl (by decide) rfl (by simp) rfl (sX12_weight _  pp0) (fun r h0 hq => ?_)
  obtain ⟨rfl, hh⟩ := hq
  replace hh := hh.symm
  subst hh
  refine zt_imul kX12_noteOf_7 ?_
  refine zt_iconst (v := 3) kX12_noteOf_8 rfl ?_
  refine zt_aload_n kX12_noteOf_9 rfl ?_
  refine zt_get (v := zr 33 0) kX12_noteOf_10 fRX12_19 rfl (by decide) rfl ?_
  refine zt_iload_n kX12_noteOf_13 rfl ?_
  obtain ⟨hv, H⟩ := H
  refine zt_iald kX12_noteOf_14 rfl (by decide) hv ?_
  refine zt_imul kX12_noteOf_15 ?_
  refine zt_iadd kX12_noteOf_16 ?_
  refine zt_bipush (v := 50) kX12_noteOf_17 rfl ?_
  refine zt_irem kX12_noteOf_19 (by decide) ?_
  exact zt_iret kX12_noteOf_20 rfl H

theorem kX12_wrongKept_0 : zD cX12_wrongKept 0 1 (.iload_n 1) 1 := by decide +kernel
theorem kX12_wrongKept_1 : zD cX12_wrongKept 1 4 (.invokestatic 241) 3 := by decide +kernel
theorem kX12_wrongKept_4 : zB cX12_wrongKept 4 7 11 (.ifCond .ne 7) 7 := by decide +kernel
theorem kX12_wrongKept_7 : zD cX12_wrongKept 7 8 (.iconst (-1)) 1 := by decide +kernel
theorem kX12_wrongKept_8 : zB cX12_wrongKept 8 11 41 (.goto 33) 33 := by decide +kernel
theorem kX12_wrongKept_11 : zD cX12_wrongKept 11 12 (.aload_n 0) 1 := by decide +kernel
theorem kX12_wrongKept_12 : zD cX12_wrongKept 12 15 (.getfield 35) 3 := by decide +kernel
theorem kX12_wrongKept_15 : zD cX12_wrongKept 15 16 (.iload_n 1) 1 := by decide +kernel
theorem kX12_wrongKept_16 : zD cX12_wrongKept 16 17 (.iaload) 1 := by decide +kernel
theorem kX12_wrongKept_17 : zB cX12_wrongKept 17 20 25 (.ifCond .ne 8) 8 := by decide +kernel
theorem kX12_wrongKept_20 : zD cX12_wrongKept 20 22 (.bipush (-11)) 2 := by decide +kernel
theorem kX12_wrongKept_22 : zB cX12_wrongKept 22 25 41 (.goto 19) 19 := by decide +kernel
theorem kX12_wrongKept_25 : zD cX12_wrongKept 25 26 (.aload_n 0) 1 := by decide +kernel
theorem kX12_wrongKept_26 : zD cX12_wrongKept 26 29 (.getfield 35) 3 := by decide +kernel
theorem kX12_wrongKept_29 : zD cX12_wrongKept 29 30 (.iload_n 1) 1 := by decide +kernel
theorem kX12_wrongKept_30 : zD cX12_wrongKept 30 31 (.iaload) 1 := by decide +kernel
theorem kX12_wrongKept_31 : zD cX12_wrongKept 31 32 (.iconst 2) 1 := by decide +kernel
theorem kX12_wrongKept_32 : zB cX12_wrongKept 32 35 40 (.if_icmp .ne 8) 8 := by decide +kernel
theorem kX12_wrongKept_35 : zD cX12_wrongKept 35 37 (.bipush (-12)) 2 := by decide +kernel
theorem kX12_wrongKept_37 : zB cX12_wrongKept 37 40 41 (.goto 4) 4 := by decide +kernel
theorem kX12_wrongKept_40 : zD cX12_wrongKept 40 41 (.iconst 0) 1 := by decide +kernel
theorem kX12_wrongKept_41 : zD cX12_wrongKept 41 42 (.ireturn) 1 := by decide +kernel
set_option maxRecDepth 10000 in
theorem wX12_wrongKept_0 {G : ZG} {d : Nat} {h : ZH} {Q : Option ZV → ZH → Prop} {x1 : Int32} 
  (H : ((0 ≤ x1 ∧ x1 ≤ 7) → vp_in x1 8 ∧ (¬ (h.1 38 0 x1.toNatClampNeg) = 0 → vp_in x1 8 ∧ (¬ (h.1 38 0 x1.toNatClampNeg) = 2 → Q (some (zi 0)) h) ∧ ((h.1 38 0 x1.toNatClampNeg) = 2 → Q (some (zi (-12))) h)) ∧ ((h.1 38 0 x1.toNatClampNeg) = 0 → Q (some (zi (-11))) h)) ∧ (¬ (0 ≤ x1 ∧ x1 ≤ 7) → Q (some (zi (-1))) h)) :
  zT G (d + 3) mX12_wrongKept 0 [zr 5 0, zi x1] [] h Q := by
  refine zt_iload_n kX12_wrongKept_0 rfl ?_
  refine zt_cS (as := [zi x1]) kX12_wrongKept_1 sRX12_241 rfl (by simp) rfl (sX12_isShelf _  ) (fun r h0 hq => ?_)
  obtain ⟨rfl, hh⟩ := hq
  replace hh := hh.symm
  subst hh
  refine zt_ifb_ne kX12_wrongKept_4 (fun c => ?_) (fun c => ?_)
  · replace H := H.1 c
    refine zt_aload_n kX12_wrongKept_11 rfl ?_
    refine zt_get (v := zr 38 0) kX12_wrongKept_12 fRX12_35 rfl (by decide) rfl ?_
    refine zt_iload_n kX12_wrongKept_15 rfl ?_
    obtain ⟨hv, H⟩ := H
    refine zt_iald kX12_wrongKept_16 rfl (by decide) hv ?_
    refine zt_if_ne kX12_wrongKept_17 (fun c => ?_) (fun c => ?_)
    · replace H := H.1 c
      refine zt_aload_n kX12_wrongKept_25 rfl ?_
      refine zt_get (v := zr 38 0) kX12_wrongKept_26 fRX12_35 rfl (by decide) rfl ?_
      refine zt_iload_n kX12_wrongKept_29 rfl ?_
      obtain ⟨hv, H⟩ := H
      refine zt_iald kX12_wrongKept_30 rfl (by decide) hv ?_
      refine zt_iconst (v := 2) kX12_wrongKept_31 rfl ?_
      refine zt_icmp_ne kX12_wrongKept_32 (fun c => ?_) (fun c => ?_)
      · replace H := H.1 c
        refine zt_iconst (v := 0) kX12_wrongKept_40 rfl ?_
        exact zt_iret kX12_wrongKept_41 rfl H
      · replace H := H.2 c
        refine zt_bipush (v := (-12)) kX12_wrongKept_35 rfl ?_
        refine zt_goto kX12_wrongKept_37 ?_
        exact zt_iret kX12_wrongKept_41 rfl H
    · replace H := H.2 c
      refine zt_bipush (v := (-11)) kX12_wrongKept_20 rfl ?_
      refine zt_goto kX12_wrongKept_22 ?_
      exact zt_iret kX12_wrongKept_41 rfl H
  · replace H := H.2 c
    refine zt_iconst (v := (-1)) kX12_wrongKept_7 rfl ?_
    refine zt_goto kX12_wrongKept_8 ?_
    exact zt_iret kX12_wrongKept_41 rfl H

theorem kX12_wrongRow_0 : zD cX12_wrongRow 0 1 (.iload_n 1) 1 := by decide +kernel
theorem kX12_wrongRow_1 : zD cX12_wrongRow 1 4 (.invokestatic 241) 3 := by decide +kernel
theorem kX12_wrongRow_4 : zB cX12_wrongRow 4 7 11 (.ifCond .ne 7) 7 := by decide +kernel
theorem kX12_wrongRow_7 : zD cX12_wrongRow 7 8 (.iconst (-1)) 1 := by decide +kernel
theorem kX12_wrongRow_8 : zB cX12_wrongRow 8 11 55 (.goto 47) 47 := by decide +kernel
theorem kX12_wrongRow_11 : zD cX12_wrongRow 11 12 (.aload_n 0) 1 := by decide +kernel
theorem kX12_wrongRow_12 : zD cX12_wrongRow 12 15 (.getfield 35) 3 := by decide +kernel
theorem kX12_wrongRow_15 : zD cX12_wrongRow 15 16 (.iload_n 1) 1 := by decide +kernel
theorem kX12_wrongRow_16 : zD cX12_wrongRow 16 17 (.iaload) 1 := by decide +kernel
theorem kX12_wrongRow_17 : zB cX12_wrongRow 17 20 25 (.ifCond .ne 8) 8 := by decide +kernel
theorem kX12_wrongRow_20 : zD cX12_wrongRow 20 22 (.bipush (-11)) 2 := by decide +kernel
theorem kX12_wrongRow_22 : zB cX12_wrongRow 22 25 55 (.goto 33) 33 := by decide +kernel
theorem kX12_wrongRow_25 : zD cX12_wrongRow 25 26 (.aload_n 0) 1 := by decide +kernel
theorem kX12_wrongRow_26 : zD cX12_wrongRow 26 29 (.getfield 35) 3 := by decide +kernel
theorem kX12_wrongRow_29 : zD cX12_wrongRow 29 30 (.iload_n 1) 1 := by decide +kernel
theorem kX12_wrongRow_30 : zD cX12_wrongRow 30 31 (.iaload) 1 := by decide +kernel
theorem kX12_wrongRow_31 : zD cX12_wrongRow 31 32 (.iconst 2) 1 := by decide +kernel
theorem kX12_wrongRow_32 : zB cX12_wrongRow 32 35 49 (.if_icmp .ne 17) 17 := by decide +kernel
theorem kX12_wrongRow_35 : zD cX12_wrongRow 35 36 (.iload_n 2) 1 := by decide +kernel
theorem kX12_wrongRow_36 : zB cX12_wrongRow 36 39 54 (.ifCond .lt 18) 18 := by decide +kernel
theorem kX12_wrongRow_39 : zD cX12_wrongRow 39 40 (.aload_n 0) 1 := by decide +kernel
theorem kX12_wrongRow_40 : zD cX12_wrongRow 40 43 (.getfield 44) 3 := by decide +kernel
theorem kX12_wrongRow_43 : zD cX12_wrongRow 43 44 (.iload_n 1) 1 := by decide +kernel
theorem kX12_wrongRow_44 : zD cX12_wrongRow 44 45 (.iaload) 1 := by decide +kernel
theorem kX12_wrongRow_45 : zD cX12_wrongRow 45 46 (.iload_n 2) 1 := by decide +kernel
theorem kX12_wrongRow_46 : zB cX12_wrongRow 46 49 54 (.if_icmp .eq 8) 8 := by decide +kernel
theorem kX12_wrongRow_49 : zD cX12_wrongRow 49 51 (.bipush (-12)) 2 := by decide +kernel
theorem kX12_wrongRow_51 : zB cX12_wrongRow 51 54 55 (.goto 4) 4 := by decide +kernel
theorem kX12_wrongRow_54 : zD cX12_wrongRow 54 55 (.iconst 0) 1 := by decide +kernel
theorem kX12_wrongRow_55 : zD cX12_wrongRow 55 56 (.ireturn) 1 := by decide +kernel
set_option maxRecDepth 10000 in
theorem wX12_wrongRow_0 {G : ZG} {d : Nat} {h : ZH} {Q : Option ZV → ZH → Prop} {x1 : Int32} {x2 : Int32} 
  (H : ((0 ≤ x1 ∧ x1 ≤ 7) → vp_in x1 8 ∧ (¬ (h.1 38 0 x1.toNatClampNeg) = 0 → vp_in x1 8 ∧ (¬ (h.1 38 0 x1.toNatClampNeg) = 2 → Q (some (zi (-12))) h) ∧ ((h.1 38 0 x1.toNatClampNeg) = 2 → (x2 < 0 → Q (some (zi 0)) h) ∧ (¬ x2 < 0 → vp_in x1 8 ∧ ((h.1 41 0 x1.toNatClampNeg) = x2 → Q (some (zi 0)) h) ∧ (¬ (h.1 41 0 x1.toNatClampNeg) = x2 → Q (some (zi (-12))) h)))) ∧ ((h.1 38 0 x1.toNatClampNeg) = 0 → Q (some (zi (-11))) h)) ∧ (¬ (0 ≤ x1 ∧ x1 ≤ 7) → Q (some (zi (-1))) h)) :
  zT G (d + 3) mX12_wrongRow 0 [zr 5 0, zi x1, zi x2] [] h Q := by
  refine zt_iload_n kX12_wrongRow_0 rfl ?_
  refine zt_cS (as := [zi x1]) kX12_wrongRow_1 sRX12_241 rfl (by simp) rfl (sX12_isShelf _  ) (fun r h0 hq => ?_)
  obtain ⟨rfl, hh⟩ := hq
  replace hh := hh.symm
  subst hh
  refine zt_ifb_ne kX12_wrongRow_4 (fun c => ?_) (fun c => ?_)
  · replace H := H.1 c
    refine zt_aload_n kX12_wrongRow_11 rfl ?_
    refine zt_get (v := zr 38 0) kX12_wrongRow_12 fRX12_35 rfl (by decide) rfl ?_
    refine zt_iload_n kX12_wrongRow_15 rfl ?_
    obtain ⟨hv, H⟩ := H
    refine zt_iald kX12_wrongRow_16 rfl (by decide) hv ?_
    refine zt_if_ne kX12_wrongRow_17 (fun c => ?_) (fun c => ?_)
    · replace H := H.1 c
      refine zt_aload_n kX12_wrongRow_25 rfl ?_
      refine zt_get (v := zr 38 0) kX12_wrongRow_26 fRX12_35 rfl (by decide) rfl ?_
      refine zt_iload_n kX12_wrongRow_29 rfl ?_
      obtain ⟨hv, H⟩ := H
      refine zt_iald kX12_wrongRow_30 rfl (by decide) hv ?_
      refine zt_iconst (v := 2) kX12_wrongRow_31 rfl ?_
      refine zt_icmp_ne kX12_wrongRow_32 (fun c => ?_) (fun c => ?_)
      · replace H := H.1 c
        refine zt_bipush (v := (-12)) kX12_wrongRow_49 rfl ?_
        refine zt_goto kX12_wrongRow_51 ?_
        exact zt_iret kX12_wrongRow_55 rfl H
      · replace H := H.2 c
        refine zt_iload_n kX12_wrongRow_35 rfl ?_
        refine zt_if_lt kX12_wrongRow_36 (fun c => ?_) (fun c => ?_)
        · replace H := H.1 c
          refine zt_iconst (v := 0) kX12_wrongRow_54 rfl ?_
          exact zt_iret kX12_wrongRow_55 rfl H
        · replace H := H.2 c
          refine zt_aload_n kX12_wrongRow_39 rfl ?_
          refine zt_get (v := zr 41 0) kX12_wrongRow_40 fRX12_44 rfl (by decide) rfl ?_
          refine zt_iload_n kX12_wrongRow_43 rfl ?_
          obtain ⟨hv, H⟩ := H
          refine zt_iald kX12_wrongRow_44 rfl (by decide) hv ?_
          refine zt_iload_n kX12_wrongRow_45 rfl ?_
          refine zt_icmp_eq kX12_wrongRow_46 (fun c => ?_) (fun c => ?_)
          · replace H := H.1 c
            refine zt_iconst (v := 0) kX12_wrongRow_54 rfl ?_
            exact zt_iret kX12_wrongRow_55 rfl H
          · replace H := H.2 c
            refine zt_bipush (v := (-12)) kX12_wrongRow_49 rfl ?_
            refine zt_goto kX12_wrongRow_51 ?_
            exact zt_iret kX12_wrongRow_55 rfl H
    · replace H := H.2 c
      refine zt_bipush (v := (-11)) kX12_wrongRow_20 rfl ?_
      refine zt_goto kX12_wrongRow_22 ?_
      exact zt_iret kX12_wrongRow_55 rfl H
  · replace H := H.2 c
    refine zt_iconst (v := (-1)) kX12_wrongRow_7 rfl ?_
    refine zt_goto kX12_wrongRow_8 ?_
    exact zt_iret kX12_wrongRow_55 rfl H

theorem kX12_wrongStone_0 : zD cX12_wrongStone 0 1 (.iload_n 1) 1 := by decide +kernel
theorem kX12_wrongStone_1 : zD cX12_wrongStone 1 4 (.invokestatic 130) 3 := by decide +kernel
theorem kX12_wrongStone_4 : zB cX12_wrongStone 4 7 11 (.ifCond .ne 7) 7 := by decide +kernel
theorem kX12_wrongStone_7 : zD cX12_wrongStone 7 8 (.iconst (-1)) 1 := by decide +kernel
theorem kX12_wrongStone_8 : zB cX12_wrongStone 8 11 25 (.goto 17) 17 := by decide +kernel
theorem kX12_wrongStone_11 : zD cX12_wrongStone 11 12 (.aload_n 0) 1 := by decide +kernel
theorem kX12_wrongStone_12 : zD cX12_wrongStone 12 13 (.iload_n 1) 1 := by decide +kernel
theorem kX12_wrongStone_13 : zD cX12_wrongStone 13 16 (.invokevirtual 133) 3 := by decide +kernel
theorem kX12_wrongStone_16 : zB cX12_wrongStone 16 19 23 (.ifCond .eq 7) 7 := by decide +kernel
theorem kX12_wrongStone_19 : zD cX12_wrongStone 19 20 (.iconst 0) 1 := by decide +kernel
theorem kX12_wrongStone_20 : zB cX12_wrongStone 20 23 25 (.goto 5) 5 := by decide +kernel
theorem kX12_wrongStone_23 : zD cX12_wrongStone 23 25 (.bipush (-3)) 2 := by decide +kernel
theorem kX12_wrongStone_25 : zD cX12_wrongStone 25 26 (.ireturn) 1 := by decide +kernel
set_option maxRecDepth 10000 in
theorem wX12_wrongStone_0 {G : ZG} {d : Nat} {h : ZH} {Q : Option ZV → ZH → Prop} {x1 : Int32} 
  (H : ((0 ≤ x1 ∧ x1 ≤ 11) → (¬ (hasI (h.1 30 0 0) x1) → Q (some (zi (-3))) h) ∧ ((hasI (h.1 30 0 0) x1) → Q (some (zi 0)) h)) ∧ (¬ (0 ≤ x1 ∧ x1 ≤ 11) → Q (some (zi (-1))) h)) :
  zT G (d + 3) mX12_wrongStone 0 [zr 5 0, zi x1] [] h Q := by
  refine zt_iload_n kX12_wrongStone_0 rfl ?_
  refine zt_cS (as := [zi x1]) kX12_wrongStone_1 sRX12_130 rfl (by simp) rfl (sX12_isPlace _  ) (fun r h0 hq => ?_)
  obtain ⟨rfl, hh⟩ := hq
  replace hh := hh.symm
  subst hh
  refine zt_ifb_ne kX12_wrongStone_4 (fun c => ?_) (fun c => ?_)
  · replace H := H.1 c
    refine zt_aload_n kX12_wrongStone_11 rfl ?_
    refine zt_iload_n kX12_wrongStone_12 rfl ?_
    refine zt_cV (as := [zi x1]) kX12_wrongStone_13 sRX12_133 rfl (by decide) rfl (by simp) rfl (sX12_isThere _  ) (fun r h0 hq => ?_)
    obtain ⟨rfl, hh⟩ := hq
    replace hh := hh.symm
    subst hh
    refine zt_ifb_eq kX12_wrongStone_16 (fun c => ?_) (fun c => ?_)
    · replace H := H.1 c
      refine zt_bipush (v := (-3)) kX12_wrongStone_23 rfl ?_
      exact zt_iret kX12_wrongStone_25 rfl H
    · replace H := H.2 c
      refine zt_iconst (v := 0) kX12_wrongStone_19 rfl ?_
      refine zt_goto kX12_wrongStone_20 ?_
      exact zt_iret kX12_wrongStone_25 rfl H
  · replace H := H.2 c
    refine zt_iconst (v := (-1)) kX12_wrongStone_7 rfl ?_
    refine zt_goto kX12_wrongStone_8 ?_
    exact zt_iret kX12_wrongStone_25 rfl H

theorem kX11_stoneRefused_0 : zD cX11_stoneRefused 0 1 (.iload_n 1) 1 := by decide +kernel
theorem kX11_stoneRefused_1 : zD cX11_stoneRefused 1 4 (.invokestatic 86) 3 := by decide +kernel
theorem kX11_stoneRefused_4 : zB cX11_stoneRefused 4 7 9 (.ifCond .ne 5) 5 := by decide +kernel
theorem kX11_stoneRefused_7 : zD cX11_stoneRefused 7 8 (.iconst (-1)) 1 := by decide +kernel
theorem kX11_stoneRefused_8 : zD cX11_stoneRefused 8 9 (.ireturn) 1 := by decide +kernel
theorem kX11_stoneRefused_9 : zD cX11_stoneRefused 9 10 (.aload_n 0) 1 := by decide +kernel
theorem kX11_stoneRefused_10 : zD cX11_stoneRefused 10 13 (.getfield 48) 3 := by decide +kernel
theorem kX11_stoneRefused_13 : zD cX11_stoneRefused 13 14 (.iload_n 1) 1 := by decide +kernel
theorem kX11_stoneRefused_14 : zD cX11_stoneRefused 14 17 (.invokevirtual 90) 3 := by decide +kernel
theorem kX11_stoneRefused_17 : zB cX11_stoneRefused 17 20 24 (.ifCond .eq 7) 7 := by decide +kernel
theorem kX11_stoneRefused_20 : zD cX11_stoneRefused 20 21 (.iconst 0) 1 := by decide +kernel
theorem kX11_stoneRefused_21 : zB cX11_stoneRefused 21 24 26 (.goto 5) 5 := by decide +kernel
theorem kX11_stoneRefused_24 : zD cX11_stoneRefused 24 26 (.bipush (-3)) 2 := by decide +kernel
theorem kX11_stoneRefused_26 : zD cX11_stoneRefused 26 27 (.ireturn) 1 := by decide +kernel
set_option maxRecDepth 10000 in
theorem wX11_stoneRefused_0 {G : ZG} {d : Nat} {h : ZH} {Q : Option ZV → ZH → Prop} {x1 : Int32} 
  (H : ((0 ≤ x1 ∧ x1 ≤ 11) → (¬ (hasI (h.1 2 0 6) x1) → Q (some (zi (-3))) h) ∧ ((hasI (h.1 2 0 6) x1) → Q (some (zi 0)) h)) ∧ (¬ (0 ≤ x1 ∧ x1 ≤ 11) → Q (some (zi (-1))) h)) :
  zT G (d + 3) mX11_stoneRefused 0 [zr 0 0, zi x1] [] h Q := by
  refine zt_iload_n kX11_stoneRefused_0 rfl ?_
  refine zt_cS (as := [zi x1]) kX11_stoneRefused_1 sRX11_86 rfl (by simp) rfl (sX11_isPlace _  ) (fun r h0 hq => ?_)
  obtain ⟨rfl, hh⟩ := hq
  replace hh := hh.symm
  subst hh
  refine zt_ifb_ne kX11_stoneRefused_4 (fun c => ?_) (fun c => ?_)
  · replace H := H.1 c
    refine zt_aload_n kX11_stoneRefused_9 rfl ?_
    refine zt_get (v := zr 2 0) kX11_stoneRefused_10 fRX11_48 rfl (by decide) rfl ?_
    refine zt_iload_n kX11_stoneRefused_13 rfl ?_
    refine zt_cV (as := [zi x1]) kX11_stoneRefused_14 sRX11_90 rfl (by decide) rfl (by simp) rfl (sX4_holds _ (by decide) ) (fun r h0 hq => ?_)
    obtain ⟨rfl, hh⟩ := hq
    replace hh := hh.symm
    subst hh
    refine zt_ifb_eq kX11_stoneRefused_17 (fun c => ?_) (fun c => ?_)
    · replace H := H.1 c
      refine zt_bipush (v := (-3)) kX11_stoneRefused_24 rfl ?_
      exact zt_iret kX11_stoneRefused_26 rfl H
    · replace H := H.2 c
      refine zt_iconst (v := 0) kX11_stoneRefused_20 rfl ?_
      refine zt_goto kX11_stoneRefused_21 ?_
      exact zt_iret kX11_stoneRefused_26 rfl H
  · replace H := H.2 c
    refine zt_iconst (v := (-1)) kX11_stoneRefused_7 rfl ?_
    exact zt_iret kX11_stoneRefused_8 rfl H

theorem kX11_digitAt_0 : zD cX11_digitAt 0 1 (.aload_n 0) 1 := by decide +kernel
theorem kX11_digitAt_1 : zD cX11_digitAt 1 2 (.iload_n 1) 1 := by decide +kernel
theorem kX11_digitAt_2 : zD cX11_digitAt 2 5 (.invokevirtual 244) 3 := by decide +kernel
theorem kX11_digitAt_5 : zD cX11_digitAt 5 7 (.bipush 48) 2 := by decide +kernel
theorem kX11_digitAt_7 : zD cX11_digitAt 7 8 (.isub) 1 := by decide +kernel
theorem kX11_digitAt_8 : zD cX11_digitAt 8 9 (.ireturn) 1 := by decide +kernel
set_option maxRecDepth 10000 in
theorem wX11_digitAt_0 {G : ZG} {d : Nat} {h : ZH} {Q : Option ZV → ZH → Prop} {i0 : Nat} {x1 : Int32} (hi0 : i0 < zcnt 3)
  (H : h.1 3 i0 4 ≤ 100 ∧ (Q (some (zi ((shAt h i0 x1) - 48))) h)) :
  zT G (d + 3) mX11_digitAt 0 [zr 3 i0, zi x1] [] h Q := by
  refine zt_aload_n kX11_digitAt_0 rfl ?_
  refine zt_iload_n kX11_digitAt_1 rfl ?_
  obtain ⟨pp0, H⟩ := H
  refine zt_cV (as := [zi x1]) kX11_digitAt_2 sRX11_244 rfl hi0 rfl (by simp) rfl (sX8_at _ hi0 pp0) (fun r h0 hq => ?_)
  obtain ⟨rfl, hh⟩ := hq
  replace hh := hh.symm
  subst hh
  refine zt_bipush (v := 48) kX11_digitAt_5 rfl ?_
  refine zt_isub kX11_digitAt_7 ?_
  exact zt_iret kX11_digitAt_8 rfl H

theorem kX5_weight_0 : zD cX5_weight 0 1 (.aload_n 0) 1 := by decide +kernel
theorem kX5_weight_1 : zD cX5_weight 1 2 (.iload_n 1) 1 := by decide +kernel
theorem kX5_weight_2 : zD cX5_weight 2 5 (.invokespecial 7) 3 := by decide +kernel
theorem kX5_weight_5 : zD cX5_weight 5 6 (.iload_n 1) 1 := by decide +kernel
theorem kX5_weight_6 : zD cX5_weight 6 7 (.iadd) 1 := by decide +kernel
theorem kX5_weight_7 : zD cX5_weight 7 8 (.ireturn) 1 := by decide +kernel
set_option maxRecDepth 10000 in
theorem wX5_weight_0 {G : ZG} {d : Nat} {h : ZH} {Q : Option ZV → ZH → Prop} {i0 : Nat} {x1 : Int32} (hi0 : i0 < zcnt 4)
  (H : Q (some (zi ((2 + x1 - 1) + x1))) h) :
  zT G (d + 3) mX5_weight 0 [zr 4 i0, zi x1] [] h Q := by
  refine zt_aload_n kX5_weight_0 rfl ?_
  refine zt_iload_n kX5_weight_1 rfl ?_
  refine zt_cU (as := [zi x1]) kX5_weight_2 sRX5_7 (zcl4 hi0) rfl hi0 rfl (by simp) rfl (sX0_weight _ hi0 ) (fun r h0 hq => ?_)
  obtain ⟨rfl, hh⟩ := hq
  replace hh := hh.symm
  subst hh
  refine zt_iload_n kX5_weight_5 rfl ?_
  refine zt_iadd kX5_weight_6 ?_
  exact zt_iret kX5_weight_7 rfl H

theorem kX5_bears_0 : zD cX5_bears 0 1 (.aload_n 0) 1 := by decide +kernel
theorem kX5_bears_1 : zD cX5_bears 1 2 (.iload_n 1) 1 := by decide +kernel
theorem kX5_bears_2 : zD cX5_bears 2 5 (.invokespecial 11) 3 := by decide +kernel
theorem kX5_bears_5 : zD cX5_bears 5 6 (.iload_n 1) 1 := by decide +kernel
theorem kX5_bears_6 : zD cX5_bears 6 7 (.iadd) 1 := by decide +kernel
theorem kX5_bears_7 : zD cX5_bears 7 8 (.ireturn) 1 := by decide +kernel
set_option maxRecDepth 10000 in
theorem wX5_bears_0 {G : ZG} {d : Nat} {h : ZH} {Q : Option ZV → ZH → Prop} {i0 : Nat} {x1 : Int32} (hi0 : i0 < zcnt 4)
  (H : Q (some (zi (((20 : Int32) - 8) + x1))) h) :
  zT G (d + 3) mX5_bears 0 [zr 4 i0, zi x1] [] h Q := by
  refine zt_aload_n kX5_bears_0 rfl ?_
  refine zt_iload_n kX5_bears_1 rfl ?_
  refine zt_cU (as := [zi x1]) kX5_bears_2 sRX5_11 (zcl4 hi0) rfl hi0 rfl (by simp) rfl (sX0_bears _ hi0 ) (fun r h0 hq => ?_)
  obtain ⟨rfl, hh⟩ := hq
  replace hh := hh.symm
  subst hh
  refine zt_iload_n kX5_bears_5 rfl ?_
  refine zt_iadd kX5_bears_6 ?_
  exact zt_iret kX5_bears_7 rfl H

theorem kX5_price_0 : zD cX5_price 0 1 (.aload_n 0) 1 := by decide +kernel
theorem kX5_price_1 : zD cX5_price 1 2 (.iload_n 1) 1 := by decide +kernel
theorem kX5_price_2 : zD cX5_price 2 5 (.invokespecial 14) 3 := by decide +kernel
theorem kX5_price_5 : zD cX5_price 5 6 (.iload_n 1) 1 := by decide +kernel
theorem kX5_price_6 : zD cX5_price 6 7 (.iadd) 1 := by decide +kernel
theorem kX5_price_7 : zD cX5_price 7 8 (.ireturn) 1 := by decide +kernel
set_option maxRecDepth 10000 in
theorem wX5_price_0 {G : ZG} {d : Nat} {h : ZH} {Q : Option ZV → ZH → Prop} {i0 : Nat} {x1 : Int32} (hi0 : i0 < zcnt 4)
  (H : Q (some (zi (((2 : Int32) + 3) + x1))) h) :
  zT G (d + 3) mX5_price 0 [zr 4 i0, zi x1] [] h Q := by
  refine zt_aload_n kX5_price_0 rfl ?_
  refine zt_iload_n kX5_price_1 rfl ?_
  refine zt_cU (as := [zi x1]) kX5_price_2 sRX5_14 (zcl4 hi0) rfl hi0 rfl (by simp) rfl (sX0_price _ hi0 ) (fun r h0 hq => ?_)
  obtain ⟨rfl, hh⟩ := hq
  replace hh := hh.symm
  subst hh
  refine zt_iload_n kX5_price_5 rfl ?_
  refine zt_iadd kX5_price_6 ?_
  exact zt_iret kX5_price_7 rfl H

theorem kX9_bears_0 : zD cX9_bears 0 1 (.aload_n 0) 1 := by decide +kernel
theorem kX9_bears_1 : zD cX9_bears 1 2 (.iload_n 1) 1 := by decide +kernel
theorem kX9_bears_2 : zD cX9_bears 2 5 (.invokespecial 7) 3 := by decide +kernel
theorem kX9_bears_5 : zD cX9_bears 5 6 (.iload_n 1) 1 := by decide +kernel
theorem kX9_bears_6 : zD cX9_bears 6 7 (.isub) 1 := by decide +kernel
theorem kX9_bears_7 : zD cX9_bears 7 8 (.ireturn) 1 := by decide +kernel
set_option maxRecDepth 10000 in
theorem wX9_bears_0 {G : ZG} {d : Nat} {h : ZH} {Q : Option ZV → ZH → Prop} {i0 : Nat} {x1 : Int32} (hi0 : i0 < zcnt 4)
  (H : Q (some (zi (((2 : Int32) * 20) - x1))) h) :
  zT G (d + 3) mX9_bears 0 [zr 4 i0, zi x1] [] h Q := by
  refine zt_aload_n kX9_bears_0 rfl ?_
  refine zt_iload_n kX9_bears_1 rfl ?_
  refine zt_cU (as := [zi x1]) kX9_bears_2 sRX9_7 (zcl4 hi0) rfl hi0 rfl (by simp) rfl (sX2_bears _ hi0 ) (fun r h0 hq => ?_)
  obtain ⟨rfl, hh⟩ := hq
  replace hh := hh.symm
  subst hh
  refine zt_iload_n kX9_bears_5 rfl ?_
  refine zt_isub kX9_bears_6 ?_
  exact zt_iret kX9_bears_7 rfl H

theorem kX9_price_0 : zD cX9_price 0 1 (.iconst 2) 1 := by decide +kernel
theorem kX9_price_1 : zD cX9_price 1 2 (.aload_n 0) 1 := by decide +kernel
theorem kX9_price_2 : zD cX9_price 2 3 (.iload_n 1) 1 := by decide +kernel
theorem kX9_price_3 : zD cX9_price 3 6 (.invokespecial 11) 3 := by decide +kernel
theorem kX9_price_6 : zD cX9_price 6 7 (.imul) 1 := by decide +kernel
theorem kX9_price_7 : zD cX9_price 7 8 (.ireturn) 1 := by decide +kernel
set_option maxRecDepth 10000 in
theorem wX9_price_0 {G : ZG} {d : Nat} {h : ZH} {Q : Option ZV → ZH → Prop} {i0 : Nat} {x1 : Int32} (hi0 : i0 < zcnt 4)
  (H : Q (some (zi (2 * (2 + x1)))) h) :
  zT G (d + 3) mX9_price 0 [zr 4 i0, zi x1] [] h Q := by
  refine zt_iconst (v := 2) kX9_price_0 rfl ?_
  refine zt_aload_n kX9_price_1 rfl ?_
  refine zt_iload_n kX9_price_2 rfl ?_
  refine zt_cU (as := [zi x1]) kX9_price_3 sRX9_11 (zcl4 hi0) rfl hi0 rfl (by simp) rfl (sX2_price _ hi0 ) (fun r h0 hq => ?_)
  obtain ⟨rfl, hh⟩ := hq
  replace hh := hh.symm
  subst hh
  refine zt_imul kX9_price_6 ?_
  exact zt_iret kX9_price_7 rfl H

theorem kX1_weight_0 : zD cX1_weight 0 1 (.iconst 2) 1 := by decide +kernel
theorem kX1_weight_1 : zD cX1_weight 1 2 (.aload_n 0) 1 := by decide +kernel
theorem kX1_weight_2 : zD cX1_weight 2 3 (.iload_n 1) 1 := by decide +kernel
theorem kX1_weight_3 : zD cX1_weight 3 6 (.invokespecial 9) 3 := by decide +kernel
theorem kX1_weight_6 : zD cX1_weight 6 7 (.imul) 1 := by decide +kernel
theorem kX1_weight_7 : zD cX1_weight 7 8 (.ireturn) 1 := by decide +kernel
set_option maxRecDepth 10000 in
theorem wX1_weight_0 {G : ZG} {d : Nat} {h : ZH} {Q : Option ZV → ZH → Prop} {i0 : Nat} {x1 : Int32} (hi0 : i0 < zcnt 4)
  (H : Q (some (zi (2 * (2 + x1 - 1)))) h) :
  zT G (d + 3) mX1_weight 0 [zr 4 i0, zi x1] [] h Q := by
  refine zt_iconst (v := 2) kX1_weight_0 rfl ?_
  refine zt_aload_n kX1_weight_1 rfl ?_
  refine zt_iload_n kX1_weight_2 rfl ?_
  refine zt_cU (as := [zi x1]) kX1_weight_3 sRX1_9 (zcl4 hi0) rfl hi0 rfl (by simp) rfl (sX0_weight _ hi0 ) (fun r h0 hq => ?_)
  obtain ⟨rfl, hh⟩ := hq
  replace hh := hh.symm
  subst hh
  refine zt_imul kX1_weight_6 ?_
  exact zt_iret kX1_weight_7 rfl H

theorem kX1_bears_0 : zD cX1_bears 0 1 (.aload_n 0) 1 := by decide +kernel
theorem kX1_bears_1 : zD cX1_bears 1 2 (.iload_n 1) 1 := by decide +kernel
theorem kX1_bears_2 : zD cX1_bears 2 5 (.invokespecial 13) 3 := by decide +kernel
theorem kX1_bears_5 : zD cX1_bears 5 6 (.iconst 2) 1 := by decide +kernel
theorem kX1_bears_6 : zD cX1_bears 6 7 (.idiv) 1 := by decide +kernel
theorem kX1_bears_7 : zD cX1_bears 7 8 (.ireturn) 1 := by decide +kernel
set_option maxRecDepth 10000 in
theorem wX1_bears_0 {G : ZG} {d : Nat} {h : ZH} {Q : Option ZV → ZH → Prop} {i0 : Nat} {x1 : Int32} (hi0 : i0 < zcnt 4)
  (H : Q (some (zi (((20 : Int32) - 8) / 2))) h) :
  zT G (d + 3) mX1_bears 0 [zr 4 i0, zi x1] [] h Q := by
  refine zt_aload_n kX1_bears_0 rfl ?_
  refine zt_iload_n kX1_bears_1 rfl ?_
  refine zt_cU (as := [zi x1]) kX1_bears_2 sRX1_13 (zcl4 hi0) rfl hi0 rfl (by simp) rfl (sX0_bears _ hi0 ) (fun r h0 hq => ?_)
  obtain ⟨rfl, hh⟩ := hq
  replace hh := hh.symm
  subst hh
  refine zt_iconst (v := 2) kX1_bears_5 rfl ?_
  refine zt_idiv kX1_bears_6 (by decide) ?_
  exact zt_iret kX1_bears_7 rfl H

theorem kX1_price_0 : zD cX1_price 0 1 (.aload_n 0) 1 := by decide +kernel
theorem kX1_price_1 : zD cX1_price 1 2 (.iload_n 1) 1 := by decide +kernel
theorem kX1_price_2 : zD cX1_price 2 5 (.invokespecial 16) 3 := by decide +kernel
theorem kX1_price_5 : zD cX1_price 5 6 (.iconst 2) 1 := by decide +kernel
theorem kX1_price_6 : zD cX1_price 6 7 (.idiv) 1 := by decide +kernel
theorem kX1_price_7 : zD cX1_price 7 8 (.ireturn) 1 := by decide +kernel
set_option maxRecDepth 10000 in
theorem wX1_price_0 {G : ZG} {d : Nat} {h : ZH} {Q : Option ZV → ZH → Prop} {i0 : Nat} {x1 : Int32} (hi0 : i0 < zcnt 4)
  (H : Q (some (zi (((2 : Int32) + 3) / 2))) h) :
  zT G (d + 3) mX1_price 0 [zr 4 i0, zi x1] [] h Q := by
  refine zt_aload_n kX1_price_0 rfl ?_
  refine zt_iload_n kX1_price_1 rfl ?_
  refine zt_cU (as := [zi x1]) kX1_price_2 sRX1_16 (zcl4 hi0) rfl hi0 rfl (by simp) rfl (sX0_price _ hi0 ) (fun r h0 hq => ?_)
  obtain ⟨rfl, hh⟩ := hq
  replace hh := hh.symm
  subst hh
  refine zt_iconst (v := 2) kX1_price_5 rfl ?_
  refine zt_idiv kX1_price_6 (by decide) ?_
  exact zt_iret kX1_price_7 rfl H
end
section
def wKeptI (h : ZH) (d : Int32) : Int32 := if 0 ≤ d ∧ d ≤ 7 then (if h.1 38 0 d.toNatClampNeg = 0 then -11 else if h.1 38 0 d.toNatClampNeg = 2 then -12 else 0) else -1
def wRowI (h : ZH) (d a : Int32) : Int32 := if 0 ≤ d ∧ d ≤ 7 then (if h.1 38 0 d.toNatClampNeg = 0 then -11 else if h.1 38 0 d.toNatClampNeg = 2 then (if a < 0 then 0 else if h.1 41 0 d.toNatClampNeg = a then 0 else -12) else -12) else -1
def wStoneI (h : ZH) (p : Int32) : Int32 := if 0 ≤ p ∧ p ≤ 11 then (if hasI (h.1 30 0 0) p then 0 else -3) else -1
def stRefI (h : ZH) (p : Int32) : Int32 := if 0 ≤ p ∧ p ≤ 11 then (if hasI (h.1 2 0 6) p then 0 else -3) else -1

theorem sX12_isLeft {G : ZG} (d : Nat) {h : ZH} {x1 : Int32} {x2 : Int32}   : zC G (d + 3) mX12_isLeft [zr 5 0, zi x1, zi x2] h (fun r h' => r = some (zi (zb (leftI x1 x2))) ∧ h' = h) := by
  refine zC_of (by decide +kernel) (Nat.le_of_ble_eq_true rfl) (L := [zr 5 0, zi x1, zi x2]) ⟨rfl, ⟨rfl, ⟨rfl, trivial⟩⟩⟩ ?_
  refine wX12_isLeft_0  ?_
  exact ⟨rfl, rfl⟩

theorem sX12_isRight {G : ZG} (d : Nat) {h : ZH} {x1 : Int32} {x2 : Int32}   : zC G (d + 3) mX12_isRight [zr 5 0, zi x1, zi x2] h (fun r h' => r = some (zi (zb (rightI x1 x2))) ∧ h' = h) := by
  refine zC_of (by decide +kernel) (Nat.le_of_ble_eq_true rfl) (L := [zr 5 0, zi x1, zi x2]) ⟨rfl, ⟨rfl, ⟨rfl, trivial⟩⟩⟩ ?_
  refine wX12_isRight_0  ?_
  exact ⟨rfl, rfl⟩

theorem sX12_isClinging {G : ZG} (d : Nat) {h : ZH} {x1 : Int32} {x2 : Int32}  (hp0 : vp_in x2 12) : zC G (d + 3) mX12_isClinging [zr 5 0, zi x1, zi x2] h (fun r h' => r = some (zi (zb (clingI h x1 x2))) ∧ h' = h) := by
  refine zC_of (by decide +kernel) (Nat.le_of_ble_eq_true rfl) (L := [zr 5 0, zi x1, zi x2, zu, zu, zu]) ⟨rfl, ⟨rfl, ⟨rfl, trivial⟩⟩⟩ ?_
  refine wX12_isClinging_0  ?_
  refine ⟨fun c => ⟨fun c2 => ⟨?_, rfl⟩, fun c2 => ⟨vp_r hp0 c2.1.2, fun c3 => ⟨?_, rfl⟩, fun c3 => ⟨?_, rfl⟩⟩⟩, fun c => ⟨vp_l hp0 c.1.1, fun c4 => ⟨fun c2 => ⟨?_, rfl⟩, fun c2 => ⟨vp_r hp0 c2.1.2, fun c3 => ⟨?_, rfl⟩, fun c3 => ⟨?_, rfl⟩⟩⟩, fun c4 => ⟨?_, rfl⟩⟩⟩
  · rw [zb_f (fun q => q.elim (fun z => c z.1) (fun z => c2 z.1))]
  · rw [zb_f (fun q => q.elim (fun z => c z.1) (fun z => z.2 c3))]
  · rw [zb_t (Or.inr ⟨c2, c3⟩)]
  · rw [zb_f (fun q => q.elim (fun z => z.2 c4) (fun z => c2 z.1))]
  · rw [zb_f (fun q => q.elim (fun z => z.2 c4) (fun z => z.2 c3))]
  · rw [zb_t (Or.inr ⟨c2, c3⟩)]
  · rw [zb_t (Or.inl ⟨c, c4⟩)]

theorem sX12_noteOf {G : ZG} (d : Nat) {h : ZH} {x1 : Int32}  (hp0 : vp_in x1 12) : zC G (d + 3) mX12_noteOf [zr 5 0, zi x1] h (fun r h' => r = some (zi (noteI (wgtI (kindI h x1) (figI h x1)) (h.1 33 0 x1.toNatClampNeg))) ∧ h' = h) := by
  refine zC_of (by decide +kernel) (Nat.le_of_ble_eq_true rfl) (L := [zr 5 0, zi x1]) ⟨rfl, ⟨rfl, trivial⟩⟩ ?_
  refine wX12_noteOf_0  ?_
  exact ⟨hp0, hp0, rfl, rfl⟩

theorem sX12_wrongKept {G : ZG} (d : Nat) {h : ZH} {x1 : Int32}   : zC G (d + 3) mX12_wrongKept [zr 5 0, zi x1] h (fun r h' => r = some (zi (wKeptI h x1)) ∧ h' = h) := by
  refine zC_of (by decide +kernel) (Nat.le_of_ble_eq_true rfl) (L := [zr 5 0, zi x1]) ⟨rfl, ⟨rfl, trivial⟩⟩ ?_
  refine wX12_wrongKept_0  ?_
  unfold wKeptI
  refine ⟨fun c => ⟨vp8 c, fun c2 => ⟨vp8 c, fun c3 => ⟨?_, rfl⟩, fun c3 => ⟨?_, rfl⟩⟩, fun c2 => ⟨?_, rfl⟩⟩, fun c => ⟨?_, rfl⟩⟩
  · rw [if_pos c, if_neg c2, if_neg c3]
  · rw [if_pos c, if_neg c2, if_pos c3]
  · rw [if_pos c, if_pos c2]
  · rw [if_neg c]

theorem sX12_wrongRow {G : ZG} (d : Nat) {h : ZH} {x1 : Int32} {x2 : Int32}   : zC G (d + 3) mX12_wrongRow [zr 5 0, zi x1, zi x2] h (fun r h' => r = some (zi (wRowI h x1 x2)) ∧ h' = h) := by
  refine zC_of (by decide +kernel) (Nat.le_of_ble_eq_true rfl) (L := [zr 5 0, zi x1, zi x2]) ⟨rfl, ⟨rfl, ⟨rfl, trivial⟩⟩⟩ ?_
  refine wX12_wrongRow_0  ?_
  unfold wRowI
  refine ⟨fun c => ⟨vp8 c, fun c2 => ⟨vp8 c, fun c3 => ⟨?_, rfl⟩, fun c3 => ⟨fun c4 => ⟨?_, rfl⟩, fun c4 => ⟨vp8 c, fun c5 => ⟨?_, rfl⟩, fun c5 => ⟨?_, rfl⟩⟩⟩⟩, fun c2 => ⟨?_, rfl⟩⟩, fun c => ⟨?_, rfl⟩⟩
  · rw [if_pos c, if_neg c2, if_neg c3]
  · rw [if_pos c, if_neg c2, if_pos c3, if_pos c4]
  · rw [if_pos c, if_neg c2, if_pos c3, if_neg c4, if_pos c5]
  · rw [if_pos c, if_neg c2, if_pos c3, if_neg c4, if_neg c5]
  · rw [if_pos c, if_pos c2]
  · rw [if_neg c]

theorem sX12_wrongStone {G : ZG} (d : Nat) {h : ZH} {x1 : Int32}   : zC G (d + 3) mX12_wrongStone [zr 5 0, zi x1] h (fun r h' => r = some (zi (wStoneI h x1)) ∧ h' = h) := by
  refine zC_of (by decide +kernel) (Nat.le_of_ble_eq_true rfl) (L := [zr 5 0, zi x1]) ⟨rfl, ⟨rfl, trivial⟩⟩ ?_
  refine wX12_wrongStone_0  ?_
  unfold wStoneI
  refine ⟨fun c => ⟨fun c2 => ⟨?_, rfl⟩, fun c2 => ⟨?_, rfl⟩⟩, fun c => ⟨?_, rfl⟩⟩
  · rw [if_pos c, if_neg c2]
  · rw [if_pos c, if_pos c2]
  · rw [if_neg c]

theorem sX11_stoneRefused {G : ZG} (d : Nat) {h : ZH} {x1 : Int32}   : zC G (d + 3) mX11_stoneRefused [zr 0 0, zi x1] h (fun r h' => r = some (zi (stRefI h x1)) ∧ h' = h) := by
  refine zC_of (by decide +kernel) (Nat.le_of_ble_eq_true rfl) (L := [zr 0 0, zi x1]) ⟨rfl, ⟨rfl, trivial⟩⟩ ?_
  refine wX11_stoneRefused_0  ?_
  unfold stRefI
  refine ⟨fun c => ⟨fun c2 => ⟨?_, rfl⟩, fun c2 => ⟨?_, rfl⟩⟩, fun c => ⟨?_, rfl⟩⟩
  · rw [if_pos c, if_neg c2]
  · rw [if_pos c, if_pos c2]
  · rw [if_neg c]

theorem sX11_digitAt {G : ZG} (d : Nat) {h : ZH} {i0 : Nat} {x1 : Int32} (hi0 : i0 < zcnt 3) (hp0 : h.1 3 i0 4 ≤ 100) : zC G (d + 3) mX11_digitAt [zr 3 i0, zi x1] h (fun r h' => r = some (zi (shAt h i0 x1 - 48)) ∧ h' = h) := by
  refine zC_of (by decide +kernel) (Nat.le_of_ble_eq_true rfl) (L := [zr 3 i0, zi x1]) ⟨rfl, ⟨rfl, trivial⟩⟩ ?_
  refine wX11_digitAt_0 hi0 ?_
  exact ⟨hp0, rfl, rfl⟩

theorem sX5_weight {G : ZG} (d : Nat) {h : ZH} {i0 : Nat} {x1 : Int32} (hi0 : i0 < zcnt 4)  : zC G (d + 3) mX5_weight [zr 4 i0, zi x1] h (fun r h' => r = some (zi (2 + x1 - 1 + x1)) ∧ h' = h) := by
  refine zC_of (by decide +kernel) (Nat.le_of_ble_eq_true rfl) (L := [zr 4 i0, zi x1]) ⟨rfl, ⟨rfl, trivial⟩⟩ ?_
  refine wX5_weight_0 hi0 ?_
  exact ⟨rfl, rfl⟩

theorem sX5_bears {G : ZG} (d : Nat) {h : ZH} {i0 : Nat} {x1 : Int32} (hi0 : i0 < zcnt 4)  : zC G (d + 3) mX5_bears [zr 4 i0, zi x1] h (fun r h' => r = some (zi ((20 : Int32) - 8 + x1)) ∧ h' = h) := by
  refine zC_of (by decide +kernel) (Nat.le_of_ble_eq_true rfl) (L := [zr 4 i0, zi x1]) ⟨rfl, ⟨rfl, trivial⟩⟩ ?_
  refine wX5_bears_0 hi0 ?_
  exact ⟨rfl, rfl⟩

theorem sX5_price {G : ZG} (d : Nat) {h : ZH} {i0 : Nat} {x1 : Int32} (hi0 : i0 < zcnt 4)  : zC G (d + 3) mX5_price [zr 4 i0, zi x1] h (fun r h' => r = some (zi ((2 : Int32) + 3 + x1)) ∧ h' = h) := by
  refine zC_of (by decide +kernel) (Nat.le_of_ble_eq_true rfl) (L := [zr 4 i0, zi x1]) ⟨rfl, ⟨rfl, trivial⟩⟩ ?_
  refine wX5_price_0 hi0 ?_
  exact ⟨rfl, rfl⟩

theorem sX9_bears {G : ZG} (d : Nat) {h : ZH} {i0 : Nat} {x1 : Int32} (hi0 : i0 < zcnt 4)  : zC G (d + 3) mX9_bears [zr 4 i0, zi x1] h (fun r h' => r = some (zi ((2 : Int32) * 20 - x1)) ∧ h' = h) := by
  refine zC_of (by decide +kernel) (Nat.le_of_ble_eq_true rfl) (L := [zr 4 i0, zi x1]) ⟨rfl, ⟨rfl, trivial⟩⟩ ?_
  refine wX9_bears_0 hi0 ?_
  exact ⟨rfl, rfl⟩

theorem sX9_price {G : ZG} (d : Nat) {h : ZH} {i0 : Nat} {x1 : Int32} (hi0 : i0 < zcnt 4)  : zC G (d + 3) mX9_price [zr 4 i0, zi x1] h (fun r h' => r = some (zi (2 * (2 + x1))) ∧ h' = h) := by
  refine zC_of (by decide +kernel) (Nat.le_of_ble_eq_true rfl) (L := [zr 4 i0, zi x1]) ⟨rfl, ⟨rfl, trivial⟩⟩ ?_
  refine wX9_price_0 hi0 ?_
  exact ⟨rfl, rfl⟩

theorem sX1_weight {G : ZG} (d : Nat) {h : ZH} {i0 : Nat} {x1 : Int32} (hi0 : i0 < zcnt 4)  : zC G (d + 3) mX1_weight [zr 4 i0, zi x1] h (fun r h' => r = some (zi (2 * (2 + x1 - 1))) ∧ h' = h) := by
  refine zC_of (by decide +kernel) (Nat.le_of_ble_eq_true rfl) (L := [zr 4 i0, zi x1]) ⟨rfl, ⟨rfl, trivial⟩⟩ ?_
  refine wX1_weight_0 hi0 ?_
  exact ⟨rfl, rfl⟩

theorem sX1_bears {G : ZG} (d : Nat) {h : ZH} {i0 : Nat} {x1 : Int32} (hi0 : i0 < zcnt 4)  : zC G (d + 3) mX1_bears [zr 4 i0, zi x1] h (fun r h' => r = some (zi (((20 : Int32) - 8) / 2)) ∧ h' = h) := by
  refine zC_of (by decide +kernel) (Nat.le_of_ble_eq_true rfl) (L := [zr 4 i0, zi x1]) ⟨rfl, ⟨rfl, trivial⟩⟩ ?_
  refine wX1_bears_0 hi0 ?_
  exact ⟨rfl, rfl⟩

theorem sX1_price {G : ZG} (d : Nat) {h : ZH} {i0 : Nat} {x1 : Int32} (hi0 : i0 < zcnt 4)  : zC G (d + 3) mX1_price [zr 4 i0, zi x1] h (fun r h' => r = some (zi (((2 : Int32) + 3) / 2)) ∧ h' = h) := by
  refine zC_of (by decide +kernel) (Nat.le_of_ble_eq_true rfl) (L := [zr 4 i0, zi x1]) ⟨rfl, ⟨rfl, trivial⟩⟩ ?_
  refine wX1_price_0 hi0 ?_
  exact ⟨rfl, rfl⟩
end
section
/-! ===== how a hall settles, as numbers: c = (weights, bears, manners, which are firm, props) ===== -/
abbrev ZQ5 : Type := (Nat → Int32) × (Nat → Int32) × (Nat → Int32) × Nat × Nat
abbrev cW (c : ZQ5) : Nat → Int32 := c.1
abbrev cB (c : ZQ5) : Nat → Int32 := c.2.1
abbrev cM (c : ZQ5) : Nat → Int32 := c.2.2.1
abbrev cF (c : ZQ5) : Nat := c.2.2.2.1
abbrev cP (c : ZQ5) : Nat := c.2.2.2.2
def zlf (S p : Nat) : Bool := decide (p % 4 ≠ 0) && S.testBit (p - 5)
def zrt (S p : Nat) : Bool := decide (p % 4 ≠ 3) && S.testBit (p - 3)
def zbl (S p : Nat) : Bool := S.testBit (p - 4)
def zcl (c : ZQ5) (S p : Nat) : Bool := (decide (p % 4 ≠ 0) && (S.testBit (p - 1) && (cF c).testBit (p - 1))) || (decide (p % 4 ≠ 3) && (S.testBit (p + 1) && (cF c).testBit (p + 1)))
def zhd (c : ZQ5) (S p : Nat) : Bool := decide (p < 4) || (cP c).testBit p || zbl S p || (if cM c p = 1 then zlf S p && zrt S p else if cM c p = 2 then zlf S p || zrt S p else if cM c p = 3 then zcl c S p else false)
def zl1 (c : ZQ5) (S p : Nat) (ld : Nat → Int32) : Nat → Int32 :=
  if (S.testBit p && decide (4 ≤ p) && !(cP c).testBit p) = true then
    (if zbl S p = true then upd ld (p - 4) (ld (p - 4) + (cW c p + ld p))
    else if cM c p = 1 then (if (zlf S p && zrt S p) = true then upd (upd ld (p - 5) (ld (p - 5) + (cW c p + ld p) / 2)) (p - 3) (ld (p - 3) + ((cW c p + ld p) - (cW c p + ld p) / 2)) else ld)
    else if cM c p = 2 then (if zlf S p = true then upd ld (p - 5) (ld (p - 5) + (cW c p + ld p)) else if zrt S p = true then upd ld (p - 3) (ld (p - 3) + (cW c p + ld p)) else ld)
    else ld)
  else ld
def zld (c : ZQ5) (S : Nat) : Nat → (Nat → Int32) → (Nat → Int32)
  | 0, ld => ld
  | n + 1, ld => zld c S n (zl1 c S n ld)
/-- the loads -/
def zlds (c : ZQ5) (S : Nat) : Nat → Int32 := zld c S 12 (fun _ => 0)
/-- those that fall at once -/
def zlz (c : ZQ5) (S : Nat) : Nat := zmk (fun p => S.testBit p && (!zhd c S p || decide (cB c p < zlds c S p))) 12
def stlN (c : ZQ5) : Nat → Nat → Nat
  | 0, S => S
  | n + 1, S => if zlz c S = 0 then S else stlN c n (zsd S (zlz c S))
/-- what is left -/
def stl (c : ZQ5) (S : Nat) : Nat := stlN c 13 S
def stpN (c : ZQ5) : Nat → Nat → Nat
  | 0, _ => 0
  | n + 1, S => if zlz c S = 0 then 0 else stpN c n (zsd S (zlz c S)) + 1
def stp (c : ZQ5) (S : Nat) : Nat := stpN c 13 S
theorem zlz_le (c : ZQ5) (S : Nat) : zle (zlz c S) S := fun p h => by
  unfold zlz at h
  rw [zmk_bit] at h
  simp only [Bool.and_eq_true] at h
  exact h.2.1
theorem zlz_lt (c : ZQ5) (S : Nat) : zlz c S < 4096 := zms_lt _
theorem zsd_eq {S T : Nat} (hS : S < 4096) (h : zsd S T = S) (hl : zle T S) : T = 0 := by
  apply Nat.eq_of_testBit_eq
  intro p
  rw [Nat.zero_testBit]
  rcases hp : T.testBit p with _ | _
  · rfl
  · have h1 : (zsd S T).testBit p = S.testBit p := by rw [h]
    rw [zsd_bit hS, hp, hl p hp] at h1
    cases h1
theorem zsd_0 {S : Nat} (hS : S < 4096) : zsd S 0 = S := by
  apply zs_ext (zsd_lt hS) hS
  intro p hp
  rw [zsd_bit hS]
  simp
theorem zst_pc (c : ZQ5) {S : Nat} (hS : S < 4096) (h : zlz c S ≠ 0) : zpc (zsd S (zlz c S)) < zpc S :=
  zpc_lt (zsd_le hS) (zsd_lt hS) hS (fun q => h (zsd_eq hS q (zlz_le c S)))
theorem stlN_le (c : ZQ5) : ∀ (n : Nat) {S : Nat}, S < 4096 → zle (stlN c n S) S := by
  intro n
  induction n with
  | zero => intro S hS; exact zle_rf S
  | succ n ih =>
    intro S hS
    rw [stlN]
    by_cases h : zlz c S = 0
    · rw [if_pos h]; exact zle_rf S
    · rw [if_neg h]; exact zle_tr (ih (zsd_lt hS)) (zsd_le hS)
theorem stl_le (c : ZQ5) {S : Nat} (hS : S < 4096) : zle (stl c S) S := stlN_le c 13 hS
theorem stl_lt (c : ZQ5) {S : Nat} (hS : S < 4096) : stl c S < 4096 := zle_lt (stl_le c hS) hS
theorem stlN_fix (c : ZQ5) : ∀ (n : Nat) {S : Nat}, S < 4096 → zpc S < n → zlz c (stlN c n S) = 0 := by
  intro n
  induction n with
  | zero => intro S _ h; omega
  | succ n ih =>
    intro S hS hn
    rw [stlN]
    by_cases h : zlz c S = 0
    · rw [if_pos h]; exact h
    · rw [if_neg h]
      have := zst_pc c hS h
      exact ih (zsd_lt hS) (by omega)
theorem stlN_more (c : ZQ5) : ∀ (n : Nat) {S : Nat}, S < 4096 → zpc S < n → stlN c (n + 1) S = stlN c n S := by
  intro n
  induction n with
  | zero => intro S _ h; omega
  | succ n ih =>
    intro S hS hn
    show (if zlz c S = 0 then S else stlN c (n + 1) (zsd S (zlz c S))) = (if zlz c S = 0 then S else stlN c n (zsd S (zlz c S)))
    by_cases h : zlz c S = 0
    · rw [if_pos h, if_pos h]
    · rw [if_neg h, if_neg h]
      have := zst_pc c hS h
      exact ih (zsd_lt hS) (by omega)
theorem stpN_more (c : ZQ5) : ∀ (n : Nat) {S : Nat}, S < 4096 → zpc S < n → stpN c (n + 1) S = stpN c n S := by
  intro n
  induction n with
  | zero => intro S _ h; omega
  | succ n ih =>
    intro S hS hn
    show (if zlz c S = 0 then 0 else stpN c (n + 1) (zsd S (zlz c S)) + 1) = (if zlz c S = 0 then 0 else stpN c n (zsd S (zlz c S)) + 1)
    by_cases h : zlz c S = 0
    · rw [if_pos h, if_pos h]
    · rw [if_neg h, if_neg h]
      have := zst_pc c hS h
      rw [ih (zsd_lt hS) (by omega)]
theorem stpN_le (c : ZQ5) : ∀ (n : Nat) {S : Nat}, S < 4096 → stpN c n S ≤ zpc S := by
  intro n
  induction n with
  | zero => intro S _; exact Nat.zero_le _
  | succ n ih =>
    intro S hS
    rw [stpN]
    by_cases h : zlz c S = 0
    · rw [if_pos h]; exact Nat.zero_le _
    · rw [if_neg h]
      have := zst_pc c hS h
      have := ih (zsd_lt (T := zlz c S) hS)
      omega
theorem stl_fix (c : ZQ5) {S : Nat} (hS : S < 4096) : zlz c (stl c S) = 0 := stlN_fix c 13 hS (by have := zpc_le S; omega)
theorem stl_of (c : ZQ5) {S : Nat} (h : zlz c S = 0) : stl c S = S := by
  unfold stl
  rw [stlN, if_pos h]
theorem stl_stl (c : ZQ5) {S : Nat} (hS : S < 4096) : stl c (stl c S) = stl c S := stl_of c (stl_fix c hS)
theorem stl_iff (c : ZQ5) {S : Nat} (hS : S < 4096) : stl c S = S ↔ zlz c S = 0 := ⟨fun h => by have := stl_fix c hS; rw [h] at this; exact this, stl_of c⟩
/-! two hall's numbers that agree on a set settle its parts alike -/
def cEq (c e : ZQ5) (S : Nat) : Prop := cP c = cP e ∧ ∀ p, p < 12 → S.testBit p = true → cW c p = cW e p ∧ cB c p = cB e p ∧ cM c p = cM e p ∧ (cF c).testBit p = (cF e).testBit p
theorem cEq.sub {c e : ZQ5} {S T : Nat} (h : cEq c e S) (hT : zle T S) : cEq c e T := ⟨h.1, fun p hp hb => h.2 p hp (hT p hb)⟩
theorem zl1_eq {c e : ZQ5} {S : Nat} (h : cEq c e S) {p : Nat} (hp : p < 12) (ld : Nat → Int32) : zl1 c S p ld = zl1 e S p ld := by
  unfold zl1
  rw [h.1]
  by_cases hb : S.testBit p = true
  · obtain ⟨e1, e2, e3, -⟩ := h.2 p hp hb
    rw [e1, e3]
  · rw [if_neg (by simp [hb]), if_neg (by simp [hb])]
theorem zld_eq {c e : ZQ5} {S : Nat} (h : cEq c e S) : ∀ (n : Nat), n ≤ 12 → ∀ ld, zld c S n ld = zld e S n ld := by
  intro n
  induction n with
  | zero => intro _ ld; rfl
  | succ n ih =>
    intro hn ld
    rw [zld, zld, zl1_eq h (by omega), ih (by omega)]
theorem zhd_eq {c e : ZQ5} {S : Nat} (hS : S < 4096) (h : cEq c e S) {p : Nat} (hp : p < 12) (hb : S.testBit p = true) : zhd c S p = zhd e S p := by
  obtain ⟨-, -, e3, -⟩ := h.2 p hp hb
  have hcl : zcl c S p = zcl e S p := by
    unfold zcl
    have key : ∀ q, (S.testBit q && (cF c).testBit q) = (S.testBit q && (cF e).testBit q) := by
      intro q
      rcases Nat.lt_or_ge q 12 with hq | hq
      · by_cases hb2 : S.testBit q = true
        · rw [(h.2 q hq hb2).2.2.2]
        · simp [hb2]
      · rw [zhi hS hq]; simp
    rw [key, key]
  unfold zhd
  rw [h.1, e3, hcl]
theorem zlz_eq {c e : ZQ5} {S : Nat} (hS : S < 4096) (h : cEq c e S) : zlz c S = zlz e S := by
  unfold zlz
  apply zmk_congr
  intro p hp
  by_cases hb : S.testBit p = true
  · have e1 : zlds c S = zlds e S := zld_eq h 12 (Nat.le_refl _) _
    rw [zhd_eq hS h hp hb, e1, (h.2 p hp hb).2.1]
  · simp [hb]
theorem stlN_eq {c e : ZQ5} : ∀ (n : Nat) {S : Nat}, S < 4096 → cEq c e S → stlN c n S = stlN e n S := by
  intro n
  induction n with
  | zero => intro S _ _; rfl
  | succ n ih =>
    intro S hS h
    rw [stlN, stlN, zlz_eq hS h]
    by_cases q : zlz e S = 0
    · rw [if_pos q, if_pos q]
    · rw [if_neg q, if_neg q]
      exact ih (zsd_lt hS) (h.sub (zsd_le hS))
theorem stl_eq {c e : ZQ5} {S : Nat} (hS : S < 4096) (h : cEq c e S) : stl c S = stl e S := stlN_eq 13 hS h
theorem stpN_eq {c e : ZQ5} : ∀ (n : Nat) {S : Nat}, S < 4096 → cEq c e S → stpN c n S = stpN e n S := by
  intro n
  induction n with
  | zero => intro S _ _; rfl
  | succ n ih =>
    intro S hS h
    rw [stpN, stpN, zlz_eq hS h]
    by_cases q : zlz e S = 0
    · rw [if_pos q, if_pos q]
    · rw [if_neg q, if_neg q, ih (zsd_lt hS) (h.sub (zsd_le hS))]
theorem stp_eq {c e : ZQ5} {S : Nat} (hS : S < 4096) (h : cEq c e S) : stp c S = stp e S := stpN_eq 13 hS h
theorem zlds_eq {c e : ZQ5} {S : Nat} (h : cEq c e S) : zlds c S = zlds e S := zld_eq h 12 (Nat.le_refl _) _
/-! the places of a load: only what is below changes -/
theorem zl1_at (c : ZQ5) (S p : Nat) (ld : Nat → Int32) {j : Nat} (hj : p ≤ j) : zl1 c S p ld j = ld j := by
  unfold zl1
  by_cases h : (S.testBit p && decide (4 ≤ p) && !(cP c).testBit p) = true
  · rw [if_pos h]
    have hp : 4 ≤ p := by
      simp only [Bool.and_eq_true, decide_eq_true_eq] at h
      exact h.1.2
    have n4 : j ≠ p - 4 := by omega
    have n3 : j ≠ p - 3 := by omega
    have n5 : j ≠ p - 5 := by omega
    split
    · exact pk_un n4
    · split
      · split
        · rw [pk_un n3, pk_un n5]
        · rfl
      · split
        · split
          · exact pk_un n5
          · split
            · exact pk_un n3
            · rfl
        · rfl
  · rw [if_neg h]
theorem zld_at (c : ZQ5) (S : Nat) : ∀ (n : Nat) (ld : Nat → Int32) {j : Nat}, n ≤ j + 1 → zld c S n ld j = ld j := by
  intro n
  induction n with
  | zero => intro ld j _; rfl
  | succ n ih =>
    intro ld j hj
    rw [zld, ih _ (by omega), zl1_at c S n ld (by omega)]
theorem zl1_congr (c : ZQ5) (S p : Nat) (hp : p < 12) {ld le : Nat → Int32} (h : ∀ j, j < 12 → ld j = le j) : ∀ j, j < 12 → zl1 c S p ld j = zl1 c S p le j := by
  intro j hj
  unfold zl1
  by_cases q : (S.testBit p && decide (4 ≤ p) && !(cP c).testBit p) = true
  · rw [if_pos q, if_pos q, h p hp, h (p - 4) (by omega), h (p - 5) (by omega), h (p - 3) (by omega)]
    have hu : ∀ (k : Nat) (x : Int32), upd ld k x j = upd le k x j := fun k x => by unfold upd; by_cases z : j = k <;> simp [z]; exact h j hj
    split
    · exact hu _ _
    · split
      · split
        · unfold upd
          split
          · rfl
          · split
            · rfl
            · exact h j hj
        · exact h j hj
      · split
        · split
          · exact hu _ _
          · split
            · exact hu _ _
            · exact h j hj
        · exact h j hj
  · rw [if_neg q, if_neg q]; exact h j hj
theorem zld_congr (c : ZQ5) (S : Nat) : ∀ (n : Nat), n ≤ 12 → ∀ {ld le : Nat → Int32}, (∀ j, j < 12 → ld j = le j) → ∀ j, j < 12 → zld c S n ld j = zld c S n le j := by
  intro n
  induction n with
  | zero => intro _ ld le h j hj; exact h j hj
  | succ n ih =>
    intro hn ld le h j hj
    rw [zld, zld]
    exact ih (by omega) (zl1_congr c S n (by omega) h) j hj
end
section
/-! ===== the bytecode of these methods, walked (by program): X12_isHeld X12_loads ===== -/
theorem kX12_isHeld_0 : zD cX12_isHeld 0 1 (.iload_n 2) 1 := by decide +kernel
theorem kX12_isHeld_1 : zD cX12_isHeld 1 2 (.iconst 4) 1 := by decide +kernel
theorem kX12_isHeld_2 : zB cX12_isHeld 2 5 28 (.if_icmp .lt 26) 26 := by decide +kernel
theorem kX12_isHeld_5 : zD cX12_isHeld 5 6 (.aload_n 0) 1 := by decide +kernel
theorem kX12_isHeld_6 : zD cX12_isHeld 6 9 (.getfield 9) 3 := by decide +kernel
theorem kX12_isHeld_9 : zD cX12_isHeld 9 10 (.iconst 1) 1 := by decide +kernel
theorem kX12_isHeld_10 : zD cX12_isHeld 10 11 (.iaload) 1 := by decide +kernel
theorem kX12_isHeld_11 : zD cX12_isHeld 11 12 (.iload_n 2) 1 := by decide +kernel
theorem kX12_isHeld_12 : zD cX12_isHeld 12 15 (.invokestatic 57) 3 := by decide +kernel
theorem kX12_isHeld_15 : zB cX12_isHeld 15 18 28 (.ifCond .ne 13) 13 := by decide +kernel
theorem kX12_isHeld_18 : zD cX12_isHeld 18 19 (.iload_n 1) 1 := by decide +kernel
theorem kX12_isHeld_19 : zD cX12_isHeld 19 20 (.iload_n 2) 1 := by decide +kernel
theorem kX12_isHeld_20 : zD cX12_isHeld 20 21 (.iconst 4) 1 := by decide +kernel
theorem kX12_isHeld_21 : zD cX12_isHeld 21 22 (.isub) 1 := by decide +kernel
theorem kX12_isHeld_22 : zD cX12_isHeld 22 25 (.invokestatic 57) 3 := by decide +kernel
theorem kX12_isHeld_25 : zB cX12_isHeld 25 28 30 (.ifCond .eq 5) 5 := by decide +kernel
theorem kX12_isHeld_28 : zD cX12_isHeld 28 29 (.iconst 1) 1 := by decide +kernel
theorem kX12_isHeld_29 : zD cX12_isHeld 29 30 (.ireturn) 1 := by decide +kernel
theorem kX12_isHeld_30 : zD cX12_isHeld 30 31 (.aload_n 0) 1 := by decide +kernel
theorem kX12_isHeld_31 : zD cX12_isHeld 31 32 (.iload_n 2) 1 := by decide +kernel
theorem kX12_isHeld_32 : zD cX12_isHeld 32 35 (.invokevirtual 75) 3 := by decide +kernel
theorem kX12_isHeld_35 : zB cX12_isHeld 35 38 62 (.ifCond .eq 27) 27 := by decide +kernel
theorem kX12_isHeld_38 : zD cX12_isHeld 38 39 (.aload_n 0) 1 := by decide +kernel
theorem kX12_isHeld_39 : zD cX12_isHeld 39 40 (.iload_n 1) 1 := by decide +kernel
theorem kX12_isHeld_40 : zD cX12_isHeld 40 41 (.iload_n 2) 1 := by decide +kernel
theorem kX12_isHeld_41 : zD cX12_isHeld 41 44 (.invokevirtual 78) 3 := by decide +kernel
theorem kX12_isHeld_44 : zB cX12_isHeld 44 47 60 (.ifCond .eq 16) 16 := by decide +kernel
theorem kX12_isHeld_47 : zD cX12_isHeld 47 48 (.aload_n 0) 1 := by decide +kernel
theorem kX12_isHeld_48 : zD cX12_isHeld 48 49 (.iload_n 1) 1 := by decide +kernel
theorem kX12_isHeld_49 : zD cX12_isHeld 49 50 (.iload_n 2) 1 := by decide +kernel
theorem kX12_isHeld_50 : zD cX12_isHeld 50 53 (.invokevirtual 81) 3 := by decide +kernel
theorem kX12_isHeld_53 : zB cX12_isHeld 53 56 60 (.ifCond .eq 7) 7 := by decide +kernel
theorem kX12_isHeld_56 : zD cX12_isHeld 56 57 (.iconst 1) 1 := by decide +kernel
theorem kX12_isHeld_57 : zB cX12_isHeld 57 60 61 (.goto 4) 4 := by decide +kernel
theorem kX12_isHeld_60 : zD cX12_isHeld 60 61 (.iconst 0) 1 := by decide +kernel
theorem kX12_isHeld_61 : zD cX12_isHeld 61 62 (.ireturn) 1 := by decide +kernel
theorem kX12_isHeld_62 : zD cX12_isHeld 62 63 (.aload_n 0) 1 := by decide +kernel
theorem kX12_isHeld_63 : zD cX12_isHeld 63 64 (.iload_n 2) 1 := by decide +kernel
theorem kX12_isHeld_64 : zD cX12_isHeld 64 67 (.invokevirtual 65) 3 := by decide +kernel
theorem kX12_isHeld_67 : zD cX12_isHeld 67 69 (.bipush 6) 2 := by decide +kernel
theorem kX12_isHeld_69 : zB cX12_isHeld 69 72 96 (.if_icmp .ne 27) 27 := by decide +kernel
theorem kX12_isHeld_72 : zD cX12_isHeld 72 73 (.aload_n 0) 1 := by decide +kernel
theorem kX12_isHeld_73 : zD cX12_isHeld 73 74 (.iload_n 1) 1 := by decide +kernel
theorem kX12_isHeld_74 : zD cX12_isHeld 74 75 (.iload_n 2) 1 := by decide +kernel
theorem kX12_isHeld_75 : zD cX12_isHeld 75 78 (.invokevirtual 78) 3 := by decide +kernel
theorem kX12_isHeld_78 : zB cX12_isHeld 78 81 90 (.ifCond .ne 12) 12 := by decide +kernel
theorem kX12_isHeld_81 : zD cX12_isHeld 81 82 (.aload_n 0) 1 := by decide +kernel
theorem kX12_isHeld_82 : zD cX12_isHeld 82 83 (.iload_n 1) 1 := by decide +kernel
theorem kX12_isHeld_83 : zD cX12_isHeld 83 84 (.iload_n 2) 1 := by decide +kernel
theorem kX12_isHeld_84 : zD cX12_isHeld 84 87 (.invokevirtual 81) 3 := by decide +kernel
theorem kX12_isHeld_87 : zB cX12_isHeld 87 90 94 (.ifCond .eq 7) 7 := by decide +kernel
theorem kX12_isHeld_90 : zD cX12_isHeld 90 91 (.iconst 1) 1 := by decide +kernel
theorem kX12_isHeld_91 : zB cX12_isHeld 91 94 95 (.goto 4) 4 := by decide +kernel
theorem kX12_isHeld_94 : zD cX12_isHeld 94 95 (.iconst 0) 1 := by decide +kernel
theorem kX12_isHeld_95 : zD cX12_isHeld 95 96 (.ireturn) 1 := by decide +kernel
theorem kX12_isHeld_96 : zD cX12_isHeld 96 97 (.aload_n 0) 1 := by decide +kernel
theorem kX12_isHeld_97 : zD cX12_isHeld 97 98 (.iload_n 2) 1 := by decide +kernel
theorem kX12_isHeld_98 : zD cX12_isHeld 98 101 (.invokevirtual 71) 3 := by decide +kernel
theorem kX12_isHeld_101 : zB cX12_isHeld 101 104 117 (.ifCond .eq 16) 16 := by decide +kernel
theorem kX12_isHeld_104 : zD cX12_isHeld 104 105 (.aload_n 0) 1 := by decide +kernel
theorem kX12_isHeld_105 : zD cX12_isHeld 105 106 (.iload_n 1) 1 := by decide +kernel
theorem kX12_isHeld_106 : zD cX12_isHeld 106 107 (.iload_n 2) 1 := by decide +kernel
theorem kX12_isHeld_107 : zD cX12_isHeld 107 110 (.invokevirtual 84) 3 := by decide +kernel
theorem kX12_isHeld_110 : zB cX12_isHeld 110 113 117 (.ifCond .eq 7) 7 := by decide +kernel
theorem kX12_isHeld_113 : zD cX12_isHeld 113 114 (.iconst 1) 1 := by decide +kernel
theorem kX12_isHeld_114 : zB cX12_isHeld 114 117 118 (.goto 4) 4 := by decide +kernel
theorem kX12_isHeld_117 : zD cX12_isHeld 117 118 (.iconst 0) 1 := by decide +kernel
theorem kX12_isHeld_118 : zD cX12_isHeld 118 119 (.ireturn) 1 := by decide +kernel
set_option maxRecDepth 10000 in
theorem wX12_isHeld_0 {G : ZG} {d : Nat} {h : ZH} {Q : Option ZV → ZH → Prop} {x1 : Int32} {x2 : Int32} 
  (H : (x2 < 4 → Q (some (zi 1)) h) ∧ (¬ x2 < 4 → ((hasI (h.1 30 0 1) x2) → Q (some (zi 1)) h) ∧ (¬ (hasI (h.1 30 0 1) x2) → (¬ (hasI x1 (x2 - 4)) → vp_in x2 12 ∧ ((¬ (archK (kindI h x2)) → vp_in x2 12 ∧ ((¬ (kindI h x2) = 6 → vp_in x2 12 ∧ ((¬ (lightK (kindI h x2)) → Q (some (zi 0)) h) ∧ ((lightK (kindI h x2)) → vp_in x2 12 ∧ ((¬ (clingI h x1 x2) → Q (some (zi 0)) h) ∧ ((clingI h x1 x2) → Q (some (zi 1)) h))))) ∧ ((kindI h x2) = 6 → ((leftI x1 x2) → Q (some (zi 1)) h) ∧ (¬ (leftI x1 x2) → (¬ (rightI x1 x2) → Q (some (zi 0)) h) ∧ ((rightI x1 x2) → Q (some (zi 1)) h))))) ∧ ((archK (kindI h x2)) → (¬ (leftI x1 x2) → Q (some (zi 0)) h) ∧ ((leftI x1 x2) → (¬ (rightI x1 x2) → Q (some (zi 0)) h) ∧ ((rightI x1 x2) → Q (some (zi 1)) h))))) ∧ ((hasI x1 (x2 - 4)) → Q (some (zi 1)) h)))) :
  zT G (d + 4) mX12_isHeld 0 [zr 5 0, zi x1, zi x2] [] h Q := by
  refine zt_iload_n kX12_isHeld_0 rfl ?_
  refine zt_iconst (v := 4) kX12_isHeld_1 rfl ?_
  refine zt_icmp_lt kX12_isHeld_2 (fun c => ?_) (fun c => ?_)
  · replace H := H.1 c
    refine zt_iconst (v := 1) kX12_isHeld_28 rfl ?_
    exact zt_zret kX12_isHeld_29 rfl (by decide) H
  · replace H := H.2 c
    refine zt_aload_n kX12_isHeld_5 rfl ?_
    refine zt_get (v := zr 30 0) kX12_isHeld_6 fRX12_9 rfl (by decide) rfl ?_
    refine zt_iconst (v := 1) kX12_isHeld_9 rfl ?_
    refine zt_ialdc 1 rfl kX12_isHeld_10 rfl (by decide) (zvp_dec (by decide)) ?_
    refine zt_iload_n kX12_isHeld_11 rfl ?_
    refine zt_cS (as := [zi (h.1 30 0 1), zi x2]) kX12_isHeld_12 sRX12_57 rfl (by simp) rfl (sX12_has _  ) (fun r h0 hq => ?_)
    obtain ⟨rfl, hh⟩ := hq
    replace hh := hh.symm
    subst hh
    refine zt_ifb_ne kX12_isHeld_15 (fun c => ?_) (fun c => ?_)
    · replace H := H.1 c
      refine zt_iconst (v := 1) kX12_isHeld_28 rfl ?_
      exact zt_zret kX12_isHeld_29 rfl (by decide) H
    · replace H := H.2 c
      refine zt_iload_n kX12_isHeld_18 rfl ?_
      refine zt_iload_n kX12_isHeld_19 rfl ?_
      refine zt_iconst (v := 4) kX12_isHeld_20 rfl ?_
      refine zt_isub kX12_isHeld_21 ?_
      refine zt_cS (as := [zi x1, zi (x2 - 4)]) kX12_isHeld_22 sRX12_57 rfl (by simp) rfl (sX12_has _  ) (fun r h0 hq => ?_)
      obtain ⟨rfl, hh⟩ := hq
      replace hh := hh.symm
      subst hh
      refine zt_ifb_eq kX12_isHeld_25 (fun c => ?_) (fun c => ?_)
      · replace H := H.1 c
        refine zt_aload_n kX12_isHeld_30 rfl ?_
        refine zt_iload_n kX12_isHeld_31 rfl ?_
        obtain ⟨pp0, H⟩ := H
        refine zt_cV (as := [zi x2]) kX12_isHeld_32 sRX12_75 rfl (by decide) rfl (by simp) rfl (sX12_isArch _  pp0) (fun r h0 hq => ?_)
        obtain ⟨rfl, hh⟩ := hq
        replace hh := hh.symm
        subst hh
        refine zt_ifb_eq kX12_isHeld_35 (fun c => ?_) (fun c => ?_)
        · replace H := H.1 c
          refine zt_aload_n kX12_isHeld_62 rfl ?_
          refine zt_iload_n kX12_isHeld_63 rfl ?_
          obtain ⟨pp0, H⟩ := H
          refine zt_cV (as := [zi x2]) kX12_isHeld_64 sRX12_65 rfl (by decide) rfl (by simp) rfl (sX12_kind _  pp0) (fun r h0 hq => ?_)
          obtain ⟨rfl, hh⟩ := hq
          replace hh := hh.symm
          subst hh
          refine zt_bipush (v := 6) kX12_isHeld_67 rfl ?_
          refine zt_icmp_ne kX12_isHeld_69 (fun c => ?_) (fun c => ?_)
          · replace H := H.1 c
            refine zt_aload_n kX12_isHeld_96 rfl ?_
            refine zt_iload_n kX12_isHeld_97 rfl ?_
            obtain ⟨pp0, H⟩ := H
            refine zt_cV (as := [zi x2]) kX12_isHeld_98 sRX12_71 rfl (by decide) rfl (by simp) rfl (sX12_isLight _  pp0) (fun r h0 hq => ?_)
            obtain ⟨rfl, hh⟩ := hq
            replace hh := hh.symm
            subst hh
            refine zt_ifb_eq kX12_isHeld_101 (fun c => ?_) (fun c => ?_)
            · replace H := H.1 c
              refine zt_iconst (v := 0) kX12_isHeld_117 rfl ?_
              exact zt_zret kX12_isHeld_118 rfl (by decide) H
            · replace H := H.2 c
              refine zt_aload_n kX12_isHeld_104 rfl ?_
              refine zt_iload_n kX12_isHeld_105 rfl ?_
              refine zt_iload_n kX12_isHeld_106 rfl ?_
              obtain ⟨pp0, H⟩ := H
              refine zt_cV (as := [zi x1, zi x2]) kX12_isHeld_107 sRX12_84 rfl (by decide) rfl (by simp) rfl (sX12_isClinging _  pp0) (fun r h0 hq => ?_)
              obtain ⟨rfl, hh⟩ := hq
              replace hh := hh.symm
              subst hh
              refine zt_ifb_eq kX12_isHeld_110 (fun c => ?_) (fun c => ?_)
              · replace H := H.1 c
                refine zt_iconst (v := 0) kX12_isHeld_117 rfl ?_
                exact zt_zret kX12_isHeld_118 rfl (by decide) H
              · replace H := H.2 c
                refine zt_iconst (v := 1) kX12_isHeld_113 rfl ?_
                refine zt_goto kX12_isHeld_114 ?_
                exact zt_zret kX12_isHeld_118 rfl (by decide) H
          · replace H := H.2 c
            refine zt_aload_n kX12_isHeld_72 rfl ?_
            refine zt_iload_n kX12_isHeld_73 rfl ?_
            refine zt_iload_n kX12_isHeld_74 rfl ?_
            refine zt_cV (as := [zi x1, zi x2]) kX12_isHeld_75 sRX12_78 rfl (by decide) rfl (by simp) rfl (sX12_isLeft _  ) (fun r h0 hq => ?_)
            obtain ⟨rfl, hh⟩ := hq
            replace hh := hh.symm
            subst hh
            refine zt_ifb_ne kX12_isHeld_78 (fun c => ?_) (fun c => ?_)
            · replace H := H.1 c
              refine zt_iconst (v := 1) kX12_isHeld_90 rfl ?_
              refine zt_goto kX12_isHeld_91 ?_
              exact zt_zret kX12_isHeld_95 rfl (by decide) H
            · replace H := H.2 c
              refine zt_aload_n kX12_isHeld_81 rfl ?_
              refine zt_iload_n kX12_isHeld_82 rfl ?_
              refine zt_iload_n kX12_isHeld_83 rfl ?_
              refine zt_cV (as := [zi x1, zi x2]) kX12_isHeld_84 sRX12_81 rfl (by decide) rfl (by simp) rfl (sX12_isRight _  ) (fun r h0 hq => ?_)
              obtain ⟨rfl, hh⟩ := hq
              replace hh := hh.symm
              subst hh
              refine zt_ifb_eq kX12_isHeld_87 (fun c => ?_) (fun c => ?_)
              · replace H := H.1 c
                refine zt_iconst (v := 0) kX12_isHeld_94 rfl ?_
                exact zt_zret kX12_isHeld_95 rfl (by decide) H
              · replace H := H.2 c
                refine zt_iconst (v := 1) kX12_isHeld_90 rfl ?_
                refine zt_goto kX12_isHeld_91 ?_
                exact zt_zret kX12_isHeld_95 rfl (by decide) H
        · replace H := H.2 c
          refine zt_aload_n kX12_isHeld_38 rfl ?_
          refine zt_iload_n kX12_isHeld_39 rfl ?_
          refine zt_iload_n kX12_isHeld_40 rfl ?_
          refine zt_cV (as := [zi x1, zi x2]) kX12_isHeld_41 sRX12_78 rfl (by decide) rfl (by simp) rfl (sX12_isLeft _  ) (fun r h0 hq => ?_)
          obtain ⟨rfl, hh⟩ := hq
          replace hh := hh.symm
          subst hh
          refine zt_ifb_eq kX12_isHeld_44 (fun c => ?_) (fun c => ?_)
          · replace H := H.1 c
            refine zt_iconst (v := 0) kX12_isHeld_60 rfl ?_
            exact zt_zret kX12_isHeld_61 rfl (by decide) H
          · replace H := H.2 c
            refine zt_aload_n kX12_isHeld_47 rfl ?_
            refine zt_iload_n kX12_isHeld_48 rfl ?_
            refine zt_iload_n kX12_isHeld_49 rfl ?_
            refine zt_cV (as := [zi x1, zi x2]) kX12_isHeld_50 sRX12_81 rfl (by decide) rfl (by simp) rfl (sX12_isRight _  ) (fun r h0 hq => ?_)
            obtain ⟨rfl, hh⟩ := hq
            replace hh := hh.symm
            subst hh
            refine zt_ifb_eq kX12_isHeld_53 (fun c => ?_) (fun c => ?_)
            · replace H := H.1 c
              refine zt_iconst (v := 0) kX12_isHeld_60 rfl ?_
              exact zt_zret kX12_isHeld_61 rfl (by decide) H
            · replace H := H.2 c
              refine zt_iconst (v := 1) kX12_isHeld_56 rfl ?_
              refine zt_goto kX12_isHeld_57 ?_
              exact zt_zret kX12_isHeld_61 rfl (by decide) H
      · replace H := H.2 c
        refine zt_iconst (v := 1) kX12_isHeld_28 rfl ?_
        exact zt_zret kX12_isHeld_29 rfl (by decide) H

theorem kX12_loads_0 : zD cX12_loads 0 1 (.iconst 0) 1 := by decide +kernel
theorem kX12_loads_1 : zD cX12_loads 1 2 (.istore_n 2) 1 := by decide +kernel
theorem kX12_loads_2 : zD cX12_loads 2 3 (.iload_n 2) 1 := by decide +kernel
theorem kX12_loads_3 : zD cX12_loads 3 5 (.bipush 12) 2 := by decide +kernel
theorem kX12_loads_5 : zB cX12_loads 5 8 21 (.if_icmp .ge 16) 16 := by decide +kernel
theorem kX12_loads_8 : zD cX12_loads 8 9 (.aload_n 0) 1 := by decide +kernel
theorem kX12_loads_9 : zD cX12_loads 9 12 (.getfield 19) 3 := by decide +kernel
theorem kX12_loads_12 : zD cX12_loads 12 13 (.iload_n 2) 1 := by decide +kernel
theorem kX12_loads_13 : zD cX12_loads 13 14 (.iconst 0) 1 := by decide +kernel
theorem kX12_loads_14 : zD cX12_loads 14 15 (.iastore) 1 := by decide +kernel
theorem kX12_loads_15 : zD cX12_loads 15 18 (.iinc 2 1) 3 := by decide +kernel
theorem kX12_loads_18 : zB cX12_loads 18 21 2 (.goto (-16)) (-16) := by decide +kernel
theorem kX12_loads_21 : zD cX12_loads 21 23 (.bipush 11) 2 := by decide +kernel
theorem kX12_loads_23 : zD cX12_loads 23 24 (.istore_n 2) 1 := by decide +kernel
theorem kX12_loads_24 : zD cX12_loads 24 25 (.iload_n 2) 1 := by decide +kernel
theorem kX12_loads_25 : zD cX12_loads 25 26 (.iconst 4) 1 := by decide +kernel
theorem kX12_loads_26 : zB cX12_loads 26 29 228 (.if_icmp .lt 202) 202 := by decide +kernel
theorem kX12_loads_29 : zD cX12_loads 29 30 (.iload_n 1) 1 := by decide +kernel
theorem kX12_loads_30 : zD cX12_loads 30 31 (.iload_n 2) 1 := by decide +kernel
theorem kX12_loads_31 : zD cX12_loads 31 34 (.invokestatic 57) 3 := by decide +kernel
theorem kX12_loads_34 : zB cX12_loads 34 37 222 (.ifCond .eq 188) 188 := by decide +kernel
theorem kX12_loads_37 : zD cX12_loads 37 38 (.aload_n 0) 1 := by decide +kernel
theorem kX12_loads_38 : zD cX12_loads 38 41 (.getfield 9) 3 := by decide +kernel
theorem kX12_loads_41 : zD cX12_loads 41 42 (.iconst 1) 1 := by decide +kernel
theorem kX12_loads_42 : zD cX12_loads 42 43 (.iaload) 1 := by decide +kernel
theorem kX12_loads_43 : zD cX12_loads 43 44 (.iload_n 2) 1 := by decide +kernel
theorem kX12_loads_44 : zD cX12_loads 44 47 (.invokestatic 57) 3 := by decide +kernel
theorem kX12_loads_47 : zB cX12_loads 47 50 53 (.ifCond .eq 6) 6 := by decide +kernel
theorem kX12_loads_50 : zB cX12_loads 50 53 222 (.goto 172) 172 := by decide +kernel
theorem kX12_loads_53 : zD cX12_loads 53 54 (.aload_n 0) 1 := by decide +kernel
theorem kX12_loads_54 : zD cX12_loads 54 55 (.iload_n 2) 1 := by decide +kernel
theorem kX12_loads_55 : zD cX12_loads 55 58 (.invokevirtual 87) 3 := by decide +kernel
theorem kX12_loads_58 : zD cX12_loads 58 59 (.aload_n 0) 1 := by decide +kernel
theorem kX12_loads_59 : zD cX12_loads 59 62 (.getfield 19) 3 := by decide +kernel
theorem kX12_loads_62 : zD cX12_loads 62 63 (.iload_n 2) 1 := by decide +kernel
theorem kX12_loads_63 : zD cX12_loads 63 64 (.iaload) 1 := by decide +kernel
theorem kX12_loads_64 : zD cX12_loads 64 65 (.iadd) 1 := by decide +kernel
theorem kX12_loads_65 : zD cX12_loads 65 66 (.istore_n 3) 1 := by decide +kernel
theorem kX12_loads_66 : zD cX12_loads 66 67 (.iload_n 2) 1 := by decide +kernel
theorem kX12_loads_67 : zD cX12_loads 67 68 (.iconst 4) 1 := by decide +kernel
theorem kX12_loads_68 : zD cX12_loads 68 69 (.isub) 1 := by decide +kernel
theorem kX12_loads_69 : zD cX12_loads 69 71 (.istore 4) 2 := by decide +kernel
theorem kX12_loads_71 : zD cX12_loads 71 72 (.iload_n 1) 1 := by decide +kernel
theorem kX12_loads_72 : zD cX12_loads 72 74 (.iload 4) 2 := by decide +kernel
theorem kX12_loads_74 : zD cX12_loads 74 77 (.invokestatic 57) 3 := by decide +kernel
theorem kX12_loads_77 : zB cX12_loads 77 80 94 (.ifCond .eq 17) 17 := by decide +kernel
theorem kX12_loads_80 : zD cX12_loads 80 81 (.aload_n 0) 1 := by decide +kernel
theorem kX12_loads_81 : zD cX12_loads 81 84 (.getfield 19) 3 := by decide +kernel
theorem kX12_loads_84 : zD cX12_loads 84 86 (.iload 4) 2 := by decide +kernel
theorem kX12_loads_86 : zD cX12_loads 86 87 (.dup2) 1 := by decide +kernel
theorem kX12_loads_87 : zD cX12_loads 87 88 (.iaload) 1 := by decide +kernel
theorem kX12_loads_88 : zD cX12_loads 88 89 (.iload_n 3) 1 := by decide +kernel
theorem kX12_loads_89 : zD cX12_loads 89 90 (.iadd) 1 := by decide +kernel
theorem kX12_loads_90 : zD cX12_loads 90 91 (.iastore) 1 := by decide +kernel
theorem kX12_loads_91 : zB cX12_loads 91 94 222 (.goto 131) 131 := by decide +kernel
theorem kX12_loads_94 : zD cX12_loads 94 95 (.aload_n 0) 1 := by decide +kernel
theorem kX12_loads_95 : zD cX12_loads 95 96 (.iload_n 2) 1 := by decide +kernel
theorem kX12_loads_96 : zD cX12_loads 96 99 (.invokevirtual 75) 3 := by decide +kernel
theorem kX12_loads_99 : zB cX12_loads 99 102 155 (.ifCond .eq 56) 56 := by decide +kernel
theorem kX12_loads_102 : zD cX12_loads 102 103 (.aload_n 0) 1 := by decide +kernel
theorem kX12_loads_103 : zD cX12_loads 103 104 (.iload_n 1) 1 := by decide +kernel
theorem kX12_loads_104 : zD cX12_loads 104 105 (.iload_n 2) 1 := by decide +kernel
theorem kX12_loads_105 : zD cX12_loads 105 108 (.invokevirtual 78) 3 := by decide +kernel
theorem kX12_loads_108 : zB cX12_loads 108 111 155 (.ifCond .eq 47) 47 := by decide +kernel
theorem kX12_loads_111 : zD cX12_loads 111 112 (.aload_n 0) 1 := by decide +kernel
theorem kX12_loads_112 : zD cX12_loads 112 113 (.iload_n 1) 1 := by decide +kernel
theorem kX12_loads_113 : zD cX12_loads 113 114 (.iload_n 2) 1 := by decide +kernel
theorem kX12_loads_114 : zD cX12_loads 114 117 (.invokevirtual 81) 3 := by decide +kernel
theorem kX12_loads_117 : zB cX12_loads 117 120 155 (.ifCond .eq 38) 38 := by decide +kernel
theorem kX12_loads_120 : zD cX12_loads 120 121 (.aload_n 0) 1 := by decide +kernel
theorem kX12_loads_121 : zD cX12_loads 121 124 (.getfield 19) 3 := by decide +kernel
theorem kX12_loads_124 : zD cX12_loads 124 126 (.iload 4) 2 := by decide +kernel
theorem kX12_loads_126 : zD cX12_loads 126 127 (.iconst 1) 1 := by decide +kernel
theorem kX12_loads_127 : zD cX12_loads 127 128 (.isub) 1 := by decide +kernel
theorem kX12_loads_128 : zD cX12_loads 128 129 (.dup2) 1 := by decide +kernel
theorem kX12_loads_129 : zD cX12_loads 129 130 (.iaload) 1 := by decide +kernel
theorem kX12_loads_130 : zD cX12_loads 130 131 (.iload_n 3) 1 := by decide +kernel
theorem kX12_loads_131 : zD cX12_loads 131 132 (.iconst 2) 1 := by decide +kernel
theorem kX12_loads_132 : zD cX12_loads 132 133 (.idiv) 1 := by decide +kernel
theorem kX12_loads_133 : zD cX12_loads 133 134 (.iadd) 1 := by decide +kernel
theorem kX12_loads_134 : zD cX12_loads 134 135 (.iastore) 1 := by decide +kernel
theorem kX12_loads_135 : zD cX12_loads 135 136 (.aload_n 0) 1 := by decide +kernel
theorem kX12_loads_136 : zD cX12_loads 136 139 (.getfield 19) 3 := by decide +kernel
theorem kX12_loads_139 : zD cX12_loads 139 141 (.iload 4) 2 := by decide +kernel
theorem kX12_loads_141 : zD cX12_loads 141 142 (.iconst 1) 1 := by decide +kernel
theorem kX12_loads_142 : zD cX12_loads 142 143 (.iadd) 1 := by decide +kernel
theorem kX12_loads_143 : zD cX12_loads 143 144 (.dup2) 1 := by decide +kernel
theorem kX12_loads_144 : zD cX12_loads 144 145 (.iaload) 1 := by decide +kernel
theorem kX12_loads_145 : zD cX12_loads 145 146 (.iload_n 3) 1 := by decide +kernel
theorem kX12_loads_146 : zD cX12_loads 146 147 (.iload_n 3) 1 := by decide +kernel
theorem kX12_loads_147 : zD cX12_loads 147 148 (.iconst 2) 1 := by decide +kernel
theorem kX12_loads_148 : zD cX12_loads 148 149 (.idiv) 1 := by decide +kernel
theorem kX12_loads_149 : zD cX12_loads 149 150 (.isub) 1 := by decide +kernel
theorem kX12_loads_150 : zD cX12_loads 150 151 (.iadd) 1 := by decide +kernel
theorem kX12_loads_151 : zD cX12_loads 151 152 (.iastore) 1 := by decide +kernel
theorem kX12_loads_152 : zB cX12_loads 152 155 222 (.goto 70) 70 := by decide +kernel
theorem kX12_loads_155 : zD cX12_loads 155 156 (.aload_n 0) 1 := by decide +kernel
theorem kX12_loads_156 : zD cX12_loads 156 157 (.iload_n 2) 1 := by decide +kernel
theorem kX12_loads_157 : zD cX12_loads 157 160 (.invokevirtual 65) 3 := by decide +kernel
theorem kX12_loads_160 : zD cX12_loads 160 162 (.bipush 6) 2 := by decide +kernel
theorem kX12_loads_162 : zB cX12_loads 162 165 190 (.if_icmp .ne 28) 28 := by decide +kernel
theorem kX12_loads_165 : zD cX12_loads 165 166 (.aload_n 0) 1 := by decide +kernel
theorem kX12_loads_166 : zD cX12_loads 166 167 (.iload_n 1) 1 := by decide +kernel
theorem kX12_loads_167 : zD cX12_loads 167 168 (.iload_n 2) 1 := by decide +kernel
theorem kX12_loads_168 : zD cX12_loads 168 171 (.invokevirtual 78) 3 := by decide +kernel
theorem kX12_loads_171 : zB cX12_loads 171 174 190 (.ifCond .eq 19) 19 := by decide +kernel
theorem kX12_loads_174 : zD cX12_loads 174 175 (.aload_n 0) 1 := by decide +kernel
theorem kX12_loads_175 : zD cX12_loads 175 178 (.getfield 19) 3 := by decide +kernel
theorem kX12_loads_178 : zD cX12_loads 178 180 (.iload 4) 2 := by decide +kernel
theorem kX12_loads_180 : zD cX12_loads 180 181 (.iconst 1) 1 := by decide +kernel
theorem kX12_loads_181 : zD cX12_loads 181 182 (.isub) 1 := by decide +kernel
theorem kX12_loads_182 : zD cX12_loads 182 183 (.dup2) 1 := by decide +kernel
theorem kX12_loads_183 : zD cX12_loads 183 184 (.iaload) 1 := by decide +kernel
theorem kX12_loads_184 : zD cX12_loads 184 185 (.iload_n 3) 1 := by decide +kernel
theorem kX12_loads_185 : zD cX12_loads 185 186 (.iadd) 1 := by decide +kernel
theorem kX12_loads_186 : zD cX12_loads 186 187 (.iastore) 1 := by decide +kernel
theorem kX12_loads_187 : zB cX12_loads 187 190 222 (.goto 35) 35 := by decide +kernel
theorem kX12_loads_190 : zD cX12_loads 190 191 (.aload_n 0) 1 := by decide +kernel
theorem kX12_loads_191 : zD cX12_loads 191 192 (.iload_n 2) 1 := by decide +kernel
theorem kX12_loads_192 : zD cX12_loads 192 195 (.invokevirtual 65) 3 := by decide +kernel
theorem kX12_loads_195 : zD cX12_loads 195 197 (.bipush 6) 2 := by decide +kernel
theorem kX12_loads_197 : zB cX12_loads 197 200 222 (.if_icmp .ne 25) 25 := by decide +kernel
theorem kX12_loads_200 : zD cX12_loads 200 201 (.aload_n 0) 1 := by decide +kernel
theorem kX12_loads_201 : zD cX12_loads 201 202 (.iload_n 1) 1 := by decide +kernel
theorem kX12_loads_202 : zD cX12_loads 202 203 (.iload_n 2) 1 := by decide +kernel
theorem kX12_loads_203 : zD cX12_loads 203 206 (.invokevirtual 81) 3 := by decide +kernel
theorem kX12_loads_206 : zB cX12_loads 206 209 222 (.ifCond .eq 16) 16 := by decide +kernel
theorem kX12_loads_209 : zD cX12_loads 209 210 (.aload_n 0) 1 := by decide +kernel
theorem kX12_loads_210 : zD cX12_loads 210 213 (.getfield 19) 3 := by decide +kernel
theorem kX12_loads_213 : zD cX12_loads 213 215 (.iload 4) 2 := by decide +kernel
theorem kX12_loads_215 : zD cX12_loads 215 216 (.iconst 1) 1 := by decide +kernel
theorem kX12_loads_216 : zD cX12_loads 216 217 (.iadd) 1 := by decide +kernel
theorem kX12_loads_217 : zD cX12_loads 217 218 (.dup2) 1 := by decide +kernel
theorem kX12_loads_218 : zD cX12_loads 218 219 (.iaload) 1 := by decide +kernel
theorem kX12_loads_219 : zD cX12_loads 219 220 (.iload_n 3) 1 := by decide +kernel
theorem kX12_loads_220 : zD cX12_loads 220 221 (.iadd) 1 := by decide +kernel
theorem kX12_loads_221 : zD cX12_loads 221 222 (.iastore) 1 := by decide +kernel
theorem kX12_loads_222 : zD cX12_loads 222 225 (.iinc 2 (-1)) 3 := by decide +kernel
theorem kX12_loads_225 : zB cX12_loads 225 228 24 (.goto (-201)) (-201) := by decide +kernel
theorem kX12_loads_228 : zD cX12_loads 228 229 (.return_) 1 := by decide +kernel
set_option maxRecDepth 10000 in
theorem wX12_loads_0 {G : ZG} {d : Nat} {h : ZH} {Q : Option ZV → ZH → Prop} {x1 : Int32} 
  (H : zT G (d + 4) mX12_loads 2 [zr 5 0, zi x1, zi 0, zu, zu] [] h Q) :
  zT G (d + 4) mX12_loads 0 [zr 5 0, zi x1, zu, zu, zu] [] h Q := by
  refine zt_iconst (v := 0) kX12_loads_0 rfl ?_
  refine zt_istore_n (L' := [zr 5 0, zi x1, zi 0, zu, zu]) kX12_loads_1 (by decide) rfl ?_
  exact H

set_option maxRecDepth 10000 in
theorem wX12_loads_2 {G : ZG} {d : Nat} {h : ZH} {Q : Option ZV → ZH → Prop} {x1 : Int32} {x2 : Int32} 
  (H : (12 ≤ x2 → zT G (d + 4) mX12_loads 24 [zr 5 0, zi x1, zi 11, zu, zu] [] h Q) ∧ (¬ 12 ≤ x2 → vp_in x2 12 ∧ (∀ h1 : ZH, h1 = zs1 h 33 0 x2.toNatClampNeg 0 → zT G (d + 4) mX12_loads 2 [zr 5 0, zi x1, zi (x2 + 1), zu, zu] [] h1 Q))) :
  zT G (d + 4) mX12_loads 2 [zr 5 0, zi x1, zi x2, zu, zu] [] h Q := by
  refine zt_iload_n kX12_loads_2 rfl ?_
  refine zt_bipush (v := 12) kX12_loads_3 rfl ?_
  refine zt_icmp_ge kX12_loads_5 (fun c => ?_) (fun c => ?_)
  · replace H := H.1 c
    refine zt_bipush (v := 11) kX12_loads_21 rfl ?_
    refine zt_istore_n (L' := [zr 5 0, zi x1, zi 11, zu, zu]) kX12_loads_23 (by decide) rfl ?_
    exact H
  · replace H := H.2 c
    refine zt_aload_n kX12_loads_8 rfl ?_
    refine zt_get (v := zr 33 0) kX12_loads_9 fRX12_19 rfl (by decide) rfl ?_
    refine zt_iload_n kX12_loads_12 rfl ?_
    refine zt_iconst (v := 0) kX12_loads_13 rfl ?_
    obtain ⟨hv, H⟩ := H
    refine zt_iast kX12_loads_14 rfl (by decide) hv ?_
    refine zt_heap (fun h1 eh1 => ?_)
    replace H := H h1 eh1
    refine zt_iinc (v := (x2 + 1)) (L' := [zr 5 0, zi x1, zi (x2 + 1), zu, zu]) kX12_loads_15 rfl rfl (by decide) rfl ?_
    refine zt_goto kX12_loads_18 ?_
    exact H

set_option maxRecDepth 10000 in
theorem wX12_loads_24 {G : ZG} {d : Nat} {h : ZH} {Q : Option ZV → ZH → Prop} {x1 : Int32} {x2 : Int32} 
  (H : (x2 < 4 → Q none h) ∧ (¬ x2 < 4 → (¬ (hasI x1 x2) → zT G (d + 4) mX12_loads 24 [zr 5 0, zi x1, zi (x2 + (-1)), zu, zu] [] h Q) ∧ ((hasI x1 x2) → (¬ (hasI (h.1 30 0 1) x2) → vp_in x2 12 ∧ (vp_in x2 12 ∧ ∀ y1 : Int32, y1 = ((wgtI (kindI h x2) (figI h x2)) + (h.1 33 0 x2.toNatClampNeg)) → (¬ (hasI x1 (x2 - 4)) → vp_in x2 12 ∧ ((¬ (archK (kindI h x2)) → vp_in x2 12 ∧ ((¬ (kindI h x2) = 6 → vp_in x2 12 ∧ ((¬ (kindI h x2) = 6 → zT G (d + 4) mX12_loads 24 [zr 5 0, zi x1, zi (x2 + (-1)), zu, zu] [] h Q) ∧ ((kindI h x2) = 6 → (¬ (rightI x1 x2) → zT G (d + 4) mX12_loads 24 [zr 5 0, zi x1, zi (x2 + (-1)), zu, zu] [] h Q) ∧ ((rightI x1 x2) → vp_in ((x2 - 4) + 1) 12 ∧ vp_in ((x2 - 4) + 1) 12 ∧ (∀ h2 : ZH, h2 = zs1 h 33 0 ((x2 - 4) + 1).toNatClampNeg ((h.1 33 0 ((x2 - 4) + 1).toNatClampNeg) + y1) → zT G (d + 4) mX12_loads 24 [zr 5 0, zi x1, zi (x2 + (-1)), zu, zu] [] h2 Q))))) ∧ ((kindI h x2) = 6 → (¬ (leftI x1 x2) → vp_in x2 12 ∧ ((¬ (kindI h x2) = 6 → zT G (d + 4) mX12_loads 24 [zr 5 0, zi x1, zi (x2 + (-1)), zu, zu] [] h Q) ∧ ((kindI h x2) = 6 → (¬ (rightI x1 x2) → zT G (d + 4) mX12_loads 24 [zr 5 0, zi x1, zi (x2 + (-1)), zu, zu] [] h Q) ∧ ((rightI x1 x2) → vp_in ((x2 - 4) + 1) 12 ∧ vp_in ((x2 - 4) + 1) 12 ∧ (∀ h3 : ZH, h3 = zs1 h 33 0 ((x2 - 4) + 1).toNatClampNeg ((h.1 33 0 ((x2 - 4) + 1).toNatClampNeg) + y1) → zT G (d + 4) mX12_loads 24 [zr 5 0, zi x1, zi (x2 + (-1)), zu, zu] [] h3 Q))))) ∧ ((leftI x1 x2) → vp_in ((x2 - 4) - 1) 12 ∧ vp_in ((x2 - 4) - 1) 12 ∧ (∀ h4 : ZH, h4 = zs1 h 33 0 ((x2 - 4) - 1).toNatClampNeg ((h.1 33 0 ((x2 - 4) - 1).toNatClampNeg) + y1) → zT G (d + 4) mX12_loads 24 [zr 5 0, zi x1, zi (x2 + (-1)), zu, zu] [] h4 Q))))) ∧ ((archK (kindI h x2)) → (¬ (leftI x1 x2) → vp_in x2 12 ∧ ((¬ (kindI h x2) = 6 → vp_in x2 12 ∧ ((¬ (kindI h x2) = 6 → zT G (d + 4) mX12_loads 24 [zr 5 0, zi x1, zi (x2 + (-1)), zu, zu] [] h Q) ∧ ((kindI h x2) = 6 → (¬ (rightI x1 x2) → zT G (d + 4) mX12_loads 24 [zr 5 0, zi x1, zi (x2 + (-1)), zu, zu] [] h Q) ∧ ((rightI x1 x2) → vp_in ((x2 - 4) + 1) 12 ∧ vp_in ((x2 - 4) + 1) 12 ∧ (∀ h5 : ZH, h5 = zs1 h 33 0 ((x2 - 4) + 1).toNatClampNeg ((h.1 33 0 ((x2 - 4) + 1).toNatClampNeg) + y1) → zT G (d + 4) mX12_loads 24 [zr 5 0, zi x1, zi (x2 + (-1)), zu, zu] [] h5 Q))))) ∧ ((kindI h x2) = 6 → (¬ (leftI x1 x2) → vp_in x2 12 ∧ ((¬ (kindI h x2) = 6 → zT G (d + 4) mX12_loads 24 [zr 5 0, zi x1, zi (x2 + (-1)), zu, zu] [] h Q) ∧ ((kindI h x2) = 6 → (¬ (rightI x1 x2) → zT G (d + 4) mX12_loads 24 [zr 5 0, zi x1, zi (x2 + (-1)), zu, zu] [] h Q) ∧ ((rightI x1 x2) → vp_in ((x2 - 4) + 1) 12 ∧ vp_in ((x2 - 4) + 1) 12 ∧ (∀ h6 : ZH, h6 = zs1 h 33 0 ((x2 - 4) + 1).toNatClampNeg ((h.1 33 0 ((x2 - 4) + 1).toNatClampNeg) + y1) → zT G (d + 4) mX12_loads 24 [zr 5 0, zi x1, zi (x2 + (-1)), zu, zu] [] h6 Q))))) ∧ ((leftI x1 x2) → vp_in ((x2 - 4) - 1) 12 ∧ vp_in ((x2 - 4) - 1) 12 ∧ (∀ h7 : ZH, h7 = zs1 h 33 0 ((x2 - 4) - 1).toNatClampNeg ((h.1 33 0 ((x2 - 4) - 1).toNatClampNeg) + y1) → zT G (d + 4) mX12_loads 24 [zr 5 0, zi x1, zi (x2 + (-1)), zu, zu] [] h7 Q))))) ∧ ((leftI x1 x2) → (¬ (rightI x1 x2) → vp_in x2 12 ∧ ((¬ (kindI h x2) = 6 → vp_in x2 12 ∧ ((¬ (kindI h x2) = 6 → zT G (d + 4) mX12_loads 24 [zr 5 0, zi x1, zi (x2 + (-1)), zu, zu] [] h Q) ∧ ((kindI h x2) = 6 → (¬ (rightI x1 x2) → zT G (d + 4) mX12_loads 24 [zr 5 0, zi x1, zi (x2 + (-1)), zu, zu] [] h Q) ∧ ((rightI x1 x2) → vp_in ((x2 - 4) + 1) 12 ∧ vp_in ((x2 - 4) + 1) 12 ∧ (∀ h8 : ZH, h8 = zs1 h 33 0 ((x2 - 4) + 1).toNatClampNeg ((h.1 33 0 ((x2 - 4) + 1).toNatClampNeg) + y1) → zT G (d + 4) mX12_loads 24 [zr 5 0, zi x1, zi (x2 + (-1)), zu, zu] [] h8 Q))))) ∧ ((kindI h x2) = 6 → (¬ (leftI x1 x2) → vp_in x2 12 ∧ ((¬ (kindI h x2) = 6 → zT G (d + 4) mX12_loads 24 [zr 5 0, zi x1, zi (x2 + (-1)), zu, zu] [] h Q) ∧ ((kindI h x2) = 6 → (¬ (rightI x1 x2) → zT G (d + 4) mX12_loads 24 [zr 5 0, zi x1, zi (x2 + (-1)), zu, zu] [] h Q) ∧ ((rightI x1 x2) → vp_in ((x2 - 4) + 1) 12 ∧ vp_in ((x2 - 4) + 1) 12 ∧ (∀ h9 : ZH, h9 = zs1 h 33 0 ((x2 - 4) + 1).toNatClampNeg ((h.1 33 0 ((x2 - 4) + 1).toNatClampNeg) + y1) → zT G (d + 4) mX12_loads 24 [zr 5 0, zi x1, zi (x2 + (-1)), zu, zu] [] h9 Q))))) ∧ ((leftI x1 x2) → vp_in ((x2 - 4) - 1) 12 ∧ vp_in ((x2 - 4) - 1) 12 ∧ (∀ h10 : ZH, h10 = zs1 h 33 0 ((x2 - 4) - 1).toNatClampNeg ((h.1 33 0 ((x2 - 4) - 1).toNatClampNeg) + y1) → zT G (d + 4) mX12_loads 24 [zr 5 0, zi x1, zi (x2 + (-1)), zu, zu] [] h10 Q))))) ∧ ((rightI x1 x2) → vp_in ((x2 - 4) - 1) 12 ∧ vp_in ((x2 - 4) - 1) 12 ∧ (∀ h11 : ZH, h11 = zs1 h 33 0 ((x2 - 4) - 1).toNatClampNeg ((h.1 33 0 ((x2 - 4) - 1).toNatClampNeg) + (y1 / 2)) → vp_in ((x2 - 4) + 1) 12 ∧ vp_in ((x2 - 4) + 1) 12 ∧ (∀ h12 : ZH, h12 = zs1 h11 33 0 ((x2 - 4) + 1).toNatClampNeg ((h11.1 33 0 ((x2 - 4) + 1).toNatClampNeg) + (y1 - (y1 / 2))) → zT G (d + 4) mX12_loads 24 [zr 5 0, zi x1, zi (x2 + (-1)), zu, zu] [] h12 Q))))))) ∧ ((hasI x1 (x2 - 4)) → vp_in (x2 - 4) 12 ∧ vp_in (x2 - 4) 12 ∧ (∀ h13 : ZH, h13 = zs1 h 33 0 (x2 - 4).toNatClampNeg ((h.1 33 0 (x2 - 4).toNatClampNeg) + y1) → zT G (d + 4) mX12_loads 24 [zr 5 0, zi x1, zi (x2 + (-1)), zu, zu] [] h13 Q)))) ∧ ((hasI (h.1 30 0 1) x2) → zT G (d + 4) mX12_loads 24 [zr 5 0, zi x1, zi (x2 + (-1)), zu, zu] [] h Q)))) :
  zT G (d + 4) mX12_loads 24 [zr 5 0, zi x1, zi x2, zu, zu] [] h Q := by
  refine zt_iload_n kX12_loads_24 rfl ?_
  refine zt_iconst (v := 4) kX12_loads_25 rfl ?_
  refine zt_icmp_lt kX12_loads_26 (fun c => ?_) (fun c => ?_)
  · replace H := H.1 c
    exact zt_vret kX12_loads_228 rfl H
  · replace H := H.2 c
    refine zt_iload_n kX12_loads_29 rfl ?_
    refine zt_iload_n kX12_loads_30 rfl ?_
    refine zt_cS (as := [zi x1, zi x2]) kX12_loads_31 sRX12_57 rfl (by simp) rfl (sX12_has _  ) (fun r h0 hq => ?_)
    obtain ⟨rfl, hh⟩ := hq
    replace hh := hh.symm
    subst hh
    refine zt_ifb_eq kX12_loads_34 (fun c => ?_) (fun c => ?_)
    · replace H := H.1 c
      refine zt_iinc (v := (x2 + (-1))) (L' := [zr 5 0, zi x1, zi (x2 + (-1)), zu, zu]) kX12_loads_222 rfl rfl (by decide) rfl ?_
      refine zt_goto kX12_loads_225 ?_
      exact H
    · replace H := H.2 c
      refine zt_aload_n kX12_loads_37 rfl ?_
      refine zt_get (v := zr 30 0) kX12_loads_38 fRX12_9 rfl (by decide) rfl ?_
      refine zt_iconst (v := 1) kX12_loads_41 rfl ?_
      refine zt_ialdc 1 rfl kX12_loads_42 rfl (by decide) (zvp_dec (by decide)) ?_
      refine zt_iload_n kX12_loads_43 rfl ?_
      refine zt_cS (as := [zi (h.1 30 0 1), zi x2]) kX12_loads_44 sRX12_57 rfl (by simp) rfl (sX12_has _  ) (fun r h0 hq => ?_)
      obtain ⟨rfl, hh⟩ := hq
      replace hh := hh.symm
      subst hh
      refine zt_ifb_eq kX12_loads_47 (fun c => ?_) (fun c => ?_)
      · replace H := H.1 c
        refine zt_aload_n kX12_loads_53 rfl ?_
        refine zt_iload_n kX12_loads_54 rfl ?_
        obtain ⟨pp0, H⟩ := H
        refine zt_cV (as := [zi x2]) kX12_loads_55 sRX12_87 rfl (by decide) rfl (by simp) rfl (sX12_weight _  pp0) (fun r h0 hq => ?_)
        obtain ⟨rfl, hh⟩ := hq
        replace hh := hh.symm
        subst hh
        refine zt_aload_n kX12_loads_58 rfl ?_
        refine zt_get (v := zr 33 0) kX12_loads_59 fRX12_19 rfl (by decide) rfl ?_
        refine zt_iload_n kX12_loads_62 rfl ?_
        obtain ⟨hv, H⟩ := H
        refine zt_iald kX12_loads_63 rfl (by decide) hv ?_
        refine zt_iadd kX12_loads_64 ?_
        refine zt_topi (fun y1 ey1 => ?_)
        replace H := H y1 ey1
        refine zt_istore_n (L' := [zr 5 0, zi x1, zi x2, zi y1, zu]) kX12_loads_65 (by decide) rfl ?_
        refine zt_iload_n kX12_loads_66 rfl ?_
        refine zt_iconst (v := 4) kX12_loads_67 rfl ?_
        refine zt_isub kX12_loads_68 ?_
        refine zt_istore (L' := [zr 5 0, zi x1, zi x2, zi y1, zi (x2 - 4)]) kX12_loads_69 (by decide) rfl ?_
        refine zt_iload_n kX12_loads_71 rfl ?_
        refine zt_iload kX12_loads_72 rfl ?_
        refine zt_cS (as := [zi x1, zi (x2 - 4)]) kX12_loads_74 sRX12_57 rfl (by simp) rfl (sX12_has _  ) (fun r h0 hq => ?_)
        obtain ⟨rfl, hh⟩ := hq
        replace hh := hh.symm
        subst hh
        refine zt_ifb_eq kX12_loads_77 (fun c => ?_) (fun c => ?_)
        · replace H := H.1 c
          refine zt_aload_n kX12_loads_94 rfl ?_
          refine zt_iload_n kX12_loads_95 rfl ?_
          obtain ⟨pp0, H⟩ := H
          refine zt_cV (as := [zi x2]) kX12_loads_96 sRX12_75 rfl (by decide) rfl (by simp) rfl (sX12_isArch _  pp0) (fun r h0 hq => ?_)
          obtain ⟨rfl, hh⟩ := hq
          replace hh := hh.symm
          subst hh
          refine zt_ifb_eq kX12_loads_99 (fun c => ?_) (fun c => ?_)
          · replace H := H.1 c
            refine zt_aload_n kX12_loads_155 rfl ?_
            refine zt_iload_n kX12_loads_156 rfl ?_
            obtain ⟨pp0, H⟩ := H
            refine zt_cV (as := [zi x2]) kX12_loads_157 sRX12_65 rfl (by decide) rfl (by simp) rfl (sX12_kind _  pp0) (fun r h0 hq => ?_)
            obtain ⟨rfl, hh⟩ := hq
            replace hh := hh.symm
            subst hh
            refine zt_bipush (v := 6) kX12_loads_160 rfl ?_
            refine zt_icmp_ne kX12_loads_162 (fun c => ?_) (fun c => ?_)
            · replace H := H.1 c
              refine zt_aload_n kX12_loads_190 rfl ?_
              refine zt_iload_n kX12_loads_191 rfl ?_
              obtain ⟨pp0, H⟩ := H
              refine zt_cV (as := [zi x2]) kX12_loads_192 sRX12_65 rfl (by decide) rfl (by simp) rfl (sX12_kind _  pp0) (fun r h0 hq => ?_)
              obtain ⟨rfl, hh⟩ := hq
              replace hh := hh.symm
              subst hh
              refine zt_bipush (v := 6) kX12_loads_195 rfl ?_
              refine zt_icmp_ne kX12_loads_197 (fun c => ?_) (fun c => ?_)
              · replace H := H.1 c
                refine zt_iinc (v := (x2 + (-1))) (L' := [zr 5 0, zi x1, zi (x2 + (-1)), zi y1, zi (x2 - 4)]) kX12_loads_222 rfl rfl (by decide) rfl ?_
                refine zt_goto kX12_loads_225 ?_
                exact zt_sub [zr 5 0, zi x1, zi (x2 + (-1)), zu, zu] ⟨rfl, ⟨rfl, ⟨rfl, trivial⟩⟩⟩ H
              · replace H := H.2 c
                refine zt_aload_n kX12_loads_200 rfl ?_
                refine zt_iload_n kX12_loads_201 rfl ?_
                refine zt_iload_n kX12_loads_202 rfl ?_
                refine zt_cV (as := [zi x1, zi x2]) kX12_loads_203 sRX12_81 rfl (by decide) rfl (by simp) rfl (sX12_isRight _  ) (fun r h0 hq => ?_)
                obtain ⟨rfl, hh⟩ := hq
                replace hh := hh.symm
                subst hh
                refine zt_ifb_eq kX12_loads_206 (fun c => ?_) (fun c => ?_)
                · replace H := H.1 c
                  refine zt_iinc (v := (x2 + (-1))) (L' := [zr 5 0, zi x1, zi (x2 + (-1)), zi y1, zi (x2 - 4)]) kX12_loads_222 rfl rfl (by decide) rfl ?_
                  refine zt_goto kX12_loads_225 ?_
                  exact zt_sub [zr 5 0, zi x1, zi (x2 + (-1)), zu, zu] ⟨rfl, ⟨rfl, ⟨rfl, trivial⟩⟩⟩ H
                · replace H := H.2 c
                  refine zt_aload_n kX12_loads_209 rfl ?_
                  refine zt_get (v := zr 33 0) kX12_loads_210 fRX12_19 rfl (by decide) rfl ?_
                  refine zt_iload kX12_loads_213 rfl ?_
                  refine zt_iconst (v := 1) kX12_loads_215 rfl ?_
                  refine zt_iadd kX12_loads_216 ?_
                  refine zt_dup2 kX12_loads_217 (by intro x q; cases q) (by intro x q; cases q) ?_
                  obtain ⟨hv, H⟩ := H
                  refine zt_iald kX12_loads_218 rfl (by decide) hv ?_
                  refine zt_iload_n kX12_loads_219 rfl ?_
                  refine zt_iadd kX12_loads_220 ?_
                  obtain ⟨hv, H⟩ := H
                  refine zt_iast kX12_loads_221 rfl (by decide) hv ?_
                  refine zt_heap (fun h2 eh2 => ?_)
                  replace H := H h2 eh2
                  refine zt_iinc (v := (x2 + (-1))) (L' := [zr 5 0, zi x1, zi (x2 + (-1)), zi y1, zi (x2 - 4)]) kX12_loads_222 rfl rfl (by decide) rfl ?_
                  refine zt_goto kX12_loads_225 ?_
                  exact zt_sub [zr 5 0, zi x1, zi (x2 + (-1)), zu, zu] ⟨rfl, ⟨rfl, ⟨rfl, trivial⟩⟩⟩ H
            · replace H := H.2 c
              refine zt_aload_n kX12_loads_165 rfl ?_
              refine zt_iload_n kX12_loads_166 rfl ?_
              refine zt_iload_n kX12_loads_167 rfl ?_
              refine zt_cV (as := [zi x1, zi x2]) kX12_loads_168 sRX12_78 rfl (by decide) rfl (by simp) rfl (sX12_isLeft _  ) (fun r h0 hq => ?_)
              obtain ⟨rfl, hh⟩ := hq
              replace hh := hh.symm
              subst hh
              refine zt_ifb_eq kX12_loads_171 (fun c => ?_) (fun c => ?_)
              · replace H := H.1 c
                refine zt_aload_n kX12_loads_190 rfl ?_
                refine zt_iload_n kX12_loads_191 rfl ?_
                obtain ⟨pp0, H⟩ := H
                refine zt_cV (as := [zi x2]) kX12_loads_192 sRX12_65 rfl (by decide) rfl (by simp) rfl (sX12_kind _  pp0) (fun r h0 hq => ?_)
                obtain ⟨rfl, hh⟩ := hq
                replace hh := hh.symm
                subst hh
                refine zt_bipush (v := 6) kX12_loads_195 rfl ?_
                refine zt_icmp_ne kX12_loads_197 (fun c => ?_) (fun c => ?_)
                · replace H := H.1 c
                  refine zt_iinc (v := (x2 + (-1))) (L' := [zr 5 0, zi x1, zi (x2 + (-1)), zi y1, zi (x2 - 4)]) kX12_loads_222 rfl rfl (by decide) rfl ?_
                  refine zt_goto kX12_loads_225 ?_
                  exact zt_sub [zr 5 0, zi x1, zi (x2 + (-1)), zu, zu] ⟨rfl, ⟨rfl, ⟨rfl, trivial⟩⟩⟩ H
                · replace H := H.2 c
                  refine zt_aload_n kX12_loads_200 rfl ?_
                  refine zt_iload_n kX12_loads_201 rfl ?_
                  refine zt_iload_n kX12_loads_202 rfl ?_
                  refine zt_cV (as := [zi x1, zi x2]) kX12_loads_203 sRX12_81 rfl (by decide) rfl (by simp) rfl (sX12_isRight _  ) (fun r h0 hq => ?_)
                  obtain ⟨rfl, hh⟩ := hq
                  replace hh := hh.symm
                  subst hh
                  refine zt_ifb_eq kX12_loads_206 (fun c => ?_) (fun c => ?_)
                  · replace H := H.1 c
                    refine zt_iinc (v := (x2 + (-1))) (L' := [zr 5 0, zi x1, zi (x2 + (-1)), zi y1, zi (x2 - 4)]) kX12_loads_222 rfl rfl (by decide) rfl ?_
                    refine zt_goto kX12_loads_225 ?_
                    exact zt_sub [zr 5 0, zi x1, zi (x2 + (-1)), zu, zu] ⟨rfl, ⟨rfl, ⟨rfl, trivial⟩⟩⟩ H
                  · replace H := H.2 c
                    refine zt_aload_n kX12_loads_209 rfl ?_
                    refine zt_get (v := zr 33 0) kX12_loads_210 fRX12_19 rfl (by decide) rfl ?_
                    refine zt_iload kX12_loads_213 rfl ?_
                    refine zt_iconst (v := 1) kX12_loads_215 rfl ?_
                    refine zt_iadd kX12_loads_216 ?_
                    refine zt_dup2 kX12_loads_217 (by intro x q; cases q) (by intro x q; cases q) ?_
                    obtain ⟨hv, H⟩ := H
                    refine zt_iald kX12_loads_218 rfl (by decide) hv ?_
                    refine zt_iload_n kX12_loads_219 rfl ?_
                    refine zt_iadd kX12_loads_220 ?_
                    obtain ⟨hv, H⟩ := H
                    refine zt_iast kX12_loads_221 rfl (by decide) hv ?_
                    refine zt_heap (fun h3 eh3 => ?_)
                    replace H := H h3 eh3
                    refine zt_iinc (v := (x2 + (-1))) (L' := [zr 5 0, zi x1, zi (x2 + (-1)), zi y1, zi (x2 - 4)]) kX12_loads_222 rfl rfl (by decide) rfl ?_
                    refine zt_goto kX12_loads_225 ?_
                    exact zt_sub [zr 5 0, zi x1, zi (x2 + (-1)), zu, zu] ⟨rfl, ⟨rfl, ⟨rfl, trivial⟩⟩⟩ H
              · replace H := H.2 c
                refine zt_aload_n kX12_loads_174 rfl ?_
                refine zt_get (v := zr 33 0) kX12_loads_175 fRX12_19 rfl (by decide) rfl ?_
                refine zt_iload kX12_loads_178 rfl ?_
                refine zt_iconst (v := 1) kX12_loads_180 rfl ?_
                refine zt_isub kX12_loads_181 ?_
                refine zt_dup2 kX12_loads_182 (by intro x q; cases q) (by intro x q; cases q) ?_
                obtain ⟨hv, H⟩ := H
                refine zt_iald kX12_loads_183 rfl (by decide) hv ?_
                refine zt_iload_n kX12_loads_184 rfl ?_
                refine zt_iadd kX12_loads_185 ?_
                obtain ⟨hv, H⟩ := H
                refine zt_iast kX12_loads_186 rfl (by decide) hv ?_
                refine zt_heap (fun h4 eh4 => ?_)
                replace H := H h4 eh4
                refine zt_goto kX12_loads_187 ?_
                refine zt_iinc (v := (x2 + (-1))) (L' := [zr 5 0, zi x1, zi (x2 + (-1)), zi y1, zi (x2 - 4)]) kX12_loads_222 rfl rfl (by decide) rfl ?_
                refine zt_goto kX12_loads_225 ?_
                exact zt_sub [zr 5 0, zi x1, zi (x2 + (-1)), zu, zu] ⟨rfl, ⟨rfl, ⟨rfl, trivial⟩⟩⟩ H
          · replace H := H.2 c
            refine zt_aload_n kX12_loads_102 rfl ?_
            refine zt_iload_n kX12_loads_103 rfl ?_
            refine zt_iload_n kX12_loads_104 rfl ?_
            refine zt_cV (as := [zi x1, zi x2]) kX12_loads_105 sRX12_78 rfl (by decide) rfl (by simp) rfl (sX12_isLeft _  ) (fun r h0 hq => ?_)
            obtain ⟨rfl, hh⟩ := hq
            replace hh := hh.symm
            subst hh
            refine zt_ifb_eq kX12_loads_108 (fun c => ?_) (fun c => ?_)
            · replace H := H.1 c
              refine zt_aload_n kX12_loads_155 rfl ?_
              refine zt_iload_n kX12_loads_156 rfl ?_
              obtain ⟨pp0, H⟩ := H
              refine zt_cV (as := [zi x2]) kX12_loads_157 sRX12_65 rfl (by decide) rfl (by simp) rfl (sX12_kind _  pp0) (fun r h0 hq => ?_)
              obtain ⟨rfl, hh⟩ := hq
              replace hh := hh.symm
              subst hh
              refine zt_bipush (v := 6) kX12_loads_160 rfl ?_
              refine zt_icmp_ne kX12_loads_162 (fun c => ?_) (fun c => ?_)
              · replace H := H.1 c
                refine zt_aload_n kX12_loads_190 rfl ?_
                refine zt_iload_n kX12_loads_191 rfl ?_
                obtain ⟨pp0, H⟩ := H
                refine zt_cV (as := [zi x2]) kX12_loads_192 sRX12_65 rfl (by decide) rfl (by simp) rfl (sX12_kind _  pp0) (fun r h0 hq => ?_)
                obtain ⟨rfl, hh⟩ := hq
                replace hh := hh.symm
                subst hh
                refine zt_bipush (v := 6) kX12_loads_195 rfl ?_
                refine zt_icmp_ne kX12_loads_197 (fun c => ?_) (fun c => ?_)
                · replace H := H.1 c
                  refine zt_iinc (v := (x2 + (-1))) (L' := [zr 5 0, zi x1, zi (x2 + (-1)), zi y1, zi (x2 - 4)]) kX12_loads_222 rfl rfl (by decide) rfl ?_
                  refine zt_goto kX12_loads_225 ?_
                  exact zt_sub [zr 5 0, zi x1, zi (x2 + (-1)), zu, zu] ⟨rfl, ⟨rfl, ⟨rfl, trivial⟩⟩⟩ H
                · replace H := H.2 c
                  refine zt_aload_n kX12_loads_200 rfl ?_
                  refine zt_iload_n kX12_loads_201 rfl ?_
                  refine zt_iload_n kX12_loads_202 rfl ?_
                  refine zt_cV (as := [zi x1, zi x2]) kX12_loads_203 sRX12_81 rfl (by decide) rfl (by simp) rfl (sX12_isRight _  ) (fun r h0 hq => ?_)
                  obtain ⟨rfl, hh⟩ := hq
                  replace hh := hh.symm
                  subst hh
                  refine zt_ifb_eq kX12_loads_206 (fun c => ?_) (fun c => ?_)
                  · replace H := H.1 c
                    refine zt_iinc (v := (x2 + (-1))) (L' := [zr 5 0, zi x1, zi (x2 + (-1)), zi y1, zi (x2 - 4)]) kX12_loads_222 rfl rfl (by decide) rfl ?_
                    refine zt_goto kX12_loads_225 ?_
                    exact zt_sub [zr 5 0, zi x1, zi (x2 + (-1)), zu, zu] ⟨rfl, ⟨rfl, ⟨rfl, trivial⟩⟩⟩ H
                  · replace H := H.2 c
                    refine zt_aload_n kX12_loads_209 rfl ?_
                    refine zt_get (v := zr 33 0) kX12_loads_210 fRX12_19 rfl (by decide) rfl ?_
                    refine zt_iload kX12_loads_213 rfl ?_
                    refine zt_iconst (v := 1) kX12_loads_215 rfl ?_
                    refine zt_iadd kX12_loads_216 ?_
                    refine zt_dup2 kX12_loads_217 (by intro x q; cases q) (by intro x q; cases q) ?_
                    obtain ⟨hv, H⟩ := H
                    refine zt_iald kX12_loads_218 rfl (by decide) hv ?_
                    refine zt_iload_n kX12_loads_219 rfl ?_
                    refine zt_iadd kX12_loads_220 ?_
                    obtain ⟨hv, H⟩ := H
                    refine zt_iast kX12_loads_221 rfl (by decide) hv ?_
                    refine zt_heap (fun h5 eh5 => ?_)
                    replace H := H h5 eh5
                    refine zt_iinc (v := (x2 + (-1))) (L' := [zr 5 0, zi x1, zi (x2 + (-1)), zi y1, zi (x2 - 4)]) kX12_loads_222 rfl rfl (by decide) rfl ?_
                    refine zt_goto kX12_loads_225 ?_
                    exact zt_sub [zr 5 0, zi x1, zi (x2 + (-1)), zu, zu] ⟨rfl, ⟨rfl, ⟨rfl, trivial⟩⟩⟩ H
              · replace H := H.2 c
                refine zt_aload_n kX12_loads_165 rfl ?_
                refine zt_iload_n kX12_loads_166 rfl ?_
                refine zt_iload_n kX12_loads_167 rfl ?_
                refine zt_cV (as := [zi x1, zi x2]) kX12_loads_168 sRX12_78 rfl (by decide) rfl (by simp) rfl (sX12_isLeft _  ) (fun r h0 hq => ?_)
                obtain ⟨rfl, hh⟩ := hq
                replace hh := hh.symm
                subst hh
                refine zt_ifb_eq kX12_loads_171 (fun c => ?_) (fun c => ?_)
                · replace H := H.1 c
                  refine zt_aload_n kX12_loads_190 rfl ?_
                  refine zt_iload_n kX12_loads_191 rfl ?_
                  obtain ⟨pp0, H⟩ := H
                  refine zt_cV (as := [zi x2]) kX12_loads_192 sRX12_65 rfl (by decide) rfl (by simp) rfl (sX12_kind _  pp0) (fun r h0 hq => ?_)
                  obtain ⟨rfl, hh⟩ := hq
                  replace hh := hh.symm
                  subst hh
                  refine zt_bipush (v := 6) kX12_loads_195 rfl ?_
                  refine zt_icmp_ne kX12_loads_197 (fun c => ?_) (fun c => ?_)
                  · replace H := H.1 c
                    refine zt_iinc (v := (x2 + (-1))) (L' := [zr 5 0, zi x1, zi (x2 + (-1)), zi y1, zi (x2 - 4)]) kX12_loads_222 rfl rfl (by decide) rfl ?_
                    refine zt_goto kX12_loads_225 ?_
                    exact zt_sub [zr 5 0, zi x1, zi (x2 + (-1)), zu, zu] ⟨rfl, ⟨rfl, ⟨rfl, trivial⟩⟩⟩ H
                  · replace H := H.2 c
                    refine zt_aload_n kX12_loads_200 rfl ?_
                    refine zt_iload_n kX12_loads_201 rfl ?_
                    refine zt_iload_n kX12_loads_202 rfl ?_
                    refine zt_cV (as := [zi x1, zi x2]) kX12_loads_203 sRX12_81 rfl (by decide) rfl (by simp) rfl (sX12_isRight _  ) (fun r h0 hq => ?_)
                    obtain ⟨rfl, hh⟩ := hq
                    replace hh := hh.symm
                    subst hh
                    refine zt_ifb_eq kX12_loads_206 (fun c => ?_) (fun c => ?_)
                    · replace H := H.1 c
                      refine zt_iinc (v := (x2 + (-1))) (L' := [zr 5 0, zi x1, zi (x2 + (-1)), zi y1, zi (x2 - 4)]) kX12_loads_222 rfl rfl (by decide) rfl ?_
                      refine zt_goto kX12_loads_225 ?_
                      exact zt_sub [zr 5 0, zi x1, zi (x2 + (-1)), zu, zu] ⟨rfl, ⟨rfl, ⟨rfl, trivial⟩⟩⟩ H
                    · replace H := H.2 c
                      refine zt_aload_n kX12_loads_209 rfl ?_
                      refine zt_get (v := zr 33 0) kX12_loads_210 fRX12_19 rfl (by decide) rfl ?_
                      refine zt_iload kX12_loads_213 rfl ?_
                      refine zt_iconst (v := 1) kX12_loads_215 rfl ?_
                      refine zt_iadd kX12_loads_216 ?_
                      refine zt_dup2 kX12_loads_217 (by intro x q; cases q) (by intro x q; cases q) ?_
                      obtain ⟨hv, H⟩ := H
                      refine zt_iald kX12_loads_218 rfl (by decide) hv ?_
                      refine zt_iload_n kX12_loads_219 rfl ?_
                      refine zt_iadd kX12_loads_220 ?_
                      obtain ⟨hv, H⟩ := H
                      refine zt_iast kX12_loads_221 rfl (by decide) hv ?_
                      refine zt_heap (fun h6 eh6 => ?_)
                      replace H := H h6 eh6
                      refine zt_iinc (v := (x2 + (-1))) (L' := [zr 5 0, zi x1, zi (x2 + (-1)), zi y1, zi (x2 - 4)]) kX12_loads_222 rfl rfl (by decide) rfl ?_
                      refine zt_goto kX12_loads_225 ?_
                      exact zt_sub [zr 5 0, zi x1, zi (x2 + (-1)), zu, zu] ⟨rfl, ⟨rfl, ⟨rfl, trivial⟩⟩⟩ H
                · replace H := H.2 c
                  refine zt_aload_n kX12_loads_174 rfl ?_
                  refine zt_get (v := zr 33 0) kX12_loads_175 fRX12_19 rfl (by decide) rfl ?_
                  refine zt_iload kX12_loads_178 rfl ?_
                  refine zt_iconst (v := 1) kX12_loads_180 rfl ?_
                  refine zt_isub kX12_loads_181 ?_
                  refine zt_dup2 kX12_loads_182 (by intro x q; cases q) (by intro x q; cases q) ?_
                  obtain ⟨hv, H⟩ := H
                  refine zt_iald kX12_loads_183 rfl (by decide) hv ?_
                  refine zt_iload_n kX12_loads_184 rfl ?_
                  refine zt_iadd kX12_loads_185 ?_
                  obtain ⟨hv, H⟩ := H
                  refine zt_iast kX12_loads_186 rfl (by decide) hv ?_
                  refine zt_heap (fun h7 eh7 => ?_)
                  replace H := H h7 eh7
                  refine zt_goto kX12_loads_187 ?_
                  refine zt_iinc (v := (x2 + (-1))) (L' := [zr 5 0, zi x1, zi (x2 + (-1)), zi y1, zi (x2 - 4)]) kX12_loads_222 rfl rfl (by decide) rfl ?_
                  refine zt_goto kX12_loads_225 ?_
                  exact zt_sub [zr 5 0, zi x1, zi (x2 + (-1)), zu, zu] ⟨rfl, ⟨rfl, ⟨rfl, trivial⟩⟩⟩ H
            · replace H := H.2 c
              refine zt_aload_n kX12_loads_111 rfl ?_
              refine zt_iload_n kX12_loads_112 rfl ?_
              refine zt_iload_n kX12_loads_113 rfl ?_
              refine zt_cV (as := [zi x1, zi x2]) kX12_loads_114 sRX12_81 rfl (by decide) rfl (by simp) rfl (sX12_isRight _  ) (fun r h0 hq => ?_)
              obtain ⟨rfl, hh⟩ := hq
              replace hh := hh.symm
              subst hh
              refine zt_ifb_eq kX12_loads_117 (fun c => ?_) (fun c => ?_)
              · replace H := H.1 c
                refine zt_aload_n kX12_loads_155 rfl ?_
                refine zt_iload_n kX12_loads_156 rfl ?_
                obtain ⟨pp0, H⟩ := H
                refine zt_cV (as := [zi x2]) kX12_loads_157 sRX12_65 rfl (by decide) rfl (by simp) rfl (sX12_kind _  pp0) (fun r h0 hq => ?_)
                obtain ⟨rfl, hh⟩ := hq
                replace hh := hh.symm
                subst hh
                refine zt_bipush (v := 6) kX12_loads_160 rfl ?_
                refine zt_icmp_ne kX12_loads_162 (fun c => ?_) (fun c => ?_)
                · replace H := H.1 c
                  refine zt_aload_n kX12_loads_190 rfl ?_
                  refine zt_iload_n kX12_loads_191 rfl ?_
                  obtain ⟨pp0, H⟩ := H
                  refine zt_cV (as := [zi x2]) kX12_loads_192 sRX12_65 rfl (by decide) rfl (by simp) rfl (sX12_kind _  pp0) (fun r h0 hq => ?_)
                  obtain ⟨rfl, hh⟩ := hq
                  replace hh := hh.symm
                  subst hh
                  refine zt_bipush (v := 6) kX12_loads_195 rfl ?_
                  refine zt_icmp_ne kX12_loads_197 (fun c => ?_) (fun c => ?_)
                  · replace H := H.1 c
                    refine zt_iinc (v := (x2 + (-1))) (L' := [zr 5 0, zi x1, zi (x2 + (-1)), zi y1, zi (x2 - 4)]) kX12_loads_222 rfl rfl (by decide) rfl ?_
                    refine zt_goto kX12_loads_225 ?_
                    exact zt_sub [zr 5 0, zi x1, zi (x2 + (-1)), zu, zu] ⟨rfl, ⟨rfl, ⟨rfl, trivial⟩⟩⟩ H
                  · replace H := H.2 c
                    refine zt_aload_n kX12_loads_200 rfl ?_
                    refine zt_iload_n kX12_loads_201 rfl ?_
                    refine zt_iload_n kX12_loads_202 rfl ?_
                    refine zt_cV (as := [zi x1, zi x2]) kX12_loads_203 sRX12_81 rfl (by decide) rfl (by simp) rfl (sX12_isRight _  ) (fun r h0 hq => ?_)
                    obtain ⟨rfl, hh⟩ := hq
                    replace hh := hh.symm
                    subst hh
                    refine zt_ifb_eq kX12_loads_206 (fun c => ?_) (fun c => ?_)
                    · replace H := H.1 c
                      refine zt_iinc (v := (x2 + (-1))) (L' := [zr 5 0, zi x1, zi (x2 + (-1)), zi y1, zi (x2 - 4)]) kX12_loads_222 rfl rfl (by decide) rfl ?_
                      refine zt_goto kX12_loads_225 ?_
                      exact zt_sub [zr 5 0, zi x1, zi (x2 + (-1)), zu, zu] ⟨rfl, ⟨rfl, ⟨rfl, trivial⟩⟩⟩ H
                    · replace H := H.2 c
                      refine zt_aload_n kX12_loads_209 rfl ?_
                      refine zt_get (v := zr 33 0) kX12_loads_210 fRX12_19 rfl (by decide) rfl ?_
                      refine zt_iload kX12_loads_213 rfl ?_
                      refine zt_iconst (v := 1) kX12_loads_215 rfl ?_
                      refine zt_iadd kX12_loads_216 ?_
                      refine zt_dup2 kX12_loads_217 (by intro x q; cases q) (by intro x q; cases q) ?_
                      obtain ⟨hv, H⟩ := H
                      refine zt_iald kX12_loads_218 rfl (by decide) hv ?_
                      refine zt_iload_n kX12_loads_219 rfl ?_
                      refine zt_iadd kX12_loads_220 ?_
                      obtain ⟨hv, H⟩ := H
                      refine zt_iast kX12_loads_221 rfl (by decide) hv ?_
                      refine zt_heap (fun h8 eh8 => ?_)
                      replace H := H h8 eh8
                      refine zt_iinc (v := (x2 + (-1))) (L' := [zr 5 0, zi x1, zi (x2 + (-1)), zi y1, zi (x2 - 4)]) kX12_loads_222 rfl rfl (by decide) rfl ?_
                      refine zt_goto kX12_loads_225 ?_
                      exact zt_sub [zr 5 0, zi x1, zi (x2 + (-1)), zu, zu] ⟨rfl, ⟨rfl, ⟨rfl, trivial⟩⟩⟩ H
                · replace H := H.2 c
                  refine zt_aload_n kX12_loads_165 rfl ?_
                  refine zt_iload_n kX12_loads_166 rfl ?_
                  refine zt_iload_n kX12_loads_167 rfl ?_
                  refine zt_cV (as := [zi x1, zi x2]) kX12_loads_168 sRX12_78 rfl (by decide) rfl (by simp) rfl (sX12_isLeft _  ) (fun r h0 hq => ?_)
                  obtain ⟨rfl, hh⟩ := hq
                  replace hh := hh.symm
                  subst hh
                  refine zt_ifb_eq kX12_loads_171 (fun c => ?_) (fun c => ?_)
                  · replace H := H.1 c
                    refine zt_aload_n kX12_loads_190 rfl ?_
                    refine zt_iload_n kX12_loads_191 rfl ?_
                    obtain ⟨pp0, H⟩ := H
                    refine zt_cV (as := [zi x2]) kX12_loads_192 sRX12_65 rfl (by decide) rfl (by simp) rfl (sX12_kind _  pp0) (fun r h0 hq => ?_)
                    obtain ⟨rfl, hh⟩ := hq
                    replace hh := hh.symm
                    subst hh
                    refine zt_bipush (v := 6) kX12_loads_195 rfl ?_
                    refine zt_icmp_ne kX12_loads_197 (fun c => ?_) (fun c => ?_)
                    · replace H := H.1 c
                      refine zt_iinc (v := (x2 + (-1))) (L' := [zr 5 0, zi x1, zi (x2 + (-1)), zi y1, zi (x2 - 4)]) kX12_loads_222 rfl rfl (by decide) rfl ?_
                      refine zt_goto kX12_loads_225 ?_
                      exact zt_sub [zr 5 0, zi x1, zi (x2 + (-1)), zu, zu] ⟨rfl, ⟨rfl, ⟨rfl, trivial⟩⟩⟩ H
                    · replace H := H.2 c
                      refine zt_aload_n kX12_loads_200 rfl ?_
                      refine zt_iload_n kX12_loads_201 rfl ?_
                      refine zt_iload_n kX12_loads_202 rfl ?_
                      refine zt_cV (as := [zi x1, zi x2]) kX12_loads_203 sRX12_81 rfl (by decide) rfl (by simp) rfl (sX12_isRight _  ) (fun r h0 hq => ?_)
                      obtain ⟨rfl, hh⟩ := hq
                      replace hh := hh.symm
                      subst hh
                      refine zt_ifb_eq kX12_loads_206 (fun c => ?_) (fun c => ?_)
                      · replace H := H.1 c
                        refine zt_iinc (v := (x2 + (-1))) (L' := [zr 5 0, zi x1, zi (x2 + (-1)), zi y1, zi (x2 - 4)]) kX12_loads_222 rfl rfl (by decide) rfl ?_
                        refine zt_goto kX12_loads_225 ?_
                        exact zt_sub [zr 5 0, zi x1, zi (x2 + (-1)), zu, zu] ⟨rfl, ⟨rfl, ⟨rfl, trivial⟩⟩⟩ H
                      · replace H := H.2 c
                        refine zt_aload_n kX12_loads_209 rfl ?_
                        refine zt_get (v := zr 33 0) kX12_loads_210 fRX12_19 rfl (by decide) rfl ?_
                        refine zt_iload kX12_loads_213 rfl ?_
                        refine zt_iconst (v := 1) kX12_loads_215 rfl ?_
                        refine zt_iadd kX12_loads_216 ?_
                        refine zt_dup2 kX12_loads_217 (by intro x q; cases q) (by intro x q; cases q) ?_
                        obtain ⟨hv, H⟩ := H
                        refine zt_iald kX12_loads_218 rfl (by decide) hv ?_
                        refine zt_iload_n kX12_loads_219 rfl ?_
                        refine zt_iadd kX12_loads_220 ?_
                        obtain ⟨hv, H⟩ := H
                        refine zt_iast kX12_loads_221 rfl (by decide) hv ?_
                        refine zt_heap (fun h9 eh9 => ?_)
                        replace H := H h9 eh9
                        refine zt_iinc (v := (x2 + (-1))) (L' := [zr 5 0, zi x1, zi (x2 + (-1)), zi y1, zi (x2 - 4)]) kX12_loads_222 rfl rfl (by decide) rfl ?_
                        refine zt_goto kX12_loads_225 ?_
                        exact zt_sub [zr 5 0, zi x1, zi (x2 + (-1)), zu, zu] ⟨rfl, ⟨rfl, ⟨rfl, trivial⟩⟩⟩ H
                  · replace H := H.2 c
                    refine zt_aload_n kX12_loads_174 rfl ?_
                    refine zt_get (v := zr 33 0) kX12_loads_175 fRX12_19 rfl (by decide) rfl ?_
                    refine zt_iload kX12_loads_178 rfl ?_
                    refine zt_iconst (v := 1) kX12_loads_180 rfl ?_
                    refine zt_isub kX12_loads_181 ?_
                    refine zt_dup2 kX12_loads_182 (by intro x q; cases q) (by intro x q; cases q) ?_
                    obtain ⟨hv, H⟩ := H
                    refine zt_iald kX12_loads_183 rfl (by decide) hv ?_
                    refine zt_iload_n kX12_loads_184 rfl ?_
                    refine zt_iadd kX12_loads_185 ?_
                    obtain ⟨hv, H⟩ := H
                    refine zt_iast kX12_loads_186 rfl (by decide) hv ?_
                    refine zt_heap (fun h10 eh10 => ?_)
                    replace H := H h10 eh10
                    refine zt_goto kX12_loads_187 ?_
                    refine zt_iinc (v := (x2 + (-1))) (L' := [zr 5 0, zi x1, zi (x2 + (-1)), zi y1, zi (x2 - 4)]) kX12_loads_222 rfl rfl (by decide) rfl ?_
                    refine zt_goto kX12_loads_225 ?_
                    exact zt_sub [zr 5 0, zi x1, zi (x2 + (-1)), zu, zu] ⟨rfl, ⟨rfl, ⟨rfl, trivial⟩⟩⟩ H
              · replace H := H.2 c
                refine zt_aload_n kX12_loads_120 rfl ?_
                refine zt_get (v := zr 33 0) kX12_loads_121 fRX12_19 rfl (by decide) rfl ?_
                refine zt_iload kX12_loads_124 rfl ?_
                refine zt_iconst (v := 1) kX12_loads_126 rfl ?_
                refine zt_isub kX12_loads_127 ?_
                refine zt_dup2 kX12_loads_128 (by intro x q; cases q) (by intro x q; cases q) ?_
                obtain ⟨hv, H⟩ := H
                refine zt_iald kX12_loads_129 rfl (by decide) hv ?_
                refine zt_iload_n kX12_loads_130 rfl ?_
                refine zt_iconst (v := 2) kX12_loads_131 rfl ?_
                refine zt_idiv kX12_loads_132 (by decide) ?_
                refine zt_iadd kX12_loads_133 ?_
                obtain ⟨hv, H⟩ := H
                refine zt_iast kX12_loads_134 rfl (by decide) hv ?_
                refine zt_heap (fun h11 eh11 => ?_)
                replace H := H h11 eh11
                refine zt_aload_n kX12_loads_135 rfl ?_
                refine zt_get (v := zr 33 0) kX12_loads_136 fRX12_19 rfl (by decide) rfl ?_
                refine zt_iload kX12_loads_139 rfl ?_
                refine zt_iconst (v := 1) kX12_loads_141 rfl ?_
                refine zt_iadd kX12_loads_142 ?_
                refine zt_dup2 kX12_loads_143 (by intro x q; cases q) (by intro x q; cases q) ?_
                obtain ⟨hv, H⟩ := H
                refine zt_iald kX12_loads_144 rfl (by decide) hv ?_
                refine zt_iload_n kX12_loads_145 rfl ?_
                refine zt_iload_n kX12_loads_146 rfl ?_
                refine zt_iconst (v := 2) kX12_loads_147 rfl ?_
                refine zt_idiv kX12_loads_148 (by decide) ?_
                refine zt_isub kX12_loads_149 ?_
                refine zt_iadd kX12_loads_150 ?_
                obtain ⟨hv, H⟩ := H
                refine zt_iast kX12_loads_151 rfl (by decide) hv ?_
                refine zt_heap (fun h12 eh12 => ?_)
                replace H := H h12 eh12
                refine zt_goto kX12_loads_152 ?_
                refine zt_iinc (v := (x2 + (-1))) (L' := [zr 5 0, zi x1, zi (x2 + (-1)), zi y1, zi (x2 - 4)]) kX12_loads_222 rfl rfl (by decide) rfl ?_
                refine zt_goto kX12_loads_225 ?_
                exact zt_sub [zr 5 0, zi x1, zi (x2 + (-1)), zu, zu] ⟨rfl, ⟨rfl, ⟨rfl, trivial⟩⟩⟩ H
        · replace H := H.2 c
          refine zt_aload_n kX12_loads_80 rfl ?_
          refine zt_get (v := zr 33 0) kX12_loads_81 fRX12_19 rfl (by decide) rfl ?_
          refine zt_iload kX12_loads_84 rfl ?_
          refine zt_dup2 kX12_loads_86 (by intro x q; cases q) (by intro x q; cases q) ?_
          obtain ⟨hv, H⟩ := H
          refine zt_iald kX12_loads_87 rfl (by decide) hv ?_
          refine zt_iload_n kX12_loads_88 rfl ?_
          refine zt_iadd kX12_loads_89 ?_
          obtain ⟨hv, H⟩ := H
          refine zt_iast kX12_loads_90 rfl (by decide) hv ?_
          refine zt_heap (fun h13 eh13 => ?_)
          replace H := H h13 eh13
          refine zt_goto kX12_loads_91 ?_
          refine zt_iinc (v := (x2 + (-1))) (L' := [zr 5 0, zi x1, zi (x2 + (-1)), zi y1, zi (x2 - 4)]) kX12_loads_222 rfl rfl (by decide) rfl ?_
          refine zt_goto kX12_loads_225 ?_
          exact zt_sub [zr 5 0, zi x1, zi (x2 + (-1)), zu, zu] ⟨rfl, ⟨rfl, ⟨rfl, trivial⟩⟩⟩ H
      · replace H := H.2 c
        refine zt_goto kX12_loads_50 ?_
        refine zt_iinc (v := (x2 + (-1))) (L' := [zr 5 0, zi x1, zi (x2 + (-1)), zu, zu]) kX12_loads_222 rfl rfl (by decide) rfl ?_
        refine zt_goto kX12_loads_225 ?_
        exact H
end
section
/-! ===== the model: held, loads ===== -/
theorem sX12_isHeld {G : ZG} (d : Nat) {h : ZH} {x1 x2 : Int32} (hp0 : vp_in x2 12) : zC G (d + 4) mX12_isHeld [zr 5 0, zi x1, zi x2] h (fun r h' => r = some (zi (zb (heldI h x1 x2))) ∧ h' = h) := by
  refine zC_of (by decide +kernel) (Nat.le_of_ble_eq_true rfl) (L := [zr 5 0, zi x1, zi x2]) ⟨rfl, ⟨rfl, ⟨rfl, trivial⟩⟩⟩ ?_
  refine wX12_isHeld_0 ?_
  refine br_c (fun c => ⟨by rw [zb_t (Or.inl (Or.inl c))], rfl⟩) (fun c => br_c (fun c2 => ⟨by rw [zb_t (Or.inl (Or.inr (Or.inl c2)))], rfl⟩) (fun c2 => ⟨fun c3 => ⟨hp0, ?_, ?_⟩, fun c3 => ⟨by rw [zb_t (Or.inl (Or.inr (Or.inr c3)))], rfl⟩⟩))
  · intro ca
    refine ⟨hp0, ?_, ?_⟩
    · intro c6
      refine ⟨hp0, fun cl => ⟨?_, rfl⟩, fun cl => ⟨hp0, fun cg => ⟨?_, rfl⟩, fun cg => ⟨?_, rfl⟩⟩⟩
      · rw [zb_f]
        rintro (q | q)
        · rcases q with q | q | q
          · exact c q
          · exact c2 q
          · exact c3 q
        · rw [if_neg ca, if_neg c6] at q
          exact cl q.1
      · rw [zb_f]
        rintro (q | q)
        · rcases q with q | q | q
          · exact c q
          · exact c2 q
          · exact c3 q
        · rw [if_neg ca, if_neg c6] at q
          exact cg q.2
      · rw [zb_t]
        refine Or.inr ?_
        rw [if_neg ca, if_neg c6]
        exact ⟨cl, cg⟩
    · intro c6
      refine br_c (fun cl => ⟨?_, rfl⟩) (fun cl => ⟨fun cr => ⟨?_, rfl⟩, fun cr => ⟨?_, rfl⟩⟩)
      · rw [zb_t]
        refine Or.inr ?_
        rw [if_neg ca, if_pos c6]
        exact Or.inl cl
      · rw [zb_f]
        rintro (q | q)
        · rcases q with q | q | q
          · exact c q
          · exact c2 q
          · exact c3 q
        · rw [if_neg ca, if_pos c6] at q
          exact q.elim cl cr
      · rw [zb_t]
        refine Or.inr ?_
        rw [if_neg ca, if_pos c6]
        exact Or.inr cr
  · intro ca
    refine ⟨fun cl => ⟨?_, rfl⟩, fun cl => ⟨fun cr => ⟨?_, rfl⟩, fun cr => ⟨?_, rfl⟩⟩⟩
    · rw [zb_f]
      rintro (q | q)
      · rcases q with q | q | q
        · exact c q
        · exact c2 q
        · exact c3 q
      · rw [if_pos ca] at q
        exact cl q.1
    · rw [zb_f]
      rintro (q | q)
      · rcases q with q | q | q
        · exact c q
        · exact c2 q
        · exact c3 q
      · rw [if_pos ca] at q
        exact cr q.2
    · rw [zb_t]
      refine Or.inr ?_
      rw [if_pos ca]
      exact ⟨cl, cr⟩
/-! the ints of places -/
theorem zx_m4 {n : Nat} (h4 : 4 ≤ n) (hn : n < 12) : nI n - 4 = nI (n - 4) := by
  have : ∀ n, n < 12 → 4 ≤ n → nI n - 4 = nI (n - 4) := by decide
  exact this n hn h4
theorem zx_m5 {n : Nat} (h4 : 5 ≤ n) (hn : n < 12) : nI n - 4 - 1 = nI (n - 5) := by
  have : ∀ n, n < 12 → 5 ≤ n → nI n - 4 - 1 = nI (n - 5) := by decide
  exact this n hn h4
theorem zx_m3 {n : Nat} (h4 : 4 ≤ n) (hn : n < 12) : nI n - 4 + 1 = nI (n - 3) := by
  have : ∀ n, n < 12 → 4 ≤ n → nI n - 4 + 1 = nI (n - 3) := by decide
  exact this n hn h4
theorem zx_m1 (n : Nat) : nI (n + 1) + (-1) = nI n := by
  have := nI_pred n
  rw [← this, Int32.sub_eq_add_neg]
theorem zx_lt4 {n : Nat} (hn : n < 12) : nI n < 4 ↔ n < 4 := nI_ltI (by omega) (by decide)
theorem leftI_iff {S n : Nat} (hS : S < 4096) (h4 : 4 ≤ n) (hn : n < 12) : leftI (nI S) (nI n) ↔ zlf S n = true := by
  have key : ∀ n, n < 12 → 4 ≤ n → (n % 4 = 0 ∧ ¬ (0 ≤ modI (nI n) - 1)) ∨ (n % 4 ≠ 0 ∧ (0 ≤ modI (nI n) - 1 ∧ modI (nI n) - 1 ≤ 3) ∧ 4 * (divI (nI n) - 1) + (modI (nI n) - 1) = nI (n - 5)) := by decide
  unfold zlf
  rcases key n hn h4 with ⟨q1, q2⟩ | ⟨q1, q2, q3⟩
  · constructor
    · intro z; exact absurd z.1.1 q2
    · intro z; simp [q1] at z
  · unfold leftI atI
    rw [q3, hasI_iff hS (by omega)]
    simp [q1, q2]
theorem rightI_iff {S n : Nat} (hS : S < 4096) (h4 : 4 ≤ n) (hn : n < 12) : rightI (nI S) (nI n) ↔ zrt S n = true := by
  have key : ∀ n, n < 12 → 4 ≤ n → (n % 4 = 3 ∧ ¬ (modI (nI n) + 1 ≤ 3)) ∨ (n % 4 ≠ 3 ∧ (0 ≤ modI (nI n) + 1 ∧ modI (nI n) + 1 ≤ 3) ∧ 4 * (divI (nI n) - 1) + (modI (nI n) + 1) = nI (n - 3)) := by decide
  unfold zrt
  rcases key n hn h4 with ⟨q1, q2⟩ | ⟨q1, q2, q3⟩
  · constructor
    · intro z; exact absurd z.1.2 q2
    · intro z; simp [q1] at z
  · unfold rightI atI
    rw [q3, hasI_iff hS (by omega)]
    simp [q1, q2]
def mnrI (k : Int32) : Int32 := if archK k then 1 else if k = 6 then 2 else if lightK k then 3 else 0
theorem mnr_arch {k : Int32} : mnrI k = 1 ↔ archK k := by
  unfold mnrI
  by_cases h : archK k
  · rw [if_pos h]; simp [h]
  · rw [if_neg h]
    split
    · simp [h]
    · split <;> simp [h]
theorem mnr_beam {k : Int32} : mnrI k = 2 ↔ k = 6 := by
  unfold mnrI archK lightK
  by_cases h : k = 2 ∨ k = 4
  · rw [if_pos h]
    rcases h with rfl | rfl <;> decide
  · rw [if_neg h]
    split
    · simp [*]
    · split <;> simp [*]
theorem mnr_light {k : Int32} : mnrI k = 3 ↔ lightK k := by
  unfold mnrI archK lightK
  by_cases h : k = 2 ∨ k = 4
  · rw [if_pos h]
    rcases h with rfl | rfl <;> decide
  · rw [if_neg h]
    split
    · rename_i q; subst q; decide
    · split <;> simp [*]
/-- the model's numbers -/
def cfgK (kd fg : Nat → Int32) (P : Nat) : ZQ5 := (fun p => wgtI (kd p) (fg p), fun p => brsI (kd p) (fg p), fun p => mnrI (kd p), zmk (fun p => decide (mnrI (kd p) ≠ 3)) 12, P)
def cfgH (h : ZH) (P : Nat) : ZQ5 := cfgK (fun p => kindI h (nI p)) (fun p => figI h (nI p)) P
theorem clingI_iff {h : ZH} {S P n : Nat} (hS : S < 4096) (hn : n < 12) : clingI h (nI S) (nI n) ↔ zcl (cfgH h P) S n = true := by
  have keyl : ∀ n, n < 12 → (n % 4 = 0 ∧ ¬ (0 ≤ modI (nI n) - 1)) ∨ (n % 4 ≠ 0 ∧ (0 ≤ modI (nI n) - 1 ∧ modI (nI n) - 1 ≤ 3) ∧ 4 * divI (nI n) + (modI (nI n) - 1) = nI (n - 1) ∧ nI n - 1 = nI (n - 1)) := by decide
  have keyr : ∀ n, n < 12 → (n % 4 = 3 ∧ ¬ (modI (nI n) + 1 ≤ 3)) ∨ (n % 4 ≠ 3 ∧ n + 1 < 12 ∧ (0 ≤ modI (nI n) + 1 ∧ modI (nI n) + 1 ≤ 3) ∧ 4 * divI (nI n) + (modI (nI n) + 1) = nI (n + 1) ∧ nI n + 1 = nI (n + 1)) := by decide
  have fm : ∀ q, q < 12 → ((cF (cfgH h P)).testBit q = true ↔ ¬ lightK (kindI h (nI q))) := by
    intro q hq
    show (zmk (fun p => decide (mnrI (kindI h (nI p)) ≠ 3)) 12).testBit q = true ↔ _
    rw [zms_bit _ hq, decide_eq_true_eq, Ne, mnr_light]
  have L : (atI (nI S) (divI (nI n)) (modI (nI n) - 1) ∧ ¬ lightK (kindI h (nI n - 1))) ↔ (decide (n % 4 ≠ 0) && (S.testBit (n - 1) && (cF (cfgH h P)).testBit (n - 1))) = true := by
    rcases keyl n hn with ⟨q1, q2⟩ | ⟨q1, q2, q3, q4⟩
    · constructor
      · intro z; exact absurd z.1.1.1 q2
      · intro z; simp [q1] at z
    · unfold atI
      rw [q3, q4, hasI_iff hS (by omega), ← fm (n - 1) (by omega)]
      simp [q1, q2]
  have R : (atI (nI S) (divI (nI n)) (modI (nI n) + 1) ∧ ¬ lightK (kindI h (nI n + 1))) ↔ (decide (n % 4 ≠ 3) && (S.testBit (n + 1) && (cF (cfgH h P)).testBit (n + 1))) = true := by
    rcases keyr n hn with ⟨q1, q2⟩ | ⟨q1, q0, q2, q3, q4⟩
    · constructor
      · intro z; exact absurd z.1.1.2 q2
      · intro z; simp [q1] at z
    · unfold atI
      rw [q3, q4, hasI_iff hS (by omega), ← fm (n + 1) (by omega)]
      simp [q1, q2]
  unfold clingI zcl
  rw [Bool.or_eq_true, L, R]
theorem heldI_iff {h : ZH} {S P n : Nat} (hS : S < 4096) (hP : P < 4096) (hPh : h.1 30 0 1 = nI P) (hn : n < 12) : heldI h (nI S) (nI n) ↔ zhd (cfgH h P) S n = true := by
  unfold heldI
  rw [hPh]
  by_cases h4 : n < 4
  · have : zhd (cfgH h P) S n = true := by unfold zhd; simp [h4]
    simp only [this, iff_true]
    exact Or.inl (Or.inl ((zx_lt4 hn).mpr h4))
  · have hm : cM (cfgH h P) n = mnrI (kindI h (nI n)) := rfl
    have hp : cP (cfgH h P) = P := rfl
    rw [zx_m4 (by omega) hn, hasI_iff hP (by omega), hasI_iff hS (by omega), leftI_iff hS (by omega) hn, rightI_iff hS (by omega) hn, clingI_iff (P := P) hS hn]
    unfold zhd
    rw [hm, hp]
    simp only [mnr_arch, mnr_beam, mnr_light]
    have e4 : ¬ nI n < 4 := fun q => h4 ((zx_lt4 hn).mp q)
    simp only [e4, h4, false_or, decide_false, Bool.false_or, Bool.or_eq_true]
    unfold zbl
    rw [or_assoc, or_assoc]
    refine or_congr Iff.rfl (or_congr Iff.rfl ?_)
    by_cases a : archK (kindI h (nI n))
    · rw [if_pos a, if_pos a, Bool.and_eq_true]
    · rw [if_neg a, if_neg a]
      by_cases b : kindI h (nI n) = 6
      · rw [if_pos b, if_pos b, Bool.or_eq_true]
      · rw [if_neg b, if_neg b]
        by_cases l : lightK (kindI h (nI n))
        · rw [if_pos l]; simp [l]
        · rw [if_neg l]; simp [l]
end
section
/-! ===== the model's loads ===== -/
theorem kindI_33 (h : ZH) (f : Nat → Int32) (x : Int32) : kindI (zsR h 33 0 f) x = kindI h x := rfl
theorem figI_33 (h : ZH) (f : Nat → Int32) (x : Int32) : figI (zsR h 33 0 f) x = figI h x := rfl
theorem vpn {n N : Nat} (h : n < N) (hN : N ≤ 4096) : vp_in (nI n) N := vp_in_nI h (by omega)
set_option maxHeartbeats 2000000 in
theorem sX12_loads {G : ZG} (d : Nat) {h : ZH} {S P : Nat} (hS : S < 4096) (hP : P < 4096) (hPh : h.1 30 0 1 = nI P) : zC G (d + 4) mX12_loads [zr 5 0, zi (nI S)] h (fun r h' => r = none ∧ h' = zsR h 33 0 (zld (cfgH h P) S 12 (zfl (h.1 33 0) 0 12))) := by
  refine zC_of (by decide +kernel) (Nat.le_of_ble_eq_true rfl) (L := [zr 5 0, zi (nI S), zu, zu, zu]) ⟨rfl, ⟨rfl, trivial⟩⟩ ?_
  refine wX12_loads_0 ?_
  have key2 : ∀ (n : Nat), 4 ≤ n → n ≤ 12 → ∀ ld : Nat → Int32, zT G (d + 4) mX12_loads 24 [zr 5 0, zi (nI S), zi (nI n + (-1)), zu, zu] [] (zsR h 33 0 ld) (fun r h' => r = none ∧ h' = zsR h 33 0 (zld (cfgH h P) S n ld)) := by
    intro n
    induction n with
    | zero => intro h4; omega
    | succ p ih =>
      intro h4 hn ld
      rw [zx_m1]
      refine wX12_loads_24 ?_
      by_cases hp4 : p < 4
      · refine br_t ((zx_lt4 (by omega)).mpr hp4) ⟨rfl, ?_⟩
        have e : p = 3 := by omega
        subst e
        have z : ∀ q, q < 4 → ∀ le : Nat → Int32, zl1 (cfgH h P) S q le = le := by
          intro q hq le
          unfold zl1
          rw [if_neg]
          have : decide (4 ≤ q) = false := by simp; omega
          rw [this]
          simp
        show _ = zsR h 33 0 (zl1 _ S 0 (zl1 _ S 1 (zl1 _ S 2 (zl1 _ S 3 ld))))
        rw [z 3 (by decide), z 2 (by decide), z 1 (by decide), z 0 (by decide)]
      · refine br_f (fun q => hp4 ((zx_lt4 (by omega)).mp q)) ?_
        have hp : p < 12 := by omega
        have h4p : 4 ≤ p := by omega
        have IH := ih h4p (by omega)
        have v12 : vp_in (nI p) 12 := vpn hp (by decide)
        have fS := hasI_iff hS (p := p) (by omega)
        have fP : hasI ((zsR h 33 0 ld).1 30 0 1) (nI p) ↔ P.testBit p = true := by
          rw [show (zsR h 33 0 ld).1 30 0 1 = nI P from hPh]
          exact hasI_iff hP (by omega)
        have fB : hasI (nI S) (nI p - 4) ↔ zbl S p = true := by
          rw [zx_m4 h4p hp]
          exact hasI_iff hS (by omega)
        have fL := leftI_iff hS h4p hp
        have fR := rightI_iff hS h4p hp
        have hm : cM (cfgH h P) p = mnrI (kindI h (nI p)) := rfl
        have step : zld (cfgH h P) S (p + 1) ld = zld (cfgH h P) S p (zl1 (cfgH h P) S p ld) := rfl
        rw [step]
        have hc : cP (cfgH h P) = P := rfl
        have hd4 : decide (4 ≤ p) = true := by simpa using h4p
        simp only [fS, fP, fB, fL, fR, v12, kindI_33, figI_33, forall_eq, true_and]
        by_cases bS : S.testBit p = true
        · by_cases bP : P.testBit p = true
          · have e : zl1 (cfgH h P) S p ld = ld := by
              unfold zl1
              rw [hc, bS, bP, if_neg (by simp)]
            rw [e]
            simp only [bS, bP, not_true_eq_false, Bool.false_eq_true, false_imp_iff, true_imp_iff, true_and, and_true]
            exact IH ld
          · have hcond : (S.testBit p && decide (4 ≤ p) && !(cP (cfgH h P)).testBit p) = true := by
              rw [hc, bS, hd4]; simpa using bP
            simp only [bS, bP, not_true_eq_false, Bool.false_eq_true, not_false_eq_true, false_imp_iff, true_imp_iff, true_and, and_true]
            by_cases bB : zbl S p = true
            · have e : zl1 (cfgH h P) S p ld = upd ld (p - 4) (ld (p - 4) + (cW (cfgH h P) p + ld p)) := by
                unfold zl1
                rw [if_pos hcond, if_pos bB]
              rw [e]
              simp only [bB, not_true_eq_false, Bool.false_eq_true, false_imp_iff, true_imp_iff, true_and, and_true]
              rw [zx_m4 h4p hp]
              refine ⟨vpn (by omega) (by decide), vpn (by omega) (by decide), ?_⟩
              rw [nI_cl (by omega), nI_cl (by omega), zsR_s1, zsR_at, zsR_at, if_pos ⟨rfl, rfl⟩, if_pos ⟨rfl, rfl⟩]
              exact IH _
            · simp only [bB, not_false_eq_true, false_imp_iff, true_imp_iff, true_and, and_true]
              by_cases a : archK (kindI h (nI p))
              · have ma : cM (cfgH h P) p = 1 := by rw [hm]; exact mnr_arch.mpr a
                have n6 : ¬ kindI h (nI p) = 6 := fun q => by rcases a with a | a <;> rw [q] at a <;> exact absurd a (by decide)
                simp only [a, n6, not_true_eq_false, Bool.false_eq_true, not_false_eq_true, false_imp_iff, true_imp_iff, true_and, and_true]
                by_cases l : zlf S p = true
                · by_cases r : zrt S p = true
                  · have e : zl1 (cfgH h P) S p ld = upd (upd ld (p - 5) (ld (p - 5) + (cW (cfgH h P) p + ld p) / 2)) (p - 3) (ld (p - 3) + ((cW (cfgH h P) p + ld p) - (cW (cfgH h P) p + ld p) / 2)) := by
                      unfold zl1
                      rw [if_pos hcond, if_neg bB, if_pos ma, if_pos (by rw [l, r]; rfl)]
                    have h5 : 5 ≤ p := by
                      unfold zlf at l
                      simp only [Bool.and_eq_true, decide_eq_true_eq] at l
                      omega
                    rw [e]
                    simp only [l, r, not_true_eq_false, Bool.false_eq_true, false_imp_iff, true_imp_iff, true_and, and_true]
                    rw [zx_m5 h5 hp, zx_m3 h4p hp]
                    refine ⟨vpn (by omega) (by decide), vpn (by omega) (by decide), vpn (by omega) (by decide), vpn (by omega) (by decide), ?_⟩
                    rw [nI_cl (by omega), nI_cl (by omega), nI_cl (by omega), zsR_s1, zsR_s1, zsR_at, zsR_at, zsR_at, if_pos ⟨rfl, rfl⟩, if_pos ⟨rfl, rfl⟩, if_pos ⟨rfl, rfl⟩, pk_un (by omega)]
                    exact IH _
                  · have e : zl1 (cfgH h P) S p ld = ld := by
                      unfold zl1
                      rw [if_pos hcond, if_neg bB, if_pos ma, if_neg (by simp [r])]
                    rw [e]
                    simp only [l, r, not_true_eq_false, Bool.false_eq_true, not_false_eq_true, false_imp_iff, true_imp_iff, true_and, and_true]
                    exact IH ld
                · have e : zl1 (cfgH h P) S p ld = ld := by
                    unfold zl1
                    rw [if_pos hcond, if_neg bB, if_pos ma, if_neg (by simp [l])]
                  rw [e]
                  simp only [l, not_true_eq_false, Bool.false_eq_true, not_false_eq_true, false_imp_iff, true_imp_iff, true_and, and_true]
                  exact IH ld
              · have ma : ¬ cM (cfgH h P) p = 1 := by rw [hm]; exact fun q => a (mnr_arch.mp q)
                by_cases b6 : kindI h (nI p) = 6
                · have mb : cM (cfgH h P) p = 2 := by rw [hm]; exact mnr_beam.mpr b6
                  have na6 : ¬ archK 6 := by decide
                  simp only [b6, na6, not_true_eq_false, Bool.false_eq_true, not_false_eq_true, false_imp_iff, true_imp_iff, true_and, and_true]
                  by_cases l : zlf S p = true
                  · have e : zl1 (cfgH h P) S p ld = upd ld (p - 5) (ld (p - 5) + (cW (cfgH h P) p + ld p)) := by
                      unfold zl1
                      rw [if_pos hcond, if_neg bB, if_neg ma, if_pos mb, if_pos l]
                    have h5 : 5 ≤ p := by
                      unfold zlf at l
                      simp only [Bool.and_eq_true, decide_eq_true_eq] at l
                      omega
                    have ew : cW (cfgH h P) p = wgtI 6 (figI h (nI p)) := by
                      show wgtI (kindI h (nI p)) _ = _
                      rw [b6]
                    rw [e, ew]
                    simp only [l, not_true_eq_false, Bool.false_eq_true, false_imp_iff, true_imp_iff, true_and, and_true]
                    rw [zx_m5 h5 hp]
                    refine ⟨vpn (by omega) (by decide), vpn (by omega) (by decide), ?_⟩
                    rw [nI_cl (by omega), nI_cl (by omega), zsR_s1, zsR_at, zsR_at, if_pos ⟨rfl, rfl⟩, if_pos ⟨rfl, rfl⟩]
                    exact IH _
                  · by_cases r : zrt S p = true
                    · have e : zl1 (cfgH h P) S p ld = upd ld (p - 3) (ld (p - 3) + (cW (cfgH h P) p + ld p)) := by
                        unfold zl1
                        rw [if_pos hcond, if_neg bB, if_neg ma, if_pos mb, if_neg l, if_pos r]
                      have ew : cW (cfgH h P) p = wgtI 6 (figI h (nI p)) := by
                        show wgtI (kindI h (nI p)) _ = _
                        rw [b6]
                      rw [e, ew]
                      simp only [l, r, not_true_eq_false, Bool.false_eq_true, not_false_eq_true, false_imp_iff, true_imp_iff, true_and, and_true]
                      rw [zx_m3 h4p hp]
                      refine ⟨vpn (by omega) (by decide), vpn (by omega) (by decide), ?_⟩
                      rw [nI_cl (by omega), nI_cl (by omega), zsR_s1, zsR_at, zsR_at, if_pos ⟨rfl, rfl⟩, if_pos ⟨rfl, rfl⟩]
                      exact IH _
                    · have e : zl1 (cfgH h P) S p ld = ld := by
                        unfold zl1
                        rw [if_pos hcond, if_neg bB, if_neg ma, if_pos mb, if_neg l, if_neg r]
                      rw [e]
                      simp only [l, r, not_true_eq_false, Bool.false_eq_true, not_false_eq_true, false_imp_iff, true_imp_iff, true_and, and_true]
                      exact IH ld
                · have mb : ¬ cM (cfgH h P) p = 2 := by rw [hm]; exact fun q => b6 (mnr_beam.mp q)
                  have e : zl1 (cfgH h P) S p ld = ld := by
                    unfold zl1
                    rw [if_pos hcond, if_neg bB, if_neg ma, if_neg mb]
                  rw [e]
                  simp only [a, b6, not_true_eq_false, Bool.false_eq_true, not_false_eq_true, false_imp_iff, true_imp_iff, true_and, and_true]
                  exact IH ld
        · have e : zl1 (cfgH h P) S p ld = ld := by
            unfold zl1
            rw [if_neg (by simp [bS])]
          rw [e]
          simp only [bS, not_true_eq_false, Bool.false_eq_true, not_false_eq_true, false_imp_iff, true_imp_iff, true_and, and_true]
          exact IH ld
  have key1 : ∀ (f m : Nat), f + m = 12 → zT G (d + 4) mX12_loads 2 [zr 5 0, zi (nI S), zi (nI m), zu, zu] [] (zsR h 33 0 (zfl (h.1 33 0) 0 m)) (fun r h' => r = none ∧ h' = zsR h 33 0 (zld (cfgH h P) S 12 (zfl (h.1 33 0) 0 12))) := by
    intro f
    induction f with
    | zero =>
      intro m hm
      have e : m = 12 := by omega
      subst e
      refine wX12_loads_2 ?_
      exact br_t (by decide) (key2 12 (by decide) (by decide) _)
    | succ f ih =>
      intro m hm
      refine wX12_loads_2 ?_
      refine br_f (nI_ge (a := m) (b := 12) (by omega) (by decide)) ⟨vpn (by omega) (by decide), ?_⟩
      intro h1 e1
      rw [e1, nI_cl (by omega), zsR_s1, zfl_upd, nI_1]
      exact ih (m + 1) (by omega)
  have := key1 12 0 (by omega)
  rw [zfl_0, zsR_id] at this
  exact this
theorem zld_fl (c : ZQ5) (S : Nat) (f : Nat → Int32) {j : Nat} (hj : j < 12) : zld c S 12 (zfl f 0 12) j = zlds c S j := by
  unfold zlds
  apply zld_congr c S 12 (Nat.le_refl _)
  · intro k hk
    unfold zfl
    rw [if_pos hk]
  · exact hj
end
section
/-! ===== the bytecode of these methods, walked (by program): X12_settled ===== -/
theorem kX12_settled_0 : zD cX12_settled 0 1 (.iload_n 1) 1 := by decide +kernel
theorem kX12_settled_1 : zD cX12_settled 1 2 (.istore_n 2) 1 := by decide +kernel
theorem kX12_settled_2 : zD cX12_settled 2 3 (.aload_n 0) 1 := by decide +kernel
theorem kX12_settled_3 : zD cX12_settled 3 4 (.iconst 0) 1 := by decide +kernel
theorem kX12_settled_4 : zD cX12_settled 4 7 (.putfield 90) 3 := by decide +kernel
theorem kX12_settled_7 : zD cX12_settled 7 8 (.iconst (-1)) 1 := by decide +kernel
theorem kX12_settled_8 : zD cX12_settled 8 9 (.istore_n 3) 1 := by decide +kernel
theorem kX12_settled_9 : zD cX12_settled 9 10 (.iload_n 3) 1 := by decide +kernel
theorem kX12_settled_10 : zB cX12_settled 10 13 105 (.ifCond .eq 95) 95 := by decide +kernel
theorem kX12_settled_13 : zD cX12_settled 13 14 (.aload_n 0) 1 := by decide +kernel
theorem kX12_settled_14 : zD cX12_settled 14 15 (.iload_n 2) 1 := by decide +kernel
theorem kX12_settled_15 : zD cX12_settled 15 18 (.invokevirtual 94) 3 := by decide +kernel
theorem kX12_settled_18 : zD cX12_settled 18 19 (.iconst 0) 1 := by decide +kernel
theorem kX12_settled_19 : zD cX12_settled 19 20 (.istore_n 3) 1 := by decide +kernel
theorem kX12_settled_20 : zD cX12_settled 20 21 (.iconst 0) 1 := by decide +kernel
theorem kX12_settled_21 : zD cX12_settled 21 23 (.istore 4) 2 := by decide +kernel
theorem kX12_settled_23 : zD cX12_settled 23 25 (.iload 4) 2 := by decide +kernel
theorem kX12_settled_25 : zD cX12_settled 25 27 (.bipush 12) 2 := by decide +kernel
theorem kX12_settled_27 : zB cX12_settled 27 30 78 (.if_icmp .ge 51) 51 := by decide +kernel
theorem kX12_settled_30 : zD cX12_settled 30 31 (.iload_n 2) 1 := by decide +kernel
theorem kX12_settled_31 : zD cX12_settled 31 33 (.iload 4) 2 := by decide +kernel
theorem kX12_settled_33 : zD cX12_settled 33 36 (.invokestatic 57) 3 := by decide +kernel
theorem kX12_settled_36 : zB cX12_settled 36 39 72 (.ifCond .eq 36) 36 := by decide +kernel
theorem kX12_settled_39 : zD cX12_settled 39 40 (.aload_n 0) 1 := by decide +kernel
theorem kX12_settled_40 : zD cX12_settled 40 41 (.iload_n 2) 1 := by decide +kernel
theorem kX12_settled_41 : zD cX12_settled 41 43 (.iload 4) 2 := by decide +kernel
theorem kX12_settled_43 : zD cX12_settled 43 46 (.invokevirtual 98) 3 := by decide +kernel
theorem kX12_settled_46 : zB cX12_settled 46 49 65 (.ifCond .eq 19) 19 := by decide +kernel
theorem kX12_settled_49 : zD cX12_settled 49 50 (.aload_n 0) 1 := by decide +kernel
theorem kX12_settled_50 : zD cX12_settled 50 53 (.getfield 19) 3 := by decide +kernel
theorem kX12_settled_53 : zD cX12_settled 53 55 (.iload 4) 2 := by decide +kernel
theorem kX12_settled_55 : zD cX12_settled 55 56 (.iaload) 1 := by decide +kernel
theorem kX12_settled_56 : zD cX12_settled 56 57 (.aload_n 0) 1 := by decide +kernel
theorem kX12_settled_57 : zD cX12_settled 57 59 (.iload 4) 2 := by decide +kernel
theorem kX12_settled_59 : zD cX12_settled 59 62 (.invokevirtual 101) 3 := by decide +kernel
theorem kX12_settled_62 : zB cX12_settled 62 65 72 (.if_icmp .le 10) 10 := by decide +kernel
theorem kX12_settled_65 : zD cX12_settled 65 66 (.iload_n 3) 1 := by decide +kernel
theorem kX12_settled_66 : zD cX12_settled 66 67 (.iconst 1) 1 := by decide +kernel
theorem kX12_settled_67 : zD cX12_settled 67 69 (.iload 4) 2 := by decide +kernel
theorem kX12_settled_69 : zD cX12_settled 69 70 (.ishl) 1 := by decide +kernel
theorem kX12_settled_70 : zD cX12_settled 70 71 (.ior) 1 := by decide +kernel
theorem kX12_settled_71 : zD cX12_settled 71 72 (.istore_n 3) 1 := by decide +kernel
theorem kX12_settled_72 : zD cX12_settled 72 75 (.iinc 4 1) 3 := by decide +kernel
theorem kX12_settled_75 : zB cX12_settled 75 78 23 (.goto (-52)) (-52) := by decide +kernel
theorem kX12_settled_78 : zD cX12_settled 78 79 (.iload_n 2) 1 := by decide +kernel
theorem kX12_settled_79 : zD cX12_settled 79 80 (.iload_n 3) 1 := by decide +kernel
theorem kX12_settled_80 : zD cX12_settled 80 81 (.iconst (-1)) 1 := by decide +kernel
theorem kX12_settled_81 : zD cX12_settled 81 82 (.ixor) 1 := by decide +kernel
theorem kX12_settled_82 : zD cX12_settled 82 83 (.iand) 1 := by decide +kernel
theorem kX12_settled_83 : zD cX12_settled 83 84 (.istore_n 2) 1 := by decide +kernel
theorem kX12_settled_84 : zD cX12_settled 84 85 (.aload_n 0) 1 := by decide +kernel
theorem kX12_settled_85 : zD cX12_settled 85 86 (.dup) 1 := by decide +kernel
theorem kX12_settled_86 : zD cX12_settled 86 89 (.getfield 90) 3 := by decide +kernel
theorem kX12_settled_89 : zD cX12_settled 89 90 (.iload_n 3) 1 := by decide +kernel
theorem kX12_settled_90 : zB cX12_settled 90 93 97 (.ifCond .eq 7) 7 := by decide +kernel
theorem kX12_settled_93 : zD cX12_settled 93 94 (.iconst 1) 1 := by decide +kernel
theorem kX12_settled_94 : zB cX12_settled 94 97 98 (.goto 4) 4 := by decide +kernel
theorem kX12_settled_97 : zD cX12_settled 97 98 (.iconst 0) 1 := by decide +kernel
theorem kX12_settled_98 : zD cX12_settled 98 99 (.iadd) 1 := by decide +kernel
theorem kX12_settled_99 : zD cX12_settled 99 102 (.putfield 90) 3 := by decide +kernel
theorem kX12_settled_102 : zB cX12_settled 102 105 9 (.goto (-93)) (-93) := by decide +kernel
theorem kX12_settled_105 : zD cX12_settled 105 106 (.iload_n 2) 1 := by decide +kernel
theorem kX12_settled_106 : zD cX12_settled 106 107 (.ireturn) 1 := by decide +kernel
set_option maxRecDepth 10000 in
theorem wX12_settled_0 {G : ZG} {d : Nat} {h : ZH} {Q : Option ZV → ZH → Prop} {x1 : Int32} 
  (H : ∀ h1 : ZH, h1 = zs1 h 5 0 5 0 → zT G (d + 5) mX12_settled 9 [zr 5 0, zi x1, zi x1, zi (-1), zu] [] h1 Q) :
  zT G (d + 5) mX12_settled 0 [zr 5 0, zi x1, zu, zu, zu] [] h Q := by
  refine zt_iload_n kX12_settled_0 rfl ?_
  refine zt_istore_n (L' := [zr 5 0, zi x1, zi x1, zu, zu]) kX12_settled_1 (by decide) rfl ?_
  refine zt_aload_n kX12_settled_2 rfl ?_
  refine zt_iconst (v := 0) kX12_settled_3 rfl ?_
  refine zt_put kX12_settled_4 fRX12_90 pRX12_5 rfl (by decide) rfl ?_
  refine zt_heap (fun h1 eh1 => ?_)
  replace H := H h1 eh1
  refine zt_iconst (v := (-1)) kX12_settled_7 rfl ?_
  refine zt_istore_n (L' := [zr 5 0, zi x1, zi x1, zi (-1), zu]) kX12_settled_8 (by decide) rfl ?_
  exact H

set_option maxRecDepth 10000 in
theorem wX12_settled_9 {G : ZG} {d : Nat} {h : ZH} {Q : Option ZV → ZH → Prop} {x1 : Int32} {x2 : Int32} {x3 : Int32} 
  (H : (x3 = 0 → Q (some (zi x2)) h) ∧ (¬ x3 = 0 → zC G (d + 4) mX12_loads [zr 5 0, zi x2] h (fun r2 h1 => r2 = none ∧ zT G (d + 5) mX12_settled 23 [zr 5 0, zi x1, zi x2, zi 0, zi 0] [] h1 Q))) :
  zT G (d + 5) mX12_settled 9 [zr 5 0, zi x1, zi x2, zi x3, zu] [] h Q := by
  refine zt_iload_n kX12_settled_9 rfl ?_
  refine zt_if_eq kX12_settled_10 (fun c => ?_) (fun c => ?_)
  · replace H := H.1 c
    refine zt_iload_n kX12_settled_105 rfl ?_
    exact zt_iret kX12_settled_106 rfl H
  · replace H := H.2 c
    refine zt_aload_n kX12_settled_13 rfl ?_
    refine zt_iload_n kX12_settled_14 rfl ?_
    refine zt_cV (as := [zi x2]) kX12_settled_15 sRX12_94 rfl (by decide) rfl (by simp) rfl H (fun r2 h1 H => ?_)
    obtain ⟨rfl, H⟩ := H
    refine zt_iconst (v := 0) kX12_settled_18 rfl ?_
    refine zt_istore_n (L' := [zr 5 0, zi x1, zi x2, zi 0, zu]) kX12_settled_19 (by decide) rfl ?_
    refine zt_iconst (v := 0) kX12_settled_20 rfl ?_
    refine zt_istore (L' := [zr 5 0, zi x1, zi x2, zi 0, zi 0]) kX12_settled_21 (by decide) rfl ?_
    exact H

set_option maxRecDepth 10000 in
theorem wX12_settled_23 {G : ZG} {d : Nat} {h : ZH} {Q : Option ZV → ZH → Prop} {x1 : Int32} {x2 : Int32} {x3 : Int32} {x4 : Int32} 
  (H : (12 ≤ x4 → (x3 = 0 → ∀ h1 : ZH, h1 = zs1 h 5 0 5 ((h.1 5 0 5) + 0) → zT G (d + 5) mX12_settled 9 [zr 5 0, zi x1, zi (x2 &&& (x3 ^^^ (-1))), zi x3, zu] [] h1 Q) ∧ (¬ x3 = 0 → ∀ h2 : ZH, h2 = zs1 h 5 0 5 ((h.1 5 0 5) + 1) → zT G (d + 5) mX12_settled 9 [zr 5 0, zi x1, zi (x2 &&& (x3 ^^^ (-1))), zi x3, zu] [] h2 Q)) ∧ (¬ 12 ≤ x4 → (¬ (hasI x2 x4) → zT G (d + 5) mX12_settled 23 [zr 5 0, zi x1, zi x2, zi x3, zi (x4 + 1)] [] h Q) ∧ ((hasI x2 x4) → vp_in x4 12 ∧ ((¬ (heldI h x2 x4) → zT G (d + 5) mX12_settled 23 [zr 5 0, zi x1, zi x2, zi (x3 ||| ((1 : Int32) <<< (x4 &&& 31))), zi (x4 + 1)] [] h Q) ∧ ((heldI h x2 x4) → vp_in x4 12 ∧ vp_in x4 12 ∧ (((h.1 33 0 x4.toNatClampNeg) ≤ (brsI (kindI h x4) (figI h x4)) → zT G (d + 5) mX12_settled 23 [zr 5 0, zi x1, zi x2, zi x3, zi (x4 + 1)] [] h Q) ∧ (¬ (h.1 33 0 x4.toNatClampNeg) ≤ (brsI (kindI h x4) (figI h x4)) → zT G (d + 5) mX12_settled 23 [zr 5 0, zi x1, zi x2, zi (x3 ||| ((1 : Int32) <<< (x4 &&& 31))), zi (x4 + 1)] [] h Q))))))) :
  zT G (d + 5) mX12_settled 23 [zr 5 0, zi x1, zi x2, zi x3, zi x4] [] h Q := by
  refine zt_iload kX12_settled_23 rfl ?_
  refine zt_bipush (v := 12) kX12_settled_25 rfl ?_
  refine zt_icmp_ge kX12_settled_27 (fun c => ?_) (fun c => ?_)
  · replace H := H.1 c
    refine zt_iload_n kX12_settled_78 rfl ?_
    refine zt_iload_n kX12_settled_79 rfl ?_
    refine zt_iconst (v := (-1)) kX12_settled_80 rfl ?_
    refine zt_ixor kX12_settled_81 ?_
    refine zt_iand kX12_settled_82 ?_
    refine zt_istore_n (L' := [zr 5 0, zi x1, zi (x2 &&& (x3 ^^^ (-1))), zi x3, zi x4]) kX12_settled_83 (by decide) rfl ?_
    refine zt_aload_n kX12_settled_84 rfl ?_
    refine zt_dup kX12_settled_85 (by intro x q; cases q) ?_
    refine zt_get (v := zi (h.1 5 0 5)) kX12_settled_86 fRX12_90 rfl (by decide) rfl ?_
    refine zt_iload_n kX12_settled_89 rfl ?_
    refine zt_if_eq kX12_settled_90 (fun c => ?_) (fun c => ?_)
    · replace H := H.1 c
      refine zt_iconst (v := 0) kX12_settled_97 rfl ?_
      refine zt_iadd kX12_settled_98 ?_
      refine zt_put kX12_settled_99 fRX12_90 pRX12_5 rfl (by decide) rfl ?_
      refine zt_heap (fun h1 eh1 => ?_)
      replace H := H h1 eh1
      refine zt_goto kX12_settled_102 ?_
      exact zt_sub [zr 5 0, zi x1, zi (x2 &&& (x3 ^^^ (-1))), zi x3, zu] ⟨rfl, ⟨rfl, ⟨rfl, ⟨rfl, trivial⟩⟩⟩⟩ H
    · replace H := H.2 c
      refine zt_iconst (v := 1) kX12_settled_93 rfl ?_
      refine zt_goto kX12_settled_94 ?_
      refine zt_iadd kX12_settled_98 ?_
      refine zt_put kX12_settled_99 fRX12_90 pRX12_5 rfl (by decide) rfl ?_
      refine zt_heap (fun h2 eh2 => ?_)
      replace H := H h2 eh2
      refine zt_goto kX12_settled_102 ?_
      exact zt_sub [zr 5 0, zi x1, zi (x2 &&& (x3 ^^^ (-1))), zi x3, zu] ⟨rfl, ⟨rfl, ⟨rfl, ⟨rfl, trivial⟩⟩⟩⟩ H
  · replace H := H.2 c
    refine zt_iload_n kX12_settled_30 rfl ?_
    refine zt_iload kX12_settled_31 rfl ?_
    refine zt_cS (as := [zi x2, zi x4]) kX12_settled_33 sRX12_57 rfl (by simp) rfl (sX12_has _  ) (fun r h0 hq => ?_)
    obtain ⟨rfl, hh⟩ := hq
    replace hh := hh.symm
    subst hh
    refine zt_ifb_eq kX12_settled_36 (fun c => ?_) (fun c => ?_)
    · replace H := H.1 c
      refine zt_iinc (v := (x4 + 1)) (L' := [zr 5 0, zi x1, zi x2, zi x3, zi (x4 + 1)]) kX12_settled_72 rfl rfl (by decide) rfl ?_
      refine zt_goto kX12_settled_75 ?_
      exact H
    · replace H := H.2 c
      refine zt_aload_n kX12_settled_39 rfl ?_
      refine zt_iload_n kX12_settled_40 rfl ?_
      refine zt_iload kX12_settled_41 rfl ?_
      obtain ⟨pp0, H⟩ := H
      refine zt_cV (as := [zi x2, zi x4]) kX12_settled_43 sRX12_98 rfl (by decide) rfl (by simp) rfl (sX12_isHeld _  pp0) (fun r h0 hq => ?_)
      obtain ⟨rfl, hh⟩ := hq
      replace hh := hh.symm
      subst hh
      refine zt_ifb_eq kX12_settled_46 (fun c => ?_) (fun c => ?_)
      · replace H := H.1 c
        refine zt_iload_n kX12_settled_65 rfl ?_
        refine zt_iconst (v := 1) kX12_settled_66 rfl ?_
        refine zt_iload kX12_settled_67 rfl ?_
        refine zt_ishl kX12_settled_69 ?_
        refine zt_ior kX12_settled_70 ?_
        refine zt_istore_n (L' := [zr 5 0, zi x1, zi x2, zi (x3 ||| ((1 : Int32) <<< (x4 &&& 31))), zi x4]) kX12_settled_71 (by decide) rfl ?_
        refine zt_iinc (v := (x4 + 1)) (L' := [zr 5 0, zi x1, zi x2, zi (x3 ||| ((1 : Int32) <<< (x4 &&& 31))), zi (x4 + 1)]) kX12_settled_72 rfl rfl (by decide) rfl ?_
        refine zt_goto kX12_settled_75 ?_
        exact H
      · replace H := H.2 c
        refine zt_aload_n kX12_settled_49 rfl ?_
        refine zt_get (v := zr 33 0) kX12_settled_50 fRX12_19 rfl (by decide) rfl ?_
        refine zt_iload kX12_settled_53 rfl ?_
        obtain ⟨hv, H⟩ := H
        refine zt_iald kX12_settled_55 rfl (by decide) hv ?_
        refine zt_aload_n kX12_settled_56 rfl ?_
        refine zt_iload kX12_settled_57 rfl ?_
        obtain ⟨pp0, H⟩ := H
        refine zt_cV (as := [zi x4]) kX12_settled_59 sRX12_101 rfl (by decide) rfl (by simp) rfl (sX12_bears _  pp0) (fun r h0 hq => ?_)
        obtain ⟨rfl, hh⟩ := hq
        replace hh := hh.symm
        subst hh
        refine zt_icmp_le kX12_settled_62 (fun c => ?_) (fun c => ?_)
        · replace H := H.1 c
          refine zt_iinc (v := (x4 + 1)) (L' := [zr 5 0, zi x1, zi x2, zi x3, zi (x4 + 1)]) kX12_settled_72 rfl rfl (by decide) rfl ?_
          refine zt_goto kX12_settled_75 ?_
          exact H
        · replace H := H.2 c
          refine zt_iload_n kX12_settled_65 rfl ?_
          refine zt_iconst (v := 1) kX12_settled_66 rfl ?_
          refine zt_iload kX12_settled_67 rfl ?_
          refine zt_ishl kX12_settled_69 ?_
          refine zt_ior kX12_settled_70 ?_
          refine zt_istore_n (L' := [zr 5 0, zi x1, zi x2, zi (x3 ||| ((1 : Int32) <<< (x4 &&& 31))), zi x4]) kX12_settled_71 (by decide) rfl ?_
          refine zt_iinc (v := (x4 + 1)) (L' := [zr 5 0, zi x1, zi x2, zi (x3 ||| ((1 : Int32) <<< (x4 &&& 31))), zi (x4 + 1)]) kX12_settled_72 rfl rfl (by decide) rfl ?_
          refine zt_goto kX12_settled_75 ?_
          exact H
end
section
/-! ===== frames; the model's settled ===== -/
def zfx (ex : Nat → Nat → Bool) (h h' : ZH) : Prop := ∀ k i j, ex k j = false → h'.1 k i j = h.1 k i j ∧ h'.2 k i j = h.2 k i j
theorem zfx.rf (ex : Nat → Nat → Bool) (h : ZH) : zfx ex h h := fun _ _ _ _ => ⟨rfl, rfl⟩
theorem zfx.tr {ex : Nat → Nat → Bool} {h h1 h2 : ZH} (a : zfx ex h h1) (b : zfx ex h1 h2) : zfx ex h h2 := fun k i j q => ⟨(b k i j q).1.trans (a k i j q).1, (b k i j q).2.trans (a k i j q).2⟩
theorem zfx.mono {ex ex' : Nat → Nat → Bool} {h h' : ZH} (a : zfx ex h h') (hs : ∀ k j, ex' k j = false → ex k j = false) : zfx ex' h h' := fun k i j q => a k i j (hs k j q)
theorem zfx.s1 (ex : Nat → Nat → Bool) (h : ZH) {k i j : Nat} (v : Int32) (hk : ex k j = true) : zfx ex h (zs1 h k i j v) := by
  intro k' i' j' q
  refine ⟨?_, rfl⟩
  rw [zs1_at, if_neg]
  rintro ⟨rfl, rfl, rfl⟩
  rw [hk] at q
  cases q
theorem zfx.s2 (ex : Nat → Nat → Bool) (h : ZH) {k i j : Nat} (v : Int64) (hk : ex k j = true) : zfx ex h (zs2 h k i j v) := by
  intro k' i' j' q
  refine ⟨rfl, ?_⟩
  rw [zs2_at, if_neg]
  rintro ⟨rfl, rfl, rfl⟩
  rw [hk] at q
  cases q
theorem zfx.R (ex : Nat → Nat → Bool) (h : ZH) {k i : Nat} (f : Nat → Int32) (hk : ∀ j, ex k j = true) : zfx ex h (zsR h k i f) := by
  intro k' i' j' q
  refine ⟨?_, rfl⟩
  rw [zsR_at, if_neg]
  rintro ⟨rfl, rfl⟩
  rw [hk] at q
  cases q
theorem zfx.R2 (ex : Nat → Nat → Bool) (h : ZH) {k i : Nat} (f : Nat → Int64) (hk : ∀ j, ex k j = true) : zfx ex h (zsR2 h k i f) := by
  intro k' i' j' q
  refine ⟨rfl, ?_⟩
  rw [zsR2_at, if_neg]
  rintro ⟨rfl, rfl⟩
  rw [hk] at q
  cases q
theorem zfx.row {ex : Nat → Nat → Bool} {h h' : ZH} (a : zfx ex h h') {k : Nat} (i : Nat) (hk : ∀ j, ex k j = false) : h'.1 k i = h.1 k i := funext fun j => (a k i j (hk j)).1
def eS (k j : Nat) : Bool := decide (k = 33) || decide (k = 5 ∧ j = 5)
theorem eS_no {k j : Nat} (h : k ≠ 33) (h2 : k ≠ 5) : eS k j = false := by unfold eS; simp [h, h2]
/-- the model's hall: the stones there, all else that settling looks at -/
def RM0 (h : ZH) (S : Nat) (c : ZQ5) : Prop := S < 4096 ∧ cP c < 4096 ∧ h.1 30 0 0 = nI S ∧ h.1 30 0 1 = nI (cP c) ∧ cfgH h (cP c) = c
theorem cfgH_row {h h' : ZH} (a : h'.1 30 0 = h.1 30 0) (P : Nat) : cfgH h' P = cfgH h P := by
  have k : ∀ x, kindI h' x = kindI h x := fun x => by unfold kindI; rw [a]
  have f : ∀ x, figI h' x = figI h x := fun x => by unfold figI; rw [a]
  unfold cfgH
  simp only [k, f]
theorem RM0.fr {h h' : ZH} {S : Nat} {c : ZQ5} (r : RM0 h S c) (a : h'.1 30 0 = h.1 30 0) : RM0 h' S c := by
  obtain ⟨r1, r2, r3, r4, r5⟩ := r
  exact ⟨r1, r2, by rw [a]; exact r3, by rw [a]; exact r4, by rw [cfgH_row a]; exact r5⟩
theorem RM0.fx {ex : Nat → Nat → Bool} {h h' : ZH} {S : Nat} {c : ZQ5} (r : RM0 h S c) (a : zfx ex h h') (hk : ∀ j, ex 30 j = false) : RM0 h' S c := r.fr (a.row 0 hk)
theorem RM0.S {h h' : ZH} {S : Nat} {c : ZQ5} (r : RM0 h S c) (a : zfx eS h h') : RM0 h' S c := r.fx a fun _ => eS_no (by decide) (by decide)
def zLZ (c : ZQ5) (T p : Nat) : Bool := T.testBit p && (!zhd c T p || decide (cB c p < zlds c T p))
theorem zlz_mk (c : ZQ5) (T : Nat) : zlz c T = zmk (zLZ c T) 12 := rfl
theorem zmk_0 (f : Nat → Bool) : zmk f 0 = 0 := rfl
theorem zi_mk (f : Nat → Bool) {m : Nat} (hm : m < 12) (hf : f m = true) : nI (zmk f m) ||| ((1 : Int32) <<< (nI m &&& 31)) = nI (zmk f (m + 1)) := by
  rw [zi_sh hm, zi_or]
  congr 1
  apply Nat.eq_of_testBit_eq
  intro p
  rw [Nat.testBit_or, zmk_bit, zmk_bit, zp_bit]
  by_cases q : m = p
  · subst q
    simp [hf]
  · have : (p < m + 1) = (p < m) := by apply propext; omega
    simp [q, this]
theorem zmk_no (f : Nat → Bool) {m : Nat} (hf : f m = false) : zmk f (m + 1) = zmk f m := by
  apply Nat.eq_of_testBit_eq
  intro p
  rw [zmk_bit, zmk_bit]
  by_cases q : p = m
  · subst q; simp [hf]
  · have : (p < m + 1) = (p < m) := by apply propext; omega
    rw [decide_eq_decide.mpr (iff_of_eq this)]
theorem zmk_lt12 (f : Nat → Bool) {m : Nat} (hm : m ≤ 12) : zmk f m < 4096 := Nat.lt_of_lt_of_le (zmk_lt f m) (Nat.pow_le_pow_right (n := 2) (by decide) hm)
set_option maxHeartbeats 2000000 in
theorem sX12_settled {G : ZG} (d : Nat) {h : ZH} {S T : Nat} {c : ZQ5} (hR : RM0 h S c) (hT : T < 4096) : zC G (d + 5) mX12_settled [zr 5 0, zi (nI T)] h (fun r h' => r = some (zi (nI (stl c T))) ∧ h'.1 5 0 5 = nI (stp c T) ∧ zfx eS h h') := by
  refine zC_of (by decide +kernel) (Nat.le_of_ble_eq_true rfl) (L := [zr 5 0, zi (nI T), zu, zu, zu]) ⟨rfl, ⟨rfl, trivial⟩⟩ ?_
  refine wX12_settled_0 ?_
  intro h0 e0
  have key : ∀ (n T' : Nat), T' < 4096 → zpc T' < n → ∀ (h1 : ZH) (k : Nat), zfx eS h h1 → h1.1 5 0 5 = nI k → ∀ x3 : Int32, x3 ≠ 0 → zT G (d + 5) mX12_settled 9 [zr 5 0, zi (nI T), zi (nI T'), zi x3, zu] [] h1 (fun r h' => r = some (zi (nI (stlN c n T'))) ∧ h'.1 5 0 5 = nI (k + stpN c n T') ∧ zfx eS h h') := by
    intro n
    induction n with
    | zero => intro T' _ hz; exact absurd hz (Nat.not_lt_zero _)
    | succ n ih =>
      intro T' hT' hz h1 k hf hk x3 hx
      refine wX12_settled_9 ?_
      refine br_f hx ?_
      have r1 := hR.S hf
      obtain ⟨_, rP, _, rp, rc⟩ := r1
      refine zC_mono (sX12_loads d hT' rP rp) ?_
      rintro r h2 ⟨rfl, e2⟩
      refine ⟨rfl, ?_⟩
      have f2 : zfx eS h h2 := by
        rw [e2]
        exact hf.tr (zfx.R eS h1 _ (fun j => by unfold eS; simp))
      have k2 : h2.1 5 0 5 = nI k := by rw [e2, zsR_at, if_neg (by simp)]; exact hk
      have ld2 : ∀ j, j < 12 → h2.1 33 0 j = zlds c T' j := by
        intro j hj
        rw [e2, zsR_at, if_pos ⟨rfl, rfl⟩, zld_fl _ _ _ hj, rc]
      have r2 := hR.S f2
      have rc2 : cfgH h2 (cP c) = c := r2.2.2.2.2
      have held : ∀ m, m < 12 → (heldI h2 (nI T') (nI m) ↔ zhd c T' m = true) := by
        intro m hm
        rw [heldI_iff hT' rP r2.2.2.2.1 hm, rc2]
      have brs : ∀ m, brsI (kindI h2 (nI m)) (figI h2 (nI m)) = cB c m := by
        intro m
        rw [← rc2]
        rfl
      have inner : ∀ (f m : Nat), f + m = 12 → zT G (d + 5) mX12_settled 23 [zr 5 0, zi (nI T), zi (nI T'), zi (nI (zmk (zLZ c T') m)), zi (nI m)] [] h2 (fun r h' => r = some (zi (nI (stlN c (n + 1) T'))) ∧ h'.1 5 0 5 = nI (k + stpN c (n + 1) T') ∧ zfx eS h h') := by
        intro f
        induction f with
        | zero =>
          intro m hm
          have e : m = 12 := by omega
          subst e
          refine wX12_settled_23 ?_
          refine br_t (by decide) ?_
          rw [← zlz_mk, zi_not hT', k2]
          have z0 : nI (zlz c T') = 0 ↔ zlz c T' = 0 := by rw [zi_0]; exact zi_inj (zlz_lt c T') (by decide)
          refine ⟨fun e => ?_, fun e => ?_⟩
          · intro h3 e3
            have e' := z0.mp e
            rw [e, e', zsd_0 hT']
            refine wX12_settled_9 (br_t rfl ⟨?_, ?_, ?_⟩)
            · rw [stlN, if_pos e']
            · rw [e3, zs1_at, if_pos ⟨rfl, rfl, rfl⟩, stpN, if_pos e']
              simp
            · rw [e3]
              exact f2.tr (zfx.s1 eS h2 _ (by decide))
          · intro h3 e3
            have e' : zlz c T' ≠ 0 := fun q => e (z0.mpr q)
            have := ih (zsd T' (zlz c T')) (zsd_lt hT') (by have := zst_pc c hT' e'; omega) h3 (k + 1) (by rw [e3]; exact f2.tr (zfx.s1 eS h2 _ (by decide))) (by rw [e3, zs1_at, if_pos ⟨rfl, rfl, rfl⟩]; exact nI_1 k) _ e
            refine zT_mono this ?_
            rintro r h' ⟨q1, q2, q3⟩
            refine ⟨?_, ?_, q3⟩
            · rw [stlN, if_neg e']; exact q1
            · rw [stpN, if_neg e', q2]
              congr 1; omega
        | succ f ih2 =>
          intro m hm
          have hm' : m < 12 := by omega
          have IH := ih2 (m + 1) (by omega)
          have v : vp_in (nI m) 12 := vpn hm' (by decide)
          refine wX12_settled_23 ?_
          refine br_f (nI_ge (a := m) (b := 12) (by omega) (by decide)) ?_
          simp only [hasI_iff hT' (show m < 32 by omega), held m hm', brs, nI_cl (show m ≤ 4096 by omega), ld2 m hm', v, true_and, nI_1]
          by_cases t : T'.testBit m = true
          · by_cases hd : zhd c T' m = true
            · by_cases lb : zlds c T' m ≤ cB c m
              · have z : zLZ c T' m = false := by unfold zLZ; simp [hd, Int32.not_lt.mpr lb]
                rw [zmk_no _ z] at IH
                simp only [t, hd, lb, not_true_eq_false, Bool.false_eq_true, not_false_eq_true, false_imp_iff, true_imp_iff, true_and, and_true]
                exact IH
              · have z : zLZ c T' m = true := by unfold zLZ; simp [t, hd, Int32.not_le.mp lb]
                simp only [t, hd, lb, not_true_eq_false, Bool.false_eq_true, not_false_eq_true, false_imp_iff, true_imp_iff, true_and, and_true]
                rw [zi_mk _ hm' z]
                exact IH
            · have z : zLZ c T' m = true := by unfold zLZ; simp [t, hd]
              simp only [t, hd, not_true_eq_false, Bool.false_eq_true, not_false_eq_true, false_imp_iff, true_imp_iff, true_and, and_true]
              rw [zi_mk _ hm' z]
              exact IH
          · have z : zLZ c T' m = false := by unfold zLZ; simp [t]
            rw [zmk_no _ z] at IH
            simp only [t, not_true_eq_false, Bool.false_eq_true, not_false_eq_true, false_imp_iff, true_imp_iff, true_and, and_true]
            exact IH
      exact inner 12 0 (by omega)
  have hz := zpc_le T
  have := key 13 T hT (by omega) h0 0 (by rw [e0]; exact zfx.s1 eS h _ (by decide)) (by rw [e0, zs1_at, if_pos ⟨rfl, rfl, rfl⟩]; rfl) (-1) (by decide)
  refine zT_mono this ?_
  rintro r h' ⟨q1, q2, q3⟩
  exact ⟨q1, by rw [q2, Nat.zero_add]; rfl, q3⟩
end
section
/-! ===== the bytecode of these methods, walked (by program): X4_restsIn X4_looseIn X4_leftOf X4_stepsFrom X4_settle X12_leftWithout X12_fallsOf X12_safeOf X12_noteWithout X4_weighIn X4_weighAll X3_leftOf X3_fallenWithout X3_countWithout X3_isSafeIn X4_lay X4_takeOut X4_turnProp X4_becomeAs X12_laysAt ===== -/
theorem kX4_restsIn_0 : zD cX4_restsIn 0 1 (.iload_n 2) 1 := by decide +kernel
theorem kX4_restsIn_1 : zD cX4_restsIn 1 2 (.iconst 4) 1 := by decide +kernel
theorem kX4_restsIn_2 : zD cX4_restsIn 2 3 (.isub) 1 := by decide +kernel
theorem kX4_restsIn_3 : zD cX4_restsIn 3 4 (.istore_n 3) 1 := by decide +kernel
theorem kX4_restsIn_4 : zD cX4_restsIn 4 5 (.aload_n 0) 1 := by decide +kernel
theorem kX4_restsIn_5 : zD cX4_restsIn 5 8 (.getfield 18) 3 := by decide +kernel
theorem kX4_restsIn_8 : zD cX4_restsIn 8 9 (.iload_n 2) 1 := by decide +kernel
theorem kX4_restsIn_9 : zD cX4_restsIn 9 10 (.iaload) 1 := by decide +kernel
theorem kX4_restsIn_10 : zD cX4_restsIn 10 11 (.aload_n 0) 1 := by decide +kernel
theorem kX4_restsIn_11 : zD cX4_restsIn 11 14 (.getfield 27) 3 := by decide +kernel
theorem kX4_restsIn_14 : zD cX4_restsIn 14 15 (.iload_n 2) 1 := by decide +kernel
theorem kX4_restsIn_15 : zD cX4_restsIn 15 16 (.iaload) 1 := by decide +kernel
theorem kX4_restsIn_16 : zD cX4_restsIn 16 17 (.iadd) 1 := by decide +kernel
theorem kX4_restsIn_17 : zD cX4_restsIn 17 19 (.istore 4) 2 := by decide +kernel
theorem kX4_restsIn_19 : zD cX4_restsIn 19 20 (.iload_n 1) 1 := by decide +kernel
theorem kX4_restsIn_20 : zD cX4_restsIn 20 21 (.iload_n 3) 1 := by decide +kernel
theorem kX4_restsIn_21 : zD cX4_restsIn 21 22 (.ishr) 1 := by decide +kernel
theorem kX4_restsIn_22 : zD cX4_restsIn 22 23 (.iconst 1) 1 := by decide +kernel
theorem kX4_restsIn_23 : zD cX4_restsIn 23 24 (.iand) 1 := by decide +kernel
theorem kX4_restsIn_24 : zB cX4_restsIn 24 27 40 (.ifCond .eq 16) 16 := by decide +kernel
theorem kX4_restsIn_27 : zD cX4_restsIn 27 28 (.aload_n 0) 1 := by decide +kernel
theorem kX4_restsIn_28 : zD cX4_restsIn 28 31 (.getfield 27) 3 := by decide +kernel
theorem kX4_restsIn_31 : zD cX4_restsIn 31 32 (.iload_n 3) 1 := by decide +kernel
theorem kX4_restsIn_32 : zD cX4_restsIn 32 33 (.dup2) 1 := by decide +kernel
theorem kX4_restsIn_33 : zD cX4_restsIn 33 34 (.iaload) 1 := by decide +kernel
theorem kX4_restsIn_34 : zD cX4_restsIn 34 36 (.iload 4) 2 := by decide +kernel
theorem kX4_restsIn_36 : zD cX4_restsIn 36 37 (.iadd) 1 := by decide +kernel
theorem kX4_restsIn_37 : zD cX4_restsIn 37 38 (.iastore) 1 := by decide +kernel
theorem kX4_restsIn_38 : zD cX4_restsIn 38 39 (.iconst 1) 1 := by decide +kernel
theorem kX4_restsIn_39 : zD cX4_restsIn 39 40 (.ireturn) 1 := by decide +kernel
theorem kX4_restsIn_40 : zD cX4_restsIn 40 41 (.iload_n 2) 1 := by decide +kernel
theorem kX4_restsIn_41 : zD cX4_restsIn 41 42 (.iconst 4) 1 := by decide +kernel
theorem kX4_restsIn_42 : zD cX4_restsIn 42 43 (.irem) 1 := by decide +kernel
theorem kX4_restsIn_43 : zB cX4_restsIn 43 46 60 (.ifCond .le 17) 17 := by decide +kernel
theorem kX4_restsIn_46 : zD cX4_restsIn 46 47 (.iload_n 1) 1 := by decide +kernel
theorem kX4_restsIn_47 : zD cX4_restsIn 47 48 (.iload_n 3) 1 := by decide +kernel
theorem kX4_restsIn_48 : zD cX4_restsIn 48 49 (.iconst 1) 1 := by decide +kernel
theorem kX4_restsIn_49 : zD cX4_restsIn 49 50 (.isub) 1 := by decide +kernel
theorem kX4_restsIn_50 : zD cX4_restsIn 50 51 (.ishr) 1 := by decide +kernel
theorem kX4_restsIn_51 : zD cX4_restsIn 51 52 (.iconst 1) 1 := by decide +kernel
theorem kX4_restsIn_52 : zD cX4_restsIn 52 53 (.iand) 1 := by decide +kernel
theorem kX4_restsIn_53 : zB cX4_restsIn 53 56 60 (.ifCond .eq 7) 7 := by decide +kernel
theorem kX4_restsIn_56 : zD cX4_restsIn 56 57 (.iconst 1) 1 := by decide +kernel
theorem kX4_restsIn_57 : zB cX4_restsIn 57 60 61 (.goto 4) 4 := by decide +kernel
theorem kX4_restsIn_60 : zD cX4_restsIn 60 61 (.iconst 0) 1 := by decide +kernel
theorem kX4_restsIn_61 : zD cX4_restsIn 61 63 (.istore 5) 2 := by decide +kernel
theorem kX4_restsIn_63 : zD cX4_restsIn 63 64 (.iload_n 2) 1 := by decide +kernel
theorem kX4_restsIn_64 : zD cX4_restsIn 64 65 (.iconst 4) 1 := by decide +kernel
theorem kX4_restsIn_65 : zD cX4_restsIn 65 66 (.irem) 1 := by decide +kernel
theorem kX4_restsIn_66 : zD cX4_restsIn 66 67 (.iconst 3) 1 := by decide +kernel
theorem kX4_restsIn_67 : zB cX4_restsIn 67 70 84 (.if_icmp .ge 17) 17 := by decide +kernel
theorem kX4_restsIn_70 : zD cX4_restsIn 70 71 (.iload_n 1) 1 := by decide +kernel
theorem kX4_restsIn_71 : zD cX4_restsIn 71 72 (.iload_n 3) 1 := by decide +kernel
theorem kX4_restsIn_72 : zD cX4_restsIn 72 73 (.iconst 1) 1 := by decide +kernel
theorem kX4_restsIn_73 : zD cX4_restsIn 73 74 (.iadd) 1 := by decide +kernel
theorem kX4_restsIn_74 : zD cX4_restsIn 74 75 (.ishr) 1 := by decide +kernel
theorem kX4_restsIn_75 : zD cX4_restsIn 75 76 (.iconst 1) 1 := by decide +kernel
theorem kX4_restsIn_76 : zD cX4_restsIn 76 77 (.iand) 1 := by decide +kernel
theorem kX4_restsIn_77 : zB cX4_restsIn 77 80 84 (.ifCond .eq 7) 7 := by decide +kernel
theorem kX4_restsIn_80 : zD cX4_restsIn 80 81 (.iconst 1) 1 := by decide +kernel
theorem kX4_restsIn_81 : zB cX4_restsIn 81 84 85 (.goto 4) 4 := by decide +kernel
theorem kX4_restsIn_84 : zD cX4_restsIn 84 85 (.iconst 0) 1 := by decide +kernel
theorem kX4_restsIn_85 : zD cX4_restsIn 85 87 (.istore 6) 2 := by decide +kernel
theorem kX4_restsIn_87 : zD cX4_restsIn 87 88 (.aload_n 0) 1 := by decide +kernel
theorem kX4_restsIn_88 : zD cX4_restsIn 88 91 (.getfield 24) 3 := by decide +kernel
theorem kX4_restsIn_91 : zD cX4_restsIn 91 92 (.iload_n 2) 1 := by decide +kernel
theorem kX4_restsIn_92 : zD cX4_restsIn 92 93 (.iaload) 1 := by decide +kernel
theorem kX4_restsIn_93 : decode cX4_restsIn 93 = .ok (.tableswitch 133 1 3 #[27, 74, 112], 27) := by decide +kernel
theorem kX4_restsIn_120 : zD cX4_restsIn 120 122 (.iload 5) 2 := by decide +kernel
theorem kX4_restsIn_122 : zB cX4_restsIn 122 125 130 (.ifCond .eq 8) 8 := by decide +kernel
theorem kX4_restsIn_125 : zD cX4_restsIn 125 127 (.iload 6) 2 := by decide +kernel
theorem kX4_restsIn_127 : zB cX4_restsIn 127 130 132 (.ifCond .ne 5) 5 := by decide +kernel
theorem kX4_restsIn_130 : zD cX4_restsIn 130 131 (.iconst 0) 1 := by decide +kernel
theorem kX4_restsIn_131 : zD cX4_restsIn 131 132 (.ireturn) 1 := by decide +kernel
theorem kX4_restsIn_132 : zD cX4_restsIn 132 133 (.aload_n 0) 1 := by decide +kernel
theorem kX4_restsIn_133 : zD cX4_restsIn 133 136 (.getfield 27) 3 := by decide +kernel
theorem kX4_restsIn_136 : zD cX4_restsIn 136 137 (.iload_n 3) 1 := by decide +kernel
theorem kX4_restsIn_137 : zD cX4_restsIn 137 138 (.iconst 1) 1 := by decide +kernel
theorem kX4_restsIn_138 : zD cX4_restsIn 138 139 (.isub) 1 := by decide +kernel
theorem kX4_restsIn_139 : zD cX4_restsIn 139 140 (.dup2) 1 := by decide +kernel
theorem kX4_restsIn_140 : zD cX4_restsIn 140 141 (.iaload) 1 := by decide +kernel
theorem kX4_restsIn_141 : zD cX4_restsIn 141 143 (.iload 4) 2 := by decide +kernel
theorem kX4_restsIn_143 : zD cX4_restsIn 143 144 (.iconst 2) 1 := by decide +kernel
theorem kX4_restsIn_144 : zD cX4_restsIn 144 145 (.idiv) 1 := by decide +kernel
theorem kX4_restsIn_145 : zD cX4_restsIn 145 146 (.iadd) 1 := by decide +kernel
theorem kX4_restsIn_146 : zD cX4_restsIn 146 147 (.iastore) 1 := by decide +kernel
theorem kX4_restsIn_147 : zD cX4_restsIn 147 148 (.aload_n 0) 1 := by decide +kernel
theorem kX4_restsIn_148 : zD cX4_restsIn 148 151 (.getfield 27) 3 := by decide +kernel
theorem kX4_restsIn_151 : zD cX4_restsIn 151 152 (.iload_n 3) 1 := by decide +kernel
theorem kX4_restsIn_152 : zD cX4_restsIn 152 153 (.iconst 1) 1 := by decide +kernel
theorem kX4_restsIn_153 : zD cX4_restsIn 153 154 (.iadd) 1 := by decide +kernel
theorem kX4_restsIn_154 : zD cX4_restsIn 154 155 (.dup2) 1 := by decide +kernel
theorem kX4_restsIn_155 : zD cX4_restsIn 155 156 (.iaload) 1 := by decide +kernel
theorem kX4_restsIn_156 : zD cX4_restsIn 156 158 (.iload 4) 2 := by decide +kernel
theorem kX4_restsIn_158 : zD cX4_restsIn 158 160 (.iload 4) 2 := by decide +kernel
theorem kX4_restsIn_160 : zD cX4_restsIn 160 161 (.iconst 2) 1 := by decide +kernel
theorem kX4_restsIn_161 : zD cX4_restsIn 161 162 (.idiv) 1 := by decide +kernel
theorem kX4_restsIn_162 : zD cX4_restsIn 162 163 (.isub) 1 := by decide +kernel
theorem kX4_restsIn_163 : zD cX4_restsIn 163 164 (.iadd) 1 := by decide +kernel
theorem kX4_restsIn_164 : zD cX4_restsIn 164 165 (.iastore) 1 := by decide +kernel
theorem kX4_restsIn_165 : zD cX4_restsIn 165 166 (.iconst 1) 1 := by decide +kernel
theorem kX4_restsIn_166 : zD cX4_restsIn 166 167 (.ireturn) 1 := by decide +kernel
theorem kX4_restsIn_167 : zD cX4_restsIn 167 169 (.iload 5) 2 := by decide +kernel
theorem kX4_restsIn_169 : zB cX4_restsIn 169 172 179 (.ifCond .ne 10) 10 := by decide +kernel
theorem kX4_restsIn_172 : zD cX4_restsIn 172 174 (.iload 6) 2 := by decide +kernel
theorem kX4_restsIn_174 : zB cX4_restsIn 174 177 179 (.ifCond .ne 5) 5 := by decide +kernel
theorem kX4_restsIn_177 : zD cX4_restsIn 177 178 (.iconst 0) 1 := by decide +kernel
theorem kX4_restsIn_178 : zD cX4_restsIn 178 179 (.ireturn) 1 := by decide +kernel
theorem kX4_restsIn_179 : zD cX4_restsIn 179 180 (.aload_n 0) 1 := by decide +kernel
theorem kX4_restsIn_180 : zD cX4_restsIn 180 183 (.getfield 27) 3 := by decide +kernel
theorem kX4_restsIn_183 : zD cX4_restsIn 183 185 (.iload 5) 2 := by decide +kernel
theorem kX4_restsIn_185 : zB cX4_restsIn 185 188 194 (.ifCond .eq 9) 9 := by decide +kernel
theorem kX4_restsIn_188 : zD cX4_restsIn 188 189 (.iload_n 3) 1 := by decide +kernel
theorem kX4_restsIn_189 : zD cX4_restsIn 189 190 (.iconst 1) 1 := by decide +kernel
theorem kX4_restsIn_190 : zD cX4_restsIn 190 191 (.isub) 1 := by decide +kernel
theorem kX4_restsIn_191 : zB cX4_restsIn 191 194 197 (.goto 6) 6 := by decide +kernel
theorem kX4_restsIn_194 : zD cX4_restsIn 194 195 (.iload_n 3) 1 := by decide +kernel
theorem kX4_restsIn_195 : zD cX4_restsIn 195 196 (.iconst 1) 1 := by decide +kernel
theorem kX4_restsIn_196 : zD cX4_restsIn 196 197 (.iadd) 1 := by decide +kernel
theorem kX4_restsIn_197 : zD cX4_restsIn 197 198 (.dup2) 1 := by decide +kernel
theorem kX4_restsIn_198 : zD cX4_restsIn 198 199 (.iaload) 1 := by decide +kernel
theorem kX4_restsIn_199 : zD cX4_restsIn 199 201 (.iload 4) 2 := by decide +kernel
theorem kX4_restsIn_201 : zD cX4_restsIn 201 202 (.iadd) 1 := by decide +kernel
theorem kX4_restsIn_202 : zD cX4_restsIn 202 203 (.iastore) 1 := by decide +kernel
theorem kX4_restsIn_203 : zD cX4_restsIn 203 204 (.iconst 1) 1 := by decide +kernel
theorem kX4_restsIn_204 : zD cX4_restsIn 204 205 (.ireturn) 1 := by decide +kernel
theorem kX4_restsIn_205 : zD cX4_restsIn 205 206 (.iload_n 1) 1 := by decide +kernel
theorem kX4_restsIn_206 : zD cX4_restsIn 206 207 (.aload_n 0) 1 := by decide +kernel
theorem kX4_restsIn_207 : zD cX4_restsIn 207 210 (.getfield 37) 3 := by decide +kernel
theorem kX4_restsIn_210 : zD cX4_restsIn 210 211 (.iand) 1 := by decide +kernel
theorem kX4_restsIn_211 : zD cX4_restsIn 211 214 (.getstatic 89) 3 := by decide +kernel
theorem kX4_restsIn_214 : zD cX4_restsIn 214 215 (.iload_n 2) 1 := by decide +kernel
theorem kX4_restsIn_215 : zD cX4_restsIn 215 216 (.iaload) 1 := by decide +kernel
theorem kX4_restsIn_216 : zD cX4_restsIn 216 217 (.iand) 1 := by decide +kernel
theorem kX4_restsIn_217 : zB cX4_restsIn 217 220 224 (.ifCond .eq 7) 7 := by decide +kernel
theorem kX4_restsIn_220 : zD cX4_restsIn 220 221 (.iconst 1) 1 := by decide +kernel
theorem kX4_restsIn_221 : zB cX4_restsIn 221 224 225 (.goto 4) 4 := by decide +kernel
theorem kX4_restsIn_224 : zD cX4_restsIn 224 225 (.iconst 0) 1 := by decide +kernel
theorem kX4_restsIn_225 : zD cX4_restsIn 225 226 (.ireturn) 1 := by decide +kernel
theorem kX4_restsIn_226 : zD cX4_restsIn 226 227 (.iconst 0) 1 := by decide +kernel
theorem kX4_restsIn_227 : zD cX4_restsIn 227 228 (.ireturn) 1 := by decide +kernel
set_option maxRecDepth 10000 in
theorem wX4_restsIn_0 {G : ZG} {d : Nat} {h : ZH} {Q : Option ZV → ZH → Prop} {i0 : Nat} {x1 : Int32} {x2 : Int32} (hi0 : i0 < zcnt 2)
  (H : vp_in x2 12 ∧ vp_in x2 12 ∧ ∀ y1 : Int32, y1 = ((h.1 12 i0 x2.toNatClampNeg) + (h.1 15 i0 x2.toNatClampNeg)) → (((x1 >>> ((x2 - 4) &&& 31)) &&& 1) = 0 → ((x2 - x2 / 4 * 4) ≤ 0 → (3 ≤ (x2 - x2 / 4 * 4) → vp_in x2 12 ∧ ((h.1 14 i0 x2.toNatClampNeg) = 1 → Q (some (zi 0)) h) ∧ (¬ (h.1 14 i0 x2.toNatClampNeg) = 1 → ((h.1 14 i0 x2.toNatClampNeg) = 2 → Q (some (zi 0)) h) ∧ (¬ (h.1 14 i0 x2.toNatClampNeg) = 2 → ((h.1 14 i0 x2.toNatClampNeg) = 3 → vp_in x2 12 ∧ (((x1 &&& (h.1 2 i0 8)) &&& (zbes x2.toNatClampNeg)) = 0 → Q (some (zi 0)) h) ∧ (¬ ((x1 &&& (h.1 2 i0 8)) &&& (zbes x2.toNatClampNeg)) = 0 → Q (some (zi 1)) h)) ∧ (¬ (h.1 14 i0 x2.toNatClampNeg) = 3 → Q (some (zi 0)) h)))) ∧ (¬ 3 ≤ (x2 - x2 / 4 * 4) → (((x1 >>> (((x2 - 4) + 1) &&& 31)) &&& 1) = 0 → vp_in x2 12 ∧ ((h.1 14 i0 x2.toNatClampNeg) = 1 → Q (some (zi 0)) h) ∧ (¬ (h.1 14 i0 x2.toNatClampNeg) = 1 → ((h.1 14 i0 x2.toNatClampNeg) = 2 → Q (some (zi 0)) h) ∧ (¬ (h.1 14 i0 x2.toNatClampNeg) = 2 → ((h.1 14 i0 x2.toNatClampNeg) = 3 → vp_in x2 12 ∧ (((x1 &&& (h.1 2 i0 8)) &&& (zbes x2.toNatClampNeg)) = 0 → Q (some (zi 0)) h) ∧ (¬ ((x1 &&& (h.1 2 i0 8)) &&& (zbes x2.toNatClampNeg)) = 0 → Q (some (zi 1)) h)) ∧ (¬ (h.1 14 i0 x2.toNatClampNeg) = 3 → Q (some (zi 0)) h)))) ∧ (¬ ((x1 >>> (((x2 - 4) + 1) &&& 31)) &&& 1) = 0 → vp_in x2 12 ∧ ((h.1 14 i0 x2.toNatClampNeg) = 1 → Q (some (zi 0)) h) ∧ (¬ (h.1 14 i0 x2.toNatClampNeg) = 1 → ((h.1 14 i0 x2.toNatClampNeg) = 2 → vp_in ((x2 - 4) + 1) 12 ∧ vp_in ((x2 - 4) + 1) 12 ∧ (∀ h2 : ZH, h2 = zs1 h 15 i0 ((x2 - 4) + 1).toNatClampNeg ((h.1 15 i0 ((x2 - 4) + 1).toNatClampNeg) + y1) → Q (some (zi 1)) h2)) ∧ (¬ (h.1 14 i0 x2.toNatClampNeg) = 2 → ((h.1 14 i0 x2.toNatClampNeg) = 3 → vp_in x2 12 ∧ (((x1 &&& (h.1 2 i0 8)) &&& (zbes x2.toNatClampNeg)) = 0 → Q (some (zi 0)) h) ∧ (¬ ((x1 &&& (h.1 2 i0 8)) &&& (zbes x2.toNatClampNeg)) = 0 → Q (some (zi 1)) h)) ∧ (¬ (h.1 14 i0 x2.toNatClampNeg) = 3 → Q (some (zi 0)) h)))))) ∧ (¬ (x2 - x2 / 4 * 4) ≤ 0 → (((x1 >>> (((x2 - 4) - 1) &&& 31)) &&& 1) = 0 → (3 ≤ (x2 - x2 / 4 * 4) → vp_in x2 12 ∧ ((h.1 14 i0 x2.toNatClampNeg) = 1 → Q (some (zi 0)) h) ∧ (¬ (h.1 14 i0 x2.toNatClampNeg) = 1 → ((h.1 14 i0 x2.toNatClampNeg) = 2 → Q (some (zi 0)) h) ∧ (¬ (h.1 14 i0 x2.toNatClampNeg) = 2 → ((h.1 14 i0 x2.toNatClampNeg) = 3 → vp_in x2 12 ∧ (((x1 &&& (h.1 2 i0 8)) &&& (zbes x2.toNatClampNeg)) = 0 → Q (some (zi 0)) h) ∧ (¬ ((x1 &&& (h.1 2 i0 8)) &&& (zbes x2.toNatClampNeg)) = 0 → Q (some (zi 1)) h)) ∧ (¬ (h.1 14 i0 x2.toNatClampNeg) = 3 → Q (some (zi 0)) h)))) ∧ (¬ 3 ≤ (x2 - x2 / 4 * 4) → (((x1 >>> (((x2 - 4) + 1) &&& 31)) &&& 1) = 0 → vp_in x2 12 ∧ ((h.1 14 i0 x2.toNatClampNeg) = 1 → Q (some (zi 0)) h) ∧ (¬ (h.1 14 i0 x2.toNatClampNeg) = 1 → ((h.1 14 i0 x2.toNatClampNeg) = 2 → Q (some (zi 0)) h) ∧ (¬ (h.1 14 i0 x2.toNatClampNeg) = 2 → ((h.1 14 i0 x2.toNatClampNeg) = 3 → vp_in x2 12 ∧ (((x1 &&& (h.1 2 i0 8)) &&& (zbes x2.toNatClampNeg)) = 0 → Q (some (zi 0)) h) ∧ (¬ ((x1 &&& (h.1 2 i0 8)) &&& (zbes x2.toNatClampNeg)) = 0 → Q (some (zi 1)) h)) ∧ (¬ (h.1 14 i0 x2.toNatClampNeg) = 3 → Q (some (zi 0)) h)))) ∧ (¬ ((x1 >>> (((x2 - 4) + 1) &&& 31)) &&& 1) = 0 → vp_in x2 12 ∧ ((h.1 14 i0 x2.toNatClampNeg) = 1 → Q (some (zi 0)) h) ∧ (¬ (h.1 14 i0 x2.toNatClampNeg) = 1 → ((h.1 14 i0 x2.toNatClampNeg) = 2 → vp_in ((x2 - 4) + 1) 12 ∧ vp_in ((x2 - 4) + 1) 12 ∧ (∀ h3 : ZH, h3 = zs1 h 15 i0 ((x2 - 4) + 1).toNatClampNeg ((h.1 15 i0 ((x2 - 4) + 1).toNatClampNeg) + y1) → Q (some (zi 1)) h3)) ∧ (¬ (h.1 14 i0 x2.toNatClampNeg) = 2 → ((h.1 14 i0 x2.toNatClampNeg) = 3 → vp_in x2 12 ∧ (((x1 &&& (h.1 2 i0 8)) &&& (zbes x2.toNatClampNeg)) = 0 → Q (some (zi 0)) h) ∧ (¬ ((x1 &&& (h.1 2 i0 8)) &&& (zbes x2.toNatClampNeg)) = 0 → Q (some (zi 1)) h)) ∧ (¬ (h.1 14 i0 x2.toNatClampNeg) = 3 → Q (some (zi 0)) h)))))) ∧ (¬ ((x1 >>> (((x2 - 4) - 1) &&& 31)) &&& 1) = 0 → (3 ≤ (x2 - x2 / 4 * 4) → vp_in x2 12 ∧ ((h.1 14 i0 x2.toNatClampNeg) = 1 → Q (some (zi 0)) h) ∧ (¬ (h.1 14 i0 x2.toNatClampNeg) = 1 → ((h.1 14 i0 x2.toNatClampNeg) = 2 → vp_in ((x2 - 4) - 1) 12 ∧ vp_in ((x2 - 4) - 1) 12 ∧ (∀ h4 : ZH, h4 = zs1 h 15 i0 ((x2 - 4) - 1).toNatClampNeg ((h.1 15 i0 ((x2 - 4) - 1).toNatClampNeg) + y1) → Q (some (zi 1)) h4)) ∧ (¬ (h.1 14 i0 x2.toNatClampNeg) = 2 → ((h.1 14 i0 x2.toNatClampNeg) = 3 → vp_in x2 12 ∧ (((x1 &&& (h.1 2 i0 8)) &&& (zbes x2.toNatClampNeg)) = 0 → Q (some (zi 0)) h) ∧ (¬ ((x1 &&& (h.1 2 i0 8)) &&& (zbes x2.toNatClampNeg)) = 0 → Q (some (zi 1)) h)) ∧ (¬ (h.1 14 i0 x2.toNatClampNeg) = 3 → Q (some (zi 0)) h)))) ∧ (¬ 3 ≤ (x2 - x2 / 4 * 4) → (((x1 >>> (((x2 - 4) + 1) &&& 31)) &&& 1) = 0 → vp_in x2 12 ∧ ((h.1 14 i0 x2.toNatClampNeg) = 1 → Q (some (zi 0)) h) ∧ (¬ (h.1 14 i0 x2.toNatClampNeg) = 1 → ((h.1 14 i0 x2.toNatClampNeg) = 2 → vp_in ((x2 - 4) - 1) 12 ∧ vp_in ((x2 - 4) - 1) 12 ∧ (∀ h5 : ZH, h5 = zs1 h 15 i0 ((x2 - 4) - 1).toNatClampNeg ((h.1 15 i0 ((x2 - 4) - 1).toNatClampNeg) + y1) → Q (some (zi 1)) h5)) ∧ (¬ (h.1 14 i0 x2.toNatClampNeg) = 2 → ((h.1 14 i0 x2.toNatClampNeg) = 3 → vp_in x2 12 ∧ (((x1 &&& (h.1 2 i0 8)) &&& (zbes x2.toNatClampNeg)) = 0 → Q (some (zi 0)) h) ∧ (¬ ((x1 &&& (h.1 2 i0 8)) &&& (zbes x2.toNatClampNeg)) = 0 → Q (some (zi 1)) h)) ∧ (¬ (h.1 14 i0 x2.toNatClampNeg) = 3 → Q (some (zi 0)) h)))) ∧ (¬ ((x1 >>> (((x2 - 4) + 1) &&& 31)) &&& 1) = 0 → vp_in x2 12 ∧ ((h.1 14 i0 x2.toNatClampNeg) = 1 → vp_in ((x2 - 4) - 1) 12 ∧ vp_in ((x2 - 4) - 1) 12 ∧ (∀ h6 : ZH, h6 = zs1 h 15 i0 ((x2 - 4) - 1).toNatClampNeg ((h.1 15 i0 ((x2 - 4) - 1).toNatClampNeg) + (y1 / 2)) → vp_in ((x2 - 4) + 1) 12 ∧ vp_in ((x2 - 4) + 1) 12 ∧ (∀ h7 : ZH, h7 = zs1 h6 15 i0 ((x2 - 4) + 1).toNatClampNeg ((h6.1 15 i0 ((x2 - 4) + 1).toNatClampNeg) + (y1 - (y1 / 2))) → Q (some (zi 1)) h7))) ∧ (¬ (h.1 14 i0 x2.toNatClampNeg) = 1 → ((h.1 14 i0 x2.toNatClampNeg) = 2 → vp_in ((x2 - 4) - 1) 12 ∧ vp_in ((x2 - 4) - 1) 12 ∧ (∀ h8 : ZH, h8 = zs1 h 15 i0 ((x2 - 4) - 1).toNatClampNeg ((h.1 15 i0 ((x2 - 4) - 1).toNatClampNeg) + y1) → Q (some (zi 1)) h8)) ∧ (¬ (h.1 14 i0 x2.toNatClampNeg) = 2 → ((h.1 14 i0 x2.toNatClampNeg) = 3 → vp_in x2 12 ∧ (((x1 &&& (h.1 2 i0 8)) &&& (zbes x2.toNatClampNeg)) = 0 → Q (some (zi 0)) h) ∧ (¬ ((x1 &&& (h.1 2 i0 8)) &&& (zbes x2.toNatClampNeg)) = 0 → Q (some (zi 1)) h)) ∧ (¬ (h.1 14 i0 x2.toNatClampNeg) = 3 → Q (some (zi 0)) h)))))))) ∧ (¬ ((x1 >>> ((x2 - 4) &&& 31)) &&& 1) = 0 → vp_in (x2 - 4) 12 ∧ vp_in (x2 - 4) 12 ∧ (∀ h9 : ZH, h9 = zs1 h 15 i0 (x2 - 4).toNatClampNeg ((h.1 15 i0 (x2 - 4).toNatClampNeg) + y1) → Q (some (zi 1)) h9))) :
  zT G (d + 1) mX4_restsIn 0 [zr 2 i0, zi x1, zi x2, zu, zu, zu, zu] [] h Q := by
  refine zt_iload_n kX4_restsIn_0 rfl ?_
  refine zt_iconst (v := 4) kX4_restsIn_1 rfl ?_
  refine zt_isub kX4_restsIn_2 ?_
  refine zt_istore_n (L' := [zr 2 i0, zi x1, zi x2, zi (x2 - 4), zu, zu, zu]) kX4_restsIn_3 (by decide) rfl ?_
  refine zt_aload_n kX4_restsIn_4 rfl ?_
  refine zt_get (v := zr 12 i0) kX4_restsIn_5 fRX4_18 rfl hi0 rfl ?_
  refine zt_iload_n kX4_restsIn_8 rfl ?_
  obtain ⟨hv, H⟩ := H
  refine zt_iald kX4_restsIn_9 rfl hi0 hv ?_
  refine zt_aload_n kX4_restsIn_10 rfl ?_
  refine zt_get (v := zr 15 i0) kX4_restsIn_11 fRX4_27 rfl hi0 rfl ?_
  refine zt_iload_n kX4_restsIn_14 rfl ?_
  obtain ⟨hv, H⟩ := H
  refine zt_iald kX4_restsIn_15 rfl hi0 hv ?_
  refine zt_iadd kX4_restsIn_16 ?_
  refine zt_topi (fun y1 ey1 => ?_)
  replace H := H y1 ey1
  refine zt_istore (L' := [zr 2 i0, zi x1, zi x2, zi (x2 - 4), zi y1, zu, zu]) kX4_restsIn_17 (by decide) rfl ?_
  refine zt_iload_n kX4_restsIn_19 rfl ?_
  refine zt_iload_n kX4_restsIn_20 rfl ?_
  refine zt_ishr kX4_restsIn_21 ?_
  refine zt_iconst (v := 1) kX4_restsIn_22 rfl ?_
  refine zt_iand kX4_restsIn_23 ?_
  refine zt_if_eq kX4_restsIn_24 (fun c => ?_) (fun c => ?_)
  · replace H := H.1 c
    refine zt_iload_n kX4_restsIn_40 rfl ?_
    refine zt_iconst (v := 4) kX4_restsIn_41 rfl ?_
    refine zt_irem kX4_restsIn_42 (by decide) ?_
    refine zt_if_le kX4_restsIn_43 (fun c => ?_) (fun c => ?_)
    · replace H := H.1 c
      refine zt_iconst (v := 0) kX4_restsIn_60 rfl ?_
      refine zt_istore (L' := [zr 2 i0, zi x1, zi x2, zi (x2 - 4), zi y1, zi 0, zu]) kX4_restsIn_61 (by decide) rfl ?_
      refine zt_iload_n kX4_restsIn_63 rfl ?_
      refine zt_iconst (v := 4) kX4_restsIn_64 rfl ?_
      refine zt_irem kX4_restsIn_65 (by decide) ?_
      refine zt_iconst (v := 3) kX4_restsIn_66 rfl ?_
      refine zt_icmp_ge kX4_restsIn_67 (fun c => ?_) (fun c => ?_)
      · replace H := H.1 c
        refine zt_iconst (v := 0) kX4_restsIn_84 rfl ?_
        refine zt_istore (L' := [zr 2 i0, zi x1, zi x2, zi (x2 - 4), zi y1, zi 0, zi 0]) kX4_restsIn_85 (by decide) rfl ?_
        refine zt_aload_n kX4_restsIn_87 rfl ?_
        refine zt_get (v := zr 14 i0) kX4_restsIn_88 fRX4_24 rfl hi0 rfl ?_
        refine zt_iload_n kX4_restsIn_91 rfl ?_
        obtain ⟨hv, H⟩ := H
        refine zt_iald kX4_restsIn_92 rfl hi0 hv ?_
        rcases Classical.em ((h.1 14 i0 x2.toNatClampNeg) = 1) with c0 | c0
        · replace H := H.1 c0
          refine zt_tabIn (tgt := 120) kX4_restsIn_93 (by rw [c0]; decide) (by rw [c0]; decide) (by rw [c0]; rfl) (by decide) ?_
          refine zt_iload kX4_restsIn_120 rfl ?_
          refine zt_if_eq kX4_restsIn_122 (fun _ => ?_) (fun c => absurd c (by decide))
          refine zt_iconst (v := 0) kX4_restsIn_130 rfl ?_
          exact zt_zret kX4_restsIn_131 rfl (by decide) H
        replace H := H.2 c0
        rcases Classical.em ((h.1 14 i0 x2.toNatClampNeg) = 2) with c1 | c1
        · replace H := H.1 c1
          refine zt_tabIn (tgt := 167) kX4_restsIn_93 (by rw [c1]; decide) (by rw [c1]; decide) (by rw [c1]; rfl) (by decide) ?_
          refine zt_iload kX4_restsIn_167 rfl ?_
          refine zt_if_ne kX4_restsIn_169 (fun c => absurd c (by decide)) (fun _ => ?_)
          refine zt_iload kX4_restsIn_172 rfl ?_
          refine zt_if_ne kX4_restsIn_174 (fun c => absurd c (by decide)) (fun _ => ?_)
          refine zt_iconst (v := 0) kX4_restsIn_177 rfl ?_
          exact zt_zret kX4_restsIn_178 rfl (by decide) H
        replace H := H.2 c1
        rcases Classical.em ((h.1 14 i0 x2.toNatClampNeg) = 3) with c2 | c2
        · replace H := H.1 c2
          refine zt_tabIn (tgt := 205) kX4_restsIn_93 (by rw [c2]; decide) (by rw [c2]; decide) (by rw [c2]; rfl) (by decide) ?_
          refine zt_iload_n kX4_restsIn_205 rfl ?_
          refine zt_aload_n kX4_restsIn_206 rfl ?_
          refine zt_get (v := zi (h.1 2 i0 8)) kX4_restsIn_207 fRX4_37 rfl hi0 rfl ?_
          refine zt_iand kX4_restsIn_210 ?_
          refine zt_bes kX4_restsIn_211 wn_298 ?_
          refine zt_iload_n kX4_restsIn_214 rfl ?_
          obtain ⟨hv, H⟩ := H
          refine zt_besld kX4_restsIn_215 hv ?_
          refine zt_iand kX4_restsIn_216 ?_
          refine zt_if_eq kX4_restsIn_217 (fun c => ?_) (fun c => ?_)
          · replace H := H.1 c
            refine zt_iconst (v := 0) kX4_restsIn_224 rfl ?_
            exact zt_zret kX4_restsIn_225 rfl (by decide) H
          · replace H := H.2 c
            refine zt_iconst (v := 1) kX4_restsIn_220 rfl ?_
            refine zt_goto kX4_restsIn_221 ?_
            exact zt_zret kX4_restsIn_225 rfl (by decide) H
        replace H := H.2 c2
        refine zt_tabOut (tgt := 226) kX4_restsIn_93 (by have n0 := lv_neT (a := 1) c0 rfl; have n1 := lv_neT (a := 2) c1 rfl; have n2 := lv_neT (a := 3) c2 rfl; omega) (by decide) ?_
        refine zt_iconst (v := 0) kX4_restsIn_226 rfl ?_
        exact zt_zret kX4_restsIn_227 rfl (by decide) H
      · replace H := H.2 c
        refine zt_iload_n kX4_restsIn_70 rfl ?_
        refine zt_iload_n kX4_restsIn_71 rfl ?_
        refine zt_iconst (v := 1) kX4_restsIn_72 rfl ?_
        refine zt_iadd kX4_restsIn_73 ?_
        refine zt_ishr kX4_restsIn_74 ?_
        refine zt_iconst (v := 1) kX4_restsIn_75 rfl ?_
        refine zt_iand kX4_restsIn_76 ?_
        refine zt_if_eq kX4_restsIn_77 (fun c => ?_) (fun c => ?_)
        · replace H := H.1 c
          refine zt_iconst (v := 0) kX4_restsIn_84 rfl ?_
          refine zt_istore (L' := [zr 2 i0, zi x1, zi x2, zi (x2 - 4), zi y1, zi 0, zi 0]) kX4_restsIn_85 (by decide) rfl ?_
          refine zt_aload_n kX4_restsIn_87 rfl ?_
          refine zt_get (v := zr 14 i0) kX4_restsIn_88 fRX4_24 rfl hi0 rfl ?_
          refine zt_iload_n kX4_restsIn_91 rfl ?_
          obtain ⟨hv, H⟩ := H
          refine zt_iald kX4_restsIn_92 rfl hi0 hv ?_
          rcases Classical.em ((h.1 14 i0 x2.toNatClampNeg) = 1) with c0 | c0
          · replace H := H.1 c0
            refine zt_tabIn (tgt := 120) kX4_restsIn_93 (by rw [c0]; decide) (by rw [c0]; decide) (by rw [c0]; rfl) (by decide) ?_
            refine zt_iload kX4_restsIn_120 rfl ?_
            refine zt_if_eq kX4_restsIn_122 (fun _ => ?_) (fun c => absurd c (by decide))
            refine zt_iconst (v := 0) kX4_restsIn_130 rfl ?_
            exact zt_zret kX4_restsIn_131 rfl (by decide) H
          replace H := H.2 c0
          rcases Classical.em ((h.1 14 i0 x2.toNatClampNeg) = 2) with c1 | c1
          · replace H := H.1 c1
            refine zt_tabIn (tgt := 167) kX4_restsIn_93 (by rw [c1]; decide) (by rw [c1]; decide) (by rw [c1]; rfl) (by decide) ?_
            refine zt_iload kX4_restsIn_167 rfl ?_
            refine zt_if_ne kX4_restsIn_169 (fun c => absurd c (by decide)) (fun _ => ?_)
            refine zt_iload kX4_restsIn_172 rfl ?_
            refine zt_if_ne kX4_restsIn_174 (fun c => absurd c (by decide)) (fun _ => ?_)
            refine zt_iconst (v := 0) kX4_restsIn_177 rfl ?_
            exact zt_zret kX4_restsIn_178 rfl (by decide) H
          replace H := H.2 c1
          rcases Classical.em ((h.1 14 i0 x2.toNatClampNeg) = 3) with c2 | c2
          · replace H := H.1 c2
            refine zt_tabIn (tgt := 205) kX4_restsIn_93 (by rw [c2]; decide) (by rw [c2]; decide) (by rw [c2]; rfl) (by decide) ?_
            refine zt_iload_n kX4_restsIn_205 rfl ?_
            refine zt_aload_n kX4_restsIn_206 rfl ?_
            refine zt_get (v := zi (h.1 2 i0 8)) kX4_restsIn_207 fRX4_37 rfl hi0 rfl ?_
            refine zt_iand kX4_restsIn_210 ?_
            refine zt_bes kX4_restsIn_211 wn_298 ?_
            refine zt_iload_n kX4_restsIn_214 rfl ?_
            obtain ⟨hv, H⟩ := H
            refine zt_besld kX4_restsIn_215 hv ?_
            refine zt_iand kX4_restsIn_216 ?_
            refine zt_if_eq kX4_restsIn_217 (fun c => ?_) (fun c => ?_)
            · replace H := H.1 c
              refine zt_iconst (v := 0) kX4_restsIn_224 rfl ?_
              exact zt_zret kX4_restsIn_225 rfl (by decide) H
            · replace H := H.2 c
              refine zt_iconst (v := 1) kX4_restsIn_220 rfl ?_
              refine zt_goto kX4_restsIn_221 ?_
              exact zt_zret kX4_restsIn_225 rfl (by decide) H
          replace H := H.2 c2
          refine zt_tabOut (tgt := 226) kX4_restsIn_93 (by have n0 := lv_neT (a := 1) c0 rfl; have n1 := lv_neT (a := 2) c1 rfl; have n2 := lv_neT (a := 3) c2 rfl; omega) (by decide) ?_
          refine zt_iconst (v := 0) kX4_restsIn_226 rfl ?_
          exact zt_zret kX4_restsIn_227 rfl (by decide) H
        · replace H := H.2 c
          refine zt_iconst (v := 1) kX4_restsIn_80 rfl ?_
          refine zt_goto kX4_restsIn_81 ?_
          refine zt_istore (L' := [zr 2 i0, zi x1, zi x2, zi (x2 - 4), zi y1, zi 0, zi 1]) kX4_restsIn_85 (by decide) rfl ?_
          refine zt_aload_n kX4_restsIn_87 rfl ?_
          refine zt_get (v := zr 14 i0) kX4_restsIn_88 fRX4_24 rfl hi0 rfl ?_
          refine zt_iload_n kX4_restsIn_91 rfl ?_
          obtain ⟨hv, H⟩ := H
          refine zt_iald kX4_restsIn_92 rfl hi0 hv ?_
          rcases Classical.em ((h.1 14 i0 x2.toNatClampNeg) = 1) with c0 | c0
          · replace H := H.1 c0
            refine zt_tabIn (tgt := 120) kX4_restsIn_93 (by rw [c0]; decide) (by rw [c0]; decide) (by rw [c0]; rfl) (by decide) ?_
            refine zt_iload kX4_restsIn_120 rfl ?_
            refine zt_if_eq kX4_restsIn_122 (fun _ => ?_) (fun c => absurd c (by decide))
            refine zt_iconst (v := 0) kX4_restsIn_130 rfl ?_
            exact zt_zret kX4_restsIn_131 rfl (by decide) H
          replace H := H.2 c0
          rcases Classical.em ((h.1 14 i0 x2.toNatClampNeg) = 2) with c1 | c1
          · replace H := H.1 c1
            refine zt_tabIn (tgt := 167) kX4_restsIn_93 (by rw [c1]; decide) (by rw [c1]; decide) (by rw [c1]; rfl) (by decide) ?_
            refine zt_iload kX4_restsIn_167 rfl ?_
            refine zt_if_ne kX4_restsIn_169 (fun c => absurd c (by decide)) (fun _ => ?_)
            refine zt_iload kX4_restsIn_172 rfl ?_
            refine zt_if_ne kX4_restsIn_174 (fun _ => ?_) (fun c => absurd c (by decide))
            refine zt_aload_n kX4_restsIn_179 rfl ?_
            refine zt_get (v := zr 15 i0) kX4_restsIn_180 fRX4_27 rfl hi0 rfl ?_
            refine zt_iload kX4_restsIn_183 rfl ?_
            refine zt_if_eq kX4_restsIn_185 (fun _ => ?_) (fun c => absurd c (by decide))
            refine zt_iload_n kX4_restsIn_194 rfl ?_
            refine zt_iconst (v := 1) kX4_restsIn_195 rfl ?_
            refine zt_iadd kX4_restsIn_196 ?_
            refine zt_dup2 kX4_restsIn_197 (by intro x q; cases q) (by intro x q; cases q) ?_
            obtain ⟨hv, H⟩ := H
            refine zt_iald kX4_restsIn_198 rfl hi0 hv ?_
            refine zt_iload kX4_restsIn_199 rfl ?_
            refine zt_iadd kX4_restsIn_201 ?_
            obtain ⟨hv, H⟩ := H
            refine zt_iast kX4_restsIn_202 rfl hi0 hv ?_
            refine zt_heap (fun h2 eh2 => ?_)
            replace H := H h2 eh2
            refine zt_iconst (v := 1) kX4_restsIn_203 rfl ?_
            exact zt_zret kX4_restsIn_204 rfl (by decide) H
          replace H := H.2 c1
          rcases Classical.em ((h.1 14 i0 x2.toNatClampNeg) = 3) with c2 | c2
          · replace H := H.1 c2
            refine zt_tabIn (tgt := 205) kX4_restsIn_93 (by rw [c2]; decide) (by rw [c2]; decide) (by rw [c2]; rfl) (by decide) ?_
            refine zt_iload_n kX4_restsIn_205 rfl ?_
            refine zt_aload_n kX4_restsIn_206 rfl ?_
            refine zt_get (v := zi (h.1 2 i0 8)) kX4_restsIn_207 fRX4_37 rfl hi0 rfl ?_
            refine zt_iand kX4_restsIn_210 ?_
            refine zt_bes kX4_restsIn_211 wn_298 ?_
            refine zt_iload_n kX4_restsIn_214 rfl ?_
            obtain ⟨hv, H⟩ := H
            refine zt_besld kX4_restsIn_215 hv ?_
            refine zt_iand kX4_restsIn_216 ?_
            refine zt_if_eq kX4_restsIn_217 (fun c => ?_) (fun c => ?_)
            · replace H := H.1 c
              refine zt_iconst (v := 0) kX4_restsIn_224 rfl ?_
              exact zt_zret kX4_restsIn_225 rfl (by decide) H
            · replace H := H.2 c
              refine zt_iconst (v := 1) kX4_restsIn_220 rfl ?_
              refine zt_goto kX4_restsIn_221 ?_
              exact zt_zret kX4_restsIn_225 rfl (by decide) H
          replace H := H.2 c2
          refine zt_tabOut (tgt := 226) kX4_restsIn_93 (by have n0 := lv_neT (a := 1) c0 rfl; have n1 := lv_neT (a := 2) c1 rfl; have n2 := lv_neT (a := 3) c2 rfl; omega) (by decide) ?_
          refine zt_iconst (v := 0) kX4_restsIn_226 rfl ?_
          exact zt_zret kX4_restsIn_227 rfl (by decide) H
    · replace H := H.2 c
      refine zt_iload_n kX4_restsIn_46 rfl ?_
      refine zt_iload_n kX4_restsIn_47 rfl ?_
      refine zt_iconst (v := 1) kX4_restsIn_48 rfl ?_
      refine zt_isub kX4_restsIn_49 ?_
      refine zt_ishr kX4_restsIn_50 ?_
      refine zt_iconst (v := 1) kX4_restsIn_51 rfl ?_
      refine zt_iand kX4_restsIn_52 ?_
      refine zt_if_eq kX4_restsIn_53 (fun c => ?_) (fun c => ?_)
      · replace H := H.1 c
        refine zt_iconst (v := 0) kX4_restsIn_60 rfl ?_
        refine zt_istore (L' := [zr 2 i0, zi x1, zi x2, zi (x2 - 4), zi y1, zi 0, zu]) kX4_restsIn_61 (by decide) rfl ?_
        refine zt_iload_n kX4_restsIn_63 rfl ?_
        refine zt_iconst (v := 4) kX4_restsIn_64 rfl ?_
        refine zt_irem kX4_restsIn_65 (by decide) ?_
        refine zt_iconst (v := 3) kX4_restsIn_66 rfl ?_
        refine zt_icmp_ge kX4_restsIn_67 (fun c => ?_) (fun c => ?_)
        · replace H := H.1 c
          refine zt_iconst (v := 0) kX4_restsIn_84 rfl ?_
          refine zt_istore (L' := [zr 2 i0, zi x1, zi x2, zi (x2 - 4), zi y1, zi 0, zi 0]) kX4_restsIn_85 (by decide) rfl ?_
          refine zt_aload_n kX4_restsIn_87 rfl ?_
          refine zt_get (v := zr 14 i0) kX4_restsIn_88 fRX4_24 rfl hi0 rfl ?_
          refine zt_iload_n kX4_restsIn_91 rfl ?_
          obtain ⟨hv, H⟩ := H
          refine zt_iald kX4_restsIn_92 rfl hi0 hv ?_
          rcases Classical.em ((h.1 14 i0 x2.toNatClampNeg) = 1) with c0 | c0
          · replace H := H.1 c0
            refine zt_tabIn (tgt := 120) kX4_restsIn_93 (by rw [c0]; decide) (by rw [c0]; decide) (by rw [c0]; rfl) (by decide) ?_
            refine zt_iload kX4_restsIn_120 rfl ?_
            refine zt_if_eq kX4_restsIn_122 (fun _ => ?_) (fun c => absurd c (by decide))
            refine zt_iconst (v := 0) kX4_restsIn_130 rfl ?_
            exact zt_zret kX4_restsIn_131 rfl (by decide) H
          replace H := H.2 c0
          rcases Classical.em ((h.1 14 i0 x2.toNatClampNeg) = 2) with c1 | c1
          · replace H := H.1 c1
            refine zt_tabIn (tgt := 167) kX4_restsIn_93 (by rw [c1]; decide) (by rw [c1]; decide) (by rw [c1]; rfl) (by decide) ?_
            refine zt_iload kX4_restsIn_167 rfl ?_
            refine zt_if_ne kX4_restsIn_169 (fun c => absurd c (by decide)) (fun _ => ?_)
            refine zt_iload kX4_restsIn_172 rfl ?_
            refine zt_if_ne kX4_restsIn_174 (fun c => absurd c (by decide)) (fun _ => ?_)
            refine zt_iconst (v := 0) kX4_restsIn_177 rfl ?_
            exact zt_zret kX4_restsIn_178 rfl (by decide) H
          replace H := H.2 c1
          rcases Classical.em ((h.1 14 i0 x2.toNatClampNeg) = 3) with c2 | c2
          · replace H := H.1 c2
            refine zt_tabIn (tgt := 205) kX4_restsIn_93 (by rw [c2]; decide) (by rw [c2]; decide) (by rw [c2]; rfl) (by decide) ?_
            refine zt_iload_n kX4_restsIn_205 rfl ?_
            refine zt_aload_n kX4_restsIn_206 rfl ?_
            refine zt_get (v := zi (h.1 2 i0 8)) kX4_restsIn_207 fRX4_37 rfl hi0 rfl ?_
            refine zt_iand kX4_restsIn_210 ?_
            refine zt_bes kX4_restsIn_211 wn_298 ?_
            refine zt_iload_n kX4_restsIn_214 rfl ?_
            obtain ⟨hv, H⟩ := H
            refine zt_besld kX4_restsIn_215 hv ?_
            refine zt_iand kX4_restsIn_216 ?_
            refine zt_if_eq kX4_restsIn_217 (fun c => ?_) (fun c => ?_)
            · replace H := H.1 c
              refine zt_iconst (v := 0) kX4_restsIn_224 rfl ?_
              exact zt_zret kX4_restsIn_225 rfl (by decide) H
            · replace H := H.2 c
              refine zt_iconst (v := 1) kX4_restsIn_220 rfl ?_
              refine zt_goto kX4_restsIn_221 ?_
              exact zt_zret kX4_restsIn_225 rfl (by decide) H
          replace H := H.2 c2
          refine zt_tabOut (tgt := 226) kX4_restsIn_93 (by have n0 := lv_neT (a := 1) c0 rfl; have n1 := lv_neT (a := 2) c1 rfl; have n2 := lv_neT (a := 3) c2 rfl; omega) (by decide) ?_
          refine zt_iconst (v := 0) kX4_restsIn_226 rfl ?_
          exact zt_zret kX4_restsIn_227 rfl (by decide) H
        · replace H := H.2 c
          refine zt_iload_n kX4_restsIn_70 rfl ?_
          refine zt_iload_n kX4_restsIn_71 rfl ?_
          refine zt_iconst (v := 1) kX4_restsIn_72 rfl ?_
          refine zt_iadd kX4_restsIn_73 ?_
          refine zt_ishr kX4_restsIn_74 ?_
          refine zt_iconst (v := 1) kX4_restsIn_75 rfl ?_
          refine zt_iand kX4_restsIn_76 ?_
          refine zt_if_eq kX4_restsIn_77 (fun c => ?_) (fun c => ?_)
          · replace H := H.1 c
            refine zt_iconst (v := 0) kX4_restsIn_84 rfl ?_
            refine zt_istore (L' := [zr 2 i0, zi x1, zi x2, zi (x2 - 4), zi y1, zi 0, zi 0]) kX4_restsIn_85 (by decide) rfl ?_
            refine zt_aload_n kX4_restsIn_87 rfl ?_
            refine zt_get (v := zr 14 i0) kX4_restsIn_88 fRX4_24 rfl hi0 rfl ?_
            refine zt_iload_n kX4_restsIn_91 rfl ?_
            obtain ⟨hv, H⟩ := H
            refine zt_iald kX4_restsIn_92 rfl hi0 hv ?_
            rcases Classical.em ((h.1 14 i0 x2.toNatClampNeg) = 1) with c0 | c0
            · replace H := H.1 c0
              refine zt_tabIn (tgt := 120) kX4_restsIn_93 (by rw [c0]; decide) (by rw [c0]; decide) (by rw [c0]; rfl) (by decide) ?_
              refine zt_iload kX4_restsIn_120 rfl ?_
              refine zt_if_eq kX4_restsIn_122 (fun _ => ?_) (fun c => absurd c (by decide))
              refine zt_iconst (v := 0) kX4_restsIn_130 rfl ?_
              exact zt_zret kX4_restsIn_131 rfl (by decide) H
            replace H := H.2 c0
            rcases Classical.em ((h.1 14 i0 x2.toNatClampNeg) = 2) with c1 | c1
            · replace H := H.1 c1
              refine zt_tabIn (tgt := 167) kX4_restsIn_93 (by rw [c1]; decide) (by rw [c1]; decide) (by rw [c1]; rfl) (by decide) ?_
              refine zt_iload kX4_restsIn_167 rfl ?_
              refine zt_if_ne kX4_restsIn_169 (fun c => absurd c (by decide)) (fun _ => ?_)
              refine zt_iload kX4_restsIn_172 rfl ?_
              refine zt_if_ne kX4_restsIn_174 (fun c => absurd c (by decide)) (fun _ => ?_)
              refine zt_iconst (v := 0) kX4_restsIn_177 rfl ?_
              exact zt_zret kX4_restsIn_178 rfl (by decide) H
            replace H := H.2 c1
            rcases Classical.em ((h.1 14 i0 x2.toNatClampNeg) = 3) with c2 | c2
            · replace H := H.1 c2
              refine zt_tabIn (tgt := 205) kX4_restsIn_93 (by rw [c2]; decide) (by rw [c2]; decide) (by rw [c2]; rfl) (by decide) ?_
              refine zt_iload_n kX4_restsIn_205 rfl ?_
              refine zt_aload_n kX4_restsIn_206 rfl ?_
              refine zt_get (v := zi (h.1 2 i0 8)) kX4_restsIn_207 fRX4_37 rfl hi0 rfl ?_
              refine zt_iand kX4_restsIn_210 ?_
              refine zt_bes kX4_restsIn_211 wn_298 ?_
              refine zt_iload_n kX4_restsIn_214 rfl ?_
              obtain ⟨hv, H⟩ := H
              refine zt_besld kX4_restsIn_215 hv ?_
              refine zt_iand kX4_restsIn_216 ?_
              refine zt_if_eq kX4_restsIn_217 (fun c => ?_) (fun c => ?_)
              · replace H := H.1 c
                refine zt_iconst (v := 0) kX4_restsIn_224 rfl ?_
                exact zt_zret kX4_restsIn_225 rfl (by decide) H
              · replace H := H.2 c
                refine zt_iconst (v := 1) kX4_restsIn_220 rfl ?_
                refine zt_goto kX4_restsIn_221 ?_
                exact zt_zret kX4_restsIn_225 rfl (by decide) H
            replace H := H.2 c2
            refine zt_tabOut (tgt := 226) kX4_restsIn_93 (by have n0 := lv_neT (a := 1) c0 rfl; have n1 := lv_neT (a := 2) c1 rfl; have n2 := lv_neT (a := 3) c2 rfl; omega) (by decide) ?_
            refine zt_iconst (v := 0) kX4_restsIn_226 rfl ?_
            exact zt_zret kX4_restsIn_227 rfl (by decide) H
          · replace H := H.2 c
            refine zt_iconst (v := 1) kX4_restsIn_80 rfl ?_
            refine zt_goto kX4_restsIn_81 ?_
            refine zt_istore (L' := [zr 2 i0, zi x1, zi x2, zi (x2 - 4), zi y1, zi 0, zi 1]) kX4_restsIn_85 (by decide) rfl ?_
            refine zt_aload_n kX4_restsIn_87 rfl ?_
            refine zt_get (v := zr 14 i0) kX4_restsIn_88 fRX4_24 rfl hi0 rfl ?_
            refine zt_iload_n kX4_restsIn_91 rfl ?_
            obtain ⟨hv, H⟩ := H
            refine zt_iald kX4_restsIn_92 rfl hi0 hv ?_
            rcases Classical.em ((h.1 14 i0 x2.toNatClampNeg) = 1) with c0 | c0
            · replace H := H.1 c0
              refine zt_tabIn (tgt := 120) kX4_restsIn_93 (by rw [c0]; decide) (by rw [c0]; decide) (by rw [c0]; rfl) (by decide) ?_
              refine zt_iload kX4_restsIn_120 rfl ?_
              refine zt_if_eq kX4_restsIn_122 (fun _ => ?_) (fun c => absurd c (by decide))
              refine zt_iconst (v := 0) kX4_restsIn_130 rfl ?_
              exact zt_zret kX4_restsIn_131 rfl (by decide) H
            replace H := H.2 c0
            rcases Classical.em ((h.1 14 i0 x2.toNatClampNeg) = 2) with c1 | c1
            · replace H := H.1 c1
              refine zt_tabIn (tgt := 167) kX4_restsIn_93 (by rw [c1]; decide) (by rw [c1]; decide) (by rw [c1]; rfl) (by decide) ?_
              refine zt_iload kX4_restsIn_167 rfl ?_
              refine zt_if_ne kX4_restsIn_169 (fun c => absurd c (by decide)) (fun _ => ?_)
              refine zt_iload kX4_restsIn_172 rfl ?_
              refine zt_if_ne kX4_restsIn_174 (fun _ => ?_) (fun c => absurd c (by decide))
              refine zt_aload_n kX4_restsIn_179 rfl ?_
              refine zt_get (v := zr 15 i0) kX4_restsIn_180 fRX4_27 rfl hi0 rfl ?_
              refine zt_iload kX4_restsIn_183 rfl ?_
              refine zt_if_eq kX4_restsIn_185 (fun _ => ?_) (fun c => absurd c (by decide))
              refine zt_iload_n kX4_restsIn_194 rfl ?_
              refine zt_iconst (v := 1) kX4_restsIn_195 rfl ?_
              refine zt_iadd kX4_restsIn_196 ?_
              refine zt_dup2 kX4_restsIn_197 (by intro x q; cases q) (by intro x q; cases q) ?_
              obtain ⟨hv, H⟩ := H
              refine zt_iald kX4_restsIn_198 rfl hi0 hv ?_
              refine zt_iload kX4_restsIn_199 rfl ?_
              refine zt_iadd kX4_restsIn_201 ?_
              obtain ⟨hv, H⟩ := H
              refine zt_iast kX4_restsIn_202 rfl hi0 hv ?_
              refine zt_heap (fun h3 eh3 => ?_)
              replace H := H h3 eh3
              refine zt_iconst (v := 1) kX4_restsIn_203 rfl ?_
              exact zt_zret kX4_restsIn_204 rfl (by decide) H
            replace H := H.2 c1
            rcases Classical.em ((h.1 14 i0 x2.toNatClampNeg) = 3) with c2 | c2
            · replace H := H.1 c2
              refine zt_tabIn (tgt := 205) kX4_restsIn_93 (by rw [c2]; decide) (by rw [c2]; decide) (by rw [c2]; rfl) (by decide) ?_
              refine zt_iload_n kX4_restsIn_205 rfl ?_
              refine zt_aload_n kX4_restsIn_206 rfl ?_
              refine zt_get (v := zi (h.1 2 i0 8)) kX4_restsIn_207 fRX4_37 rfl hi0 rfl ?_
              refine zt_iand kX4_restsIn_210 ?_
              refine zt_bes kX4_restsIn_211 wn_298 ?_
              refine zt_iload_n kX4_restsIn_214 rfl ?_
              obtain ⟨hv, H⟩ := H
              refine zt_besld kX4_restsIn_215 hv ?_
              refine zt_iand kX4_restsIn_216 ?_
              refine zt_if_eq kX4_restsIn_217 (fun c => ?_) (fun c => ?_)
              · replace H := H.1 c
                refine zt_iconst (v := 0) kX4_restsIn_224 rfl ?_
                exact zt_zret kX4_restsIn_225 rfl (by decide) H
              · replace H := H.2 c
                refine zt_iconst (v := 1) kX4_restsIn_220 rfl ?_
                refine zt_goto kX4_restsIn_221 ?_
                exact zt_zret kX4_restsIn_225 rfl (by decide) H
            replace H := H.2 c2
            refine zt_tabOut (tgt := 226) kX4_restsIn_93 (by have n0 := lv_neT (a := 1) c0 rfl; have n1 := lv_neT (a := 2) c1 rfl; have n2 := lv_neT (a := 3) c2 rfl; omega) (by decide) ?_
            refine zt_iconst (v := 0) kX4_restsIn_226 rfl ?_
            exact zt_zret kX4_restsIn_227 rfl (by decide) H
      · replace H := H.2 c
        refine zt_iconst (v := 1) kX4_restsIn_56 rfl ?_
        refine zt_goto kX4_restsIn_57 ?_
        refine zt_istore (L' := [zr 2 i0, zi x1, zi x2, zi (x2 - 4), zi y1, zi 1, zu]) kX4_restsIn_61 (by decide) rfl ?_
        refine zt_iload_n kX4_restsIn_63 rfl ?_
        refine zt_iconst (v := 4) kX4_restsIn_64 rfl ?_
        refine zt_irem kX4_restsIn_65 (by decide) ?_
        refine zt_iconst (v := 3) kX4_restsIn_66 rfl ?_
        refine zt_icmp_ge kX4_restsIn_67 (fun c => ?_) (fun c => ?_)
        · replace H := H.1 c
          refine zt_iconst (v := 0) kX4_restsIn_84 rfl ?_
          refine zt_istore (L' := [zr 2 i0, zi x1, zi x2, zi (x2 - 4), zi y1, zi 1, zi 0]) kX4_restsIn_85 (by decide) rfl ?_
          refine zt_aload_n kX4_restsIn_87 rfl ?_
          refine zt_get (v := zr 14 i0) kX4_restsIn_88 fRX4_24 rfl hi0 rfl ?_
          refine zt_iload_n kX4_restsIn_91 rfl ?_
          obtain ⟨hv, H⟩ := H
          refine zt_iald kX4_restsIn_92 rfl hi0 hv ?_
          rcases Classical.em ((h.1 14 i0 x2.toNatClampNeg) = 1) with c0 | c0
          · replace H := H.1 c0
            refine zt_tabIn (tgt := 120) kX4_restsIn_93 (by rw [c0]; decide) (by rw [c0]; decide) (by rw [c0]; rfl) (by decide) ?_
            refine zt_iload kX4_restsIn_120 rfl ?_
            refine zt_if_eq kX4_restsIn_122 (fun c => absurd c (by decide)) (fun _ => ?_)
            refine zt_iload kX4_restsIn_125 rfl ?_
            refine zt_if_ne kX4_restsIn_127 (fun c => absurd c (by decide)) (fun _ => ?_)
            refine zt_iconst (v := 0) kX4_restsIn_130 rfl ?_
            exact zt_zret kX4_restsIn_131 rfl (by decide) H
          replace H := H.2 c0
          rcases Classical.em ((h.1 14 i0 x2.toNatClampNeg) = 2) with c1 | c1
          · replace H := H.1 c1
            refine zt_tabIn (tgt := 167) kX4_restsIn_93 (by rw [c1]; decide) (by rw [c1]; decide) (by rw [c1]; rfl) (by decide) ?_
            refine zt_iload kX4_restsIn_167 rfl ?_
            refine zt_if_ne kX4_restsIn_169 (fun _ => ?_) (fun c => absurd c (by decide))
            refine zt_aload_n kX4_restsIn_179 rfl ?_
            refine zt_get (v := zr 15 i0) kX4_restsIn_180 fRX4_27 rfl hi0 rfl ?_
            refine zt_iload kX4_restsIn_183 rfl ?_
            refine zt_if_eq kX4_restsIn_185 (fun c => absurd c (by decide)) (fun _ => ?_)
            refine zt_iload_n kX4_restsIn_188 rfl ?_
            refine zt_iconst (v := 1) kX4_restsIn_189 rfl ?_
            refine zt_isub kX4_restsIn_190 ?_
            refine zt_goto kX4_restsIn_191 ?_
            refine zt_dup2 kX4_restsIn_197 (by intro x q; cases q) (by intro x q; cases q) ?_
            obtain ⟨hv, H⟩ := H
            refine zt_iald kX4_restsIn_198 rfl hi0 hv ?_
            refine zt_iload kX4_restsIn_199 rfl ?_
            refine zt_iadd kX4_restsIn_201 ?_
            obtain ⟨hv, H⟩ := H
            refine zt_iast kX4_restsIn_202 rfl hi0 hv ?_
            refine zt_heap (fun h4 eh4 => ?_)
            replace H := H h4 eh4
            refine zt_iconst (v := 1) kX4_restsIn_203 rfl ?_
            exact zt_zret kX4_restsIn_204 rfl (by decide) H
          replace H := H.2 c1
          rcases Classical.em ((h.1 14 i0 x2.toNatClampNeg) = 3) with c2 | c2
          · replace H := H.1 c2
            refine zt_tabIn (tgt := 205) kX4_restsIn_93 (by rw [c2]; decide) (by rw [c2]; decide) (by rw [c2]; rfl) (by decide) ?_
            refine zt_iload_n kX4_restsIn_205 rfl ?_
            refine zt_aload_n kX4_restsIn_206 rfl ?_
            refine zt_get (v := zi (h.1 2 i0 8)) kX4_restsIn_207 fRX4_37 rfl hi0 rfl ?_
            refine zt_iand kX4_restsIn_210 ?_
            refine zt_bes kX4_restsIn_211 wn_298 ?_
            refine zt_iload_n kX4_restsIn_214 rfl ?_
            obtain ⟨hv, H⟩ := H
            refine zt_besld kX4_restsIn_215 hv ?_
            refine zt_iand kX4_restsIn_216 ?_
            refine zt_if_eq kX4_restsIn_217 (fun c => ?_) (fun c => ?_)
            · replace H := H.1 c
              refine zt_iconst (v := 0) kX4_restsIn_224 rfl ?_
              exact zt_zret kX4_restsIn_225 rfl (by decide) H
            · replace H := H.2 c
              refine zt_iconst (v := 1) kX4_restsIn_220 rfl ?_
              refine zt_goto kX4_restsIn_221 ?_
              exact zt_zret kX4_restsIn_225 rfl (by decide) H
          replace H := H.2 c2
          refine zt_tabOut (tgt := 226) kX4_restsIn_93 (by have n0 := lv_neT (a := 1) c0 rfl; have n1 := lv_neT (a := 2) c1 rfl; have n2 := lv_neT (a := 3) c2 rfl; omega) (by decide) ?_
          refine zt_iconst (v := 0) kX4_restsIn_226 rfl ?_
          exact zt_zret kX4_restsIn_227 rfl (by decide) H
        · replace H := H.2 c
          refine zt_iload_n kX4_restsIn_70 rfl ?_
          refine zt_iload_n kX4_restsIn_71 rfl ?_
          refine zt_iconst (v := 1) kX4_restsIn_72 rfl ?_
          refine zt_iadd kX4_restsIn_73 ?_
          refine zt_ishr kX4_restsIn_74 ?_
          refine zt_iconst (v := 1) kX4_restsIn_75 rfl ?_
          refine zt_iand kX4_restsIn_76 ?_
          refine zt_if_eq kX4_restsIn_77 (fun c => ?_) (fun c => ?_)
          · replace H := H.1 c
            refine zt_iconst (v := 0) kX4_restsIn_84 rfl ?_
            refine zt_istore (L' := [zr 2 i0, zi x1, zi x2, zi (x2 - 4), zi y1, zi 1, zi 0]) kX4_restsIn_85 (by decide) rfl ?_
            refine zt_aload_n kX4_restsIn_87 rfl ?_
            refine zt_get (v := zr 14 i0) kX4_restsIn_88 fRX4_24 rfl hi0 rfl ?_
            refine zt_iload_n kX4_restsIn_91 rfl ?_
            obtain ⟨hv, H⟩ := H
            refine zt_iald kX4_restsIn_92 rfl hi0 hv ?_
            rcases Classical.em ((h.1 14 i0 x2.toNatClampNeg) = 1) with c0 | c0
            · replace H := H.1 c0
              refine zt_tabIn (tgt := 120) kX4_restsIn_93 (by rw [c0]; decide) (by rw [c0]; decide) (by rw [c0]; rfl) (by decide) ?_
              refine zt_iload kX4_restsIn_120 rfl ?_
              refine zt_if_eq kX4_restsIn_122 (fun c => absurd c (by decide)) (fun _ => ?_)
              refine zt_iload kX4_restsIn_125 rfl ?_
              refine zt_if_ne kX4_restsIn_127 (fun c => absurd c (by decide)) (fun _ => ?_)
              refine zt_iconst (v := 0) kX4_restsIn_130 rfl ?_
              exact zt_zret kX4_restsIn_131 rfl (by decide) H
            replace H := H.2 c0
            rcases Classical.em ((h.1 14 i0 x2.toNatClampNeg) = 2) with c1 | c1
            · replace H := H.1 c1
              refine zt_tabIn (tgt := 167) kX4_restsIn_93 (by rw [c1]; decide) (by rw [c1]; decide) (by rw [c1]; rfl) (by decide) ?_
              refine zt_iload kX4_restsIn_167 rfl ?_
              refine zt_if_ne kX4_restsIn_169 (fun _ => ?_) (fun c => absurd c (by decide))
              refine zt_aload_n kX4_restsIn_179 rfl ?_
              refine zt_get (v := zr 15 i0) kX4_restsIn_180 fRX4_27 rfl hi0 rfl ?_
              refine zt_iload kX4_restsIn_183 rfl ?_
              refine zt_if_eq kX4_restsIn_185 (fun c => absurd c (by decide)) (fun _ => ?_)
              refine zt_iload_n kX4_restsIn_188 rfl ?_
              refine zt_iconst (v := 1) kX4_restsIn_189 rfl ?_
              refine zt_isub kX4_restsIn_190 ?_
              refine zt_goto kX4_restsIn_191 ?_
              refine zt_dup2 kX4_restsIn_197 (by intro x q; cases q) (by intro x q; cases q) ?_
              obtain ⟨hv, H⟩ := H
              refine zt_iald kX4_restsIn_198 rfl hi0 hv ?_
              refine zt_iload kX4_restsIn_199 rfl ?_
              refine zt_iadd kX4_restsIn_201 ?_
              obtain ⟨hv, H⟩ := H
              refine zt_iast kX4_restsIn_202 rfl hi0 hv ?_
              refine zt_heap (fun h5 eh5 => ?_)
              replace H := H h5 eh5
              refine zt_iconst (v := 1) kX4_restsIn_203 rfl ?_
              exact zt_zret kX4_restsIn_204 rfl (by decide) H
            replace H := H.2 c1
            rcases Classical.em ((h.1 14 i0 x2.toNatClampNeg) = 3) with c2 | c2
            · replace H := H.1 c2
              refine zt_tabIn (tgt := 205) kX4_restsIn_93 (by rw [c2]; decide) (by rw [c2]; decide) (by rw [c2]; rfl) (by decide) ?_
              refine zt_iload_n kX4_restsIn_205 rfl ?_
              refine zt_aload_n kX4_restsIn_206 rfl ?_
              refine zt_get (v := zi (h.1 2 i0 8)) kX4_restsIn_207 fRX4_37 rfl hi0 rfl ?_
              refine zt_iand kX4_restsIn_210 ?_
              refine zt_bes kX4_restsIn_211 wn_298 ?_
              refine zt_iload_n kX4_restsIn_214 rfl ?_
              obtain ⟨hv, H⟩ := H
              refine zt_besld kX4_restsIn_215 hv ?_
              refine zt_iand kX4_restsIn_216 ?_
              refine zt_if_eq kX4_restsIn_217 (fun c => ?_) (fun c => ?_)
              · replace H := H.1 c
                refine zt_iconst (v := 0) kX4_restsIn_224 rfl ?_
                exact zt_zret kX4_restsIn_225 rfl (by decide) H
              · replace H := H.2 c
                refine zt_iconst (v := 1) kX4_restsIn_220 rfl ?_
                refine zt_goto kX4_restsIn_221 ?_
                exact zt_zret kX4_restsIn_225 rfl (by decide) H
            replace H := H.2 c2
            refine zt_tabOut (tgt := 226) kX4_restsIn_93 (by have n0 := lv_neT (a := 1) c0 rfl; have n1 := lv_neT (a := 2) c1 rfl; have n2 := lv_neT (a := 3) c2 rfl; omega) (by decide) ?_
            refine zt_iconst (v := 0) kX4_restsIn_226 rfl ?_
            exact zt_zret kX4_restsIn_227 rfl (by decide) H
          · replace H := H.2 c
            refine zt_iconst (v := 1) kX4_restsIn_80 rfl ?_
            refine zt_goto kX4_restsIn_81 ?_
            refine zt_istore (L' := [zr 2 i0, zi x1, zi x2, zi (x2 - 4), zi y1, zi 1, zi 1]) kX4_restsIn_85 (by decide) rfl ?_
            refine zt_aload_n kX4_restsIn_87 rfl ?_
            refine zt_get (v := zr 14 i0) kX4_restsIn_88 fRX4_24 rfl hi0 rfl ?_
            refine zt_iload_n kX4_restsIn_91 rfl ?_
            obtain ⟨hv, H⟩ := H
            refine zt_iald kX4_restsIn_92 rfl hi0 hv ?_
            rcases Classical.em ((h.1 14 i0 x2.toNatClampNeg) = 1) with c0 | c0
            · replace H := H.1 c0
              refine zt_tabIn (tgt := 120) kX4_restsIn_93 (by rw [c0]; decide) (by rw [c0]; decide) (by rw [c0]; rfl) (by decide) ?_
              refine zt_iload kX4_restsIn_120 rfl ?_
              refine zt_if_eq kX4_restsIn_122 (fun c => absurd c (by decide)) (fun _ => ?_)
              refine zt_iload kX4_restsIn_125 rfl ?_
              refine zt_if_ne kX4_restsIn_127 (fun _ => ?_) (fun c => absurd c (by decide))
              refine zt_aload_n kX4_restsIn_132 rfl ?_
              refine zt_get (v := zr 15 i0) kX4_restsIn_133 fRX4_27 rfl hi0 rfl ?_
              refine zt_iload_n kX4_restsIn_136 rfl ?_
              refine zt_iconst (v := 1) kX4_restsIn_137 rfl ?_
              refine zt_isub kX4_restsIn_138 ?_
              refine zt_dup2 kX4_restsIn_139 (by intro x q; cases q) (by intro x q; cases q) ?_
              obtain ⟨hv, H⟩ := H
              refine zt_iald kX4_restsIn_140 rfl hi0 hv ?_
              refine zt_iload kX4_restsIn_141 rfl ?_
              refine zt_iconst (v := 2) kX4_restsIn_143 rfl ?_
              refine zt_idiv kX4_restsIn_144 (by decide) ?_
              refine zt_iadd kX4_restsIn_145 ?_
              obtain ⟨hv, H⟩ := H
              refine zt_iast kX4_restsIn_146 rfl hi0 hv ?_
              refine zt_heap (fun h6 eh6 => ?_)
              replace H := H h6 eh6
              refine zt_aload_n kX4_restsIn_147 rfl ?_
              refine zt_get (v := zr 15 i0) kX4_restsIn_148 fRX4_27 rfl hi0 rfl ?_
              refine zt_iload_n kX4_restsIn_151 rfl ?_
              refine zt_iconst (v := 1) kX4_restsIn_152 rfl ?_
              refine zt_iadd kX4_restsIn_153 ?_
              refine zt_dup2 kX4_restsIn_154 (by intro x q; cases q) (by intro x q; cases q) ?_
              obtain ⟨hv, H⟩ := H
              refine zt_iald kX4_restsIn_155 rfl hi0 hv ?_
              refine zt_iload kX4_restsIn_156 rfl ?_
              refine zt_iload kX4_restsIn_158 rfl ?_
              refine zt_iconst (v := 2) kX4_restsIn_160 rfl ?_
              refine zt_idiv kX4_restsIn_161 (by decide) ?_
              refine zt_isub kX4_restsIn_162 ?_
              refine zt_iadd kX4_restsIn_163 ?_
              obtain ⟨hv, H⟩ := H
              refine zt_iast kX4_restsIn_164 rfl hi0 hv ?_
              refine zt_heap (fun h7 eh7 => ?_)
              replace H := H h7 eh7
              refine zt_iconst (v := 1) kX4_restsIn_165 rfl ?_
              exact zt_zret kX4_restsIn_166 rfl (by decide) H
            replace H := H.2 c0
            rcases Classical.em ((h.1 14 i0 x2.toNatClampNeg) = 2) with c1 | c1
            · replace H := H.1 c1
              refine zt_tabIn (tgt := 167) kX4_restsIn_93 (by rw [c1]; decide) (by rw [c1]; decide) (by rw [c1]; rfl) (by decide) ?_
              refine zt_iload kX4_restsIn_167 rfl ?_
              refine zt_if_ne kX4_restsIn_169 (fun _ => ?_) (fun c => absurd c (by decide))
              refine zt_aload_n kX4_restsIn_179 rfl ?_
              refine zt_get (v := zr 15 i0) kX4_restsIn_180 fRX4_27 rfl hi0 rfl ?_
              refine zt_iload kX4_restsIn_183 rfl ?_
              refine zt_if_eq kX4_restsIn_185 (fun c => absurd c (by decide)) (fun _ => ?_)
              refine zt_iload_n kX4_restsIn_188 rfl ?_
              refine zt_iconst (v := 1) kX4_restsIn_189 rfl ?_
              refine zt_isub kX4_restsIn_190 ?_
              refine zt_goto kX4_restsIn_191 ?_
              refine zt_dup2 kX4_restsIn_197 (by intro x q; cases q) (by intro x q; cases q) ?_
              obtain ⟨hv, H⟩ := H
              refine zt_iald kX4_restsIn_198 rfl hi0 hv ?_
              refine zt_iload kX4_restsIn_199 rfl ?_
              refine zt_iadd kX4_restsIn_201 ?_
              obtain ⟨hv, H⟩ := H
              refine zt_iast kX4_restsIn_202 rfl hi0 hv ?_
              refine zt_heap (fun h8 eh8 => ?_)
              replace H := H h8 eh8
              refine zt_iconst (v := 1) kX4_restsIn_203 rfl ?_
              exact zt_zret kX4_restsIn_204 rfl (by decide) H
            replace H := H.2 c1
            rcases Classical.em ((h.1 14 i0 x2.toNatClampNeg) = 3) with c2 | c2
            · replace H := H.1 c2
              refine zt_tabIn (tgt := 205) kX4_restsIn_93 (by rw [c2]; decide) (by rw [c2]; decide) (by rw [c2]; rfl) (by decide) ?_
              refine zt_iload_n kX4_restsIn_205 rfl ?_
              refine zt_aload_n kX4_restsIn_206 rfl ?_
              refine zt_get (v := zi (h.1 2 i0 8)) kX4_restsIn_207 fRX4_37 rfl hi0 rfl ?_
              refine zt_iand kX4_restsIn_210 ?_
              refine zt_bes kX4_restsIn_211 wn_298 ?_
              refine zt_iload_n kX4_restsIn_214 rfl ?_
              obtain ⟨hv, H⟩ := H
              refine zt_besld kX4_restsIn_215 hv ?_
              refine zt_iand kX4_restsIn_216 ?_
              refine zt_if_eq kX4_restsIn_217 (fun c => ?_) (fun c => ?_)
              · replace H := H.1 c
                refine zt_iconst (v := 0) kX4_restsIn_224 rfl ?_
                exact zt_zret kX4_restsIn_225 rfl (by decide) H
              · replace H := H.2 c
                refine zt_iconst (v := 1) kX4_restsIn_220 rfl ?_
                refine zt_goto kX4_restsIn_221 ?_
                exact zt_zret kX4_restsIn_225 rfl (by decide) H
            replace H := H.2 c2
            refine zt_tabOut (tgt := 226) kX4_restsIn_93 (by have n0 := lv_neT (a := 1) c0 rfl; have n1 := lv_neT (a := 2) c1 rfl; have n2 := lv_neT (a := 3) c2 rfl; omega) (by decide) ?_
            refine zt_iconst (v := 0) kX4_restsIn_226 rfl ?_
            exact zt_zret kX4_restsIn_227 rfl (by decide) H
  · replace H := H.2 c
    refine zt_aload_n kX4_restsIn_27 rfl ?_
    refine zt_get (v := zr 15 i0) kX4_restsIn_28 fRX4_27 rfl hi0 rfl ?_
    refine zt_iload_n kX4_restsIn_31 rfl ?_
    refine zt_dup2 kX4_restsIn_32 (by intro x q; cases q) (by intro x q; cases q) ?_
    obtain ⟨hv, H⟩ := H
    refine zt_iald kX4_restsIn_33 rfl hi0 hv ?_
    refine zt_iload kX4_restsIn_34 rfl ?_
    refine zt_iadd kX4_restsIn_36 ?_
    obtain ⟨hv, H⟩ := H
    refine zt_iast kX4_restsIn_37 rfl hi0 hv ?_
    refine zt_heap (fun h9 eh9 => ?_)
    replace H := H h9 eh9
    refine zt_iconst (v := 1) kX4_restsIn_38 rfl ?_
    exact zt_zret kX4_restsIn_39 rfl (by decide) H

theorem kX4_looseIn_0 : zD cX4_looseIn 0 1 (.aload_n 0) 1 := by decide +kernel
theorem kX4_looseIn_1 : zD cX4_looseIn 1 4 (.getfield 27) 3 := by decide +kernel
theorem kX4_looseIn_4 : zD cX4_looseIn 4 5 (.iconst 0) 1 := by decide +kernel
theorem kX4_looseIn_5 : zD cX4_looseIn 5 8 (.invokestatic 80) 3 := by decide +kernel
theorem kX4_looseIn_8 : zD cX4_looseIn 8 9 (.iconst 0) 1 := by decide +kernel
theorem kX4_looseIn_9 : zD cX4_looseIn 9 10 (.istore_n 3) 1 := by decide +kernel
theorem kX4_looseIn_10 : zD cX4_looseIn 10 12 (.bipush 11) 2 := by decide +kernel
theorem kX4_looseIn_12 : zD cX4_looseIn 12 14 (.istore 4) 2 := by decide +kernel
theorem kX4_looseIn_14 : zD cX4_looseIn 14 16 (.iload 4) 2 := by decide +kernel
theorem kX4_looseIn_16 : zB cX4_looseIn 16 19 98 (.ifCond .lt 82) 82 := by decide +kernel
theorem kX4_looseIn_19 : zD cX4_looseIn 19 20 (.iconst 1) 1 := by decide +kernel
theorem kX4_looseIn_20 : zD cX4_looseIn 20 22 (.iload 4) 2 := by decide +kernel
theorem kX4_looseIn_22 : zD cX4_looseIn 22 23 (.ishl) 1 := by decide +kernel
theorem kX4_looseIn_23 : zD cX4_looseIn 23 25 (.istore 5) 2 := by decide +kernel
theorem kX4_looseIn_25 : zD cX4_looseIn 25 26 (.iload_n 1) 1 := by decide +kernel
theorem kX4_looseIn_26 : zD cX4_looseIn 26 28 (.iload 5) 2 := by decide +kernel
theorem kX4_looseIn_28 : zD cX4_looseIn 28 29 (.iand) 1 := by decide +kernel
theorem kX4_looseIn_29 : zB cX4_looseIn 29 32 35 (.ifCond .ne 6) 6 := by decide +kernel
theorem kX4_looseIn_32 : zB cX4_looseIn 32 35 92 (.goto 60) 60 := by decide +kernel
theorem kX4_looseIn_35 : zD cX4_looseIn 35 37 (.iload 4) 2 := by decide +kernel
theorem kX4_looseIn_37 : zD cX4_looseIn 37 38 (.iconst 4) 1 := by decide +kernel
theorem kX4_looseIn_38 : zB cX4_looseIn 38 41 58 (.if_icmp .lt 20) 20 := by decide +kernel
theorem kX4_looseIn_41 : zD cX4_looseIn 41 42 (.iload_n 2) 1 := by decide +kernel
theorem kX4_looseIn_42 : zD cX4_looseIn 42 44 (.iload 5) 2 := by decide +kernel
theorem kX4_looseIn_44 : zD cX4_looseIn 44 45 (.iand) 1 := by decide +kernel
theorem kX4_looseIn_45 : zB cX4_looseIn 45 48 58 (.ifCond .ne 13) 13 := by decide +kernel
theorem kX4_looseIn_48 : zD cX4_looseIn 48 49 (.aload_n 0) 1 := by decide +kernel
theorem kX4_looseIn_49 : zD cX4_looseIn 49 50 (.iload_n 1) 1 := by decide +kernel
theorem kX4_looseIn_50 : zD cX4_looseIn 50 52 (.iload 4) 2 := by decide +kernel
theorem kX4_looseIn_52 : zD cX4_looseIn 52 55 (.invokevirtual 86) 3 := by decide +kernel
theorem kX4_looseIn_55 : zB cX4_looseIn 55 58 62 (.ifCond .eq 7) 7 := by decide +kernel
theorem kX4_looseIn_58 : zD cX4_looseIn 58 59 (.iconst 1) 1 := by decide +kernel
theorem kX4_looseIn_59 : zB cX4_looseIn 59 62 63 (.goto 4) 4 := by decide +kernel
theorem kX4_looseIn_62 : zD cX4_looseIn 62 63 (.iconst 0) 1 := by decide +kernel
theorem kX4_looseIn_63 : zD cX4_looseIn 63 65 (.istore 6) 2 := by decide +kernel
theorem kX4_looseIn_65 : zD cX4_looseIn 65 67 (.iload 6) 2 := by decide +kernel
theorem kX4_looseIn_67 : zB cX4_looseIn 67 70 87 (.ifCond .eq 20) 20 := by decide +kernel
theorem kX4_looseIn_70 : zD cX4_looseIn 70 71 (.aload_n 0) 1 := by decide +kernel
theorem kX4_looseIn_71 : zD cX4_looseIn 71 74 (.getfield 27) 3 := by decide +kernel
theorem kX4_looseIn_74 : zD cX4_looseIn 74 76 (.iload 4) 2 := by decide +kernel
theorem kX4_looseIn_76 : zD cX4_looseIn 76 77 (.iaload) 1 := by decide +kernel
theorem kX4_looseIn_77 : zD cX4_looseIn 77 78 (.aload_n 0) 1 := by decide +kernel
theorem kX4_looseIn_78 : zD cX4_looseIn 78 81 (.getfield 21) 3 := by decide +kernel
theorem kX4_looseIn_81 : zD cX4_looseIn 81 83 (.iload 4) 2 := by decide +kernel
theorem kX4_looseIn_83 : zD cX4_looseIn 83 84 (.iaload) 1 := by decide +kernel
theorem kX4_looseIn_84 : zB cX4_looseIn 84 87 92 (.if_icmp .le 8) 8 := by decide +kernel
theorem kX4_looseIn_87 : zD cX4_looseIn 87 88 (.iload_n 3) 1 := by decide +kernel
theorem kX4_looseIn_88 : zD cX4_looseIn 88 90 (.iload 5) 2 := by decide +kernel
theorem kX4_looseIn_90 : zD cX4_looseIn 90 91 (.ior) 1 := by decide +kernel
theorem kX4_looseIn_91 : zD cX4_looseIn 91 92 (.istore_n 3) 1 := by decide +kernel
theorem kX4_looseIn_92 : zD cX4_looseIn 92 95 (.iinc 4 (-1)) 3 := by decide +kernel
theorem kX4_looseIn_95 : zB cX4_looseIn 95 98 14 (.goto (-81)) (-81) := by decide +kernel
theorem kX4_looseIn_98 : zD cX4_looseIn 98 99 (.iload_n 3) 1 := by decide +kernel
theorem kX4_looseIn_99 : zD cX4_looseIn 99 100 (.ireturn) 1 := by decide +kernel
set_option maxRecDepth 10000 in
theorem wX4_looseIn_0 {G : ZG} {d : Nat} {h : ZH} {Q : Option ZV → ZH → Prop} {i0 : Nat} {x1 : Int32} {x2 : Int32} (hi0 : i0 < zcnt 2)
  (H : zC G (d + 1) mJ7_fill_53178 [zr 15 i0, zi 0] h (fun r2 h1 => r2 = none ∧ zT G (d + 2) mX4_looseIn 14 [zr 2 i0, zi x1, zi x2, zi 0, zi 11, zu, zu] [] h1 Q)) :
  zT G (d + 2) mX4_looseIn 0 [zr 2 i0, zi x1, zi x2, zu, zu, zu, zu] [] h Q := by
  refine zt_aload_n kX4_looseIn_0 rfl ?_
  refine zt_get (v := zr 15 i0) kX4_looseIn_1 fRX4_27 rfl hi0 rfl ?_
  refine zt_iconst (v := 0) kX4_looseIn_4 rfl ?_
  refine zt_cS (as := [zr 15 i0, zi 0]) kX4_looseIn_5 sRX4_80 rfl (by simp) rfl H (fun r2 h1 H => ?_)
  obtain ⟨rfl, H⟩ := H
  refine zt_iconst (v := 0) kX4_looseIn_8 rfl ?_
  refine zt_istore_n (L' := [zr 2 i0, zi x1, zi x2, zi 0, zu, zu, zu]) kX4_looseIn_9 (by decide) rfl ?_
  refine zt_bipush (v := 11) kX4_looseIn_10 rfl ?_
  refine zt_istore (L' := [zr 2 i0, zi x1, zi x2, zi 0, zi 11, zu, zu]) kX4_looseIn_12 (by decide) rfl ?_
  exact H

set_option maxRecDepth 10000 in
theorem wX4_looseIn_14 {G : ZG} {d : Nat} {h : ZH} {Q : Option ZV → ZH → Prop} {i0 : Nat} {x1 : Int32} {x2 : Int32} {x3 : Int32} {x4 : Int32} (hi0 : i0 < zcnt 2)
  (H : (x4 < 0 → Q (some (zi x3)) h) ∧ (¬ x4 < 0 → (¬ (x1 &&& ((1 : Int32) <<< (x4 &&& 31))) = 0 → (x4 < 4 → vp_in x4 12 ∧ vp_in x4 12 ∧ ((h.1 15 i0 x4.toNatClampNeg) ≤ (h.1 13 i0 x4.toNatClampNeg) → zT G (d + 2) mX4_looseIn 14 [zr 2 i0, zi x1, zi x2, zi x3, zi (x4 + (-1)), zu, zu] [] h Q) ∧ (¬ (h.1 15 i0 x4.toNatClampNeg) ≤ (h.1 13 i0 x4.toNatClampNeg) → zT G (d + 2) mX4_looseIn 14 [zr 2 i0, zi x1, zi x2, zi (x3 ||| ((1 : Int32) <<< (x4 &&& 31))), zi (x4 + (-1)), zu, zu] [] h Q)) ∧ (¬ x4 < 4 → (¬ (x2 &&& ((1 : Int32) <<< (x4 &&& 31))) = 0 → vp_in x4 12 ∧ vp_in x4 12 ∧ ((h.1 15 i0 x4.toNatClampNeg) ≤ (h.1 13 i0 x4.toNatClampNeg) → zT G (d + 2) mX4_looseIn 14 [zr 2 i0, zi x1, zi x2, zi x3, zi (x4 + (-1)), zu, zu] [] h Q) ∧ (¬ (h.1 15 i0 x4.toNatClampNeg) ≤ (h.1 13 i0 x4.toNatClampNeg) → zT G (d + 2) mX4_looseIn 14 [zr 2 i0, zi x1, zi x2, zi (x3 ||| ((1 : Int32) <<< (x4 &&& 31))), zi (x4 + (-1)), zu, zu] [] h Q)) ∧ ((x2 &&& ((1 : Int32) <<< (x4 &&& 31))) = 0 → zC G (d + 1) mX4_restsIn [zr 2 i0, zi x1, zi x4] h (fun r2 h1 => ∃ y3 : Int32, r2 = some (zi y3) ∧ (y3 = 0 → zT G (d + 2) mX4_looseIn 14 [zr 2 i0, zi x1, zi x2, zi (x3 ||| ((1 : Int32) <<< (x4 &&& 31))), zi (x4 + (-1)), zu, zu] [] h1 Q) ∧ (¬ y3 = 0 → vp_in x4 12 ∧ vp_in x4 12 ∧ ((h1.1 15 i0 x4.toNatClampNeg) ≤ (h1.1 13 i0 x4.toNatClampNeg) → zT G (d + 2) mX4_looseIn 14 [zr 2 i0, zi x1, zi x2, zi x3, zi (x4 + (-1)), zu, zu] [] h1 Q) ∧ (¬ (h1.1 15 i0 x4.toNatClampNeg) ≤ (h1.1 13 i0 x4.toNatClampNeg) → zT G (d + 2) mX4_looseIn 14 [zr 2 i0, zi x1, zi x2, zi (x3 ||| ((1 : Int32) <<< (x4 &&& 31))), zi (x4 + (-1)), zu, zu] [] h1 Q)))))) ∧ ((x1 &&& ((1 : Int32) <<< (x4 &&& 31))) = 0 → zT G (d + 2) mX4_looseIn 14 [zr 2 i0, zi x1, zi x2, zi x3, zi (x4 + (-1)), zu, zu] [] h Q))) :
  zT G (d + 2) mX4_looseIn 14 [zr 2 i0, zi x1, zi x2, zi x3, zi x4, zu, zu] [] h Q := by
  refine zt_iload kX4_looseIn_14 rfl ?_
  refine zt_if_lt kX4_looseIn_16 (fun c => ?_) (fun c => ?_)
  · replace H := H.1 c
    refine zt_iload_n kX4_looseIn_98 rfl ?_
    exact zt_iret kX4_looseIn_99 rfl H
  · replace H := H.2 c
    refine zt_iconst (v := 1) kX4_looseIn_19 rfl ?_
    refine zt_iload kX4_looseIn_20 rfl ?_
    refine zt_ishl kX4_looseIn_22 ?_
    refine zt_istore (L' := [zr 2 i0, zi x1, zi x2, zi x3, zi x4, zi ((1 : Int32) <<< (x4 &&& 31)), zu]) kX4_looseIn_23 (by decide) rfl ?_
    refine zt_iload_n kX4_looseIn_25 rfl ?_
    refine zt_iload kX4_looseIn_26 rfl ?_
    refine zt_iand kX4_looseIn_28 ?_
    refine zt_if_ne kX4_looseIn_29 (fun c => ?_) (fun c => ?_)
    · replace H := H.1 c
      refine zt_iload kX4_looseIn_35 rfl ?_
      refine zt_iconst (v := 4) kX4_looseIn_37 rfl ?_
      refine zt_icmp_lt kX4_looseIn_38 (fun c => ?_) (fun c => ?_)
      · replace H := H.1 c
        refine zt_iconst (v := 1) kX4_looseIn_58 rfl ?_
        refine zt_goto kX4_looseIn_59 ?_
        refine zt_istore (L' := [zr 2 i0, zi x1, zi x2, zi x3, zi x4, zi ((1 : Int32) <<< (x4 &&& 31)), zi 1]) kX4_looseIn_63 (by decide) rfl ?_
        refine zt_iload kX4_looseIn_65 rfl ?_
        refine zt_if_eq kX4_looseIn_67 (fun c => absurd c (by decide)) (fun _ => ?_)
        refine zt_aload_n kX4_looseIn_70 rfl ?_
        refine zt_get (v := zr 15 i0) kX4_looseIn_71 fRX4_27 rfl hi0 rfl ?_
        refine zt_iload kX4_looseIn_74 rfl ?_
        obtain ⟨hv, H⟩ := H
        refine zt_iald kX4_looseIn_76 rfl hi0 hv ?_
        refine zt_aload_n kX4_looseIn_77 rfl ?_
        refine zt_get (v := zr 13 i0) kX4_looseIn_78 fRX4_21 rfl hi0 rfl ?_
        refine zt_iload kX4_looseIn_81 rfl ?_
        obtain ⟨hv, H⟩ := H
        refine zt_iald kX4_looseIn_83 rfl hi0 hv ?_
        refine zt_icmp_le kX4_looseIn_84 (fun c => ?_) (fun c => ?_)
        · replace H := H.1 c
          refine zt_iinc (v := (x4 + (-1))) (L' := [zr 2 i0, zi x1, zi x2, zi x3, zi (x4 + (-1)), zi ((1 : Int32) <<< (x4 &&& 31)), zi 1]) kX4_looseIn_92 rfl rfl (by decide) rfl ?_
          refine zt_goto kX4_looseIn_95 ?_
          exact zt_sub [zr 2 i0, zi x1, zi x2, zi x3, zi (x4 + (-1)), zu, zu] ⟨rfl, ⟨rfl, ⟨rfl, ⟨rfl, ⟨rfl, trivial⟩⟩⟩⟩⟩ H
        · replace H := H.2 c
          refine zt_iload_n kX4_looseIn_87 rfl ?_
          refine zt_iload kX4_looseIn_88 rfl ?_
          refine zt_ior kX4_looseIn_90 ?_
          refine zt_istore_n (L' := [zr 2 i0, zi x1, zi x2, zi (x3 ||| ((1 : Int32) <<< (x4 &&& 31))), zi x4, zi ((1 : Int32) <<< (x4 &&& 31)), zi 1]) kX4_looseIn_91 (by decide) rfl ?_
          refine zt_iinc (v := (x4 + (-1))) (L' := [zr 2 i0, zi x1, zi x2, zi (x3 ||| ((1 : Int32) <<< (x4 &&& 31))), zi (x4 + (-1)), zi ((1 : Int32) <<< (x4 &&& 31)), zi 1]) kX4_looseIn_92 rfl rfl (by decide) rfl ?_
          refine zt_goto kX4_looseIn_95 ?_
          exact zt_sub [zr 2 i0, zi x1, zi x2, zi (x3 ||| ((1 : Int32) <<< (x4 &&& 31))), zi (x4 + (-1)), zu, zu] ⟨rfl, ⟨rfl, ⟨rfl, ⟨rfl, ⟨rfl, trivial⟩⟩⟩⟩⟩ H
      · replace H := H.2 c
        refine zt_iload_n kX4_looseIn_41 rfl ?_
        refine zt_iload kX4_looseIn_42 rfl ?_
        refine zt_iand kX4_looseIn_44 ?_
        refine zt_if_ne kX4_looseIn_45 (fun c => ?_) (fun c => ?_)
        · replace H := H.1 c
          refine zt_iconst (v := 1) kX4_looseIn_58 rfl ?_
          refine zt_goto kX4_looseIn_59 ?_
          refine zt_istore (L' := [zr 2 i0, zi x1, zi x2, zi x3, zi x4, zi ((1 : Int32) <<< (x4 &&& 31)), zi 1]) kX4_looseIn_63 (by decide) rfl ?_
          refine zt_iload kX4_looseIn_65 rfl ?_
          refine zt_if_eq kX4_looseIn_67 (fun c => absurd c (by decide)) (fun _ => ?_)
          refine zt_aload_n kX4_looseIn_70 rfl ?_
          refine zt_get (v := zr 15 i0) kX4_looseIn_71 fRX4_27 rfl hi0 rfl ?_
          refine zt_iload kX4_looseIn_74 rfl ?_
          obtain ⟨hv, H⟩ := H
          refine zt_iald kX4_looseIn_76 rfl hi0 hv ?_
          refine zt_aload_n kX4_looseIn_77 rfl ?_
          refine zt_get (v := zr 13 i0) kX4_looseIn_78 fRX4_21 rfl hi0 rfl ?_
          refine zt_iload kX4_looseIn_81 rfl ?_
          obtain ⟨hv, H⟩ := H
          refine zt_iald kX4_looseIn_83 rfl hi0 hv ?_
          refine zt_icmp_le kX4_looseIn_84 (fun c => ?_) (fun c => ?_)
          · replace H := H.1 c
            refine zt_iinc (v := (x4 + (-1))) (L' := [zr 2 i0, zi x1, zi x2, zi x3, zi (x4 + (-1)), zi ((1 : Int32) <<< (x4 &&& 31)), zi 1]) kX4_looseIn_92 rfl rfl (by decide) rfl ?_
            refine zt_goto kX4_looseIn_95 ?_
            exact zt_sub [zr 2 i0, zi x1, zi x2, zi x3, zi (x4 + (-1)), zu, zu] ⟨rfl, ⟨rfl, ⟨rfl, ⟨rfl, ⟨rfl, trivial⟩⟩⟩⟩⟩ H
          · replace H := H.2 c
            refine zt_iload_n kX4_looseIn_87 rfl ?_
            refine zt_iload kX4_looseIn_88 rfl ?_
            refine zt_ior kX4_looseIn_90 ?_
            refine zt_istore_n (L' := [zr 2 i0, zi x1, zi x2, zi (x3 ||| ((1 : Int32) <<< (x4 &&& 31))), zi x4, zi ((1 : Int32) <<< (x4 &&& 31)), zi 1]) kX4_looseIn_91 (by decide) rfl ?_
            refine zt_iinc (v := (x4 + (-1))) (L' := [zr 2 i0, zi x1, zi x2, zi (x3 ||| ((1 : Int32) <<< (x4 &&& 31))), zi (x4 + (-1)), zi ((1 : Int32) <<< (x4 &&& 31)), zi 1]) kX4_looseIn_92 rfl rfl (by decide) rfl ?_
            refine zt_goto kX4_looseIn_95 ?_
            exact zt_sub [zr 2 i0, zi x1, zi x2, zi (x3 ||| ((1 : Int32) <<< (x4 &&& 31))), zi (x4 + (-1)), zu, zu] ⟨rfl, ⟨rfl, ⟨rfl, ⟨rfl, ⟨rfl, trivial⟩⟩⟩⟩⟩ H
        · replace H := H.2 c
          refine zt_aload_n kX4_looseIn_48 rfl ?_
          refine zt_iload_n kX4_looseIn_49 rfl ?_
          refine zt_iload kX4_looseIn_50 rfl ?_
          refine zt_cV (as := [zi x1, zi x4]) kX4_looseIn_52 sRX4_86 rfl hi0 rfl (by simp) rfl H (fun r2 h1 H => ?_)
          obtain ⟨y3, rfl, H⟩ := H
          refine zt_if_eq kX4_looseIn_55 (fun c => ?_) (fun c => ?_)
          · replace H := H.1 c
            refine zt_iconst (v := 0) kX4_looseIn_62 rfl ?_
            refine zt_istore (L' := [zr 2 i0, zi x1, zi x2, zi x3, zi x4, zi ((1 : Int32) <<< (x4 &&& 31)), zi 0]) kX4_looseIn_63 (by decide) rfl ?_
            refine zt_iload kX4_looseIn_65 rfl ?_
            refine zt_if_eq kX4_looseIn_67 (fun _ => ?_) (fun c => absurd c (by decide))
            refine zt_iload_n kX4_looseIn_87 rfl ?_
            refine zt_iload kX4_looseIn_88 rfl ?_
            refine zt_ior kX4_looseIn_90 ?_
            refine zt_istore_n (L' := [zr 2 i0, zi x1, zi x2, zi (x3 ||| ((1 : Int32) <<< (x4 &&& 31))), zi x4, zi ((1 : Int32) <<< (x4 &&& 31)), zi 0]) kX4_looseIn_91 (by decide) rfl ?_
            refine zt_iinc (v := (x4 + (-1))) (L' := [zr 2 i0, zi x1, zi x2, zi (x3 ||| ((1 : Int32) <<< (x4 &&& 31))), zi (x4 + (-1)), zi ((1 : Int32) <<< (x4 &&& 31)), zi 0]) kX4_looseIn_92 rfl rfl (by decide) rfl ?_
            refine zt_goto kX4_looseIn_95 ?_
            exact zt_sub [zr 2 i0, zi x1, zi x2, zi (x3 ||| ((1 : Int32) <<< (x4 &&& 31))), zi (x4 + (-1)), zu, zu] ⟨rfl, ⟨rfl, ⟨rfl, ⟨rfl, ⟨rfl, trivial⟩⟩⟩⟩⟩ H
          · replace H := H.2 c
            refine zt_iconst (v := 1) kX4_looseIn_58 rfl ?_
            refine zt_goto kX4_looseIn_59 ?_
            refine zt_istore (L' := [zr 2 i0, zi x1, zi x2, zi x3, zi x4, zi ((1 : Int32) <<< (x4 &&& 31)), zi 1]) kX4_looseIn_63 (by decide) rfl ?_
            refine zt_iload kX4_looseIn_65 rfl ?_
            refine zt_if_eq kX4_looseIn_67 (fun c => absurd c (by decide)) (fun _ => ?_)
            refine zt_aload_n kX4_looseIn_70 rfl ?_
            refine zt_get (v := zr 15 i0) kX4_looseIn_71 fRX4_27 rfl hi0 rfl ?_
            refine zt_iload kX4_looseIn_74 rfl ?_
            obtain ⟨hv, H⟩ := H
            refine zt_iald kX4_looseIn_76 rfl hi0 hv ?_
            refine zt_aload_n kX4_looseIn_77 rfl ?_
            refine zt_get (v := zr 13 i0) kX4_looseIn_78 fRX4_21 rfl hi0 rfl ?_
            refine zt_iload kX4_looseIn_81 rfl ?_
            obtain ⟨hv, H⟩ := H
            refine zt_iald kX4_looseIn_83 rfl hi0 hv ?_
            refine zt_icmp_le kX4_looseIn_84 (fun c => ?_) (fun c => ?_)
            · replace H := H.1 c
              refine zt_iinc (v := (x4 + (-1))) (L' := [zr 2 i0, zi x1, zi x2, zi x3, zi (x4 + (-1)), zi ((1 : Int32) <<< (x4 &&& 31)), zi 1]) kX4_looseIn_92 rfl rfl (by decide) rfl ?_
              refine zt_goto kX4_looseIn_95 ?_
              exact zt_sub [zr 2 i0, zi x1, zi x2, zi x3, zi (x4 + (-1)), zu, zu] ⟨rfl, ⟨rfl, ⟨rfl, ⟨rfl, ⟨rfl, trivial⟩⟩⟩⟩⟩ H
            · replace H := H.2 c
              refine zt_iload_n kX4_looseIn_87 rfl ?_
              refine zt_iload kX4_looseIn_88 rfl ?_
              refine zt_ior kX4_looseIn_90 ?_
              refine zt_istore_n (L' := [zr 2 i0, zi x1, zi x2, zi (x3 ||| ((1 : Int32) <<< (x4 &&& 31))), zi x4, zi ((1 : Int32) <<< (x4 &&& 31)), zi 1]) kX4_looseIn_91 (by decide) rfl ?_
              refine zt_iinc (v := (x4 + (-1))) (L' := [zr 2 i0, zi x1, zi x2, zi (x3 ||| ((1 : Int32) <<< (x4 &&& 31))), zi (x4 + (-1)), zi ((1 : Int32) <<< (x4 &&& 31)), zi 1]) kX4_looseIn_92 rfl rfl (by decide) rfl ?_
              refine zt_goto kX4_looseIn_95 ?_
              exact zt_sub [zr 2 i0, zi x1, zi x2, zi (x3 ||| ((1 : Int32) <<< (x4 &&& 31))), zi (x4 + (-1)), zu, zu] ⟨rfl, ⟨rfl, ⟨rfl, ⟨rfl, ⟨rfl, trivial⟩⟩⟩⟩⟩ H
    · replace H := H.2 c
      refine zt_goto kX4_looseIn_32 ?_
      refine zt_iinc (v := (x4 + (-1))) (L' := [zr 2 i0, zi x1, zi x2, zi x3, zi (x4 + (-1)), zi ((1 : Int32) <<< (x4 &&& 31)), zu]) kX4_looseIn_92 rfl rfl (by decide) rfl ?_
      refine zt_goto kX4_looseIn_95 ?_
      exact zt_sub [zr 2 i0, zi x1, zi x2, zi x3, zi (x4 + (-1)), zu, zu] ⟨rfl, ⟨rfl, ⟨rfl, ⟨rfl, ⟨rfl, trivial⟩⟩⟩⟩⟩ H

theorem kX4_leftOf_0 : zD cX4_leftOf 0 1 (.iload_n 1) 1 := by decide +kernel
theorem kX4_leftOf_1 : zD cX4_leftOf 1 2 (.istore_n 2) 1 := by decide +kernel
theorem kX4_leftOf_2 : zD cX4_leftOf 2 3 (.iconst 0) 1 := by decide +kernel
theorem kX4_leftOf_3 : zD cX4_leftOf 3 4 (.istore_n 3) 1 := by decide +kernel
theorem kX4_leftOf_4 : zD cX4_leftOf 4 5 (.iload_n 3) 1 := by decide +kernel
theorem kX4_leftOf_5 : zD cX4_leftOf 5 7 (.bipush 12) 2 := by decide +kernel
theorem kX4_leftOf_7 : zB cX4_leftOf 7 10 41 (.if_icmp .gt 34) 34 := by decide +kernel
theorem kX4_leftOf_10 : zD cX4_leftOf 10 11 (.aload_n 0) 1 := by decide +kernel
theorem kX4_leftOf_11 : zD cX4_leftOf 11 12 (.iload_n 2) 1 := by decide +kernel
theorem kX4_leftOf_12 : zD cX4_leftOf 12 13 (.aload_n 0) 1 := by decide +kernel
theorem kX4_leftOf_13 : zD cX4_leftOf 13 16 (.getfield 34) 3 := by decide +kernel
theorem kX4_leftOf_16 : zD cX4_leftOf 16 19 (.invokevirtual 76) 3 := by decide +kernel
theorem kX4_leftOf_19 : zD cX4_leftOf 19 21 (.istore 4) 2 := by decide +kernel
theorem kX4_leftOf_21 : zD cX4_leftOf 21 23 (.iload 4) 2 := by decide +kernel
theorem kX4_leftOf_23 : zB cX4_leftOf 23 26 28 (.ifCond .ne 5) 5 := by decide +kernel
theorem kX4_leftOf_26 : zD cX4_leftOf 26 27 (.iload_n 2) 1 := by decide +kernel
theorem kX4_leftOf_27 : zD cX4_leftOf 27 28 (.ireturn) 1 := by decide +kernel
theorem kX4_leftOf_28 : zD cX4_leftOf 28 29 (.iload_n 2) 1 := by decide +kernel
theorem kX4_leftOf_29 : zD cX4_leftOf 29 31 (.iload 4) 2 := by decide +kernel
theorem kX4_leftOf_31 : zD cX4_leftOf 31 32 (.iconst (-1)) 1 := by decide +kernel
theorem kX4_leftOf_32 : zD cX4_leftOf 32 33 (.ixor) 1 := by decide +kernel
theorem kX4_leftOf_33 : zD cX4_leftOf 33 34 (.iand) 1 := by decide +kernel
theorem kX4_leftOf_34 : zD cX4_leftOf 34 35 (.istore_n 2) 1 := by decide +kernel
theorem kX4_leftOf_35 : zD cX4_leftOf 35 38 (.iinc 3 1) 3 := by decide +kernel
theorem kX4_leftOf_38 : zB cX4_leftOf 38 41 4 (.goto (-34)) (-34) := by decide +kernel
theorem kX4_leftOf_41 : zD cX4_leftOf 41 42 (.iload_n 2) 1 := by decide +kernel
theorem kX4_leftOf_42 : zD cX4_leftOf 42 43 (.ireturn) 1 := by decide +kernel
set_option maxRecDepth 10000 in
theorem wX4_leftOf_0 {G : ZG} {d : Nat} {h : ZH} {Q : Option ZV → ZH → Prop} {i0 : Nat} {x1 : Int32} (hi0 : i0 < zcnt 2)
  (H : zT G (d + 3) mX4_leftOf 4 [zr 2 i0, zi x1, zi x1, zi 0, zu] [] h Q) :
  zT G (d + 3) mX4_leftOf 0 [zr 2 i0, zi x1, zu, zu, zu] [] h Q := by
  refine zt_iload_n kX4_leftOf_0 rfl ?_
  refine zt_istore_n (L' := [zr 2 i0, zi x1, zi x1, zu, zu]) kX4_leftOf_1 (by decide) rfl ?_
  refine zt_iconst (v := 0) kX4_leftOf_2 rfl ?_
  refine zt_istore_n (L' := [zr 2 i0, zi x1, zi x1, zi 0, zu]) kX4_leftOf_3 (by decide) rfl ?_
  exact H

set_option maxRecDepth 10000 in
theorem wX4_leftOf_4 {G : ZG} {d : Nat} {h : ZH} {Q : Option ZV → ZH → Prop} {i0 : Nat} {x1 : Int32} {x2 : Int32} {x3 : Int32} (hi0 : i0 < zcnt 2)
  (H : (12 < x3 → Q (some (zi x2)) h) ∧ (¬ 12 < x3 → zC G (d + 2) mX4_looseIn [zr 2 i0, zi x2, zi (h.1 2 i0 7)] h (fun r2 h1 => ∃ y3 : Int32, r2 = some (zi y3) ∧ (¬ y3 = 0 → zT G (d + 3) mX4_leftOf 4 [zr 2 i0, zi x1, zi (x2 &&& (y3 ^^^ (-1))), zi (x3 + 1), zu] [] h1 Q) ∧ (y3 = 0 → Q (some (zi x2)) h1)))) :
  zT G (d + 3) mX4_leftOf 4 [zr 2 i0, zi x1, zi x2, zi x3, zu] [] h Q := by
  refine zt_iload_n kX4_leftOf_4 rfl ?_
  refine zt_bipush (v := 12) kX4_leftOf_5 rfl ?_
  refine zt_icmp_gt kX4_leftOf_7 (fun c => ?_) (fun c => ?_)
  · replace H := H.1 c
    refine zt_iload_n kX4_leftOf_41 rfl ?_
    exact zt_iret kX4_leftOf_42 rfl H
  · replace H := H.2 c
    refine zt_aload_n kX4_leftOf_10 rfl ?_
    refine zt_iload_n kX4_leftOf_11 rfl ?_
    refine zt_aload_n kX4_leftOf_12 rfl ?_
    refine zt_get (v := zi (h.1 2 i0 7)) kX4_leftOf_13 fRX4_34 rfl hi0 rfl ?_
    refine zt_cV (as := [zi x2, zi (h.1 2 i0 7)]) kX4_leftOf_16 sRX4_76 rfl hi0 rfl (by simp) rfl H (fun r2 h1 H => ?_)
    obtain ⟨y3, rfl, H⟩ := H
    refine zt_istore (L' := [zr 2 i0, zi x1, zi x2, zi x3, zi y3]) kX4_leftOf_19 (by decide) rfl ?_
    refine zt_iload kX4_leftOf_21 rfl ?_
    refine zt_if_ne kX4_leftOf_23 (fun c => ?_) (fun c => ?_)
    · replace H := H.1 c
      refine zt_iload_n kX4_leftOf_28 rfl ?_
      refine zt_iload kX4_leftOf_29 rfl ?_
      refine zt_iconst (v := (-1)) kX4_leftOf_31 rfl ?_
      refine zt_ixor kX4_leftOf_32 ?_
      refine zt_iand kX4_leftOf_33 ?_
      refine zt_istore_n (L' := [zr 2 i0, zi x1, zi (x2 &&& (y3 ^^^ (-1))), zi x3, zi y3]) kX4_leftOf_34 (by decide) rfl ?_
      refine zt_iinc (v := (x3 + 1)) (L' := [zr 2 i0, zi x1, zi (x2 &&& (y3 ^^^ (-1))), zi (x3 + 1), zi y3]) kX4_leftOf_35 rfl rfl (by decide) rfl ?_
      refine zt_goto kX4_leftOf_38 ?_
      exact zt_sub [zr 2 i0, zi x1, zi (x2 &&& (y3 ^^^ (-1))), zi (x3 + 1), zu] ⟨rfl, ⟨rfl, ⟨rfl, ⟨rfl, trivial⟩⟩⟩⟩ H
    · replace H := H.2 c
      refine zt_iload_n kX4_leftOf_26 rfl ?_
      exact zt_iret kX4_leftOf_27 rfl H

theorem kX4_stepsFrom_0 : zD cX4_stepsFrom 0 1 (.iload_n 1) 1 := by decide +kernel
theorem kX4_stepsFrom_1 : zD cX4_stepsFrom 1 2 (.istore_n 2) 1 := by decide +kernel
theorem kX4_stepsFrom_2 : zD cX4_stepsFrom 2 3 (.iconst 0) 1 := by decide +kernel
theorem kX4_stepsFrom_3 : zD cX4_stepsFrom 3 4 (.istore_n 3) 1 := by decide +kernel
theorem kX4_stepsFrom_4 : zD cX4_stepsFrom 4 5 (.iload_n 3) 1 := by decide +kernel
theorem kX4_stepsFrom_5 : zD cX4_stepsFrom 5 7 (.bipush 12) 2 := by decide +kernel
theorem kX4_stepsFrom_7 : zB cX4_stepsFrom 7 10 41 (.if_icmp .gt 34) 34 := by decide +kernel
theorem kX4_stepsFrom_10 : zD cX4_stepsFrom 10 11 (.aload_n 0) 1 := by decide +kernel
theorem kX4_stepsFrom_11 : zD cX4_stepsFrom 11 12 (.iload_n 2) 1 := by decide +kernel
theorem kX4_stepsFrom_12 : zD cX4_stepsFrom 12 13 (.aload_n 0) 1 := by decide +kernel
theorem kX4_stepsFrom_13 : zD cX4_stepsFrom 13 16 (.getfield 34) 3 := by decide +kernel
theorem kX4_stepsFrom_16 : zD cX4_stepsFrom 16 19 (.invokevirtual 76) 3 := by decide +kernel
theorem kX4_stepsFrom_19 : zD cX4_stepsFrom 19 21 (.istore 4) 2 := by decide +kernel
theorem kX4_stepsFrom_21 : zD cX4_stepsFrom 21 23 (.iload 4) 2 := by decide +kernel
theorem kX4_stepsFrom_23 : zB cX4_stepsFrom 23 26 28 (.ifCond .ne 5) 5 := by decide +kernel
theorem kX4_stepsFrom_26 : zD cX4_stepsFrom 26 27 (.iload_n 3) 1 := by decide +kernel
theorem kX4_stepsFrom_27 : zD cX4_stepsFrom 27 28 (.ireturn) 1 := by decide +kernel
theorem kX4_stepsFrom_28 : zD cX4_stepsFrom 28 29 (.iload_n 2) 1 := by decide +kernel
theorem kX4_stepsFrom_29 : zD cX4_stepsFrom 29 31 (.iload 4) 2 := by decide +kernel
theorem kX4_stepsFrom_31 : zD cX4_stepsFrom 31 32 (.iconst (-1)) 1 := by decide +kernel
theorem kX4_stepsFrom_32 : zD cX4_stepsFrom 32 33 (.ixor) 1 := by decide +kernel
theorem kX4_stepsFrom_33 : zD cX4_stepsFrom 33 34 (.iand) 1 := by decide +kernel
theorem kX4_stepsFrom_34 : zD cX4_stepsFrom 34 35 (.istore_n 2) 1 := by decide +kernel
theorem kX4_stepsFrom_35 : zD cX4_stepsFrom 35 38 (.iinc 3 1) 3 := by decide +kernel
theorem kX4_stepsFrom_38 : zB cX4_stepsFrom 38 41 4 (.goto (-34)) (-34) := by decide +kernel
theorem kX4_stepsFrom_41 : zD cX4_stepsFrom 41 43 (.bipush 12) 2 := by decide +kernel
theorem kX4_stepsFrom_43 : zD cX4_stepsFrom 43 44 (.ireturn) 1 := by decide +kernel
set_option maxRecDepth 10000 in
theorem wX4_stepsFrom_0 {G : ZG} {d : Nat} {h : ZH} {Q : Option ZV → ZH → Prop} {i0 : Nat} {x1 : Int32} (hi0 : i0 < zcnt 2)
  (H : zT G (d + 3) mX4_stepsFrom 4 [zr 2 i0, zi x1, zi x1, zi 0, zu] [] h Q) :
  zT G (d + 3) mX4_stepsFrom 0 [zr 2 i0, zi x1, zu, zu, zu] [] h Q := by
  refine zt_iload_n kX4_stepsFrom_0 rfl ?_
  refine zt_istore_n (L' := [zr 2 i0, zi x1, zi x1, zu, zu]) kX4_stepsFrom_1 (by decide) rfl ?_
  refine zt_iconst (v := 0) kX4_stepsFrom_2 rfl ?_
  refine zt_istore_n (L' := [zr 2 i0, zi x1, zi x1, zi 0, zu]) kX4_stepsFrom_3 (by decide) rfl ?_
  exact H

set_option maxRecDepth 10000 in
theorem wX4_stepsFrom_4 {G : ZG} {d : Nat} {h : ZH} {Q : Option ZV → ZH → Prop} {i0 : Nat} {x1 : Int32} {x2 : Int32} {x3 : Int32} (hi0 : i0 < zcnt 2)
  (H : (12 < x3 → Q (some (zi 12)) h) ∧ (¬ 12 < x3 → zC G (d + 2) mX4_looseIn [zr 2 i0, zi x2, zi (h.1 2 i0 7)] h (fun r2 h1 => ∃ y3 : Int32, r2 = some (zi y3) ∧ (¬ y3 = 0 → zT G (d + 3) mX4_stepsFrom 4 [zr 2 i0, zi x1, zi (x2 &&& (y3 ^^^ (-1))), zi (x3 + 1), zu] [] h1 Q) ∧ (y3 = 0 → Q (some (zi x3)) h1)))) :
  zT G (d + 3) mX4_stepsFrom 4 [zr 2 i0, zi x1, zi x2, zi x3, zu] [] h Q := by
  refine zt_iload_n kX4_stepsFrom_4 rfl ?_
  refine zt_bipush (v := 12) kX4_stepsFrom_5 rfl ?_
  refine zt_icmp_gt kX4_stepsFrom_7 (fun c => ?_) (fun c => ?_)
  · replace H := H.1 c
    refine zt_bipush (v := 12) kX4_stepsFrom_41 rfl ?_
    exact zt_iret kX4_stepsFrom_43 rfl H
  · replace H := H.2 c
    refine zt_aload_n kX4_stepsFrom_10 rfl ?_
    refine zt_iload_n kX4_stepsFrom_11 rfl ?_
    refine zt_aload_n kX4_stepsFrom_12 rfl ?_
    refine zt_get (v := zi (h.1 2 i0 7)) kX4_stepsFrom_13 fRX4_34 rfl hi0 rfl ?_
    refine zt_cV (as := [zi x2, zi (h.1 2 i0 7)]) kX4_stepsFrom_16 sRX4_76 rfl hi0 rfl (by simp) rfl H (fun r2 h1 H => ?_)
    obtain ⟨y3, rfl, H⟩ := H
    refine zt_istore (L' := [zr 2 i0, zi x1, zi x2, zi x3, zi y3]) kX4_stepsFrom_19 (by decide) rfl ?_
    refine zt_iload kX4_stepsFrom_21 rfl ?_
    refine zt_if_ne kX4_stepsFrom_23 (fun c => ?_) (fun c => ?_)
    · replace H := H.1 c
      refine zt_iload_n kX4_stepsFrom_28 rfl ?_
      refine zt_iload kX4_stepsFrom_29 rfl ?_
      refine zt_iconst (v := (-1)) kX4_stepsFrom_31 rfl ?_
      refine zt_ixor kX4_stepsFrom_32 ?_
      refine zt_iand kX4_stepsFrom_33 ?_
      refine zt_istore_n (L' := [zr 2 i0, zi x1, zi (x2 &&& (y3 ^^^ (-1))), zi x3, zi y3]) kX4_stepsFrom_34 (by decide) rfl ?_
      refine zt_iinc (v := (x3 + 1)) (L' := [zr 2 i0, zi x1, zi (x2 &&& (y3 ^^^ (-1))), zi (x3 + 1), zi y3]) kX4_stepsFrom_35 rfl rfl (by decide) rfl ?_
      refine zt_goto kX4_stepsFrom_38 ?_
      exact zt_sub [zr 2 i0, zi x1, zi (x2 &&& (y3 ^^^ (-1))), zi (x3 + 1), zu] ⟨rfl, ⟨rfl, ⟨rfl, ⟨rfl, trivial⟩⟩⟩⟩ H
    · replace H := H.2 c
      refine zt_iload_n kX4_stepsFrom_26 rfl ?_
      exact zt_iret kX4_stepsFrom_27 rfl H

theorem kX4_settle_0 : zD cX4_settle 0 1 (.aload_n 0) 1 := by decide +kernel
theorem kX4_settle_1 : zD cX4_settle 1 2 (.aload_n 0) 1 := by decide +kernel
theorem kX4_settle_2 : zD cX4_settle 2 5 (.getfield 30) 3 := by decide +kernel
theorem kX4_settle_5 : zD cX4_settle 5 8 (.invokevirtual 68) 3 := by decide +kernel
theorem kX4_settle_8 : zD cX4_settle 8 9 (.istore_n 1) 1 := by decide +kernel
theorem kX4_settle_9 : zD cX4_settle 9 10 (.aload_n 0) 1 := by decide +kernel
theorem kX4_settle_10 : zD cX4_settle 10 13 (.getfield 30) 3 := by decide +kernel
theorem kX4_settle_13 : zD cX4_settle 13 16 (.invokestatic 71) 3 := by decide +kernel
theorem kX4_settle_16 : zD cX4_settle 16 17 (.iload_n 1) 1 := by decide +kernel
theorem kX4_settle_17 : zD cX4_settle 17 20 (.invokestatic 71) 3 := by decide +kernel
theorem kX4_settle_20 : zD cX4_settle 20 21 (.isub) 1 := by decide +kernel
theorem kX4_settle_21 : zD cX4_settle 21 22 (.istore_n 2) 1 := by decide +kernel
theorem kX4_settle_22 : zD cX4_settle 22 23 (.aload_n 0) 1 := by decide +kernel
theorem kX4_settle_23 : zD cX4_settle 23 24 (.iload_n 1) 1 := by decide +kernel
theorem kX4_settle_24 : zD cX4_settle 24 27 (.putfield 30) 3 := by decide +kernel
theorem kX4_settle_27 : zD cX4_settle 27 28 (.iload_n 2) 1 := by decide +kernel
theorem kX4_settle_28 : zD cX4_settle 28 29 (.ireturn) 1 := by decide +kernel
set_option maxRecDepth 10000 in
theorem wX4_settle_0 {G : ZG} {d : Nat} {h : ZH} {Q : Option ZV → ZH → Prop} {i0 : Nat} (hi0 : i0 < zcnt 2)
  (H : zC G (d + 3) mX4_leftOf [zr 2 i0, zi (h.1 2 i0 6)] h (fun r2 h1 => ∃ y3 : Int32, r2 = some (zi y3) ∧ ∀ h4 : ZH, h4 = zs1 h1 2 i0 6 y3 → Q (some (zi ((bcI (h1.1 2 i0 6)) - (bcI y3)))) h4)) :
  zT G (d + 4) mX4_settle 0 [zr 2 i0, zu, zu] [] h Q := by
  refine zt_aload_n kX4_settle_0 rfl ?_
  refine zt_aload_n kX4_settle_1 rfl ?_
  refine zt_get (v := zi (h.1 2 i0 6)) kX4_settle_2 fRX4_30 rfl hi0 rfl ?_
  refine zt_cV (as := [zi (h.1 2 i0 6)]) kX4_settle_5 sRX4_68 rfl hi0 rfl (by simp) rfl H (fun r2 h1 H => ?_)
  obtain ⟨y3, rfl, H⟩ := H
  refine zt_istore_n (L' := [zr 2 i0, zi y3, zu]) kX4_settle_8 (by decide) rfl ?_
  refine zt_aload_n kX4_settle_9 rfl ?_
  refine zt_get (v := zi (h1.1 2 i0 6)) kX4_settle_10 fRX4_30 rfl hi0 rfl ?_
  refine zt_cS (as := [zi (h1.1 2 i0 6)]) kX4_settle_13 sRX4_71 rfl (by simp) rfl (sJ6_bitCount_0f7a4 _  ) (fun r h0 hq => ?_)
  obtain ⟨rfl, hh⟩ := hq
  replace hh := hh.symm
  subst hh
  refine zt_iload_n kX4_settle_16 rfl ?_
  refine zt_cS (as := [zi y3]) kX4_settle_17 sRX4_71 rfl (by simp) rfl (sJ6_bitCount_0f7a4 _  ) (fun r h0 hq => ?_)
  obtain ⟨rfl, hh⟩ := hq
  replace hh := hh.symm
  subst hh
  refine zt_isub kX4_settle_20 ?_
  refine zt_istore_n (L' := [zr 2 i0, zi y3, zi ((bcI (h1.1 2 i0 6)) - (bcI y3))]) kX4_settle_21 (by decide) rfl ?_
  refine zt_aload_n kX4_settle_22 rfl ?_
  refine zt_iload_n kX4_settle_23 rfl ?_
  refine zt_put kX4_settle_24 fRX4_30 pRX4_6 rfl hi0 rfl ?_
  refine zt_heap (fun h4 eh4 => ?_)
  replace H := H h4 eh4
  refine zt_iload_n kX4_settle_27 rfl ?_
  exact zt_iret kX4_settle_28 rfl H

theorem kX12_leftWithout_0 : zD cX12_leftWithout 0 1 (.aload_n 0) 1 := by decide +kernel
theorem kX12_leftWithout_1 : zD cX12_leftWithout 1 2 (.iload_n 1) 1 := by decide +kernel
theorem kX12_leftWithout_2 : zD cX12_leftWithout 2 3 (.iload_n 2) 1 := by decide +kernel
theorem kX12_leftWithout_3 : zD cX12_leftWithout 3 4 (.iconst (-1)) 1 := by decide +kernel
theorem kX12_leftWithout_4 : zD cX12_leftWithout 4 5 (.ixor) 1 := by decide +kernel
theorem kX12_leftWithout_5 : zD cX12_leftWithout 5 6 (.iand) 1 := by decide +kernel
theorem kX12_leftWithout_6 : zD cX12_leftWithout 6 9 (.invokevirtual 104) 3 := by decide +kernel
theorem kX12_leftWithout_9 : zD cX12_leftWithout 9 10 (.ireturn) 1 := by decide +kernel
set_option maxRecDepth 10000 in
theorem wX12_leftWithout_0 {G : ZG} {d : Nat} {h : ZH} {Q : Option ZV → ZH → Prop} {x1 : Int32} {x2 : Int32} 
  (H : zC G (d + 5) mX12_settled [zr 5 0, zi (x1 &&& (x2 ^^^ (-1)))] h (fun r2 h1 => ∃ y3 : Int32, r2 = some (zi y3) ∧ Q (some (zi y3)) h1)) :
  zT G (d + 6) mX12_leftWithout 0 [zr 5 0, zi x1, zi x2] [] h Q := by
  refine zt_aload_n kX12_leftWithout_0 rfl ?_
  refine zt_iload_n kX12_leftWithout_1 rfl ?_
  refine zt_iload_n kX12_leftWithout_2 rfl ?_
  refine zt_iconst (v := (-1)) kX12_leftWithout_3 rfl ?_
  refine zt_ixor kX12_leftWithout_4 ?_
  refine zt_iand kX12_leftWithout_5 ?_
  refine zt_cV (as := [zi (x1 &&& (x2 ^^^ (-1)))]) kX12_leftWithout_6 sRX12_104 rfl (by decide) rfl (by simp) rfl H (fun r2 h1 H => ?_)
  obtain ⟨y3, rfl, H⟩ := H
  exact zt_iret kX12_leftWithout_9 rfl H

theorem kX12_fallsOf_0 : zD cX12_fallsOf 0 1 (.iload_n 1) 1 := by decide +kernel
theorem kX12_fallsOf_1 : zD cX12_fallsOf 1 2 (.iload_n 2) 1 := by decide +kernel
theorem kX12_fallsOf_2 : zD cX12_fallsOf 2 3 (.iconst (-1)) 1 := by decide +kernel
theorem kX12_fallsOf_3 : zD cX12_fallsOf 3 4 (.ixor) 1 := by decide +kernel
theorem kX12_fallsOf_4 : zD cX12_fallsOf 4 5 (.iand) 1 := by decide +kernel
theorem kX12_fallsOf_5 : zD cX12_fallsOf 5 8 (.invokestatic 107) 3 := by decide +kernel
theorem kX12_fallsOf_8 : zD cX12_fallsOf 8 9 (.aload_n 0) 1 := by decide +kernel
theorem kX12_fallsOf_9 : zD cX12_fallsOf 9 10 (.iload_n 1) 1 := by decide +kernel
theorem kX12_fallsOf_10 : zD cX12_fallsOf 10 11 (.iload_n 2) 1 := by decide +kernel
theorem kX12_fallsOf_11 : zD cX12_fallsOf 11 14 (.invokevirtual 110) 3 := by decide +kernel
theorem kX12_fallsOf_14 : zD cX12_fallsOf 14 17 (.invokestatic 107) 3 := by decide +kernel
theorem kX12_fallsOf_17 : zD cX12_fallsOf 17 18 (.isub) 1 := by decide +kernel
theorem kX12_fallsOf_18 : zD cX12_fallsOf 18 19 (.ireturn) 1 := by decide +kernel
set_option maxRecDepth 10000 in
theorem wX12_fallsOf_0 {G : ZG} {d : Nat} {h : ZH} {Q : Option ZV → ZH → Prop} {x1 : Int32} {x2 : Int32} 
  (H : zC G (d + 6) mX12_leftWithout [zr 5 0, zi x1, zi x2] h (fun r2 h1 => ∃ y3 : Int32, r2 = some (zi y3) ∧ Q (some (zi ((bitsI (x1 &&& (x2 ^^^ (-1)))) - (bitsI y3)))) h1)) :
  zT G (d + 7) mX12_fallsOf 0 [zr 5 0, zi x1, zi x2] [] h Q := by
  refine zt_iload_n kX12_fallsOf_0 rfl ?_
  refine zt_iload_n kX12_fallsOf_1 rfl ?_
  refine zt_iconst (v := (-1)) kX12_fallsOf_2 rfl ?_
  refine zt_ixor kX12_fallsOf_3 ?_
  refine zt_iand kX12_fallsOf_4 ?_
  refine zt_cS (as := [zi (x1 &&& (x2 ^^^ (-1)))]) kX12_fallsOf_5 sRX12_107 rfl (by simp) rfl (sX12_bits _  ) (fun r h0 hq => ?_)
  obtain ⟨rfl, hh⟩ := hq
  replace hh := hh.symm
  subst hh
  refine zt_aload_n kX12_fallsOf_8 rfl ?_
  refine zt_iload_n kX12_fallsOf_9 rfl ?_
  refine zt_iload_n kX12_fallsOf_10 rfl ?_
  refine zt_cV (as := [zi x1, zi x2]) kX12_fallsOf_11 sRX12_110 rfl (by decide) rfl (by simp) rfl H (fun r2 h1 H => ?_)
  obtain ⟨y3, rfl, H⟩ := H
  refine zt_cS (as := [zi y3]) kX12_fallsOf_14 sRX12_107 rfl (by simp) rfl (sX12_bits _  ) (fun r h0 hq => ?_)
  obtain ⟨rfl, hh⟩ := hq
  replace hh := hh.symm
  subst hh
  refine zt_isub kX12_fallsOf_17 ?_
  exact zt_iret kX12_fallsOf_18 rfl H

theorem kX12_safeOf_0 : zD cX12_safeOf 0 1 (.iconst 0) 1 := by decide +kernel
theorem kX12_safeOf_1 : zD cX12_safeOf 1 2 (.istore_n 2) 1 := by decide +kernel
theorem kX12_safeOf_2 : zD cX12_safeOf 2 3 (.iconst 0) 1 := by decide +kernel
theorem kX12_safeOf_3 : zD cX12_safeOf 3 4 (.istore_n 3) 1 := by decide +kernel
theorem kX12_safeOf_4 : zD cX12_safeOf 4 5 (.iload_n 3) 1 := by decide +kernel
theorem kX12_safeOf_5 : zD cX12_safeOf 5 7 (.bipush 12) 2 := by decide +kernel
theorem kX12_safeOf_7 : zB cX12_safeOf 7 10 45 (.if_icmp .ge 38) 38 := by decide +kernel
theorem kX12_safeOf_10 : zD cX12_safeOf 10 11 (.iload_n 2) 1 := by decide +kernel
theorem kX12_safeOf_11 : zD cX12_safeOf 11 12 (.iload_n 1) 1 := by decide +kernel
theorem kX12_safeOf_12 : zD cX12_safeOf 12 13 (.iload_n 3) 1 := by decide +kernel
theorem kX12_safeOf_13 : zD cX12_safeOf 13 16 (.invokestatic 57) 3 := by decide +kernel
theorem kX12_safeOf_16 : zB cX12_safeOf 16 19 36 (.ifCond .eq 20) 20 := by decide +kernel
theorem kX12_safeOf_19 : zD cX12_safeOf 19 20 (.aload_n 0) 1 := by decide +kernel
theorem kX12_safeOf_20 : zD cX12_safeOf 20 21 (.iload_n 1) 1 := by decide +kernel
theorem kX12_safeOf_21 : zD cX12_safeOf 21 22 (.iconst 1) 1 := by decide +kernel
theorem kX12_safeOf_22 : zD cX12_safeOf 22 23 (.iload_n 3) 1 := by decide +kernel
theorem kX12_safeOf_23 : zD cX12_safeOf 23 24 (.ishl) 1 := by decide +kernel
theorem kX12_safeOf_24 : zD cX12_safeOf 24 27 (.invokevirtual 163) 3 := by decide +kernel
theorem kX12_safeOf_27 : zB cX12_safeOf 27 30 36 (.ifCond .ne 9) 9 := by decide +kernel
theorem kX12_safeOf_30 : zD cX12_safeOf 30 31 (.iconst 1) 1 := by decide +kernel
theorem kX12_safeOf_31 : zD cX12_safeOf 31 32 (.iload_n 3) 1 := by decide +kernel
theorem kX12_safeOf_32 : zD cX12_safeOf 32 33 (.ishl) 1 := by decide +kernel
theorem kX12_safeOf_33 : zB cX12_safeOf 33 36 37 (.goto 4) 4 := by decide +kernel
theorem kX12_safeOf_36 : zD cX12_safeOf 36 37 (.iconst 0) 1 := by decide +kernel
theorem kX12_safeOf_37 : zD cX12_safeOf 37 38 (.ior) 1 := by decide +kernel
theorem kX12_safeOf_38 : zD cX12_safeOf 38 39 (.istore_n 2) 1 := by decide +kernel
theorem kX12_safeOf_39 : zD cX12_safeOf 39 42 (.iinc 3 1) 3 := by decide +kernel
theorem kX12_safeOf_42 : zB cX12_safeOf 42 45 4 (.goto (-38)) (-38) := by decide +kernel
theorem kX12_safeOf_45 : zD cX12_safeOf 45 46 (.iload_n 2) 1 := by decide +kernel
theorem kX12_safeOf_46 : zD cX12_safeOf 46 47 (.ireturn) 1 := by decide +kernel
set_option maxRecDepth 10000 in
theorem wX12_safeOf_0 {G : ZG} {d : Nat} {h : ZH} {Q : Option ZV → ZH → Prop} {x1 : Int32} 
  (H : zT G (d + 8) mX12_safeOf 4 [zr 5 0, zi x1, zi 0, zi 0] [] h Q) :
  zT G (d + 8) mX12_safeOf 0 [zr 5 0, zi x1, zu, zu] [] h Q := by
  refine zt_iconst (v := 0) kX12_safeOf_0 rfl ?_
  refine zt_istore_n (L' := [zr 5 0, zi x1, zi 0, zu]) kX12_safeOf_1 (by decide) rfl ?_
  refine zt_iconst (v := 0) kX12_safeOf_2 rfl ?_
  refine zt_istore_n (L' := [zr 5 0, zi x1, zi 0, zi 0]) kX12_safeOf_3 (by decide) rfl ?_
  exact H

set_option maxRecDepth 10000 in
theorem wX12_safeOf_4 {G : ZG} {d : Nat} {h : ZH} {Q : Option ZV → ZH → Prop} {x1 : Int32} {x2 : Int32} {x3 : Int32} 
  (H : (12 ≤ x3 → Q (some (zi x2)) h) ∧ (¬ 12 ≤ x3 → (¬ (hasI x1 x3) → zT G (d + 8) mX12_safeOf 4 [zr 5 0, zi x1, zi (x2 ||| 0), zi (x3 + 1)] [] h Q) ∧ ((hasI x1 x3) → zC G (d + 7) mX12_fallsOf [zr 5 0, zi x1, zi ((1 : Int32) <<< (x3 &&& 31))] h (fun r2 h1 => ∃ y3 : Int32, r2 = some (zi y3) ∧ (¬ y3 = 0 → zT G (d + 8) mX12_safeOf 4 [zr 5 0, zi x1, zi (x2 ||| 0), zi (x3 + 1)] [] h1 Q) ∧ (y3 = 0 → zT G (d + 8) mX12_safeOf 4 [zr 5 0, zi x1, zi (x2 ||| ((1 : Int32) <<< (x3 &&& 31))), zi (x3 + 1)] [] h1 Q))))) :
  zT G (d + 8) mX12_safeOf 4 [zr 5 0, zi x1, zi x2, zi x3] [] h Q := by
  refine zt_iload_n kX12_safeOf_4 rfl ?_
  refine zt_bipush (v := 12) kX12_safeOf_5 rfl ?_
  refine zt_icmp_ge kX12_safeOf_7 (fun c => ?_) (fun c => ?_)
  · replace H := H.1 c
    refine zt_iload_n kX12_safeOf_45 rfl ?_
    exact zt_iret kX12_safeOf_46 rfl H
  · replace H := H.2 c
    refine zt_iload_n kX12_safeOf_10 rfl ?_
    refine zt_iload_n kX12_safeOf_11 rfl ?_
    refine zt_iload_n kX12_safeOf_12 rfl ?_
    refine zt_cS (as := [zi x1, zi x3]) kX12_safeOf_13 sRX12_57 rfl (by simp) rfl (sX12_has _  ) (fun r h0 hq => ?_)
    obtain ⟨rfl, hh⟩ := hq
    replace hh := hh.symm
    subst hh
    refine zt_ifb_eq kX12_safeOf_16 (fun c => ?_) (fun c => ?_)
    · replace H := H.1 c
      refine zt_iconst (v := 0) kX12_safeOf_36 rfl ?_
      refine zt_ior kX12_safeOf_37 ?_
      refine zt_istore_n (L' := [zr 5 0, zi x1, zi (x2 ||| 0), zi x3]) kX12_safeOf_38 (by decide) rfl ?_
      refine zt_iinc (v := (x3 + 1)) (L' := [zr 5 0, zi x1, zi (x2 ||| 0), zi (x3 + 1)]) kX12_safeOf_39 rfl rfl (by decide) rfl ?_
      refine zt_goto kX12_safeOf_42 ?_
      exact H
    · replace H := H.2 c
      refine zt_aload_n kX12_safeOf_19 rfl ?_
      refine zt_iload_n kX12_safeOf_20 rfl ?_
      refine zt_iconst (v := 1) kX12_safeOf_21 rfl ?_
      refine zt_iload_n kX12_safeOf_22 rfl ?_
      refine zt_ishl kX12_safeOf_23 ?_
      refine zt_cV (as := [zi x1, zi ((1 : Int32) <<< (x3 &&& 31))]) kX12_safeOf_24 sRX12_163 rfl (by decide) rfl (by simp) rfl H (fun r2 h1 H => ?_)
      obtain ⟨y3, rfl, H⟩ := H
      refine zt_if_ne kX12_safeOf_27 (fun c => ?_) (fun c => ?_)
      · replace H := H.1 c
        refine zt_iconst (v := 0) kX12_safeOf_36 rfl ?_
        refine zt_ior kX12_safeOf_37 ?_
        refine zt_istore_n (L' := [zr 5 0, zi x1, zi (x2 ||| 0), zi x3]) kX12_safeOf_38 (by decide) rfl ?_
        refine zt_iinc (v := (x3 + 1)) (L' := [zr 5 0, zi x1, zi (x2 ||| 0), zi (x3 + 1)]) kX12_safeOf_39 rfl rfl (by decide) rfl ?_
        refine zt_goto kX12_safeOf_42 ?_
        exact H
      · replace H := H.2 c
        refine zt_iconst (v := 1) kX12_safeOf_30 rfl ?_
        refine zt_iload_n kX12_safeOf_31 rfl ?_
        refine zt_ishl kX12_safeOf_32 ?_
        refine zt_goto kX12_safeOf_33 ?_
        refine zt_ior kX12_safeOf_37 ?_
        refine zt_istore_n (L' := [zr 5 0, zi x1, zi (x2 ||| ((1 : Int32) <<< (x3 &&& 31))), zi x3]) kX12_safeOf_38 (by decide) rfl ?_
        refine zt_iinc (v := (x3 + 1)) (L' := [zr 5 0, zi x1, zi (x2 ||| ((1 : Int32) <<< (x3 &&& 31))), zi (x3 + 1)]) kX12_safeOf_39 rfl rfl (by decide) rfl ?_
        refine zt_goto kX12_safeOf_42 ?_
        exact H

theorem kX12_noteWithout_0 : zD cX12_noteWithout 0 1 (.aload_n 0) 1 := by decide +kernel
theorem kX12_noteWithout_1 : zD cX12_noteWithout 1 2 (.aload_n 0) 1 := by decide +kernel
theorem kX12_noteWithout_2 : zD cX12_noteWithout 2 5 (.getfield 9) 3 := by decide +kernel
theorem kX12_noteWithout_5 : zD cX12_noteWithout 5 6 (.iconst 0) 1 := by decide +kernel
theorem kX12_noteWithout_6 : zD cX12_noteWithout 6 7 (.iaload) 1 := by decide +kernel
theorem kX12_noteWithout_7 : zD cX12_noteWithout 7 8 (.iconst 1) 1 := by decide +kernel
theorem kX12_noteWithout_8 : zD cX12_noteWithout 8 9 (.iload_n 2) 1 := by decide +kernel
theorem kX12_noteWithout_9 : zD cX12_noteWithout 9 10 (.ishl) 1 := by decide +kernel
theorem kX12_noteWithout_10 : zD cX12_noteWithout 10 13 (.invokevirtual 110) 3 := by decide +kernel
theorem kX12_noteWithout_13 : zD cX12_noteWithout 13 14 (.istore_n 3) 1 := by decide +kernel
theorem kX12_noteWithout_14 : zD cX12_noteWithout 14 15 (.aload_n 0) 1 := by decide +kernel
theorem kX12_noteWithout_15 : zD cX12_noteWithout 15 16 (.iload_n 3) 1 := by decide +kernel
theorem kX12_noteWithout_16 : zD cX12_noteWithout 16 19 (.invokevirtual 94) 3 := by decide +kernel
theorem kX12_noteWithout_19 : zD cX12_noteWithout 19 20 (.iload_n 3) 1 := by decide +kernel
theorem kX12_noteWithout_20 : zD cX12_noteWithout 20 21 (.iload_n 1) 1 := by decide +kernel
theorem kX12_noteWithout_21 : zD cX12_noteWithout 21 24 (.invokestatic 57) 3 := by decide +kernel
theorem kX12_noteWithout_24 : zB cX12_noteWithout 24 27 35 (.ifCond .eq 11) 11 := by decide +kernel
theorem kX12_noteWithout_27 : zD cX12_noteWithout 27 28 (.aload_n 0) 1 := by decide +kernel
theorem kX12_noteWithout_28 : zD cX12_noteWithout 28 29 (.iload_n 1) 1 := by decide +kernel
theorem kX12_noteWithout_29 : zD cX12_noteWithout 29 32 (.invokevirtual 157) 3 := by decide +kernel
theorem kX12_noteWithout_32 : zB cX12_noteWithout 32 35 37 (.goto 5) 5 := by decide +kernel
theorem kX12_noteWithout_35 : zD cX12_noteWithout 35 37 (.bipush 50) 2 := by decide +kernel
theorem kX12_noteWithout_37 : zD cX12_noteWithout 37 38 (.ireturn) 1 := by decide +kernel
set_option maxRecDepth 10000 in
theorem wX12_noteWithout_0 {G : ZG} {d : Nat} {h : ZH} {Q : Option ZV → ZH → Prop} {x1 : Int32} {x2 : Int32} 
  (H : zC G (d + 6) mX12_leftWithout [zr 5 0, zi (h.1 30 0 0), zi ((1 : Int32) <<< (x2 &&& 31))] h (fun r2 h1 => ∃ y3 : Int32, r2 = some (zi y3) ∧ zC G (d + 6) mX12_loads [zr 5 0, zi y3] h1 (fun r5 h4 => r5 = none ∧ (¬ (hasI y3 x1) → Q (some (zi 50)) h4) ∧ ((hasI y3 x1) → vp_in x1 12 ∧ (Q (some (zi (noteI (wgtI (kindI h4 x1) (figI h4 x1)) (h4.1 33 0 x1.toNatClampNeg)))) h4))))) :
  zT G (d + 7) mX12_noteWithout 0 [zr 5 0, zi x1, zi x2, zu] [] h Q := by
  refine zt_aload_n kX12_noteWithout_0 rfl ?_
  refine zt_aload_n kX12_noteWithout_1 rfl ?_
  refine zt_get (v := zr 30 0) kX12_noteWithout_2 fRX12_9 rfl (by decide) rfl ?_
  refine zt_iconst (v := 0) kX12_noteWithout_5 rfl ?_
  refine zt_ialdc 0 rfl kX12_noteWithout_6 rfl (by decide) (zvp_dec (by decide)) ?_
  refine zt_iconst (v := 1) kX12_noteWithout_7 rfl ?_
  refine zt_iload_n kX12_noteWithout_8 rfl ?_
  refine zt_ishl kX12_noteWithout_9 ?_
  refine zt_cV (as := [zi (h.1 30 0 0), zi ((1 : Int32) <<< (x2 &&& 31))]) kX12_noteWithout_10 sRX12_110 rfl (by decide) rfl (by simp) rfl H (fun r2 h1 H => ?_)
  obtain ⟨y3, rfl, H⟩ := H
  refine zt_istore_n (L' := [zr 5 0, zi x1, zi x2, zi y3]) kX12_noteWithout_13 (by decide) rfl ?_
  refine zt_aload_n kX12_noteWithout_14 rfl ?_
  refine zt_iload_n kX12_noteWithout_15 rfl ?_
  refine zt_cV (as := [zi y3]) kX12_noteWithout_16 sRX12_94 rfl (by decide) rfl (by simp) rfl H (fun r5 h4 H => ?_)
  obtain ⟨rfl, H⟩ := H
  refine zt_iload_n kX12_noteWithout_19 rfl ?_
  refine zt_iload_n kX12_noteWithout_20 rfl ?_
  refine zt_cS (as := [zi y3, zi x1]) kX12_noteWithout_21 sRX12_57 rfl (by simp) rfl (sX12_has _  ) (fun r h0 hq => ?_)
  obtain ⟨rfl, hh⟩ := hq
  replace hh := hh.symm
  subst hh
  refine zt_ifb_eq kX12_noteWithout_24 (fun c => ?_) (fun c => ?_)
  · replace H := H.1 c
    refine zt_bipush (v := 50) kX12_noteWithout_35 rfl ?_
    exact zt_iret kX12_noteWithout_37 rfl H
  · replace H := H.2 c
    refine zt_aload_n kX12_noteWithout_27 rfl ?_
    refine zt_iload_n kX12_noteWithout_28 rfl ?_
    obtain ⟨pp0, H⟩ := H
    refine zt_cV (as := [zi x1]) kX12_noteWithout_29 sRX12_157 rfl (by decide) rfl (by simp) rfl (sX12_noteOf _  pp0) (fun r h0 hq => ?_)
    obtain ⟨rfl, hh⟩ := hq
    replace hh := hh.symm
    subst hh
    refine zt_goto kX12_noteWithout_32 ?_
    exact zt_iret kX12_noteWithout_37 rfl H

theorem kX4_weighIn_0 : zD cX4_weighIn 0 1 (.aload_n 0) 1 := by decide +kernel
theorem kX4_weighIn_1 : zD cX4_weighIn 1 2 (.iload_n 1) 1 := by decide +kernel
theorem kX4_weighIn_2 : zD cX4_weighIn 2 3 (.aload_n 0) 1 := by decide +kernel
theorem kX4_weighIn_3 : zD cX4_weighIn 3 6 (.getfield 34) 3 := by decide +kernel
theorem kX4_weighIn_6 : zD cX4_weighIn 6 9 (.invokevirtual 76) 3 := by decide +kernel
theorem kX4_weighIn_9 : zD cX4_weighIn 9 10 (.pop) 1 := by decide +kernel
theorem kX4_weighIn_10 : zD cX4_weighIn 10 11 (.return_) 1 := by decide +kernel
set_option maxRecDepth 10000 in
theorem wX4_weighIn_0 {G : ZG} {d : Nat} {h : ZH} {Q : Option ZV → ZH → Prop} {i0 : Nat} {x1 : Int32} (hi0 : i0 < zcnt 2)
  (H : zC G (d + 2) mX4_looseIn [zr 2 i0, zi x1, zi (h.1 2 i0 7)] h (fun r2 h1 => ∃ y3 : Int32, r2 = some (zi y3) ∧ Q none h1)) :
  zT G (d + 3) mX4_weighIn 0 [zr 2 i0, zi x1] [] h Q := by
  refine zt_aload_n kX4_weighIn_0 rfl ?_
  refine zt_iload_n kX4_weighIn_1 rfl ?_
  refine zt_aload_n kX4_weighIn_2 rfl ?_
  refine zt_get (v := zi (h.1 2 i0 7)) kX4_weighIn_3 fRX4_34 rfl hi0 rfl ?_
  refine zt_cV (as := [zi x1, zi (h.1 2 i0 7)]) kX4_weighIn_6 sRX4_76 rfl hi0 rfl (by simp) rfl H (fun r2 h1 H => ?_)
  obtain ⟨y3, rfl, H⟩ := H
  refine zt_pop kX4_weighIn_9 (by intro x q; cases q) ?_
  exact zt_vret kX4_weighIn_10 rfl H

theorem kX4_weighAll_0 : zD cX4_weighAll 0 1 (.aload_n 0) 1 := by decide +kernel
theorem kX4_weighAll_1 : zD cX4_weighAll 1 2 (.aload_n 0) 1 := by decide +kernel
theorem kX4_weighAll_2 : zD cX4_weighAll 2 5 (.getfield 30) 3 := by decide +kernel
theorem kX4_weighAll_5 : zD cX4_weighAll 5 8 (.invokevirtual 92) 3 := by decide +kernel
theorem kX4_weighAll_8 : zD cX4_weighAll 8 9 (.return_) 1 := by decide +kernel
set_option maxRecDepth 10000 in
theorem wX4_weighAll_0 {G : ZG} {d : Nat} {h : ZH} {Q : Option ZV → ZH → Prop} {i0 : Nat} (hi0 : i0 < zcnt 2)
  (H : zC G (d + 3) mX4_weighIn [zr 2 i0, zi (h.1 2 i0 6)] h (fun r2 h1 => r2 = none ∧ Q none h1)) :
  zT G (d + 4) mX4_weighAll 0 [zr 2 i0] [] h Q := by
  refine zt_aload_n kX4_weighAll_0 rfl ?_
  refine zt_aload_n kX4_weighAll_1 rfl ?_
  refine zt_get (v := zi (h.1 2 i0 6)) kX4_weighAll_2 fRX4_30 rfl hi0 rfl ?_
  refine zt_cV (as := [zi (h.1 2 i0 6)]) kX4_weighAll_5 sRX4_92 rfl hi0 rfl (by simp) rfl H (fun r2 h1 H => ?_)
  obtain ⟨rfl, H⟩ := H
  exact zt_vret kX4_weighAll_8 rfl H

theorem kX3_leftOf_0 : zD cX3_leftOf 0 1 (.aload_n 0) 1 := by decide +kernel
theorem kX3_leftOf_1 : zD cX3_leftOf 1 4 (.getfield 32) 3 := by decide +kernel
theorem kX3_leftOf_4 : zD cX3_leftOf 4 5 (.aload_n 0) 1 := by decide +kernel
theorem kX3_leftOf_5 : zD cX3_leftOf 5 8 (.getfield 12) 3 := by decide +kernel
theorem kX3_leftOf_8 : zD cX3_leftOf 8 11 (.getfield 36) 3 := by decide +kernel
theorem kX3_leftOf_11 : zB cX3_leftOf 11 14 33 (.if_icmp .eq 22) 22 := by decide +kernel
theorem kX3_leftOf_14 : zD cX3_leftOf 14 15 (.aload_n 0) 1 := by decide +kernel
theorem kX3_leftOf_15 : zD cX3_leftOf 15 18 (.getfield 18) 3 := by decide +kernel
theorem kX3_leftOf_18 : zD cX3_leftOf 18 19 (.iconst (-1)) 1 := by decide +kernel
theorem kX3_leftOf_19 : zD cX3_leftOf 19 22 (.invokestatic 39) 3 := by decide +kernel
theorem kX3_leftOf_22 : zD cX3_leftOf 22 23 (.aload_n 0) 1 := by decide +kernel
theorem kX3_leftOf_23 : zD cX3_leftOf 23 24 (.aload_n 0) 1 := by decide +kernel
theorem kX3_leftOf_24 : zD cX3_leftOf 24 27 (.getfield 12) 3 := by decide +kernel
theorem kX3_leftOf_27 : zD cX3_leftOf 27 30 (.getfield 36) 3 := by decide +kernel
theorem kX3_leftOf_30 : zD cX3_leftOf 30 33 (.putfield 32) 3 := by decide +kernel
theorem kX3_leftOf_33 : zD cX3_leftOf 33 34 (.iload_n 1) 1 := by decide +kernel
theorem kX3_leftOf_34 : zD cX3_leftOf 34 37 (.sipush 4095) 3 := by decide +kernel
theorem kX3_leftOf_37 : zD cX3_leftOf 37 38 (.iand) 1 := by decide +kernel
theorem kX3_leftOf_38 : zD cX3_leftOf 38 39 (.istore_n 2) 1 := by decide +kernel
theorem kX3_leftOf_39 : zD cX3_leftOf 39 40 (.aload_n 0) 1 := by decide +kernel
theorem kX3_leftOf_40 : zD cX3_leftOf 40 43 (.getfield 18) 3 := by decide +kernel
theorem kX3_leftOf_43 : zD cX3_leftOf 43 44 (.iload_n 2) 1 := by decide +kernel
theorem kX3_leftOf_44 : zD cX3_leftOf 44 45 (.iaload) 1 := by decide +kernel
theorem kX3_leftOf_45 : zD cX3_leftOf 45 46 (.iconst (-1)) 1 := by decide +kernel
theorem kX3_leftOf_46 : zB cX3_leftOf 46 49 63 (.if_icmp .ne 17) 17 := by decide +kernel
theorem kX3_leftOf_49 : zD cX3_leftOf 49 50 (.aload_n 0) 1 := by decide +kernel
theorem kX3_leftOf_50 : zD cX3_leftOf 50 53 (.getfield 18) 3 := by decide +kernel
theorem kX3_leftOf_53 : zD cX3_leftOf 53 54 (.iload_n 2) 1 := by decide +kernel
theorem kX3_leftOf_54 : zD cX3_leftOf 54 55 (.aload_n 0) 1 := by decide +kernel
theorem kX3_leftOf_55 : zD cX3_leftOf 55 58 (.getfield 12) 3 := by decide +kernel
theorem kX3_leftOf_58 : zD cX3_leftOf 58 59 (.iload_n 2) 1 := by decide +kernel
theorem kX3_leftOf_59 : zD cX3_leftOf 59 62 (.invokevirtual 45) 3 := by decide +kernel
theorem kX3_leftOf_62 : zD cX3_leftOf 62 63 (.iastore) 1 := by decide +kernel
theorem kX3_leftOf_63 : zD cX3_leftOf 63 64 (.aload_n 0) 1 := by decide +kernel
theorem kX3_leftOf_64 : zD cX3_leftOf 64 67 (.getfield 18) 3 := by decide +kernel
theorem kX3_leftOf_67 : zD cX3_leftOf 67 68 (.iload_n 2) 1 := by decide +kernel
theorem kX3_leftOf_68 : zD cX3_leftOf 68 69 (.iaload) 1 := by decide +kernel
theorem kX3_leftOf_69 : zD cX3_leftOf 69 70 (.ireturn) 1 := by decide +kernel
set_option maxRecDepth 10000 in
theorem wX3_leftOf_0 {G : ZG} {d : Nat} {h : ZH} {Q : Option ZV → ZH → Prop} {x1 : Int32} 
  (H : ((h.1 1 0 5) = (h.1 2 0 9) → vp_in (x1 &&& 4095) 4096 ∧ (¬ (h.1 17 0 (x1 &&& 4095).toNatClampNeg) = (-1) → vp_in (x1 &&& 4095) 4096 ∧ Q (some (zi (h.1 17 0 (x1 &&& 4095).toNatClampNeg))) h) ∧ ((h.1 17 0 (x1 &&& 4095).toNatClampNeg) = (-1) → zC G (d + 3) mX4_leftOf [zr 2 0, zi (x1 &&& 4095)] h (fun r2 h1 => ∃ y3 : Int32, r2 = some (zi y3) ∧ vp_in (x1 &&& 4095) 4096 ∧ (∀ h4 : ZH, h4 = zs1 h1 17 0 (x1 &&& 4095).toNatClampNeg y3 → vp_in (x1 &&& 4095) 4096 ∧ Q (some (zi (h4.1 17 0 (x1 &&& 4095).toNatClampNeg))) h4)))) ∧ (¬ (h.1 1 0 5) = (h.1 2 0 9) → zC G (d + 3) mJ7_fill_53178 [zr 17 0, zi (-1)] h (fun r6 h5 => r6 = none ∧ ∀ h7 : ZH, h7 = zs1 h5 1 0 5 (h5.1 2 0 9) → vp_in (x1 &&& 4095) 4096 ∧ (¬ (h7.1 17 0 (x1 &&& 4095).toNatClampNeg) = (-1) → vp_in (x1 &&& 4095) 4096 ∧ Q (some (zi (h7.1 17 0 (x1 &&& 4095).toNatClampNeg))) h7) ∧ ((h7.1 17 0 (x1 &&& 4095).toNatClampNeg) = (-1) → zC G (d + 3) mX4_leftOf [zr 2 0, zi (x1 &&& 4095)] h7 (fun r9 h8 => ∃ y10 : Int32, r9 = some (zi y10) ∧ vp_in (x1 &&& 4095) 4096 ∧ (∀ h11 : ZH, h11 = zs1 h8 17 0 (x1 &&& 4095).toNatClampNeg y10 → vp_in (x1 &&& 4095) 4096 ∧ Q (some (zi (h11.1 17 0 (x1 &&& 4095).toNatClampNeg))) h11)))))) :
  zT G (d + 4) mX3_leftOf 0 [zr 1 0, zi x1, zu] [] h Q := by
  refine zt_aload_n kX3_leftOf_0 rfl ?_
  refine zt_get (v := zi (h.1 1 0 5)) kX3_leftOf_1 fRX3_32 rfl (by decide) rfl ?_
  refine zt_aload_n kX3_leftOf_4 rfl ?_
  refine zt_get (v := zr 2 0) kX3_leftOf_5 fRX3_12 rfl (by decide) rfl ?_
  refine zt_get (v := zi (h.1 2 0 9)) kX3_leftOf_8 fRX3_36 rfl (by decide) rfl ?_
  refine zt_icmp_eq kX3_leftOf_11 (fun c => ?_) (fun c => ?_)
  · replace H := H.1 c
    refine zt_iload_n kX3_leftOf_33 rfl ?_
    refine zt_sipush (v := 4095) kX3_leftOf_34 rfl ?_
    refine zt_iand kX3_leftOf_37 ?_
    refine zt_istore_n (L' := [zr 1 0, zi x1, zi (x1 &&& 4095)]) kX3_leftOf_38 (by decide) rfl ?_
    refine zt_aload_n kX3_leftOf_39 rfl ?_
    refine zt_get (v := zr 17 0) kX3_leftOf_40 fRX3_18 rfl (by decide) rfl ?_
    refine zt_iload_n kX3_leftOf_43 rfl ?_
    obtain ⟨hv, H⟩ := H
    refine zt_iald kX3_leftOf_44 rfl (by decide) hv ?_
    refine zt_iconst (v := (-1)) kX3_leftOf_45 rfl ?_
    refine zt_icmp_ne kX3_leftOf_46 (fun c => ?_) (fun c => ?_)
    · replace H := H.1 c
      refine zt_aload_n kX3_leftOf_63 rfl ?_
      refine zt_get (v := zr 17 0) kX3_leftOf_64 fRX3_18 rfl (by decide) rfl ?_
      refine zt_iload_n kX3_leftOf_67 rfl ?_
      obtain ⟨hv, H⟩ := H
      refine zt_iald kX3_leftOf_68 rfl (by decide) hv ?_
      exact zt_iret kX3_leftOf_69 rfl H
    · replace H := H.2 c
      refine zt_aload_n kX3_leftOf_49 rfl ?_
      refine zt_get (v := zr 17 0) kX3_leftOf_50 fRX3_18 rfl (by decide) rfl ?_
      refine zt_iload_n kX3_leftOf_53 rfl ?_
      refine zt_aload_n kX3_leftOf_54 rfl ?_
      refine zt_get (v := zr 2 0) kX3_leftOf_55 fRX3_12 rfl (by decide) rfl ?_
      refine zt_iload_n kX3_leftOf_58 rfl ?_
      refine zt_cV (as := [zi (x1 &&& 4095)]) kX3_leftOf_59 sRX3_45 rfl (by decide) rfl (by simp) rfl H (fun r2 h1 H => ?_)
      obtain ⟨y3, rfl, H⟩ := H
      obtain ⟨hv, H⟩ := H
      refine zt_iast kX3_leftOf_62 rfl (by decide) hv ?_
      refine zt_heap (fun h4 eh4 => ?_)
      replace H := H h4 eh4
      refine zt_aload_n kX3_leftOf_63 rfl ?_
      refine zt_get (v := zr 17 0) kX3_leftOf_64 fRX3_18 rfl (by decide) rfl ?_
      refine zt_iload_n kX3_leftOf_67 rfl ?_
      obtain ⟨hv, H⟩ := H
      refine zt_iald kX3_leftOf_68 rfl (by decide) hv ?_
      exact zt_iret kX3_leftOf_69 rfl H
  · replace H := H.2 c
    refine zt_aload_n kX3_leftOf_14 rfl ?_
    refine zt_get (v := zr 17 0) kX3_leftOf_15 fRX3_18 rfl (by decide) rfl ?_
    refine zt_iconst (v := (-1)) kX3_leftOf_18 rfl ?_
    refine zt_cS (as := [zr 17 0, zi (-1)]) kX3_leftOf_19 sRX3_39 rfl (by simp) rfl H (fun r6 h5 H => ?_)
    obtain ⟨rfl, H⟩ := H
    refine zt_aload_n kX3_leftOf_22 rfl ?_
    refine zt_aload_n kX3_leftOf_23 rfl ?_
    refine zt_get (v := zr 2 0) kX3_leftOf_24 fRX3_12 rfl (by decide) rfl ?_
    refine zt_get (v := zi (h5.1 2 0 9)) kX3_leftOf_27 fRX3_36 rfl (by decide) rfl ?_
    refine zt_put kX3_leftOf_30 fRX3_32 pRX3_5 rfl (by decide) rfl ?_
    refine zt_heap (fun h7 eh7 => ?_)
    replace H := H h7 eh7
    refine zt_iload_n kX3_leftOf_33 rfl ?_
    refine zt_sipush (v := 4095) kX3_leftOf_34 rfl ?_
    refine zt_iand kX3_leftOf_37 ?_
    refine zt_istore_n (L' := [zr 1 0, zi x1, zi (x1 &&& 4095)]) kX3_leftOf_38 (by decide) rfl ?_
    refine zt_aload_n kX3_leftOf_39 rfl ?_
    refine zt_get (v := zr 17 0) kX3_leftOf_40 fRX3_18 rfl (by decide) rfl ?_
    refine zt_iload_n kX3_leftOf_43 rfl ?_
    obtain ⟨hv, H⟩ := H
    refine zt_iald kX3_leftOf_44 rfl (by decide) hv ?_
    refine zt_iconst (v := (-1)) kX3_leftOf_45 rfl ?_
    refine zt_icmp_ne kX3_leftOf_46 (fun c => ?_) (fun c => ?_)
    · replace H := H.1 c
      refine zt_aload_n kX3_leftOf_63 rfl ?_
      refine zt_get (v := zr 17 0) kX3_leftOf_64 fRX3_18 rfl (by decide) rfl ?_
      refine zt_iload_n kX3_leftOf_67 rfl ?_
      obtain ⟨hv, H⟩ := H
      refine zt_iald kX3_leftOf_68 rfl (by decide) hv ?_
      exact zt_iret kX3_leftOf_69 rfl H
    · replace H := H.2 c
      refine zt_aload_n kX3_leftOf_49 rfl ?_
      refine zt_get (v := zr 17 0) kX3_leftOf_50 fRX3_18 rfl (by decide) rfl ?_
      refine zt_iload_n kX3_leftOf_53 rfl ?_
      refine zt_aload_n kX3_leftOf_54 rfl ?_
      refine zt_get (v := zr 2 0) kX3_leftOf_55 fRX3_12 rfl (by decide) rfl ?_
      refine zt_iload_n kX3_leftOf_58 rfl ?_
      refine zt_cV (as := [zi (x1 &&& 4095)]) kX3_leftOf_59 sRX3_45 rfl (by decide) rfl (by simp) rfl H (fun r9 h8 H => ?_)
      obtain ⟨y10, rfl, H⟩ := H
      obtain ⟨hv, H⟩ := H
      refine zt_iast kX3_leftOf_62 rfl (by decide) hv ?_
      refine zt_heap (fun h11 eh11 => ?_)
      replace H := H h11 eh11
      refine zt_aload_n kX3_leftOf_63 rfl ?_
      refine zt_get (v := zr 17 0) kX3_leftOf_64 fRX3_18 rfl (by decide) rfl ?_
      refine zt_iload_n kX3_leftOf_67 rfl ?_
      obtain ⟨hv, H⟩ := H
      refine zt_iald kX3_leftOf_68 rfl (by decide) hv ?_
      exact zt_iret kX3_leftOf_69 rfl H

theorem kX3_fallenWithout_0 : zD cX3_fallenWithout 0 1 (.aload_n 0) 1 := by decide +kernel
theorem kX3_fallenWithout_1 : zD cX3_fallenWithout 1 4 (.getfield 12) 3 := by decide +kernel
theorem kX3_fallenWithout_4 : zD cX3_fallenWithout 4 7 (.getfield 49) 3 := by decide +kernel
theorem kX3_fallenWithout_7 : zD cX3_fallenWithout 7 8 (.iload_n 1) 1 := by decide +kernel
theorem kX3_fallenWithout_8 : zD cX3_fallenWithout 8 9 (.iconst (-1)) 1 := by decide +kernel
theorem kX3_fallenWithout_9 : zD cX3_fallenWithout 9 10 (.ixor) 1 := by decide +kernel
theorem kX3_fallenWithout_10 : zD cX3_fallenWithout 10 11 (.iand) 1 := by decide +kernel
theorem kX3_fallenWithout_11 : zD cX3_fallenWithout 11 12 (.istore_n 2) 1 := by decide +kernel
theorem kX3_fallenWithout_12 : zD cX3_fallenWithout 12 13 (.iload_n 2) 1 := by decide +kernel
theorem kX3_fallenWithout_13 : zD cX3_fallenWithout 13 14 (.aload_n 0) 1 := by decide +kernel
theorem kX3_fallenWithout_14 : zD cX3_fallenWithout 14 15 (.iload_n 2) 1 := by decide +kernel
theorem kX3_fallenWithout_15 : zD cX3_fallenWithout 15 18 (.invokevirtual 52) 3 := by decide +kernel
theorem kX3_fallenWithout_18 : zD cX3_fallenWithout 18 19 (.iconst (-1)) 1 := by decide +kernel
theorem kX3_fallenWithout_19 : zD cX3_fallenWithout 19 20 (.ixor) 1 := by decide +kernel
theorem kX3_fallenWithout_20 : zD cX3_fallenWithout 20 21 (.iand) 1 := by decide +kernel
theorem kX3_fallenWithout_21 : zD cX3_fallenWithout 21 22 (.ireturn) 1 := by decide +kernel
set_option maxRecDepth 10000 in
theorem wX3_fallenWithout_0 {G : ZG} {d : Nat} {h : ZH} {Q : Option ZV → ZH → Prop} {x1 : Int32} 
  (H : zC G (d + 4) mX3_leftOf [zr 1 0, zi ((h.1 2 0 6) &&& (x1 ^^^ (-1)))] h (fun r2 h1 => ∃ y3 : Int32, r2 = some (zi y3) ∧ Q (some (zi (((h.1 2 0 6) &&& (x1 ^^^ (-1))) &&& (y3 ^^^ (-1))))) h1)) :
  zT G (d + 5) mX3_fallenWithout 0 [zr 1 0, zi x1, zu] [] h Q := by
  refine zt_aload_n kX3_fallenWithout_0 rfl ?_
  refine zt_get (v := zr 2 0) kX3_fallenWithout_1 fRX3_12 rfl (by decide) rfl ?_
  refine zt_get (v := zi (h.1 2 0 6)) kX3_fallenWithout_4 fRX3_49 rfl (by decide) rfl ?_
  refine zt_iload_n kX3_fallenWithout_7 rfl ?_
  refine zt_iconst (v := (-1)) kX3_fallenWithout_8 rfl ?_
  refine zt_ixor kX3_fallenWithout_9 ?_
  refine zt_iand kX3_fallenWithout_10 ?_
  refine zt_istore_n (L' := [zr 1 0, zi x1, zi ((h.1 2 0 6) &&& (x1 ^^^ (-1)))]) kX3_fallenWithout_11 (by decide) rfl ?_
  refine zt_iload_n kX3_fallenWithout_12 rfl ?_
  refine zt_aload_n kX3_fallenWithout_13 rfl ?_
  refine zt_iload_n kX3_fallenWithout_14 rfl ?_
  refine zt_cV (as := [zi ((h.1 2 0 6) &&& (x1 ^^^ (-1)))]) kX3_fallenWithout_15 sRX3_52 rfl (by decide) rfl (by simp) rfl H (fun r2 h1 H => ?_)
  obtain ⟨y3, rfl, H⟩ := H
  refine zt_iconst (v := (-1)) kX3_fallenWithout_18 rfl ?_
  refine zt_ixor kX3_fallenWithout_19 ?_
  refine zt_iand kX3_fallenWithout_20 ?_
  exact zt_iret kX3_fallenWithout_21 rfl H

theorem kX3_countWithout_0 : zD cX3_countWithout 0 1 (.aload_n 0) 1 := by decide +kernel
theorem kX3_countWithout_1 : zD cX3_countWithout 1 2 (.iload_n 1) 1 := by decide +kernel
theorem kX3_countWithout_2 : zD cX3_countWithout 2 5 (.invokevirtual 53) 3 := by decide +kernel
theorem kX3_countWithout_5 : zD cX3_countWithout 5 8 (.invokestatic 56) 3 := by decide +kernel
theorem kX3_countWithout_8 : zD cX3_countWithout 8 9 (.ireturn) 1 := by decide +kernel
set_option maxRecDepth 10000 in
theorem wX3_countWithout_0 {G : ZG} {d : Nat} {h : ZH} {Q : Option ZV → ZH → Prop} {x1 : Int32} 
  (H : zC G (d + 5) mX3_fallenWithout [zr 1 0, zi x1] h (fun r2 h1 => ∃ y3 : Int32, r2 = some (zi y3) ∧ Q (some (zi (bcI y3))) h1)) :
  zT G (d + 6) mX3_countWithout 0 [zr 1 0, zi x1] [] h Q := by
  refine zt_aload_n kX3_countWithout_0 rfl ?_
  refine zt_iload_n kX3_countWithout_1 rfl ?_
  refine zt_cV (as := [zi x1]) kX3_countWithout_2 sRX3_53 rfl (by decide) rfl (by simp) rfl H (fun r2 h1 H => ?_)
  obtain ⟨y3, rfl, H⟩ := H
  refine zt_cS (as := [zi y3]) kX3_countWithout_5 sRX3_56 rfl (by simp) rfl (sJ6_bitCount_0f7a4 _  ) (fun r h0 hq => ?_)
  obtain ⟨rfl, hh⟩ := hq
  replace hh := hh.symm
  subst hh
  exact zt_iret kX3_countWithout_8 rfl H

theorem kX3_isSafeIn_0 : zD cX3_isSafeIn 0 1 (.iload_n 1) 1 := by decide +kernel
theorem kX3_isSafeIn_1 : zD cX3_isSafeIn 1 2 (.iconst 1) 1 := by decide +kernel
theorem kX3_isSafeIn_2 : zD cX3_isSafeIn 2 3 (.iload_n 2) 1 := by decide +kernel
theorem kX3_isSafeIn_3 : zD cX3_isSafeIn 3 4 (.ishl) 1 := by decide +kernel
theorem kX3_isSafeIn_4 : zD cX3_isSafeIn 4 5 (.iconst (-1)) 1 := by decide +kernel
theorem kX3_isSafeIn_5 : zD cX3_isSafeIn 5 6 (.ixor) 1 := by decide +kernel
theorem kX3_isSafeIn_6 : zD cX3_isSafeIn 6 7 (.iand) 1 := by decide +kernel
theorem kX3_isSafeIn_7 : zD cX3_isSafeIn 7 8 (.istore_n 3) 1 := by decide +kernel
theorem kX3_isSafeIn_8 : zD cX3_isSafeIn 8 9 (.iload_n 3) 1 := by decide +kernel
theorem kX3_isSafeIn_9 : zD cX3_isSafeIn 9 10 (.iload_n 1) 1 := by decide +kernel
theorem kX3_isSafeIn_10 : zB cX3_isSafeIn 10 13 26 (.if_icmp .eq 16) 16 := by decide +kernel
theorem kX3_isSafeIn_13 : zD cX3_isSafeIn 13 14 (.aload_n 0) 1 := by decide +kernel
theorem kX3_isSafeIn_14 : zD cX3_isSafeIn 14 15 (.iload_n 3) 1 := by decide +kernel
theorem kX3_isSafeIn_15 : zD cX3_isSafeIn 15 18 (.invokevirtual 52) 3 := by decide +kernel
theorem kX3_isSafeIn_18 : zD cX3_isSafeIn 18 19 (.iload_n 3) 1 := by decide +kernel
theorem kX3_isSafeIn_19 : zB cX3_isSafeIn 19 22 26 (.if_icmp .ne 7) 7 := by decide +kernel
theorem kX3_isSafeIn_22 : zD cX3_isSafeIn 22 23 (.iconst 1) 1 := by decide +kernel
theorem kX3_isSafeIn_23 : zB cX3_isSafeIn 23 26 27 (.goto 4) 4 := by decide +kernel
theorem kX3_isSafeIn_26 : zD cX3_isSafeIn 26 27 (.iconst 0) 1 := by decide +kernel
theorem kX3_isSafeIn_27 : zD cX3_isSafeIn 27 28 (.ireturn) 1 := by decide +kernel
set_option maxRecDepth 10000 in
theorem wX3_isSafeIn_0 {G : ZG} {d : Nat} {h : ZH} {Q : Option ZV → ZH → Prop} {x1 : Int32} {x2 : Int32} 
  (H : ((x1 &&& (((1 : Int32) <<< (x2 &&& 31)) ^^^ (-1))) = x1 → Q (some (zi 0)) h) ∧ (¬ (x1 &&& (((1 : Int32) <<< (x2 &&& 31)) ^^^ (-1))) = x1 → zC G (d + 4) mX3_leftOf [zr 1 0, zi (x1 &&& (((1 : Int32) <<< (x2 &&& 31)) ^^^ (-1)))] h (fun r2 h1 => ∃ y3 : Int32, r2 = some (zi y3) ∧ (¬ y3 = (x1 &&& (((1 : Int32) <<< (x2 &&& 31)) ^^^ (-1))) → Q (some (zi 0)) h1) ∧ (y3 = (x1 &&& (((1 : Int32) <<< (x2 &&& 31)) ^^^ (-1))) → Q (some (zi 1)) h1)))) :
  zT G (d + 5) mX3_isSafeIn 0 [zr 1 0, zi x1, zi x2, zu] [] h Q := by
  refine zt_iload_n kX3_isSafeIn_0 rfl ?_
  refine zt_iconst (v := 1) kX3_isSafeIn_1 rfl ?_
  refine zt_iload_n kX3_isSafeIn_2 rfl ?_
  refine zt_ishl kX3_isSafeIn_3 ?_
  refine zt_iconst (v := (-1)) kX3_isSafeIn_4 rfl ?_
  refine zt_ixor kX3_isSafeIn_5 ?_
  refine zt_iand kX3_isSafeIn_6 ?_
  refine zt_istore_n (L' := [zr 1 0, zi x1, zi x2, zi (x1 &&& (((1 : Int32) <<< (x2 &&& 31)) ^^^ (-1)))]) kX3_isSafeIn_7 (by decide) rfl ?_
  refine zt_iload_n kX3_isSafeIn_8 rfl ?_
  refine zt_iload_n kX3_isSafeIn_9 rfl ?_
  refine zt_icmp_eq kX3_isSafeIn_10 (fun c => ?_) (fun c => ?_)
  · replace H := H.1 c
    refine zt_iconst (v := 0) kX3_isSafeIn_26 rfl ?_
    exact zt_zret kX3_isSafeIn_27 rfl (by decide) H
  · replace H := H.2 c
    refine zt_aload_n kX3_isSafeIn_13 rfl ?_
    refine zt_iload_n kX3_isSafeIn_14 rfl ?_
    refine zt_cV (as := [zi (x1 &&& (((1 : Int32) <<< (x2 &&& 31)) ^^^ (-1)))]) kX3_isSafeIn_15 sRX3_52 rfl (by decide) rfl (by simp) rfl H (fun r2 h1 H => ?_)
    obtain ⟨y3, rfl, H⟩ := H
    refine zt_iload_n kX3_isSafeIn_18 rfl ?_
    refine zt_icmp_ne kX3_isSafeIn_19 (fun c => ?_) (fun c => ?_)
    · replace H := H.1 c
      refine zt_iconst (v := 0) kX3_isSafeIn_26 rfl ?_
      exact zt_zret kX3_isSafeIn_27 rfl (by decide) H
    · replace H := H.2 c
      refine zt_iconst (v := 1) kX3_isSafeIn_22 rfl ?_
      refine zt_goto kX3_isSafeIn_23 ?_
      exact zt_zret kX3_isSafeIn_27 rfl (by decide) H

theorem kX4_lay_0 : zD cX4_lay 0 1 (.aload_n 0) 1 := by decide +kernel
theorem kX4_lay_1 : zD cX4_lay 1 4 (.getfield 9) 3 := by decide +kernel
theorem kX4_lay_4 : zD cX4_lay 4 5 (.iload_n 1) 1 := by decide +kernel
theorem kX4_lay_5 : zD cX4_lay 5 6 (.iload_n 2) 1 := by decide +kernel
theorem kX4_lay_6 : zD cX4_lay 6 7 (.iastore) 1 := by decide +kernel
theorem kX4_lay_7 : zD cX4_lay 7 8 (.aload_n 0) 1 := by decide +kernel
theorem kX4_lay_8 : zD cX4_lay 8 11 (.getfield 15) 3 := by decide +kernel
theorem kX4_lay_11 : zD cX4_lay 11 12 (.iload_n 1) 1 := by decide +kernel
theorem kX4_lay_12 : zD cX4_lay 12 13 (.iload_n 3) 1 := by decide +kernel
theorem kX4_lay_13 : zD cX4_lay 13 14 (.iastore) 1 := by decide +kernel
theorem kX4_lay_14 : zD cX4_lay 14 15 (.aload_n 0) 1 := by decide +kernel
theorem kX4_lay_15 : zD cX4_lay 15 18 (.getfield 18) 3 := by decide +kernel
theorem kX4_lay_18 : zD cX4_lay 18 19 (.iload_n 1) 1 := by decide +kernel
theorem kX4_lay_19 : zD cX4_lay 19 21 (.aload 4) 2 := by decide +kernel
theorem kX4_lay_21 : zD cX4_lay 21 22 (.iload_n 3) 1 := by decide +kernel
theorem kX4_lay_22 : zD cX4_lay 22 25 (.invokevirtual 53) 3 := by decide +kernel
theorem kX4_lay_25 : zD cX4_lay 25 26 (.iastore) 1 := by decide +kernel
theorem kX4_lay_26 : zD cX4_lay 26 27 (.aload_n 0) 1 := by decide +kernel
theorem kX4_lay_27 : zD cX4_lay 27 30 (.getfield 21) 3 := by decide +kernel
theorem kX4_lay_30 : zD cX4_lay 30 31 (.iload_n 1) 1 := by decide +kernel
theorem kX4_lay_31 : zD cX4_lay 31 33 (.aload 4) 2 := by decide +kernel
theorem kX4_lay_33 : zD cX4_lay 33 34 (.iload_n 3) 1 := by decide +kernel
theorem kX4_lay_34 : zD cX4_lay 34 37 (.invokevirtual 59) 3 := by decide +kernel
theorem kX4_lay_37 : zD cX4_lay 37 38 (.iastore) 1 := by decide +kernel
theorem kX4_lay_38 : zD cX4_lay 38 39 (.aload_n 0) 1 := by decide +kernel
theorem kX4_lay_39 : zD cX4_lay 39 42 (.getfield 24) 3 := by decide +kernel
theorem kX4_lay_42 : zD cX4_lay 42 43 (.iload_n 1) 1 := by decide +kernel
theorem kX4_lay_43 : zD cX4_lay 43 45 (.aload 4) 2 := by decide +kernel
theorem kX4_lay_45 : zD cX4_lay 45 48 (.invokevirtual 61) 3 := by decide +kernel
theorem kX4_lay_48 : zD cX4_lay 48 49 (.iastore) 1 := by decide +kernel
theorem kX4_lay_49 : zD cX4_lay 49 50 (.aload_n 0) 1 := by decide +kernel
theorem kX4_lay_50 : zD cX4_lay 50 51 (.aload_n 0) 1 := by decide +kernel
theorem kX4_lay_51 : zD cX4_lay 51 54 (.getfield 24) 3 := by decide +kernel
theorem kX4_lay_54 : zD cX4_lay 54 55 (.iload_n 1) 1 := by decide +kernel
theorem kX4_lay_55 : zD cX4_lay 55 56 (.iaload) 1 := by decide +kernel
theorem kX4_lay_56 : zD cX4_lay 56 57 (.iconst 3) 1 := by decide +kernel
theorem kX4_lay_57 : zB cX4_lay 57 60 73 (.if_icmp .ne 16) 16 := by decide +kernel
theorem kX4_lay_60 : zD cX4_lay 60 61 (.aload_n 0) 1 := by decide +kernel
theorem kX4_lay_61 : zD cX4_lay 61 64 (.getfield 37) 3 := by decide +kernel
theorem kX4_lay_64 : zD cX4_lay 64 65 (.iconst 1) 1 := by decide +kernel
theorem kX4_lay_65 : zD cX4_lay 65 66 (.iload_n 1) 1 := by decide +kernel
theorem kX4_lay_66 : zD cX4_lay 66 67 (.ishl) 1 := by decide +kernel
theorem kX4_lay_67 : zD cX4_lay 67 68 (.iconst (-1)) 1 := by decide +kernel
theorem kX4_lay_68 : zD cX4_lay 68 69 (.ixor) 1 := by decide +kernel
theorem kX4_lay_69 : zD cX4_lay 69 70 (.iand) 1 := by decide +kernel
theorem kX4_lay_70 : zB cX4_lay 70 73 81 (.goto 11) 11 := by decide +kernel
theorem kX4_lay_73 : zD cX4_lay 73 74 (.aload_n 0) 1 := by decide +kernel
theorem kX4_lay_74 : zD cX4_lay 74 77 (.getfield 37) 3 := by decide +kernel
theorem kX4_lay_77 : zD cX4_lay 77 78 (.iconst 1) 1 := by decide +kernel
theorem kX4_lay_78 : zD cX4_lay 78 79 (.iload_n 1) 1 := by decide +kernel
theorem kX4_lay_79 : zD cX4_lay 79 80 (.ishl) 1 := by decide +kernel
theorem kX4_lay_80 : zD cX4_lay 80 81 (.ior) 1 := by decide +kernel
theorem kX4_lay_81 : zD cX4_lay 81 84 (.putfield 37) 3 := by decide +kernel
theorem kX4_lay_84 : zD cX4_lay 84 85 (.aload_n 0) 1 := by decide +kernel
theorem kX4_lay_85 : zD cX4_lay 85 86 (.dup) 1 := by decide +kernel
theorem kX4_lay_86 : zD cX4_lay 86 89 (.getfield 30) 3 := by decide +kernel
theorem kX4_lay_89 : zD cX4_lay 89 90 (.iconst 1) 1 := by decide +kernel
theorem kX4_lay_90 : zD cX4_lay 90 91 (.iload_n 1) 1 := by decide +kernel
theorem kX4_lay_91 : zD cX4_lay 91 92 (.ishl) 1 := by decide +kernel
theorem kX4_lay_92 : zD cX4_lay 92 93 (.ior) 1 := by decide +kernel
theorem kX4_lay_93 : zD cX4_lay 93 96 (.putfield 30) 3 := by decide +kernel
theorem kX4_lay_96 : zD cX4_lay 96 97 (.aload_n 0) 1 := by decide +kernel
theorem kX4_lay_97 : zD cX4_lay 97 98 (.dup) 1 := by decide +kernel
theorem kX4_lay_98 : zD cX4_lay 98 101 (.getfield 40) 3 := by decide +kernel
theorem kX4_lay_101 : zD cX4_lay 101 102 (.iconst 1) 1 := by decide +kernel
theorem kX4_lay_102 : zD cX4_lay 102 103 (.iadd) 1 := by decide +kernel
theorem kX4_lay_103 : zD cX4_lay 103 106 (.putfield 40) 3 := by decide +kernel
theorem kX4_lay_106 : zD cX4_lay 106 107 (.aload_n 0) 1 := by decide +kernel
theorem kX4_lay_107 : zD cX4_lay 107 110 (.invokevirtual 65) 3 := by decide +kernel
theorem kX4_lay_110 : zD cX4_lay 110 111 (.ireturn) 1 := by decide +kernel
set_option maxRecDepth 10000 in
theorem wX4_lay_0 {G : ZG} {d : Nat} {h : ZH} {Q : Option ZV → ZH → Prop} {i0 : Nat} {x1 : Int32} {x2 : Int32} {x3 : Int32} {i4 : Nat} (hi0 : i0 < zcnt 2) (hi4 : i4 < zcnt 4)
  (H : vp_in x1 12 ∧ (∀ h1 : ZH, h1 = zs1 h 10 i0 x1.toNatClampNeg x2 → vp_in x1 12 ∧ (∀ h2 : ZH, h2 = zs1 h1 11 i0 x1.toNatClampNeg x3 → zCX G (d + 4) RX4 53 mX10_weight i4 [zi x3] 1 h2 (fun r4 h3 => ∃ y5 : Int32, r4 = some (zi y5) ∧ vp_in x1 12 ∧ (∀ h6 : ZH, h6 = zs1 h3 12 i0 x1.toNatClampNeg y5 → zCX G (d + 4) RX4 59 mX10_bears i4 [zi x3] 1 h6 (fun r8 h7 => ∃ y9 : Int32, r8 = some (zi y9) ∧ vp_in x1 12 ∧ (∀ h10 : ZH, h10 = zs1 h7 13 i0 x1.toNatClampNeg y9 → zCX G (d + 4) RX4 61 mX10_manner i4 [] 0 h10 (fun r12 h11 => ∃ y13 : Int32, r12 = some (zi y13) ∧ vp_in x1 12 ∧ (∀ h14 : ZH, h14 = zs1 h11 14 i0 x1.toNatClampNeg y13 → vp_in x1 12 ∧ (¬ (h14.1 14 i0 x1.toNatClampNeg) = 3 → ∀ h15 : ZH, h15 = zs1 h14 2 i0 8 ((h14.1 2 i0 8) ||| ((1 : Int32) <<< (x1 &&& 31))) → ∀ h16 : ZH, h16 = zs1 h15 2 i0 6 ((h15.1 2 i0 6) ||| ((1 : Int32) <<< (x1 &&& 31))) → ∀ h17 : ZH, h17 = zs1 h16 2 i0 9 ((h16.1 2 i0 9) + 1) → zC G (d + 4) mX4_settle [zr 2 i0] h17 (fun r19 h18 => ∃ y20 : Int32, r19 = some (zi y20) ∧ Q (some (zi y20)) h18)) ∧ ((h14.1 14 i0 x1.toNatClampNeg) = 3 → ∀ h21 : ZH, h21 = zs1 h14 2 i0 8 ((h14.1 2 i0 8) &&& (((1 : Int32) <<< (x1 &&& 31)) ^^^ (-1))) → ∀ h22 : ZH, h22 = zs1 h21 2 i0 6 ((h21.1 2 i0 6) ||| ((1 : Int32) <<< (x1 &&& 31))) → ∀ h23 : ZH, h23 = zs1 h22 2 i0 9 ((h22.1 2 i0 9) + 1) → zC G (d + 4) mX4_settle [zr 2 i0] h23 (fun r25 h24 => ∃ y26 : Int32, r25 = some (zi y26) ∧ Q (some (zi y26)) h24))))))))))) :
  zT G (d + 5) mX4_lay 0 [zr 2 i0, zi x1, zi x2, zi x3, zr 4 i4] [] h Q := by
  refine zt_aload_n kX4_lay_0 rfl ?_
  refine zt_get (v := zr 10 i0) kX4_lay_1 fRX4_9 rfl hi0 rfl ?_
  refine zt_iload_n kX4_lay_4 rfl ?_
  refine zt_iload_n kX4_lay_5 rfl ?_
  obtain ⟨hv, H⟩ := H
  refine zt_iast kX4_lay_6 rfl hi0 hv ?_
  refine zt_heap (fun h1 eh1 => ?_)
  replace H := H h1 eh1
  refine zt_aload_n kX4_lay_7 rfl ?_
  refine zt_get (v := zr 11 i0) kX4_lay_8 fRX4_15 rfl hi0 rfl ?_
  refine zt_iload_n kX4_lay_11 rfl ?_
  refine zt_iload_n kX4_lay_12 rfl ?_
  obtain ⟨hv, H⟩ := H
  refine zt_iast kX4_lay_13 rfl hi0 hv ?_
  refine zt_heap (fun h2 eh2 => ?_)
  replace H := H h2 eh2
  refine zt_aload_n kX4_lay_14 rfl ?_
  refine zt_get (v := zr 12 i0) kX4_lay_15 fRX4_18 rfl hi0 rfl ?_
  refine zt_iload_n kX4_lay_18 rfl ?_
  refine zt_aload kX4_lay_19 rfl ?_
  refine zt_iload_n kX4_lay_21 rfl ?_
  refine zt_cX (as := [zi x3]) kX4_lay_22 (i := i4) H hi4 rfl (by simp) rfl (fun r4 h3 H => ?_)
  obtain ⟨y5, rfl, H⟩ := H
  obtain ⟨hv, H⟩ := H
  refine zt_iast kX4_lay_25 rfl hi0 hv ?_
  refine zt_heap (fun h6 eh6 => ?_)
  replace H := H h6 eh6
  refine zt_aload_n kX4_lay_26 rfl ?_
  refine zt_get (v := zr 13 i0) kX4_lay_27 fRX4_21 rfl hi0 rfl ?_
  refine zt_iload_n kX4_lay_30 rfl ?_
  refine zt_aload kX4_lay_31 rfl ?_
  refine zt_iload_n kX4_lay_33 rfl ?_
  refine zt_cX (as := [zi x3]) kX4_lay_34 (i := i4) H hi4 rfl (by simp) rfl (fun r8 h7 H => ?_)
  obtain ⟨y9, rfl, H⟩ := H
  obtain ⟨hv, H⟩ := H
  refine zt_iast kX4_lay_37 rfl hi0 hv ?_
  refine zt_heap (fun h10 eh10 => ?_)
  replace H := H h10 eh10
  refine zt_aload_n kX4_lay_38 rfl ?_
  refine zt_get (v := zr 14 i0) kX4_lay_39 fRX4_24 rfl hi0 rfl ?_
  refine zt_iload_n kX4_lay_42 rfl ?_
  refine zt_aload kX4_lay_43 rfl ?_
  refine zt_cX (as := []) kX4_lay_45 (i := i4) H hi4 rfl (by simp) rfl (fun r12 h11 H => ?_)
  obtain ⟨y13, rfl, H⟩ := H
  obtain ⟨hv, H⟩ := H
  refine zt_iast kX4_lay_48 rfl hi0 hv ?_
  refine zt_heap (fun h14 eh14 => ?_)
  replace H := H h14 eh14
  refine zt_aload_n kX4_lay_49 rfl ?_
  refine zt_aload_n kX4_lay_50 rfl ?_
  refine zt_get (v := zr 14 i0) kX4_lay_51 fRX4_24 rfl hi0 rfl ?_
  refine zt_iload_n kX4_lay_54 rfl ?_
  obtain ⟨hv, H⟩ := H
  refine zt_iald kX4_lay_55 rfl hi0 hv ?_
  refine zt_iconst (v := 3) kX4_lay_56 rfl ?_
  refine zt_icmp_ne kX4_lay_57 (fun c => ?_) (fun c => ?_)
  · replace H := H.1 c
    refine zt_aload_n kX4_lay_73 rfl ?_
    refine zt_get (v := zi (h14.1 2 i0 8)) kX4_lay_74 fRX4_37 rfl hi0 rfl ?_
    refine zt_iconst (v := 1) kX4_lay_77 rfl ?_
    refine zt_iload_n kX4_lay_78 rfl ?_
    refine zt_ishl kX4_lay_79 ?_
    refine zt_ior kX4_lay_80 ?_
    refine zt_put kX4_lay_81 fRX4_37 pRX4_8 rfl hi0 rfl ?_
    refine zt_heap (fun h15 eh15 => ?_)
    replace H := H h15 eh15
    refine zt_aload_n kX4_lay_84 rfl ?_
    refine zt_dup kX4_lay_85 (by intro x q; cases q) ?_
    refine zt_get (v := zi (h15.1 2 i0 6)) kX4_lay_86 fRX4_30 rfl hi0 rfl ?_
    refine zt_iconst (v := 1) kX4_lay_89 rfl ?_
    refine zt_iload_n kX4_lay_90 rfl ?_
    refine zt_ishl kX4_lay_91 ?_
    refine zt_ior kX4_lay_92 ?_
    refine zt_put kX4_lay_93 fRX4_30 pRX4_6 rfl hi0 rfl ?_
    refine zt_heap (fun h16 eh16 => ?_)
    replace H := H h16 eh16
    refine zt_aload_n kX4_lay_96 rfl ?_
    refine zt_dup kX4_lay_97 (by intro x q; cases q) ?_
    refine zt_get (v := zi (h16.1 2 i0 9)) kX4_lay_98 fRX4_40 rfl hi0 rfl ?_
    refine zt_iconst (v := 1) kX4_lay_101 rfl ?_
    refine zt_iadd kX4_lay_102 ?_
    refine zt_put kX4_lay_103 fRX4_40 pRX4_9 rfl hi0 rfl ?_
    refine zt_heap (fun h17 eh17 => ?_)
    replace H := H h17 eh17
    refine zt_aload_n kX4_lay_106 rfl ?_
    refine zt_cV (as := []) kX4_lay_107 sRX4_65 rfl hi0 rfl (by simp) rfl H (fun r19 h18 H => ?_)
    obtain ⟨y20, rfl, H⟩ := H
    exact zt_iret kX4_lay_110 rfl H
  · replace H := H.2 c
    refine zt_aload_n kX4_lay_60 rfl ?_
    refine zt_get (v := zi (h14.1 2 i0 8)) kX4_lay_61 fRX4_37 rfl hi0 rfl ?_
    refine zt_iconst (v := 1) kX4_lay_64 rfl ?_
    refine zt_iload_n kX4_lay_65 rfl ?_
    refine zt_ishl kX4_lay_66 ?_
    refine zt_iconst (v := (-1)) kX4_lay_67 rfl ?_
    refine zt_ixor kX4_lay_68 ?_
    refine zt_iand kX4_lay_69 ?_
    refine zt_goto kX4_lay_70 ?_
    refine zt_put kX4_lay_81 fRX4_37 pRX4_8 rfl hi0 rfl ?_
    refine zt_heap (fun h21 eh21 => ?_)
    replace H := H h21 eh21
    refine zt_aload_n kX4_lay_84 rfl ?_
    refine zt_dup kX4_lay_85 (by intro x q; cases q) ?_
    refine zt_get (v := zi (h21.1 2 i0 6)) kX4_lay_86 fRX4_30 rfl hi0 rfl ?_
    refine zt_iconst (v := 1) kX4_lay_89 rfl ?_
    refine zt_iload_n kX4_lay_90 rfl ?_
    refine zt_ishl kX4_lay_91 ?_
    refine zt_ior kX4_lay_92 ?_
    refine zt_put kX4_lay_93 fRX4_30 pRX4_6 rfl hi0 rfl ?_
    refine zt_heap (fun h22 eh22 => ?_)
    replace H := H h22 eh22
    refine zt_aload_n kX4_lay_96 rfl ?_
    refine zt_dup kX4_lay_97 (by intro x q; cases q) ?_
    refine zt_get (v := zi (h22.1 2 i0 9)) kX4_lay_98 fRX4_40 rfl hi0 rfl ?_
    refine zt_iconst (v := 1) kX4_lay_101 rfl ?_
    refine zt_iadd kX4_lay_102 ?_
    refine zt_put kX4_lay_103 fRX4_40 pRX4_9 rfl hi0 rfl ?_
    refine zt_heap (fun h23 eh23 => ?_)
    replace H := H h23 eh23
    refine zt_aload_n kX4_lay_106 rfl ?_
    refine zt_cV (as := []) kX4_lay_107 sRX4_65 rfl hi0 rfl (by simp) rfl H (fun r25 h24 H => ?_)
    obtain ⟨y26, rfl, H⟩ := H
    exact zt_iret kX4_lay_110 rfl H

theorem kX4_takeOut_0 : zD cX4_takeOut 0 1 (.aload_n 0) 1 := by decide +kernel
theorem kX4_takeOut_1 : zD cX4_takeOut 1 2 (.dup) 1 := by decide +kernel
theorem kX4_takeOut_2 : zD cX4_takeOut 2 5 (.getfield 30) 3 := by decide +kernel
theorem kX4_takeOut_5 : zD cX4_takeOut 5 6 (.iconst 1) 1 := by decide +kernel
theorem kX4_takeOut_6 : zD cX4_takeOut 6 7 (.iload_n 1) 1 := by decide +kernel
theorem kX4_takeOut_7 : zD cX4_takeOut 7 8 (.ishl) 1 := by decide +kernel
theorem kX4_takeOut_8 : zD cX4_takeOut 8 9 (.iconst (-1)) 1 := by decide +kernel
theorem kX4_takeOut_9 : zD cX4_takeOut 9 10 (.ixor) 1 := by decide +kernel
theorem kX4_takeOut_10 : zD cX4_takeOut 10 11 (.iand) 1 := by decide +kernel
theorem kX4_takeOut_11 : zD cX4_takeOut 11 14 (.putfield 30) 3 := by decide +kernel
theorem kX4_takeOut_14 : zD cX4_takeOut 14 15 (.aload_n 0) 1 := by decide +kernel
theorem kX4_takeOut_15 : zD cX4_takeOut 15 18 (.invokevirtual 65) 3 := by decide +kernel
theorem kX4_takeOut_18 : zD cX4_takeOut 18 19 (.ireturn) 1 := by decide +kernel
set_option maxRecDepth 10000 in
theorem wX4_takeOut_0 {G : ZG} {d : Nat} {h : ZH} {Q : Option ZV → ZH → Prop} {i0 : Nat} {x1 : Int32} (hi0 : i0 < zcnt 2)
  (H : ∀ h1 : ZH, h1 = zs1 h 2 i0 6 ((h.1 2 i0 6) &&& (((1 : Int32) <<< (x1 &&& 31)) ^^^ (-1))) → zC G (d + 4) mX4_settle [zr 2 i0] h1 (fun r3 h2 => ∃ y4 : Int32, r3 = some (zi y4) ∧ Q (some (zi y4)) h2)) :
  zT G (d + 5) mX4_takeOut 0 [zr 2 i0, zi x1] [] h Q := by
  refine zt_aload_n kX4_takeOut_0 rfl ?_
  refine zt_dup kX4_takeOut_1 (by intro x q; cases q) ?_
  refine zt_get (v := zi (h.1 2 i0 6)) kX4_takeOut_2 fRX4_30 rfl hi0 rfl ?_
  refine zt_iconst (v := 1) kX4_takeOut_5 rfl ?_
  refine zt_iload_n kX4_takeOut_6 rfl ?_
  refine zt_ishl kX4_takeOut_7 ?_
  refine zt_iconst (v := (-1)) kX4_takeOut_8 rfl ?_
  refine zt_ixor kX4_takeOut_9 ?_
  refine zt_iand kX4_takeOut_10 ?_
  refine zt_put kX4_takeOut_11 fRX4_30 pRX4_6 rfl hi0 rfl ?_
  refine zt_heap (fun h1 eh1 => ?_)
  replace H := H h1 eh1
  refine zt_aload_n kX4_takeOut_14 rfl ?_
  refine zt_cV (as := []) kX4_takeOut_15 sRX4_65 rfl hi0 rfl (by simp) rfl H (fun r3 h2 H => ?_)
  obtain ⟨y4, rfl, H⟩ := H
  exact zt_iret kX4_takeOut_18 rfl H

theorem kX4_turnProp_0 : zD cX4_turnProp 0 1 (.aload_n 0) 1 := by decide +kernel
theorem kX4_turnProp_1 : zD cX4_turnProp 1 2 (.dup) 1 := by decide +kernel
theorem kX4_turnProp_2 : zD cX4_turnProp 2 5 (.getfield 34) 3 := by decide +kernel
theorem kX4_turnProp_5 : zD cX4_turnProp 5 6 (.iconst 1) 1 := by decide +kernel
theorem kX4_turnProp_6 : zD cX4_turnProp 6 7 (.iload_n 1) 1 := by decide +kernel
theorem kX4_turnProp_7 : zD cX4_turnProp 7 8 (.ishl) 1 := by decide +kernel
theorem kX4_turnProp_8 : zD cX4_turnProp 8 9 (.ixor) 1 := by decide +kernel
theorem kX4_turnProp_9 : zD cX4_turnProp 9 12 (.putfield 34) 3 := by decide +kernel
theorem kX4_turnProp_12 : zD cX4_turnProp 12 13 (.aload_n 0) 1 := by decide +kernel
theorem kX4_turnProp_13 : zD cX4_turnProp 13 14 (.dup) 1 := by decide +kernel
theorem kX4_turnProp_14 : zD cX4_turnProp 14 17 (.getfield 40) 3 := by decide +kernel
theorem kX4_turnProp_17 : zD cX4_turnProp 17 18 (.iconst 1) 1 := by decide +kernel
theorem kX4_turnProp_18 : zD cX4_turnProp 18 19 (.iadd) 1 := by decide +kernel
theorem kX4_turnProp_19 : zD cX4_turnProp 19 22 (.putfield 40) 3 := by decide +kernel
theorem kX4_turnProp_22 : zD cX4_turnProp 22 23 (.aload_n 0) 1 := by decide +kernel
theorem kX4_turnProp_23 : zD cX4_turnProp 23 26 (.invokevirtual 65) 3 := by decide +kernel
theorem kX4_turnProp_26 : zD cX4_turnProp 26 27 (.ireturn) 1 := by decide +kernel
set_option maxRecDepth 10000 in
theorem wX4_turnProp_0 {G : ZG} {d : Nat} {h : ZH} {Q : Option ZV → ZH → Prop} {i0 : Nat} {x1 : Int32} (hi0 : i0 < zcnt 2)
  (H : ∀ h1 : ZH, h1 = zs1 h 2 i0 7 ((h.1 2 i0 7) ^^^ ((1 : Int32) <<< (x1 &&& 31))) → ∀ h2 : ZH, h2 = zs1 h1 2 i0 9 ((h1.1 2 i0 9) + 1) → zC G (d + 4) mX4_settle [zr 2 i0] h2 (fun r4 h3 => ∃ y5 : Int32, r4 = some (zi y5) ∧ Q (some (zi y5)) h3)) :
  zT G (d + 5) mX4_turnProp 0 [zr 2 i0, zi x1] [] h Q := by
  refine zt_aload_n kX4_turnProp_0 rfl ?_
  refine zt_dup kX4_turnProp_1 (by intro x q; cases q) ?_
  refine zt_get (v := zi (h.1 2 i0 7)) kX4_turnProp_2 fRX4_34 rfl hi0 rfl ?_
  refine zt_iconst (v := 1) kX4_turnProp_5 rfl ?_
  refine zt_iload_n kX4_turnProp_6 rfl ?_
  refine zt_ishl kX4_turnProp_7 ?_
  refine zt_ixor kX4_turnProp_8 ?_
  refine zt_put kX4_turnProp_9 fRX4_34 pRX4_7 rfl hi0 rfl ?_
  refine zt_heap (fun h1 eh1 => ?_)
  replace H := H h1 eh1
  refine zt_aload_n kX4_turnProp_12 rfl ?_
  refine zt_dup kX4_turnProp_13 (by intro x q; cases q) ?_
  refine zt_get (v := zi (h1.1 2 i0 9)) kX4_turnProp_14 fRX4_40 rfl hi0 rfl ?_
  refine zt_iconst (v := 1) kX4_turnProp_17 rfl ?_
  refine zt_iadd kX4_turnProp_18 ?_
  refine zt_put kX4_turnProp_19 fRX4_40 pRX4_9 rfl hi0 rfl ?_
  refine zt_heap (fun h2 eh2 => ?_)
  replace H := H h2 eh2
  refine zt_aload_n kX4_turnProp_22 rfl ?_
  refine zt_cV (as := []) kX4_turnProp_23 sRX4_65 rfl hi0 rfl (by simp) rfl H (fun r4 h3 H => ?_)
  obtain ⟨y5, rfl, H⟩ := H
  exact zt_iret kX4_turnProp_26 rfl H

theorem kX4_becomeAs_0 : zD cX4_becomeAs 0 1 (.aload_n 1) 1 := by decide +kernel
theorem kX4_becomeAs_1 : zD cX4_becomeAs 1 4 (.getfield 9) 3 := by decide +kernel
theorem kX4_becomeAs_4 : zD cX4_becomeAs 4 5 (.iconst 0) 1 := by decide +kernel
theorem kX4_becomeAs_5 : zD cX4_becomeAs 5 6 (.aload_n 0) 1 := by decide +kernel
theorem kX4_becomeAs_6 : zD cX4_becomeAs 6 9 (.getfield 9) 3 := by decide +kernel
theorem kX4_becomeAs_9 : zD cX4_becomeAs 9 10 (.iconst 0) 1 := by decide +kernel
theorem kX4_becomeAs_10 : zD cX4_becomeAs 10 12 (.bipush 12) 2 := by decide +kernel
theorem kX4_becomeAs_12 : zD cX4_becomeAs 12 15 (.invokestatic 47) 3 := by decide +kernel
theorem kX4_becomeAs_15 : zD cX4_becomeAs 15 16 (.aload_n 1) 1 := by decide +kernel
theorem kX4_becomeAs_16 : zD cX4_becomeAs 16 19 (.getfield 15) 3 := by decide +kernel
theorem kX4_becomeAs_19 : zD cX4_becomeAs 19 20 (.iconst 0) 1 := by decide +kernel
theorem kX4_becomeAs_20 : zD cX4_becomeAs 20 21 (.aload_n 0) 1 := by decide +kernel
theorem kX4_becomeAs_21 : zD cX4_becomeAs 21 24 (.getfield 15) 3 := by decide +kernel
theorem kX4_becomeAs_24 : zD cX4_becomeAs 24 25 (.iconst 0) 1 := by decide +kernel
theorem kX4_becomeAs_25 : zD cX4_becomeAs 25 27 (.bipush 12) 2 := by decide +kernel
theorem kX4_becomeAs_27 : zD cX4_becomeAs 27 30 (.invokestatic 47) 3 := by decide +kernel
theorem kX4_becomeAs_30 : zD cX4_becomeAs 30 31 (.aload_n 1) 1 := by decide +kernel
theorem kX4_becomeAs_31 : zD cX4_becomeAs 31 34 (.getfield 18) 3 := by decide +kernel
theorem kX4_becomeAs_34 : zD cX4_becomeAs 34 35 (.iconst 0) 1 := by decide +kernel
theorem kX4_becomeAs_35 : zD cX4_becomeAs 35 36 (.aload_n 0) 1 := by decide +kernel
theorem kX4_becomeAs_36 : zD cX4_becomeAs 36 39 (.getfield 18) 3 := by decide +kernel
theorem kX4_becomeAs_39 : zD cX4_becomeAs 39 40 (.iconst 0) 1 := by decide +kernel
theorem kX4_becomeAs_40 : zD cX4_becomeAs 40 42 (.bipush 12) 2 := by decide +kernel
theorem kX4_becomeAs_42 : zD cX4_becomeAs 42 45 (.invokestatic 47) 3 := by decide +kernel
theorem kX4_becomeAs_45 : zD cX4_becomeAs 45 46 (.aload_n 1) 1 := by decide +kernel
theorem kX4_becomeAs_46 : zD cX4_becomeAs 46 49 (.getfield 21) 3 := by decide +kernel
theorem kX4_becomeAs_49 : zD cX4_becomeAs 49 50 (.iconst 0) 1 := by decide +kernel
theorem kX4_becomeAs_50 : zD cX4_becomeAs 50 51 (.aload_n 0) 1 := by decide +kernel
theorem kX4_becomeAs_51 : zD cX4_becomeAs 51 54 (.getfield 21) 3 := by decide +kernel
theorem kX4_becomeAs_54 : zD cX4_becomeAs 54 55 (.iconst 0) 1 := by decide +kernel
theorem kX4_becomeAs_55 : zD cX4_becomeAs 55 57 (.bipush 12) 2 := by decide +kernel
theorem kX4_becomeAs_57 : zD cX4_becomeAs 57 60 (.invokestatic 47) 3 := by decide +kernel
theorem kX4_becomeAs_60 : zD cX4_becomeAs 60 61 (.aload_n 1) 1 := by decide +kernel
theorem kX4_becomeAs_61 : zD cX4_becomeAs 61 64 (.getfield 24) 3 := by decide +kernel
theorem kX4_becomeAs_64 : zD cX4_becomeAs 64 65 (.iconst 0) 1 := by decide +kernel
theorem kX4_becomeAs_65 : zD cX4_becomeAs 65 66 (.aload_n 0) 1 := by decide +kernel
theorem kX4_becomeAs_66 : zD cX4_becomeAs 66 69 (.getfield 24) 3 := by decide +kernel
theorem kX4_becomeAs_69 : zD cX4_becomeAs 69 70 (.iconst 0) 1 := by decide +kernel
theorem kX4_becomeAs_70 : zD cX4_becomeAs 70 72 (.bipush 12) 2 := by decide +kernel
theorem kX4_becomeAs_72 : zD cX4_becomeAs 72 75 (.invokestatic 47) 3 := by decide +kernel
theorem kX4_becomeAs_75 : zD cX4_becomeAs 75 76 (.aload_n 0) 1 := by decide +kernel
theorem kX4_becomeAs_76 : zD cX4_becomeAs 76 77 (.aload_n 1) 1 := by decide +kernel
theorem kX4_becomeAs_77 : zD cX4_becomeAs 77 80 (.getfield 30) 3 := by decide +kernel
theorem kX4_becomeAs_80 : zD cX4_becomeAs 80 83 (.putfield 30) 3 := by decide +kernel
theorem kX4_becomeAs_83 : zD cX4_becomeAs 83 84 (.aload_n 0) 1 := by decide +kernel
theorem kX4_becomeAs_84 : zD cX4_becomeAs 84 85 (.aload_n 1) 1 := by decide +kernel
theorem kX4_becomeAs_85 : zD cX4_becomeAs 85 88 (.getfield 34) 3 := by decide +kernel
theorem kX4_becomeAs_88 : zD cX4_becomeAs 88 91 (.putfield 34) 3 := by decide +kernel
theorem kX4_becomeAs_91 : zD cX4_becomeAs 91 92 (.aload_n 0) 1 := by decide +kernel
theorem kX4_becomeAs_92 : zD cX4_becomeAs 92 93 (.aload_n 1) 1 := by decide +kernel
theorem kX4_becomeAs_93 : zD cX4_becomeAs 93 96 (.getfield 37) 3 := by decide +kernel
theorem kX4_becomeAs_96 : zD cX4_becomeAs 96 99 (.putfield 37) 3 := by decide +kernel
theorem kX4_becomeAs_99 : zD cX4_becomeAs 99 100 (.aload_n 0) 1 := by decide +kernel
theorem kX4_becomeAs_100 : zD cX4_becomeAs 100 101 (.dup) 1 := by decide +kernel
theorem kX4_becomeAs_101 : zD cX4_becomeAs 101 104 (.getfield 40) 3 := by decide +kernel
theorem kX4_becomeAs_104 : zD cX4_becomeAs 104 105 (.iconst 1) 1 := by decide +kernel
theorem kX4_becomeAs_105 : zD cX4_becomeAs 105 106 (.iadd) 1 := by decide +kernel
theorem kX4_becomeAs_106 : zD cX4_becomeAs 106 109 (.putfield 40) 3 := by decide +kernel
theorem kX4_becomeAs_109 : zD cX4_becomeAs 109 110 (.return_) 1 := by decide +kernel
set_option maxRecDepth 10000 in
theorem wX4_becomeAs_0 {G : ZG} {d : Nat} {h : ZH} {Q : Option ZV → ZH → Prop} {i0 : Nat} {i1 : Nat} (hi0 : i0 < zcnt 2) (hi1 : i1 < zcnt 2)
  (H : ∀ h1 : ZH, h1 = zsR h 10 i0 (va_cpy (h.1 10 i1) (h.1 10 i0) (0 : Int32).toNatClampNeg (0 : Int32).toNatClampNeg (12 : Int32).toNatClampNeg) → ∀ h2 : ZH, h2 = zsR h1 11 i0 (va_cpy (h1.1 11 i1) (h1.1 11 i0) (0 : Int32).toNatClampNeg (0 : Int32).toNatClampNeg (12 : Int32).toNatClampNeg) → ∀ h3 : ZH, h3 = zsR h2 12 i0 (va_cpy (h2.1 12 i1) (h2.1 12 i0) (0 : Int32).toNatClampNeg (0 : Int32).toNatClampNeg (12 : Int32).toNatClampNeg) → ∀ h4 : ZH, h4 = zsR h3 13 i0 (va_cpy (h3.1 13 i1) (h3.1 13 i0) (0 : Int32).toNatClampNeg (0 : Int32).toNatClampNeg (12 : Int32).toNatClampNeg) → ∀ h5 : ZH, h5 = zsR h4 14 i0 (va_cpy (h4.1 14 i1) (h4.1 14 i0) (0 : Int32).toNatClampNeg (0 : Int32).toNatClampNeg (12 : Int32).toNatClampNeg) → ∀ h6 : ZH, h6 = zs1 h5 2 i0 6 (h5.1 2 i1 6) → ∀ h7 : ZH, h7 = zs1 h6 2 i0 7 (h6.1 2 i1 7) → ∀ h8 : ZH, h8 = zs1 h7 2 i0 8 (h7.1 2 i1 8) → ∀ h9 : ZH, h9 = zs1 h8 2 i0 9 ((h8.1 2 i0 9) + 1) → Q none h9) :
  zT G (d + 1) mX4_becomeAs 0 [zr 2 i0, zr 2 i1] [] h Q := by
  refine zt_aload_n kX4_becomeAs_0 rfl ?_
  refine zt_get (v := zr 10 i1) kX4_becomeAs_1 fRX4_9 rfl hi1 rfl ?_
  refine zt_iconst (v := 0) kX4_becomeAs_4 rfl ?_
  refine zt_aload_n kX4_becomeAs_5 rfl ?_
  refine zt_get (v := zr 10 i0) kX4_becomeAs_6 fRX4_9 rfl hi0 rfl ?_
  refine zt_iconst (v := 0) kX4_becomeAs_9 rfl ?_
  refine zt_bipush (v := 12) kX4_becomeAs_10 rfl ?_
  refine zt_copy kX4_becomeAs_12 aRX4_47 rfl rfl hi1 hi0 (by decide) (by decide) (by decide) (by decide) (by decide) (by decide) ?_
  refine zt_heap (fun h1 eh1 => ?_)
  replace H := H h1 eh1
  refine zt_aload_n kX4_becomeAs_15 rfl ?_
  refine zt_get (v := zr 11 i1) kX4_becomeAs_16 fRX4_15 rfl hi1 rfl ?_
  refine zt_iconst (v := 0) kX4_becomeAs_19 rfl ?_
  refine zt_aload_n kX4_becomeAs_20 rfl ?_
  refine zt_get (v := zr 11 i0) kX4_becomeAs_21 fRX4_15 rfl hi0 rfl ?_
  refine zt_iconst (v := 0) kX4_becomeAs_24 rfl ?_
  refine zt_bipush (v := 12) kX4_becomeAs_25 rfl ?_
  refine zt_copy kX4_becomeAs_27 aRX4_47 rfl rfl hi1 hi0 (by decide) (by decide) (by decide) (by decide) (by decide) (by decide) ?_
  refine zt_heap (fun h2 eh2 => ?_)
  replace H := H h2 eh2
  refine zt_aload_n kX4_becomeAs_30 rfl ?_
  refine zt_get (v := zr 12 i1) kX4_becomeAs_31 fRX4_18 rfl hi1 rfl ?_
  refine zt_iconst (v := 0) kX4_becomeAs_34 rfl ?_
  refine zt_aload_n kX4_becomeAs_35 rfl ?_
  refine zt_get (v := zr 12 i0) kX4_becomeAs_36 fRX4_18 rfl hi0 rfl ?_
  refine zt_iconst (v := 0) kX4_becomeAs_39 rfl ?_
  refine zt_bipush (v := 12) kX4_becomeAs_40 rfl ?_
  refine zt_copy kX4_becomeAs_42 aRX4_47 rfl rfl hi1 hi0 (by decide) (by decide) (by decide) (by decide) (by decide) (by decide) ?_
  refine zt_heap (fun h3 eh3 => ?_)
  replace H := H h3 eh3
  refine zt_aload_n kX4_becomeAs_45 rfl ?_
  refine zt_get (v := zr 13 i1) kX4_becomeAs_46 fRX4_21 rfl hi1 rfl ?_
  refine zt_iconst (v := 0) kX4_becomeAs_49 rfl ?_
  refine zt_aload_n kX4_becomeAs_50 rfl ?_
  refine zt_get (v := zr 13 i0) kX4_becomeAs_51 fRX4_21 rfl hi0 rfl ?_
  refine zt_iconst (v := 0) kX4_becomeAs_54 rfl ?_
  refine zt_bipush (v := 12) kX4_becomeAs_55 rfl ?_
  refine zt_copy kX4_becomeAs_57 aRX4_47 rfl rfl hi1 hi0 (by decide) (by decide) (by decide) (by decide) (by decide) (by decide) ?_
  refine zt_heap (fun h4 eh4 => ?_)
  replace H := H h4 eh4
  refine zt_aload_n kX4_becomeAs_60 rfl ?_
  refine zt_get (v := zr 14 i1) kX4_becomeAs_61 fRX4_24 rfl hi1 rfl ?_
  refine zt_iconst (v := 0) kX4_becomeAs_64 rfl ?_
  refine zt_aload_n kX4_becomeAs_65 rfl ?_
  refine zt_get (v := zr 14 i0) kX4_becomeAs_66 fRX4_24 rfl hi0 rfl ?_
  refine zt_iconst (v := 0) kX4_becomeAs_69 rfl ?_
  refine zt_bipush (v := 12) kX4_becomeAs_70 rfl ?_
  refine zt_copy kX4_becomeAs_72 aRX4_47 rfl rfl hi1 hi0 (by decide) (by decide) (by decide) (by decide) (by decide) (by decide) ?_
  refine zt_heap (fun h5 eh5 => ?_)
  replace H := H h5 eh5
  refine zt_aload_n kX4_becomeAs_75 rfl ?_
  refine zt_aload_n kX4_becomeAs_76 rfl ?_
  refine zt_get (v := zi (h5.1 2 i1 6)) kX4_becomeAs_77 fRX4_30 rfl hi1 rfl ?_
  refine zt_put kX4_becomeAs_80 fRX4_30 pRX4_6 rfl hi0 rfl ?_
  refine zt_heap (fun h6 eh6 => ?_)
  replace H := H h6 eh6
  refine zt_aload_n kX4_becomeAs_83 rfl ?_
  refine zt_aload_n kX4_becomeAs_84 rfl ?_
  refine zt_get (v := zi (h6.1 2 i1 7)) kX4_becomeAs_85 fRX4_34 rfl hi1 rfl ?_
  refine zt_put kX4_becomeAs_88 fRX4_34 pRX4_7 rfl hi0 rfl ?_
  refine zt_heap (fun h7 eh7 => ?_)
  replace H := H h7 eh7
  refine zt_aload_n kX4_becomeAs_91 rfl ?_
  refine zt_aload_n kX4_becomeAs_92 rfl ?_
  refine zt_get (v := zi (h7.1 2 i1 8)) kX4_becomeAs_93 fRX4_37 rfl hi1 rfl ?_
  refine zt_put kX4_becomeAs_96 fRX4_37 pRX4_8 rfl hi0 rfl ?_
  refine zt_heap (fun h8 eh8 => ?_)
  replace H := H h8 eh8
  refine zt_aload_n kX4_becomeAs_99 rfl ?_
  refine zt_dup kX4_becomeAs_100 (by intro x q; cases q) ?_
  refine zt_get (v := zi (h8.1 2 i0 9)) kX4_becomeAs_101 fRX4_40 rfl hi0 rfl ?_
  refine zt_iconst (v := 1) kX4_becomeAs_104 rfl ?_
  refine zt_iadd kX4_becomeAs_105 ?_
  refine zt_put kX4_becomeAs_106 fRX4_40 pRX4_9 rfl hi0 rfl ?_
  refine zt_heap (fun h9 eh9 => ?_)
  replace H := H h9 eh9
  exact zt_vret kX4_becomeAs_109 rfl H

theorem kX12_laysAt_0 : zD cX12_laysAt 0 1 (.aload_n 0) 1 := by decide +kernel
theorem kX12_laysAt_1 : zD cX12_laysAt 1 4 (.getfield 9) 3 := by decide +kernel
theorem kX12_laysAt_4 : zD cX12_laysAt 4 5 (.iconst 2) 1 := by decide +kernel
theorem kX12_laysAt_5 : zD cX12_laysAt 5 6 (.iconst 2) 1 := by decide +kernel
theorem kX12_laysAt_6 : zD cX12_laysAt 6 7 (.iload_n 1) 1 := by decide +kernel
theorem kX12_laysAt_7 : zD cX12_laysAt 7 8 (.imul) 1 := by decide +kernel
theorem kX12_laysAt_8 : zD cX12_laysAt 8 9 (.iadd) 1 := by decide +kernel
theorem kX12_laysAt_9 : zD cX12_laysAt 9 10 (.iload_n 2) 1 := by decide +kernel
theorem kX12_laysAt_10 : zD cX12_laysAt 10 11 (.iastore) 1 := by decide +kernel
theorem kX12_laysAt_11 : zD cX12_laysAt 11 12 (.aload_n 0) 1 := by decide +kernel
theorem kX12_laysAt_12 : zD cX12_laysAt 12 15 (.getfield 9) 3 := by decide +kernel
theorem kX12_laysAt_15 : zD cX12_laysAt 15 16 (.iconst 2) 1 := by decide +kernel
theorem kX12_laysAt_16 : zD cX12_laysAt 16 17 (.iconst 2) 1 := by decide +kernel
theorem kX12_laysAt_17 : zD cX12_laysAt 17 18 (.iload_n 1) 1 := by decide +kernel
theorem kX12_laysAt_18 : zD cX12_laysAt 18 19 (.imul) 1 := by decide +kernel
theorem kX12_laysAt_19 : zD cX12_laysAt 19 20 (.iadd) 1 := by decide +kernel
theorem kX12_laysAt_20 : zD cX12_laysAt 20 21 (.iconst 1) 1 := by decide +kernel
theorem kX12_laysAt_21 : zD cX12_laysAt 21 22 (.iadd) 1 := by decide +kernel
theorem kX12_laysAt_22 : zD cX12_laysAt 22 23 (.iload_n 3) 1 := by decide +kernel
theorem kX12_laysAt_23 : zD cX12_laysAt 23 24 (.iastore) 1 := by decide +kernel
theorem kX12_laysAt_24 : zD cX12_laysAt 24 25 (.aload_n 0) 1 := by decide +kernel
theorem kX12_laysAt_25 : zD cX12_laysAt 25 28 (.getfield 9) 3 := by decide +kernel
theorem kX12_laysAt_28 : zD cX12_laysAt 28 29 (.iconst 0) 1 := by decide +kernel
theorem kX12_laysAt_29 : zD cX12_laysAt 29 30 (.aload_n 0) 1 := by decide +kernel
theorem kX12_laysAt_30 : zD cX12_laysAt 30 31 (.aload_n 0) 1 := by decide +kernel
theorem kX12_laysAt_31 : zD cX12_laysAt 31 34 (.getfield 9) 3 := by decide +kernel
theorem kX12_laysAt_34 : zD cX12_laysAt 34 35 (.iconst 0) 1 := by decide +kernel
theorem kX12_laysAt_35 : zD cX12_laysAt 35 36 (.iaload) 1 := by decide +kernel
theorem kX12_laysAt_36 : zD cX12_laysAt 36 37 (.iconst 1) 1 := by decide +kernel
theorem kX12_laysAt_37 : zD cX12_laysAt 37 38 (.iload_n 1) 1 := by decide +kernel
theorem kX12_laysAt_38 : zD cX12_laysAt 38 39 (.ishl) 1 := by decide +kernel
theorem kX12_laysAt_39 : zD cX12_laysAt 39 40 (.ior) 1 := by decide +kernel
theorem kX12_laysAt_40 : zD cX12_laysAt 40 43 (.invokevirtual 104) 3 := by decide +kernel
theorem kX12_laysAt_43 : zD cX12_laysAt 43 44 (.iastore) 1 := by decide +kernel
theorem kX12_laysAt_44 : zD cX12_laysAt 44 45 (.return_) 1 := by decide +kernel
set_option maxRecDepth 10000 in
theorem wX12_laysAt_0 {G : ZG} {d : Nat} {h : ZH} {Q : Option ZV → ZH → Prop} {x1 : Int32} {x2 : Int32} {x3 : Int32} 
  (H : vp_in (2 + (2 * x1)) 26 ∧ (∀ h1 : ZH, h1 = zs1 h 30 0 (2 + (2 * x1)).toNatClampNeg x2 → vp_in ((2 + (2 * x1)) + 1) 26 ∧ (∀ h2 : ZH, h2 = zs1 h1 30 0 ((2 + (2 * x1)) + 1).toNatClampNeg x3 → zC G (d + 5) mX12_settled [zr 5 0, zi ((h2.1 30 0 0) ||| ((1 : Int32) <<< (x1 &&& 31)))] h2 (fun r4 h3 => ∃ y5 : Int32, r4 = some (zi y5) ∧ ∀ h6 : ZH, h6 = zs1 h3 30 0 0 y5 → Q none h6)))) :
  zT G (d + 6) mX12_laysAt 0 [zr 5 0, zi x1, zi x2, zi x3] [] h Q := by
  refine zt_aload_n kX12_laysAt_0 rfl ?_
  refine zt_get (v := zr 30 0) kX12_laysAt_1 fRX12_9 rfl (by decide) rfl ?_
  refine zt_iconst (v := 2) kX12_laysAt_4 rfl ?_
  refine zt_iconst (v := 2) kX12_laysAt_5 rfl ?_
  refine zt_iload_n kX12_laysAt_6 rfl ?_
  refine zt_imul kX12_laysAt_7 ?_
  refine zt_iadd kX12_laysAt_8 ?_
  refine zt_iload_n kX12_laysAt_9 rfl ?_
  obtain ⟨hv, H⟩ := H
  refine zt_iast kX12_laysAt_10 rfl (by decide) hv ?_
  refine zt_heap (fun h1 eh1 => ?_)
  replace H := H h1 eh1
  refine zt_aload_n kX12_laysAt_11 rfl ?_
  refine zt_get (v := zr 30 0) kX12_laysAt_12 fRX12_9 rfl (by decide) rfl ?_
  refine zt_iconst (v := 2) kX12_laysAt_15 rfl ?_
  refine zt_iconst (v := 2) kX12_laysAt_16 rfl ?_
  refine zt_iload_n kX12_laysAt_17 rfl ?_
  refine zt_imul kX12_laysAt_18 ?_
  refine zt_iadd kX12_laysAt_19 ?_
  refine zt_iconst (v := 1) kX12_laysAt_20 rfl ?_
  refine zt_iadd kX12_laysAt_21 ?_
  refine zt_iload_n kX12_laysAt_22 rfl ?_
  obtain ⟨hv, H⟩ := H
  refine zt_iast kX12_laysAt_23 rfl (by decide) hv ?_
  refine zt_heap (fun h2 eh2 => ?_)
  replace H := H h2 eh2
  refine zt_aload_n kX12_laysAt_24 rfl ?_
  refine zt_get (v := zr 30 0) kX12_laysAt_25 fRX12_9 rfl (by decide) rfl ?_
  refine zt_iconst (v := 0) kX12_laysAt_28 rfl ?_
  refine zt_aload_n kX12_laysAt_29 rfl ?_
  refine zt_aload_n kX12_laysAt_30 rfl ?_
  refine zt_get (v := zr 30 0) kX12_laysAt_31 fRX12_9 rfl (by decide) rfl ?_
  refine zt_iconst (v := 0) kX12_laysAt_34 rfl ?_
  refine zt_ialdc 0 rfl kX12_laysAt_35 rfl (by decide) (zvp_dec (by decide)) ?_
  refine zt_iconst (v := 1) kX12_laysAt_36 rfl ?_
  refine zt_iload_n kX12_laysAt_37 rfl ?_
  refine zt_ishl kX12_laysAt_38 ?_
  refine zt_ior kX12_laysAt_39 ?_
  refine zt_cV (as := [zi ((h2.1 30 0 0) ||| ((1 : Int32) <<< (x1 &&& 31)))]) kX12_laysAt_40 sRX12_104 rfl (by decide) rfl (by simp) rfl H (fun r4 h3 H => ?_)
  obtain ⟨y5, rfl, H⟩ := H
  refine zt_iastc 0 rfl kX12_laysAt_43 rfl (by decide) (zvp_dec (by decide)) ?_
  refine zt_heap (fun h6 eh6 => ?_)
  replace H := H h6 eh6
  exact zt_vret kX12_laysAt_44 rfl H
end
section
/-! ===== the class: what rests, what is loose ===== -/
def cfgC (h : ZH) (F P : Nat) : ZQ5 := (h.1 12 0, h.1 13 0, h.1 14 0, F, P)
theorem zbit0 {S p : Nat} (hS : S < 4096) (hp : p < 32) : (nI S >>> (nI p &&& 31)) &&& 1 = 0 ↔ ¬ S.testBit p = true := by
  rw [zi_bit hS hp, zb_eq0]
theorem zmod0 {p : Nat} (hp : p < 12) : nI p - nI p / 4 * 4 ≤ 0 ↔ p % 4 = 0 := by
  have : ∀ p, p < 12 → (nI p - nI p / 4 * 4 ≤ 0 ↔ p % 4 = 0) := by decide
  exact this p hp
theorem zmod3 {p : Nat} (hp : p < 12) : 3 ≤ nI p - nI p / 4 * 4 ↔ p % 4 = 3 := by
  have : ∀ p, p < 12 → (3 ≤ nI p - nI p / 4 * 4 ↔ p % 4 = 3) := by decide
  exact this p hp
theorem zand0 {X m : Nat} (hX : X < 4096) : X &&& m = 0 ↔ ∀ q, q < 12 → m.testBit q = true → X.testBit q = false := by
  constructor
  · intro h q _ hm
    have := congrArg (fun n => Nat.testBit n q) h
    simp only [Nat.testBit_and, hm, Bool.and_true, Nat.zero_testBit] at this
    exact this
  · intro h
    apply Nat.eq_of_testBit_eq
    intro q
    rw [Nat.testBit_and, Nat.zero_testBit]
    by_cases hq : q < 12
    · by_cases hm : m.testBit q = true
      · rw [h q hq hm]; rfl
      · rw [eq_false_of_ne_true hm, Bool.and_false]
    · rw [zhi hX (by omega), Bool.false_and]
theorem zsR_oth (h : ZH) {k i : Nat} (f : Nat → Int32) {k' : Nat} (i' : Nat) (hk : k' ≠ k) : (zsR h k i f).1 k' i' = h.1 k' i' := by
  funext j
  rw [zsR_at, if_neg (fun q => hk q.1)]
def zmb (p : Nat) : Nat := ([2, 5, 10, 4, 32, 80, 160, 64, 512, 1280, 2560, 1024] : List Nat).getD p 0
theorem zbes_n {p : Nat} (hp : p < 12) : zbes p = nI (zmb p) := by
  have : ∀ p, p < 12 → zbes p = nI (zmb p) := by decide
  exact this p hp
theorem zmb_bit {p q : Nat} (hp : p < 12) (hq : q < 12) : (zmb p).testBit q = true ↔ (p % 4 ≠ 0 ∧ q = p - 1) ∨ (p % 4 ≠ 3 ∧ q = p + 1) := by
  have : ∀ p, p < 12 → ∀ q, q < 12 → ((zmb p).testBit q = true ↔ (p % 4 ≠ 0 ∧ q = p - 1) ∨ (p % 4 ≠ 3 ∧ q = p + 1)) := by decide
  exact this p hp q hq
theorem zmb_lt {p : Nat} (hp : p < 12) : zmb p < 4096 := by
  have : ∀ p, p < 12 → zmb p < 4096 := by decide
  exact this p hp
theorem zbes_cl {c : ZQ5} {T p : Nat} (hT : T < 4096) (hp : p < 12) : (nI T &&& nI (cF c)) &&& zbes p = 0 ↔ ¬ zcl c T p = true := by
  rw [zbes_n hp, zi_and, zi_and, zi_0, zi_inj (zand_lt (zand_lt hT)) (by decide), zand0 (zand_lt hT)]
  unfold zcl
  constructor
  · intro h q
    simp only [Bool.or_eq_true, Bool.and_eq_true, decide_eq_true_eq] at q
    rcases q with ⟨q1, q2, q3⟩ | ⟨q1, q2, q3⟩
    · have := h (p - 1) (by omega) ((zmb_bit hp (by omega)).mpr (Or.inl ⟨q1, rfl⟩))
      rw [Nat.testBit_and, q2, q3] at this
      cases this
    · have hp1 : p + 1 < 12 := by omega
      have := h (p + 1) hp1 ((zmb_bit hp hp1).mpr (Or.inr ⟨q1, rfl⟩))
      rw [Nat.testBit_and, q2, q3] at this
      cases this
  · intro h q hq hm
    rcases (zmb_bit hp hq).mp hm with ⟨q1, rfl⟩ | ⟨q1, rfl⟩
    · rw [Nat.testBit_and]
      simp only [Bool.or_eq_true, Bool.and_eq_true, decide_eq_true_eq, not_or, not_and] at h
      have := h.1 q1
      by_cases z : T.testBit (p - 1) = true
      · rw [z, Bool.true_and]; exact eq_false_of_ne_true (this z)
      · rw [eq_false_of_ne_true z, Bool.false_and]
    · rw [Nat.testBit_and]
      simp only [Bool.or_eq_true, Bool.and_eq_true, decide_eq_true_eq, not_or, not_and] at h
      have := h.2 q1
      by_cases z : T.testBit (p + 1) = true
      · rw [z, Bool.true_and]; exact eq_false_of_ne_true (this z)
      · rw [eq_false_of_ne_true z, Bool.false_and]
set_option maxHeartbeats 4000000 in
theorem sX4_restsIn {G : ZG} (d : Nat) {h : ZH} {T F P p : Nat} (hT : T < 4096) (hFh : h.1 2 0 8 = nI F) (h4 : 4 ≤ p) (hp : p < 12) (t : T.testBit p = true) (np : P.testBit p = false) : zC G (d + 1) mX4_restsIn [zr 2 0, zi (nI T), zi (nI p)] h (fun r h' => r = some (zi (zb (zhd (cfgC h F P) T p = true))) ∧ h' = zsR h 15 0 (zl1 (cfgC h F P) T p (h.1 15 0))) := by
  refine zC_of (by decide +kernel) (Nat.le_of_ble_eq_true rfl) (L := [zr 2 0, zi (nI T), zi (nI p), zu, zu, zu, zu]) ⟨rfl, ⟨rfl, ⟨rfl, trivial⟩⟩⟩ ?_
  refine wX4_restsIn_0 (by decide) ?_
  have v : vp_in (nI p) 12 := vpn hp (by decide)
  have cp : (nI p).toNatClampNeg = p := nI_cl (by omega)
  have vb : vp_in (nI (p - 4)) 12 := vpn (by omega) (by decide)
  have cb : (nI (p - 4)).toNatClampNeg = p - 4 := nI_cl (by omega)
  have vr : vp_in (nI (p - 3)) 12 := vpn (by omega) (by decide)
  have cr : (nI (p - 3)).toNatClampNeg = p - 3 := nI_cl (by omega)
  have vl : vp_in (nI (p - 5)) 12 := vpn (by omega) (by decide)
  have cl : (nI (p - 5)).toNatClampNeg = p - 5 := nI_cl (by omega)
  have fcl : (nI T &&& nI F) &&& zbes p = 0 ↔ ¬ zcl (cfgC h F P) T p = true := zbes_cl (c := cfgC h F P) hT hp
  have hz : zl1 (cfgC h F P) T p (h.1 15 0) = (if zbl T p = true then upd (h.1 15 0) (p - 4) (h.1 15 0 (p - 4) + (h.1 12 0 p + h.1 15 0 p)) else if h.1 14 0 p = 1 then (if (zlf T p && zrt T p) = true then upd (upd (h.1 15 0) (p - 5) (h.1 15 0 (p - 5) + (h.1 12 0 p + h.1 15 0 p) / 2)) (p - 3) (h.1 15 0 (p - 3) + ((h.1 12 0 p + h.1 15 0 p) - (h.1 12 0 p + h.1 15 0 p) / 2)) else h.1 15 0) else if h.1 14 0 p = 2 then (if zlf T p = true then upd (h.1 15 0) (p - 5) (h.1 15 0 (p - 5) + (h.1 12 0 p + h.1 15 0 p)) else if zrt T p = true then upd (h.1 15 0) (p - 3) (h.1 15 0 (p - 3) + (h.1 12 0 p + h.1 15 0 p)) else h.1 15 0) else h.1 15 0) := by
    unfold zl1
    rw [if_pos]
    · rfl
    · rw [t, show (cP (cfgC h F P)).testBit p = false from np]
      simp [h4]
  have hh : (zhd (cfgC h F P) T p = true) ↔ (zbl T p = true ∨ (if h.1 14 0 p = 1 then (zlf T p = true ∧ zrt T p = true) else if h.1 14 0 p = 2 then (zlf T p = true ∨ zrt T p = true) else if h.1 14 0 p = 3 then zcl (cfgC h F P) T p = true else False)) := by
    unfold zhd
    rw [show (cP (cfgC h F P)).testBit p = false from np, show cM (cfgC h F P) p = h.1 14 0 p from rfl]
    have : ¬ p < 4 := by omega
    simp only [this, decide_false, Bool.false_or, Bool.or_eq_true]
    by_cases m1 : h.1 14 0 p = 1
    · simp [m1]
    · by_cases m2 : h.1 14 0 p = 2
      · simp [m2]
      · by_cases m3 : h.1 14 0 p = 3 <;> simp [m1, m2, m3]
  simp only [hh, hz]
  refine ⟨v, v, ?_⟩
  intro y ey
  rw [cp] at ey
  rw [← ey]
  have hb : zbl T p = T.testBit (p - 4) := rfl
  rw [zx_m4 h4 hp, zbit0 hT (by omega), zmod0 hp, zmod3 hp, hb, hFh, cp, fcl]
  by_cases b : T.testBit (p - 4) = true
  · simp only [b, not_true_eq_false, not_false_eq_true, false_imp_iff, true_imp_iff, true_and, and_true, forall_eq, vb, cb, if_true, true_or, zb_t]
    rw [zs1_R]
  · have n13 : ¬ (2 : Int32) = 1 := by decide
    have n31 : ¬ (3 : Int32) = 1 := by decide
    have n32 : ¬ (3 : Int32) = 2 := by decide
    simp only [b, not_true_eq_false, not_false_eq_true, false_imp_iff, true_imp_iff, true_and, and_true, if_false, false_or, Bool.false_eq_true]
    have e3 : nI (p - 4) + 1 = nI (p - 3) := by rw [nI_1]; congr 1; omega
    have fr : (nI T >>> (nI (p - 3) &&& 31)) &&& 1 = 0 ↔ ¬ T.testBit (p - 3) = true := zbit0 hT (by omega)
    rw [e3, fr, cr]
    have id0 : h = zsR h 15 0 (h.1 15 0) := (zsR_id h 15 0).symm
    have zt : zb True = 1 := by decide
    have zf : zb False = 0 := by decide
    by_cases m0 : p % 4 = 0
    · have m3 : ¬ p % 4 = 3 := by omega
      have fl : zlf T p = false := by unfold zlf; simp [m0]
      have frt : zrt T p = T.testBit (p - 3) := by unfold zrt; simp [m3]
      simp only [m0, m3, fl, frt, v, vr, not_true_eq_false, not_false_eq_true, false_imp_iff, true_imp_iff, true_and, and_true, Bool.false_and, Bool.false_eq_true, false_and, false_or, if_false]
      by_cases r : T.testBit (p - 3) = true
      · by_cases a1 : h.1 14 0 p = 1
        · simp [a1, zf, r]; first | exact id0 | exact ⟨fun _ => id0, fun _ => id0⟩
        · by_cases a2 : h.1 14 0 p = 2
          · simp [a2, zt, r, zs1_R]
          · by_cases a3 : h.1 14 0 p = 3
            · by_cases k : zcl (cfgC h F P) T p = true
              · simp [a3, k, zt]; first | exact id0 | exact ⟨fun _ => id0, fun _ => id0⟩
              · simp [a3, k, zf]; first | exact id0 | exact ⟨fun _ => id0, fun _ => id0⟩
            · simp [a1, a2, a3, zf]; first | exact id0 | exact ⟨fun _ => id0, fun _ => id0⟩
      · by_cases a1 : h.1 14 0 p = 1
        · simp [a1, zf, r]; first | exact id0 | exact ⟨fun _ => id0, fun _ => id0⟩
        · by_cases a2 : h.1 14 0 p = 2
          · simp [a2, zf, r]; first | exact id0 | exact ⟨fun _ => id0, fun _ => id0⟩
          · by_cases a3 : h.1 14 0 p = 3
            · by_cases k : zcl (cfgC h F P) T p = true
              · simp [a3, k, zt]; first | exact id0 | exact ⟨fun _ => id0, fun _ => id0⟩
              · simp [a3, k, zf]; first | exact id0 | exact ⟨fun _ => id0, fun _ => id0⟩
            · simp [a1, a2, a3, zf]; first | exact id0 | exact ⟨fun _ => id0, fun _ => id0⟩
    · have e5 : nI (p - 4) - 1 = nI (p - 5) := by
        rw [← zx_m4 h4 hp]; exact zx_m5 (by omega) hp
      have fl5 : (nI T >>> (nI (p - 5) &&& 31)) &&& 1 = 0 ↔ ¬ T.testBit (p - 5) = true := zbit0 hT (by omega)
      have fl : zlf T p = T.testBit (p - 5) := by unfold zlf; simp [m0]
      rw [e5, fl5, cl]
      simp only [m0, fl, v, vr, vl, not_true_eq_false, not_false_eq_true, false_imp_iff, true_imp_iff, true_and, and_true]
      have u53 : upd (h.1 15 0) (p - 5) (h.1 15 0 (p - 5) + y / 2) (p - 3) = h.1 15 0 (p - 3) := pk_un (by omega)
      by_cases m3 : p % 4 = 3
      · have frt : zrt T p = false := by unfold zrt; simp [m3]
        simp only [m3, frt, not_true_eq_false, not_false_eq_true, false_imp_iff, true_imp_iff, true_and, and_true, Bool.and_false, Bool.false_eq_true, and_false, or_false, if_false]
        by_cases l : T.testBit (p - 5) = true
        · by_cases a1 : h.1 14 0 p = 1
          · simp [a1, zf, l]; first | exact id0 | exact ⟨fun _ => id0, fun _ => id0⟩
          · by_cases a2 : h.1 14 0 p = 2
            · simp [a2, zt, l, zs1_R]
            · by_cases a3 : h.1 14 0 p = 3
              · by_cases k : zcl (cfgC h F P) T p = true
                · simp [a3, k, zt, l]; first | exact id0 | exact ⟨fun _ => id0, fun _ => id0⟩
                · simp [a3, k, zf, l]; first | exact id0 | exact ⟨fun _ => id0, fun _ => id0⟩
              · simp [a1, a2, a3, zf, l]; first | exact id0 | exact ⟨fun _ => id0, fun _ => id0⟩
        · by_cases a1 : h.1 14 0 p = 1
          · simp [a1, zf, l]; first | exact id0 | exact ⟨fun _ => id0, fun _ => id0⟩
          · by_cases a2 : h.1 14 0 p = 2
            · simp [a2, zf, l]; first | exact id0 | exact ⟨fun _ => id0, fun _ => id0⟩
            · by_cases a3 : h.1 14 0 p = 3
              · by_cases k : zcl (cfgC h F P) T p = true
                · simp [a3, k, zt, l]; first | exact id0 | exact ⟨fun _ => id0, fun _ => id0⟩
                · simp [a3, k, zf, l]; first | exact id0 | exact ⟨fun _ => id0, fun _ => id0⟩
              · simp [a1, a2, a3, zf, l]; first | exact id0 | exact ⟨fun _ => id0, fun _ => id0⟩
      · have frt : zrt T p = T.testBit (p - 3) := by unfold zrt; simp [m3]
        simp only [m3, frt, not_true_eq_false, not_false_eq_true, false_imp_iff, true_imp_iff, true_and, and_true]
        by_cases l : T.testBit (p - 5) = true
        · by_cases r : T.testBit (p - 3) = true
          · by_cases a1 : h.1 14 0 p = 1
            · simp [a1, zt, l, r, zs1_R, zsR_R, zsR_at, zsR_row, u53]
            · by_cases a2 : h.1 14 0 p = 2
              · simp [a2, zt, l, r, zs1_R]
              · by_cases a3 : h.1 14 0 p = 3
                · by_cases k : zcl (cfgC h F P) T p = true
                  · simp [a3, k, zt, l, r]; first | exact id0 | exact ⟨fun _ => id0, fun _ => id0⟩
                  · simp [a3, k, zf, l, r]; first | exact id0 | exact ⟨fun _ => id0, fun _ => id0⟩
                · simp [a1, a2, a3, zf, l, r]; first | exact id0 | exact ⟨fun _ => id0, fun _ => id0⟩
          · by_cases a1 : h.1 14 0 p = 1
            · simp [a1, zf, l, r]; first | exact id0 | exact ⟨fun _ => id0, fun _ => id0⟩
            · by_cases a2 : h.1 14 0 p = 2
              · simp [a2, zt, l, r, zs1_R]
              · by_cases a3 : h.1 14 0 p = 3
                · by_cases k : zcl (cfgC h F P) T p = true
                  · simp [a3, k, zt, l, r]; first | exact id0 | exact ⟨fun _ => id0, fun _ => id0⟩
                  · simp [a3, k, zf, l, r]; first | exact id0 | exact ⟨fun _ => id0, fun _ => id0⟩
                · simp [a1, a2, a3, zf, l, r]; first | exact id0 | exact ⟨fun _ => id0, fun _ => id0⟩
        · by_cases r : T.testBit (p - 3) = true
          · by_cases a1 : h.1 14 0 p = 1
            · simp [a1, zf, l, r]; first | exact id0 | exact ⟨fun _ => id0, fun _ => id0⟩
            · by_cases a2 : h.1 14 0 p = 2
              · simp [a2, zt, l, r, zs1_R]
              · by_cases a3 : h.1 14 0 p = 3
                · by_cases k : zcl (cfgC h F P) T p = true
                  · simp [a3, k, zt, l, r]; first | exact id0 | exact ⟨fun _ => id0, fun _ => id0⟩
                  · simp [a3, k, zf, l, r]; first | exact id0 | exact ⟨fun _ => id0, fun _ => id0⟩
                · simp [a1, a2, a3, zf, l, r]; first | exact id0 | exact ⟨fun _ => id0, fun _ => id0⟩
          · by_cases a1 : h.1 14 0 p = 1
            · simp [a1, zf, l, r]; first | exact id0 | exact ⟨fun _ => id0, fun _ => id0⟩
            · by_cases a2 : h.1 14 0 p = 2
              · simp [a2, zf, l, r]; first | exact id0 | exact ⟨fun _ => id0, fun _ => id0⟩
              · by_cases a3 : h.1 14 0 p = 3
                · by_cases k : zcl (cfgC h F P) T p = true
                  · simp [a3, k, zt, l, r]; first | exact id0 | exact ⟨fun _ => id0, fun _ => id0⟩
                  · simp [a3, k, zf, l, r]; first | exact id0 | exact ⟨fun _ => id0, fun _ => id0⟩
                · simp [a1, a2, a3, zf, l, r]; first | exact id0 | exact ⟨fun _ => id0, fun _ => id0⟩
end
section
/-! ===== the class: loose, left, the memory of it ===== -/
def zmd (f : Nat → Bool) (n : Nat) : Nat := zmk (fun p => decide (n ≤ p) && f p) 12
theorem zmd_0 (f : Nat → Bool) : zmd f 0 = zmk f 12 := zmk_congr fun p _ => by simp
theorem zmd_12 (f : Nat → Bool) : zmd f 12 = 0 := by
  apply Nat.eq_of_testBit_eq
  intro p
  unfold zmd
  rw [zmk_bit, Nat.zero_testBit]
  by_cases h : p < 12
  · have : ¬ 12 ≤ p := by omega
    simp [this]
  · simp [h]
theorem zmd_no (f : Nat → Bool) {n : Nat} (hf : f n = false) : zmd f (n + 1) = zmd f n := zmk_congr fun p _ => by
  by_cases q : p = n
  · subst q; simp [hf]
  · have : (n + 1 ≤ p) = (n ≤ p) := by apply propext; omega
    rw [decide_eq_decide.mpr (iff_of_eq this)]
theorem zmd_yes (f : Nat → Bool) {n : Nat} (hn : n < 12) (hf : f n = true) : nI (zmd f (n + 1)) ||| ((1 : Int32) <<< (nI n &&& 31)) = nI (zmd f n) := by
  rw [zi_sh hn, zi_or]
  congr 1
  apply Nat.eq_of_testBit_eq
  intro p
  unfold zmd
  rw [Nat.testBit_or, zmk_bit, zmk_bit, zp_bit]
  by_cases q : n = p
  · subst q; simp [hf, hn]
  · have : (n + 1 ≤ p) = (n ≤ p) := by apply propext; omega
    simp [q, this]
theorem zband {T p : Nat} (hp : p < 12) : nI T &&& ((1 : Int32) <<< (nI p &&& 31)) = 0 ↔ ¬ T.testBit p = true := by
  rw [zi_sh hp, zi_band hp]
  simp
theorem zl1_no {c : ZQ5} {T p : Nat} (ld : Nat → Int32) (h : ¬ (T.testBit p = true ∧ 4 ≤ p ∧ ¬ (cP c).testBit p = true)) : zl1 c T p ld = ld := by
  unfold zl1
  rw [if_neg]
  simp only [Bool.and_eq_true, decide_eq_true_eq, Bool.not_eq_true', not_and, and_assoc]
  intro a b q
  exact h ⟨a, b, by simp [q]⟩
set_option maxHeartbeats 2000000 in
theorem sX4_looseIn {G : ZG} (d : Nat) {h : ZH} {T F P : Nat} (hT : T < 4096) (hFh : h.1 2 0 8 = nI F) : zC G (d + 2) mX4_looseIn [zr 2 0, zi (nI T), zi (nI P)] h (fun r h' => r = some (zi (nI (zlz (cfgC h F P) T))) ∧ h' = zsR h 15 0 (zld (cfgC h F P) T 12 (zfl (h.1 15 0) 0 12))) := by
  refine zC_of (by decide +kernel) (Nat.le_of_ble_eq_true rfl) (L := [zr 2 0, zi (nI T), zi (nI P), zu, zu, zu, zu]) ⟨rfl, ⟨rfl, ⟨rfl, trivial⟩⟩⟩ ?_
  refine wX4_looseIn_0 (by decide) ?_
  refine zC_mono (sJ7_fillI (d + 0) rfl (by decide)) ?_
  rintro r h1 ⟨rfl, e1⟩
  refine ⟨rfl, ?_⟩
  let E := zld (cfgC h F P) T 12 (zfl (h.1 15 0) 0 12)
  have hE : ∀ j, j < 12 → E j = zlds (cfgC h F P) T j := fun j hj => zld_fl _ _ _ hj
  have key : ∀ (n : Nat), n ≤ 12 → ∀ ld : Nat → Int32, zld (cfgC h F P) T n ld = E → zT G (d + 2) mX4_looseIn 14 [zr 2 0, zi (nI T), zi (nI P), zi (nI (zmd (zLZ (cfgC h F P) T) n)), zi (nI n + (-1)), zu, zu] [] (zsR h 15 0 ld) (fun r h' => r = some (zi (nI (zlz (cfgC h F P) T))) ∧ h' = zsR h 15 0 E) := by
    intro n
    induction n with
    | zero =>
      intro _ ld hld
      refine wX4_looseIn_14 (by decide) ?_
      refine br_t (by decide) ⟨?_, ?_⟩
      · rw [zmd_0, zlz_mk]
      · rw [← hld]; rfl
    | succ p ih =>
      intro hn ld hld
      have hp : p < 12 := by omega
      have v : vp_in (nI p) 12 := vpn hp (by decide)
      have cl : (nI p).toNatClampNeg = p := nI_cl (by omega)
      rw [zx_m1]
      refine wX4_looseIn_14 (by decide) ?_
      have nneg : ¬ nI p < 0 := by
        have : ∀ p, p < 12 → ¬ nI p < 0 := by decide
        exact this p hp
      refine br_f nneg ?_
      have step : zld (cfgC h F P) T p (zl1 (cfgC h F P) T p ld) = E := hld
      have lp : ld p = zlds (cfgC h F P) T p := by
        rw [← hE p hp, ← hld]
        exact (zld_at _ _ _ _ (Nat.le_refl _)).symm
      have IH := ih (by omega) _ step
      have r15 : (zsR h 15 0 ld).1 15 0 = ld := zsR_row _ _ _ _
      have r13 : ∀ ld, (zsR h 15 0 ld).1 13 0 p = cB (cfgC h F P) p := fun _ => rfl
      simp only [zband hp, zx_lt4 hp, r15, r13, cl, v, true_and, lp]
      by_cases t : T.testBit p = true
      · simp only [t, not_true_eq_false, not_false_eq_true, false_imp_iff, true_imp_iff, true_and, and_true]
        by_cases p4 : p < 4
        · have hd : zhd (cfgC h F P) T p = true := by unfold zhd; simp [p4]
          rw [zl1_no ld (fun q => by omega)] at IH
          simp only [p4, not_true_eq_false, not_false_eq_true, false_imp_iff, true_imp_iff, true_and, and_true]
          refine br_c (fun cc => ?_) (fun cc => ?_)
          · rw [zmd_no _ (by unfold zLZ; simp [hd, Int32.not_lt.mpr cc])]
            exact IH
          · rw [zmd_yes _ hp (by unfold zLZ; simp [t, hd, Int32.not_le.mp cc])]
            exact IH
        · simp only [p4, not_true_eq_false, not_false_eq_true, false_imp_iff, true_imp_iff, true_and, and_true]
          by_cases pr : P.testBit p = true
          · have hd : zhd (cfgC h F P) T p = true := by
              unfold zhd
              rw [show (cP (cfgC h F P)).testBit p = true from pr]
              simp
            rw [zl1_no ld (fun q => q.2.2 pr)] at IH
            simp only [pr, not_true_eq_false, not_false_eq_true, false_imp_iff, true_imp_iff, true_and, and_true]
            refine br_c (fun cc => ?_) (fun cc => ?_)
            · rw [zmd_no _ (by unfold zLZ; simp [hd, Int32.not_lt.mpr cc])]
              exact IH
            · rw [zmd_yes _ hp (by unfold zLZ; simp [t, hd, Int32.not_le.mp cc])]
              exact IH
          · simp only [pr, not_true_eq_false, not_false_eq_true, false_imp_iff, true_imp_iff, true_and, and_true, Bool.false_eq_true]
            refine zC_mono (sX4_restsIn (h := zsR h 15 0 ld) (F := F) (P := P) d hT hFh (by omega) hp t (eq_false_of_ne_true pr)) ?_
            rintro r h2 ⟨rfl, e2⟩
            have ec : cfgC (zsR h 15 0 ld) F P = cfgC h F P := rfl
            rw [r15, zsR_R, ec] at e2
            refine ⟨_, rfl, ?_⟩
            rw [ec, zb_eq0, e2, zsR_row, zl1_at _ _ _ _ (Nat.le_refl p), lp, r13]
            by_cases hd : zhd (cfgC h F P) T p = true
            · simp only [hd, not_true_eq_false, not_false_eq_true, false_imp_iff, true_imp_iff, true_and, and_true]
              refine br_c (fun cc => ?_) (fun cc => ?_)
              · rw [zmd_no _ (by unfold zLZ; simp [hd, Int32.not_lt.mpr cc])]
                exact IH
              · rw [zmd_yes _ hp (by unfold zLZ; simp [t, hd, Int32.not_le.mp cc])]
                exact IH
            · simp only [hd, not_true_eq_false, not_false_eq_true, false_imp_iff, true_imp_iff, true_and, and_true, Bool.false_eq_true]
              rw [zmd_yes _ hp (by unfold zLZ; simp [t, hd])]
              exact IH
      · simp only [t, not_true_eq_false, not_false_eq_true, false_imp_iff, true_imp_iff, true_and, and_true, Bool.false_eq_true]
        rw [zl1_no ld (fun q => t q.1)] at IH
        rw [zmd_no _ (by unfold zLZ; simp [t])]
        exact IH
  rw [e1]
  have := key 12 (Nat.le_refl _) (zfl (h.1 15 0) 0 12) rfl
  rw [zmd_12] at this
  exact this
/-- what looking ahead writes: loads, what is kept of them -/
def eF (k j : Nat) : Bool := decide (k = 15) || decide (k = 17) || decide (k = 1 ∧ j = 5)
def eL (k _j : Nat) : Bool := decide (k = 15)
theorem eF_L {k j : Nat} (h : eF k j = false) : eL k j = false := by
  unfold eF at h
  unfold eL
  simp only [Bool.or_eq_false_iff] at h
  exact h.1.1
theorem eL_no {k j : Nat} (h : k ≠ 15) : eL k j = false := by unfold eL; simp [h]
theorem eF_no {k j : Nat} (h : k ≠ 15) (h2 : k ≠ 17) (h3 : k ≠ 1) : eF k j = false := by unfold eF; simp [h, h2, h3]
/-- the class's hall: the stones there, all else that settling looks at, how often it changed -/
def RC0 (h : ZH) (S : Nat) (c : ZQ5) (N : Nat) : Prop := S < 4096 ∧ cP c < 4096 ∧ cF c < 4096 ∧ h.1 2 0 6 = nI S ∧ h.1 2 0 7 = nI (cP c) ∧ h.1 2 0 8 = nI (cF c) ∧ cfgC h (cF c) (cP c) = c ∧ N < 2 ^ 30 ∧ h.1 2 0 9 = nI N ∧ (h.1 1 0 5 = -1 ∨ ∃ m, m ≤ N ∧ h.1 1 0 5 = nI m) ∧ (h.1 1 0 5 = nI N → ∀ T, T < 4096 → h.1 17 0 T = -1 ∨ h.1 17 0 T = nI (stl c T))
theorem cfgC_row {h h' : ZH} (a : h'.1 12 0 = h.1 12 0) (b : h'.1 13 0 = h.1 13 0) (e : h'.1 14 0 = h.1 14 0) (F P : Nat) : cfgC h' F P = cfgC h F P := by
  unfold cfgC
  rw [a, b, e]
theorem RC0.fx {ex : Nat → Nat → Bool} {h h' : ZH} {S : Nat} {c : ZQ5} {N : Nat} (r : RC0 h S c N) (a : zfx ex h h') (k1 : ex 1 5 = false) (k2 : ∀ j, ex 2 j = false) (k12 : ∀ j, ex 12 j = false) (k13 : ∀ j, ex 13 j = false) (k14 : ∀ j, ex 14 j = false) (k17 : ∀ j, ex 17 j = false) : RC0 h' S c N := by
  obtain ⟨r1, r2, r3, r4, r5, r6, r7, r8, r9, r10, r11⟩ := r
  refine ⟨r1, r2, r3, ?_, ?_, ?_, ?_, r8, ?_, ?_, ?_⟩
  · rw [(a 2 0 6 (k2 _)).1]; exact r4
  · rw [(a 2 0 7 (k2 _)).1]; exact r5
  · rw [(a 2 0 8 (k2 _)).1]; exact r6
  · rw [cfgC_row (a.row 0 k12) (a.row 0 k13) (a.row 0 k14)]; exact r7
  · rw [(a 2 0 9 (k2 _)).1]; exact r9
  · rw [(a 1 0 5 k1).1]; exact r10
  · rw [(a 1 0 5 k1).1, a.row 0 k17]; exact r11
theorem RC0.L {h h' : ZH} {S : Nat} {c : ZQ5} {N : Nat} (r : RC0 h S c N) (a : zfx eL h h') : RC0 h' S c N := r.fx a (by decide) (fun _ => eL_no (by decide)) (fun _ => eL_no (by decide)) (fun _ => eL_no (by decide)) (fun _ => eL_no (by decide)) (fun _ => eL_no (by decide))
theorem sX4_loose {G : ZG} (d : Nat) {h : ZH} {S T : Nat} {c : ZQ5} {N : Nat} (hR : RC0 h S c N) (hT : T < 4096) : zC G (d + 2) mX4_looseIn [zr 2 0, zi (nI T), zi (nI (cP c))] h (fun r h' => r = some (zi (nI (zlz c T))) ∧ zfx eL h h' ∧ ∀ j, j < 12 → h'.1 15 0 j = zlds c T j) := by
  obtain ⟨r1, r2, r3, r4, r5, r6, r7, r8, r9, r10, r11⟩ := hR
  refine zC_mono (sX4_looseIn (P := cP c) d hT r6) ?_
  rintro r h' ⟨rfl, e⟩
  rw [r7] at e
  refine ⟨by rw [r7], ?_, ?_⟩
  · rw [e]; exact zfx.R eL h _ (fun _ => by unfold eL; simp)
  · intro j hj
    rw [e, zsR_row]
    exact zld_fl _ _ _ hj
theorem RC0.P {h : ZH} {S : Nat} {c : ZQ5} {N : Nat} (hR : RC0 h S c N) : h.1 2 0 7 = nI (cP c) := hR.2.2.2.2.1
theorem RC0.S {h : ZH} {S : Nat} {c : ZQ5} {N : Nat} (hR : RC0 h S c N) : h.1 2 0 6 = nI S := hR.2.2.2.1
theorem sX4_weighIn {G : ZG} (d : Nat) {h : ZH} {S T : Nat} {c : ZQ5} {N : Nat} (hR : RC0 h S c N) (hT : T < 4096) : zC G (d + 3) mX4_weighIn [zr 2 0, zi (nI T)] h (fun r h' => r = none ∧ zfx eL h h' ∧ ∀ j, j < 12 → h'.1 15 0 j = zlds c T j) := by
  refine zC_of (by decide +kernel) (Nat.le_of_ble_eq_true rfl) (L := [zr 2 0, zi (nI T)]) ⟨rfl, ⟨rfl, trivial⟩⟩ ?_
  refine wX4_weighIn_0 (by decide) ?_
  rw [hR.P]
  refine zC_mono (sX4_loose d hR hT) ?_
  rintro r h' ⟨rfl, e1, e2⟩
  exact ⟨_, rfl, rfl, e1, e2⟩
theorem sX4_weighAll {G : ZG} (d : Nat) {h : ZH} {S : Nat} {c : ZQ5} {N : Nat} (hR : RC0 h S c N) : zC G (d + 4) mX4_weighAll [zr 2 0] h (fun r h' => r = none ∧ zfx eL h h' ∧ ∀ j, j < 12 → h'.1 15 0 j = zlds c S j) := by
  refine zC_of (by decide +kernel) (Nat.le_of_ble_eq_true rfl) (L := [zr 2 0]) ⟨rfl, trivial⟩ ?_
  refine wX4_weighAll_0 (by decide) ?_
  rw [hR.S]
  refine zC_mono (sX4_weighIn d hR hR.1) ?_
  rintro r h' ⟨rfl, e1, e2⟩
  exact ⟨rfl, rfl, e1, e2⟩
theorem sX4_leftOf {G : ZG} (d : Nat) {h : ZH} {S T : Nat} {c : ZQ5} {N : Nat} (hR : RC0 h S c N) (hT : T < 4096) : zC G (d + 3) mX4_leftOf [zr 2 0, zi (nI T)] h (fun r h' => r = some (zi (nI (stl c T))) ∧ zfx eL h h') := by
  refine zC_of (by decide +kernel) (Nat.le_of_ble_eq_true rfl) (L := [zr 2 0, zi (nI T), zu, zu, zu]) ⟨rfl, ⟨rfl, trivial⟩⟩ ?_
  refine wX4_leftOf_0 (by decide) ?_
  have key : ∀ (n m T' : Nat) (h1 : ZH), n + m = 13 → T' < 4096 → zpc T' < n → zfx eL h h1 → zT G (d + 3) mX4_leftOf 4 [zr 2 0, zi (nI T), zi (nI T'), zi (nI m), zu] [] h1 (fun r h' => r = some (zi (nI (stlN c n T'))) ∧ zfx eL h h') := by
    intro n
    induction n with
    | zero => intro m T' h1 _ _ hz; exact absurd hz (Nat.not_lt_zero _)
    | succ n ih =>
      intro m T' h1 hm hT' hz hf
      refine wX4_leftOf_4 (by decide) ?_
      have nlt : ¬ (12 : Int32) < nI m := by
        have : ∀ m, m < 13 → ¬ (12 : Int32) < nI m := by decide
        exact this m (by omega)
      refine br_f nlt ?_
      have hR1 := hR.L hf
      rw [hR1.P]
      refine zC_mono (sX4_loose d hR1 hT') ?_
      rintro r h2 ⟨rfl, f2, _⟩
      refine ⟨_, rfl, ?_⟩
      have z0 : nI (zlz c T') = 0 ↔ zlz c T' = 0 := by rw [zi_0]; exact zi_inj (zlz_lt c T') (by decide)
      rw [z0]
      refine ⟨fun e => ?_, fun e => ?_⟩
      · rw [zi_not hT', nI_1]
        refine zT_mono (ih (m + 1) (zsd T' (zlz c T')) h2 (by omega) (zsd_lt hT') (by have := zst_pc c hT' e; omega) (hf.tr f2)) ?_
        rintro r h' ⟨q1, q2⟩
        refine ⟨?_, q2⟩
        rw [stlN, if_neg e]
        exact q1
      · refine ⟨?_, hf.tr f2⟩
        rw [stlN, if_pos e]
  exact key 13 0 T h (by omega) hT (by have := zpc_le T; omega) (zfx.rf _ _)
theorem sX4_stepsFrom {G : ZG} (d : Nat) {h : ZH} {S T : Nat} {c : ZQ5} {N : Nat} (hR : RC0 h S c N) (hT : T < 4096) : zC G (d + 3) mX4_stepsFrom [zr 2 0, zi (nI T)] h (fun r h' => r = some (zi (nI (stp c T))) ∧ zfx eL h h') := by
  refine zC_of (by decide +kernel) (Nat.le_of_ble_eq_true rfl) (L := [zr 2 0, zi (nI T), zu, zu, zu]) ⟨rfl, ⟨rfl, trivial⟩⟩ ?_
  refine wX4_stepsFrom_0 (by decide) ?_
  have key : ∀ (n m T' : Nat) (h1 : ZH), n + m = 13 → T' < 4096 → zpc T' < n → zfx eL h h1 → zT G (d + 3) mX4_stepsFrom 4 [zr 2 0, zi (nI T), zi (nI T'), zi (nI m), zu] [] h1 (fun r h' => r = some (zi (nI (m + stpN c n T'))) ∧ zfx eL h h') := by
    intro n
    induction n with
    | zero => intro m T' h1 _ _ hz; exact absurd hz (Nat.not_lt_zero _)
    | succ n ih =>
      intro m T' h1 hm hT' hz hf
      refine wX4_stepsFrom_4 (by decide) ?_
      have nlt : ¬ (12 : Int32) < nI m := by
        have : ∀ m, m < 13 → ¬ (12 : Int32) < nI m := by decide
        exact this m (by omega)
      refine br_f nlt ?_
      have hR1 := hR.L hf
      rw [hR1.P]
      refine zC_mono (sX4_loose d hR1 hT') ?_
      rintro r h2 ⟨rfl, f2, _⟩
      refine ⟨_, rfl, ?_⟩
      have z0 : nI (zlz c T') = 0 ↔ zlz c T' = 0 := by rw [zi_0]; exact zi_inj (zlz_lt c T') (by decide)
      rw [z0]
      refine ⟨fun e => ?_, fun e => ?_⟩
      · rw [zi_not hT', nI_1]
        refine zT_mono (ih (m + 1) (zsd T' (zlz c T')) h2 (by omega) (zsd_lt hT') (by have := zst_pc c hT' e; omega) (hf.tr f2)) ?_
        rintro r h' ⟨q1, q2⟩
        refine ⟨?_, q2⟩
        rw [stpN, if_neg e, q1]
        congr 3; omega
      · refine ⟨?_, hf.tr f2⟩
        rw [stpN, if_pos e]
        rfl
  have := key 13 0 T h (by omega) hT (by have := zpc_le T; omega) (zfx.rf _ _)
  rw [Nat.zero_add] at this
  exact this
theorem z4095b {T : Nat} (hT : T < 4096) : nI T &&& 4095 = nI T := by
  rw [show (4095 : Int32) = nI 4095 from by decide, zi_and]
  congr 1
  apply Nat.eq_of_testBit_eq
  intro p
  rw [Nat.testBit_and, z4095]
  by_cases hp : p < 12
  · simp [hp]
  · rw [zhi hT (by omega)]; rfl
theorem nI_neg1 {n : Nat} (h : n < 2 ^ 31) : nI n ≠ -1 := by
  intro q
  have := congrArg Int32.toInt q
  rw [nI_toInt h] at this
  have e : (-1 : Int32).toInt = -1 := by decide
  rw [e] at this
  omega
set_option maxHeartbeats 1000000 in
theorem sX3_leftOf {G : ZG} (d : Nat) {h : ZH} {S T : Nat} {c : ZQ5} {N : Nat} (hR : RC0 h S c N) (hT : T < 4096) : zC G (d + 4) mX3_leftOf [zr 1 0, zi (nI T)] h (fun r h' => r = some (zi (nI (stl c T))) ∧ RC0 h' S c N ∧ zfx eF h h') := by
  refine zC_of (by decide +kernel) (Nat.le_of_ble_eq_true rfl) (L := [zr 1 0, zi (nI T), zu]) ⟨rfl, ⟨rfl, trivial⟩⟩ ?_
  refine wX3_leftOf_0 ?_
  have v : vp_in (nI T) 4096 := vpn hT (by decide)
  rw [z4095b hT, nI_cl (by omega)]
  simp only [v, true_and]
  -- what follows once the memory is of this hall
  have main : ∀ h1 : ZH, RC0 h1 S c N → h1.1 1 0 5 = nI N → zfx eF h h1 → (¬ h1.1 17 0 T = -1 → (fun r h' => r = some (zi (nI (stl c T))) ∧ RC0 h' S c N ∧ zfx eF h h') (some (zi (h1.1 17 0 T))) h1) ∧ (h1.1 17 0 T = -1 → zC G (d + 3) mX4_leftOf [zr 2 0, zi (nI T)] h1 (fun r2 h2 => ∃ y3 : Int32, r2 = some (zi y3) ∧ ∀ h4 : ZH, h4 = zs1 h2 17 0 T y3 → (fun r h' => r = some (zi (nI (stl c T))) ∧ RC0 h' S c N ∧ zfx eF h h') (some (zi (h4.1 17 0 T))) h4)) := by
    intro h1 hR1 hs f1
    refine ⟨fun e => ?_, fun e => ?_⟩
    · refine ⟨?_, hR1, f1⟩
      rcases hR1.2.2.2.2.2.2.2.2.2.2 hs T hT with q | q
      · exact absurd q e
      · rw [q]
    · refine zC_mono (sX4_leftOf d hR1 hT) ?_
      rintro r h2 ⟨rfl, f2⟩
      refine ⟨_, rfl, ?_⟩
      intro h4 e4
      have hR2 := hR1.L f2
      refine ⟨?_, ?_, ?_⟩
      · rw [e4, zs1_at, if_pos ⟨rfl, rfl, rfl⟩]
      · obtain ⟨r1, r2, r3, r4, r5, r6, r7, r8, r9, r10, r11⟩ := hR2
        have o : ∀ k i j, k ≠ 17 → h4.1 k i j = h2.1 k i j := by
          intro k i j hk
          rw [e4, zs1_at, if_neg (fun q => hk q.1)]
        refine ⟨r1, r2, r3, by rw [o _ _ _ (by decide)]; exact r4, by rw [o _ _ _ (by decide)]; exact r5, by rw [o _ _ _ (by decide)]; exact r6, ?_, r8, by rw [o _ _ _ (by decide)]; exact r9, by rw [o _ _ _ (by decide)]; exact r10, ?_⟩
        · rw [cfgC_row (h := h2) (funext fun j => o _ _ _ (by decide)) (funext fun j => o _ _ _ (by decide)) (funext fun j => o _ _ _ (by decide))]
          exact r7
        · intro q T' hT'
          rw [o _ _ _ (by decide)] at q
          rw [e4, zs1_at]
          by_cases z : T' = T
          · subst z
            rw [if_pos ⟨rfl, rfl, rfl⟩]
            exact Or.inr rfl
          · rw [if_neg (fun q => z q.2.2)]
            exact r11 q T' hT'
      · refine f1.tr ((f2.mono (fun k j => eF_L)).tr ?_)
        rw [e4]
        exact zfx.s1 eF h2 _ (by unfold eF; simp)
  have hN := hR.2.2.2.2.2.2.2.2.1
  refine br_c (fun e => ?_) (fun e => ?_)
  · rw [hN] at e
    exact main h hR e (zfx.rf _ _)
  · refine zC_mono (sJ7_fillI (d + 2) rfl (by decide)) ?_
    rintro r h5 ⟨rfl, e5⟩
    refine ⟨rfl, ?_⟩
    intro h7 e7
    have o7 : ∀ k i j, k ≠ 17 → ¬ (k = 1 ∧ j = 5) → h7.1 k i j = h.1 k i j := by
      intro k i j hk hk2
      rw [e7, zs1_at, if_neg (fun q => hk2 ⟨q.1, q.2.2⟩), e5, zsR_at, if_neg (fun q => hk q.1)]
    have s7 : h7.1 1 0 5 = nI N := by
      rw [e7, zs1_at, if_pos ⟨rfl, rfl, rfl⟩, e5, zsR_at, if_neg (by simp)]
      exact hN
    have m7 : ∀ T', T' < 4096 → h7.1 17 0 T' = -1 := by
      intro T' hT'
      rw [e7, zs1_at, if_neg (by simp), e5, zsR_at, if_pos ⟨rfl, rfl⟩]
      unfold zfl
      rw [if_pos hT']
    refine main h7 ?_ s7 ?_
    · obtain ⟨r1, r2, r3, r4, r5, r6, r7, r8, r9, r10, r11⟩ := hR
      refine ⟨r1, r2, r3, by rw [o7 _ _ _ (by decide) (by decide)]; exact r4, by rw [o7 _ _ _ (by decide) (by decide)]; exact r5, by rw [o7 _ _ _ (by decide) (by decide)]; exact r6, ?_, r8, by rw [o7 _ _ _ (by decide) (by decide)]; exact r9, Or.inr ⟨N, Nat.le_refl _, s7⟩, fun _ T' hT' => Or.inl (m7 T' hT')⟩
      rw [cfgC_row (h := h) (funext fun j => o7 _ _ _ (by decide) (by omega)) (funext fun j => o7 _ _ _ (by decide) (by omega)) (funext fun j => o7 _ _ _ (by decide) (by omega))]
      exact r7
    · rw [e7, e5]
      exact (zfx.R eF h _ (fun _ => by unfold eF; simp)).tr (zfx.s1 eF _ _ (by decide))
end
section
/-! ===== the class: settling, taking out, props, laying ===== -/
theorem va_cpy_at (f g : Nat → Int32) (n j : Nat) : va_cpy f g (0 : Int32).toNatClampNeg (0 : Int32).toNatClampNeg n j = if j < n then f j else g j := by
  unfold va_cpy
  have : (0 : Int32).toNatClampNeg = 0 := by decide
  rw [this]
  by_cases h : j < n <;> simp [h]
def zfz (ex : Nat → Nat → Nat → Bool) (h h' : ZH) : Prop := ∀ k i j, ex k i j = false → h'.1 k i j = h.1 k i j ∧ h'.2 k i j = h.2 k i j
theorem zfz.rf (ex : Nat → Nat → Nat → Bool) (h : ZH) : zfz ex h h := fun _ _ _ _ => ⟨rfl, rfl⟩
theorem zfz.tr {ex : Nat → Nat → Nat → Bool} {h h1 h2 : ZH} (a : zfz ex h h1) (b : zfz ex h1 h2) : zfz ex h h2 := fun k i j q => ⟨(b k i j q).1.trans (a k i j q).1, (b k i j q).2.trans (a k i j q).2⟩
theorem zfz.mono {ex ex' : Nat → Nat → Nat → Bool} {h h' : ZH} (a : zfz ex h h') (hs : ∀ k i j, ex' k i j = false → ex k i j = false) : zfz ex' h h' := fun k i j q => a k i j (hs k i j q)
theorem zfz.of {ex : Nat → Nat → Bool} {ex' : Nat → Nat → Nat → Bool} {h h' : ZH} (a : zfx ex h h') (hs : ∀ k i j, ex' k i j = false → ex k j = false) : zfz ex' h h' := fun k i j q => a k i j (hs k i j q)
theorem zfz.s1 (ex : Nat → Nat → Nat → Bool) (h : ZH) {k i j : Nat} (v : Int32) (hk : ex k i j = true) : zfz ex h (zs1 h k i j v) := by
  intro k' i' j' q
  refine ⟨?_, rfl⟩
  rw [zs1_at, if_neg]
  rintro ⟨rfl, rfl, rfl⟩
  rw [hk] at q
  cases q
theorem zfz.R (ex : Nat → Nat → Nat → Bool) (h : ZH) {k i : Nat} (f : Nat → Int32) (hk : ∀ j, ex k i j = true) : zfz ex h (zsR h k i f) := by
  intro k' i' j' q
  refine ⟨?_, rfl⟩
  rw [zsR_at, if_neg]
  rintro ⟨rfl, rfl⟩
  rw [hk] at q
  cases q
theorem zfz.row {ex : Nat → Nat → Nat → Bool} {h h' : ZH} (a : zfz ex h h') {k i : Nat} (hk : ∀ j, ex k i j = false) : h'.1 k i = h.1 k i := funext fun j => (a k i j (hk j)).1
theorem nI_sub {a b : Nat} (h : b ≤ a) : nI a - nI b = nI (a - b) := by
  have := pk_sub h
  exact this
/-- what settling the hall writes -/
def eT (k i j : Nat) : Bool := decide (k = 15) || decide (k = 2 ∧ i = 0 ∧ j = 6)
def eP (k i _j : Nat) : Bool := decide (k = 15) || decide (k = 2 ∧ i = 0)
def eM (k i _j : Nat) : Bool := decide (k = 15) || decide (k = 2 ∧ i = 0) || decide ((10 ≤ k ∧ k ≤ 14) ∧ i = 0)
theorem eP_T {k i j : Nat} (h : eP k i j = false) : eT k i j = false := by
  unfold eP at h
  unfold eT
  simp only [Bool.or_eq_false_iff, decide_eq_false_iff_not] at h ⊢
  exact ⟨h.1, fun q => h.2 ⟨q.1, q.2.1⟩⟩
theorem eM_P {k i j : Nat} (h : eM k i j = false) : eP k i j = false := by
  unfold eM at h
  unfold eP
  simp only [Bool.or_eq_false_iff] at h ⊢
  exact h.1
theorem eT_L {k i j : Nat} (h : eT k i j = false) : eL k j = false := by
  unfold eT at h
  unfold eL
  simp only [Bool.or_eq_false_iff] at h
  exact h.1
/-- the hall's changes of its set: no more than a new number -/
theorem RC0.set {h h' : ZH} {S S' : Nat} {c : ZQ5} {N : Nat} (r : RC0 h S c N) (hS : S' < 4096) (e : h'.1 2 0 6 = nI S') (f : zfz eT h h') : RC0 h' S' c N := by
  obtain ⟨r1, r2, r3, r4, r5, r6, r7, r8, r9, r10, r11⟩ := r
  refine ⟨hS, r2, r3, e, ?_, ?_, ?_, r8, ?_, ?_, ?_⟩
  · rw [(f 2 0 7 (by decide)).1]; exact r5
  · rw [(f 2 0 8 (by decide)).1]; exact r6
  · rw [cfgC_row (f.row fun _ => by unfold eT; simp) (f.row fun _ => by unfold eT; simp) (f.row fun _ => by unfold eT; simp)]; exact r7
  · rw [(f 2 0 9 (by decide)).1]; exact r9
  · rw [(f 1 0 5 (by decide)).1]; exact r10
  · rw [(f 1 0 5 (by decide)).1, f.row (k := 17) (i := 0) fun _ => by unfold eT; simp]; exact r11
theorem sX4_settle {G : ZG} (d : Nat) {h : ZH} {S : Nat} {c : ZQ5} {N : Nat} (hR : RC0 h S c N) : zC G (d + 4) mX4_settle [zr 2 0] h (fun r h' => r = some (zi (nI (zpc S - zpc (stl c S)))) ∧ RC0 h' (stl c S) c N ∧ zfz eT h h') := by
  refine zC_of (by decide +kernel) (Nat.le_of_ble_eq_true rfl) (L := [zr 2 0, zu, zu]) ⟨rfl, trivial⟩ ?_
  refine wX4_settle_0 (by decide) ?_
  rw [hR.S]
  have hS := hR.1
  refine zC_mono (sX4_leftOf d hR hS) ?_
  rintro r h1 ⟨rfl, f1⟩
  refine ⟨_, rfl, ?_⟩
  intro h2 e2
  have r1 := hR.L f1
  refine ⟨?_, ?_, ?_⟩
  · rw [r1.S, bcI_nI hS, bcI_nI (stl_lt c hS), nI_sub (zpc_mono (stl_le c hS))]
  · rw [e2]
    refine r1.set (stl_lt c hS) ?_ (zfz.s1 eT h1 _ (by decide))
    rw [zs1_at, if_pos ⟨rfl, rfl, rfl⟩]
  · rw [e2]
    exact (zfz.of f1 fun _ _ _ => eT_L).tr (zfz.s1 eT h1 _ (by decide))
theorem sX4_takeOut {G : ZG} (d : Nat) {h : ZH} {S p : Nat} {c : ZQ5} {N : Nat} (hR : RC0 h S c N) (hp : p < 12) : zC G (d + 5) mX4_takeOut [zr 2 0, zi (nI p)] h (fun r h' => r = some (zi (nI (zpc (zsd S (2 ^ p)) - zpc (stl c (zsd S (2 ^ p)))))) ∧ RC0 h' (stl c (zsd S (2 ^ p))) c N ∧ zfz eT h h') := by
  refine zC_of (by decide +kernel) (Nat.le_of_ble_eq_true rfl) (L := [zr 2 0, zi (nI p)]) ⟨rfl, ⟨rfl, trivial⟩⟩ ?_
  refine wX4_takeOut_0 (by decide) ?_
  intro h1 e1
  rw [hR.S, zi_sh hp, zi_not hR.1] at e1
  have f1 : zfz eT h h1 := by rw [e1]; exact zfz.s1 eT h _ (by decide)
  have r1 : RC0 h1 (zsd S (2 ^ p)) c N := hR.set (zsd_lt hR.1) (by rw [e1, zs1_at, if_pos ⟨rfl, rfl, rfl⟩]) f1
  refine zC_mono (sX4_settle d r1) ?_
  rintro r h2 ⟨rfl, q1, q2⟩
  exact ⟨_, rfl, rfl, q1, f1.tr q2⟩
/-- the same hall, its number of changes one up and other things in its rows -/
theorem RC0.new {h h' : ZH} {S S' F' P' : Nat} {c : ZQ5} {N : Nat} (r : RC0 h S c N) (hN : N + 1 < 2 ^ 30) (hS : S' < 4096) (hP : P' < 4096) (hF : F' < 4096) (e6 : h'.1 2 0 6 = nI S') (e7 : h'.1 2 0 7 = nI P') (e8 : h'.1 2 0 8 = nI F') (e9 : h'.1 2 0 9 = nI (N + 1)) (e1 : h'.1 1 0 5 = h.1 1 0 5) : RC0 h' S' (cfgC h' F' P') (N + 1) := by
  obtain ⟨r1, r2, r3, r4, r5, r6, r7, r8, r9, r10, r11⟩ := r
  refine ⟨hS, hP, hF, e6, e7, e8, rfl, hN, e9, ?_, ?_⟩
  · rw [e1]
    rcases r10 with q | ⟨m, hm, q⟩
    · exact Or.inl q
    · exact Or.inr ⟨m, by omega, q⟩
  · intro q
    rw [e1] at q
    exfalso
    rcases r10 with z | ⟨m, hm, z⟩
    · rw [z] at q
      exact nI_neg1 (by omega) q.symm
    · rw [z] at q
      have := (nI_eq (a := m) (b := N + 1) (by omega) (by omega)).mp q
      omega
theorem sX4_turnProp {G : ZG} (d : Nat) {h : ZH} {S p : Nat} {c : ZQ5} {N : Nat} (hR : RC0 h S c N) (hN : N + 1 < 2 ^ 30) (hp : p < 12) : zC G (d + 5) mX4_turnProp [zr 2 0, zi (nI p)] h (fun r h' => ∃ c' : ZQ5, c' = (cW c, cB c, cM c, cF c, cP c ^^^ 2 ^ p) ∧ r = some (zi (nI (zpc S - zpc (stl c' S)))) ∧ RC0 h' (stl c' S) c' (N + 1) ∧ zfz eP h h') := by
  refine zC_of (by decide +kernel) (Nat.le_of_ble_eq_true rfl) (L := [zr 2 0, zi (nI p)]) ⟨rfl, ⟨rfl, trivial⟩⟩ ?_
  refine wX4_turnProp_0 (by decide) ?_
  intro h1 e1 h2 e2
  have hP := hR.2.1
  have r9 := hR.2.2.2.2.2.2.2.2.1
  have r7 := hR.2.2.2.2.2.2.1
  rw [hR.P, zi_sh hp, fb_xorI] at e1
  have n9 : h1.1 2 0 9 = nI N := by rw [e1, zs1_at, if_neg (by simp)]; exact r9
  rw [n9, nI_1] at e2
  have f2 : zfz eP h h2 := by rw [e2, e1]; exact (zfz.s1 eP h _ (by decide)).tr (zfz.s1 eP _ _ (by decide))
  have o2 : ∀ j, j ≠ 7 → j ≠ 9 → h2.1 2 0 j = h.1 2 0 j := by
    intro j a b
    rw [e2, zs1_at, if_neg (by simp [b]), e1, zs1_at, if_neg (by simp [a])]
  have r2 := hR.new (h' := h2) (S' := S) (F' := cF c) (P' := cP c ^^^ 2 ^ p) hN hR.1 (zxor_lt hP (zp_lt hp)) hR.2.2.1 (by rw [o2 6 (by decide) (by decide)]; exact hR.S) (by rw [e2, zs1_at, if_neg (by simp), e1, zs1_at, if_pos ⟨rfl, rfl, rfl⟩]) (by rw [o2 8 (by decide) (by decide)]; exact hR.2.2.2.2.2.1) (by rw [e2, zs1_at, if_pos ⟨rfl, rfl, rfl⟩]) ((f2 1 0 5 (by decide)).1)
  have ec : cfgC h2 (cF c) (cP c ^^^ 2 ^ p) = (cW c, cB c, cM c, cF c, cP c ^^^ 2 ^ p) := by
    rw [cfgC_row (f2.row fun _ => by unfold eP; simp) (f2.row fun _ => by unfold eP; simp) (f2.row fun _ => by unfold eP; simp)]
    rw [← r7]
    rfl
  rw [ec] at r2
  refine zC_mono (sX4_settle d r2) ?_
  rintro r h3 ⟨rfl, q1, q2⟩
  exact ⟨_, rfl, _, rfl, rfl, q1, f2.tr (q2.mono fun _ _ _ => eP_T)⟩
theorem zk8 {k : Nat} (h : k < 8) : k = 0 ∨ k = 1 ∨ k = 2 ∨ k = 3 ∨ k = 4 ∨ k = 5 ∨ k = 6 ∨ k = 7 := by omega
theorem oX_weight {G : ZG} (d : Nat) {h : ZH} {k : Nat} (hk : k < 8) (f : Int32) : zCX G (d + 4) RX4 53 mX10_weight k [zi f] 1 h (fun r h' => r = some (zi (wgtI (nI k) f)) ∧ h' = h) := by
  have a2 : (2 : Int32) + f + 3 = 5 + f := by rw [Int32.add_comm 2 f, Int32.add_assoc, Int32.add_comm]; rfl
  have a3 : (2 : Int32) + f - 1 = 1 + f := by rw [Int32.sub_eq_add_neg, Int32.add_comm 2 f, Int32.add_assoc, Int32.add_comm]; rfl
  have a4 : (1 : Int32) + f + f = 1 + 2 * f := by rw [Int32.add_assoc, ← Int32.two_mul]
  have a6 : (2 : Int32) * (1 + f) = 2 + 2 * f := by rw [Int32.mul_add]; rfl
  rcases zk8 hk with rfl | rfl | rfl | rfl | rfl | rfl | rfl | rfl
  · exact ⟨_, oRX4_53_0, zC_mono (sX10_weight (d + 3) (by decide)) fun r h' q => ⟨q.1, q.2⟩⟩
  · exact ⟨_, oRX4_53_1, zC_mono (sX2_weight (d + 2) (by decide)) fun r h' q => ⟨by rw [q.1, a2]; rfl, q.2⟩⟩
  · exact ⟨_, oRX4_53_2, zC_mono (sX0_weight (d + 2) (by decide)) fun r h' q => ⟨by rw [q.1, a3]; rfl, q.2⟩⟩
  · exact ⟨_, oRX4_53_3, zC_mono (sX7_weight (d + 3) (by decide)) fun r h' q => ⟨q.1, q.2⟩⟩
  · exact ⟨_, oRX4_53_4, zC_mono (sX5_weight (d + 1) (by decide)) fun r h' q => ⟨by rw [q.1, a3, a4]; rfl, q.2⟩⟩
  · exact ⟨_, oRX4_53_5, zC_mono (sX2_weight (d + 2) (by decide)) fun r h' q => ⟨by rw [q.1, a2]; rfl, q.2⟩⟩
  · exact ⟨_, oRX4_53_6, zC_mono (sX1_weight (d + 1) (by decide)) fun r h' q => ⟨by rw [q.1, a3, a6]; rfl, q.2⟩⟩
  · exact ⟨_, oRX4_53_7, zC_mono (sX6_weight (d + 3) (by decide)) fun r h' q => ⟨q.1, q.2⟩⟩
theorem oX_bears {G : ZG} (d : Nat) {h : ZH} {k : Nat} (hk : k < 8) (f : Int32) : zCX G (d + 4) RX4 59 mX10_bears k [zi f] 1 h (fun r h' => r = some (zi (brsI (nI k) f)) ∧ h' = h) := by
  rcases zk8 hk with rfl | rfl | rfl | rfl | rfl | rfl | rfl | rfl
  · exact ⟨_, oRX4_59_0, zC_mono (sX10_bears (d + 3) (by decide)) fun r h' q => ⟨q.1, q.2⟩⟩
  · exact ⟨_, oRX4_59_1, zC_mono (sX2_bears (d + 2) (by decide)) fun r h' q => ⟨q.1, q.2⟩⟩
  · exact ⟨_, oRX4_59_2, zC_mono (sX0_bears (d + 2) (by decide)) fun r h' q => ⟨q.1, q.2⟩⟩
  · exact ⟨_, oRX4_59_3, zC_mono (sX7_bears (d + 3) (by decide)) fun r h' q => ⟨q.1, q.2⟩⟩
  · exact ⟨_, oRX4_59_4, zC_mono (sX5_bears (d + 1) (by decide)) fun r h' q => ⟨q.1, q.2⟩⟩
  · exact ⟨_, oRX4_59_5, zC_mono (sX9_bears (d + 1) (by decide)) fun r h' q => ⟨q.1, q.2⟩⟩
  · exact ⟨_, oRX4_59_6, zC_mono (sX1_bears (d + 1) (by decide)) fun r h' q => ⟨q.1, q.2⟩⟩
  · exact ⟨_, oRX4_59_7, zC_mono (sX6_bears (d + 3) (by decide)) fun r h' q => ⟨q.1, q.2⟩⟩
theorem oX_manner {G : ZG} (d : Nat) {h : ZH} {k : Nat} (hk : k < 8) : zCX G (d + 4) RX4 61 mX10_manner k [] 0 h (fun r h' => r = some (zi (mnrI (nI k))) ∧ h' = h) := by
  rcases zk8 hk with rfl | rfl | rfl | rfl | rfl | rfl | rfl | rfl
  · exact ⟨_, oRX4_61_0, zC_mono (sX10_manner (d + 3) (by decide)) fun r h' q => ⟨q.1, q.2⟩⟩
  · exact ⟨_, oRX4_61_1, zC_mono (sX10_manner (d + 3) (by decide)) fun r h' q => ⟨q.1, q.2⟩⟩
  · exact ⟨_, oRX4_61_2, zC_mono (sX0_manner (d + 3) (by decide)) fun r h' q => ⟨q.1, q.2⟩⟩
  · exact ⟨_, oRX4_61_3, zC_mono (sX7_manner (d + 3) (by decide)) fun r h' q => ⟨q.1, q.2⟩⟩
  · exact ⟨_, oRX4_61_4, zC_mono (sX0_manner (d + 3) (by decide)) fun r h' q => ⟨q.1, q.2⟩⟩
  · exact ⟨_, oRX4_61_5, zC_mono (sX10_manner (d + 3) (by decide)) fun r h' q => ⟨q.1, q.2⟩⟩
  · exact ⟨_, oRX4_61_6, zC_mono (sX1_manner (d + 3) (by decide)) fun r h' q => ⟨q.1, q.2⟩⟩
  · exact ⟨_, oRX4_61_7, zC_mono (sX7_manner (d + 3) (by decide)) fun r h' q => ⟨q.1, q.2⟩⟩
theorem oX_price {G : ZG} (d : Nat) {h : ZH} {k : Nat} (hk : k < 8) (f : Int32) : zCX G (d + 4) RX11 335 mX10_price k [zi f] 1 h (fun r h' => r = some (zi (costI (nI k) f)) ∧ h' = h) := by
  have a5 : (2 : Int32) * (2 + f) = 4 + 2 * f := by rw [Int32.mul_add]; rfl
  rcases zk8 hk with rfl | rfl | rfl | rfl | rfl | rfl | rfl | rfl
  · exact ⟨_, oRX11_335_0, zC_mono (sX10_price (d + 3) (by decide)) fun r h' q => ⟨q.1, q.2⟩⟩
  · exact ⟨_, oRX11_335_1, zC_mono (sX2_price (d + 2) (by decide)) fun r h' q => ⟨q.1, q.2⟩⟩
  · exact ⟨_, oRX11_335_2, zC_mono (sX0_price (d + 2) (by decide)) fun r h' q => ⟨q.1, q.2⟩⟩
  · exact ⟨_, oRX11_335_3, zC_mono (sX7_price (d + 2) (by decide)) fun r h' q => ⟨q.1, q.2⟩⟩
  · exact ⟨_, oRX11_335_4, zC_mono (sX5_price (d + 1) (by decide)) fun r h' q => ⟨q.1, q.2⟩⟩
  · exact ⟨_, oRX11_335_5, zC_mono (sX9_price (d + 1) (by decide)) fun r h' q => ⟨by rw [q.1, a5]; rfl, q.2⟩⟩
  · exact ⟨_, oRX11_335_6, zC_mono (sX1_price (d + 1) (by decide)) fun r h' q => ⟨q.1, q.2⟩⟩
  · exact ⟨_, oRX11_335_7, zC_mono (sX7_price (d + 2) (by decide)) fun r h' q => ⟨q.1, q.2⟩⟩
end
section
/-! ===== laying, becoming as another; the two sides together ===== -/
set_option maxHeartbeats 2000000 in
theorem sX4_lay {G : ZG} (d : Nat) {h : ZH} {S p k : Nat} {f : Int32} {c : ZQ5} {N : Nat} (hR : RC0 h S c N) (hN : N + 1 < 2 ^ 30) (hp : p < 12) (hk : k < 8) : zC G (d + 5) mX4_lay [zr 2 0, zi (nI p), zi (nI k), zi f, zr 4 k] h (fun r h' => ∃ c' : ZQ5, c' = (upd (cW c) p (wgtI (nI k) f), upd (cB c) p (brsI (nI k) f), upd (cM c) p (mnrI (nI k)), (if mnrI (nI k) = 3 then zsd (cF c) (2 ^ p) else cF c ||| 2 ^ p), cP c) ∧ r = some (zi (nI (zpc (S ||| 2 ^ p) - zpc (stl c' (S ||| 2 ^ p))))) ∧ RC0 h' (stl c' (S ||| 2 ^ p)) c' (N + 1) ∧ h'.1 10 0 = upd (h.1 10 0) p (nI k) ∧ h'.1 11 0 = upd (h.1 11 0) p f ∧ zfz eM h h') := by
  refine zC_of (by decide +kernel) (Nat.le_of_ble_eq_true rfl) (L := [zr 2 0, zi (nI p), zi (nI k), zi f, zr 4 k]) ⟨rfl, ⟨rfl, ⟨rfl, ⟨rfl, ⟨rfl, trivial⟩⟩⟩⟩⟩ ?_
  refine wX4_lay_0 (by decide) hk ?_
  have v : vp_in (nI p) 12 := vpn hp (by decide)
  rw [nI_cl (show p ≤ 4096 by omega)]
  simp only [v, true_and]
  intro h1 e1 h2 e2
  refine zCX_mono (oX_weight d hk f) ?_
  rintro r h3 ⟨rfl, rfl⟩
  refine ⟨_, rfl, ?_⟩
  intro h4 e4
  refine zCX_mono (oX_bears d hk f) ?_
  rintro r h5 ⟨rfl, rfl⟩
  refine ⟨_, rfl, ?_⟩
  intro h6 e6
  refine zCX_mono (oX_manner d hk) ?_
  rintro r h7 ⟨rfl, rfl⟩
  refine ⟨_, rfl, ?_⟩
  intro h14 e14
  have hS := hR.1
  have hP := hR.2.1
  have hF := hR.2.2.1
  have rF := hR.2.2.2.2.2.1
  have rc := hR.2.2.2.2.2.2.1
  have r9 := hR.2.2.2.2.2.2.2.2.1
  have f14 : zfz eM h h14 := by
    rw [e14, e6, e4, e2, e1]
    exact ((((zfz.s1 eM h _ rfl).tr (zfz.s1 eM _ _ rfl)).tr (zfz.s1 eM _ _ rfl)).tr (zfz.s1 eM _ _ rfl)).tr (zfz.s1 eM _ _ rfl)
  have o14 : ∀ j, h14.1 2 0 j = h.1 2 0 j := by
    intro j
    rw [e14, zs1_at, if_neg (by simp), e6, zs1_at, if_neg (by simp), e4, zs1_at, if_neg (by simp), e2, zs1_at, if_neg (by simp), e1, zs1_at, if_neg (by simp)]
  have q10 : h14.1 10 0 = upd (h.1 10 0) p (nI k) := by
    funext j
    rw [e14, zs1_at, if_neg (by simp), e6, zs1_at, if_neg (by simp), e4, zs1_at, if_neg (by simp), e2, zs1_at, if_neg (by simp), e1, zs1_row]
  have q11 : h14.1 11 0 = upd (h.1 11 0) p f := by
    funext j
    rw [e14, zs1_at, if_neg (by simp), e6, zs1_at, if_neg (by simp), e4, zs1_at, if_neg (by simp), e2, zs1_row]
    have : h1.1 11 0 = h.1 11 0 := by
      funext j
      rw [e1, zs1_at, if_neg (by simp)]
    rw [this]
  have q12 : h14.1 12 0 = upd (cW c) p (wgtI (nI k) f) := by
    funext j
    rw [e14, zs1_at, if_neg (by simp), e6, zs1_at, if_neg (by simp), e4, zs1_row]
    have : h3.1 12 0 = cW c := by
      rw [← rc]
      funext j
      rw [e2, zs1_at, if_neg (by simp), e1, zs1_at, if_neg (by simp)]
      rfl
    rw [this]
  have q13 : h14.1 13 0 = upd (cB c) p (brsI (nI k) f) := by
    funext j
    rw [e14, zs1_at, if_neg (by simp), e6, zs1_row]
    have : h5.1 13 0 = cB c := by
      rw [← rc]
      funext j
      rw [e4, zs1_at, if_neg (by simp), e2, zs1_at, if_neg (by simp), e1, zs1_at, if_neg (by simp)]
      rfl
    rw [this]
  have q14 : h14.1 14 0 = upd (cM c) p (mnrI (nI k)) := by
    funext j
    rw [e14, zs1_row]
    have : h7.1 14 0 = cM c := by
      rw [← rc]
      funext j
      rw [e6, zs1_at, if_neg (by simp), e4, zs1_at, if_neg (by simp), e2, zs1_at, if_neg (by simp), e1, zs1_at, if_neg (by simp)]
      rfl
    rw [this]
  have m14 : h14.1 14 0 p = mnrI (nI k) := by rw [q14]; unfold upd; simp
  -- the rest, whatever the firm places become
  have fin : ∀ (F' : Nat) (h15 h16 h17 : ZH), F' < 4096 → h15 = zs1 h14 2 0 8 (nI F') → h16 = zs1 h15 2 0 6 (h15.1 2 0 6 ||| (1 : Int32) <<< (nI p &&& 31)) → h17 = zs1 h16 2 0 9 (h16.1 2 0 9 + 1) → zC G (d + 4) mX4_settle [zr 2 0] h17 (fun r19 h18 => ∃ y20 : Int32, r19 = some (zi y20) ∧ ∃ c' : ZQ5, c' = (upd (cW c) p (wgtI (nI k) f), upd (cB c) p (brsI (nI k) f), upd (cM c) p (mnrI (nI k)), F', cP c) ∧ some (zi y20) = some (zi (nI (zpc (S ||| 2 ^ p) - zpc (stl c' (S ||| 2 ^ p))))) ∧ RC0 h18 (stl c' (S ||| 2 ^ p)) c' (N + 1) ∧ h18.1 10 0 = upd (h.1 10 0) p (nI k) ∧ h18.1 11 0 = upd (h.1 11 0) p f ∧ zfz eM h h18) := by
    intro F' h15 h16 h17 hF' e15 e16 e17
    have n6 : h15.1 2 0 6 = nI S := by rw [e15, zs1_at, if_neg (by simp), o14]; exact hR.S
    rw [n6, zi_sh hp, zi_or] at e16
    have n9 : h16.1 2 0 9 = nI N := by rw [e16, zs1_at, if_neg (by simp), e15, zs1_at, if_neg (by simp), o14]; exact r9
    rw [n9, nI_1] at e17
    have o17 : ∀ kk i j, kk ≠ 2 → h17.1 kk i j = h14.1 kk i j := by
      intro kk i j hkk
      rw [e17, zs1_at, if_neg (fun q => hkk q.1), e16, zs1_at, if_neg (fun q => hkk q.1), e15, zs1_at, if_neg (fun q => hkk q.1)]
    have f17 : zfz eM h h17 := by
      refine f14.tr ?_
      rw [e17, e16, e15]
      exact ((zfz.s1 eM _ _ rfl).tr (zfz.s1 eM _ _ rfl)).tr (zfz.s1 eM _ _ rfl)
    have r2 := hR.new (h' := h17) (S' := S ||| 2 ^ p) (F' := F') (P' := cP c) hN (zor_lt hS (zp_lt hp)) hP hF' (by rw [e17, zs1_at, if_neg (by simp), e16, zs1_at, if_pos ⟨rfl, rfl, rfl⟩]) (by rw [e17, zs1_at, if_neg (by simp), e16, zs1_at, if_neg (by simp), e15, zs1_at, if_neg (by simp), o14]; exact hR.P) (by rw [e17, zs1_at, if_neg (by simp), e16, zs1_at, if_neg (by simp), e15, zs1_at, if_pos ⟨rfl, rfl, rfl⟩]) (by rw [e17, zs1_at, if_pos ⟨rfl, rfl, rfl⟩]) ((f17 1 0 5 (by decide)).1)
    have ec : cfgC h17 F' (cP c) = (upd (cW c) p (wgtI (nI k) f), upd (cB c) p (brsI (nI k) f), upd (cM c) p (mnrI (nI k)), F', cP c) := by
      unfold cfgC
      rw [show h17.1 12 0 = upd (cW c) p (wgtI (nI k) f) from (funext fun j => o17 12 0 j (by decide)).trans q12]
      rw [show h17.1 13 0 = upd (cB c) p (brsI (nI k) f) from (funext fun j => o17 13 0 j (by decide)).trans q13]
      rw [show h17.1 14 0 = upd (cM c) p (mnrI (nI k)) from (funext fun j => o17 14 0 j (by decide)).trans q14]
    rw [ec] at r2
    refine zC_mono (sX4_settle d r2) ?_
    rintro r h18 ⟨rfl, z1, z2⟩
    refine ⟨_, rfl, _, rfl, rfl, z1, ?_, ?_, f17.tr (z2.mono fun _ _ _ q => eP_T (eM_P q))⟩
    · rw [z2.row (fun _ => by unfold eT; simp), ← q10]
      exact funext fun j => o17 10 0 j (by decide)
    · rw [z2.row (fun _ => by unfold eT; simp), ← q11]
      exact funext fun j => o17 11 0 j (by decide)
  rw [m14]
  have o8 : h14.1 2 0 8 = nI (cF c) := by rw [o14]; exact rF
  rw [o8]
  refine ⟨fun m3 => ?_, fun m3 => ?_⟩
  · intro h15 e15 h16 e16 h17 e17
    rw [zi_sh hp, zi_or] at e15
    rw [if_neg m3]
    exact fin _ h15 h16 h17 (zor_lt hF (zp_lt hp)) e15 e16 e17
  · intro h15 e15 h16 e16 h17 e17
    rw [zi_sh hp, zi_not hF] at e15
    rw [if_pos m3]
    exact fin _ h15 h16 h17 (zsd_lt hF) e15 e16 e17
def eB (i0 : Nat) (k i _j : Nat) : Bool := decide ((k = 2 ∨ (10 ≤ k ∧ k ≤ 14)) ∧ i = i0)
set_option maxHeartbeats 1000000 in
theorem sX4_becomeAs {G : ZG} (d : Nat) {h : ZH} {i0 i1 : Nat} (hi0 : i0 < zcnt 2) (hi1 : i1 < zcnt 2) (hne : i1 ≠ i0) : zC G (d + 1) mX4_becomeAs [zr 2 i0, zr 2 i1] h (fun r h' => r = none ∧ (∀ k, 10 ≤ k → k ≤ 14 → ∀ p, p < 12 → h'.1 k i0 p = h.1 k i1 p) ∧ (∀ j, 6 ≤ j → j ≤ 8 → h'.1 2 i0 j = h.1 2 i1 j) ∧ h'.1 2 i0 9 = h.1 2 i0 9 + 1 ∧ zfz (eB i0) h h') := by
  refine zC_of (by decide +kernel) (Nat.le_of_ble_eq_true rfl) (L := [zr 2 i0, zr 2 i1]) ⟨rfl, ⟨rfl, trivial⟩⟩ ?_
  refine wX4_becomeAs_0 hi0 hi1 ?_
  intro h1 e1 h2 e2 h3 e3 h4 e4 h5 e5 h6 e6 h7 e7 h8 e8 h9 e9
  have c12 : (12 : Int32).toNatClampNeg = 12 := by decide
  have s1 : ∀ k, k ≠ 10 → ∀ i j, h1.1 k i j = h.1 k i j := fun k hk i j => by rw [e1, zsR_at, if_neg (fun q => hk q.1)]
  have s2 : ∀ k, k ≠ 11 → ∀ i j, h2.1 k i j = h1.1 k i j := fun k hk i j => by rw [e2, zsR_at, if_neg (fun q => hk q.1)]
  have s3 : ∀ k, k ≠ 12 → ∀ i j, h3.1 k i j = h2.1 k i j := fun k hk i j => by rw [e3, zsR_at, if_neg (fun q => hk q.1)]
  have s4 : ∀ k, k ≠ 13 → ∀ i j, h4.1 k i j = h3.1 k i j := fun k hk i j => by rw [e4, zsR_at, if_neg (fun q => hk q.1)]
  have s5 : ∀ k, k ≠ 14 → ∀ i j, h5.1 k i j = h4.1 k i j := fun k hk i j => by rw [e5, zsR_at, if_neg (fun q => hk q.1)]
  have s9 : ∀ k, k ≠ 2 → ∀ i j, h9.1 k i j = h5.1 k i j := fun k hk i j => by rw [e9, zs1_at, if_neg (fun q => hk q.1), e8, zs1_at, if_neg (fun q => hk q.1), e7, zs1_at, if_neg (fun q => hk q.1), e6, zs1_at, if_neg (fun q => hk q.1)]
  have t : ∀ i j, h5.1 2 i j = h.1 2 i j := fun i j => by rw [s5 2 (by decide), s4 2 (by decide), s3 2 (by decide), s2 2 (by decide), s1 2 (by decide)]
  refine ⟨rfl, ?_, ?_, ?_, ?_⟩
  · intro k k1 k2 p hp
    have : k = 10 ∨ k = 11 ∨ k = 12 ∨ k = 13 ∨ k = 14 := by omega
    rw [s9 k (by omega)]
    rcases this with rfl | rfl | rfl | rfl | rfl
    · rw [s5 10 (by decide), s4 10 (by decide), s3 10 (by decide), s2 10 (by decide), e1, zsR_at, if_pos ⟨rfl, rfl⟩, va_cpy_at, if_pos (by rw [c12]; exact hp)]
    · rw [s5 11 (by decide), s4 11 (by decide), s3 11 (by decide), e2, zsR_at, if_pos ⟨rfl, rfl⟩, va_cpy_at, if_pos (by rw [c12]; exact hp), s1 11 (by decide)]
    · rw [s5 12 (by decide), s4 12 (by decide), e3, zsR_at, if_pos ⟨rfl, rfl⟩, va_cpy_at, if_pos (by rw [c12]; exact hp), s2 12 (by decide), s1 12 (by decide)]
    · rw [s5 13 (by decide), e4, zsR_at, if_pos ⟨rfl, rfl⟩, va_cpy_at, if_pos (by rw [c12]; exact hp), s3 13 (by decide), s2 13 (by decide), s1 13 (by decide)]
    · rw [e5, zsR_at, if_pos ⟨rfl, rfl⟩, va_cpy_at, if_pos (by rw [c12]; exact hp), s4 14 (by decide), s3 14 (by decide), s2 14 (by decide), s1 14 (by decide)]
  · intro j j1 j2
    have : j = 6 ∨ j = 7 ∨ j = 8 := by omega
    rcases this with rfl | rfl | rfl
    · rw [e9, zs1_at, if_neg (by simp), e8, zs1_at, if_neg (by simp), e7, zs1_at, if_neg (by simp), e6, zs1_at, if_pos ⟨rfl, rfl, rfl⟩, t]
    · rw [e9, zs1_at, if_neg (by simp), e8, zs1_at, if_neg (by simp), e7, zs1_at, if_pos ⟨rfl, rfl, rfl⟩, e6, zs1_at, if_neg (by simp), t]
    · rw [e9, zs1_at, if_neg (by simp), e8, zs1_at, if_pos ⟨rfl, rfl, rfl⟩, e7, zs1_at, if_neg (by simp), e6, zs1_at, if_neg (by simp), t]
  · rw [e9, zs1_at, if_pos ⟨rfl, rfl, rfl⟩, e8, zs1_at, if_neg (by simp), e7, zs1_at, if_neg (by simp), e6, zs1_at, if_neg (by simp), t]
  · have b : ∀ k j, (k = 2 ∨ (10 ≤ k ∧ k ≤ 14)) → eB i0 k i0 j = true := fun k j q => by unfold eB; simp [q]
    rw [e9, e8, e7, e6, e5, e4, e3, e2, e1]
    exact ((((((((zfz.R _ h _ (fun j => b _ j (by decide))).tr (zfz.R _ _ _ (fun j => b _ j (by decide)))).tr (zfz.R _ _ _ (fun j => b _ j (by decide)))).tr (zfz.R _ _ _ (fun j => b _ j (by decide)))).tr (zfz.R _ _ _ (fun j => b _ j (by decide)))).tr (zfz.s1 _ _ _ (b _ _ (by decide)))).tr (zfz.s1 _ _ _ (b _ _ (by decide)))).tr (zfz.s1 _ _ _ (b _ _ (by decide)))).tr (zfz.s1 _ _ _ (b _ _ (by decide)))
/-- what stands at each place where a stone is: a hall of the class, a row of the model -/
def PW (h : ZH) (i r S F : Nat) : Prop := ∀ p, p < 12 → S.testBit p = true → ∃ k f : Nat, k < 8 ∧ f < 10 ∧ h.1 r 0 (2 + 2 * p) = nI k ∧ h.1 r 0 (2 + 2 * p + 1) = nI f ∧ h.1 10 i p = nI k ∧ h.1 11 i p = nI f ∧ h.1 12 i p = wgtI (nI k) (nI f) ∧ h.1 13 i p = brsI (nI k) (nI f) ∧ h.1 14 i p = mnrI (nI k) ∧ F.testBit p = decide (mnrI (nI k) ≠ 3)
def cfgR (h : ZH) (r P : Nat) : ZQ5 := cfgK (fun p => h.1 r 0 (2 + 2 * p)) (fun p => h.1 r 0 (2 + 2 * p + 1)) P
def HB (h : ZH) (i r S P F : Nat) : Prop := S < 4096 ∧ P < 4096 ∧ F < 4096 ∧ h.1 2 i 6 = nI S ∧ h.1 2 i 7 = nI P ∧ h.1 2 i 8 = nI F ∧ h.1 r 0 0 = nI S ∧ h.1 r 0 1 = nI P ∧ PW h i r S F ∧ zlz (cfgR h r P) S = 0
theorem kindI_n (h : ZH) {p : Nat} (hp : p < 12) : kindI h (nI p) = h.1 30 0 (2 + 2 * p) := by
  have : ∀ p, p < 12 → (2 + 2 * nI p).toNatClampNeg = 2 + 2 * p := by decide
  unfold kindI
  rw [this p hp]
theorem figI_n (h : ZH) {p : Nat} (hp : p < 12) : figI h (nI p) = h.1 30 0 (2 + 2 * p + 1) := by
  have : ∀ p, p < 12 → (2 + 2 * nI p + 1).toNatClampNeg = 2 + 2 * p + 1 := by decide
  unfold figI
  rw [this p hp]
theorem cfgH_R (h : ZH) (P S : Nat) : cEq (cfgH h P) (cfgR h 30 P) S := by
  refine ⟨rfl, fun p hp _ => ⟨?_, ?_, ?_, ?_⟩⟩
  · show wgtI (kindI h (nI p)) (figI h (nI p)) = _
    rw [kindI_n h hp, figI_n h hp]; rfl
  · show brsI (kindI h (nI p)) (figI h (nI p)) = _
    rw [kindI_n h hp, figI_n h hp]; rfl
  · show mnrI (kindI h (nI p)) = _
    rw [kindI_n h hp]; rfl
  · show (zmk (fun p => decide (mnrI (kindI h (nI p)) ≠ 3)) 12).testBit p = (zmk (fun p => decide (mnrI (h.1 30 0 (2 + 2 * p)) ≠ 3)) 12).testBit p
    rw [zms_bit _ hp, zms_bit _ hp, kindI_n h hp]
theorem cEq.sy {c e : ZQ5} {S : Nat} (h : cEq c e S) : cEq e c S := ⟨h.1.symm, fun p hp hb => ⟨(h.2 p hp hb).1.symm, (h.2 p hp hb).2.1.symm, (h.2 p hp hb).2.2.1.symm, (h.2 p hp hb).2.2.2.symm⟩⟩
theorem cEq.tr {c e g : ZQ5} {S : Nat} (h : cEq c e S) (q : cEq e g S) : cEq c g S := ⟨h.1.trans q.1, fun p hp hb => ⟨(h.2 p hp hb).1.trans (q.2 p hp hb).1, (h.2 p hp hb).2.1.trans (q.2 p hp hb).2.1, (h.2 p hp hb).2.2.1.trans (q.2 p hp hb).2.2.1, (h.2 p hp hb).2.2.2.trans (q.2 p hp hb).2.2.2⟩⟩
theorem PW.eq {h : ZH} {S P F : Nat} (w : PW h 0 30 S F) : cEq (cfgC h F P) (cfgH h P) S := by
  refine cEq.tr ?_ (cfgH_R h P S).sy
  refine ⟨rfl, fun p hp hb => ?_⟩
  obtain ⟨k, f, hk, hf, a1, a2, a3, a4, a5, a6, a7, a8⟩ := w p hp hb
  refine ⟨?_, ?_, ?_, ?_⟩
  · show h.1 12 0 p = wgtI (h.1 30 0 (2 + 2 * p)) (h.1 30 0 (2 + 2 * p + 1))
    rw [a5, a1, a2]
  · show h.1 13 0 p = brsI (h.1 30 0 (2 + 2 * p)) (h.1 30 0 (2 + 2 * p + 1))
    rw [a6, a1, a2]
  · show h.1 14 0 p = mnrI (h.1 30 0 (2 + 2 * p))
    rw [a7, a1]
  · show F.testBit p = (zmk (fun p => decide (mnrI (h.1 30 0 (2 + 2 * p)) ≠ 3)) 12).testBit p
    rw [zms_bit _ hp, a1, a8]
end
section
/-! ===== the two sides together: what holds between calls ===== -/
def IM (h : ZH) : Prop := (h.1 0 0 6 = 0 ∧ h.1 5 0 3 = 0) ∨ (h.1 0 0 6 = 1 ∧ h.1 5 0 3 = 1 ∧ ∃ S P F, HB h 1 31 S P F)
/-- a shelf: what it holds (0 nothing, 1 a kind, 2 a row) -/
def SHd (h : ZH) (d : Nat) : Prop := ∃ n : Nat, n ≤ 100 ∧ h.1 3 d 4 = nI n ∧
  ((h.1 3 d 0 = 0 ∧ h.1 38 0 d = 0) ∨
   (h.1 3 d 0 = 1 ∧ h.1 38 0 d = 1 ∧ ∃ k f : Nat, k < 8 ∧ f < 10 ∧ h.1 3 d 1 = nI k ∧ h.1 3 d 2 = nI f ∧ h.1 39 0 d = nI k ∧ h.1 40 0 d = nI f) ∨
   (h.1 3 d 0 = 2 ∧ h.1 38 0 d = 2 ∧ ∃ s : Nat, s < 3 ∧ h.1 3 d 3 = nI s ∧ h.1 41 0 d = nI s ∧ h.1 42 0 d = nI n ∧ ∀ j, j < 100 → h.1 16 d j = h.1 43 0 (100 * d + j) ∧ (s = 0 → h.1 16 d j = (h.1 16 d j).toInt8.toInt32)))
def SH (h : ZH) : Prop := ∀ d, d < 8 → SHd h d
def JX (h : ZH) (S : Nat) (c e : ZQ5) (N : Nat) : Prop := HB h 0 30 S (cP c) (cF c) ∧ RC0 h S c N ∧ RM0 h S e ∧ IM h ∧ SH h
/-- all that is written for a while only -/
def eA (k j : Nat) : Bool := (decide (k = 15) || decide (17 ≤ k ∧ k ≤ 20)) || (decide (33 ≤ k ∧ k ≤ 37) || (decide (k = 5 ∧ j ≠ 3) || decide (k = 1 ∧ j = 5)))
theorem eA_no {k j : Nat} (h : (2 ≤ k ∧ k ≤ 14 ∧ k ≠ 5) ∨ k = 0 ∨ k = 16 ∨ (21 ≤ k ∧ k ≤ 32) ∨ 38 ≤ k ∨ (k = 5 ∧ j = 3)) : eA k j = false := by
  unfold eA
  simp only [Bool.or_eq_false_iff, decide_eq_false_iff_not]
  omega
theorem zfx.all {ex : Nat → Nat → Bool} {h h' : ZH} (a : zfx ex h h') (hs : ∀ k j, eA k j = false → ex k j = false) : zfx eA h h' := a.mono hs
theorem eA_F {k j : Nat} (h : eA k j = false) : eF k j = false := by
  unfold eA at h
  unfold eF
  simp only [Bool.or_eq_false_iff, decide_eq_false_iff_not] at h ⊢
  omega
theorem eA_L {k j : Nat} (h : eA k j = false) : eL k j = false := eF_L (eA_F h)
theorem eA_S {k j : Nat} (h : eA k j = false) : eS k j = false := by
  unfold eA at h
  unfold eS
  simp only [Bool.or_eq_false_iff, decide_eq_false_iff_not] at h ⊢
  omega
theorem HB.fr {h h' : ZH} {i r S P F : Nat} (b : HB h i r S P F) (a2 : ∀ j, 6 ≤ j → j ≤ 8 → h'.1 2 i j = h.1 2 i j) (ak : ∀ k, 10 ≤ k → k ≤ 14 → ∀ p, p < 12 → h'.1 k i p = h.1 k i p) (ar : h'.1 r 0 = h.1 r 0) : HB h' i r S P F := by
  obtain ⟨b1, b2, b3, b4, b5, b6, b7, b8, b9, b10⟩ := b
  refine ⟨b1, b2, b3, by rw [a2 6 (by decide) (by decide)]; exact b4, by rw [a2 7 (by decide) (by decide)]; exact b5, by rw [a2 8 (by decide) (by decide)]; exact b6, by rw [ar]; exact b7, by rw [ar]; exact b8, ?_, ?_⟩
  · intro p hp hb
    obtain ⟨k, f, hk, hf, q1, q2, q3, q4, q5, q6, q7, q8⟩ := b9 p hp hb
    exact ⟨k, f, hk, hf, by rw [ar]; exact q1, by rw [ar]; exact q2, by rw [ak 10 (by decide) (by decide) p hp]; exact q3, by rw [ak 11 (by decide) (by decide) p hp]; exact q4, by rw [ak 12 (by decide) (by decide) p hp]; exact q5, by rw [ak 13 (by decide) (by decide) p hp]; exact q6, by rw [ak 14 (by decide) (by decide) p hp]; exact q7, q8⟩
  · unfold cfgR at b10 ⊢
    rw [ar]
    exact b10
theorem SHd.fr {h h' : ZH} {d : Nat} (s : SHd h d) (a3 : h'.1 3 d = h.1 3 d) (a16 : h'.1 16 d = h.1 16 d) (am : ∀ k, 38 ≤ k → k ≤ 43 → h'.1 k 0 = h.1 k 0) : SHd h' d := by
  unfold SHd at s ⊢
  rw [a3, a16, am 38 (by decide) (by decide), am 39 (by decide) (by decide), am 40 (by decide) (by decide), am 41 (by decide) (by decide), am 42 (by decide) (by decide), am 43 (by decide) (by decide)]
  exact s
theorem SH.fx {h h' : ZH} (s : SH h) (a : zfx eA h h') : SH h' := fun d hd => (s d hd).fr (a.row d fun _ => eA_no (by omega)) (a.row d fun _ => eA_no (by omega)) (fun _ _ _ => a.row 0 fun _ => eA_no (by omega))
theorem HB.fx {h h' : ZH} {i r S P F : Nat} (b : HB h i r S P F) (hr : 30 ≤ r ∧ r ≤ 32) (a : zfx eA h h') : HB h' i r S P F := b.fr (fun j _ _ => (a 2 i j (eA_no (by omega))).1) (fun k _ _ p _ => (a k i p (eA_no (by omega))).1) (a.row 0 fun _ => eA_no (by omega))
theorem IM.fx {h h' : ZH} (m : IM h) (a : zfx eA h h') : IM h' := by
  unfold IM at m ⊢
  rw [(a 0 0 6 (eA_no (by omega))).1, (a 5 0 3 (eA_no (by omega))).1]
  rcases m with q | ⟨q1, q2, S, P, F, q3⟩
  · exact Or.inl q
  · exact Or.inr ⟨q1, q2, S, P, F, q3.fx (by decide) a⟩
/-- after looking ahead all is as before -/
theorem JX.fx {h h' : ZH} {S : Nat} {c e : ZQ5} {N : Nat} (j : JX h S c e N) (a : zfx eA h h') (r : RC0 h' S c N) : JX h' S c e N := ⟨j.1.fx (by decide) a, r, j.2.2.1.fx a fun _ => eA_no (by omega), j.2.2.2.1.fx a, j.2.2.2.2.fx a⟩
theorem JX.c {h : ZH} {S : Nat} {c e : ZQ5} {N : Nat} (j : JX h S c e N) : RC0 h S c N := j.2.1
theorem JX.m {h : ZH} {S : Nat} {c e : ZQ5} {N : Nat} (j : JX h S c e N) : RM0 h S e := j.2.2.1
theorem JX.lt {h : ZH} {S : Nat} {c e : ZQ5} {N : Nat} (j : JX h S c e N) : S < 4096 := j.1.1
/-- the model looks ahead -/
theorem JX.fm {ex : Nat → Nat → Bool} {h h' : ZH} {S : Nat} {c e : ZQ5} {N : Nat} (j : JX h S c e N) (a : zfx ex h h') (hs : ∀ k j, eA k j = false → ex k j = false) (h1 : ∀ j, ex 1 j = false) (h17 : ∀ j, ex 17 j = false) : JX h' S c e N := by
  have a' := a.all hs
  refine j.fx a' ?_
  exact j.c.fx a (h1 5) (fun j => hs 2 j (eA_no (by omega))) (fun j => hs 12 j (eA_no (by omega))) (fun j => hs 13 j (eA_no (by omega))) (fun j => hs 14 j (eA_no (by omega))) h17
theorem JX.fS {h h' : ZH} {S : Nat} {c e : ZQ5} {N : Nat} (j : JX h S c e N) (a : zfx eS h h') : JX h' S c e N := j.fm a (fun _ _ => eA_S) (fun _ => by unfold eS; simp) (fun _ => by unfold eS; simp)
theorem JX.fL {h h' : ZH} {S : Nat} {c e : ZQ5} {N : Nat} (j : JX h S c e N) (a : zfx eL h h') : JX h' S c e N := j.fm a (fun _ _ => eA_L) (fun _ => by unfold eL; simp) (fun _ => by unfold eL; simp)
theorem JX.eq {h : ZH} {S : Nat} {c e : ZQ5} {N : Nat} (j : JX h S c e N) : cEq c e S := by
  have w := j.1.2.2.2.2.2.2.2.2.1.eq (P := cP c)
  rw [j.c.2.2.2.2.2.2.1] at w
  have hm := j.m
  have e8 := j.1.2.2.2.2.2.2.2.1
  have : cP c = cP e := by
    rw [hm.2.2.2.1] at e8
    exact ((zi_inj hm.2.1 j.c.2.1).mp e8).symm
  rw [this, hm.2.2.2.2] at w
  exact w
theorem JX.stlE {h : ZH} {S T : Nat} {c e : ZQ5} {N : Nat} (j : JX h S c e N) (hT : zle T S) : stl c T = stl e T := stl_eq (zle_lt hT j.lt) (j.eq.sub hT)
theorem JX.ldsE {h : ZH} {S T : Nat} {c e : ZQ5} {N : Nat} (j : JX h S c e N) (hT : zle T S) : zlds c T = zlds e T := zlds_eq (j.eq.sub hT)
theorem JX.fix {h : ZH} {S : Nat} {c e : ZQ5} {N : Nat} (j : JX h S c e N) : zlz e S = 0 := by
  have := j.1.2.2.2.2.2.2.2.2.2
  have q := zlz_eq j.lt (cfgH_R h (cP c) S)
  rw [this, j.eq.1, j.m.2.2.2.2] at q
  exact q
theorem JX.setl {h : ZH} {S : Nat} {c e : ZQ5} {N : Nat} (j : JX h S c e N) : stl e S = S := stl_of e j.fix
/-- a stone's numbers -/
theorem JX.at {h : ZH} {S p : Nat} {c e : ZQ5} {N : Nat} (j : JX h S c e N) (hp : p < 12) (hb : S.testBit p = true) : ∃ k f : Nat, k < 8 ∧ f < 10 ∧ kindI h (nI p) = nI k ∧ figI h (nI p) = nI f ∧ h.1 10 0 p = nI k ∧ h.1 11 0 p = nI f ∧ h.1 12 0 p = wgtI (nI k) (nI f) ∧ h.1 13 0 p = brsI (nI k) (nI f) ∧ cW e p = wgtI (nI k) (nI f) ∧ cB e p = brsI (nI k) (nI f) := by
  obtain ⟨k, f, hk, hf, a1, a2, a3, a4, a5, a6, a7, a8⟩ := j.1.2.2.2.2.2.2.2.2.1 p hp hb
  have x1 : kindI h (nI p) = nI k := by rw [kindI_n h hp]; exact a1
  have x2 : figI h (nI p) = nI f := by rw [figI_n h hp]; exact a2
  refine ⟨k, f, hk, hf, x1, x2, a3, a4, a5, a6, ?_, ?_⟩
  · rw [← j.m.2.2.2.2]
    show wgtI (kindI h (nI p)) (figI h (nI p)) = _
    rw [x1, x2]
  · rw [← j.m.2.2.2.2]
    show brsI (kindI h (nI p)) (figI h (nI p)) = _
    rw [x1, x2]
/-! looking ahead, the class's way and the model's -/
theorem zsd_p {S p : Nat} (hS : S < 4096) (hp : p < 12) : nI S &&& (((1 : Int32) <<< (nI p &&& 31)) ^^^ (-1)) = nI (zsd S (2 ^ p)) := by
  rw [zi_sh hp, zi_not hS]
theorem jX3_leftOf {G : ZG} (d : Nat) {h : ZH} {S T : Nat} {c e : ZQ5} {N : Nat} (j : JX h S c e N) (hT : zle T S) : zC G (d + 4) mX3_leftOf [zr 1 0, zi (nI T)] h (fun r h' => r = some (zi (nI (stl e T))) ∧ JX h' S c e N ∧ zfx eF h h') := by
  refine zC_mono (sX3_leftOf d j.c (zle_lt hT j.lt)) ?_
  rintro r h' ⟨rfl, r', f⟩
  exact ⟨by rw [j.stlE hT], j.fx (f.all fun _ _ => eA_F) r', f⟩
theorem jX12_settled {G : ZG} (d : Nat) {h : ZH} {S T : Nat} {c e : ZQ5} {N : Nat} (j : JX h S c e N) (hT : T < 4096) : zC G (d + 5) mX12_settled [zr 5 0, zi (nI T)] h (fun r h' => r = some (zi (nI (stl e T))) ∧ h'.1 5 0 5 = nI (stp e T) ∧ JX h' S c e N ∧ zfx eS h h') := by
  refine zC_mono (sX12_settled d j.m hT) ?_
  rintro r h' ⟨rfl, q, f⟩
  exact ⟨rfl, q, j.fS f, f⟩
theorem jX12_leftWithout {G : ZG} (d : Nat) {h : ZH} {S T U : Nat} {c e : ZQ5} {N : Nat} (j : JX h S c e N) (hT : T < 4096) : zC G (d + 6) mX12_leftWithout [zr 5 0, zi (nI T), zi (nI U)] h (fun r h' => r = some (zi (nI (stl e (zsd T U)))) ∧ h'.1 5 0 5 = nI (stp e (zsd T U)) ∧ JX h' S c e N ∧ zfx eS h h') := by
  refine zC_of (by decide +kernel) (Nat.le_of_ble_eq_true rfl) (L := [zr 5 0, zi (nI T), zi (nI U)]) ⟨rfl, ⟨rfl, ⟨rfl, trivial⟩⟩⟩ ?_
  refine wX12_leftWithout_0 ?_
  rw [zi_not hT]
  refine zC_mono (jX12_settled d j (zsd_lt hT)) ?_
  rintro r h' ⟨rfl, q⟩
  exact ⟨_, rfl, rfl, q⟩
/-- how many fall when some are taken out -/
def fallN (e : ZQ5) (S U : Nat) : Nat := zpc (zsd S U) - zpc (stl e (zsd S U))
theorem jX12_fallsOf {G : ZG} (d : Nat) {h : ZH} {S T U : Nat} {c e : ZQ5} {N : Nat} (j : JX h S c e N) (hT : T < 4096) : zC G (d + 7) mX12_fallsOf [zr 5 0, zi (nI T), zi (nI U)] h (fun r h' => r = some (zi (nI (fallN e T U))) ∧ JX h' S c e N ∧ zfx eS h h') := by
  refine zC_of (by decide +kernel) (Nat.le_of_ble_eq_true rfl) (L := [zr 5 0, zi (nI T), zi (nI U)]) ⟨rfl, ⟨rfl, ⟨rfl, trivial⟩⟩⟩ ?_
  refine wX12_fallsOf_0 ?_
  refine zC_mono (jX12_leftWithout d j hT) ?_
  rintro r h' ⟨rfl, _, q⟩
  refine ⟨_, rfl, ?_, q⟩
  rw [zi_not hT, bitsI_nI (zsd_lt hT), bitsI_nI (stl_lt e (zsd_lt hT)), nI_sub (zpc_mono (stl_le e (zsd_lt hT)))]
  rfl
theorem fallN_lt (e : ZQ5) (S U : Nat) : fallN e S U ≤ 12 := by
  unfold fallN
  have := zpc_le (zsd S U)
  omega
theorem fallN_0 {e : ZQ5} {S U : Nat} (hS : S < 4096) : fallN e S U = 0 ↔ stl e (zsd S U) = zsd S U := by
  have hle := stl_le e (zsd_lt (T := U) hS)
  unfold fallN
  constructor
  · intro h
    apply Classical.byContradiction
    intro q
    have := zpc_lt hle (stl_lt e (zsd_lt hS)) (zsd_lt hS) q
    omega
  · intro h
    rw [h]
    omega
theorem fallN_zi {e : ZQ5} {S U : Nat} (hS : S < 4096) : nI (fallN e S U) = 0 ↔ stl e (zsd S U) = zsd S U := by
  rw [zi_0, zi_inj (by have := fallN_lt e S U; omega) (by decide), fallN_0 hS]
/-- the safe ones -/
def safeN (e : ZQ5) (S : Nat) : Nat := zmk (fun p => S.testBit p && decide (stl e (zsd S (2 ^ p)) = zsd S (2 ^ p))) 12
theorem zor_0 (x : Int32) : x ||| 0 = x := Int32.or_zero
theorem jX12_safeOf {G : ZG} (d : Nat) {h : ZH} {S T : Nat} {c e : ZQ5} {N : Nat} (j : JX h S c e N) (hT : T < 4096) : zC G (d + 8) mX12_safeOf [zr 5 0, zi (nI T)] h (fun r h' => r = some (zi (nI (safeN e T))) ∧ JX h' S c e N ∧ zfx eS h h') := by
  refine zC_of (by decide +kernel) (Nat.le_of_ble_eq_true rfl) (L := [zr 5 0, zi (nI T), zu, zu]) ⟨rfl, ⟨rfl, trivial⟩⟩ ?_
  refine wX12_safeOf_0 ?_
  have key : ∀ (f m : Nat), f + m = 12 → ∀ h1 : ZH, JX h1 S c e N → zfx eS h h1 → zT G (d + 8) mX12_safeOf 4 [zr 5 0, zi (nI T), zi (nI (zmk (fun p => T.testBit p && decide (stl e (zsd T (2 ^ p)) = zsd T (2 ^ p))) m)), zi (nI m)] [] h1 (fun r h' => r = some (zi (nI (safeN e T))) ∧ JX h' S c e N ∧ zfx eS h h') := by
    intro f
    induction f with
    | zero =>
      intro m hm h1 j1 f1
      have e : m = 12 := by omega
      subst e
      refine wX12_safeOf_4 ?_
      exact br_t (by decide) ⟨rfl, j1, f1⟩
    | succ f ih =>
      intro m hm h1 j1 f1
      have hm' : m < 12 := by omega
      refine wX12_safeOf_4 ?_
      refine br_f (nI_ge (a := m) (b := 12) (by omega) (by decide)) ?_
      rw [hasI_iff hT (show m < 32 by omega), zor_0, nI_1]
      refine ⟨fun t => ?_, fun t => ?_⟩
      · have := ih (m + 1) (by omega) h1 j1 f1
        rw [zmk_no _ (by simp [t])] at this
        exact this
      · rw [zi_sh hm']
        refine zC_mono (jX12_fallsOf (U := 2 ^ m) d j1 hT) ?_
        rintro r h2 ⟨rfl, j2, f2⟩
        refine ⟨_, rfl, ?_⟩
        rw [fallN_zi hT]
        have IH := ih (m + 1) (by omega) h2 j2 (f1.tr f2)
        refine ⟨fun t2 => ?_, fun t2 => ?_⟩
        · rw [zmk_no _ (by simp [t2])] at IH
          exact IH
        · rw [← zi_mk _ hm' (by simp [t, t2]), zi_sh hm'] at IH
          exact IH
  exact key 12 0 (by omega) h j (zfx.rf _ _)
end
