section
-- ===== PART A: goes FIRST, ahead of the names: the tables' words, and 'selects' of the private methods out of them =====
/-- a private method of a class that the tables say can be made, by its rows of tables_1 -/
def lw_okq (q : MethodName × Nat) : Prop := (q.1.cls ≠ "java/lang/invoke/MethodHandle" ∧ q.1.cls ≠ "java/lang/invoke/VarHandle") ∧ Cond.instantiable q.1.cls q.2 ∈ tables_1 ∧ Cond.privateMethod q.1 ∈ tables_1 ∧ Cond.instanceMethod q.1 ∈ tables_1
theorem lw_p0 : lw_okq (⟨"CornerstoneSought", "rowRefused", "(I)I"⟩, 7) := ⟨⟨by decide +kernel, by decide +kernel⟩, List.mem_of_getElem? (i := 26) (by decide +kernel), List.mem_of_getElem? (i := 226) (by decide +kernel), List.mem_of_getElem? (i := 227) (by decide +kernel)⟩
theorem lw_p1 : lw_okq (⟨"CornerstoneSought", "doStatements", "(LCornerstoneSought$Shelf;)I"⟩, 7) := ⟨⟨by decide +kernel, by decide +kernel⟩, List.mem_of_getElem? (i := 26) (by decide +kernel), List.mem_of_getElem? (i := 255) (by decide +kernel), List.mem_of_getElem? (i := 256) (by decide +kernel)⟩
theorem lw_p2 : lw_okq (⟨"CornerstoneSought", "doStatement", "(LCornerstoneSought$Shelf;I)Z"⟩, 7) := ⟨⟨by decide +kernel, by decide +kernel⟩, List.mem_of_getElem? (i := 26) (by decide +kernel), List.mem_of_getElem? (i := 266) (by decide +kernel), List.mem_of_getElem? (i := 267) (by decide +kernel)⟩
theorem lw_p3 : lw_okq (⟨"CornerstoneSought$Hall", "settle", "()I"⟩, 10) := ⟨⟨by decide +kernel, by decide +kernel⟩, List.mem_of_getElem? (i := 97) (by decide +kernel), List.mem_of_getElem? (i := 280) (by decide +kernel), List.mem_of_getElem? (i := 281) (by decide +kernel)⟩
theorem lw_p4 : lw_okq (⟨"CornerstoneSought$Hall", "restsIn", "(II)Z"⟩, 10) := ⟨⟨by decide +kernel, by decide +kernel⟩, List.mem_of_getElem? (i := 97) (by decide +kernel), List.mem_of_getElem? (i := 295) (by decide +kernel), List.mem_of_getElem? (i := 296) (by decide +kernel)⟩
theorem lw_p5 : lw_okq (⟨"CornerstoneSought", "kindRefused", "(I)I"⟩, 7) := ⟨⟨by decide +kernel, by decide +kernel⟩, List.mem_of_getElem? (i := 26) (by decide +kernel), List.mem_of_getElem? (i := 419) (by decide +kernel), List.mem_of_getElem? (i := 420) (by decide +kernel)⟩
theorem lw_p6 : lw_okq (⟨"CornerstoneSought", "stoneRefused", "(I)I"⟩, 7) := ⟨⟨by decide +kernel, by decide +kernel⟩, List.mem_of_getElem? (i := 26) (by decide +kernel), List.mem_of_getElem? (i := 427) (by decide +kernel), List.mem_of_getElem? (i := 428) (by decide +kernel)⟩
theorem lw_p7 : lw_okq (⟨"CornerstoneSought$Foresight", "leftOf", "(I)I"⟩, 6) := ⟨⟨by decide +kernel, by decide +kernel⟩, List.mem_of_getElem? (i := 91) (by decide +kernel), List.mem_of_getElem? (i := 447) (by decide +kernel), List.mem_of_getElem? (i := 448) (by decide +kernel)⟩
theorem lw_p8 : lw_okq (⟨"CornerstoneSought$Foresight", "countWithout", "(I)I"⟩, 6) := ⟨⟨by decide +kernel, by decide +kernel⟩, List.mem_of_getElem? (i := 91) (by decide +kernel), List.mem_of_getElem? (i := 479) (by decide +kernel), List.mem_of_getElem? (i := 480) (by decide +kernel)⟩
theorem lw_p9 : lw_okq (⟨"CornerstoneSought$Foresight", "runFrom", "(II)I"⟩, 6) := ⟨⟨by decide +kernel, by decide +kernel⟩, List.mem_of_getElem? (i := 91) (by decide +kernel), List.mem_of_getElem? (i := 527) (by decide +kernel), List.mem_of_getElem? (i := 528) (by decide +kernel)⟩
theorem lw_p10 : lw_okq (⟨"CornerstoneSought$Foresight", "isSafeIn", "(II)Z"⟩, 6) := ⟨⟨by decide +kernel, by decide +kernel⟩, List.mem_of_getElem? (i := 91) (by decide +kernel), List.mem_of_getElem? (i := 531) (by decide +kernel), List.mem_of_getElem? (i := 532) (by decide +kernel)⟩
theorem lw_p11 : lw_okq (⟨"CornerstoneSought$Foresight", "winningPlaceIn", "(II)I"⟩, 6) := ⟨⟨by decide +kernel, by decide +kernel⟩, List.mem_of_getElem? (i := 91) (by decide +kernel), List.mem_of_getElem? (i := 550) (by decide +kernel), List.mem_of_getElem? (i := 551) (by decide +kernel)⟩
theorem lw_p12 : lw_okq (⟨"CornerstoneSought", "notesRefused", "(I)I"⟩, 7) := ⟨⟨by decide +kernel, by decide +kernel⟩, List.mem_of_getElem? (i := 26) (by decide +kernel), List.mem_of_getElem? (i := 584) (by decide +kernel), List.mem_of_getElem? (i := 585) (by decide +kernel)⟩
theorem lw_p13 : lw_okq (⟨"CornerstoneSought$Foresight", "soundsAs", "(ILCornerstoneSought$Shelf;)Z"⟩, 6) := ⟨⟨by decide +kernel, by decide +kernel⟩, List.mem_of_getElem? (i := 91) (by decide +kernel), List.mem_of_getElem? (i := 592) (by decide +kernel), List.mem_of_getElem? (i := 593) (by decide +kernel)⟩
theorem lw_p14 : lw_okq (⟨"CornerstoneSought$Foresight", "noteIn", "(II)I"⟩, 6) := ⟨⟨by decide +kernel, by decide +kernel⟩, List.mem_of_getElem? (i := 91) (by decide +kernel), List.mem_of_getElem? (i := 598) (by decide +kernel), List.mem_of_getElem? (i := 599) (by decide +kernel)⟩
theorem lw_p15 : lw_okq (⟨"CornerstoneSought$Foresight", "hearAll", "(I)V"⟩, 6) := ⟨⟨by decide +kernel, by decide +kernel⟩, List.mem_of_getElem? (i := 91) (by decide +kernel), List.mem_of_getElem? (i := 611) (by decide +kernel), List.mem_of_getElem? (i := 612) (by decide +kernel)⟩
def lw_privs_1 : List (MethodName × Nat) := [(⟨"CornerstoneSought", "rowRefused", "(I)I"⟩, 7), (⟨"CornerstoneSought", "doStatements", "(LCornerstoneSought$Shelf;)I"⟩, 7), (⟨"CornerstoneSought", "doStatement", "(LCornerstoneSought$Shelf;I)Z"⟩, 7), (⟨"CornerstoneSought$Hall", "settle", "()I"⟩, 10), (⟨"CornerstoneSought$Hall", "restsIn", "(II)Z"⟩, 10), (⟨"CornerstoneSought", "kindRefused", "(I)I"⟩, 7), (⟨"CornerstoneSought", "stoneRefused", "(I)I"⟩, 7), (⟨"CornerstoneSought$Foresight", "leftOf", "(I)I"⟩, 6), (⟨"CornerstoneSought$Foresight", "countWithout", "(I)I"⟩, 6), (⟨"CornerstoneSought$Foresight", "runFrom", "(II)I"⟩, 6), (⟨"CornerstoneSought$Foresight", "isSafeIn", "(II)Z"⟩, 6), (⟨"CornerstoneSought$Foresight", "winningPlaceIn", "(II)I"⟩, 6), (⟨"CornerstoneSought", "notesRefused", "(I)I"⟩, 7), (⟨"CornerstoneSought$Foresight", "soundsAs", "(ILCornerstoneSought$Shelf;)Z"⟩, 6), (⟨"CornerstoneSought$Foresight", "noteIn", "(II)I"⟩, 6), (⟨"CornerstoneSought$Foresight", "hearAll", "(I)V"⟩, 6)]
theorem lw_r1 : ∀ q ∈ lw_privs_1, lw_okq q := List.forall_mem_cons.mpr ⟨lw_p0, List.forall_mem_cons.mpr ⟨lw_p1, List.forall_mem_cons.mpr ⟨lw_p2, List.forall_mem_cons.mpr ⟨lw_p3, List.forall_mem_cons.mpr ⟨lw_p4, List.forall_mem_cons.mpr ⟨lw_p5, List.forall_mem_cons.mpr ⟨lw_p6, List.forall_mem_cons.mpr ⟨lw_p7, List.forall_mem_cons.mpr ⟨lw_p8, List.forall_mem_cons.mpr ⟨lw_p9, List.forall_mem_cons.mpr ⟨lw_p10, List.forall_mem_cons.mpr ⟨lw_p11, List.forall_mem_cons.mpr ⟨lw_p12, List.forall_mem_cons.mpr ⟨lw_p13, List.forall_mem_cons.mpr ⟨lw_p14, List.forall_mem_cons.mpr ⟨lw_p15, fun _ h => absurd h List.not_mem_nil⟩⟩⟩⟩⟩⟩⟩⟩⟩⟩⟩⟩⟩⟩⟩⟩
theorem lw_p16 : lw_okq (⟨"CornerstoneSought$Foresight", "areSafe", "(II)Z"⟩, 6) := ⟨⟨by decide +kernel, by decide +kernel⟩, List.mem_of_getElem? (i := 91) (by decide +kernel), List.mem_of_getElem? (i := 632) (by decide +kernel), List.mem_of_getElem? (i := 633) (by decide +kernel)⟩
theorem lw_p17 : lw_okq (⟨"CornerstoneSought$Hall", "columnWeight", "(I)I"⟩, 10) := ⟨⟨by decide +kernel, by decide +kernel⟩, List.mem_of_getElem? (i := 97) (by decide +kernel), List.mem_of_getElem? (i := 654) (by decide +kernel), List.mem_of_getElem? (i := 655) (by decide +kernel)⟩
theorem lw_p18 : lw_okq (⟨"CornerstoneSought", "tinsRefused", "(I)I"⟩, 7) := ⟨⟨by decide +kernel, by decide +kernel⟩, List.mem_of_getElem? (i := 26) (by decide +kernel), List.mem_of_getElem? (i := 670) (by decide +kernel), List.mem_of_getElem? (i := 671) (by decide +kernel)⟩
theorem lw_p19 : lw_okq (⟨"CornerstoneSought$Foresight", "waysFrom", "(ILCornerstoneSought$Shelf;I)I"⟩, 6) := ⟨⟨by decide +kernel, by decide +kernel⟩, List.mem_of_getElem? (i := 91) (by decide +kernel), List.mem_of_getElem? (i := 678) (by decide +kernel), List.mem_of_getElem? (i := 679) (by decide +kernel)⟩
theorem lw_p20 : lw_okq (⟨"CornerstoneSought$Foresight", "isTold", "(III)Z"⟩, 6) := ⟨⟨by decide +kernel, by decide +kernel⟩, List.mem_of_getElem? (i := 91) (by decide +kernel), List.mem_of_getElem? (i := 682) (by decide +kernel), List.mem_of_getElem? (i := 683) (by decide +kernel)⟩
theorem lw_p21 : lw_okq (⟨"CornerstoneSought$Foresight", "believedFrom", "(ILCornerstoneSought$Shelf;I)I"⟩, 6) := ⟨⟨by decide +kernel, by decide +kernel⟩, List.mem_of_getElem? (i := 91) (by decide +kernel), List.mem_of_getElem? (i := 698) (by decide +kernel), List.mem_of_getElem? (i := 699) (by decide +kernel)⟩
theorem lw_p22 : lw_okq (⟨"CornerstoneSought$Foresight", "spreadTakings", "(I)V"⟩, 6) := ⟨⟨by decide +kernel, by decide +kernel⟩, List.mem_of_getElem? (i := 91) (by decide +kernel), List.mem_of_getElem? (i := 735) (by decide +kernel), List.mem_of_getElem? (i := 736) (by decide +kernel)⟩
theorem lw_p23 : lw_okq (⟨"CornerstoneSought$Foresight", "areTwins", "(II)Z"⟩, 6) := ⟨⟨by decide +kernel, by decide +kernel⟩, List.mem_of_getElem? (i := 91) (by decide +kernel), List.mem_of_getElem? (i := 747) (by decide +kernel), List.mem_of_getElem? (i := 748) (by decide +kernel)⟩
theorem lw_p24 : lw_okq (⟨"java/lang/Throwable", "fillInStackTrace", "(I)Ljava/lang/Throwable;"⟩, 6) := ⟨⟨by decide +kernel, by decide +kernel⟩, List.mem_of_getElem? (i := 919) (by decide +kernel), List.mem_of_getElem? (i := 917) (by decide +kernel), List.mem_of_getElem? (i := 918) (by decide +kernel)⟩
theorem lw_p25 : lw_okq (⟨"CornerstoneSoughtModel", "wrongRow", "(II)I"⟩, 24) := ⟨⟨by decide +kernel, by decide +kernel⟩, List.mem_of_getElem? (i := 1004) (by decide +kernel), List.mem_of_getElem? (i := 1088) (by decide +kernel), List.mem_of_getElem? (i := 1089) (by decide +kernel)⟩
theorem lw_p26 : lw_okq (⟨"CornerstoneSoughtModel", "readsStatement", "()Z"⟩, 24) := ⟨⟨by decide +kernel, by decide +kernel⟩, List.mem_of_getElem? (i := 1004) (by decide +kernel), List.mem_of_getElem? (i := 1098) (by decide +kernel), List.mem_of_getElem? (i := 1099) (by decide +kernel)⟩
theorem lw_p27 : lw_okq (⟨"CornerstoneSoughtModel", "here", "()I"⟩, 24) := ⟨⟨by decide +kernel, by decide +kernel⟩, List.mem_of_getElem? (i := 1004) (by decide +kernel), List.mem_of_getElem? (i := 1102) (by decide +kernel), List.mem_of_getElem? (i := 1103) (by decide +kernel)⟩
theorem lw_p28 : lw_okq (⟨"CornerstoneSoughtModel", "readsNumber", "(II)Z"⟩, 24) := ⟨⟨by decide +kernel, by decide +kernel⟩, List.mem_of_getElem? (i := 1004) (by decide +kernel), List.mem_of_getElem? (i := 1106) (by decide +kernel), List.mem_of_getElem? (i := 1107) (by decide +kernel)⟩
theorem lw_p29 : lw_okq (⟨"CornerstoneSoughtModel", "isDone", "(I)Z"⟩, 24) := ⟨⟨by decide +kernel, by decide +kernel⟩, List.mem_of_getElem? (i := 1004) (by decide +kernel), List.mem_of_getElem? (i := 1113) (by decide +kernel), List.mem_of_getElem? (i := 1114) (by decide +kernel)⟩
theorem lw_p30 : lw_okq (⟨"CornerstoneSoughtModel", "isThere", "(I)Z"⟩, 24) := ⟨⟨by decide +kernel, by decide +kernel⟩, List.mem_of_getElem? (i := 1004) (by decide +kernel), List.mem_of_getElem? (i := 1120) (by decide +kernel), List.mem_of_getElem? (i := 1121) (by decide +kernel)⟩
theorem lw_p31 : lw_okq (⟨"CornerstoneSoughtModel", "laysAt", "(III)V"⟩, 24) := ⟨⟨by decide +kernel, by decide +kernel⟩, List.mem_of_getElem? (i := 1004) (by decide +kernel), List.mem_of_getElem? (i := 1127) (by decide +kernel), List.mem_of_getElem? (i := 1128) (by decide +kernel)⟩
def lw_privs_2 : List (MethodName × Nat) := [(⟨"CornerstoneSought$Foresight", "areSafe", "(II)Z"⟩, 6), (⟨"CornerstoneSought$Hall", "columnWeight", "(I)I"⟩, 10), (⟨"CornerstoneSought", "tinsRefused", "(I)I"⟩, 7), (⟨"CornerstoneSought$Foresight", "waysFrom", "(ILCornerstoneSought$Shelf;I)I"⟩, 6), (⟨"CornerstoneSought$Foresight", "isTold", "(III)Z"⟩, 6), (⟨"CornerstoneSought$Foresight", "believedFrom", "(ILCornerstoneSought$Shelf;I)I"⟩, 6), (⟨"CornerstoneSought$Foresight", "spreadTakings", "(I)V"⟩, 6), (⟨"CornerstoneSought$Foresight", "areTwins", "(II)Z"⟩, 6), (⟨"java/lang/Throwable", "fillInStackTrace", "(I)Ljava/lang/Throwable;"⟩, 6), (⟨"CornerstoneSoughtModel", "wrongRow", "(II)I"⟩, 24), (⟨"CornerstoneSoughtModel", "readsStatement", "()Z"⟩, 24), (⟨"CornerstoneSoughtModel", "here", "()I"⟩, 24), (⟨"CornerstoneSoughtModel", "readsNumber", "(II)Z"⟩, 24), (⟨"CornerstoneSoughtModel", "isDone", "(I)Z"⟩, 24), (⟨"CornerstoneSoughtModel", "isThere", "(I)Z"⟩, 24), (⟨"CornerstoneSoughtModel", "laysAt", "(III)V"⟩, 24)]
theorem lw_r2 : ∀ q ∈ lw_privs_2, lw_okq q := List.forall_mem_cons.mpr ⟨lw_p16, List.forall_mem_cons.mpr ⟨lw_p17, List.forall_mem_cons.mpr ⟨lw_p18, List.forall_mem_cons.mpr ⟨lw_p19, List.forall_mem_cons.mpr ⟨lw_p20, List.forall_mem_cons.mpr ⟨lw_p21, List.forall_mem_cons.mpr ⟨lw_p22, List.forall_mem_cons.mpr ⟨lw_p23, List.forall_mem_cons.mpr ⟨lw_p24, List.forall_mem_cons.mpr ⟨lw_p25, List.forall_mem_cons.mpr ⟨lw_p26, List.forall_mem_cons.mpr ⟨lw_p27, List.forall_mem_cons.mpr ⟨lw_p28, List.forall_mem_cons.mpr ⟨lw_p29, List.forall_mem_cons.mpr ⟨lw_p30, List.forall_mem_cons.mpr ⟨lw_p31, fun _ h => absurd h List.not_mem_nil⟩⟩⟩⟩⟩⟩⟩⟩⟩⟩⟩⟩⟩⟩⟩⟩
theorem lw_p32 : lw_okq (⟨"CornerstoneSoughtModel", "settled", "(I)I"⟩, 24) := ⟨⟨by decide +kernel, by decide +kernel⟩, List.mem_of_getElem? (i := 1004) (by decide +kernel), List.mem_of_getElem? (i := 1131) (by decide +kernel), List.mem_of_getElem? (i := 1132) (by decide +kernel)⟩
theorem lw_p33 : lw_okq (⟨"CornerstoneSoughtModel", "loads", "(I)V"⟩, 24) := ⟨⟨by decide +kernel, by decide +kernel⟩, List.mem_of_getElem? (i := 1004) (by decide +kernel), List.mem_of_getElem? (i := 1135) (by decide +kernel), List.mem_of_getElem? (i := 1136) (by decide +kernel)⟩
theorem lw_p34 : lw_okq (⟨"CornerstoneSoughtModel", "weight", "(I)I"⟩, 24) := ⟨⟨by decide +kernel, by decide +kernel⟩, List.mem_of_getElem? (i := 1004) (by decide +kernel), List.mem_of_getElem? (i := 1139) (by decide +kernel), List.mem_of_getElem? (i := 1140) (by decide +kernel)⟩
theorem lw_p35 : lw_okq (⟨"CornerstoneSoughtModel", "figure", "(I)I"⟩, 24) := ⟨⟨by decide +kernel, by decide +kernel⟩, List.mem_of_getElem? (i := 1004) (by decide +kernel), List.mem_of_getElem? (i := 1143) (by decide +kernel), List.mem_of_getElem? (i := 1144) (by decide +kernel)⟩
theorem lw_p36 : lw_okq (⟨"CornerstoneSoughtModel", "kind", "(I)I"⟩, 24) := ⟨⟨by decide +kernel, by decide +kernel⟩, List.mem_of_getElem? (i := 1004) (by decide +kernel), List.mem_of_getElem? (i := 1147) (by decide +kernel), List.mem_of_getElem? (i := 1148) (by decide +kernel)⟩
theorem lw_p37 : lw_okq (⟨"CornerstoneSoughtModel", "isArch", "(I)Z"⟩, 24) := ⟨⟨by decide +kernel, by decide +kernel⟩, List.mem_of_getElem? (i := 1004) (by decide +kernel), List.mem_of_getElem? (i := 1151) (by decide +kernel), List.mem_of_getElem? (i := 1152) (by decide +kernel)⟩
theorem lw_p38 : lw_okq (⟨"CornerstoneSoughtModel", "isLeft", "(II)Z"⟩, 24) := ⟨⟨by decide +kernel, by decide +kernel⟩, List.mem_of_getElem? (i := 1004) (by decide +kernel), List.mem_of_getElem? (i := 1155) (by decide +kernel), List.mem_of_getElem? (i := 1156) (by decide +kernel)⟩
theorem lw_p39 : lw_okq (⟨"CornerstoneSoughtModel", "isRight", "(II)Z"⟩, 24) := ⟨⟨by decide +kernel, by decide +kernel⟩, List.mem_of_getElem? (i := 1004) (by decide +kernel), List.mem_of_getElem? (i := 1162) (by decide +kernel), List.mem_of_getElem? (i := 1163) (by decide +kernel)⟩
theorem lw_p40 : lw_okq (⟨"CornerstoneSoughtModel", "isHeld", "(II)Z"⟩, 24) := ⟨⟨by decide +kernel, by decide +kernel⟩, List.mem_of_getElem? (i := 1004) (by decide +kernel), List.mem_of_getElem? (i := 1166) (by decide +kernel), List.mem_of_getElem? (i := 1167) (by decide +kernel)⟩
theorem lw_p41 : lw_okq (⟨"CornerstoneSoughtModel", "isLight", "(I)Z"⟩, 24) := ⟨⟨by decide +kernel, by decide +kernel⟩, List.mem_of_getElem? (i := 1004) (by decide +kernel), List.mem_of_getElem? (i := 1170) (by decide +kernel), List.mem_of_getElem? (i := 1171) (by decide +kernel)⟩
theorem lw_p42 : lw_okq (⟨"CornerstoneSoughtModel", "isClinging", "(II)Z"⟩, 24) := ⟨⟨by decide +kernel, by decide +kernel⟩, List.mem_of_getElem? (i := 1004) (by decide +kernel), List.mem_of_getElem? (i := 1174) (by decide +kernel), List.mem_of_getElem? (i := 1175) (by decide +kernel)⟩
theorem lw_p43 : lw_okq (⟨"CornerstoneSoughtModel", "bears", "(I)I"⟩, 24) := ⟨⟨by decide +kernel, by decide +kernel⟩, List.mem_of_getElem? (i := 1004) (by decide +kernel), List.mem_of_getElem? (i := 1178) (by decide +kernel), List.mem_of_getElem? (i := 1179) (by decide +kernel)⟩
theorem lw_p44 : lw_okq (⟨"CornerstoneSoughtModel", "leftWithout", "(II)I"⟩, 24) := ⟨⟨by decide +kernel, by decide +kernel⟩, List.mem_of_getElem? (i := 1004) (by decide +kernel), List.mem_of_getElem? (i := 1182) (by decide +kernel), List.mem_of_getElem? (i := 1183) (by decide +kernel)⟩
theorem lw_p45 : lw_okq (⟨"CornerstoneSoughtModel", "wrongStone", "(I)I"⟩, 24) := ⟨⟨by decide +kernel, by decide +kernel⟩, List.mem_of_getElem? (i := 1004) (by decide +kernel), List.mem_of_getElem? (i := 1190) (by decide +kernel), List.mem_of_getElem? (i := 1191) (by decide +kernel)⟩
theorem lw_p46 : lw_okq (⟨"CornerstoneSoughtModel", "noteOf", "(I)I"⟩, 24) := ⟨⟨by decide +kernel, by decide +kernel⟩, List.mem_of_getElem? (i := 1004) (by decide +kernel), List.mem_of_getElem? (i := 1194) (by decide +kernel), List.mem_of_getElem? (i := 1195) (by decide +kernel)⟩
theorem lw_p47 : lw_okq (⟨"CornerstoneSoughtModel", "wrongKept", "(I)I"⟩, 24) := ⟨⟨by decide +kernel, by decide +kernel⟩, List.mem_of_getElem? (i := 1004) (by decide +kernel), List.mem_of_getElem? (i := 1202) (by decide +kernel), List.mem_of_getElem? (i := 1203) (by decide +kernel)⟩
def lw_privs_3 : List (MethodName × Nat) := [(⟨"CornerstoneSoughtModel", "settled", "(I)I"⟩, 24), (⟨"CornerstoneSoughtModel", "loads", "(I)V"⟩, 24), (⟨"CornerstoneSoughtModel", "weight", "(I)I"⟩, 24), (⟨"CornerstoneSoughtModel", "figure", "(I)I"⟩, 24), (⟨"CornerstoneSoughtModel", "kind", "(I)I"⟩, 24), (⟨"CornerstoneSoughtModel", "isArch", "(I)Z"⟩, 24), (⟨"CornerstoneSoughtModel", "isLeft", "(II)Z"⟩, 24), (⟨"CornerstoneSoughtModel", "isRight", "(II)Z"⟩, 24), (⟨"CornerstoneSoughtModel", "isHeld", "(II)Z"⟩, 24), (⟨"CornerstoneSoughtModel", "isLight", "(I)Z"⟩, 24), (⟨"CornerstoneSoughtModel", "isClinging", "(II)Z"⟩, 24), (⟨"CornerstoneSoughtModel", "bears", "(I)I"⟩, 24), (⟨"CornerstoneSoughtModel", "leftWithout", "(II)I"⟩, 24), (⟨"CornerstoneSoughtModel", "wrongStone", "(I)I"⟩, 24), (⟨"CornerstoneSoughtModel", "noteOf", "(I)I"⟩, 24), (⟨"CornerstoneSoughtModel", "wrongKept", "(I)I"⟩, 24)]
theorem lw_r3 : ∀ q ∈ lw_privs_3, lw_okq q := List.forall_mem_cons.mpr ⟨lw_p32, List.forall_mem_cons.mpr ⟨lw_p33, List.forall_mem_cons.mpr ⟨lw_p34, List.forall_mem_cons.mpr ⟨lw_p35, List.forall_mem_cons.mpr ⟨lw_p36, List.forall_mem_cons.mpr ⟨lw_p37, List.forall_mem_cons.mpr ⟨lw_p38, List.forall_mem_cons.mpr ⟨lw_p39, List.forall_mem_cons.mpr ⟨lw_p40, List.forall_mem_cons.mpr ⟨lw_p41, List.forall_mem_cons.mpr ⟨lw_p42, List.forall_mem_cons.mpr ⟨lw_p43, List.forall_mem_cons.mpr ⟨lw_p44, List.forall_mem_cons.mpr ⟨lw_p45, List.forall_mem_cons.mpr ⟨lw_p46, List.forall_mem_cons.mpr ⟨lw_p47, fun _ h => absurd h List.not_mem_nil⟩⟩⟩⟩⟩⟩⟩⟩⟩⟩⟩⟩⟩⟩⟩⟩
theorem lw_p48 : lw_okq (⟨"CornerstoneSoughtModel", "safeOf", "(I)I"⟩, 24) := ⟨⟨by decide +kernel, by decide +kernel⟩, List.mem_of_getElem? (i := 1004) (by decide +kernel), List.mem_of_getElem? (i := 1225) (by decide +kernel), List.mem_of_getElem? (i := 1226) (by decide +kernel)⟩
theorem lw_p49 : lw_okq (⟨"CornerstoneSoughtModel", "fallsOf", "(II)I"⟩, 24) := ⟨⟨by decide +kernel, by decide +kernel⟩, List.mem_of_getElem? (i := 1004) (by decide +kernel), List.mem_of_getElem? (i := 1229) (by decide +kernel), List.mem_of_getElem? (i := 1230) (by decide +kernel)⟩
theorem lw_p50 : lw_okq (⟨"CornerstoneSoughtModel", "finds", "(Z)V"⟩, 24) := ⟨⟨by decide +kernel, by decide +kernel⟩, List.mem_of_getElem? (i := 1004) (by decide +kernel), List.mem_of_getElem? (i := 1253) (by decide +kernel), List.mem_of_getElem? (i := 1254) (by decide +kernel)⟩
theorem lw_p51 : lw_okq (⟨"CornerstoneSoughtModel", "firstTo", "(Z)I"⟩, 24) := ⟨⟨by decide +kernel, by decide +kernel⟩, List.mem_of_getElem? (i := 1004) (by decide +kernel), List.mem_of_getElem? (i := 1260) (by decide +kernel), List.mem_of_getElem? (i := 1261) (by decide +kernel)⟩
theorem lw_p52 : lw_okq (⟨"CornerstoneSoughtModel", "wrongPairs", "(I)I"⟩, 24) := ⟨⟨by decide +kernel, by decide +kernel⟩, List.mem_of_getElem? (i := 1004) (by decide +kernel), List.mem_of_getElem? (i := 1287) (by decide +kernel), List.mem_of_getElem? (i := 1288) (by decide +kernel)⟩
theorem lw_p53 : lw_okq (⟨"CornerstoneSoughtModel", "whichOf", "(I)I"⟩, 24) := ⟨⟨by decide +kernel, by decide +kernel⟩, List.mem_of_getElem? (i := 1004) (by decide +kernel), List.mem_of_getElem? (i := 1291) (by decide +kernel), List.mem_of_getElem? (i := 1292) (by decide +kernel)⟩
theorem lw_p54 : lw_okq (⟨"CornerstoneSoughtModel", "noteWithout", "(II)I"⟩, 24) := ⟨⟨by decide +kernel, by decide +kernel⟩, List.mem_of_getElem? (i := 1004) (by decide +kernel), List.mem_of_getElem? (i := 1295) (by decide +kernel), List.mem_of_getElem? (i := 1296) (by decide +kernel)⟩
theorem lw_p55 : lw_okq (⟨"CornerstoneSoughtModel", "kindsBy", "(II)I"⟩, 24) := ⟨⟨by decide +kernel, by decide +kernel⟩, List.mem_of_getElem? (i := 1004) (by decide +kernel), List.mem_of_getElem? (i := 1303) (by decide +kernel), List.mem_of_getElem? (i := 1304) (by decide +kernel)⟩
theorem lw_p56 : lw_okq (⟨"CornerstoneSoughtModel", "columnOf", "(I)I"⟩, 24) := ⟨⟨by decide +kernel, by decide +kernel⟩, List.mem_of_getElem? (i := 1004) (by decide +kernel), List.mem_of_getElem? (i := 1320) (by decide +kernel), List.mem_of_getElem? (i := 1321) (by decide +kernel)⟩
theorem lw_p57 : lw_okq (⟨"CornerstoneSoughtModel", "wrongTins", "(I)I"⟩, 24) := ⟨⟨by decide +kernel, by decide +kernel⟩, List.mem_of_getElem? (i := 1004) (by decide +kernel), List.mem_of_getElem? (i := 1328) (by decide +kernel), List.mem_of_getElem? (i := 1329) (by decide +kernel)⟩
theorem lw_p58 : lw_okq (⟨"CornerstoneSoughtModel", "goesThrough", "(I)V"⟩, 24) := ⟨⟨by decide +kernel, by decide +kernel⟩, List.mem_of_getElem? (i := 1004) (by decide +kernel), List.mem_of_getElem? (i := 1332) (by decide +kernel), List.mem_of_getElem? (i := 1333) (by decide +kernel)⟩
theorem lw_p59 : lw_okq (⟨"CornerstoneSoughtModel", "takesAll", "(IIII)V"⟩, 24) := ⟨⟨by decide +kernel, by decide +kernel⟩, List.mem_of_getElem? (i := 1004) (by decide +kernel), List.mem_of_getElem? (i := 1336) (by decide +kernel), List.mem_of_getElem? (i := 1337) (by decide +kernel)⟩
theorem lw_p60 : lw_okq (⟨"CornerstoneSoughtModel", "drawn", "(I)I"⟩, 24) := ⟨⟨by decide +kernel, by decide +kernel⟩, List.mem_of_getElem? (i := 1004) (by decide +kernel), List.mem_of_getElem? (i := 1352) (by decide +kernel), List.mem_of_getElem? (i := 1353) (by decide +kernel)⟩
def lw_privs_4 : List (MethodName × Nat) := [(⟨"CornerstoneSoughtModel", "safeOf", "(I)I"⟩, 24), (⟨"CornerstoneSoughtModel", "fallsOf", "(II)I"⟩, 24), (⟨"CornerstoneSoughtModel", "finds", "(Z)V"⟩, 24), (⟨"CornerstoneSoughtModel", "firstTo", "(Z)I"⟩, 24), (⟨"CornerstoneSoughtModel", "wrongPairs", "(I)I"⟩, 24), (⟨"CornerstoneSoughtModel", "whichOf", "(I)I"⟩, 24), (⟨"CornerstoneSoughtModel", "noteWithout", "(II)I"⟩, 24), (⟨"CornerstoneSoughtModel", "kindsBy", "(II)I"⟩, 24), (⟨"CornerstoneSoughtModel", "columnOf", "(I)I"⟩, 24), (⟨"CornerstoneSoughtModel", "wrongTins", "(I)I"⟩, 24), (⟨"CornerstoneSoughtModel", "goesThrough", "(I)V"⟩, 24), (⟨"CornerstoneSoughtModel", "takesAll", "(IIII)V"⟩, 24), (⟨"CornerstoneSoughtModel", "drawn", "(I)I"⟩, 24)]
theorem lw_r4 : ∀ q ∈ lw_privs_4, lw_okq q := List.forall_mem_cons.mpr ⟨lw_p48, List.forall_mem_cons.mpr ⟨lw_p49, List.forall_mem_cons.mpr ⟨lw_p50, List.forall_mem_cons.mpr ⟨lw_p51, List.forall_mem_cons.mpr ⟨lw_p52, List.forall_mem_cons.mpr ⟨lw_p53, List.forall_mem_cons.mpr ⟨lw_p54, List.forall_mem_cons.mpr ⟨lw_p55, List.forall_mem_cons.mpr ⟨lw_p56, List.forall_mem_cons.mpr ⟨lw_p57, List.forall_mem_cons.mpr ⟨lw_p58, List.forall_mem_cons.mpr ⟨lw_p59, List.forall_mem_cons.mpr ⟨lw_p60, fun _ h => absurd h List.not_mem_nil⟩⟩⟩⟩⟩⟩⟩⟩⟩⟩⟩⟩⟩
def lw_privs : List (MethodName × Nat) := lw_privs_1 ++ (lw_privs_2 ++ (lw_privs_3 ++ (lw_privs_4)))
def lw_tbl : List Cond := k2_sels lw_privs ++ tables_1
theorem lw_privs_ok : ∀ q ∈ lw_privs, lw_okq q := by
  show ∀ q ∈ lw_privs_1 ++ (lw_privs_2 ++ (lw_privs_3 ++ (lw_privs_4))), lw_okq q
  exact List.forall_mem_append.mpr ⟨lw_r1, List.forall_mem_append.mpr ⟨lw_r2, List.forall_mem_append.mpr ⟨lw_r3, lw_r4⟩⟩⟩
end
section
def RX0 : String := "CornerstoneSought$Arch"
def TX0 : u_T := fun k => match k with
  | _ => ("", "", "", false)
def tyX0 : Nat → FieldType := fun k => match k with
  | _ => .int
abbrev wsX00 : List Cond := u_ws RX0 TX0 0
theorem nmX0 : ∀ a, a < 0 → ∀ b, b < 0 → a ≠ b → (TX0 a).2.1 ≠ (TX0 b).2.1 := by decide +kernel
theorem tyX0_ok : ∀ k, k < 0 → parseFieldDescriptor (TX0 k).2.2.1 = some (tyX0 k) := by decide +kernel
abbrev cX0_init : ByteArray := prog_2_method_1_code
def yX0_init : MethodName := ⟨RX0, "<init>", "()V"⟩
abbrev cX0_weight : ByteArray := prog_2_method_2_code
def yX0_weight : MethodName := ⟨RX0, "weight", "(I)I"⟩
abbrev cX0_bears : ByteArray := prog_2_method_3_code
def yX0_bears : MethodName := ⟨RX0, "bears", "(I)I"⟩
abbrev cX0_price : ByteArray := prog_2_method_4_code
def yX0_price : MethodName := ⟨RX0, "price", "(I)I"⟩
abbrev cX0_manner : ByteArray := prog_2_method_5_code
def yX0_manner : MethodName := ⟨RX0, "manner", "()I"⟩
def RX1 : String := "CornerstoneSought$Beam"
def TX1 : u_T := fun k => match k with
  | _ => ("", "", "", false)
def tyX1 : Nat → FieldType := fun k => match k with
  | _ => .int
abbrev wsX10 : List Cond := u_ws RX1 TX1 0
theorem nmX1 : ∀ a, a < 0 → ∀ b, b < 0 → a ≠ b → (TX1 a).2.1 ≠ (TX1 b).2.1 := by decide +kernel
theorem tyX1_ok : ∀ k, k < 0 → parseFieldDescriptor (TX1 k).2.2.1 = some (tyX1 k) := by decide +kernel
abbrev cX1_init : ByteArray := prog_3_method_1_code
def yX1_init : MethodName := ⟨RX1, "<init>", "()V"⟩
abbrev cX1_weight : ByteArray := prog_3_method_2_code
def yX1_weight : MethodName := ⟨RX1, "weight", "(I)I"⟩
abbrev cX1_bears : ByteArray := prog_3_method_3_code
def yX1_bears : MethodName := ⟨RX1, "bears", "(I)I"⟩
abbrev cX1_price : ByteArray := prog_3_method_4_code
def yX1_price : MethodName := ⟨RX1, "price", "(I)I"⟩
abbrev cX1_manner : ByteArray := prog_3_method_5_code
def yX1_manner : MethodName := ⟨RX1, "manner", "()I"⟩
def RX2 : String := "CornerstoneSought$Corner"
def TX2 : u_T := fun k => match k with
  | _ => ("", "", "", false)
def tyX2 : Nat → FieldType := fun k => match k with
  | _ => .int
abbrev wsX20 : List Cond := u_ws RX2 TX2 0
theorem nmX2 : ∀ a, a < 0 → ∀ b, b < 0 → a ≠ b → (TX2 a).2.1 ≠ (TX2 b).2.1 := by decide +kernel
theorem tyX2_ok : ∀ k, k < 0 → parseFieldDescriptor (TX2 k).2.2.1 = some (tyX2 k) := by decide +kernel
abbrev cX2_init : ByteArray := prog_4_method_1_code
def yX2_init : MethodName := ⟨RX2, "<init>", "()V"⟩
abbrev cX2_weight : ByteArray := prog_4_method_2_code
def yX2_weight : MethodName := ⟨RX2, "weight", "(I)I"⟩
abbrev cX2_bears : ByteArray := prog_4_method_3_code
def yX2_bears : MethodName := ⟨RX2, "bears", "(I)I"⟩
abbrev cX2_price : ByteArray := prog_4_method_4_code
def yX2_price : MethodName := ⟨RX2, "price", "(I)I"⟩
abbrev cX2_fail : ByteArray := prog_4_method_5_code
def yX2_fail : MethodName := ⟨RX2, "fail", "(I)V"⟩
def RX3 : String := "CornerstoneSought$Foresight"
def TX3 : u_T := fun k => match k with
  | 0 => ("CornerstoneSought$Foresight", "hall", "LCornerstoneSought$Hall;", true)
  | 1 => ("CornerstoneSought$Foresight", "settled", "[I", true)
  | 2 => ("CornerstoneSought$Foresight", "worth", "[I", true)
  | 3 => ("CornerstoneSought$Foresight", "heard", "[J", true)
  | 4 => ("CornerstoneSought$Foresight", "odds", "[J", true)
  | _ => ("CornerstoneSought$Foresight", "seen", "I", false)
def tyX3 : Nat → FieldType := fun k => match k with
  | 0 => .object "CornerstoneSought$Hall"
  | 1 => .array .int
  | 2 => .array .int
  | 3 => .array .long
  | 4 => .array .long
  | _ => .int
abbrev wsX30 : List Cond := u_ws RX3 TX3 6
theorem nmX3 : ∀ a, a < 6 → ∀ b, b < 6 → a ≠ b → (TX3 a).2.1 ≠ (TX3 b).2.1 := by decide +kernel
theorem tyX3_ok : ∀ k, k < 6 → parseFieldDescriptor (TX3 k).2.2.1 = some (tyX3 k) := by decide +kernel
abbrev cX3_init : ByteArray := prog_5_method_1_code
def yX3_init : MethodName := ⟨RX3, "<init>", "()V"⟩
abbrev cX3_leftOf : ByteArray := prog_5_method_2_code
def yX3_leftOf : MethodName := ⟨RX3, "leftOf", "(I)I"⟩
abbrev cX3_fallenWithout : ByteArray := prog_5_method_3_code
def yX3_fallenWithout : MethodName := ⟨RX3, "fallenWithout", "(I)I"⟩
abbrev cX3_countWithout : ByteArray := prog_5_method_4_code
def yX3_countWithout : MethodName := ⟨RX3, "countWithout", "(I)I"⟩
abbrev cX3_isSafeIn : ByteArray := prog_5_method_5_code
def yX3_isSafeIn : MethodName := ⟨RX3, "isSafeIn", "(II)Z"⟩
abbrev cX3_cornerstones : ByteArray := prog_5_method_6_code
def yX3_cornerstones : MethodName := ⟨RX3, "cornerstones", "()I"⟩
abbrev cX3_safeOnes : ByteArray := prog_5_method_7_code
def yX3_safeOnes : MethodName := ⟨RX3, "safeOnes", "()I"⟩
abbrev cX3_worstPlace : ByteArray := prog_5_method_8_code
def yX3_worstPlace : MethodName := ⟨RX3, "worstPlace", "()I"⟩
abbrev cX3_pairsThatFell : ByteArray := prog_5_method_9_code
def yX3_pairsThatFell : MethodName := ⟨RX3, "pairsThatFell", "(IZ)I"⟩
abbrev cX3_nextChoice : ByteArray := prog_5_method_10_code
def yX3_nextChoice : MethodName := ⟨RX3, "nextChoice", "(I)I"⟩
abbrev cX3_fewestToFell : ByteArray := prog_5_method_11_code
def yX3_fewestToFell : MethodName := ⟨RX3, "fewestToFell", "(I)I"⟩
abbrev cX3_fewestToLevel : ByteArray := prog_5_method_12_code
def yX3_fewestToLevel : MethodName := ⟨RX3, "fewestToLevel", "()I"⟩
abbrev cX3_longestRun : ByteArray := prog_5_method_13_code
def yX3_longestRun : MethodName := ⟨RX3, "longestRun", "()I"⟩
abbrev cX3_firstOfLongest : ByteArray := prog_5_method_14_code
def yX3_firstOfLongest : MethodName := ⟨RX3, "firstOfLongest", "()I"⟩
abbrev cX3_runFrom : ByteArray := prog_5_method_15_code
def yX3_runFrom : MethodName := ⟨RX3, "runFrom", "(II)I"⟩
abbrev cX3_winningPlace : ByteArray := prog_5_method_16_code
def yX3_winningPlace : MethodName := ⟨RX3, "winningPlace", "()I"⟩
abbrev cX3_winningPlaceIn : ByteArray := prog_5_method_17_code
def yX3_winningPlaceIn : MethodName := ⟨RX3, "winningPlaceIn", "(II)I"⟩
abbrev cX3_bombedWaysLeaving : ByteArray := prog_5_method_18_code
def yX3_bombedWaysLeaving : MethodName := ⟨RX3, "bombedWaysLeaving", "(II)J"⟩
abbrev cX3_suspectsBy : ByteArray := prog_5_method_19_code
def yX3_suspectsBy : MethodName := ⟨RX3, "suspectsBy", "(LCornerstoneSought$Shelf;)I"⟩
abbrev cX3_soundsAs : ByteArray := prog_5_method_20_code
def yX3_soundsAs : MethodName := ⟨RX3, "soundsAs", "(ILCornerstoneSought$Shelf;)Z"⟩
abbrev cX3_noteIn : ByteArray := prog_5_method_21_code
def yX3_noteIn : MethodName := ⟨RX3, "noteIn", "(II)I"⟩
abbrev cX3_bestTap : ByteArray := prog_5_method_22_code
def yX3_bestTap : MethodName := ⟨RX3, "bestTap", "(I)I"⟩
abbrev cX3_hearAll : ByteArray := prog_5_method_23_code
def yX3_hearAll : MethodName := ⟨RX3, "hearAll", "(I)V"⟩
abbrev cX3_fewestProps : ByteArray := prog_5_method_24_code
def yX3_fewestProps : MethodName := ⟨RX3, "fewestProps", "()I"⟩
abbrev cX3_areSafe : ByteArray := prog_5_method_25_code
def yX3_areSafe : MethodName := ⟨RX3, "areSafe", "(II)Z"⟩
abbrev cX3_waysTold : ByteArray := prog_5_method_26_code
def yX3_waysTold : MethodName := ⟨RX3, "waysTold", "(LCornerstoneSought$Shelf;)I"⟩
abbrev cX3_firstOfWays : ByteArray := prog_5_method_27_code
def yX3_firstOfWays : MethodName := ⟨RX3, "firstOfWays", "(LCornerstoneSought$Shelf;)I"⟩
abbrev cX3_waysFrom : ByteArray := prog_5_method_28_code
def yX3_waysFrom : MethodName := ⟨RX3, "waysFrom", "(ILCornerstoneSought$Shelf;I)I"⟩
abbrev cX3_isTold : ByteArray := prog_5_method_29_code
def yX3_isTold : MethodName := ⟨RX3, "isTold", "(III)Z"⟩
abbrev cX3_firstForged : ByteArray := prog_5_method_30_code
def yX3_firstForged : MethodName := ⟨RX3, "firstForged", "(LCornerstoneSought$Shelf;)I"⟩
abbrev cX3_believedFrom : ByteArray := prog_5_method_31_code
def yX3_believedFrom : MethodName := ⟨RX3, "believedFrom", "(ILCornerstoneSought$Shelf;I)I"⟩
abbrev cX3_firstBadTaking : ByteArray := prog_5_method_32_code
def yX3_firstBadTaking : MethodName := ⟨RX3, "firstBadTaking", "(LCornerstoneSought$Shelf;)I"⟩
abbrev cX3_sumOfRaids : ByteArray := prog_5_method_33_code
def yX3_sumOfRaids : MethodName := ⟨RX3, "sumOfRaids", "(IIZ)I"⟩
abbrev cX3_drawn : ByteArray := prog_5_method_34_code
def yX3_drawn : MethodName := ⟨RX3, "drawn", "(I)I"⟩
abbrev cX3_placeOf : ByteArray := prog_5_method_35_code
def yX3_placeOf : MethodName := ⟨RX3, "placeOf", "(I)I"⟩
abbrev cX3_fewestTakings : ByteArray := prog_5_method_36_code
def yX3_fewestTakings : MethodName := ⟨RX3, "fewestTakings", "(I)I"⟩
abbrev cX3_spreadTakings : ByteArray := prog_5_method_37_code
def yX3_spreadTakings : MethodName := ⟨RX3, "spreadTakings", "(I)V"⟩
abbrev cX3_twinPairs : ByteArray := prog_5_method_38_code
def yX3_twinPairs : MethodName := ⟨RX3, "twinPairs", "()I"⟩
abbrev cX3_areTwins : ByteArray := prog_5_method_39_code
def yX3_areTwins : MethodName := ⟨RX3, "areTwins", "(II)Z"⟩
abbrev cX3_supportsOf : ByteArray := prog_5_method_40_code
def yX3_supportsOf : MethodName := ⟨RX3, "supportsOf", "(I)I"⟩
def RX4 : String := "CornerstoneSought$Hall"
def TX4 : u_T := fun k => match k with
  | 0 => ("CornerstoneSought$Hall", "kinds", "[I", true)
  | 1 => ("CornerstoneSought$Hall", "figures", "[I", true)
  | 2 => ("CornerstoneSought$Hall", "weights", "[I", true)
  | 3 => ("CornerstoneSought$Hall", "bears", "[I", true)
  | 4 => ("CornerstoneSought$Hall", "manners", "[I", true)
  | 5 => ("CornerstoneSought$Hall", "loads", "[I", true)
  | 6 => ("CornerstoneSought$Hall", "stones", "I", false)
  | 7 => ("CornerstoneSought$Hall", "propped", "I", false)
  | 8 => ("CornerstoneSought$Hall", "firm", "I", false)
  | _ => ("CornerstoneSought$Hall", "changes", "I", false)
def tyX4 : Nat → FieldType := fun k => match k with
  | 0 => .array .int
  | 1 => .array .int
  | 2 => .array .int
  | 3 => .array .int
  | 4 => .array .int
  | 5 => .array .int
  | 6 => .int
  | 7 => .int
  | 8 => .int
  | _ => .int
abbrev wsX40 : List Cond := u_ws RX4 TX4 10
theorem nmX4 : ∀ a, a < 10 → ∀ b, b < 10 → a ≠ b → (TX4 a).2.1 ≠ (TX4 b).2.1 := by decide +kernel
theorem tyX4_ok : ∀ k, k < 10 → parseFieldDescriptor (TX4 k).2.2.1 = some (tyX4 k) := by decide +kernel
abbrev cX4_init : ByteArray := prog_6_method_1_code
def yX4_init : MethodName := ⟨RX4, "<init>", "()V"⟩
abbrev cX4_holds : ByteArray := prog_6_method_2_code
def yX4_holds : MethodName := ⟨RX4, "holds", "(I)Z"⟩
abbrev cX4_has : ByteArray := prog_6_method_3_code
def yX4_has : MethodName := ⟨RX4, "has", "(II)Z"⟩
abbrev cX4_becomeAs : ByteArray := prog_6_method_4_code
def yX4_becomeAs : MethodName := ⟨RX4, "becomeAs", "(LCornerstoneSought$Hall;)V"⟩
abbrev cX4_lay : ByteArray := prog_6_method_5_code
def yX4_lay : MethodName := ⟨RX4, "lay", "(IIILCornerstoneSought$Stone;)I"⟩
abbrev cX4_takeOut : ByteArray := prog_6_method_6_code
def yX4_takeOut : MethodName := ⟨RX4, "takeOut", "(I)I"⟩
abbrev cX4_turnProp : ByteArray := prog_6_method_7_code
def yX4_turnProp : MethodName := ⟨RX4, "turnProp", "(I)I"⟩
abbrev cX4_settle : ByteArray := prog_6_method_8_code
def yX4_settle : MethodName := ⟨RX4, "settle", "()I"⟩
abbrev cX4_leftOf : ByteArray := prog_6_method_9_code
def yX4_leftOf : MethodName := ⟨RX4, "leftOf", "(I)I"⟩
abbrev cX4_stepsFrom : ByteArray := prog_6_method_10_code
def yX4_stepsFrom : MethodName := ⟨RX4, "stepsFrom", "(I)I"⟩
abbrev cX4_looseIn : ByteArray := prog_6_method_11_code
def yX4_looseIn : MethodName := ⟨RX4, "looseIn", "(II)I"⟩
abbrev cX4_restsIn : ByteArray := prog_6_method_12_code
def yX4_restsIn : MethodName := ⟨RX4, "restsIn", "(II)Z"⟩
abbrev cX4_weighAll : ByteArray := prog_6_method_13_code
def yX4_weighAll : MethodName := ⟨RX4, "weighAll", "()V"⟩
abbrev cX4_weighIn : ByteArray := prog_6_method_14_code
def yX4_weighIn : MethodName := ⟨RX4, "weighIn", "(I)V"⟩
abbrev cX4_noteAt : ByteArray := prog_6_method_15_code
def yX4_noteAt : MethodName := ⟨RX4, "noteAt", "(I)I"⟩
abbrev cX4_heaviestLaden : ByteArray := prog_6_method_16_code
def yX4_heaviestLaden : MethodName := ⟨RX4, "heaviestLaden", "()I"⟩
abbrev cX4_allLoads : ByteArray := prog_6_method_17_code
def yX4_allLoads : MethodName := ⟨RX4, "allLoads", "()I"⟩
abbrev cX4_weightOf : ByteArray := prog_6_method_18_code
def yX4_weightOf : MethodName := ⟨RX4, "weightOf", "(I)I"⟩
abbrev cX4_columnWeight : ByteArray := prog_6_method_19_code
def yX4_columnWeight : MethodName := ⟨RX4, "columnWeight", "(I)I"⟩
abbrev cX4_leftOverRight : ByteArray := prog_6_method_20_code
def yX4_leftOverRight : MethodName := ⟨RX4, "leftOverRight", "()I"⟩
abbrev cX4_heaviestColumn : ByteArray := prog_6_method_21_code
def yX4_heaviestColumn : MethodName := ⟨RX4, "heaviestColumn", "()I"⟩
abbrev cX4_highestRow : ByteArray := prog_6_method_22_code
def yX4_highestRow : MethodName := ⟨RX4, "highestRow", "()I"⟩
abbrev cX4_inHighestRow : ByteArray := prog_6_method_23_code
def yX4_inHighestRow : MethodName := ⟨RX4, "inHighestRow", "()I"⟩
def RX5 : String := "CornerstoneSought$Key"
def TX5 : u_T := fun k => match k with
  | _ => ("", "", "", false)
def tyX5 : Nat → FieldType := fun k => match k with
  | _ => .int
abbrev wsX50 : List Cond := u_ws RX5 TX5 0
theorem nmX5 : ∀ a, a < 0 → ∀ b, b < 0 → a ≠ b → (TX5 a).2.1 ≠ (TX5 b).2.1 := by decide +kernel
theorem tyX5_ok : ∀ k, k < 0 → parseFieldDescriptor (TX5 k).2.2.1 = some (tyX5 k) := by decide +kernel
abbrev cX5_init : ByteArray := prog_7_method_1_code
def yX5_init : MethodName := ⟨RX5, "<init>", "()V"⟩
abbrev cX5_weight : ByteArray := prog_7_method_2_code
def yX5_weight : MethodName := ⟨RX5, "weight", "(I)I"⟩
abbrev cX5_bears : ByteArray := prog_7_method_3_code
def yX5_bears : MethodName := ⟨RX5, "bears", "(I)I"⟩
abbrev cX5_price : ByteArray := prog_7_method_4_code
def yX5_price : MethodName := ⟨RX5, "price", "(I)I"⟩
def RX6 : String := "CornerstoneSought$Mouse"
def TX6 : u_T := fun k => match k with
  | _ => ("", "", "", false)
def tyX6 : Nat → FieldType := fun k => match k with
  | _ => .int
abbrev wsX60 : List Cond := u_ws RX6 TX6 0
theorem nmX6 : ∀ a, a < 0 → ∀ b, b < 0 → a ≠ b → (TX6 a).2.1 ≠ (TX6 b).2.1 := by decide +kernel
theorem tyX6_ok : ∀ k, k < 0 → parseFieldDescriptor (TX6 k).2.2.1 = some (tyX6 k) := by decide +kernel
abbrev cX6_init : ByteArray := prog_8_method_1_code
def yX6_init : MethodName := ⟨RX6, "<init>", "()V"⟩
abbrev cX6_weight : ByteArray := prog_8_method_2_code
def yX6_weight : MethodName := ⟨RX6, "weight", "(I)I"⟩
abbrev cX6_bears : ByteArray := prog_8_method_3_code
def yX6_bears : MethodName := ⟨RX6, "bears", "(I)I"⟩
def RX7 : String := "CornerstoneSought$Plaster"
def TX7 : u_T := fun k => match k with
  | _ => ("", "", "", false)
def tyX7 : Nat → FieldType := fun k => match k with
  | _ => .int
abbrev wsX70 : List Cond := u_ws RX7 TX7 0
theorem nmX7 : ∀ a, a < 0 → ∀ b, b < 0 → a ≠ b → (TX7 a).2.1 ≠ (TX7 b).2.1 := by decide +kernel
theorem tyX7_ok : ∀ k, k < 0 → parseFieldDescriptor (TX7 k).2.2.1 = some (tyX7 k) := by decide +kernel
abbrev cX7_init : ByteArray := prog_9_method_1_code
def yX7_init : MethodName := ⟨RX7, "<init>", "()V"⟩
abbrev cX7_weight : ByteArray := prog_9_method_2_code
def yX7_weight : MethodName := ⟨RX7, "weight", "(I)I"⟩
abbrev cX7_bears : ByteArray := prog_9_method_3_code
def yX7_bears : MethodName := ⟨RX7, "bears", "(I)I"⟩
abbrev cX7_price : ByteArray := prog_9_method_4_code
def yX7_price : MethodName := ⟨RX7, "price", "(I)I"⟩
abbrev cX7_manner : ByteArray := prog_9_method_5_code
def yX7_manner : MethodName := ⟨RX7, "manner", "()I"⟩
abbrev cX7_fail : ByteArray := prog_9_method_6_code
def yX7_fail : MethodName := ⟨RX7, "fail", "(I)V"⟩
def RX8 : String := "CornerstoneSought$Shelf"
def TX8 : u_T := fun k => match k with
  | 0 => ("CornerstoneSought$Shelf", "holding", "I", false)
  | 1 => ("CornerstoneSought$Shelf", "kind", "I", false)
  | 2 => ("CornerstoneSought$Shelf", "figure", "I", false)
  | 3 => ("CornerstoneSought$Shelf", "sort", "I", false)
  | 4 => ("CornerstoneSought$Shelf", "size", "I", false)
  | _ => ("CornerstoneSought$Shelf", "elements", "[I", true)
def tyX8 : Nat → FieldType := fun k => match k with
  | 0 => .int
  | 1 => .int
  | 2 => .int
  | 3 => .int
  | 4 => .int
  | _ => .array .int
abbrev wsX80 : List Cond := u_ws RX8 TX8 6
theorem nmX8 : ∀ a, a < 6 → ∀ b, b < 6 → a ≠ b → (TX8 a).2.1 ≠ (TX8 b).2.1 := by decide +kernel
theorem tyX8_ok : ∀ k, k < 6 → parseFieldDescriptor (TX8 k).2.2.1 = some (tyX8 k) := by decide +kernel
abbrev cX8_init : ByteArray := prog_10_method_1_code
def yX8_init : MethodName := ⟨RX8, "<init>", "()V"⟩
abbrev cX8_clear : ByteArray := prog_10_method_2_code
def yX8_clear : MethodName := ⟨RX8, "clear", "()V"⟩
abbrev cX8_holdKind : ByteArray := prog_10_method_3_code
def yX8_holdKind : MethodName := ⟨RX8, "holdKind", "(II)V"⟩
abbrev cX8_holdRow : ByteArray := prog_10_method_4_code
def yX8_holdRow : MethodName := ⟨RX8, "holdRow", "(II)V"⟩
abbrev cX8_isEmpty : ByteArray := prog_10_method_5_code
def yX8_isEmpty : MethodName := ⟨RX8, "isEmpty", "()Z"⟩
abbrev cX8_isRow : ByteArray := prog_10_method_6_code
def yX8_isRow : MethodName := ⟨RX8, "isRow", "()Z"⟩
abbrev cX8_hasPlace : ByteArray := prog_10_method_7_code
def yX8_hasPlace : MethodName := ⟨RX8, "hasPlace", "(I)Z"⟩
abbrev cX8_hasSpan : ByteArray := prog_10_method_8_code
def yX8_hasSpan : MethodName := ⟨RX8, "hasSpan", "(II)Z"⟩
abbrev cX8_at : ByteArray := prog_10_method_9_code
def yX8_at : MethodName := ⟨RX8, "at", "(I)I"⟩
abbrev cX8_write : ByteArray := prog_10_method_10_code
def yX8_write : MethodName := ⟨RX8, "write", "(II)V"⟩
def RX9 : String := "CornerstoneSought$Step"
def TX9 : u_T := fun k => match k with
  | _ => ("", "", "", false)
def tyX9 : Nat → FieldType := fun k => match k with
  | _ => .int
abbrev wsX90 : List Cond := u_ws RX9 TX9 0
theorem nmX9 : ∀ a, a < 0 → ∀ b, b < 0 → a ≠ b → (TX9 a).2.1 ≠ (TX9 b).2.1 := by decide +kernel
theorem tyX9_ok : ∀ k, k < 0 → parseFieldDescriptor (TX9 k).2.2.1 = some (tyX9 k) := by decide +kernel
abbrev cX9_init : ByteArray := prog_11_method_1_code
def yX9_init : MethodName := ⟨RX9, "<init>", "()V"⟩
abbrev cX9_bears : ByteArray := prog_11_method_2_code
def yX9_bears : MethodName := ⟨RX9, "bears", "(I)I"⟩
abbrev cX9_price : ByteArray := prog_11_method_3_code
def yX9_price : MethodName := ⟨RX9, "price", "(I)I"⟩
abbrev cX9_fail : ByteArray := prog_11_method_4_code
def yX9_fail : MethodName := ⟨RX9, "fail", "(I)V"⟩
def RX10 : String := "CornerstoneSought$Stone"
def TX10 : u_T := fun k => match k with
  | _ => ("", "", "", false)
def tyX10 : Nat → FieldType := fun k => match k with
  | _ => .int
abbrev wsX100 : List Cond := u_ws RX10 TX10 0
theorem nmX10 : ∀ a, a < 0 → ∀ b, b < 0 → a ≠ b → (TX10 a).2.1 ≠ (TX10 b).2.1 := by decide +kernel
theorem tyX10_ok : ∀ k, k < 0 → parseFieldDescriptor (TX10 k).2.2.1 = some (tyX10 k) := by decide +kernel
abbrev cX10_init : ByteArray := prog_12_method_1_code
def yX10_init : MethodName := ⟨RX10, "<init>", "()V"⟩
abbrev cX10_weight : ByteArray := prog_12_method_2_code
def yX10_weight : MethodName := ⟨RX10, "weight", "(I)I"⟩
abbrev cX10_bears : ByteArray := prog_12_method_3_code
def yX10_bears : MethodName := ⟨RX10, "bears", "(I)I"⟩
abbrev cX10_price : ByteArray := prog_12_method_4_code
def yX10_price : MethodName := ⟨RX10, "price", "(I)I"⟩
abbrev cX10_manner : ByteArray := prog_12_method_5_code
def yX10_manner : MethodName := ⟨RX10, "manner", "()I"⟩
abbrev cX10_fail : ByteArray := prog_12_method_6_code
def yX10_fail : MethodName := ⟨RX10, "fail", "(I)V"⟩
def RX11 : String := "CornerstoneSought"
def TX11 : u_T := fun k => match k with
  | 0 => ("CornerstoneSought", "kinds", "[LCornerstoneSought$Stone;", true)
  | 1 => ("CornerstoneSought", "mind", "LCornerstoneSought$Foresight;", true)
  | 2 => ("CornerstoneSought", "now", "LCornerstoneSought$Hall;", true)
  | 3 => ("CornerstoneSought", "imaged", "LCornerstoneSought$Hall;", true)
  | 4 => ("CornerstoneSought", "before", "LCornerstoneSought$Hall;", true)
  | 5 => ("CornerstoneSought", "shelves", "[LCornerstoneSought$Shelf;", true)
  | _ => ("CornerstoneSought", "hasImage", "Z", false)
def tyX11 : Nat → FieldType := fun k => match k with
  | 0 => .array (.object "CornerstoneSought$Stone")
  | 1 => .object "CornerstoneSought$Foresight"
  | 2 => .object "CornerstoneSought$Hall"
  | 3 => .object "CornerstoneSought$Hall"
  | 4 => .object "CornerstoneSought$Hall"
  | 5 => .array (.object "CornerstoneSought$Shelf")
  | _ => .boolean
abbrev wsX110 : List Cond := u_ws RX11 TX11 7
theorem nmX11 : ∀ a, a < 7 → ∀ b, b < 7 → a ≠ b → (TX11 a).2.1 ≠ (TX11 b).2.1 := by decide +kernel
theorem tyX11_ok : ∀ k, k < 7 → parseFieldDescriptor (TX11 k).2.2.1 = some (tyX11 k) := by decide +kernel
abbrev cX11_init : ByteArray := prog_1_method_1_code
def yX11_init : MethodName := ⟨RX11, "<init>", "()V"⟩
abbrev cX11_hall : ByteArray := prog_1_method_2_code
def yX11_hall : MethodName := ⟨RX11, "hall", "(I)I"⟩
abbrev cX11_stone : ByteArray := prog_1_method_3_code
def yX11_stone : MethodName := ⟨RX11, "stone", "(II)I"⟩
abbrev cX11_lays : ByteArray := prog_1_method_4_code
def yX11_lays : MethodName := ⟨RX11, "lays", "(II)I"⟩
abbrev cX11_takes : ByteArray := prog_1_method_5_code
def yX11_takes : MethodName := ⟨RX11, "takes", "(I)I"⟩
abbrev cX11_props : ByteArray := prog_1_method_6_code
def yX11_props : MethodName := ⟨RX11, "props", "(I)I"⟩
abbrev cX11_falls : ByteArray := prog_1_method_7_code
def yX11_falls : MethodName := ⟨RX11, "falls", "(II)I"⟩
abbrev cX11_corners : ByteArray := prog_1_method_8_code
def yX11_corners : MethodName := ⟨RX11, "corners", "(I)I"⟩
abbrev cX11_worst : ByteArray := prog_1_method_9_code
def yX11_worst : MethodName := ⟨RX11, "worst", "()I"⟩
abbrev cX11_together : ByteArray := prog_1_method_10_code
def yX11_together : MethodName := ⟨RX11, "together", "(II)I"⟩
abbrev cX11_cut : ByteArray := prog_1_method_11_code
def yX11_cut : MethodName := ⟨RX11, "cut", "(I)I"⟩
abbrev cX11_toGround : ByteArray := prog_1_method_12_code
def yX11_toGround : MethodName := ⟨RX11, "toGround", "()I"⟩
abbrev cX11_longest : ByteArray := prog_1_method_13_code
def yX11_longest : MethodName := ⟨RX11, "longest", "(I)I"⟩
abbrev cX11_game : ByteArray := prog_1_method_14_code
def yX11_game : MethodName := ⟨RX11, "game", "(I)I"⟩
abbrev cX11_bombs : ByteArray := prog_1_method_15_code
def yX11_bombs : MethodName := ⟨RX11, "bombs", "(III)J"⟩
abbrev cX11_mostLoad : ByteArray := prog_1_method_16_code
def yX11_mostLoad : MethodName := ⟨RX11, "mostLoad", "(I)I"⟩
abbrev cX11_which : ByteArray := prog_1_method_17_code
def yX11_which : MethodName := ⟨RX11, "which", "(II)I"⟩
abbrev cX11_tapNext : ByteArray := prog_1_method_18_code
def yX11_tapNext : MethodName := ⟨RX11, "tapNext", "(I)I"⟩
abbrev cX11_propsWanted : ByteArray := prog_1_method_19_code
def yX11_propsWanted : MethodName := ⟨RX11, "propsWanted", "()I"⟩
abbrev cX11_more : ByteArray := prog_1_method_20_code
def yX11_more : MethodName := ⟨RX11, "more", "(I)I"⟩
abbrev cX11_lean : ByteArray := prog_1_method_21_code
def yX11_lean : MethodName := ⟨RX11, "lean", "(I)I"⟩
abbrev cX11_tins : ByteArray := prog_1_method_22_code
def yX11_tins : MethodName := ⟨RX11, "tins", "(II)I"⟩
abbrev cX11_forged : ByteArray := prog_1_method_23_code
def yX11_forged : MethodName := ⟨RX11, "forged", "(I)I"⟩
abbrev cX11_judge : ByteArray := prog_1_method_24_code
def yX11_judge : MethodName := ⟨RX11, "judge", "(I)I"⟩
abbrev cX11_raids : ByteArray := prog_1_method_25_code
def yX11_raids : MethodName := ⟨RX11, "raids", "(III)I"⟩
abbrev cX11_felled : ByteArray := prog_1_method_26_code
def yX11_felled : MethodName := ⟨RX11, "felled", "(I)I"⟩
abbrev cX11_twins : ByteArray := prog_1_method_27_code
def yX11_twins : MethodName := ⟨RX11, "twins", "()I"⟩
abbrev cX11_highest : ByteArray := prog_1_method_28_code
def yX11_highest : MethodName := ⟨RX11, "highest", "(I)I"⟩
abbrev cX11_depends : ByteArray := prog_1_method_29_code
def yX11_depends : MethodName := ⟨RX11, "depends", "(I)I"⟩
abbrev cX11_image : ByteArray := prog_1_method_30_code
def yX11_image : MethodName := ⟨RX11, "image", "()I"⟩
abbrev cX11_restore : ByteArray := prog_1_method_31_code
def yX11_restore : MethodName := ⟨RX11, "restore", "()I"⟩
abbrev cX11_count : ByteArray := prog_1_method_32_code
def yX11_count : MethodName := ⟨RX11, "count", "(I)I"⟩
abbrev cX11_keep : ByteArray := prog_1_method_33_code
def yX11_keep : MethodName := ⟨RX11, "keep", "(IIII)I"⟩
abbrev cX11_row : ByteArray := prog_1_method_34_code
def yX11_row : MethodName := ⟨RX11, "row", "(III)I"⟩
abbrev cX11_put : ByteArray := prog_1_method_35_code
def yX11_put : MethodName := ⟨RX11, "put", "(III)I"⟩
abbrev cX11_element : ByteArray := prog_1_method_36_code
def yX11_element : MethodName := ⟨RX11, "element", "(II)J"⟩
abbrev cX11_copy : ByteArray := prog_1_method_37_code
def yX11_copy : MethodName := ⟨RX11, "copy", "(IIIII)I"⟩
abbrev cX11_cost : ByteArray := prog_1_method_38_code
def yX11_cost : MethodName := ⟨RX11, "cost", "(I)I"⟩
abbrev cX11_toss : ByteArray := prog_1_method_39_code
def yX11_toss : MethodName := ⟨RX11, "toss", "(I)I"⟩
abbrev cX11_isPlace : ByteArray := prog_1_method_40_code
def yX11_isPlace : MethodName := ⟨RX11, "isPlace", "(I)Z"⟩
abbrev cX11_isShelf : ByteArray := prog_1_method_41_code
def yX11_isShelf : MethodName := ⟨RX11, "isShelf", "(I)Z"⟩
abbrev cX11_isEither : ByteArray := prog_1_method_42_code
def yX11_isEither : MethodName := ⟨RX11, "isEither", "(I)Z"⟩
abbrev cX11_isSomeStones : ByteArray := prog_1_method_43_code
def yX11_isSomeStones : MethodName := ⟨RX11, "isSomeStones", "(I)Z"⟩
abbrev cX11_stoneRefused : ByteArray := prog_1_method_44_code
def yX11_stoneRefused : MethodName := ⟨RX11, "stoneRefused", "(I)I"⟩
abbrev cX11_kindRefused : ByteArray := prog_1_method_45_code
def yX11_kindRefused : MethodName := ⟨RX11, "kindRefused", "(I)I"⟩
abbrev cX11_rowRefused : ByteArray := prog_1_method_46_code
def yX11_rowRefused : MethodName := ⟨RX11, "rowRefused", "(I)I"⟩
abbrev cX11_notesRefused : ByteArray := prog_1_method_47_code
def yX11_notesRefused : MethodName := ⟨RX11, "notesRefused", "(I)I"⟩
abbrev cX11_tinsRefused : ByteArray := prog_1_method_48_code
def yX11_tinsRefused : MethodName := ⟨RX11, "tinsRefused", "(I)I"⟩
abbrev cX11_firstBadByte : ByteArray := prog_1_method_49_code
def yX11_firstBadByte : MethodName := ⟨RX11, "firstBadByte", "(LCornerstoneSought$Shelf;)I"⟩
abbrev cX11_digitsBehind : ByteArray := prog_1_method_50_code
def yX11_digitsBehind : MethodName := ⟨RX11, "digitsBehind", "(I)I"⟩
abbrev cX11_doStatements : ByteArray := prog_1_method_51_code
def yX11_doStatements : MethodName := ⟨RX11, "doStatements", "(LCornerstoneSought$Shelf;)I"⟩
abbrev cX11_doStatement : ByteArray := prog_1_method_52_code
def yX11_doStatement : MethodName := ⟨RX11, "doStatement", "(LCornerstoneSought$Shelf;I)Z"⟩
abbrev cX11_digitAt : ByteArray := prog_1_method_53_code
def yX11_digitAt : MethodName := ⟨RX11, "digitAt", "(LCornerstoneSought$Shelf;I)I"⟩
abbrev cX11_powerOf : ByteArray := prog_1_method_54_code
def yX11_powerOf : MethodName := ⟨RX11, "powerOf", "(II)J"⟩
abbrev cX11_commonDivisor : ByteArray := prog_1_method_55_code
def yX11_commonDivisor : MethodName := ⟨RX11, "commonDivisor", "(JJ)J"⟩
abbrev cX11_caughtOf : ByteArray := prog_1_method_56_code
def yX11_caughtOf : MethodName := ⟨RX11, "caughtOf", "(LCornerstoneSought$Stone;I)I"⟩
def RX12 : String := "CornerstoneSoughtModel"
def TX12 : u_T := fun k => match k with
  | 0 => ("CornerstoneSoughtModel", "s", "[I", true)
  | 1 => ("CornerstoneSoughtModel", "image", "[I", true)
  | 2 => ("CornerstoneSoughtModel", "was", "[I", true)
  | 3 => ("CornerstoneSoughtModel", "hasImage", "Z", false)
  | 4 => ("CornerstoneSoughtModel", "load", "[I", true)
  | 5 => ("CornerstoneSoughtModel", "stepsMany", "I", false)
  | 6 => ("CornerstoneSoughtModel", "place", "I", false)
  | 7 => ("CornerstoneSoughtModel", "rowAt", "I", false)
  | 8 => ("CornerstoneSoughtModel", "rowEnd", "I", false)
  | 9 => ("CornerstoneSoughtModel", "numbers", "[I", true)
  | 10 => ("CornerstoneSoughtModel", "known", "[I", true)
  | 11 => ("CornerstoneSoughtModel", "waysMany", "I", false)
  | 12 => ("CornerstoneSoughtModel", "waysFirst", "I", false)
  | 13 => ("CornerstoneSoughtModel", "farthest", "I", false)
  | 14 => ("CornerstoneSoughtModel", "seed", "I", false)
  | 15 => ("CornerstoneSoughtModel", "reached", "[Z", true)
  | 16 => ("CornerstoneSoughtModel", "next", "[Z", true)
  | 17 => ("CornerstoneSoughtModel", "kept", "[I", true)
  | 18 => ("CornerstoneSoughtModel", "keptKind", "[I", true)
  | 19 => ("CornerstoneSoughtModel", "keptFigure", "[I", true)
  | 20 => ("CornerstoneSoughtModel", "sort", "[I", true)
  | 21 => ("CornerstoneSoughtModel", "size", "[I", true)
  | 22 => ("CornerstoneSoughtModel", "element", "[I", true)
  | _ => ("CornerstoneSoughtModel", "thrown", "I", false)
def tyX12 : Nat → FieldType := fun k => match k with
  | 0 => .array .int
  | 1 => .array .int
  | 2 => .array .int
  | 3 => .boolean
  | 4 => .array .int
  | 5 => .int
  | 6 => .int
  | 7 => .int
  | 8 => .int
  | 9 => .array .int
  | 10 => .array .int
  | 11 => .int
  | 12 => .int
  | 13 => .int
  | 14 => .int
  | 15 => .array .boolean
  | 16 => .array .boolean
  | 17 => .array .int
  | 18 => .array .int
  | 19 => .array .int
  | 20 => .array .int
  | 21 => .array .int
  | 22 => .array .int
  | _ => .int
abbrev wsX120 : List Cond := u_ws RX12 TX12 24
theorem nmX12 : ∀ a, a < 24 → ∀ b, b < 24 → a ≠ b → (TX12 a).2.1 ≠ (TX12 b).2.1 := by decide +kernel
theorem tyX12_ok : ∀ k, k < 24 → parseFieldDescriptor (TX12 k).2.2.1 = some (tyX12 k) := by decide +kernel
abbrev cX12_init : ByteArray := prog_14_method_1_code
def yX12_init : MethodName := ⟨RX12, "<init>", "()V"⟩
abbrev cX12_isIn : ByteArray := prog_14_method_2_code
def yX12_isIn : MethodName := ⟨RX12, "isIn", "(III)Z"⟩
abbrev cX12_most : ByteArray := prog_14_method_3_code
def yX12_most : MethodName := ⟨RX12, "most", "(II)I"⟩
abbrev cX12_copies : ByteArray := prog_14_method_4_code
def yX12_copies : MethodName := ⟨RX12, "copies", "([I[I)V"⟩
abbrev cX12_has : ByteArray := prog_14_method_5_code
def yX12_has : MethodName := ⟨RX12, "has", "(II)Z"⟩
abbrev cX12_bits : ByteArray := prog_14_method_6_code
def yX12_bits : MethodName := ⟨RX12, "bits", "(I)I"⟩
abbrev cX12_isPlace : ByteArray := prog_14_method_7_code
def yX12_isPlace : MethodName := ⟨RX12, "isPlace", "(I)Z"⟩
abbrev cX12_isThere : ByteArray := prog_14_method_8_code
def yX12_isThere : MethodName := ⟨RX12, "isThere", "(I)Z"⟩
abbrev cX12_kind : ByteArray := prog_14_method_9_code
def yX12_kind : MethodName := ⟨RX12, "kind", "(I)I"⟩
abbrev cX12_figure : ByteArray := prog_14_method_10_code
def yX12_figure : MethodName := ⟨RX12, "figure", "(I)I"⟩
abbrev cX12_weight : ByteArray := prog_14_method_11_code
def yX12_weight : MethodName := ⟨RX12, "weight", "(I)I"⟩
abbrev cX12_bears : ByteArray := prog_14_method_12_code
def yX12_bears : MethodName := ⟨RX12, "bears", "(I)I"⟩
abbrev cX12_isLight : ByteArray := prog_14_method_13_code
def yX12_isLight : MethodName := ⟨RX12, "isLight", "(I)Z"⟩
abbrev cX12_isArch : ByteArray := prog_14_method_14_code
def yX12_isArch : MethodName := ⟨RX12, "isArch", "(I)Z"⟩
abbrev cX12_isAt : ByteArray := prog_14_method_15_code
def yX12_isAt : MethodName := ⟨RX12, "isAt", "(III)Z"⟩
abbrev cX12_isLeft : ByteArray := prog_14_method_16_code
def yX12_isLeft : MethodName := ⟨RX12, "isLeft", "(II)Z"⟩
abbrev cX12_isRight : ByteArray := prog_14_method_17_code
def yX12_isRight : MethodName := ⟨RX12, "isRight", "(II)Z"⟩
abbrev cX12_isClinging : ByteArray := prog_14_method_18_code
def yX12_isClinging : MethodName := ⟨RX12, "isClinging", "(II)Z"⟩
abbrev cX12_isHeld : ByteArray := prog_14_method_19_code
def yX12_isHeld : MethodName := ⟨RX12, "isHeld", "(II)Z"⟩
abbrev cX12_loads : ByteArray := prog_14_method_20_code
def yX12_loads : MethodName := ⟨RX12, "loads", "(I)V"⟩
abbrev cX12_settled : ByteArray := prog_14_method_21_code
def yX12_settled : MethodName := ⟨RX12, "settled", "(I)I"⟩
abbrev cX12_noteOf : ByteArray := prog_14_method_22_code
def yX12_noteOf : MethodName := ⟨RX12, "noteOf", "(I)I"⟩
abbrev cX12_leftWithout : ByteArray := prog_14_method_23_code
def yX12_leftWithout : MethodName := ⟨RX12, "leftWithout", "(II)I"⟩
abbrev cX12_fallsOf : ByteArray := prog_14_method_24_code
def yX12_fallsOf : MethodName := ⟨RX12, "fallsOf", "(II)I"⟩
abbrev cX12_here : ByteArray := prog_14_method_25_code
def yX12_here : MethodName := ⟨RX12, "here", "()I"⟩
abbrev cX12_readsNumber : ByteArray := prog_14_method_26_code
def yX12_readsNumber : MethodName := ⟨RX12, "readsNumber", "(II)Z"⟩
abbrev cX12_readsStatement : ByteArray := prog_14_method_27_code
def yX12_readsStatement : MethodName := ⟨RX12, "readsStatement", "()Z"⟩
abbrev cX12_laysAt : ByteArray := prog_14_method_28_code
def yX12_laysAt : MethodName := ⟨RX12, "laysAt", "(III)V"⟩
abbrev cX12_isDone : ByteArray := prog_14_method_29_code
def yX12_isDone : MethodName := ⟨RX12, "isDone", "(I)Z"⟩
abbrev cX12_hall : ByteArray := prog_14_method_30_code
def yX12_hall : MethodName := ⟨RX12, "hall", "(I)I"⟩
abbrev cX12_wrongStone : ByteArray := prog_14_method_31_code
def yX12_wrongStone : MethodName := ⟨RX12, "wrongStone", "(I)I"⟩
abbrev cX12_stone : ByteArray := prog_14_method_32_code
def yX12_stone : MethodName := ⟨RX12, "stone", "(II)I"⟩
abbrev cX12_lays : ByteArray := prog_14_method_33_code
def yX12_lays : MethodName := ⟨RX12, "lays", "(II)I"⟩
abbrev cX12_takes : ByteArray := prog_14_method_34_code
def yX12_takes : MethodName := ⟨RX12, "takes", "(I)I"⟩
abbrev cX12_props : ByteArray := prog_14_method_35_code
def yX12_props : MethodName := ⟨RX12, "props", "(I)I"⟩
abbrev cX12_falls : ByteArray := prog_14_method_36_code
def yX12_falls : MethodName := ⟨RX12, "falls", "(II)I"⟩
abbrev cX12_safeOf : ByteArray := prog_14_method_37_code
def yX12_safeOf : MethodName := ⟨RX12, "safeOf", "(I)I"⟩
abbrev cX12_corners : ByteArray := prog_14_method_38_code
def yX12_corners : MethodName := ⟨RX12, "corners", "(I)I"⟩
abbrev cX12_worst : ByteArray := prog_14_method_39_code
def yX12_worst : MethodName := ⟨RX12, "worst", "()I"⟩
abbrev cX12_together : ByteArray := prog_14_method_40_code
def yX12_together : MethodName := ⟨RX12, "together", "(II)I"⟩
abbrev cX12_cut : ByteArray := prog_14_method_41_code
def yX12_cut : MethodName := ⟨RX12, "cut", "(I)I"⟩
abbrev cX12_toGround : ByteArray := prog_14_method_42_code
def yX12_toGround : MethodName := ⟨RX12, "toGround", "()I"⟩
abbrev cX12_finds : ByteArray := prog_14_method_43_code
def yX12_finds : MethodName := ⟨RX12, "finds", "(Z)V"⟩
abbrev cX12_firstTo : ByteArray := prog_14_method_44_code
def yX12_firstTo : MethodName := ⟨RX12, "firstTo", "(Z)I"⟩
abbrev cX12_longest : ByteArray := prog_14_method_45_code
def yX12_longest : MethodName := ⟨RX12, "longest", "(I)I"⟩
abbrev cX12_game : ByteArray := prog_14_method_46_code
def yX12_game : MethodName := ⟨RX12, "game", "(I)I"⟩
abbrev cX12_gcd : ByteArray := prog_14_method_47_code
def yX12_gcd : MethodName := ⟨RX12, "gcd", "(JJ)J"⟩
abbrev cX12_partOf : ByteArray := prog_14_method_48_code
def yX12_partOf : MethodName := ⟨RX12, "partOf", "(JJI)J"⟩
abbrev cX12_bombs : ByteArray := prog_14_method_49_code
def yX12_bombs : MethodName := ⟨RX12, "bombs", "(III)J"⟩
abbrev cX12_mostLoad : ByteArray := prog_14_method_50_code
def yX12_mostLoad : MethodName := ⟨RX12, "mostLoad", "(I)I"⟩
abbrev cX12_wrongPairs : ByteArray := prog_14_method_51_code
def yX12_wrongPairs : MethodName := ⟨RX12, "wrongPairs", "(I)I"⟩
abbrev cX12_noteWithout : ByteArray := prog_14_method_52_code
def yX12_noteWithout : MethodName := ⟨RX12, "noteWithout", "(II)I"⟩
abbrev cX12_whichOf : ByteArray := prog_14_method_53_code
def yX12_whichOf : MethodName := ⟨RX12, "whichOf", "(I)I"⟩
abbrev cX12_which : ByteArray := prog_14_method_54_code
def yX12_which : MethodName := ⟨RX12, "which", "(II)I"⟩
abbrev cX12_kindsBy : ByteArray := prog_14_method_55_code
def yX12_kindsBy : MethodName := ⟨RX12, "kindsBy", "(II)I"⟩
abbrev cX12_tapNext : ByteArray := prog_14_method_56_code
def yX12_tapNext : MethodName := ⟨RX12, "tapNext", "(I)I"⟩
abbrev cX12_propsWanted : ByteArray := prog_14_method_57_code
def yX12_propsWanted : MethodName := ⟨RX12, "propsWanted", "()I"⟩
abbrev cX12_more : ByteArray := prog_14_method_58_code
def yX12_more : MethodName := ⟨RX12, "more", "(I)I"⟩
abbrev cX12_columnOf : ByteArray := prog_14_method_59_code
def yX12_columnOf : MethodName := ⟨RX12, "columnOf", "(I)I"⟩
abbrev cX12_lean : ByteArray := prog_14_method_60_code
def yX12_lean : MethodName := ⟨RX12, "lean", "(I)I"⟩
abbrev cX12_takesAll : ByteArray := prog_14_method_61_code
def yX12_takesAll : MethodName := ⟨RX12, "takesAll", "(IIII)V"⟩
abbrev cX12_wrongTins : ByteArray := prog_14_method_62_code
def yX12_wrongTins : MethodName := ⟨RX12, "wrongTins", "(I)I"⟩
abbrev cX12_goesThrough : ByteArray := prog_14_method_63_code
def yX12_goesThrough : MethodName := ⟨RX12, "goesThrough", "(I)V"⟩
abbrev cX12_tins : ByteArray := prog_14_method_64_code
def yX12_tins : MethodName := ⟨RX12, "tins", "(II)I"⟩
abbrev cX12_forged : ByteArray := prog_14_method_65_code
def yX12_forged : MethodName := ⟨RX12, "forged", "(I)I"⟩
abbrev cX12_judge : ByteArray := prog_14_method_66_code
def yX12_judge : MethodName := ⟨RX12, "judge", "(I)I"⟩
abbrev cX12_drawn : ByteArray := prog_14_method_67_code
def yX12_drawn : MethodName := ⟨RX12, "drawn", "(I)I"⟩
abbrev cX12_raids : ByteArray := prog_14_method_68_code
def yX12_raids : MethodName := ⟨RX12, "raids", "(III)I"⟩
abbrev cX12_felled : ByteArray := prog_14_method_69_code
def yX12_felled : MethodName := ⟨RX12, "felled", "(I)I"⟩
abbrev cX12_twins : ByteArray := prog_14_method_70_code
def yX12_twins : MethodName := ⟨RX12, "twins", "()I"⟩
abbrev cX12_highest : ByteArray := prog_14_method_71_code
def yX12_highest : MethodName := ⟨RX12, "highest", "(I)I"⟩
abbrev cX12_depends : ByteArray := prog_14_method_72_code
def yX12_depends : MethodName := ⟨RX12, "depends", "(I)I"⟩
abbrev cX12_image : ByteArray := prog_14_method_73_code
def yX12_image : MethodName := ⟨RX12, "image", "()I"⟩
abbrev cX12_restore : ByteArray := prog_14_method_74_code
def yX12_restore : MethodName := ⟨RX12, "restore", "()I"⟩
abbrev cX12_count : ByteArray := prog_14_method_75_code
def yX12_count : MethodName := ⟨RX12, "count", "(I)I"⟩
abbrev cX12_thrown : ByteArray := prog_14_method_76_code
def yX12_thrown : MethodName := ⟨RX12, "thrown", "()I"⟩
abbrev cX12_isShelf : ByteArray := prog_14_method_77_code
def yX12_isShelf : MethodName := ⟨RX12, "isShelf", "(I)Z"⟩
abbrev cX12_wrongRow : ByteArray := prog_14_method_78_code
def yX12_wrongRow : MethodName := ⟨RX12, "wrongRow", "(II)I"⟩
abbrev cX12_wrongKept : ByteArray := prog_14_method_79_code
def yX12_wrongKept : MethodName := ⟨RX12, "wrongKept", "(I)I"⟩
abbrev cX12_keep : ByteArray := prog_14_method_80_code
def yX12_keep : MethodName := ⟨RX12, "keep", "(IIII)I"⟩
abbrev cX12_row : ByteArray := prog_14_method_81_code
def yX12_row : MethodName := ⟨RX12, "row", "(III)I"⟩
abbrev cX12_put : ByteArray := prog_14_method_82_code
def yX12_put : MethodName := ⟨RX12, "put", "(III)I"⟩
abbrev cX12_element : ByteArray := prog_14_method_83_code
def yX12_element : MethodName := ⟨RX12, "element", "(II)J"⟩
abbrev cX12_copy : ByteArray := prog_14_method_84_code
def yX12_copy : MethodName := ⟨RX12, "copy", "(IIIII)I"⟩
abbrev cX12_costBy : ByteArray := prog_14_method_85_code
def yX12_costBy : MethodName := ⟨RX12, "costBy", "(II)I"⟩
abbrev cX12_cost : ByteArray := prog_14_method_86_code
def yX12_cost : MethodName := ⟨RX12, "cost", "(I)I"⟩
abbrev cX12_toss : ByteArray := prog_14_method_87_code
def yX12_toss : MethodName := ⟨RX12, "toss", "(I)I"⟩
def RJx145de : String := "java/io/Serializable"
def TJx145de : u_T := fun k => match k with
  | _ => ("", "", "", false)
def tyJx145de : Nat → FieldType := fun k => match k with
  | _ => .int
abbrev wsJx145de0 : List Cond := u_ws RJx145de TJx145de 0
theorem nmJx145de : ∀ a, a < 0 → ∀ b, b < 0 → a ≠ b → (TJx145de a).2.1 ≠ (TJx145de b).2.1 := by decide +kernel
theorem tyJx145de_ok : ∀ k, k < 0 → parseFieldDescriptor (TJx145de k).2.2.1 = some (tyJx145de k) := by decide +kernel
def RJ6 : String := "java/lang/Integer"
def TJ6 : u_T := fun k => match k with
  | _ => ("", "", "", false)
def tyJ6 : Nat → FieldType := fun k => match k with
  | _ => .int
abbrev wsJ60 : List Cond := u_ws RJ6 TJ6 0
theorem nmJ6 : ∀ a, a < 0 → ∀ b, b < 0 → a ≠ b → (TJ6 a).2.1 ≠ (TJ6 b).2.1 := by decide +kernel
theorem tyJ6_ok : ∀ k, k < 0 → parseFieldDescriptor (TJ6 k).2.2.1 = some (tyJ6 k) := by decide +kernel
abbrev cJ6_numberOfTrailingZeros_0f7a4 : ByteArray := prog_18_method_48_code
def yJ6_numberOfTrailingZeros_0f7a4 : MethodName := ⟨RJ6, "numberOfTrailingZeros", "(I)I"⟩
abbrev cJ6_bitCount_0f7a4 : ByteArray := prog_18_method_49_code
def yJ6_bitCount_0f7a4 : MethodName := ⟨RJ6, "bitCount", "(I)I"⟩
def RJ13 : String := "java/lang/Long"
def TJ13 : u_T := fun k => match k with
  | _ => ("", "", "", false)
def tyJ13 : Nat → FieldType := fun k => match k with
  | _ => .int
abbrev wsJ130 : List Cond := u_ws RJ13 TJ13 0
theorem nmJ13 : ∀ a, a < 0 → ∀ b, b < 0 → a ≠ b → (TJ13 a).2.1 ≠ (TJ13 b).2.1 := by decide +kernel
theorem tyJ13_ok : ∀ k, k < 0 → parseFieldDescriptor (TJ13 k).2.2.1 = some (tyJ13 k) := by decide +kernel
abbrev cJ13_bitCount_95d88 : ByteArray := prog_19_method_50_code
def yJ13_bitCount_95d88 : MethodName := ⟨RJ13, "bitCount", "(J)I"⟩
def RJ9 : String := "java/lang/Math"
def TJ9 : u_T := fun k => match k with
  | _ => ("", "", "", false)
def tyJ9 : Nat → FieldType := fun k => match k with
  | _ => .int
abbrev wsJ90 : List Cond := u_ws RJ9 TJ9 0
theorem nmJ9 : ∀ a, a < 0 → ∀ b, b < 0 → a ≠ b → (TJ9 a).2.1 ≠ (TJ9 b).2.1 := by decide +kernel
theorem tyJ9_ok : ∀ k, k < 0 → parseFieldDescriptor (TJ9 k).2.2.1 = some (tyJ9 k) := by decide +kernel
abbrev cJ9_max_7cf53 : ByteArray := prog_20_method_65_code
def yJ9_max_7cf53 : MethodName := ⟨RJ9, "max", "(II)I"⟩
abbrev cJ9_min_7cf53 : ByteArray := prog_20_method_69_code
def yJ9_min_7cf53 : MethodName := ⟨RJ9, "min", "(II)I"⟩
def RJ0 : String := "java/lang/String"
def TJ0 : u_T := fun k => match k with
  | _ => ("", "", "", false)
def tyJ0 : Nat → FieldType := fun k => match k with
  | _ => .int
abbrev wsJ00 : List Cond := u_ws RJ0 TJ0 0
theorem nmJ0 : ∀ a, a < 0 → ∀ b, b < 0 → a ≠ b → (TJ0 a).2.1 ≠ (TJ0 b).2.1 := by decide +kernel
theorem tyJ0_ok : ∀ k, k < 0 → parseFieldDescriptor (TJ0 k).2.2.1 = some (tyJ0 k) := by decide +kernel
def RJ10 : String := "java/lang/System"
def TJ10 : u_T := fun k => match k with
  | _ => ("", "", "", false)
def tyJ10 : Nat → FieldType := fun k => match k with
  | _ => .int
abbrev wsJ100 : List Cond := u_ws RJ10 TJ10 0
theorem nmJ10 : ∀ a, a < 0 → ∀ b, b < 0 → a ≠ b → (TJ10 a).2.1 ≠ (TJ10 b).2.1 := by decide +kernel
theorem tyJ10_ok : ∀ k, k < 0 → parseFieldDescriptor (TJ10 k).2.2.1 = some (tyJ10 k) := by decide +kernel
def RJ7 : String := "java/util/Arrays"
def TJ7 : u_T := fun k => match k with
  | _ => ("", "", "", false)
def tyJ7 : Nat → FieldType := fun k => match k with
  | _ => .int
abbrev wsJ70 : List Cond := u_ws RJ7 TJ7 0
theorem nmJ7 : ∀ a, a < 0 → ∀ b, b < 0 → a ≠ b → (TJ7 a).2.1 ≠ (TJ7 b).2.1 := by decide +kernel
theorem tyJ7_ok : ∀ k, k < 0 → parseFieldDescriptor (TJ7 k).2.2.1 = some (tyJ7 k) := by decide +kernel
abbrev cJ7_fill_d0a16 : ByteArray := prog_26_method_101_code
def yJ7_fill_d0a16 : MethodName := ⟨RJ7, "fill", "([JJ)V"⟩
abbrev cJ7_fill_53178 : ByteArray := prog_26_method_103_code
def yJ7_fill_53178 : MethodName := ⟨RJ7, "fill", "([II)V"⟩
def RL : String := "CornerstoneSoughtLaw"
abbrev cL_element : ByteArray := method_3_code
def yL_element : MethodName := ⟨RL, "element", "(LCornerstoneSought;II[J)I"⟩
abbrev cL_law : ByteArray := code
def yL_law : MethodName := ⟨RL, "law", "([I)Z"⟩
abbrev vwCl : List vw_C := [(RX0, TX0, 0), (RX1, TX1, 0), (RX2, TX2, 0), (RX3, TX3, 6), (RX4, TX4, 10), (RX5, TX5, 0), (RX6, TX6, 0), (RX7, TX7, 0), (RX8, TX8, 6), (RX9, TX9, 0), (RX10, TX10, 0), (RX11, TX11, 7), (RX12, TX12, 24)]
theorem n_zero : True := trivial
end
section
/-! ===== the pure picture: values, heaps, the table of objects ===== -/
abbrev ZV : Type := Sum Int32 (Sum Int64 (Sum (Nat × Nat) Unit))
abbrev zi (x : Int32) : ZV := Sum.inl x
abbrev zl (x : Int64) : ZV := Sum.inr (Sum.inl x)
abbrev zr (k i : Nat) : ZV := Sum.inr (Sum.inr (Sum.inl (k, i)))
abbrev zu : ZV := Sum.inr (Sum.inr (Sum.inr ()))
abbrev ZH : Type := (Nat → Nat → Nat → Int32) × (Nat → Nat → Nat → Int64)
abbrev ZG : Type := Launch × va_G × (Nat → ClassId) × (Nat → Nat → Nat)
abbrev ZM : Type := MethodName × ByteArray × Nat × Option FieldType
def zc (G : ZG) : ZV → Value
  | Sum.inl x => .int x
  | Sum.inr (Sum.inl x) => .long x
  | Sum.inr (Sum.inr (Sum.inl q)) => .ref (G.2.2.2 q.1 q.2)
  | Sum.inr (Sum.inr (Sum.inr _)) => .null
/-- the class (its place in vwCl) of the stone of a kind -/
def zsc (i : Nat) : Nat := match i with
  | 0 => 10
  | 1 => 2
  | 2 => 0
  | 3 => 7
  | 4 => 5
  | 5 => 9
  | 6 => 1
  | _ => 6
/-- how many objects of a kind there are -/
def zcnt (k : Nat) : Nat := ([1, 1, 3, 8, 8, 1, 0, 0, 0, 0, 3, 3, 3, 3, 3, 3, 8, 1, 1, 1, 1, 1, 1, 0, 0, 0, 0, 0, 0, 0, 1, 1, 1, 1, 1, 1, 1, 1, 1, 1, 1, 1, 1, 1, 1] : List Nat).getD k 0
/-- an object of a kind: its class and how many fields; or an array: the kind of its elements and how many -/
def zkd (k i : Nat) : Sum (Nat × Nat) (Nat × Nat) := match k with
  | 0 => .inl (11, 7)
  | 1 => .inl (3, 6)
  | 2 => .inl (4, 10)
  | 3 => .inl (8, 6)
  | 4 => .inl (zsc i, 0)
  | 5 => .inl (12, 24)
  | 10 => .inr (0, 12)
  | 11 => .inr (0, 12)
  | 12 => .inr (0, 12)
  | 13 => .inr (0, 12)
  | 14 => .inr (0, 12)
  | 15 => .inr (0, 12)
  | 16 => .inr (0, 100)
  | 17 => .inr (0, 4096)
  | 18 => .inr (0, 4096)
  | 19 => .inr (1, 12)
  | 20 => .inr (1, 13)
  | 21 => .inr (3, 8)
  | 22 => .inr (4, 8)
  | 30 => .inr (0, 26)
  | 31 => .inr (0, 26)
  | 32 => .inr (0, 26)
  | 33 => .inr (0, 12)
  | 34 => .inr (0, 3)
  | 35 => .inr (0, 4096)
  | 36 => .inr (2, 4096)
  | 37 => .inr (2, 4096)
  | 38 => .inr (0, 8)
  | 39 => .inr (0, 8)
  | 40 => .inr (0, 8)
  | 41 => .inr (0, 8)
  | 42 => .inr (0, 8)
  | 43 => .inr (0, 800)
  | 44 => .inr (1, 1)
  | _ => .inr (0, 0)
/-- which object a field of an object refers to; none: it holds a number -/
def zrf (k j i : Nat) : Option (Nat × Nat) := match k with
  | 0 => (match j with
    | 0 => some (21, 0)
    | 1 => some (1, 0)
    | 2 => some (2, 0)
    | 3 => some (2, 1)
    | 4 => some (2, 2)
    | 5 => some (22, 0)
    | _ => none)
  | 1 => (match j with
    | 0 => some (2, 0)
    | 1 => some (17, 0)
    | 2 => some (18, 0)
    | 3 => some (19, 0)
    | 4 => some (20, 0)
    | _ => none)
  | 2 => (match j with
    | 0 => some (10, i)
    | 1 => some (11, i)
    | 2 => some (12, i)
    | 3 => some (13, i)
    | 4 => some (14, i)
    | 5 => some (15, i)
    | _ => none)
  | 3 => (match j with
    | 5 => some (16, i)
    | _ => none)
  | 5 => (match j with
    | 0 => some (30, 0)
    | 1 => some (31, 0)
    | 2 => some (32, 0)
    | 4 => some (33, 0)
    | 9 => some (34, 0)
    | 10 => some (35, 0)
    | 15 => some (36, 0)
    | 16 => some (37, 0)
    | 17 => some (38, 0)
    | 18 => some (39, 0)
    | 19 => some (40, 0)
    | 20 => some (41, 0)
    | 21 => some (42, 0)
    | 22 => some (43, 0)
    | _ => none)
  | _ => none
/-- what the elements of an array of references refer to -/
def zre (k : Nat) : Nat := match k with
  | 21 => 4
  | _ => 3
def zfr (a : Nat → Int32) (k i j : Nat) : ZV := match zrf k j i with
  | some q => zr q.1 q.2
  | none => zi (a j)
def zf (h : ZH) (k i j : Nat) : ZV := zfr (h.1 k i) k i j
def zEr (G : ZG) (a : Nat → Int32) (b : Nat → Int64) (k i : Nat) : va_E := match zkd k i with
  | .inl o => .inr (o.1, (List.range o.2).map (fun j => zc G (zfr a k i j)))
  | .inr t => match t.1 with
    | 0 => .inl (G.2.2.1 0, t.2, .inl a)
    | 1 => .inl (G.2.2.1 1, t.2, .inr (.inl b))
    | 2 => .inl (G.2.2.1 2, t.2, .inl a)
    | n => .inl (G.2.2.1 n, t.2, .inr (.inr (.inr (.inr (fun j => some (G.2.2.2 (zre k) j))))))
def zE (G : ZG) (h : ZH) (k i : Nat) : va_E := zEr G (h.1 k i) (h.2 k i) k i
def zs1 (h : ZH) (k i j : Nat) (v : Int32) : ZH := (fun k' i' j' => if k' = k ∧ i' = i ∧ j' = j then v else h.1 k' i' j', h.2)
def zs2 (h : ZH) (k i j : Nat) (v : Int64) : ZH := (h.1, fun k' i' j' => if k' = k ∧ i' = i ∧ j' = j then v else h.2 k' i' j')
def zdom : List (Nat × Nat) := (List.range 45).flatMap fun k => (List.range (zcnt k)).map fun i => (k, i)
theorem zdom_nd : zdom.Nodup := by decide +kernel
theorem zcnt_le (k : Nat) (h : 0 < zcnt k) : k < 45 := by
  rcases Nat.lt_or_ge k 45 with q | q
  · exact q
  · have : zcnt k = 0 := by
      unfold zcnt
      rw [List.getD_eq_getElem?_getD, List.getElem?_eq_none (by simpa using q)]
      rfl
    omega
theorem zdom_in {k i : Nat} (h : i < zcnt k) : (k, i) ∈ zdom := by
  unfold zdom
  rw [List.mem_flatMap]
  exact ⟨k, List.mem_range.mpr (zcnt_le k (by omega)), List.mem_map.mpr ⟨i, List.mem_range.mpr h, rfl⟩⟩
def zL (G : ZG) (h : ZH) : va_W := zdom.map (fun q => (G.2.2.2 q.1 q.2, zE G h q.1 q.2))
def zInj (G : ZG) : Prop := ∀ q ∈ zdom, ∀ r ∈ zdom, G.2.2.2 q.1 q.2 = G.2.2.2 r.1 r.2 → q = r
def zA (G : ZG) : Nat → Prop := fun a => ∃ q ∈ zdom, a = G.2.2.2 q.1 q.2
def zW (G : ZG) (h : ZH) (H : Heap) : Prop := va_P G.2.1 vwCl (zL G h) H
theorem zL_at (G : ZG) (h : ZH) {k i : Nat} (hk : i < zcnt k) : ∃ p : Nat, zdom[p]? = some (k, i) ∧ (zL G h)[p]? = some (G.2.2.2 k i, zE G h k i) := by
  obtain ⟨p, hp⟩ := List.getElem?_of_mem (zdom_in hk)
  exact ⟨p, hp, by unfold zL; rw [List.getElem?_map, hp]; rfl⟩
theorem zdom_inj {p q : Nat} {x : Nat × Nat} (hp : zdom[p]? = some x) (hq : zdom[q]? = some x) : p = q := by
  exact (List.getElem?_inj (List.getElem?_eq_some_iff.mp hp).1 zdom_nd).mp (hp.trans hq.symm)
theorem zL_set (G : ZG) {h h' : ZH} {k i p : Nat} {e : va_E} (hp : zdom[p]? = some (k, i)) (he : zE G h' k i = e) (ho : ∀ k' i', ¬ (k' = k ∧ i' = i) → zE G h' k' i' = zE G h k' i') : (zL G h).set p (G.2.2.2 k i, e) = zL G h' := by
  apply List.ext_getElem?
  intro q
  unfold zL
  rw [List.getElem?_set, List.getElem?_map, List.getElem?_map]
  by_cases hq : p = q
  · subst hq
    have hl : p < (List.map (fun q => (G.2.2.2 q.1 q.2, zE G h q.1 q.2)) zdom).length := by
      rw [List.length_map]; exact (List.getElem?_eq_some_iff.mp hp).1
    rw [if_pos rfl, if_pos hl, hp]
    simp [he]
  · rw [if_neg hq]
    cases hx : zdom[q]? with
    | none => rfl
    | some x =>
      simp only [Option.map_some]
      congr 2
      refine (ho x.1 x.2 ?_).symm
      rintro ⟨e1, e2⟩
      exact hq (zdom_inj hp (by rw [hx, ← e1, ← e2]))
theorem zE_o1 (G : ZG) (h : ZH) {k i j : Nat} (v : Int32) (k' i' : Nat) (hn : ¬ (k' = k ∧ i' = i)) : zE G (zs1 h k i j v) k' i' = zE G h k' i' := by
  unfold zE
  have : (zs1 h k i j v).1 k' i' = h.1 k' i' := by
    funext j'
    show (if k' = k ∧ i' = i ∧ j' = j then v else h.1 k' i' j') = _
    rw [if_neg (fun q => hn ⟨q.1, q.2.1⟩)]
  rw [this]
  rfl
theorem zE_o2 (G : ZG) (h : ZH) {k i j : Nat} (v : Int64) (k' i' : Nat) (hn : ¬ (k' = k ∧ i' = i)) : zE G (zs2 h k i j v) k' i' = zE G h k' i' := by
  unfold zE
  have : (zs2 h k i j v).2 k' i' = h.2 k' i' := by
    funext j'
    show (if k' = k ∧ i' = i ∧ j' = j then v else h.2 k' i' j') = _
    rw [if_neg (fun q => hn ⟨q.1, q.2.1⟩)]
  rw [this]
  rfl
theorem zs1_row (h : ZH) (k i j : Nat) (v : Int32) : (zs1 h k i j v).1 k i = upd (h.1 k i) j v := by
  funext q
  simp [zs1, upd]
theorem zs2_row (h : ZH) (k i j : Nat) (v : Int64) : (zs2 h k i j v).2 k i = vp_updL (h.2 k i) j v := by
  funext q
  simp [zs2, vp_updL]
theorem zE_obj (G : ZG) (h : ZH) {k i ci N : Nat} (hk : zkd k i = .inl (ci, N)) : zE G h k i = .inr (ci, (List.range N).map (fun j => zc G (zf h k i j))) := by
  unfold zE zEr
  rw [hk]
  rfl
theorem zE_int (G : ZG) (h : ZH) {k i n : Nat} (hk : zkd k i = .inr (0, n)) : zE G h k i = .inl (G.2.2.1 0, n, .inl (h.1 k i)) := by
  unfold zE zEr
  rw [hk]
  rfl
theorem zE_long (G : ZG) (h : ZH) {k i n : Nat} (hk : zkd k i = .inr (1, n)) : zE G h k i = .inl (G.2.2.1 1, n, .inr (.inl (h.2 k i))) := by
  unfold zE zEr
  rw [hk]
  rfl
theorem zE_bool (G : ZG) (h : ZH) {k i n : Nat} (hk : zkd k i = .inr (2, n)) : zE G h k i = .inl (G.2.2.1 2, n, .inl (h.1 k i)) := by
  unfold zE zEr
  rw [hk]
  rfl
theorem zE_ref (G : ZG) (h : ZH) {k i t n : Nat} (hk : zkd k i = .inr (t + 3, n)) : zE G h k i = .inl (G.2.2.1 (t + 3), n, .inr (.inr (.inr (.inr (fun j => some (G.2.2.2 (zre k) j)))))) := by
  unfold zE zEr
  rw [hk]
  rfl
theorem zf_num (h : ZH) {k i j : Nat} (hj : zrf k j i = none) : zf h k i j = zi (h.1 k i j) := by
  unfold zf zfr
  rw [hj]
theorem zE_putobj (G : ZG) (h : ZH) {k i ci N j : Nat} (v : Int32) (hk : zkd k i = .inl (ci, N)) (hj : zrf k j i = none) (hjN : j < N) : zE G (zs1 h k i j v) k i = .inr (ci, ((List.range N).map (fun j => zc G (zf h k i j))).set j (.int v)) := by
  rw [zE_obj G _ hk]
  congr 2
  apply List.ext_getElem?
  intro q
  rw [List.getElem?_set, List.getElem?_map, List.getElem?_map, List.length_map, List.length_range]
  by_cases hq : j = q
  · subst hq
    rw [if_pos rfl, if_pos hjN, List.getElem?_range hjN]
    simp only [Option.map_some]
    rw [zf_num _ hj]
    simp [zs1, zc]
  · rw [if_neg hq]
    cases hx : (List.range N)[q]? with
    | none => rfl
    | some x =>
      simp only [Option.map_some]
      have hxq : x = q := by
        have := (List.getElem?_eq_some_iff.mp hx).2
        simpa using this.symm
      subst hxq
      have : zf (zs1 h k i j v) k i x = zf h k i x := by
        unfold zf zfr
        cases zrf k x i with
        | some q => rfl
        | none =>
          simp only
          congr 1
          show (if k = k ∧ i = i ∧ x = j then v else h.1 k i x) = _
          rw [if_neg (fun z => hq z.2.2.symm)]
      rw [this]
theorem zD_of (G : ZG) (h : ZH) (hI : zInj G) : va_D (zA G) (zL G h) := by
  refine ⟨fun a b x y hx hy hxy => ?_, fun a x hx => ?_⟩
  · unfold zL at hx hy
    rw [List.getElem?_map] at hx hy
    cases ha : zdom[a]? with
    | none => rw [ha] at hx; cases hx
    | some q =>
      cases hb : zdom[b]? with
      | none => rw [hb] at hy; cases hy
      | some r =>
        rw [ha] at hx; rw [hb] at hy
        cases hx; cases hy
        have : q = r := hI q (List.mem_of_getElem? ha) r (List.mem_of_getElem? hb) hxy
        subst this
        exact zdom_inj ha hb
  · unfold zL at hx
    rw [List.getElem?_map] at hx
    cases ha : zdom[a]? with
    | none => rw [ha] at hx; cases hx
    | some q =>
      rw [ha] at hx
      cases hx
      exact ⟨q, List.mem_of_getElem? ha, rfl⟩
theorem zA_in (G : ZG) {k i : Nat} (hk : i < zcnt k) : zA G (G.2.2.2 k i) := ⟨(k, i), zdom_in hk, rfl⟩
end
section
/-! ===== the judgement zT: a frame of a method over the pure picture; zC: a method's contract ===== -/
def zall : List Cond := lw_tbl.filter goodWord
def znwb : Cond → Bool
  | .fieldLinkNest .. => true
  | .methodLinkNest .. => true
  | _ => false
def znw : List Cond := tables_1.filter znwb
theorem zall_of {w : Cond} (h : w ∈ lw_tbl) (hg : goodWord w = true) : w ∈ zall := List.mem_filter.mpr ⟨h, hg⟩
theorem znw_of {w : Cond} (h : w ∈ tables_1) (hg : znwb w = true) : w ∈ znw := List.mem_filter.mpr ⟨h, hg⟩
theorem zall_good : GoodIn zall zall := fun w h => ⟨h, good_of_word (List.mem_filter.mp h).2⟩
theorem znw_on {w : Cond} (h : w ∈ znw) : w.onTables = true := by
  have := (List.mem_filter.mp h).2
  unfold znwb at this
  split at this
  · rfl
  · rfl
  · cases this
theorem znw_warm {w : Cond} (h : w ∈ znw) {s U : State} (hW : s.WarmedH U.vm) (hZ : va_Nw w s) : va_Nw w U := by
  have := (List.mem_filter.mp h).2
  unfold znwb at this
  split at this
  · exact va_Nw.warmF hW hZ
  · exact va_Nw.warmM hW hZ
  · cases this
def zty (G : ZG) : List (ClassId × FieldType) := [(G.2.2.1 0, .int), (G.2.2.1 1, .long), (G.2.2.1 2, .boolean), (G.2.2.1 3, .object "CornerstoneSought$Stone"), (G.2.2.1 4, .object "CornerstoneSought$Shelf")]
def zK (G : ZG) (U : State) : Prop := va_K G.2.1 vwCl (zty G) U ∧ (∀ w ∈ znw, va_Nw w U) ∧ zInj G
theorem zK.warm {G : ZG} {s U : State} (hW : s.WarmedH U.vm) (h : zK G s) : zK G U := ⟨va_K.moved hW.alike h.1, fun w hw => znw_warm hw hW (h.2.1 w hw), h.2.2⟩
theorem zK.same {G : ZG} {s U : State} (hv : s.vm = U.vm) (h : zK G s) : zK G U := ⟨va_K.moved (by rw [hv]; exact Vm.Alike.refl _) h.1, fun w hw => va_Nw.same (znw_on hw) hv (h.2.1 w hw), h.2.2⟩
/-- the one static table -/
def zbes (j : Nat) : Int32 := ([2, 5, 10, 4, 32, 80, 160, 64, 512, 1280, 2560, 1024] : List Int32).getD j 0
def zSt (G : ZG) (U : State) (H : Heap) : Prop := va_Z "CornerstoneSought" "BESIDE" "[I" (.ref (G.2.2.2 26 0)) (zA G) U H ∧ va_T .int (G.2.2.2 26 0) 12 (fun j => .int (zbes j)) (zA G) U H
theorem zSt.moved {G : ZG} {u U : State} {H : Heap} (hvm : u.vm.Alike U.vm) (h : zSt G u H) : zSt G U H := ⟨va_Z.moved hvm h.1, va_T.moved hvm h.2⟩
theorem zSt.kept {G : ZG} {U : State} {H H1 : Heap} (h : zSt G U H) (hq : ∀ a : Nat, a < H.size → ¬ zA G a → H1[a]? = H[a]?) : zSt G U H1 := ⟨h.1.kept hq, h.2.kept hq⟩
def zrm (d : Nat) : Room := { frames := d, cells := 0, slots := 0, locals := 48 * d }
/-- where a method ends: what it answers, the picture behind it, and that nothing else changed -/
def zQ (G : ZG) (Q : Option ZV → ZH → Prop) : Array Value → State → Outcome → State → Prop := fun _ st oc t => (∃ (r : Option ZV) (h : ZH), oc = .returned (r.map (zc G)) ∧ Q r h ∧ zW G h t.heap) ∧ va_F (zA G) st t
def zPc (G : ZG) (as : List ZV) (h : ZH) : Array Value → State → Prop := va_Pc (as.map (zc G)) (fun U => zW G h U.heap ∧ zK G U ∧ zSt G U U.heap)
theorem zPc_blind (G : ZG) (as : List ZV) (h : ZH) : FrameBlind (zPc G as h) := by
  intro a U g mk hp
  obtain ⟨h1, h2, h3, h4⟩ := hp
  exact ⟨h1, h2, zK.same (s := U) (U := U.calling g mk a) rfl h3, zSt.moved (u := U) (U := U.calling g mk a) (Vm.Alike.refl U.vm) h4⟩
def zws (M : ZM) : List Cond := .code M.1 M.2.1 M.2.2.1 M.2.2.2 :: zall
def zC (G : ZG) (d : Nat) (M : ZM) (as : List ZV) (h : ZH) (Q : Option ZV → ZH → Prop) : Prop := Met G.1 M.1 (zws M) (zrm d) (zPc G as h) (zQ G Q) 0 0 (zA G)
/-- the locals of a frame -/
def zlo (G : ZG) (ls : Array Slot) (nL : Nat) (L : List ZV) : Prop := ls.size = nL ∧ lv_wf ls ∧ ∀ (i : Nat) (v : ZV), L[i]? = some v → v ≠ zu → ls[i]? = some (.val (zc G v))
def zX (G : ZG) (M : ZM) (p : Program) (s : State) (m : MethodId) (args : Array Value) (meth : Method) (c : Code) : Prop :=
  p.tables.exec = Jvm.exec ∧ c.code = M.2.1 ∧ c.maxLocals = M.2.2.1 ∧ meth.sig.returnType = M.2.2.2 ∧ (∀ w ∈ zall, w.before args s = true) ∧ s.vm.findClass M.1.cls = some m.cls ∧ meth.locks = false ∧ zK G s ∧ zSt G s s.heap
def zT (G : ZG) (d : Nat) (M : ZM) (pc : Nat) (L S : List ZV) (h : ZH) (Q : Option ZV → ZH → Prop) : Prop :=
  ∀ (p : Program) (e : Env) (s : State) (m : MethodId) (args : Array Value) (below : List Frame) (meth : Method) (c : Code) (H : Heap) (locs : List Loc) (ls : Array Slot),
    zX G M p s m args meth c → va_S (zA G) s.heap H locs → zW G h H → zlo G ls M.2.2.1 L →
    W p G.1 e (zrm d) s m args below meth c H locs 0 0 (MQ below (zQ G Q) args s 0 0 (zA G)) (F0 m pc ls (S.map (zc G)))
/-- the list of locals that the arguments make -/
def zargs : List ZV → List ZV
  | [] => []
  | Sum.inr (Sum.inl x) :: as => zl x :: zu :: zargs as
  | v :: as => v :: zargs as
theorem zargs_sl (G : ZG) : ∀ (as : List ZV) (i : Nat) (v : ZV), (zargs as)[i]? = some v → v ≠ zu → (lg_sl (as.map (zc G)))[i]? = some (.val (zc G v)) := by
  intro as
  induction as with
  | nil => intro i v h; simp [zargs] at h
  | cons a as ih =>
    intro i v h hv
    rcases a with x | x | q | u
    · cases i with
      | zero => simp only [zargs, List.getElem?_cons_zero, Option.some.injEq] at h; subst h; rfl
      | succ i => simp only [zargs, List.getElem?_cons_succ] at h; have := ih i v h hv; simpa [lg_sl, zc, Value.category] using this
    · cases i with
      | zero => simp only [zargs, List.getElem?_cons_zero, Option.some.injEq] at h; subst h; rfl
      | succ i =>
        cases i with
        | zero => simp only [zargs, List.getElem?_cons_succ, List.getElem?_cons_zero, Option.some.injEq] at h; exact absurd h.symm hv
        | succ i => simp only [zargs, List.getElem?_cons_succ] at h; have := ih i v h hv; simpa [lg_sl, zc, Value.category] using this
    · cases i with
      | zero => simp only [zargs, List.getElem?_cons_zero, Option.some.injEq] at h; subst h; rfl
      | succ i => simp only [zargs, List.getElem?_cons_succ] at h; have := ih i v h hv; simpa [lg_sl, zc, Value.category] using this
    · cases i with
      | zero => simp only [zargs, List.getElem?_cons_zero, Option.some.injEq] at h; exact absurd h.symm hv
      | succ i => simp only [zargs, List.getElem?_cons_succ] at h; have := ih i v h hv; simpa [lg_sl, zc, Value.category] using this
theorem zlo_sub {G : ZG} {ls : Array Slot} {nL : Nat} {L L' : List ZV} (h : zlo G ls nL L) (hs : ∀ (i : Nat) (v : ZV), L'[i]? = some v → v ≠ zu → L[i]? = some v) : zlo G ls nL L' := ⟨h.1, h.2.1, fun i v hi hv => h.2.2 i v (hs i v hi hv) hv⟩
/-- L' says no more than L -/
def zleb : List ZV → List ZV → Prop
  | [], _ => True
  | Sum.inr (Sum.inr (Sum.inr _)) :: L', L => zleb L' L.tail
  | v :: L', L => L.head? = some v ∧ zleb L' L.tail
theorem zleb_get : ∀ (L' L : List ZV), zleb L' L → ∀ (i : Nat) (v : ZV), L'[i]? = some v → v ≠ zu → L[i]? = some v := by
  intro L'
  induction L' with
  | nil => intro L _ i v h; simp at h
  | cons a L' ih =>
    intro L hL i v h hv
    have key : a ≠ zu → L.head? = some a ∧ zleb L' L.tail := by
      intro ha
      rcases a with x | x | q | u
      · exact hL
      · exact hL
      · exact hL
      · exact absurd rfl ha
    have tl : zleb L' L.tail := by
      rcases a with x | x | q | u
      · exact hL.2
      · exact hL.2
      · exact hL.2
      · exact hL
    cases i with
    | zero =>
      simp only [List.getElem?_cons_zero, Option.some.injEq] at h
      subst h
      have := (key hv).1
      cases L with
      | nil => simp at this
      | cons b L => simpa using this
    | succ i =>
      simp only [List.getElem?_cons_succ] at h
      have := ih L.tail tl i v h hv
      cases L with
      | nil => simp at this
      | cons b L => simpa using this
theorem zargs_len (G : ZG) : ∀ (as : List ZV), (lg_sl (as.map (zc G))).length = (zargs as).length := by
  intro as
  induction as with
  | nil => rfl
  | cons a as ih =>
    rcases a with x | x | q | u
    · simpa [lg_sl, zc, Value.category, zargs] using ih
    · simpa [lg_sl, zc, Value.category, zargs] using ih
    · simpa [lg_sl, zc, Value.category, zargs] using ih
    · simpa [lg_sl, zc, Value.category, zargs] using ih
/-- a method's contract out of its entry -/
theorem zC_of {G : ZG} {d : Nat} {M : ZM} {as L : List ZV} {h : ZH} {Q : Option ZV → ZH → Prop} (hy : plainName M.1.cls = true) (hn : (zargs as).length ≤ M.2.2.1) (hL : zleb L (zargs as)) (k : zT G d M 0 L [] h Q) : zC G d M as h Q := by
  refine Met.ofW (cc := M.2.1) (maxL := M.2.2.1) (ret := M.2.2.2) hy rfl ?_
  intro p e s m args below meth c s₁ B hml hv
  obtain ⟨rfl, hW, hK, hSt⟩ := hv
  have hts := atoms_spec (ws := zws M) B.pre
  have hX : zX G M p s m (as.map (zc G)).toArray meth c := ⟨B.exec, B.bytes, hml, B.returns, fun w hw => hts w (List.mem_cons_of_mem _ hw), findClass_of_methodNamed B.named, B.notSynchronized, hK, hSt⟩
  rw [lg_entry_eq]
  have hl := lv_entry (as.map (zc G)) (n := M.2.2.1) (by rw [zargs_len]; exact hn)
  refine k p e s m _ below meth c s.heap [] _ hX va_S.rf hW ?_
  refine zlo_sub ?_ (zleb_get L (zargs as) hL)
  refine ⟨hl.1, hl.2.1, fun i v hi hv => ?_⟩
  have h1 := zargs_sl G as i v hi hv
  have h2 : i < (lg_sl (as.map (zc G))).length := (List.getElem?_eq_some_iff.mp h1).1
  rw [List.getElem?_toArray, List.getElem?_append_left h2]
  exact h1
theorem zC_mono {G : ZG} {d : Nat} {M : ZM} {as : List ZV} {h : ZH} {Q Q' : Option ZV → ZH → Prop} (k : zC G d M as h Q) (hq : ∀ r h', Q r h' → Q' r h') : zC G d M as h Q' := by
  intro p e h1 h2 h3 s m args below h4 h5 h6 h7
  obtain ⟨n, o, a1, a2, a3, ⟨⟨r, h', b1, b2, b3⟩, b4⟩, a5⟩ := k p e h1 h2 h3 s m args below h4 h5 h6 h7
  exact ⟨n, o, a1, a2, a3, ⟨⟨r, h', b1, hq r h' b2, b3⟩, b4⟩, a5⟩
theorem zT_mono {G : ZG} {d : Nat} {M : ZM} {pc : Nat} {L S : List ZV} {h : ZH} {Q Q' : Option ZV → ZH → Prop} (k : zT G d M pc L S h Q) (hq : ∀ r h', Q r h' → Q' r h') : zT G d M pc L S h Q' := by
  intro p e s m args below meth c H locs ls hX hS hW hL T hT X
  obtain ⟨t, a1, o, a2, a3, ⟨⟨r, h', b1, b2, b3⟩, b4⟩, a5⟩ := k p e s m args below meth c H locs ls hX hS hW hL T hT X
  exact ⟨t, a1, o, a2, a3, ⟨⟨r, h', b1, hq r h' b2, b3⟩, b4⟩, a5⟩
/-- the same frame with fewer locals told -/
theorem zt_sub {G : ZG} {d : Nat} {M : ZM} {pc : Nat} {L S : List ZV} {h : ZH} {Q : Option ZV → ZH → Prop} (L' : List ZV) (hs : zleb L' L) (k : zT G d M pc L' S h Q) : zT G d M pc L S h Q :=
  fun p e s m args below meth c H locs ls hX hS hW hL => k p e s m args below meth c H locs ls hX hS hW (zlo_sub hL (zleb_get L' L hs))
end
section
/-! ===== the rules of zT, one an instruction ===== -/
abbrev zD (cc : ByteArray) (pc pc' : Nat) (i : Instr) (n : Nat) : Prop := decode cc pc = .ok (i, n) ∧ pc' = pc + n
abbrev zB (cc : ByteArray) (pc pc' tgt : Nat) (i : Instr) (off : Int) : Prop := decode cc pc = .ok (i, 3) ∧ pc' = pc + 3 ∧ (pc : Int) + off = (tgt : Int)
theorem zt_iadd {G : ZG} {d : Nat} {M : ZM} {pc pc' : Nat} {L S : List ZV} {h : ZH} {Q : Option ZV → ZH → Prop} {x y : Int32} (hd : zD M.2.1 pc pc' .iadd 1) (k : zT G d M pc' L (zi (x + y) :: S) h Q) : zT G d M pc L (zi y :: zi x :: S) h Q := by
  obtain ⟨hd, rfl⟩ := hd
  intro p e s m args below meth c H locs ls hX hS hW hL
  obtain ⟨hx, hb, hml, hr, hts, hown, hlk, hK, hSt⟩ := id hX
  exact lv_iadd hx hb hd (k p e s m args below meth c H locs ls hX hS hW hL)
theorem zt_isub {G : ZG} {d : Nat} {M : ZM} {pc pc' : Nat} {L S : List ZV} {h : ZH} {Q : Option ZV → ZH → Prop} {x y : Int32} (hd : zD M.2.1 pc pc' .isub 1) (k : zT G d M pc' L (zi (x - y) :: S) h Q) : zT G d M pc L (zi y :: zi x :: S) h Q := by
  obtain ⟨hd, rfl⟩ := hd
  intro p e s m args below meth c H locs ls hX hS hW hL
  obtain ⟨hx, hb, hml, hr, hts, hown, hlk, hK, hSt⟩ := id hX
  exact lv_isub hx hb hd (k p e s m args below meth c H locs ls hX hS hW hL)
theorem zt_imul {G : ZG} {d : Nat} {M : ZM} {pc pc' : Nat} {L S : List ZV} {h : ZH} {Q : Option ZV → ZH → Prop} {x y : Int32} (hd : zD M.2.1 pc pc' .imul 1) (k : zT G d M pc' L (zi (x * y) :: S) h Q) : zT G d M pc L (zi y :: zi x :: S) h Q := by
  obtain ⟨hd, rfl⟩ := hd
  intro p e s m args below meth c H locs ls hX hS hW hL
  obtain ⟨hx, hb, hml, hr, hts, hown, hlk, hK, hSt⟩ := id hX
  exact lv_imul hx hb hd (k p e s m args below meth c H locs ls hX hS hW hL)
theorem zt_iand {G : ZG} {d : Nat} {M : ZM} {pc pc' : Nat} {L S : List ZV} {h : ZH} {Q : Option ZV → ZH → Prop} {x y : Int32} (hd : zD M.2.1 pc pc' .iand 1) (k : zT G d M pc' L (zi (x &&& y) :: S) h Q) : zT G d M pc L (zi y :: zi x :: S) h Q := by
  obtain ⟨hd, rfl⟩ := hd
  intro p e s m args below meth c H locs ls hX hS hW hL
  obtain ⟨hx, hb, hml, hr, hts, hown, hlk, hK, hSt⟩ := id hX
  exact lv_iand hx hb hd (k p e s m args below meth c H locs ls hX hS hW hL)
theorem zt_ior {G : ZG} {d : Nat} {M : ZM} {pc pc' : Nat} {L S : List ZV} {h : ZH} {Q : Option ZV → ZH → Prop} {x y : Int32} (hd : zD M.2.1 pc pc' .ior 1) (k : zT G d M pc' L (zi (x ||| y) :: S) h Q) : zT G d M pc L (zi y :: zi x :: S) h Q := by
  obtain ⟨hd, rfl⟩ := hd
  intro p e s m args below meth c H locs ls hX hS hW hL
  obtain ⟨hx, hb, hml, hr, hts, hown, hlk, hK, hSt⟩ := id hX
  exact lv_ior hx hb hd (k p e s m args below meth c H locs ls hX hS hW hL)
theorem zt_ixor {G : ZG} {d : Nat} {M : ZM} {pc pc' : Nat} {L S : List ZV} {h : ZH} {Q : Option ZV → ZH → Prop} {x y : Int32} (hd : zD M.2.1 pc pc' .ixor 1) (k : zT G d M pc' L (zi (x ^^^ y) :: S) h Q) : zT G d M pc L (zi y :: zi x :: S) h Q := by
  obtain ⟨hd, rfl⟩ := hd
  intro p e s m args below meth c H locs ls hX hS hW hL
  obtain ⟨hx, hb, hml, hr, hts, hown, hlk, hK, hSt⟩ := id hX
  exact lv_ixor hx hb hd (k p e s m args below meth c H locs ls hX hS hW hL)
theorem zt_ishl {G : ZG} {d : Nat} {M : ZM} {pc pc' : Nat} {L S : List ZV} {h : ZH} {Q : Option ZV → ZH → Prop} {x y : Int32} (hd : zD M.2.1 pc pc' .ishl 1) (k : zT G d M pc' L (zi (x <<< (y &&& 31)) :: S) h Q) : zT G d M pc L (zi y :: zi x :: S) h Q := by
  obtain ⟨hd, rfl⟩ := hd
  intro p e s m args below meth c H locs ls hX hS hW hL
  obtain ⟨hx, hb, hml, hr, hts, hown, hlk, hK, hSt⟩ := id hX
  exact lv_ishl hx hb hd (k p e s m args below meth c H locs ls hX hS hW hL)
theorem zt_ishr {G : ZG} {d : Nat} {M : ZM} {pc pc' : Nat} {L S : List ZV} {h : ZH} {Q : Option ZV → ZH → Prop} {x y : Int32} (hd : zD M.2.1 pc pc' .ishr 1) (k : zT G d M pc' L (zi (x >>> (y &&& 31)) :: S) h Q) : zT G d M pc L (zi y :: zi x :: S) h Q := by
  obtain ⟨hd, rfl⟩ := hd
  intro p e s m args below meth c H locs ls hX hS hW hL
  obtain ⟨hx, hb, hml, hr, hts, hown, hlk, hK, hSt⟩ := id hX
  exact lv_ishr hx hb hd (k p e s m args below meth c H locs ls hX hS hW hL)
theorem zt_iushr {G : ZG} {d : Nat} {M : ZM} {pc pc' : Nat} {L S : List ZV} {h : ZH} {Q : Option ZV → ZH → Prop} {x y : Int32} (hd : zD M.2.1 pc pc' .iushr 1) (k : zT G d M pc' L (zi ((x.toUInt32 >>> (y.toUInt32 &&& Int32.toUInt32 31)).toInt32) :: S) h Q) : zT G d M pc L (zi y :: zi x :: S) h Q := by
  obtain ⟨hd, rfl⟩ := hd
  intro p e s m args below meth c H locs ls hX hS hW hL
  obtain ⟨hx, hb, hml, hr, hts, hown, hlk, hK, hSt⟩ := id hX
  exact lv_iushr hx hb hd rfl (k p e s m args below meth c H locs ls hX hS hW hL)
theorem zt_idiv {G : ZG} {d : Nat} {M : ZM} {pc pc' : Nat} {L S : List ZV} {h : ZH} {Q : Option ZV → ZH → Prop} {x y : Int32} (hd : zD M.2.1 pc pc' .idiv 1) (hne : ¬ y = 0) (k : zT G d M pc' L (zi (x / y) :: S) h Q) : zT G d M pc L (zi y :: zi x :: S) h Q := by
  obtain ⟨hd, rfl⟩ := hd
  intro p e s m args below meth c H locs ls hX hS hW hL
  obtain ⟨hx, hb, hml, hr, hts, hown, hlk, hK, hSt⟩ := id hX
  exact lv_idiv hx hb hd hne (k p e s m args below meth c H locs ls hX hS hW hL)
theorem zt_irem {G : ZG} {d : Nat} {M : ZM} {pc pc' : Nat} {L S : List ZV} {h : ZH} {Q : Option ZV → ZH → Prop} {x y : Int32} (hd : zD M.2.1 pc pc' .irem 1) (hne : ¬ y = 0) (k : zT G d M pc' L (zi (x - x / y * y) :: S) h Q) : zT G d M pc L (zi y :: zi x :: S) h Q := by
  obtain ⟨hd, rfl⟩ := hd
  intro p e s m args below meth c H locs ls hX hS hW hL
  obtain ⟨hx, hb, hml, hr, hts, hown, hlk, hK, hSt⟩ := id hX
  exact lv_irem hx hb hd hne (k p e s m args below meth c H locs ls hX hS hW hL)
theorem zt_ineg {G : ZG} {d : Nat} {M : ZM} {pc pc' : Nat} {L S : List ZV} {h : ZH} {Q : Option ZV → ZH → Prop} {x : Int32} (hd : zD M.2.1 pc pc' .ineg 1) (k : zT G d M pc' L (zi (-x) :: S) h Q) : zT G d M pc L (zi x :: S) h Q := by
  obtain ⟨hd, rfl⟩ := hd
  intro p e s m args below meth c H locs ls hX hS hW hL
  obtain ⟨hx, hb, hml, hr, hts, hown, hlk, hK, hSt⟩ := id hX
  exact lv_ineg hx hb hd (k p e s m args below meth c H locs ls hX hS hW hL)
theorem zt_ladd {G : ZG} {d : Nat} {M : ZM} {pc pc' : Nat} {L S : List ZV} {h : ZH} {Q : Option ZV → ZH → Prop} {x y : Int64} (hd : zD M.2.1 pc pc' .ladd 1) (k : zT G d M pc' L (zl (x + y) :: S) h Q) : zT G d M pc L (zl y :: zl x :: S) h Q := by
  obtain ⟨hd, rfl⟩ := hd
  intro p e s m args below meth c H locs ls hX hS hW hL
  obtain ⟨hx, hb, hml, hr, hts, hown, hlk, hK, hSt⟩ := id hX
  exact lv_ladd hx hb hd (k p e s m args below meth c H locs ls hX hS hW hL)
theorem zt_lsub {G : ZG} {d : Nat} {M : ZM} {pc pc' : Nat} {L S : List ZV} {h : ZH} {Q : Option ZV → ZH → Prop} {x y : Int64} (hd : zD M.2.1 pc pc' .lsub 1) (k : zT G d M pc' L (zl (x - y) :: S) h Q) : zT G d M pc L (zl y :: zl x :: S) h Q := by
  obtain ⟨hd, rfl⟩ := hd
  intro p e s m args below meth c H locs ls hX hS hW hL
  obtain ⟨hx, hb, hml, hr, hts, hown, hlk, hK, hSt⟩ := id hX
  exact lv_lsub hx hb hd (k p e s m args below meth c H locs ls hX hS hW hL)
theorem zt_lmul {G : ZG} {d : Nat} {M : ZM} {pc pc' : Nat} {L S : List ZV} {h : ZH} {Q : Option ZV → ZH → Prop} {x y : Int64} (hd : zD M.2.1 pc pc' .lmul 1) (k : zT G d M pc' L (zl (x * y) :: S) h Q) : zT G d M pc L (zl y :: zl x :: S) h Q := by
  obtain ⟨hd, rfl⟩ := hd
  intro p e s m args below meth c H locs ls hX hS hW hL
  obtain ⟨hx, hb, hml, hr, hts, hown, hlk, hK, hSt⟩ := id hX
  exact lv_lmul hx hb hd (k p e s m args below meth c H locs ls hX hS hW hL)
theorem zt_land {G : ZG} {d : Nat} {M : ZM} {pc pc' : Nat} {L S : List ZV} {h : ZH} {Q : Option ZV → ZH → Prop} {x y : Int64} (hd : zD M.2.1 pc pc' .land 1) (k : zT G d M pc' L (zl (x &&& y) :: S) h Q) : zT G d M pc L (zl y :: zl x :: S) h Q := by
  obtain ⟨hd, rfl⟩ := hd
  intro p e s m args below meth c H locs ls hX hS hW hL
  obtain ⟨hx, hb, hml, hr, hts, hown, hlk, hK, hSt⟩ := id hX
  exact lv_land hx hb hd (k p e s m args below meth c H locs ls hX hS hW hL)
theorem zt_lor {G : ZG} {d : Nat} {M : ZM} {pc pc' : Nat} {L S : List ZV} {h : ZH} {Q : Option ZV → ZH → Prop} {x y : Int64} (hd : zD M.2.1 pc pc' .lor 1) (k : zT G d M pc' L (zl (x ||| y) :: S) h Q) : zT G d M pc L (zl y :: zl x :: S) h Q := by
  obtain ⟨hd, rfl⟩ := hd
  intro p e s m args below meth c H locs ls hX hS hW hL
  obtain ⟨hx, hb, hml, hr, hts, hown, hlk, hK, hSt⟩ := id hX
  exact lv_lor hx hb hd (k p e s m args below meth c H locs ls hX hS hW hL)
theorem zt_ldiv {G : ZG} {d : Nat} {M : ZM} {pc pc' : Nat} {L S : List ZV} {h : ZH} {Q : Option ZV → ZH → Prop} {x y : Int64} (hd : zD M.2.1 pc pc' .ldiv 1) (hne : ¬ y = 0) (k : zT G d M pc' L (zl (x / y) :: S) h Q) : zT G d M pc L (zl y :: zl x :: S) h Q := by
  obtain ⟨hd, rfl⟩ := hd
  intro p e s m args below meth c H locs ls hX hS hW hL
  obtain ⟨hx, hb, hml, hr, hts, hown, hlk, hK, hSt⟩ := id hX
  exact lv_ldiv hx hb hd hne (k p e s m args below meth c H locs ls hX hS hW hL)
theorem zt_lrem {G : ZG} {d : Nat} {M : ZM} {pc pc' : Nat} {L S : List ZV} {h : ZH} {Q : Option ZV → ZH → Prop} {x y : Int64} (hd : zD M.2.1 pc pc' .lrem 1) (hne : ¬ y = 0) (k : zT G d M pc' L (zl (x - x / y * y) :: S) h Q) : zT G d M pc L (zl y :: zl x :: S) h Q := by
  obtain ⟨hd, rfl⟩ := hd
  intro p e s m args below meth c H locs ls hX hS hW hL
  obtain ⟨hx, hb, hml, hr, hts, hown, hlk, hK, hSt⟩ := id hX
  exact lv_lrem hx hb hd hne (k p e s m args below meth c H locs ls hX hS hW hL)
theorem zt_lushr {G : ZG} {d : Nat} {M : ZM} {pc pc' : Nat} {L S : List ZV} {h : ZH} {Q : Option ZV → ZH → Prop} {x : Int64} {y : Int32} (hd : zD M.2.1 pc pc' .lushr 1) (k : zT G d M pc' L (zl ((x.toUInt64 >>> (y.toInt64.toUInt64 &&& Int64.toUInt64 63)).toInt64) :: S) h Q) : zT G d M pc L (zi y :: zl x :: S) h Q := by
  obtain ⟨hd, rfl⟩ := hd
  intro p e s m args below meth c H locs ls hX hS hW hL
  obtain ⟨hx, hb, hml, hr, hts, hown, hlk, hK, hSt⟩ := id hX
  exact lv_lushr hx hb hd rfl (k p e s m args below meth c H locs ls hX hS hW hL)
theorem zt_lshl {G : ZG} {d : Nat} {M : ZM} {pc pc' : Nat} {L S : List ZV} {h : ZH} {Q : Option ZV → ZH → Prop} {x : Int64} {y : Int32} (hd : zD M.2.1 pc pc' .lshl 1) (k : zT G d M pc' L (zl (x <<< (y.toInt64 &&& 63)) :: S) h Q) : zT G d M pc L (zi y :: zl x :: S) h Q := by
  obtain ⟨hd, rfl⟩ := hd
  intro p e s m args below meth c H locs ls hX hS hW hL
  obtain ⟨hx, hb, hml, hr, hts, hown, hlk, hK, hSt⟩ := id hX
  exact lv_lshl hx hb hd rfl (k p e s m args below meth c H locs ls hX hS hW hL)
theorem zt_lshr {G : ZG} {d : Nat} {M : ZM} {pc pc' : Nat} {L S : List ZV} {h : ZH} {Q : Option ZV → ZH → Prop} {x : Int64} {y : Int32} (hd : zD M.2.1 pc pc' .lshr 1) (k : zT G d M pc' L (zl (x >>> (y.toInt64 &&& 63)) :: S) h Q) : zT G d M pc L (zi y :: zl x :: S) h Q := by
  obtain ⟨hd, rfl⟩ := hd
  intro p e s m args below meth c H locs ls hX hS hW hL
  obtain ⟨hx, hb, hml, hr, hts, hown, hlk, hK, hSt⟩ := id hX
  exact lv_lshr hx hb hd rfl (k p e s m args below meth c H locs ls hX hS hW hL)
theorem zt_lcmp {G : ZG} {d : Nat} {M : ZM} {pc pc' : Nat} {L S : List ZV} {h : ZH} {Q : Option ZV → ZH → Prop} {x y : Int64} (hd : zD M.2.1 pc pc' .lcmp 1) (k : zT G d M pc' L (zi (lg_cmp x y) :: S) h Q) : zT G d M pc L (zl y :: zl x :: S) h Q := by
  obtain ⟨hd, rfl⟩ := hd
  intro p e s m args below meth c H locs ls hX hS hW hL
  obtain ⟨hx, hb, hml, hr, hts, hown, hlk, hK, hSt⟩ := id hX
  exact W.lcmp hx hb hd (k p e s m args below meth c H locs ls hX hS hW hL)
theorem zt_i2l {G : ZG} {d : Nat} {M : ZM} {pc pc' : Nat} {L S : List ZV} {h : ZH} {Q : Option ZV → ZH → Prop} {x : Int32} (hd : zD M.2.1 pc pc' .i2l 1) (k : zT G d M pc' L (zl x.toInt64 :: S) h Q) : zT G d M pc L (zi x :: S) h Q := by
  obtain ⟨hd, rfl⟩ := hd
  intro p e s m args below meth c H locs ls hX hS hW hL
  obtain ⟨hx, hb, hml, hr, hts, hown, hlk, hK, hSt⟩ := id hX
  exact lv_i2l hx hb hd rfl (k p e s m args below meth c H locs ls hX hS hW hL)
theorem zt_l2i {G : ZG} {d : Nat} {M : ZM} {pc pc' : Nat} {L S : List ZV} {h : ZH} {Q : Option ZV → ZH → Prop} {x : Int64} (hd : zD M.2.1 pc pc' .l2i 1) (k : zT G d M pc' L (zi x.toInt32 :: S) h Q) : zT G d M pc L (zl x :: S) h Q := by
  obtain ⟨hd, rfl⟩ := hd
  intro p e s m args below meth c H locs ls hX hS hW hL
  obtain ⟨hx, hb, hml, hr, hts, hown, hlk, hK, hSt⟩ := id hX
  exact lv_l2i hx hb hd rfl (k p e s m args below meth c H locs ls hX hS hW hL)
theorem zt_i2b {G : ZG} {d : Nat} {M : ZM} {pc pc' : Nat} {L S : List ZV} {h : ZH} {Q : Option ZV → ZH → Prop} {x : Int32} (hd : zD M.2.1 pc pc' .i2b 1) (k : zT G d M pc' L (zi x.toInt8.toInt32 :: S) h Q) : zT G d M pc L (zi x :: S) h Q := by
  obtain ⟨hd, rfl⟩ := hd
  intro p e s m args below meth c H locs ls hX hS hW hL
  obtain ⟨hx, hb, hml, hr, hts, hown, hlk, hK, hSt⟩ := id hX
  exact lv_i2b hx hb hd rfl (k p e s m args below meth c H locs ls hX hS hW hL)
theorem zt_i2s {G : ZG} {d : Nat} {M : ZM} {pc pc' : Nat} {L S : List ZV} {h : ZH} {Q : Option ZV → ZH → Prop} {x : Int32} (hd : zD M.2.1 pc pc' .i2s 1) (k : zT G d M pc' L (zi x.toInt16.toInt32 :: S) h Q) : zT G d M pc L (zi x :: S) h Q := by
  obtain ⟨hd, rfl⟩ := hd
  intro p e s m args below meth c H locs ls hX hS hW hL
  obtain ⟨hx, hb, hml, hr, hts, hown, hlk, hK, hSt⟩ := id hX
  exact lv_i2s hx hb hd rfl (k p e s m args below meth c H locs ls hX hS hW hL)
theorem zt_iconst {G : ZG} {d : Nat} {M : ZM} {pc pc' : Nat} {L S : List ZV} {h : ZH} {Q : Option ZV → ZH → Prop} {n : Int} {v : Int32} (hd : zD M.2.1 pc pc' (.iconst n) 1) (hv : Int32.ofInt n = v) (k : zT G d M pc' L (zi v :: S) h Q) : zT G d M pc L S h Q := by
  obtain ⟨hd, rfl⟩ := hd
  intro p e s m args below meth c H locs ls hX hS hW hL
  obtain ⟨hx, hb, hml, hr, hts, hown, hlk, hK, hSt⟩ := id hX
  exact lv_iconst hx hb hd hv (k p e s m args below meth c H locs ls hX hS hW hL)
theorem zt_bipush {G : ZG} {d : Nat} {M : ZM} {pc pc' : Nat} {L S : List ZV} {h : ZH} {Q : Option ZV → ZH → Prop} {n : Int} {v : Int32} (hd : zD M.2.1 pc pc' (.bipush n) 2) (hv : (Int8.ofInt n).toInt32 = v) (k : zT G d M pc' L (zi v :: S) h Q) : zT G d M pc L S h Q := by
  obtain ⟨hd, rfl⟩ := hd
  intro p e s m args below meth c H locs ls hX hS hW hL
  obtain ⟨hx, hb, hml, hr, hts, hown, hlk, hK, hSt⟩ := id hX
  exact lv_bipush hx hb hd hv (k p e s m args below meth c H locs ls hX hS hW hL)
theorem zt_sipush {G : ZG} {d : Nat} {M : ZM} {pc pc' : Nat} {L S : List ZV} {h : ZH} {Q : Option ZV → ZH → Prop} {n : Int} {v : Int32} (hd : zD M.2.1 pc pc' (.sipush n) 3) (hv : (Int16.ofInt n).toInt32 = v) (k : zT G d M pc' L (zi v :: S) h Q) : zT G d M pc L S h Q := by
  obtain ⟨hd, rfl⟩ := hd
  intro p e s m args below meth c H locs ls hX hS hW hL
  obtain ⟨hx, hb, hml, hr, hts, hown, hlk, hK, hSt⟩ := id hX
  exact lv_sipush hx hb hd hv (k p e s m args below meth c H locs ls hX hS hW hL)
theorem zt_lconst {G : ZG} {d : Nat} {M : ZM} {pc pc' : Nat} {L S : List ZV} {h : ZH} {Q : Option ZV → ZH → Prop} {n : Fin 2} {v : Int64} (hd : zD M.2.1 pc pc' (.lconst n) 1) (hv : Int64.ofNat (n : Nat) = v) (k : zT G d M pc' L (zl v :: S) h Q) : zT G d M pc L S h Q := by
  obtain ⟨hd, rfl⟩ := hd
  intro p e s m args below meth c H locs ls hX hS hW hL
  obtain ⟨hx, hb, hml, hr, hts, hown, hlk, hK, hSt⟩ := id hX
  exact lv_lconst hx hb hd hv (k p e s m args below meth c H locs ls hX hS hW hL)
theorem zt_ldc {G : ZG} {d : Nat} {M : ZM} {pc pc' : Nat} {L S : List ZV} {h : ZH} {Q : Option ZV → ZH → Prop} {index : Nat} {v : Int32} (hd : zD M.2.1 pc pc' (.ldc index) 2) (hw : Cond.constant M.1.cls index v ∈ zall) (k : zT G d M pc' L (zi v :: S) h Q) : zT G d M pc L S h Q := by
  obtain ⟨hd, rfl⟩ := hd
  intro p e s m args below meth c H locs ls hX hS hW hL
  obtain ⟨hx, hb, hml, hr, hts, hown, hlk, hK, hSt⟩ := id hX
  exact lv_ldc hx hb hown (hts _ hw) hd (k p e s m args below meth c H locs ls hX hS hW hL)
theorem zt_ldcw {G : ZG} {d : Nat} {M : ZM} {pc pc' : Nat} {L S : List ZV} {h : ZH} {Q : Option ZV → ZH → Prop} {index : Nat} {v : Int32} (hd : zD M.2.1 pc pc' (.ldc_w index) 3) (hw : Cond.constant M.1.cls index v ∈ zall) (k : zT G d M pc' L (zi v :: S) h Q) : zT G d M pc L S h Q := by
  obtain ⟨hd, rfl⟩ := hd
  intro p e s m args below meth c H locs ls hX hS hW hL
  obtain ⟨hx, hb, hml, hr, hts, hown, hlk, hK, hSt⟩ := id hX
  exact lv_ldcw hx hb hown (hts _ hw) hd (k p e s m args below meth c H locs ls hX hS hW hL)
theorem zt_ldc2 {G : ZG} {d : Nat} {M : ZM} {pc pc' : Nat} {L S : List ZV} {h : ZH} {Q : Option ZV → ZH → Prop} {index : Nat} {v : Int64} (hd : zD M.2.1 pc pc' (.ldc2_w index) 3) (hw : Cond.constantLong M.1.cls index v ∈ zall) (k : zT G d M pc' L (zl v :: S) h Q) : zT G d M pc L S h Q := by
  obtain ⟨hd, rfl⟩ := hd
  intro p e s m args below meth c H locs ls hX hS hW hL
  obtain ⟨hx, hb, hml, hr, hts, hown, hlk, hK, hSt⟩ := id hX
  exact lv_ldc2 hx hb hown (hts _ hw) hd (k p e s m args below meth c H locs ls hX hS hW hL)
theorem zt_iload_n {G : ZG} {d : Nat} {M : ZM} {pc pc' : Nat} {L S : List ZV} {h : ZH} {Q : Option ZV → ZH → Prop} {n : Fin 4} {x : Int32} (hd : zD M.2.1 pc pc' (.iload_n n) 1) (hl : L[(n : Nat)]? = some (zi x)) (k : zT G d M pc' L (zi x :: S) h Q) : zT G d M pc L S h Q := by
  obtain ⟨hd, rfl⟩ := hd
  intro p e s m args below meth c H locs ls hX hS hW hL
  obtain ⟨hx, hb, hml, hr, hts, hown, hlk, hK, hSt⟩ := id hX
  exact lv_iload_n hx hb hd rfl (hL.2.2 _ _ hl (by intro q; cases q)) (k p e s m args below meth c H locs ls hX hS hW hL)
theorem zt_iload {G : ZG} {d : Nat} {M : ZM} {pc pc' : Nat} {L S : List ZV} {h : ZH} {Q : Option ZV → ZH → Prop} {n : Nat} {x : Int32} (hd : zD M.2.1 pc pc' (.iload n) 2) (hl : L[n]? = some (zi x)) (k : zT G d M pc' L (zi x :: S) h Q) : zT G d M pc L S h Q := by
  obtain ⟨hd, rfl⟩ := hd
  intro p e s m args below meth c H locs ls hX hS hW hL
  obtain ⟨hx, hb, hml, hr, hts, hown, hlk, hK, hSt⟩ := id hX
  exact lv_iload hx hb hd (hL.2.2 _ _ hl (by intro q; cases q)) (k p e s m args below meth c H locs ls hX hS hW hL)
theorem zt_lload_n {G : ZG} {d : Nat} {M : ZM} {pc pc' : Nat} {L S : List ZV} {h : ZH} {Q : Option ZV → ZH → Prop} {n : Fin 4} {x : Int64} (hd : zD M.2.1 pc pc' (.lload_n n) 1) (hl : L[(n : Nat)]? = some (zl x)) (k : zT G d M pc' L (zl x :: S) h Q) : zT G d M pc L S h Q := by
  obtain ⟨hd, rfl⟩ := hd
  intro p e s m args below meth c H locs ls hX hS hW hL
  obtain ⟨hx, hb, hml, hr, hts, hown, hlk, hK, hSt⟩ := id hX
  exact lv_lload_n hx hb hd rfl (hL.2.2 _ _ hl (by intro q; cases q)) (k p e s m args below meth c H locs ls hX hS hW hL)
theorem zt_lload {G : ZG} {d : Nat} {M : ZM} {pc pc' : Nat} {L S : List ZV} {h : ZH} {Q : Option ZV → ZH → Prop} {n : Nat} {x : Int64} (hd : zD M.2.1 pc pc' (.lload n) 2) (hl : L[n]? = some (zl x)) (k : zT G d M pc' L (zl x :: S) h Q) : zT G d M pc L S h Q := by
  obtain ⟨hd, rfl⟩ := hd
  intro p e s m args below meth c H locs ls hX hS hW hL
  obtain ⟨hx, hb, hml, hr, hts, hown, hlk, hK, hSt⟩ := id hX
  exact lv_lload hx hb hd (hL.2.2 _ _ hl (by intro q; cases q)) (k p e s m args below meth c H locs ls hX hS hW hL)
theorem zt_aload_n {G : ZG} {d : Nat} {M : ZM} {pc pc' : Nat} {L S : List ZV} {h : ZH} {Q : Option ZV → ZH → Prop} {n : Fin 4} {a b : Nat} (hd : zD M.2.1 pc pc' (.aload_n n) 1) (hl : L[(n : Nat)]? = some (zr a b)) (k : zT G d M pc' L (zr a b :: S) h Q) : zT G d M pc L S h Q := by
  obtain ⟨hd, rfl⟩ := hd
  intro p e s m args below meth c H locs ls hX hS hW hL
  obtain ⟨hx, hb, hml, hr, hts, hown, hlk, hK, hSt⟩ := id hX
  exact lv_aload_n hx hb hd rfl (hL.2.2 _ _ hl (by intro q; cases q)) (k p e s m args below meth c H locs ls hX hS hW hL)
theorem zt_aload {G : ZG} {d : Nat} {M : ZM} {pc pc' : Nat} {L S : List ZV} {h : ZH} {Q : Option ZV → ZH → Prop} {n : Nat} {a b : Nat} (hd : zD M.2.1 pc pc' (.aload n) 2) (hl : L[n]? = some (zr a b)) (k : zT G d M pc' L (zr a b :: S) h Q) : zT G d M pc L S h Q := by
  obtain ⟨hd, rfl⟩ := hd
  intro p e s m args below meth c H locs ls hX hS hW hL
  obtain ⟨hx, hb, hml, hr, hts, hown, hlk, hK, hSt⟩ := id hX
  exact lv_aload hx hb hd (hL.2.2 _ _ hl (by intro q; cases q)) (k p e s m args below meth c H locs ls hX hS hW hL)
theorem zcat1 (G : ZG) {v : ZV} (hv : ∀ x, v ≠ zl x) : (zc G v).category = 1 := by
  rcases v with x | x | q | u
  · rfl
  · exact absurd rfl (hv x)
  · rfl
  · rfl
/-- storing into a local: of one slot, of two -/
def zst1 : List ZV → Nat → ZV → List ZV
  | [], _, _ => []
  | _ :: L, 0, v => v :: L
  | Sum.inr (Sum.inl _) :: L, 1, v => zu :: zst1 L 0 v
  | a :: L, i + 1, v => a :: zst1 L i v
def zst2 : List ZV → Nat → Int64 → List ZV
  | _ :: _ :: L, 0, v => zl v :: zu :: L
  | Sum.inr (Sum.inl _) :: L, 1, v => zu :: zst2 L 0 v
  | a :: L, i + 1, v => a :: zst2 L i v
  | _, _, _ => []
theorem zst1_get : ∀ (L : List ZV) (i : Nat) (v : ZV) (j : Nat) (w : ZV), (zst1 L i v)[j]? = some w → w ≠ zu → (j = i ∧ w = v) ∨ (j ≠ i ∧ L[j]? = some w ∧ ¬ (j + 1 = i ∧ ∃ x, w = zl x)) := by
  intro L
  induction L with
  | nil => intro i v j w h; simp [zst1] at h
  | cons a L ih =>
    intro i v j w h hw
    match i with
    | 0 =>
      simp only [zst1] at h
      cases j with
      | zero => simp only [List.getElem?_cons_zero, Option.some.injEq] at h; exact Or.inl ⟨rfl, h.symm⟩
      | succ j => simp only [List.getElem?_cons_succ] at h; exact Or.inr ⟨by omega, by simpa using h, by omega⟩
    | 1 =>
      rcases a with x | x | q | u
      all_goals
        simp only [zst1] at h
        cases j with
        | zero =>
          simp only [List.getElem?_cons_zero, Option.some.injEq] at h
          subst h
          first
            | exact absurd rfl hw
            | exact Or.inr ⟨by omega, rfl, fun q => by obtain ⟨-, x, hx⟩ := q; cases hx⟩
        | succ j =>
          simp only [List.getElem?_cons_succ] at h
          rcases ih 0 v j w h hw with ⟨e1, e2⟩ | ⟨e1, e2, e3⟩
          · exact Or.inl ⟨by omega, e2⟩
          · exact Or.inr ⟨by omega, by simpa using e2, by omega⟩
    | i + 2 =>
      have hz : zst1 (a :: L) (i + 2) v = a :: zst1 L (i + 1) v := by
        rcases a with x | x | q | u <;> rfl
      rw [hz] at h
      cases j with
      | zero => simp only [List.getElem?_cons_zero, Option.some.injEq] at h; subst h; exact Or.inr ⟨by omega, rfl, by omega⟩
      | succ j =>
        simp only [List.getElem?_cons_succ] at h
        rcases ih (i + 1) v j w h hw with ⟨e1, e2⟩ | ⟨e1, e2, e3⟩
        · exact Or.inl ⟨by omega, e2⟩
        · exact Or.inr ⟨by omega, by simpa using e2, fun q => e3 ⟨by omega, q.2⟩⟩
theorem zst2_get : ∀ (L : List ZV) (i : Nat) (v : Int64) (j : Nat) (w : ZV), (zst2 L i v)[j]? = some w → w ≠ zu → (j = i ∧ w = zl v) ∨ (j ≠ i ∧ j ≠ i + 1 ∧ L[j]? = some w ∧ ¬ (j + 1 = i ∧ ∃ x, w = zl x)) := by
  intro L
  induction L with
  | nil => intro i v j w h; simp [zst2] at h
  | cons a L ih =>
    intro i v j w h hw
    match i with
    | 0 =>
      cases L with
      | nil => rcases a with x | x | q | u <;> simp [zst2] at h
      | cons b L =>
        simp only [zst2] at h
        match j with
        | 0 => simp only [List.getElem?_cons_zero, Option.some.injEq] at h; exact Or.inl ⟨rfl, h.symm⟩
        | 1 => simp only [List.getElem?_cons_succ, List.getElem?_cons_zero, Option.some.injEq] at h; exact absurd h.symm hw
        | j + 2 => simp only [List.getElem?_cons_succ] at h; exact Or.inr ⟨by omega, by omega, by simpa using h, by omega⟩
    | 1 =>
      rcases a with x | x | q | u
      all_goals
        simp only [zst2] at h
        cases j with
        | zero =>
          simp only [List.getElem?_cons_zero, Option.some.injEq] at h
          subst h
          first
            | exact absurd rfl hw
            | exact Or.inr ⟨by omega, by omega, rfl, fun q => by obtain ⟨-, x, hx⟩ := q; cases hx⟩
        | succ j =>
          simp only [List.getElem?_cons_succ] at h
          rcases ih 0 v j w h hw with ⟨e1, e2⟩ | ⟨e1, e1', e2, e3⟩
          · exact Or.inl ⟨by omega, e2⟩
          · exact Or.inr ⟨by omega, by omega, by simpa using e2, by omega⟩
    | i + 2 =>
      have hz : zst2 (a :: L) (i + 2) v = a :: zst2 L (i + 1) v := by
        rcases a with x | x | q | u <;> cases L <;> rfl
      rw [hz] at h
      cases j with
      | zero => simp only [List.getElem?_cons_zero, Option.some.injEq] at h; subst h; exact Or.inr ⟨by omega, by omega, rfl, by omega⟩
      | succ j =>
        simp only [List.getElem?_cons_succ] at h
        rcases ih (i + 1) v j w h hw with ⟨e1, e2⟩ | ⟨e1, e1', e2, e3⟩
        · exact Or.inl ⟨by omega, e2⟩
        · exact Or.inr ⟨by omega, by omega, by simpa using e2, fun q => e3 ⟨by omega, q.2⟩⟩
/-- the listed locals, as the kit has them -/
def zas (G : ZG) (L : List ZV) : List (Nat × Value) := (List.range L.length).filterMap (fun i => match L[i]? with
  | some (Sum.inr (Sum.inr (Sum.inr _))) => none
  | some v => some (i, zc G v)
  | none => none)
theorem zas_mem (G : ZG) {L : List ZV} {i : Nat} {v : ZV} (h : L[i]? = some v) (hv : v ≠ zu) : (i, zc G v) ∈ zas G L := by
  refine List.mem_filterMap.mpr ⟨i, List.mem_range.mpr (List.getElem?_eq_some_iff.mp h).1, ?_⟩
  rw [h]
  rcases v with x | x | q | u
  · rfl
  · rfl
  · rfl
  · exact absurd rfl hv
theorem zas_has {G : ZG} {ls : Array Slot} {nL : Nat} {L : List ZV} (h : zlo G ls nL L) : lv_has ls nL (zas G L) := by
  refine ⟨h.1, h.2.1, fun q hq => ?_⟩
  obtain ⟨i, -, hi⟩ := List.mem_filterMap.mp hq
  cases hx : L[i]? with
  | none => rw [hx] at hi; cases hi
  | some v =>
    rw [hx] at hi
    rcases v with x | x | r | u
    · cases hi; exact h.2.2 i _ hx (by intro q; cases q)
    · cases hi; exact h.2.2 i _ hx (by intro q; cases q)
    · cases hi; exact h.2.2 i _ hx (by intro q; cases q)
    · cases hi
theorem zc_cat2 {G : ZG} {v : ZV} (h : (zc G v).category = 2) : ∃ x, v = zl x := by
  rcases v with x | x | q | u
  · cases h
  · exact ⟨x, rfl⟩
  · cases h
  · cases h
theorem zlo_st1 {G : ZG} {ls : Array Slot} {nL : Nat} {L : List ZV} {i : Nat} {v : ZV} (h : lv_has ls nL ((i, zc G v) :: (zas G L).filter (fun q => !(q.1 == i) && !(q.1 + 1 == i && q.2.category == 2)))) : zlo G ls nL (zst1 L i v) := by
  refine ⟨h.1, h.2.1, fun j w hj hw => ?_⟩
  rcases zst1_get L i v j w hj hw with ⟨e1, e2⟩ | ⟨e1, e2, e3⟩
  · subst e1; subst e2
    exact h.2.2 (j, zc G w) List.mem_cons_self
  · refine h.2.2 (j, zc G w) (List.mem_cons_of_mem _ (List.mem_filter.mpr ⟨zas_mem G e2 hw, ?_⟩))
    simp only [Bool.and_eq_true, Bool.not_eq_true', beq_eq_false_iff_ne, ne_eq, Bool.and_eq_false_iff]
    refine ⟨e1, ?_⟩
    by_cases hji : j + 1 = i
    · exact Or.inr (fun q => e3 ⟨hji, zc_cat2 q⟩)
    · exact Or.inl hji
theorem zlo_st2 {G : ZG} {ls : Array Slot} {nL : Nat} {L : List ZV} {i : Nat} {v : Int64} (h : lv_has ls nL ((i, Value.long v) :: (zas G L).filter (fun q => !(q.1 == i) && (!(q.1 == i + 1) && !(q.1 + 1 == i && q.2.category == 2))))) : zlo G ls nL (zst2 L i v) := by
  refine ⟨h.1, h.2.1, fun j w hj hw => ?_⟩
  rcases zst2_get L i v j w hj hw with ⟨e1, e2⟩ | ⟨e1, e1', e2, e3⟩
  · subst e1; subst e2
    exact h.2.2 (j, Value.long v) List.mem_cons_self
  · refine h.2.2 (j, zc G w) (List.mem_cons_of_mem _ (List.mem_filter.mpr ⟨zas_mem G e2 hw, ?_⟩))
    simp only [Bool.and_eq_true, Bool.not_eq_true', beq_eq_false_iff_ne, ne_eq, Bool.and_eq_false_iff]
    refine ⟨e1, e1', ?_⟩
    by_cases hji : j + 1 = i
    · exact Or.inr (fun q => e3 ⟨hji, zc_cat2 q⟩)
    · exact Or.inl hji
theorem zt_istore_n {G : ZG} {d : Nat} {M : ZM} {pc pc' : Nat} {L S : List ZV} {h : ZH} {Q : Option ZV → ZH → Prop} {L' : List ZV} {n : Fin 4} {x : Int32} (hd : zD M.2.1 pc pc' (.istore_n n) 1) (hn : (n : Nat) < M.2.2.1) (hl : zst1 L (n : Nat) (zi x) = L') (k : zT G d M pc' L' S h Q) : zT G d M pc L (((zi x)) :: S) h Q := by
  obtain ⟨hd, rfl⟩ := hd
  intro p e s m args below meth c H locs ls hX hS hW hL
  obtain ⟨hx, hb, hml, hr, hts, hown, hlk, hK, hSt⟩ := id hX
  subst hl
  exact lv_istore_n hx hb hd rfl (zas_has hL) hn rfl (fun ls h1 => k p e s m args below meth c H locs ls hX hS hW (zlo_st1 (v := (zi x)) h1))
theorem zt_istore {G : ZG} {d : Nat} {M : ZM} {pc pc' : Nat} {L S : List ZV} {h : ZH} {Q : Option ZV → ZH → Prop} {L' : List ZV} {n : Nat} {x : Int32} (hd : zD M.2.1 pc pc' (.istore n) 2) (hn : n < M.2.2.1) (hl : zst1 L n (zi x) = L') (k : zT G d M pc' L' S h Q) : zT G d M pc L (((zi x)) :: S) h Q := by
  obtain ⟨hd, rfl⟩ := hd
  intro p e s m args below meth c H locs ls hX hS hW hL
  obtain ⟨hx, hb, hml, hr, hts, hown, hlk, hK, hSt⟩ := id hX
  subst hl
  exact lv_istore hx hb hd (zas_has hL) hn rfl (fun ls h1 => k p e s m args below meth c H locs ls hX hS hW (zlo_st1 (v := (zi x)) h1))
theorem zt_lstore_n {G : ZG} {d : Nat} {M : ZM} {pc pc' : Nat} {L S : List ZV} {h : ZH} {Q : Option ZV → ZH → Prop} {L' : List ZV} {n : Fin 4} {x : Int64} (hd : zD M.2.1 pc pc' (.lstore_n n) 1) (hn : (n : Nat) + 1 < M.2.2.1) (hl : zst2 L (n : Nat) x = L') (k : zT G d M pc' L' S h Q) : zT G d M pc L ((zl x) :: S) h Q := by
  obtain ⟨hd, rfl⟩ := hd
  intro p e s m args below meth c H locs ls hX hS hW hL
  obtain ⟨hx, hb, hml, hr, hts, hown, hlk, hK, hSt⟩ := id hX
  subst hl
  exact lv_lstore_n hx hb hd rfl (zas_has hL) hn rfl (fun ls h1 => k p e s m args below meth c H locs ls hX hS hW (zlo_st2 h1))
theorem zt_lstore {G : ZG} {d : Nat} {M : ZM} {pc pc' : Nat} {L S : List ZV} {h : ZH} {Q : Option ZV → ZH → Prop} {L' : List ZV} {n : Nat} {x : Int64} (hd : zD M.2.1 pc pc' (.lstore n) 2) (hn : n + 1 < M.2.2.1) (hl : zst2 L n x = L') (k : zT G d M pc' L' S h Q) : zT G d M pc L ((zl x) :: S) h Q := by
  obtain ⟨hd, rfl⟩ := hd
  intro p e s m args below meth c H locs ls hX hS hW hL
  obtain ⟨hx, hb, hml, hr, hts, hown, hlk, hK, hSt⟩ := id hX
  subst hl
  exact lv_lstore hx hb hd (zas_has hL) hn rfl (fun ls h1 => k p e s m args below meth c H locs ls hX hS hW (zlo_st2 h1))
theorem zt_astore_n {G : ZG} {d : Nat} {M : ZM} {pc pc' : Nat} {L S : List ZV} {h : ZH} {Q : Option ZV → ZH → Prop} {L' : List ZV} {n : Fin 4} {a b : Nat} (hd : zD M.2.1 pc pc' (.astore_n n) 1) (hn : (n : Nat) < M.2.2.1) (hl : zst1 L (n : Nat) (zr a b) = L') (k : zT G d M pc' L' S h Q) : zT G d M pc L (((zr a b)) :: S) h Q := by
  obtain ⟨hd, rfl⟩ := hd
  intro p e s m args below meth c H locs ls hX hS hW hL
  obtain ⟨hx, hb, hml, hr, hts, hown, hlk, hK, hSt⟩ := id hX
  subst hl
  exact lv_astore_n hx hb hd rfl (zas_has hL) hn rfl (fun ls h1 => k p e s m args below meth c H locs ls hX hS hW (zlo_st1 (v := (zr a b)) h1))
theorem zt_astore {G : ZG} {d : Nat} {M : ZM} {pc pc' : Nat} {L S : List ZV} {h : ZH} {Q : Option ZV → ZH → Prop} {L' : List ZV} {n : Nat} {a b : Nat} (hd : zD M.2.1 pc pc' (.astore n) 2) (hn : n < M.2.2.1) (hl : zst1 L n (zr a b) = L') (k : zT G d M pc' L' S h Q) : zT G d M pc L (((zr a b)) :: S) h Q := by
  obtain ⟨hd, rfl⟩ := hd
  intro p e s m args below meth c H locs ls hX hS hW hL
  obtain ⟨hx, hb, hml, hr, hts, hown, hlk, hK, hSt⟩ := id hX
  subst hl
  exact lv_astore hx hb hd (zas_has hL) hn rfl (fun ls h1 => k p e s m args below meth c H locs ls hX hS hW (zlo_st1 (v := (zr a b)) h1))
theorem zt_iinc {G : ZG} {d : Nat} {M : ZM} {pc pc' : Nat} {L S : List ZV} {h : ZH} {Q : Option ZV → ZH → Prop} {L' : List ZV} {i : Nat} {n : Int} {x v : Int32} (hd : zD M.2.1 pc pc' (.iinc i n) 3) (hi : L[i]? = some (zi x)) (hv : x + Int32.ofInt n = v) (hn : i < M.2.2.1) (hl : zst1 L i (zi v) = L') (k : zT G d M pc' L' S h Q) : zT G d M pc L S h Q := by
  obtain ⟨hd, rfl⟩ := hd
  intro p e s m args below meth c H locs ls hX hS hW hL
  obtain ⟨hx, hb, hml, hr, hts, hown, hlk, hK, hSt⟩ := id hX
  subst hl
  obtain ⟨q, hq⟩ := List.getElem?_of_mem (zas_mem G hi (by intro q; cases q))
  exact lv_iinc hx hb hd (zas_has hL) hq hv hn rfl (fun ls h1 => k p e s m args below meth c H locs ls hX hS hW (zlo_st1 (v := zi v) h1))
theorem zt_dup {G : ZG} {d : Nat} {M : ZM} {pc pc' : Nat} {L S : List ZV} {h : ZH} {Q : Option ZV → ZH → Prop} {v : ZV} (hd : zD M.2.1 pc pc' .dup 1) (hv : ∀ x, v ≠ zl x) (k : zT G d M pc' L (v :: v :: S) h Q) : zT G d M pc L (v :: S) h Q := by
  obtain ⟨hd, rfl⟩ := hd
  intro p e s m args below meth c H locs ls hX hS hW hL
  obtain ⟨hx, hb, hml, hr, hts, hown, hlk, hK, hSt⟩ := id hX
  exact lv_dup hx hb hd (zcat1 G hv) (k p e s m args below meth c H locs ls hX hS hW hL)
theorem zt_pop {G : ZG} {d : Nat} {M : ZM} {pc pc' : Nat} {L S : List ZV} {h : ZH} {Q : Option ZV → ZH → Prop} {v : ZV} (hd : zD M.2.1 pc pc' .pop 1) (hv : ∀ x, v ≠ zl x) (k : zT G d M pc' L S h Q) : zT G d M pc L (v :: S) h Q := by
  obtain ⟨hd, rfl⟩ := hd
  intro p e s m args below meth c H locs ls hX hS hW hL
  obtain ⟨hx, hb, hml, hr, hts, hown, hlk, hK, hSt⟩ := id hX
  exact lv_pop hx hb hd (zcat1 G hv) (k p e s m args below meth c H locs ls hX hS hW hL)
theorem zt_dup_x2 {G : ZG} {d : Nat} {M : ZM} {pc pc' : Nat} {L S : List ZV} {h : ZH} {Q : Option ZV → ZH → Prop} {v w u : ZV} (hd : zD M.2.1 pc pc' .dup_x2 1) (hv : ∀ x, v ≠ zl x) (hw : ∀ x, w ≠ zl x) (hu : ∀ x, u ≠ zl x) (k : zT G d M pc' L (v :: w :: u :: v :: S) h Q) : zT G d M pc L (v :: w :: u :: S) h Q := by
  obtain ⟨hd, rfl⟩ := hd
  intro p e s m args below meth c H locs ls hX hS hW hL
  obtain ⟨hx, hb, hml, hr, hts, hown, hlk, hK, hSt⟩ := id hX
  exact lv_dup_x2 hx hb hd (zcat1 G hv) (zcat1 G hw) (zcat1 G hu) (k p e s m args below meth c H locs ls hX hS hW hL)
theorem zt_dup_x1 {G : ZG} {d : Nat} {M : ZM} {pc pc' : Nat} {L S : List ZV} {h : ZH} {Q : Option ZV → ZH → Prop} {v w : ZV} (hd : zD M.2.1 pc pc' .dup_x1 1) (hv : ∀ x, v ≠ zl x) (hw : ∀ x, w ≠ zl x) (k : zT G d M pc' L (v :: w :: v :: S) h Q) : zT G d M pc L (v :: w :: S) h Q := by
  obtain ⟨hd, rfl⟩ := hd
  intro p e s m args below meth c H locs ls hX hS hW hL
  obtain ⟨hx, hb, hml, hr, hts, hown, hlk, hK, hSt⟩ := id hX
  exact lv_dup_x1 hx hb hd (zcat1 G hv) (zcat1 G hw) (k p e s m args below meth c H locs ls hX hS hW hL)
theorem zt_dup2 {G : ZG} {d : Nat} {M : ZM} {pc pc' : Nat} {L S : List ZV} {h : ZH} {Q : Option ZV → ZH → Prop} {v w : ZV} (hd : zD M.2.1 pc pc' .dup2 1) (hv : ∀ x, v ≠ zl x) (hw : ∀ x, w ≠ zl x) (k : zT G d M pc' L (v :: w :: v :: w :: S) h Q) : zT G d M pc L (v :: w :: S) h Q := by
  obtain ⟨hd, rfl⟩ := hd
  intro p e s m args below meth c H locs ls hX hS hW hL
  obtain ⟨hx, hb, hml, hr, hts, hown, hlk, hK, hSt⟩ := id hX
  exact lv_dup2_11 hx hb hd (zcat1 G hv) (zcat1 G hw) (k p e s m args below meth c H locs ls hX hS hW hL)
theorem zt_icmp_eq {G : ZG} {d : Nat} {M : ZM} {pc pc' tgt : Nat} {L S : List ZV} {h : ZH} {Q : Option ZV → ZH → Prop} {x y : Int32} {off : Int} (hd : zB M.2.1 pc pc' tgt (.if_icmp .eq off) off) (kt : x = y → zT G d M tgt L S h Q) (kf : ¬ x = y → zT G d M pc' L S h Q) : zT G d M pc L (zi y :: zi x :: S) h Q := by
  obtain ⟨hd, rfl, ht⟩ := hd
  intro p e s m args below meth c H locs ls hX hS hW hL
  obtain ⟨hx, hb, hml, hr, hts, hown, hlk, hK, hSt⟩ := id hX
  exact lv_icmp_eq hx hb hd ht (fun q => kt q p e s m args below meth c H locs ls hX hS hW hL) (fun q => kf q p e s m args below meth c H locs ls hX hS hW hL)
theorem zt_if_eq {G : ZG} {d : Nat} {M : ZM} {pc pc' tgt : Nat} {L S : List ZV} {h : ZH} {Q : Option ZV → ZH → Prop} {x : Int32} {off : Int} (hd : zB M.2.1 pc pc' tgt (.ifCond .eq off) off) (kt : x = 0 → zT G d M tgt L S h Q) (kf : ¬ x = 0 → zT G d M pc' L S h Q) : zT G d M pc L (zi x :: S) h Q := by
  obtain ⟨hd, rfl, ht⟩ := hd
  intro p e s m args below meth c H locs ls hX hS hW hL
  obtain ⟨hx, hb, hml, hr, hts, hown, hlk, hK, hSt⟩ := id hX
  exact lv_if_eq hx hb hd ht (fun q => kt q p e s m args below meth c H locs ls hX hS hW hL) (fun q => kf q p e s m args below meth c H locs ls hX hS hW hL)
theorem zt_icmp_ne {G : ZG} {d : Nat} {M : ZM} {pc pc' tgt : Nat} {L S : List ZV} {h : ZH} {Q : Option ZV → ZH → Prop} {x y : Int32} {off : Int} (hd : zB M.2.1 pc pc' tgt (.if_icmp .ne off) off) (kt : ¬ x = y → zT G d M tgt L S h Q) (kf : x = y → zT G d M pc' L S h Q) : zT G d M pc L (zi y :: zi x :: S) h Q := by
  obtain ⟨hd, rfl, ht⟩ := hd
  intro p e s m args below meth c H locs ls hX hS hW hL
  obtain ⟨hx, hb, hml, hr, hts, hown, hlk, hK, hSt⟩ := id hX
  exact lv_icmp_ne hx hb hd ht (fun q => kt q p e s m args below meth c H locs ls hX hS hW hL) (fun q => kf q p e s m args below meth c H locs ls hX hS hW hL)
theorem zt_if_ne {G : ZG} {d : Nat} {M : ZM} {pc pc' tgt : Nat} {L S : List ZV} {h : ZH} {Q : Option ZV → ZH → Prop} {x : Int32} {off : Int} (hd : zB M.2.1 pc pc' tgt (.ifCond .ne off) off) (kt : ¬ x = 0 → zT G d M tgt L S h Q) (kf : x = 0 → zT G d M pc' L S h Q) : zT G d M pc L (zi x :: S) h Q := by
  obtain ⟨hd, rfl, ht⟩ := hd
  intro p e s m args below meth c H locs ls hX hS hW hL
  obtain ⟨hx, hb, hml, hr, hts, hown, hlk, hK, hSt⟩ := id hX
  exact lv_if_ne hx hb hd ht (fun q => kt q p e s m args below meth c H locs ls hX hS hW hL) (fun q => kf q p e s m args below meth c H locs ls hX hS hW hL)
theorem zt_icmp_lt {G : ZG} {d : Nat} {M : ZM} {pc pc' tgt : Nat} {L S : List ZV} {h : ZH} {Q : Option ZV → ZH → Prop} {x y : Int32} {off : Int} (hd : zB M.2.1 pc pc' tgt (.if_icmp .lt off) off) (kt : x < y → zT G d M tgt L S h Q) (kf : ¬ x < y → zT G d M pc' L S h Q) : zT G d M pc L (zi y :: zi x :: S) h Q := by
  obtain ⟨hd, rfl, ht⟩ := hd
  intro p e s m args below meth c H locs ls hX hS hW hL
  obtain ⟨hx, hb, hml, hr, hts, hown, hlk, hK, hSt⟩ := id hX
  exact lv_icmp_lt hx hb hd ht (fun q => kt q p e s m args below meth c H locs ls hX hS hW hL) (fun q => kf q p e s m args below meth c H locs ls hX hS hW hL)
theorem zt_if_lt {G : ZG} {d : Nat} {M : ZM} {pc pc' tgt : Nat} {L S : List ZV} {h : ZH} {Q : Option ZV → ZH → Prop} {x : Int32} {off : Int} (hd : zB M.2.1 pc pc' tgt (.ifCond .lt off) off) (kt : x < 0 → zT G d M tgt L S h Q) (kf : ¬ x < 0 → zT G d M pc' L S h Q) : zT G d M pc L (zi x :: S) h Q := by
  obtain ⟨hd, rfl, ht⟩ := hd
  intro p e s m args below meth c H locs ls hX hS hW hL
  obtain ⟨hx, hb, hml, hr, hts, hown, hlk, hK, hSt⟩ := id hX
  exact lv_if_lt hx hb hd ht (fun q => kt q p e s m args below meth c H locs ls hX hS hW hL) (fun q => kf q p e s m args below meth c H locs ls hX hS hW hL)
theorem zt_icmp_ge {G : ZG} {d : Nat} {M : ZM} {pc pc' tgt : Nat} {L S : List ZV} {h : ZH} {Q : Option ZV → ZH → Prop} {x y : Int32} {off : Int} (hd : zB M.2.1 pc pc' tgt (.if_icmp .ge off) off) (kt : y ≤ x → zT G d M tgt L S h Q) (kf : ¬ y ≤ x → zT G d M pc' L S h Q) : zT G d M pc L (zi y :: zi x :: S) h Q := by
  obtain ⟨hd, rfl, ht⟩ := hd
  intro p e s m args below meth c H locs ls hX hS hW hL
  obtain ⟨hx, hb, hml, hr, hts, hown, hlk, hK, hSt⟩ := id hX
  exact lv_icmp_ge hx hb hd ht (fun q => kt q p e s m args below meth c H locs ls hX hS hW hL) (fun q => kf q p e s m args below meth c H locs ls hX hS hW hL)
theorem zt_if_ge {G : ZG} {d : Nat} {M : ZM} {pc pc' tgt : Nat} {L S : List ZV} {h : ZH} {Q : Option ZV → ZH → Prop} {x : Int32} {off : Int} (hd : zB M.2.1 pc pc' tgt (.ifCond .ge off) off) (kt : 0 ≤ x → zT G d M tgt L S h Q) (kf : ¬ 0 ≤ x → zT G d M pc' L S h Q) : zT G d M pc L (zi x :: S) h Q := by
  obtain ⟨hd, rfl, ht⟩ := hd
  intro p e s m args below meth c H locs ls hX hS hW hL
  obtain ⟨hx, hb, hml, hr, hts, hown, hlk, hK, hSt⟩ := id hX
  exact lv_if_ge hx hb hd ht (fun q => kt q p e s m args below meth c H locs ls hX hS hW hL) (fun q => kf q p e s m args below meth c H locs ls hX hS hW hL)
theorem zt_icmp_gt {G : ZG} {d : Nat} {M : ZM} {pc pc' tgt : Nat} {L S : List ZV} {h : ZH} {Q : Option ZV → ZH → Prop} {x y : Int32} {off : Int} (hd : zB M.2.1 pc pc' tgt (.if_icmp .gt off) off) (kt : y < x → zT G d M tgt L S h Q) (kf : ¬ y < x → zT G d M pc' L S h Q) : zT G d M pc L (zi y :: zi x :: S) h Q := by
  obtain ⟨hd, rfl, ht⟩ := hd
  intro p e s m args below meth c H locs ls hX hS hW hL
  obtain ⟨hx, hb, hml, hr, hts, hown, hlk, hK, hSt⟩ := id hX
  exact lv_icmp_gt hx hb hd ht (fun q => kt q p e s m args below meth c H locs ls hX hS hW hL) (fun q => kf q p e s m args below meth c H locs ls hX hS hW hL)
theorem zt_if_gt {G : ZG} {d : Nat} {M : ZM} {pc pc' tgt : Nat} {L S : List ZV} {h : ZH} {Q : Option ZV → ZH → Prop} {x : Int32} {off : Int} (hd : zB M.2.1 pc pc' tgt (.ifCond .gt off) off) (kt : 0 < x → zT G d M tgt L S h Q) (kf : ¬ 0 < x → zT G d M pc' L S h Q) : zT G d M pc L (zi x :: S) h Q := by
  obtain ⟨hd, rfl, ht⟩ := hd
  intro p e s m args below meth c H locs ls hX hS hW hL
  obtain ⟨hx, hb, hml, hr, hts, hown, hlk, hK, hSt⟩ := id hX
  exact lv_if_gt hx hb hd ht (fun q => kt q p e s m args below meth c H locs ls hX hS hW hL) (fun q => kf q p e s m args below meth c H locs ls hX hS hW hL)
theorem zt_icmp_le {G : ZG} {d : Nat} {M : ZM} {pc pc' tgt : Nat} {L S : List ZV} {h : ZH} {Q : Option ZV → ZH → Prop} {x y : Int32} {off : Int} (hd : zB M.2.1 pc pc' tgt (.if_icmp .le off) off) (kt : x ≤ y → zT G d M tgt L S h Q) (kf : ¬ x ≤ y → zT G d M pc' L S h Q) : zT G d M pc L (zi y :: zi x :: S) h Q := by
  obtain ⟨hd, rfl, ht⟩ := hd
  intro p e s m args below meth c H locs ls hX hS hW hL
  obtain ⟨hx, hb, hml, hr, hts, hown, hlk, hK, hSt⟩ := id hX
  exact lv_icmp_le hx hb hd ht (fun q => kt q p e s m args below meth c H locs ls hX hS hW hL) (fun q => kf q p e s m args below meth c H locs ls hX hS hW hL)
theorem zt_if_le {G : ZG} {d : Nat} {M : ZM} {pc pc' tgt : Nat} {L S : List ZV} {h : ZH} {Q : Option ZV → ZH → Prop} {x : Int32} {off : Int} (hd : zB M.2.1 pc pc' tgt (.ifCond .le off) off) (kt : x ≤ 0 → zT G d M tgt L S h Q) (kf : ¬ x ≤ 0 → zT G d M pc' L S h Q) : zT G d M pc L (zi x :: S) h Q := by
  obtain ⟨hd, rfl, ht⟩ := hd
  intro p e s m args below meth c H locs ls hX hS hW hL
  obtain ⟨hx, hb, hml, hr, hts, hown, hlk, hK, hSt⟩ := id hX
  exact lv_if_le hx hb hd ht (fun q => kt q p e s m args below meth c H locs ls hX hS hW hL) (fun q => kf q p e s m args below meth c H locs ls hX hS hW hL)
theorem zt_goto {G : ZG} {d : Nat} {M : ZM} {pc pc' tgt : Nat} {L S : List ZV} {h : ZH} {Q : Option ZV → ZH → Prop} {off : Int} (hd : zB M.2.1 pc pc' tgt (.goto off) off) (k : zT G d M tgt L S h Q) : zT G d M pc L S h Q := by
  obtain ⟨hd, rfl, ht⟩ := hd
  intro p e s m args below meth c H locs ls hX hS hW hL
  obtain ⟨hx, hb, hml, hr, hts, hown, hlk, hK, hSt⟩ := id hX
  exact lv_goto hx hb hd ht (k p e s m args below meth c H locs ls hX hS hW hL)
end
section
/-! ===== the rules of zT: fields, arrays, statics ===== -/
/-- a field site: own's entry 'index' is field j (of N) of the class at place ci -/
def zFS (own : String) (index ci N j : Nat) : Prop := ∃ (C : String) (T : u_T), vwCl[ci]? = some (C, T, N) ∧ j < N ∧ (∀ w ∈ u_ws C T N, w ∈ zall) ∧ (Cond.fieldLink own index (T j).1 (T j).2.1 (T j).2.2.1 ∈ zall ∨ ∃ host, Cond.fieldLinkNest own index (T j).1 (T j).2.1 (T j).2.2.1 host ∈ znw)
/-- what a store into it wants more -/
def zPS (ci N j : Nat) (ty : FieldType) : Prop := ∃ (C : String) (T : u_T) (ty0 : Nat → FieldType), vwCl[ci]? = some (C, T, N) ∧ (∀ k, k < N → parseFieldDescriptor (T k).2.2.1 = some (ty0 k)) ∧ (∀ a, a < N → ∀ b, b < N → a ≠ b → (T a).2.1 ≠ (T b).2.1) ∧ (T j).2.2.2 = false ∧ parseFieldDescriptor (T j).2.2.1 = some ty
theorem zmap_get (G : ZG) (h : ZH) {k i N j : Nat} (hj : j < N) : ((List.range N).map (fun j => zc G (zf h k i j)))[j]? = some (zc G (zf h k i j)) := by
  rw [List.getElem?_map, List.getElem?_range hj]
  rfl
theorem zt_get {G : ZG} {d : Nat} {M : ZM} {pc pc' : Nat} {L S : List ZV} {h : ZH} {Q : Option ZV → ZH → Prop} {k i ci N j index : Nat} {v : ZV} (hd : zD M.2.1 pc pc' (.getfield index) 3) (hf : zFS M.1.cls index ci N j) (hk : zkd k i = .inl (ci, N)) (hi : i < zcnt k) (hv : zf h k i j = v) (kk : zT G d M pc' L (v :: S) h Q) : zT G d M pc L (zr k i :: S) h Q := by
  obtain ⟨hd, rfl⟩ := hd
  intro p e s m args below meth c H locs ls hX hS hW hL
  obtain ⟨hx, hb, hml, hr, hts, hown, hlk, hK, hSt⟩ := id hX
  obtain ⟨C, T, hc, hjN, hin, hlink⟩ := hf
  obtain ⟨q, -, hq⟩ := zL_at G h hi
  rw [zE_obj G h hk] at hq
  have hfs := zmap_get G h (k := k) (i := i) hjN
  rw [hv] at hfs
  have k2 := kk p e s m args below meth c H locs ls hX hS hW hL
  rcases hlink with hl | ⟨host, hl⟩
  · exact va_get hx hb hts hin hown hK.1 hW q hq hc j hjN (hts _ hl) (fun _ z => z) hfs hd k2
  · exact va_getN hx hb hts hin hown hK.1 hW q hq hc j hjN (va_Nw.use (znw_on hl) (hK.2.1 _ hl)) (fun _ z => z) hfs hd k2
theorem zt_putg {G : ZG} {d : Nat} {M : ZM} {pc pc' : Nat} {L S : List ZV} {h : ZH} {Q : Option ZV → ZH → Prop} {k i ci N j index : Nat} {v : Int32} {ty : FieldType} (hd : zD M.2.1 pc pc' (.putfield index) 3) (hf : zFS M.1.cls index ci N j) (hp : zPS ci N j ty) (hk : zkd k i = .inl (ci, N)) (hi : i < zcnt k) (hj : zrf k j i = none) (hn : narrow ty (.int v) = .int v) (hft : fits ty (.int v) = true) (kk : zT G d M pc' L S (zs1 h k i j v) Q) : zT G d M pc L (zi v :: zr k i :: S) h Q := by
  obtain ⟨hd, rfl⟩ := hd
  intro p e s m args below meth c H locs ls hX hS hW hL
  obtain ⟨hx, hb, hml, hr, hts, hown, hlk, hK, hSt⟩ := id hX
  obtain ⟨C, T, hc, hjN, hin, hlink⟩ := hf
  obtain ⟨C2, T2, ty0, hc2, hty, hnm, hfin, hdd⟩ := hp
  cases hc.symm.trans hc2
  obtain ⟨q, hq0, hq⟩ := zL_at G h hi
  rw [zE_obj G h hk] at hq
  have hset := zL_set G (h := h) (h' := zs1 h k i j v) hq0 (zE_putobj G h v hk hj hjN) (fun k' i' hn => zE_o1 G h v k' i' hn)
  have k2 : ∀ (H1 : Heap) (locs1 : List Loc), va_P G.2.1 vwCl ((zL G h).set q (G.2.2.2 k i, .inr (ci, ((List.range N).map (fun j => zc G (zf h k i j))).set j (.int v)))) H1 → va_D (zA G) ((zL G h).set q (G.2.2.2 k i, .inr (ci, ((List.range N).map (fun j => zc G (zf h k i j))).set j (.int v)))) → va_S (zA G) s.heap H1 locs1 → W p G.1 e (zrm d) s m args below meth c H1 locs1 0 0 (MQ below (zQ G Q) args s 0 0 (zA G)) (F0 m (pc + 3) ls (S.map (zc G))) := by
    intro H1 locs1 h1 _ h3
    rw [hset] at h1
    exact kk p e s m args below meth c H1 locs1 ls hX h3 h1 hL
  have hlen : j < ((List.range N).map (fun j => zc G (zf h k i j))).length := by rw [List.length_map, List.length_range]; exact hjN
  rcases hlink with hl | ⟨host, hl⟩
  · exact va_put hx hb hts hin ty0 hty hnm hown hK.1 hW (zD_of G h hK.2.2) hS q hq hc j hjN (hts _ hl) (fun _ z => z) hfin hdd hn hft hlen hd k2
  · exact va_putN hx hb hts hin ty0 hty hnm hown hK.1 hW (zD_of G h hK.2.2) hS q hq hc j hjN (va_Nw.use (znw_on hl) (hK.2.1 _ hl)) (fun _ z => z) hfin hdd hn hft hlen hd k2
theorem zt_put {G : ZG} {d : Nat} {M : ZM} {pc pc' : Nat} {L S : List ZV} {h : ZH} {Q : Option ZV → ZH → Prop} {k i ci N j index : Nat} {v : Int32} (hd : zD M.2.1 pc pc' (.putfield index) 3) (hf : zFS M.1.cls index ci N j) (hp : zPS ci N j .int) (hk : zkd k i = .inl (ci, N)) (hi : i < zcnt k) (hj : zrf k j i = none) (kk : zT G d M pc' L S (zs1 h k i j v) Q) : zT G d M pc L (zi v :: zr k i :: S) h Q := zt_putg hd hf hp hk hi hj rfl rfl kk
theorem zt_putz {G : ZG} {d : Nat} {M : ZM} {pc pc' : Nat} {L S : List ZV} {h : ZH} {Q : Option ZV → ZH → Prop} {k i ci N j index : Nat} {v : Int32} (hd : zD M.2.1 pc pc' (.putfield index) 3) (hf : zFS M.1.cls index ci N j) (hp : zPS ci N j .boolean) (hk : zkd k i = .inl (ci, N)) (hi : i < zcnt k) (hj : zrf k j i = none) (hz : v = 0 ∨ v = 1) (kk : zT G d M pc' L S (zs1 h k i j v) Q) : zT G d M pc L (zi v :: zr k i :: S) h Q := zt_putg hd hf hp hk hi hj (by rcases hz with rfl | rfl <;> rfl) (by rcases hz with rfl | rfl <;> rfl) kk
theorem zt_iald {G : ZG} {d : Nat} {M : ZM} {pc pc' : Nat} {L S : List ZV} {h : ZH} {Q : Option ZV → ZH → Prop} {k i n : Nat} {j : Int32} (hd : zD M.2.1 pc pc' .iaload 1) (hk : zkd k i = .inr (0, n)) (hi : i < zcnt k) (hj : vp_in j n) (kk : zT G d M pc' L (zi (h.1 k i j.toNatClampNeg) :: S) h Q) : zT G d M pc L (zi j :: zr k i :: S) h Q := by
  obtain ⟨hd, rfl⟩ := hd
  intro p e s m args below meth c H locs ls hX hS hW hL
  obtain ⟨hx, hb, hml, hr, hts, hown, hlk, hK, hSt⟩ := id hX
  obtain ⟨q, -, hq⟩ := zL_at G h hi
  rw [zE_int G h hk] at hq
  exact va_iald hx hb hK.1 hW q 0 hq rfl hj hd (kk p e s m args below meth c H locs ls hX hS hW hL)
theorem zt_lald {G : ZG} {d : Nat} {M : ZM} {pc pc' : Nat} {L S : List ZV} {h : ZH} {Q : Option ZV → ZH → Prop} {k i n : Nat} {j : Int32} (hd : zD M.2.1 pc pc' .laload 1) (hk : zkd k i = .inr (1, n)) (hi : i < zcnt k) (hj : vp_in j n) (kk : zT G d M pc' L (zl (h.2 k i j.toNatClampNeg) :: S) h Q) : zT G d M pc L (zi j :: zr k i :: S) h Q := by
  obtain ⟨hd, rfl⟩ := hd
  intro p e s m args below meth c H locs ls hX hS hW hL
  obtain ⟨hx, hb, hml, hr, hts, hown, hlk, hK, hSt⟩ := id hX
  obtain ⟨q, -, hq⟩ := zL_at G h hi
  rw [zE_long G h hk] at hq
  exact va_lald hx hb hK.1 hW q 1 hq rfl hj hd (kk p e s m args below meth c H locs ls hX hS hW hL)
theorem zt_zald {G : ZG} {d : Nat} {M : ZM} {pc pc' : Nat} {L S : List ZV} {h : ZH} {Q : Option ZV → ZH → Prop} {k i n : Nat} {j : Int32} (hd : zD M.2.1 pc pc' .baload 1) (hk : zkd k i = .inr (2, n)) (hi : i < zcnt k) (hj : vp_in j n) (kk : zT G d M pc' L (zi (h.1 k i j.toNatClampNeg) :: S) h Q) : zT G d M pc L (zi j :: zr k i :: S) h Q := by
  obtain ⟨hd, rfl⟩ := hd
  intro p e s m args below meth c H locs ls hX hS hW hL
  obtain ⟨hx, hb, hml, hr, hts, hown, hlk, hK, hSt⟩ := id hX
  obtain ⟨q, -, hq⟩ := zL_at G h hi
  rw [zE_bool G h hk] at hq
  exact va_zald hx hb hK.1 hW q 2 hq rfl hj hd (kk p e s m args below meth c H locs ls hX hS hW hL)
theorem zt_aaldS {G : ZG} {d : Nat} {M : ZM} {pc pc' : Nat} {L S : List ZV} {h : ZH} {Q : Option ZV → ZH → Prop} {j : Int32} (hd : zD M.2.1 pc pc' .aaload 1) (hj : vp_in j 8) (kk : zT G d M pc' L (zr 4 j.toNatClampNeg :: S) h Q) : zT G d M pc L (zi j :: zr 21 0 :: S) h Q := by
  obtain ⟨hd, rfl⟩ := hd
  intro p e s m args below meth c H locs ls hX hS hW hL
  obtain ⟨hx, hb, hml, hr, hts, hown, hlk, hK, hSt⟩ := id hX
  obtain ⟨q, -, hq⟩ := zL_at G h (k := 21) (i := 0) (by decide)
  rw [zE_ref G h (t := 0) (n := 8) rfl] at hq
  exact va_aldq hx hb hK.1 hW q 3 hq rfl hj hd (kk p e s m args below meth c H locs ls hX hS hW hL)
theorem zt_aaldH {G : ZG} {d : Nat} {M : ZM} {pc pc' : Nat} {L S : List ZV} {h : ZH} {Q : Option ZV → ZH → Prop} {j : Int32} (hd : zD M.2.1 pc pc' .aaload 1) (hj : vp_in j 8) (kk : zT G d M pc' L (zr 3 j.toNatClampNeg :: S) h Q) : zT G d M pc L (zi j :: zr 22 0 :: S) h Q := by
  obtain ⟨hd, rfl⟩ := hd
  intro p e s m args below meth c H locs ls hX hS hW hL
  obtain ⟨hx, hb, hml, hr, hts, hown, hlk, hK, hSt⟩ := id hX
  obtain ⟨q, -, hq⟩ := zL_at G h (k := 22) (i := 0) (by decide)
  rw [zE_ref G h (t := 1) (n := 8) rfl] at hq
  exact va_aldq hx hb hK.1 hW q 4 hq rfl hj hd (kk p e s m args below meth c H locs ls hX hS hW hL)
theorem zt_iast {G : ZG} {d : Nat} {M : ZM} {pc pc' : Nat} {L S : List ZV} {h : ZH} {Q : Option ZV → ZH → Prop} {k i n : Nat} {j : Int32} {v : Int32} (hd : zD M.2.1 pc pc' .iastore 1) (hk : zkd k i = .inr (0, n)) (hi : i < zcnt k) (hj : vp_in j n) (kk : zT G d M pc' L S (zs1 h k i j.toNatClampNeg v) Q) : zT G d M pc L (zi v :: zi j :: zr k i :: S) h Q := by
  obtain ⟨hd, rfl⟩ := hd
  intro p e s m args below meth c H locs ls hX hS hW hL
  obtain ⟨hx, hb, hml, hr, hts, hown, hlk, hK, hSt⟩ := id hX
  obtain ⟨q, hq0, hq⟩ := zL_at G h hi
  rw [zE_int G h hk] at hq
  have hset := zL_set G (h := h) (h' := zs1 h k i j.toNatClampNeg v) hq0 (e := .inl (G.2.2.1 0, n, .inl (upd (h.1 k i) j.toNatClampNeg v))) (by rw [zE_int G _ hk, zs1_row]) (fun k' i' hn => zE_o1 G h v k' i' hn)
  refine va_iast hx hb hK.1 hW (zD_of G h hK.2.2) hS q 0 hq rfl hj hd ?_
  intro H1 locs1 h1 _ h3
  rw [hset] at h1
  exact kk p e s m args below meth c H1 locs1 ls hX h3 h1 hL
theorem zt_last {G : ZG} {d : Nat} {M : ZM} {pc pc' : Nat} {L S : List ZV} {h : ZH} {Q : Option ZV → ZH → Prop} {k i n : Nat} {j : Int32} {v : Int64} (hd : zD M.2.1 pc pc' .lastore 1) (hk : zkd k i = .inr (1, n)) (hi : i < zcnt k) (hj : vp_in j n) (kk : zT G d M pc' L S (zs2 h k i j.toNatClampNeg v) Q) : zT G d M pc L (zl v :: zi j :: zr k i :: S) h Q := by
  obtain ⟨hd, rfl⟩ := hd
  intro p e s m args below meth c H locs ls hX hS hW hL
  obtain ⟨hx, hb, hml, hr, hts, hown, hlk, hK, hSt⟩ := id hX
  obtain ⟨q, hq0, hq⟩ := zL_at G h hi
  rw [zE_long G h hk] at hq
  have hset := zL_set G (h := h) (h' := zs2 h k i j.toNatClampNeg v) hq0 (e := .inl (G.2.2.1 1, n, .inr (.inl (vp_updL (h.2 k i) j.toNatClampNeg v)))) (by rw [zE_long G _ hk, zs2_row]) (fun k' i' hn => zE_o2 G h v k' i' hn)
  refine va_last hx hb hK.1 hW (zD_of G h hK.2.2) hS q 1 hq rfl hj hd ?_
  intro H1 locs1 h1 _ h3
  rw [hset] at h1
  exact kk p e s m args below meth c H1 locs1 ls hX h3 h1 hL
theorem zt_zast {G : ZG} {d : Nat} {M : ZM} {pc pc' : Nat} {L S : List ZV} {h : ZH} {Q : Option ZV → ZH → Prop} {k i n : Nat} {j : Int32} {v : Int32} (hd : zD M.2.1 pc pc' .bastore 1) (hk : zkd k i = .inr (2, n)) (hi : i < zcnt k) (hj : vp_in j n) (kk : zT G d M pc' L S (zs1 h k i j.toNatClampNeg (vp_nar .boolean v)) Q) : zT G d M pc L (zi v :: zi j :: zr k i :: S) h Q := by
  obtain ⟨hd, rfl⟩ := hd
  intro p e s m args below meth c H locs ls hX hS hW hL
  obtain ⟨hx, hb, hml, hr, hts, hown, hlk, hK, hSt⟩ := id hX
  obtain ⟨q, hq0, hq⟩ := zL_at G h hi
  rw [zE_bool G h hk] at hq
  have hset := zL_set G (h := h) (h' := zs1 h k i j.toNatClampNeg (vp_nar .boolean v)) hq0 (e := .inl (G.2.2.1 2, n, .inl (upd (h.1 k i) j.toNatClampNeg (vp_nar .boolean v)))) (by rw [zE_bool G _ hk, zs1_row]) (fun k' i' hn => zE_o1 G h (vp_nar .boolean v) k' i' hn)
  refine va_zast hx hb hK.1 hW (zD_of G h hK.2.2) hS q 2 hq rfl hj hd ?_
  intro H1 locs1 h1 _ h3
  rw [hset] at h1
  exact kk p e s m args below meth c H1 locs1 ls hX h3 h1 hL
theorem zt_alen {G : ZG} {d : Nat} {M : ZM} {pc pc' : Nat} {L S : List ZV} {h : ZH} {Q : Option ZV → ZH → Prop} {k i t n : Nat} {v : Int32} (hd : zD M.2.1 pc pc' .arraylength 1) (hk : zkd k i = .inr (t, n)) (ht : t < 3) (hi : i < zcnt k) (hv : Int32.ofNat n = v) (kk : zT G d M pc' L (zi v :: S) h Q) : zT G d M pc L (zr k i :: S) h Q := by
  obtain ⟨hd, rfl⟩ := hd
  intro p e s m args below meth c H locs ls hX hS hW hL
  obtain ⟨hx, hb, hml, hr, hts, hown, hlk, hK, hSt⟩ := id hX
  obtain ⟨q, -, hq⟩ := zL_at G h hi
  have k2 := kk p e s m args below meth c H locs ls hX hS hW hL
  rcases (show t = 0 ∨ t = 1 ∨ t = 2 by omega) with rfl | rfl | rfl
  · rw [zE_int G h hk] at hq
    exact va_alen hx hb hK.1 hW q 0 hq rfl hv hd k2
  · rw [zE_long G h hk] at hq
    exact va_alen hx hb hK.1 hW q 1 hq rfl hv hd k2
  · rw [zE_bool G h hk] at hq
    exact va_alen hx hb hK.1 hW q 2 hq rfl hv hd k2
theorem zt_bes {G : ZG} {d : Nat} {M : ZM} {pc pc' : Nat} {L S : List ZV} {h : ZH} {Q : Option ZV → ZH → Prop} {index : Nat} (hd : zD M.2.1 pc pc' (.getstatic index) 3) (hl : Cond.fieldLinkNest M.1.cls index "CornerstoneSought" "BESIDE" "[I" "CornerstoneSought" ∈ znw) (kk : zT G d M pc' L (zr 26 0 :: S) h Q) : zT G d M pc L S h Q := by
  obtain ⟨hd, rfl⟩ := hd
  intro p e s m args below meth c H locs ls hX hS hW hL
  obtain ⟨hx, hb, hml, hr, hts, hown, hlk, hK, hSt⟩ := id hX
  exact va_getsN hx hb hSt.1 hS hown (va_Nw.use (znw_on hl) (hK.2.1 _ hl)) (fun _ z => z) hd (kk p e s m args below meth c H locs ls hX hS hW hL)
theorem zt_besld {G : ZG} {d : Nat} {M : ZM} {pc pc' : Nat} {L S : List ZV} {h : ZH} {Q : Option ZV → ZH → Prop} {j : Int32} (hd : zD M.2.1 pc pc' .iaload 1) (hj : vp_in j 12) (kk : zT G d M pc' L (zi (zbes j.toNatClampNeg) :: S) h Q) : zT G d M pc L (zi j :: zr 26 0 :: S) h Q := by
  obtain ⟨hd, rfl⟩ := hd
  intro p e s m args below meth c H locs ls hX hS hW hL
  obtain ⟨hx, hb, hml, hr, hts, hown, hlk, hK, hSt⟩ := id hX
  exact va_ti hx hb hSt.2 hS hj rfl hd (kk p e s m args below meth c H locs ls hX hS hW hL)
/-! ===== returns ===== -/
theorem zQ_end {G : ZG} {Q : Option ZV → ZH → Prop} {r : Option ZV} {h : ZH} {s : State} {H : Heap} {locs : List Loc} {args : Array Value} (hq : Q r h) (hS : va_S (zA G) s.heap H locs) (hW : zW G h H) : ∀ t : State, t.heap = H → s.WarmedH t.vm → zQ G Q args s (.returned (r.map (zc G))) t :=
  fun t ht _ => ⟨⟨r, h, rfl, hq, by rw [ht]; exact hW⟩, hS.F ht⟩
theorem zt_iret {G : ZG} {d : Nat} {M : ZM} {pc pc' : Nat} {L S : List ZV} {h : ZH} {Q : Option ZV → ZH → Prop} {v : Int32} (hd : zD M.2.1 pc pc' .ireturn 1) (hr0 : M.2.2.2 = some .int) (hq : Q (some (zi v)) h) : zT G d M pc L [zi v] h Q := by
  obtain ⟨hd, -⟩ := hd
  intro p e s m args below meth c H locs ls hX hS hW hL
  obtain ⟨hx, hb, hml, hr, hts, hown, hlk, hK, hSt⟩ := id hX
  exact W.iret hx hb (hr.trans hr0) (zQ_end hq hS hW) hS.2.2 hd hlk
theorem zt_zret {G : ZG} {d : Nat} {M : ZM} {pc pc' : Nat} {L S : List ZV} {h : ZH} {Q : Option ZV → ZH → Prop} {v : Int32} (hd : zD M.2.1 pc pc' .ireturn 1) (hr0 : M.2.2.2 = some .boolean) (hz : v = 0 ∨ v = 1) (hq : Q (some (zi v)) h) : zT G d M pc L [zi v] h Q := by
  obtain ⟨hd, -⟩ := hd
  intro p e s m args below meth c H locs ls hX hS hW hL
  obtain ⟨hx, hb, hml, hr, hts, hown, hlk, hK, hSt⟩ := id hX
  exact W.zret hx hb (hr.trans hr0) (by rcases hz with rfl | rfl <;> rfl) (zQ_end hq hS hW) hS.2.2 hd hlk
theorem zt_vret {G : ZG} {d : Nat} {M : ZM} {pc pc' : Nat} {L S : List ZV} {h : ZH} {Q : Option ZV → ZH → Prop} (hd : zD M.2.1 pc pc' .return_ 1) (hr0 : M.2.2.2 = none) (hq : Q none h) : zT G d M pc L [] h Q := by
  obtain ⟨hd, -⟩ := hd
  intro p e s m args below meth c H locs ls hX hS hW hL
  obtain ⟨hx, hb, hml, hr, hts, hown, hlk, hK, hSt⟩ := id hX
  exact W.vret hx hb (hr.trans hr0) (zQ_end hq hS hW) hS.2.2 hd hlk
theorem zt_lret {G : ZG} {d : Nat} {M : ZM} {pc pc' : Nat} {L S : List ZV} {h : ZH} {Q : Option ZV → ZH → Prop} {v : Int64} (hd : zD M.2.1 pc pc' .lreturn 1) (hr0 : M.2.2.2 = some .long) (hq : Q (some (zl v)) h) : zT G d M pc L [zl v] h Q := by
  obtain ⟨hd, -⟩ := hd
  intro p e s m args below meth c H locs ls hX hS hW hL
  obtain ⟨hx, hb, hml, hr, hts, hown, hlk, hK, hSt⟩ := id hX
  exact W.lret hx hb (hr.trans hr0) (zQ_end hq hS hW) hS.2.2 hd hlk
/-! ===== calls ===== -/
theorem z_call {G : ZG} {d : Nat} {p : Program} {e : Env} {s : State} {m : MethodId} {args : Array Value} {below : List Frame} {meth : Method} {c : Code} {H : Heap} {locs : List Loc} {Z : State → Prop} {pc : Nat} {ls : Array Slot} {rest st0 : List Value} {a : Array Value} {Q1 : Option ZV → ZH → Prop}
    (hr : va_Run p G.1 e (zrm d) s m args below meth c H locs 0 0 0 0 (F0 m pc ls st0) rest (zQ G Q1 a) (zA G)) (hS : va_S (zA G) s.heap H locs)
    (kk : ∀ (r : Option ZV) (h' : ZH) (H1 : Heap) (locs1 : List Loc), Q1 r h' → zW G h' H1 → va_S (zA G) s.heap H1 locs1 → W p G.1 e (zrm d) s m args below meth c H1 locs1 0 0 Z (F0 m (pc + 3) ls ((r.map (zc G)).toList ++ rest))) : W p G.1 e (zrm d) s m args below meth c H locs 0 0 Z (F0 m pc ls st0) := by
  intro T hT X
  obtain ⟨v, st₀, t, T', L, h0, X', hL, e1, e2, ⟨⟨r, h', hv, hp, hb⟩, hz, hk⟩, st⟩ := hr T hT X
  cases hv
  rw [h0] at hz hk
  obtain ⟨t2, a1, b1⟩ := kk r h' T'.heap (locs ++ L) hp (by rw [e1]; exact hb)
    ⟨Nat.le_trans hS.1 (by rw [e1]; exact hz), fun q h1 h2 => by rw [e1, hk q (Nat.lt_of_lt_of_le h1 hS.1) h2]; exact hS.2.1 q h1 h2, fun q hq => by
      rcases List.mem_append.mp hq with h | h
      · exact hS.2.2 q h
      · exact hL q h⟩ T' rfl X'
  exact ⟨t2, st t2 a1, b1⟩
theorem z_ws (M : ZM) (hc : Cond.code M.1 M.2.1 M.2.2.1 M.2.2.2 ∈ zall) : GoodIn zall (zws M) := by
  intro w hw
  rcases List.mem_cons.mp hw with rfl | h
  · exact zall_good _ hc
  · exact zall_good _ h
theorem z_pre {G : ZG} {as : List ZV} {h : ZH} {s : State} {H : Heap} {locs : List Loc} (hK : zK G s) (hSt : zSt G s s.heap) (hS : va_S (zA G) s.heap H locs) (hW : zW G h H) : ∀ U : State, U.heap = H → s.WarmedH U.vm → zPc G as h (as.map (zc G)).toArray U := by
  intro U hU hw
  refine ⟨rfl, by rw [hU]; exact hW, zK.warm hw hK, zSt.moved hw.alike ?_⟩
  rw [hU]
  exact hSt.kept hS.2.1
/-- a site of a static call; of a call of a method by its object (own class, nest mates), of a super call; of an overridden one -/
def zSS (own : String) (index : Nat) (M : ZM) (n : Nat) : Prop := (Cond.methodLink own index M.1 ∈ zall ∧ Cond.static M.1 ∈ zall ∧ Cond.initialized M.1.cls ∈ zall ∧ Cond.code M.1 M.2.1 M.2.2.1 M.2.2.2 ∈ zall) ∧ (M.1.cls ≠ "java/lang/invoke/MethodHandle" ∧ M.1.cls ≠ "java/lang/invoke/VarHandle" ∧ (parseMethodDescriptor M.1.desc).map (fun d => d.parameters.length) = some n) ∧ M.2.2.1 ≤ 29
def zSN (own : String) (index : Nat) (M : ZM) (n : Nat) : Prop := ((∃ host, Cond.methodLinkNest own index M.1 host ∈ znw) ∧ Cond.static M.1 ∈ zall ∧ Cond.initialized M.1.cls ∈ zall ∧ Cond.code M.1 M.2.1 M.2.2.1 M.2.2.2 ∈ zall) ∧ (M.1.cls ≠ "java/lang/invoke/MethodHandle" ∧ M.1.cls ≠ "java/lang/invoke/VarHandle" ∧ (parseMethodDescriptor M.1.desc).map (fun d => d.parameters.length) = some n) ∧ M.2.2.1 ≤ 29
def zVS (own : String) (index ci : Nat) (M : ZM) (n : Nat) : Prop := (Cond.methodLink own index M.1 ∈ zall ∧ Cond.instanceMethod M.1 ∈ zall ∧ Cond.selects M.1.cls M.1 M.1 ∈ zall ∧ Cond.initialized M.1.cls ∈ zall ∧ Cond.code M.1 M.2.1 M.2.2.1 M.2.2.2 ∈ zall) ∧ (M.1.cls ≠ "java/lang/invoke/MethodHandle" ∧ M.1.cls ≠ "java/lang/invoke/VarHandle" ∧ (parseMethodDescriptor M.1.desc).map (fun d => d.parameters.length) = some n) ∧ M.2.2.1 ≤ 29 ∧ ∃ (T : u_T) (N : Nat), vwCl[ci]? = some (M.1.cls, T, N)
def zUS (own : String) (index : Nat) (M : ZM) (n : Nat) : Prop := (Cond.methodLink own index M.1 ∈ zall ∧ Cond.sameMethod M.1.cls M.1.cls M.1.name M.1.desc ∈ zall ∧ Cond.superclass own M.1.cls ∈ zall ∧ Cond.instanceMethod M.1 ∈ zall ∧ Cond.initialized M.1.cls ∈ zall ∧ Cond.code M.1 M.2.1 M.2.2.1 M.2.2.2 ∈ zall) ∧ (M.1.name ≠ "<init>" ∧ (parseMethodDescriptor M.1.desc).map (fun d => d.parameters.length) = some n) ∧ M.2.2.1 ≤ 29
/-- the site names X; on an object of class C the method M runs -/
def zOS (own : String) (index ci : Nat) (X : ZM) (M : ZM) (n : Nat) : Prop := ∃ (C : String) (T : u_T) (N : Nat), vwCl[ci]? = some (C, T, N) ∧ (Cond.methodLink own index X.1 ∈ zall ∧ Cond.sameMethod X.1.cls X.1.cls X.1.name X.1.desc ∈ zall ∧ Cond.instanceMethod X.1 ∈ zall ∧ Cond.selects C X.1 M.1 ∈ zall ∧ Cond.instanceMethod M.1 ∈ zall ∧ Cond.initialized M.1.cls ∈ zall ∧ Cond.code M.1 M.2.1 M.2.2.1 M.2.2.2 ∈ zall ∧ Cond.code X.1 X.2.1 X.2.2.1 X.2.2.2 ∈ zall) ∧ (X.1.cls ≠ "java/lang/invoke/MethodHandle" ∧ X.1.cls ≠ "java/lang/invoke/VarHandle" ∧ (parseMethodDescriptor X.1.desc).map (fun d => d.parameters.length) = some n) ∧ M.2.2.1 ≤ 29
theorem zin_of {a : Cond} {ws : List Cond} (ha : a ∈ zall) (h : GoodIn zall ws) : GoodIn zall (a :: ws) := by
  intro w hw
  rcases List.mem_cons.mp hw with rfl | h1
  · exact zall_good _ ha
  · exact h _ h1
theorem zc_sum (G : ZG) (S : List ZV) (hS : S.length ≤ 4) : ((S.map (zc G)).map fun v => v.category).sum ≤ 8 := by
  have key : ∀ (S : List ZV), ((S.map (zc G)).map fun v => v.category).sum ≤ 2 * S.length := by
    intro S
    induction S with
    | nil => simp
    | cons a S ih =>
      have : (zc G a).category ≤ 2 := by rcases lv_cat (zc G a) with h | h <;> omega
      simp only [List.map_cons, List.sum_cons, List.length_cons]
      omega
  have := key S
  omega
theorem zt_cS {G : ZG} {d : Nat} {M N : ZM} {pc pc' : Nat} {L S : List ZV} {h : ZH} {Q Q1 : Option ZV → ZH → Prop} {as : List ZV} {index n : Nat} {S0 : List ZV} (hd : zD M.2.1 pc pc' (.invokestatic index) 3) (hs : zSS M.1.cls index N n) (hn : as.length = n) (hS4 : S.length ≤ 4) (hS0 : S0 = as.reverse ++ S) (hC : zC G d N (as) h Q1) (kk : ∀ r h', Q1 r h' → zT G (d + 1) M pc' L (r.toList ++ S) h' Q) : zT G (d + 1) M pc L S0 h Q := by
  obtain ⟨hd, rfl⟩ := hd
  intro p e s m args below meth c H locs ls hX hS hW hL
  obtain ⟨hx, hb, hml, hr, hts, hown, hlk, hK, hSt⟩ := id hX
  subst hS0
  obtain ⟨⟨w1, w2, w3, w4⟩, hdsc, hmax⟩ := hs
  have cw := va_cwS (R := zrm (d + 1)) (s := s) (args := args) (own := M.1.cls) (index := index) (y := N.1) (bytes := N.2.1) (maxL := N.2.2.1) (mc := 0) (ms := 0) (ret := N.2.2.2) (Ts := zall) (ws := zws N) (rm := zrm d) n hts (zin_of w1 (zin_of w2 (zin_of w3 (z_ws N w4)))) rfl rfl rfl hdsc ⟨Nat.le_refl _, by have := hmax; show 8 + (N.2.2.1 + 11) + 48 * d ≤ 48 * (d + 1); omega⟩
  have hstk : ((as.reverse ++ S).map (zc G)) = (as.map (zc G)).reverse ++ S.map (zc G) := by
    rw [List.map_append, List.map_reverse]
  refine z_call (rest := S.map (zc G)) (va_runS (As := as.map (zc G)) ⟨hx, hb, hml, hown, hts⟩ hC cw ⟨zPc_blind G _ h, z_pre hK hSt hS hW⟩ rfl (by rw [List.length_map]; exact hn) hL.1 hstk (lv_room (zc_sum G S hS4)) hd ⟨Nat.le_refl _, Nat.le_refl _⟩) hS ?_
  intro r h' H1 locs1 hq hW1 hS1
  have k2 := kk r h' hq p e s m args below meth c H1 locs1 ls hX hS1 hW1 hL
  rw [List.map_append] at k2
  have e1 : r.toList.map (zc G) = (r.map (zc G)).toList := by cases r <;> rfl
  rw [e1] at k2
  exact k2
theorem zt_cSN {G : ZG} {d : Nat} {M N : ZM} {pc pc' : Nat} {L S : List ZV} {h : ZH} {Q Q1 : Option ZV → ZH → Prop} {as : List ZV} {index n : Nat} {S0 : List ZV} (hd : zD M.2.1 pc pc' (.invokestatic index) 3) (hs : zSN M.1.cls index N n) (hn : as.length = n) (hS4 : S.length ≤ 4) (hS0 : S0 = as.reverse ++ S) (hC : zC G d N (as) h Q1) (kk : ∀ r h', Q1 r h' → zT G (d + 1) M pc' L (r.toList ++ S) h' Q) : zT G (d + 1) M pc L S0 h Q := by
  obtain ⟨hd, rfl⟩ := hd
  intro p e s m args below meth c H locs ls hX hS hW hL
  obtain ⟨hx, hb, hml, hr, hts, hown, hlk, hK, hSt⟩ := id hX
  subst hS0
  obtain ⟨⟨⟨host, w1⟩, w2, w3, w4⟩, hdsc, hmax⟩ := hs
  have cw := va_cnB (R := zrm (d + 1)) (s := s) (args := args) (own := M.1.cls) (host := host) (index := index) (y := N.1) (bytes := N.2.1) (maxL := N.2.2.1) (mc := 0) (ms := 0) (ret := N.2.2.2) (Ts := zall) (ws := zws N) (rm := zrm d) n hts (z_ws N w4) rfl rfl rfl (hK.2.1 _ w1) (hts _ w3) hdsc ⟨Nat.le_refl _, by have := hmax; show 8 + (N.2.2.1 + 11) + 48 * d ≤ 48 * (d + 1); omega⟩
  have hstk : ((as.reverse ++ S).map (zc G)) = (as.map (zc G)).reverse ++ S.map (zc G) := by
    rw [List.map_append, List.map_reverse]
  refine z_call (rest := S.map (zc G)) (va_runSN (As := as.map (zc G)) ⟨hx, hb, hml, hown, hts⟩ hC ⟨cw, hts _ w2, trivial⟩ ⟨zPc_blind G _ h, z_pre hK hSt hS hW⟩ rfl (by rw [List.length_map]; exact hn) hL.1 hstk (lv_room (zc_sum G S hS4)) hd ⟨Nat.le_refl _, Nat.le_refl _⟩) hS ?_
  intro r h' H1 locs1 hq hW1 hS1
  have k2 := kk r h' hq p e s m args below meth c H1 locs1 ls hX hS1 hW1 hL
  rw [List.map_append] at k2
  have e1 : r.toList.map (zc G) = (r.map (zc G)).toList := by cases r <;> rfl
  rw [e1] at k2
  exact k2
theorem zt_cV {G : ZG} {d : Nat} {M N : ZM} {pc pc' : Nat} {L S : List ZV} {h : ZH} {Q Q1 : Option ZV → ZH → Prop} {as : List ZV} {k i ci Nf index n : Nat} {S0 : List ZV} (hd : zD M.2.1 pc pc' (.invokevirtual index) 3) (hs : zVS M.1.cls index ci N n) (hk : zkd k i = .inl (ci, Nf)) (hi : i < zcnt k) (hn : as.length = n) (hS4 : S.length ≤ 4) (hS0 : S0 = as.reverse ++ (zr k i :: S)) (hC : zC G d N (zr k i :: as) h Q1) (kk : ∀ r h', Q1 r h' → zT G (d + 1) M pc' L (r.toList ++ S) h' Q) : zT G (d + 1) M pc L S0 h Q := by
  obtain ⟨hd, rfl⟩ := hd
  intro p e s m args below meth c H locs ls hX hS hW hL
  obtain ⟨hx, hb, hml, hr, hts, hown, hlk, hK, hSt⟩ := id hX
  subst hS0
  obtain ⟨⟨w1, w2, w3, w4, w5⟩, hdsc, hmax, T, Nf', hc⟩ := hs
  have cw := cwV (R := zrm (d + 1)) (s := s) (args := args) (own := M.1.cls) (C := N.1.cls) (index := index) (y := N.1) (bytes := N.2.1) (maxL := N.2.2.1) (mc := 0) (ms := 0) (ret := N.2.2.2) (Ts := zall) (ws := zws N) (rm := zrm d) n hts (zin_of w1 (zin_of w2 (zin_of w3 (zin_of w4 (z_ws N w5))))) rfl rfl rfl ⟨rfl, hdsc⟩ ⟨Nat.le_refl _, by have := hmax; show 8 + (N.2.2.1 + 11) + 48 * d ≤ 48 * (d + 1); omega⟩
  obtain ⟨q0, -, hq0⟩ := zL_at G h hi
  rw [zE_obj G h hk] at hq0
  have hrv := va_recv hK.1 hW hc hq0
  have hstk : ((as.reverse ++ (zr k i :: S)).map (zc G)) = (as.map (zc G)).reverse ++ Value.ref (G.2.2.2 k i) :: S.map (zc G) := by
    rw [List.map_append, List.map_reverse]; rfl
  refine z_call (rest := S.map (zc G)) (va_runV (As := as.map (zc G)) ⟨hx, hb, hml, hown, hts⟩ hC cw ⟨zPc_blind G _ h, hrv, z_pre (as := zr k i :: as) hK hSt hS hW⟩ rfl (by rw [List.length_map]; exact hn) hL.1 hstk (lv_room (zc_sum G S hS4)) hd ⟨Nat.le_refl _, Nat.le_refl _⟩) hS ?_
  intro r h' H1 locs1 hq hW1 hS1
  have k2 := kk r h' hq p e s m args below meth c H1 locs1 ls hX hS1 hW1 hL
  rw [List.map_append] at k2
  have e1 : r.toList.map (zc G) = (r.map (zc G)).toList := by cases r <;> rfl
  rw [e1] at k2
  exact k2
theorem zt_cO {G : ZG} {d : Nat} {M N : ZM} {pc pc' : Nat} {L S : List ZV} {h : ZH} {Q Q1 : Option ZV → ZH → Prop} {as : List ZV} {k i ci Nf index n : Nat} {S0 : List ZV} (hd : zD M.2.1 pc pc' (.invokevirtual index) 3) {X : ZM} (hs : zOS M.1.cls index ci X N n) (hk : zkd k i = .inl (ci, Nf)) (hi : i < zcnt k) (hn : as.length = n) (hS4 : S.length ≤ 4) (hS0 : S0 = as.reverse ++ (zr k i :: S)) (hC : zC G d N (zr k i :: as) h Q1) (kk : ∀ r h', Q1 r h' → zT G (d + 1) M pc' L (r.toList ++ S) h' Q) : zT G (d + 1) M pc L S0 h Q := by
  obtain ⟨hd, rfl⟩ := hd
  intro p e s m args below meth c H locs ls hX hS hW hL
  obtain ⟨hx, hb, hml, hr, hts, hown, hlk, hK, hSt⟩ := id hX
  subst hS0
  obtain ⟨C, T, Nf', hc, ⟨w1, w2, w3, w4, w5, w6, w7, w8⟩, hdsc, hmax⟩ := hs
  have cw := va_cwO (R := zrm (d + 1)) (s := s) (args := args) (own := M.1.cls) (C := C) (owner := X.1.cls) (index := index) (x := X.1) (y := N.1) (bytes := N.2.1) (maxL := N.2.2.1) (mc := 0) (ms := 0) (ret := N.2.2.2) (Ts := zall) (ws := zws N) (rm := zrm d) n hts (zin_of w1 (zin_of w2 (zin_of w3 (zin_of w4 (zin_of w5 (zin_of w6 (z_ws N w7))))))) rfl rfl rfl w8 hdsc ⟨Nat.le_refl _, by have := hmax; show 8 + (N.2.2.1 + 11) + 48 * d ≤ 48 * (d + 1); omega⟩
  obtain ⟨q0, -, hq0⟩ := zL_at G h hi
  rw [zE_obj G h hk] at hq0
  have hrv := va_recv hK.1 hW hc hq0
  have hstk : ((as.reverse ++ (zr k i :: S)).map (zc G)) = (as.map (zc G)).reverse ++ Value.ref (G.2.2.2 k i) :: S.map (zc G) := by
    rw [List.map_append, List.map_reverse]; rfl
  refine z_call (rest := S.map (zc G)) (va_runU (As := as.map (zc G)) ⟨hx, hb, hml, hown, hts⟩ hC cw ⟨zPc_blind G _ h, hrv, z_pre (as := zr k i :: as) hK hSt hS hW⟩ rfl (by rw [List.length_map]; exact hn) hL.1 hstk (lv_room (zc_sum G S hS4)) hd ⟨Nat.le_refl _, Nat.le_refl _⟩) hS ?_
  intro r h' H1 locs1 hq hW1 hS1
  have k2 := kk r h' hq p e s m args below meth c H1 locs1 ls hX hS1 hW1 hL
  rw [List.map_append] at k2
  have e1 : r.toList.map (zc G) = (r.map (zc G)).toList := by cases r <;> rfl
  rw [e1] at k2
  exact k2
theorem zt_cU {G : ZG} {d : Nat} {M N : ZM} {pc pc' : Nat} {L S : List ZV} {h : ZH} {Q Q1 : Option ZV → ZH → Prop} {as : List ZV} {k i ci Nf index n : Nat} {S0 : List ZV} (hd : zD M.2.1 pc pc' (.invokespecial index) 3) (hs : zUS M.1.cls index N n) (hcl : ∃ (C : String) (T : u_T), vwCl[ci]? = some (C, T, Nf)) (hk : zkd k i = .inl (ci, Nf)) (hi : i < zcnt k) (hn : as.length = n) (hS4 : S.length ≤ 4) (hS0 : S0 = as.reverse ++ (zr k i :: S)) (hC : zC G d N (zr k i :: as) h Q1) (kk : ∀ r h', Q1 r h' → zT G (d + 1) M pc' L (r.toList ++ S) h' Q) : zT G (d + 1) M pc L S0 h Q := by
  obtain ⟨hd, rfl⟩ := hd
  intro p e s m args below meth c H locs ls hX hS hW hL
  obtain ⟨hx, hb, hml, hr, hts, hown, hlk, hK, hSt⟩ := id hX
  subst hS0
  obtain ⟨⟨w1, w2, w3, w4, w5, w6⟩, hdsc, hmax⟩ := hs
  obtain ⟨C, T, hc⟩ := hcl
  have cw := va_cwSU (R := zrm (d + 1)) (s := s) (args := args) (own := M.1.cls) (index := index) (y := N.1) (bytes := N.2.1) (maxL := N.2.2.1) (mc := 0) (ms := 0) (ret := N.2.2.2) (Ts := zall) (ws := zws N) (rm := zrm d) n hts (zin_of w1 (zin_of w2 (zin_of w3 (zin_of w4 (zin_of w5 (z_ws N w6)))))) rfl rfl rfl hdsc ⟨Nat.le_refl _, by have := hmax; show 8 + (N.2.2.1 + 11) + 48 * d ≤ 48 * (d + 1); omega⟩
  obtain ⟨q0, -, hq0⟩ := zL_at G h hi
  rw [zE_obj G h hk] at hq0
  have hrv := va_recv hK.1 hW hc hq0
  have hat := (hK.1.1 ci _ hc).2
  have hstk : ((as.reverse ++ (zr k i :: S)).map (zc G)) = (as.map (zc G)).reverse ++ Value.ref (G.2.2.2 k i) :: S.map (zc G) := by
    rw [List.map_append, List.map_reverse]; rfl
  refine z_call (rest := S.map (zc G)) (va_runSU (As := as.map (zc G)) hat ⟨hx, hb, hml, hown, hts⟩ hC cw ⟨zPc_blind G _ h, hrv, z_pre (as := zr k i :: as) hK hSt hS hW⟩ rfl (by rw [List.length_map]; exact hn) hL.1 hstk (lv_room (zc_sum G S hS4)) hd ⟨Nat.le_refl _, Nat.le_refl _⟩) hS ?_
  intro r h' H1 locs1 hq hW1 hS1
  have k2 := kk r h' hq p e s m args below meth c H1 locs1 ls hX hS1 hW1 hL
  rw [List.map_append] at k2
  have e1 : r.toList.map (zc G) = (r.map (zc G)).toList := by cases r <;> rfl
  rw [e1] at k2
  exact k2
end
section
/-! ===== arraycopy, switches ===== -/
def zsR (h : ZH) (k i : Nat) (f : Nat → Int32) : ZH := (fun k' i' j' => if k' = k ∧ i' = i then f j' else h.1 k' i' j', h.2)
theorem zsR_row (h : ZH) (k i : Nat) (f : Nat → Int32) : (zsR h k i f).1 k i = f := by
  funext q
  simp [zsR]
theorem zE_oR (G : ZG) (h : ZH) {k i : Nat} (f : Nat → Int32) (k' i' : Nat) (hn : ¬ (k' = k ∧ i' = i)) : zE G (zsR h k i f) k' i' = zE G h k' i' := by
  unfold zE
  have : (zsR h k i f).1 k' i' = h.1 k' i' := by
    funext j'
    show (if k' = k ∧ i' = i then f j' else h.1 k' i' j') = _
    rw [if_neg hn]
  rw [this]
  rfl
def zAC (own : String) (index : Nat) : Prop := Cond.methodLink own index arraycopyName ∈ zall ∧ Cond.native arraycopyName ∈ zall ∧ Cond.static arraycopyName ∈ zall ∧ Cond.initialized "java/lang/System" ∈ zall
theorem zt_copy {G : ZG} {d : Nat} {M : ZM} {pc pc' : Nat} {L S : List ZV} {h : ZH} {Q : Option ZV → ZH → Prop} {k0 i0 k1 i1 n0 n1 index : Nat} {sp dp n : Int32} (hd : zD M.2.1 pc pc' (.invokestatic index) 3) (ha : zAC M.1.cls index) (hk0 : zkd k0 i0 = .inr (0, n0)) (hk1 : zkd k1 i1 = .inr (0, n1)) (hi0 : i0 < zcnt k0) (hi1 : i1 < zcnt k1) (hS4 : S.length ≤ 2)
    (h1 : ¬ sp < 0) (h2 : ¬ dp < 0) (h3 : ¬ n < 0) (h4 : sp.toNatClampNeg + n.toNatClampNeg ≤ n0) (h5 : dp.toNatClampNeg + n.toNatClampNeg ≤ n1)
    (kk : zT G (d + 1) M pc' L S (zsR h k1 i1 (va_cpy (h.1 k0 i0) (h.1 k1 i1) sp.toNatClampNeg dp.toNatClampNeg n.toNatClampNeg)) Q) : zT G (d + 1) M pc L (zi n :: zi dp :: zr k1 i1 :: zi sp :: zr k0 i0 :: S) h Q := by
  obtain ⟨hd, rfl⟩ := hd
  intro p e s m args below meth c H locs ls hX hS hW hL
  obtain ⟨hx, hb, hml, hr, hts, hown, hlk, hK, hSt⟩ := id hX
  obtain ⟨w1, w2, w3, w4⟩ := ha
  obtain ⟨q0, -, hq0⟩ := zL_at G h hi0
  obtain ⟨q1, hp1, hq1⟩ := zL_at G h hi1
  rw [zE_int G h hk0] at hq0
  rw [zE_int G h hk1] at hq1
  have hset := zL_set G (h := h) (h' := zsR h k1 i1 (va_cpy (h.1 k0 i0) (h.1 k1 i1) sp.toNatClampNeg dp.toNatClampNeg n.toNatClampNeg)) hp1 (e := .inl (G.2.2.1 0, n1, .inl (va_cpy (h.1 k0 i0) (h.1 k1 i1) sp.toNatClampNeg dp.toNatClampNeg n.toNatClampNeg))) (by rw [zE_int G _ hk1, zsR_row]) (fun k' i' hn => zE_oR G h _ k' i' hn)
  refine va_copyi hx hb (hml.trans hL.1.symm) hown (hts _ w1) (hts _ w2) (hts _ w3) (hts _ w4) hK.1 hW (zD_of G h hK.2.2) hS q0 q1 0 0 hq0 hq1 rfl rfl rfl h1 h2 h3 h4 h5 (fun _ _ => rfl) (by show 1 ≤ d + 1; omega) ?_ hd ?_
  · have h6 := zc_sum G S (by omega)
    have h7 : nativeFrameWords "java/lang/System" "arraycopy" 5 ≤ 29 := by decide +kernel
    show _ ≤ 48 * (d + 1)
    omega
  · intro H1 locs1 g1 _ g3
    rw [hset] at g1
    exact kk p e s m args below meth c H1 locs1 ls hX g3 g1 hL
theorem zt_lookup {G : ZG} {d : Nat} {M : ZM} {pc tgt len : Nat} {L S : List ZV} {h : ZH} {Q : Option ZV → ZH → Prop} {dflt off : Int} {ps : Array (Int × Int)} {x : Int32} (hd : decode M.2.1 pc = .ok (.lookupswitch dflt ps, len)) (hp : (ps.toList.zip (ps.toList.drop 1)).all (fun (a, next) => a.1 < next.1) = true) (ho : Op.lookupswitch.offset ps.toList dflt x.toInt = off) (ht : (pc : Int) + off = (tgt : Int))
    (kk : zT G d M tgt L S h Q) : zT G d M pc L (zi x :: S) h Q := by
  intro p e s m args below meth c H locs ls hX hS hW hL
  obtain ⟨hx, hb, hml, hr, hts, hown, hlk, hK, hSt⟩ := id hX
  exact lv_lookup hx hb hd hp ho ht (kk p e s m args below meth c H locs ls hX hS hW hL)
theorem zt_tabOut {G : ZG} {d : Nat} {M : ZM} {pc tgt len : Nat} {L S : List ZV} {h : ZH} {Q : Option ZV → ZH → Prop} {dflt lo hi : Int} {offs : Array Int} {x : Int32} (hd : decode M.2.1 pc = .ok (.tableswitch dflt lo hi offs, len)) (hh : x.toInt < lo ∨ hi < x.toInt) (ht : (pc : Int) + dflt = (tgt : Int))
    (kk : zT G d M tgt L S h Q) : zT G d M pc L (zi x :: S) h Q := by
  intro p e s m args below meth c H locs ls hX hS hW hL
  obtain ⟨hx, hb, hml, hr, hts, hown, hlk, hK, hSt⟩ := id hX
  exact lv_tableOut hx hb hd hh ht (kk p e s m args below meth c H locs ls hX hS hW hL)
theorem zt_tabIn {G : ZG} {d : Nat} {M : ZM} {pc tgt len : Nat} {L S : List ZV} {h : ZH} {Q : Option ZV → ZH → Prop} {dflt lo hi off : Int} {offs : Array Int} {x : Int32} (hd : decode M.2.1 pc = .ok (.tableswitch dflt lo hi offs, len)) (h1 : ¬ x.toInt < lo) (h2 : ¬ hi < x.toInt) (ho : offs[(x.toInt - lo).toNat]? = some off) (ht : (pc : Int) + off = (tgt : Int))
    (kk : zT G d M tgt L S h Q) : zT G d M pc L (zi x :: S) h Q := by
  intro p e s m args below meth c H locs ls hX hS hW hL
  obtain ⟨hx, hb, hml, hr, hts, hown, hlk, hK, hSt⟩ := id hX
  exact lv_tableIn hx hb hd h1 h2 ho ht (kk p e s m args below meth c H locs ls hX hS hW hL)
end
