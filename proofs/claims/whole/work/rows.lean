section
-- ===== PART A: goes FIRST, ahead of the names: the tables' words, and 'selects' of the private methods out of them =====
/-- a private method of a class that the tables say can be made, by its rows of tables_1 -/
def lw_okq (q : MethodName × Nat) : Prop := (q.1.cls ≠ "java/lang/invoke/MethodHandle" ∧ q.1.cls ≠ "java/lang/invoke/VarHandle") ∧ Cond.instantiable q.1.cls q.2 ∈ tables_1 ∧ Cond.privateMethod q.1 ∈ tables_1 ∧ Cond.instanceMethod q.1 ∈ tables_1
theorem lw_p0 : lw_okq (⟨"SugarBelow", "noThing", "(I)Z"⟩, 9) := ⟨⟨by decide +kernel, by decide +kernel⟩, List.mem_of_getElem? (i := 17) (by decide +kernel), List.mem_of_getElem? (i := 366) (by decide +kernel), List.mem_of_getElem? (i := 367) (by decide +kernel)⟩
theorem lw_p1 : lw_okq (⟨"SugarBelow", "exchange", "([III)I"⟩, 9) := ⟨⟨by decide +kernel, by decide +kernel⟩, List.mem_of_getElem? (i := 17) (by decide +kernel), List.mem_of_getElem? (i := 385) (by decide +kernel), List.mem_of_getElem? (i := 386) (by decide +kernel)⟩
theorem lw_p2 : lw_okq (⟨"SugarBelow", "noSort", "(I)Z"⟩, 9) := ⟨⟨by decide +kernel, by decide +kernel⟩, List.mem_of_getElem? (i := 17) (by decide +kernel), List.mem_of_getElem? (i := 405) (by decide +kernel), List.mem_of_getElem? (i := 406) (by decide +kernel)⟩
theorem lw_p3 : lw_okq (⟨"SugarBelow$Pad", "take", "(II)I"⟩, 7) := ⟨⟨by decide +kernel, by decide +kernel⟩, List.mem_of_getElem? (i := 166) (by decide +kernel), List.mem_of_getElem? (i := 433) (by decide +kernel), List.mem_of_getElem? (i := 434) (by decide +kernel)⟩
theorem lw_p4 : lw_okq (⟨"SugarBelow$Pad", "takeLetter", "(I)I"⟩, 7) := ⟨⟨by decide +kernel, by decide +kernel⟩, List.mem_of_getElem? (i := 166) (by decide +kernel), List.mem_of_getElem? (i := 437) (by decide +kernel), List.mem_of_getElem? (i := 438) (by decide +kernel)⟩
theorem lw_p5 : lw_okq (⟨"SugarBelow$Pad", "takeMany", "(I)I"⟩, 7) := ⟨⟨by decide +kernel, by decide +kernel⟩, List.mem_of_getElem? (i := 166) (by decide +kernel), List.mem_of_getElem? (i := 441) (by decide +kernel), List.mem_of_getElem? (i := 442) (by decide +kernel)⟩
theorem lw_p6 : lw_okq (⟨"SugarBelow$Pad", "addDigit", "([IIII)I"⟩, 7) := ⟨⟨by decide +kernel, by decide +kernel⟩, List.mem_of_getElem? (i := 166) (by decide +kernel), List.mem_of_getElem? (i := 448) (by decide +kernel), List.mem_of_getElem? (i := 449) (by decide +kernel)⟩
theorem lw_p7 : lw_okq (⟨"SugarBelow$Pad", "takeMark", "(IZ)I"⟩, 7) := ⟨⟨by decide +kernel, by decide +kernel⟩, List.mem_of_getElem? (i := 166) (by decide +kernel), List.mem_of_getElem? (i := 452) (by decide +kernel), List.mem_of_getElem? (i := 453) (by decide +kernel)⟩
theorem lw_p8 : lw_okq (⟨"SugarBelow", "lookAsItIs", "()V"⟩, 9) := ⟨⟨by decide +kernel, by decide +kernel⟩, List.mem_of_getElem? (i := 17) (by decide +kernel), List.mem_of_getElem? (i := 487) (by decide +kernel), List.mem_of_getElem? (i := 488) (by decide +kernel)⟩
theorem lw_p9 : lw_okq (⟨"SugarBelow$Walks", "takenFor", "(IIII)I"⟩, 7) := ⟨⟨by decide +kernel, by decide +kernel⟩, List.mem_of_getElem? (i := 199) (by decide +kernel), List.mem_of_getElem? (i := 504) (by decide +kernel), List.mem_of_getElem? (i := 505) (by decide +kernel)⟩
theorem lw_p10 : lw_okq (⟨"SugarBelow$Walks", "gainAt", "(IIIII)I"⟩, 7) := ⟨⟨by decide +kernel, by decide +kernel⟩, List.mem_of_getElem? (i := 199) (by decide +kernel), List.mem_of_getElem? (i := 508) (by decide +kernel), List.mem_of_getElem? (i := 509) (by decide +kernel)⟩
theorem lw_p11 : lw_okq (⟨"SugarBelow$Walks", "wantedAt", "(IIIII)I"⟩, 7) := ⟨⟨by decide +kernel, by decide +kernel⟩, List.mem_of_getElem? (i := 199) (by decide +kernel), List.mem_of_getElem? (i := 512) (by decide +kernel), List.mem_of_getElem? (i := 513) (by decide +kernel)⟩
theorem lw_p12 : lw_okq (⟨"SugarBelow$Walks", "freeGain", "(III)I"⟩, 7) := ⟨⟨by decide +kernel, by decide +kernel⟩, List.mem_of_getElem? (i := 199) (by decide +kernel), List.mem_of_getElem? (i := 520) (by decide +kernel), List.mem_of_getElem? (i := 521) (by decide +kernel)⟩
theorem lw_p13 : lw_okq (⟨"SugarBelow$Walks", "cell", "(III)I"⟩, 7) := ⟨⟨by decide +kernel, by decide +kernel⟩, List.mem_of_getElem? (i := 199) (by decide +kernel), List.mem_of_getElem? (i := 535) (by decide +kernel), List.mem_of_getElem? (i := 536) (by decide +kernel)⟩
theorem lw_p14 : lw_okq (⟨"SugarBelow$Walks", "gained", "(II)I"⟩, 7) := ⟨⟨by decide +kernel, by decide +kernel⟩, List.mem_of_getElem? (i := 199) (by decide +kernel), List.mem_of_getElem? (i := 568) (by decide +kernel), List.mem_of_getElem? (i := 569) (by decide +kernel)⟩
theorem lw_p15 : lw_okq (⟨"SugarBelow", "forbidsAll", "(II)Z"⟩, 9) := ⟨⟨by decide +kernel, by decide +kernel⟩, List.mem_of_getElem? (i := 17) (by decide +kernel), List.mem_of_getElem? (i := 596) (by decide +kernel), List.mem_of_getElem? (i := 597) (by decide +kernel)⟩
def lw_privs_1 : List (MethodName × Nat) := [(⟨"SugarBelow", "noThing", "(I)Z"⟩, 9), (⟨"SugarBelow", "exchange", "([III)I"⟩, 9), (⟨"SugarBelow", "noSort", "(I)Z"⟩, 9), (⟨"SugarBelow$Pad", "take", "(II)I"⟩, 7), (⟨"SugarBelow$Pad", "takeLetter", "(I)I"⟩, 7), (⟨"SugarBelow$Pad", "takeMany", "(I)I"⟩, 7), (⟨"SugarBelow$Pad", "addDigit", "([IIII)I"⟩, 7), (⟨"SugarBelow$Pad", "takeMark", "(IZ)I"⟩, 7), (⟨"SugarBelow", "lookAsItIs", "()V"⟩, 9), (⟨"SugarBelow$Walks", "takenFor", "(IIII)I"⟩, 7), (⟨"SugarBelow$Walks", "gainAt", "(IIIII)I"⟩, 7), (⟨"SugarBelow$Walks", "wantedAt", "(IIIII)I"⟩, 7), (⟨"SugarBelow$Walks", "freeGain", "(III)I"⟩, 7), (⟨"SugarBelow$Walks", "cell", "(III)I"⟩, 7), (⟨"SugarBelow$Walks", "gained", "(II)I"⟩, 7), (⟨"SugarBelow", "forbidsAll", "(II)Z"⟩, 9)]
theorem lw_r1 : ∀ q ∈ lw_privs_1, lw_okq q := List.forall_mem_cons.mpr ⟨lw_p0, List.forall_mem_cons.mpr ⟨lw_p1, List.forall_mem_cons.mpr ⟨lw_p2, List.forall_mem_cons.mpr ⟨lw_p3, List.forall_mem_cons.mpr ⟨lw_p4, List.forall_mem_cons.mpr ⟨lw_p5, List.forall_mem_cons.mpr ⟨lw_p6, List.forall_mem_cons.mpr ⟨lw_p7, List.forall_mem_cons.mpr ⟨lw_p8, List.forall_mem_cons.mpr ⟨lw_p9, List.forall_mem_cons.mpr ⟨lw_p10, List.forall_mem_cons.mpr ⟨lw_p11, List.forall_mem_cons.mpr ⟨lw_p12, List.forall_mem_cons.mpr ⟨lw_p13, List.forall_mem_cons.mpr ⟨lw_p14, List.forall_mem_cons.mpr ⟨lw_p15, fun _ h => absurd h List.not_mem_nil⟩⟩⟩⟩⟩⟩⟩⟩⟩⟩⟩⟩⟩⟩⟩⟩
theorem lw_p16 : lw_okq (⟨"SugarBelow$Prices", "raiseAlone", "(IZ)V"⟩, 4) := ⟨⟨by decide +kernel, by decide +kernel⟩, List.mem_of_getElem? (i := 229) (by decide +kernel), List.mem_of_getElem? (i := 641) (by decide +kernel), List.mem_of_getElem? (i := 642) (by decide +kernel)⟩
theorem lw_p17 : lw_okq (⟨"SugarBelow$Prices", "moveThing", "(III)Z"⟩, 4) := ⟨⟨by decide +kernel, by decide +kernel⟩, List.mem_of_getElem? (i := 229) (by decide +kernel), List.mem_of_getElem? (i := 652) (by decide +kernel), List.mem_of_getElem? (i := 653) (by decide +kernel)⟩
theorem lw_p18 : lw_okq (⟨"SugarBelow$Duel", "fillTables", "()V"⟩, 12) := ⟨⟨by decide +kernel, by decide +kernel⟩, List.mem_of_getElem? (i := 248) (by decide +kernel), List.mem_of_getElem? (i := 689) (by decide +kernel), List.mem_of_getElem? (i := 690) (by decide +kernel)⟩
theorem lw_p19 : lw_okq (⟨"SugarBelow$Duel", "bestAgainst", "(II)I"⟩, 12) := ⟨⟨by decide +kernel, by decide +kernel⟩, List.mem_of_getElem? (i := 248) (by decide +kernel), List.mem_of_getElem? (i := 702) (by decide +kernel), List.mem_of_getElem? (i := 703) (by decide +kernel)⟩
theorem lw_p20 : lw_okq (⟨"SugarBelow$Duel", "leftBy", "(III)I"⟩, 12) := ⟨⟨by decide +kernel, by decide +kernel⟩, List.mem_of_getElem? (i := 248) (by decide +kernel), List.mem_of_getElem? (i := 706) (by decide +kernel), List.mem_of_getElem? (i := 707) (by decide +kernel)⟩
theorem lw_p21 : lw_okq (⟨"SugarBelow$Duel", "isRest", "(II)Z"⟩, 12) := ⟨⟨by decide +kernel, by decide +kernel⟩, List.mem_of_getElem? (i := 248) (by decide +kernel), List.mem_of_getElem? (i := 714) (by decide +kernel), List.mem_of_getElem? (i := 715) (by decide +kernel)⟩
theorem lw_p22 : lw_okq (⟨"SugarBelow$Duel", "couldHaveMore", "(III)Z"⟩, 12) := ⟨⟨by decide +kernel, by decide +kernel⟩, List.mem_of_getElem? (i := 248) (by decide +kernel), List.mem_of_getElem? (i := 718) (by decide +kernel), List.mem_of_getElem? (i := 719) (by decide +kernel)⟩
theorem lw_p23 : lw_okq (⟨"SugarBelow$Duel", "takesTurn", "(I)Z"⟩, 12) := ⟨⟨by decide +kernel, by decide +kernel⟩, List.mem_of_getElem? (i := 248) (by decide +kernel), List.mem_of_getElem? (i := 735) (by decide +kernel), List.mem_of_getElem? (i := 736) (by decide +kernel)⟩
theorem lw_p24 : lw_okq (⟨"SugarBelow$Prices", "leftWithHead", "(III)I"⟩, 4) := ⟨⟨by decide +kernel, by decide +kernel⟩, List.mem_of_getElem? (i := 229) (by decide +kernel), List.mem_of_getElem? (i := 747) (by decide +kernel), List.mem_of_getElem? (i := 748) (by decide +kernel)⟩
theorem lw_p25 : lw_okq (⟨"SugarBelow$Prices", "leftWithWindow", "(II)I"⟩, 4) := ⟨⟨by decide +kernel, by decide +kernel⟩, List.mem_of_getElem? (i := 229) (by decide +kernel), List.mem_of_getElem? (i := 760) (by decide +kernel), List.mem_of_getElem? (i := 761) (by decide +kernel)⟩
theorem lw_p26 : lw_okq (⟨"SugarBelow$Weeks", "needCheaply", "(IIZ)I"⟩, 5) := ⟨⟨by decide +kernel, by decide +kernel⟩, List.mem_of_getElem? (i := 294) (by decide +kernel), List.mem_of_getElem? (i := 784) (by decide +kernel), List.mem_of_getElem? (i := 785) (by decide +kernel)⟩
theorem lw_p27 : lw_okq (⟨"SugarBelow$Weeks", "needDearly", "(I)I"⟩, 5) := ⟨⟨by decide +kernel, by decide +kernel⟩, List.mem_of_getElem? (i := 294) (by decide +kernel), List.mem_of_getElem? (i := 788) (by decide +kernel), List.mem_of_getElem? (i := 789) (by decide +kernel)⟩
theorem lw_p28 : lw_okq (⟨"SugarBelow$Prices", "turnsBest", "(IIIII)Z"⟩, 4) := ⟨⟨by decide +kernel, by decide +kernel⟩, List.mem_of_getElem? (i := 229) (by decide +kernel), List.mem_of_getElem? (i := 847) (by decide +kernel), List.mem_of_getElem? (i := 848) (by decide +kernel)⟩
theorem lw_p29 : lw_okq (⟨"SugarBelowModel", "isThing", "(I)Z"⟩, 34) := ⟨⟨by decide +kernel, by decide +kernel⟩, List.mem_of_getElem? (i := 883) (by decide +kernel), List.mem_of_getElem? (i := 1007) (by decide +kernel), List.mem_of_getElem? (i := 1008) (by decide +kernel)⟩
theorem lw_p30 : lw_okq (⟨"SugarBelowModel", "clearList", "(I)V"⟩, 34) := ⟨⟨by decide +kernel, by decide +kernel⟩, List.mem_of_getElem? (i := 883) (by decide +kernel), List.mem_of_getElem? (i := 1029) (by decide +kernel), List.mem_of_getElem? (i := 1030) (by decide +kernel)⟩
theorem lw_p31 : lw_okq (⟨"SugarBelowModel", "isSort", "(I)Z"⟩, 34) := ⟨⟨by decide +kernel, by decide +kernel⟩, List.mem_of_getElem? (i := 883) (by decide +kernel), List.mem_of_getElem? (i := 1037) (by decide +kernel), List.mem_of_getElem? (i := 1038) (by decide +kernel)⟩
def lw_privs_2 : List (MethodName × Nat) := [(⟨"SugarBelow$Prices", "raiseAlone", "(IZ)V"⟩, 4), (⟨"SugarBelow$Prices", "moveThing", "(III)Z"⟩, 4), (⟨"SugarBelow$Duel", "fillTables", "()V"⟩, 12), (⟨"SugarBelow$Duel", "bestAgainst", "(II)I"⟩, 12), (⟨"SugarBelow$Duel", "leftBy", "(III)I"⟩, 12), (⟨"SugarBelow$Duel", "isRest", "(II)Z"⟩, 12), (⟨"SugarBelow$Duel", "couldHaveMore", "(III)Z"⟩, 12), (⟨"SugarBelow$Duel", "takesTurn", "(I)Z"⟩, 12), (⟨"SugarBelow$Prices", "leftWithHead", "(III)I"⟩, 4), (⟨"SugarBelow$Prices", "leftWithWindow", "(II)I"⟩, 4), (⟨"SugarBelow$Weeks", "needCheaply", "(IIZ)I"⟩, 5), (⟨"SugarBelow$Weeks", "needDearly", "(I)I"⟩, 5), (⟨"SugarBelow$Prices", "turnsBest", "(IIIII)Z"⟩, 4), (⟨"SugarBelowModel", "isThing", "(I)Z"⟩, 34), (⟨"SugarBelowModel", "clearList", "(I)V"⟩, 34), (⟨"SugarBelowModel", "isSort", "(I)Z"⟩, 34)]
theorem lw_r2 : ∀ q ∈ lw_privs_2, lw_okq q := List.forall_mem_cons.mpr ⟨lw_p16, List.forall_mem_cons.mpr ⟨lw_p17, List.forall_mem_cons.mpr ⟨lw_p18, List.forall_mem_cons.mpr ⟨lw_p19, List.forall_mem_cons.mpr ⟨lw_p20, List.forall_mem_cons.mpr ⟨lw_p21, List.forall_mem_cons.mpr ⟨lw_p22, List.forall_mem_cons.mpr ⟨lw_p23, List.forall_mem_cons.mpr ⟨lw_p24, List.forall_mem_cons.mpr ⟨lw_p25, List.forall_mem_cons.mpr ⟨lw_p26, List.forall_mem_cons.mpr ⟨lw_p27, List.forall_mem_cons.mpr ⟨lw_p28, List.forall_mem_cons.mpr ⟨lw_p29, List.forall_mem_cons.mpr ⟨lw_p30, List.forall_mem_cons.mpr ⟨lw_p31, fun _ h => absurd h List.not_mem_nil⟩⟩⟩⟩⟩⟩⟩⟩⟩⟩⟩⟩⟩⟩⟩⟩
theorem lw_p32 : lw_okq (⟨"SugarBelowModel", "stepOf", "(II)I"⟩, 34) := ⟨⟨by decide +kernel, by decide +kernel⟩, List.mem_of_getElem? (i := 883) (by decide +kernel), List.mem_of_getElem? (i := 1057) (by decide +kernel), List.mem_of_getElem? (i := 1058) (by decide +kernel)⟩
theorem lw_p33 : lw_okq (⟨"SugarBelowModel", "thinksOf", "(II)I"⟩, 34) := ⟨⟨by decide +kernel, by decide +kernel⟩, List.mem_of_getElem? (i := 883) (by decide +kernel), List.mem_of_getElem? (i := 1089) (by decide +kernel), List.mem_of_getElem? (i := 1090) (by decide +kernel)⟩
theorem lw_p34 : lw_okq (⟨"SugarBelowModel", "thoughtGain", "(III)I"⟩, 34) := ⟨⟨by decide +kernel, by decide +kernel⟩, List.mem_of_getElem? (i := 883) (by decide +kernel), List.mem_of_getElem? (i := 1093) (by decide +kernel), List.mem_of_getElem? (i := 1094) (by decide +kernel)⟩
theorem lw_p35 : lw_okq (⟨"SugarBelowModel", "takenFor", "(III)I"⟩, 34) := ⟨⟨by decide +kernel, by decide +kernel⟩, List.mem_of_getElem? (i := 883) (by decide +kernel), List.mem_of_getElem? (i := 1097) (by decide +kernel), List.mem_of_getElem? (i := 1098) (by decide +kernel)⟩
theorem lw_p36 : lw_okq (⟨"SugarBelowModel", "priceOf", "(II)I"⟩, 34) := ⟨⟨by decide +kernel, by decide +kernel⟩, List.mem_of_getElem? (i := 883) (by decide +kernel), List.mem_of_getElem? (i := 1101) (by decide +kernel), List.mem_of_getElem? (i := 1102) (by decide +kernel)⟩
theorem lw_p37 : lw_okq (⟨"SugarBelowModel", "gain", "(IIII)I"⟩, 34) := ⟨⟨by decide +kernel, by decide +kernel⟩, List.mem_of_getElem? (i := 883) (by decide +kernel), List.mem_of_getElem? (i := 1105) (by decide +kernel), List.mem_of_getElem? (i := 1106) (by decide +kernel)⟩
theorem lw_p38 : lw_okq (⟨"SugarBelowModel", "wanted", "(IIII)I"⟩, 34) := ⟨⟨by decide +kernel, by decide +kernel⟩, List.mem_of_getElem? (i := 883) (by decide +kernel), List.mem_of_getElem? (i := 1109) (by decide +kernel), List.mem_of_getElem? (i := 1110) (by decide +kernel)⟩
theorem lw_p39 : lw_okq (⟨"SugarBelowModel", "thinksBoth", "(I)I"⟩, 34) := ⟨⟨by decide +kernel, by decide +kernel⟩, List.mem_of_getElem? (i := 883) (by decide +kernel), List.mem_of_getElem? (i := 1113) (by decide +kernel), List.mem_of_getElem? (i := 1114) (by decide +kernel)⟩
theorem lw_p40 : lw_okq (⟨"SugarBelowModel", "shopOf", "(II)I"⟩, 34) := ⟨⟨by decide +kernel, by decide +kernel⟩, List.mem_of_getElem? (i := 883) (by decide +kernel), List.mem_of_getElem? (i := 1117) (by decide +kernel), List.mem_of_getElem? (i := 1118) (by decide +kernel)⟩
theorem lw_p41 : lw_okq (⟨"SugarBelowModel", "goesTo", "(I)I"⟩, 34) := ⟨⟨by decide +kernel, by decide +kernel⟩, List.mem_of_getElem? (i := 883) (by decide +kernel), List.mem_of_getElem? (i := 1125) (by decide +kernel), List.mem_of_getElem? (i := 1126) (by decide +kernel)⟩
theorem lw_p42 : lw_okq (⟨"SugarBelowModel", "bought", "(IIII)I"⟩, 34) := ⟨⟨by decide +kernel, by decide +kernel⟩, List.mem_of_getElem? (i := 883) (by decide +kernel), List.mem_of_getElem? (i := 1133) (by decide +kernel), List.mem_of_getElem? (i := 1134) (by decide +kernel)⟩
theorem lw_p43 : lw_okq (⟨"SugarBelowModel", "savesOf", "(I)I"⟩, 34) := ⟨⟨by decide +kernel, by decide +kernel⟩, List.mem_of_getElem? (i := 883) (by decide +kernel), List.mem_of_getElem? (i := 1141) (by decide +kernel), List.mem_of_getElem? (i := 1142) (by decide +kernel)⟩
theorem lw_p44 : lw_okq (⟨"SugarBelowModel", "leftOf", "(I)I"⟩, 34) := ⟨⟨by decide +kernel, by decide +kernel⟩, List.mem_of_getElem? (i := 883) (by decide +kernel), List.mem_of_getElem? (i := 1149) (by decide +kernel), List.mem_of_getElem? (i := 1150) (by decide +kernel)⟩
theorem lw_p45 : lw_okq (⟨"SugarBelowModel", "broughtBy", "(II)I"⟩, 34) := ⟨⟨by decide +kernel, by decide +kernel⟩, List.mem_of_getElem? (i := 883) (by decide +kernel), List.mem_of_getElem? (i := 1153) (by decide +kernel), List.mem_of_getElem? (i := 1154) (by decide +kernel)⟩
theorem lw_p46 : lw_okq (⟨"SugarBelowModel", "rowOf", "(I)I"⟩, 34) := ⟨⟨by decide +kernel, by decide +kernel⟩, List.mem_of_getElem? (i := 883) (by decide +kernel), List.mem_of_getElem? (i := 1161) (by decide +kernel), List.mem_of_getElem? (i := 1162) (by decide +kernel)⟩
theorem lw_p47 : lw_okq (⟨"SugarBelowModel", "bestOf", "(I)I"⟩, 34) := ⟨⟨by decide +kernel, by decide +kernel⟩, List.mem_of_getElem? (i := 883) (by decide +kernel), List.mem_of_getElem? (i := 1169) (by decide +kernel), List.mem_of_getElem? (i := 1170) (by decide +kernel)⟩
def lw_privs_3 : List (MethodName × Nat) := [(⟨"SugarBelowModel", "stepOf", "(II)I"⟩, 34), (⟨"SugarBelowModel", "thinksOf", "(II)I"⟩, 34), (⟨"SugarBelowModel", "thoughtGain", "(III)I"⟩, 34), (⟨"SugarBelowModel", "takenFor", "(III)I"⟩, 34), (⟨"SugarBelowModel", "priceOf", "(II)I"⟩, 34), (⟨"SugarBelowModel", "gain", "(IIII)I"⟩, 34), (⟨"SugarBelowModel", "wanted", "(IIII)I"⟩, 34), (⟨"SugarBelowModel", "thinksBoth", "(I)I"⟩, 34), (⟨"SugarBelowModel", "shopOf", "(II)I"⟩, 34), (⟨"SugarBelowModel", "goesTo", "(I)I"⟩, 34), (⟨"SugarBelowModel", "bought", "(IIII)I"⟩, 34), (⟨"SugarBelowModel", "savesOf", "(I)I"⟩, 34), (⟨"SugarBelowModel", "leftOf", "(I)I"⟩, 34), (⟨"SugarBelowModel", "broughtBy", "(II)I"⟩, 34), (⟨"SugarBelowModel", "rowOf", "(I)I"⟩, 34), (⟨"SugarBelowModel", "bestOf", "(I)I"⟩, 34)]
theorem lw_r3 : ∀ q ∈ lw_privs_3, lw_okq q := List.forall_mem_cons.mpr ⟨lw_p32, List.forall_mem_cons.mpr ⟨lw_p33, List.forall_mem_cons.mpr ⟨lw_p34, List.forall_mem_cons.mpr ⟨lw_p35, List.forall_mem_cons.mpr ⟨lw_p36, List.forall_mem_cons.mpr ⟨lw_p37, List.forall_mem_cons.mpr ⟨lw_p38, List.forall_mem_cons.mpr ⟨lw_p39, List.forall_mem_cons.mpr ⟨lw_p40, List.forall_mem_cons.mpr ⟨lw_p41, List.forall_mem_cons.mpr ⟨lw_p42, List.forall_mem_cons.mpr ⟨lw_p43, List.forall_mem_cons.mpr ⟨lw_p44, List.forall_mem_cons.mpr ⟨lw_p45, List.forall_mem_cons.mpr ⟨lw_p46, List.forall_mem_cons.mpr ⟨lw_p47, fun _ h => absurd h List.not_mem_nil⟩⟩⟩⟩⟩⟩⟩⟩⟩⟩⟩⟩⟩⟩⟩⟩
theorem lw_p48 : lw_okq (⟨"SugarBelowModel", "rows", "()I"⟩, 34) := ⟨⟨by decide +kernel, by decide +kernel⟩, List.mem_of_getElem? (i := 883) (by decide +kernel), List.mem_of_getElem? (i := 1173) (by decide +kernel), List.mem_of_getElem? (i := 1174) (by decide +kernel)⟩
theorem lw_p49 : lw_okq (⟨"SugarBelowModel", "lay", "(II)V"⟩, 34) := ⟨⟨by decide +kernel, by decide +kernel⟩, List.mem_of_getElem? (i := 883) (by decide +kernel), List.mem_of_getElem? (i := 1177) (by decide +kernel), List.mem_of_getElem? (i := 1178) (by decide +kernel)⟩
theorem lw_p50 : lw_okq (⟨"SugarBelowModel", "isAllowed", "(I)Z"⟩, 34) := ⟨⟨by decide +kernel, by decide +kernel⟩, List.mem_of_getElem? (i := 883) (by decide +kernel), List.mem_of_getElem? (i := 1181) (by decide +kernel), List.mem_of_getElem? (i := 1182) (by decide +kernel)⟩
theorem lw_p51 : lw_okq (⟨"SugarBelowModel", "isBelow", "(II)Z"⟩, 34) := ⟨⟨by decide +kernel, by decide +kernel⟩, List.mem_of_getElem? (i := 883) (by decide +kernel), List.mem_of_getElem? (i := 1185) (by decide +kernel), List.mem_of_getElem? (i := 1186) (by decide +kernel)⟩
theorem lw_p52 : lw_okq (⟨"SugarBelowModel", "climbUp", "(I)V"⟩, 34) := ⟨⟨by decide +kernel, by decide +kernel⟩, List.mem_of_getElem? (i := 883) (by decide +kernel), List.mem_of_getElem? (i := 1193) (by decide +kernel), List.mem_of_getElem? (i := 1194) (by decide +kernel)⟩
theorem lw_p53 : lw_okq (⟨"SugarBelowModel", "boundOf", "(I)J"⟩, 34) := ⟨⟨by decide +kernel, by decide +kernel⟩, List.mem_of_getElem? (i := 883) (by decide +kernel), List.mem_of_getElem? (i := 1202) (by decide +kernel), List.mem_of_getElem? (i := 1203) (by decide +kernel)⟩
theorem lw_p54 : lw_okq (⟨"SugarBelowModel", "findBoth", "()Z"⟩, 34) := ⟨⟨by decide +kernel, by decide +kernel⟩, List.mem_of_getElem? (i := 883) (by decide +kernel), List.mem_of_getElem? (i := 1222) (by decide +kernel), List.mem_of_getElem? (i := 1223) (by decide +kernel)⟩
theorem lw_p55 : lw_okq (⟨"SugarBelowModel", "isRest", "(III)Z"⟩, 34) := ⟨⟨by decide +kernel, by decide +kernel⟩, List.mem_of_getElem? (i := 883) (by decide +kernel), List.mem_of_getElem? (i := 1229) (by decide +kernel), List.mem_of_getElem? (i := 1230) (by decide +kernel)⟩
theorem lw_p56 : lw_okq (⟨"SugarBelowModel", "goRound", "(I)Z"⟩, 34) := ⟨⟨by decide +kernel, by decide +kernel⟩, List.mem_of_getElem? (i := 883) (by decide +kernel), List.mem_of_getElem? (i := 1237) (by decide +kernel), List.mem_of_getElem? (i := 1238) (by decide +kernel)⟩
theorem lw_p57 : lw_okq (⟨"SugarBelowModel", "withBoth", "(II)I"⟩, 34) := ⟨⟨by decide +kernel, by decide +kernel⟩, List.mem_of_getElem? (i := 883) (by decide +kernel), List.mem_of_getElem? (i := 1274) (by decide +kernel), List.mem_of_getElem? (i := 1275) (by decide +kernel)⟩
theorem lw_p58 : lw_okq (⟨"SugarBelowModel", "passAll", "()V"⟩, 34) := ⟨⟨by decide +kernel, by decide +kernel⟩, List.mem_of_getElem? (i := 883) (by decide +kernel), List.mem_of_getElem? (i := 1294) (by decide +kernel), List.mem_of_getElem? (i := 1295) (by decide +kernel)⟩
theorem lw_p59 : lw_okq (⟨"SugarBelowModel", "pass", "(I)I"⟩, 34) := ⟨⟨by decide +kernel, by decide +kernel⟩, List.mem_of_getElem? (i := 883) (by decide +kernel), List.mem_of_getElem? (i := 1298) (by decide +kernel), List.mem_of_getElem? (i := 1299) (by decide +kernel)⟩
def lw_privs_4 : List (MethodName × Nat) := [(⟨"SugarBelowModel", "rows", "()I"⟩, 34), (⟨"SugarBelowModel", "lay", "(II)V"⟩, 34), (⟨"SugarBelowModel", "isAllowed", "(I)Z"⟩, 34), (⟨"SugarBelowModel", "isBelow", "(II)Z"⟩, 34), (⟨"SugarBelowModel", "climbUp", "(I)V"⟩, 34), (⟨"SugarBelowModel", "boundOf", "(I)J"⟩, 34), (⟨"SugarBelowModel", "findBoth", "()Z"⟩, 34), (⟨"SugarBelowModel", "isRest", "(III)Z"⟩, 34), (⟨"SugarBelowModel", "goRound", "(I)Z"⟩, 34), (⟨"SugarBelowModel", "withBoth", "(II)I"⟩, 34), (⟨"SugarBelowModel", "passAll", "()V"⟩, 34), (⟨"SugarBelowModel", "pass", "(I)I"⟩, 34)]
theorem lw_r4 : ∀ q ∈ lw_privs_4, lw_okq q := List.forall_mem_cons.mpr ⟨lw_p48, List.forall_mem_cons.mpr ⟨lw_p49, List.forall_mem_cons.mpr ⟨lw_p50, List.forall_mem_cons.mpr ⟨lw_p51, List.forall_mem_cons.mpr ⟨lw_p52, List.forall_mem_cons.mpr ⟨lw_p53, List.forall_mem_cons.mpr ⟨lw_p54, List.forall_mem_cons.mpr ⟨lw_p55, List.forall_mem_cons.mpr ⟨lw_p56, List.forall_mem_cons.mpr ⟨lw_p57, List.forall_mem_cons.mpr ⟨lw_p58, List.forall_mem_cons.mpr ⟨lw_p59, fun _ h => absurd h List.not_mem_nil⟩⟩⟩⟩⟩⟩⟩⟩⟩⟩⟩⟩
def lw_privs : List (MethodName × Nat) := lw_privs_1 ++ (lw_privs_2 ++ (lw_privs_3 ++ (lw_privs_4)))
def lw_tbl : List Cond := k2_sels lw_privs ++ tables_1
theorem lw_privs_ok : ∀ q ∈ lw_privs, lw_okq q := by
  show ∀ q ∈ lw_privs_1 ++ (lw_privs_2 ++ (lw_privs_3 ++ (lw_privs_4))), lw_okq q
  exact List.forall_mem_append.mpr ⟨lw_r1, List.forall_mem_append.mpr ⟨lw_r2, List.forall_mem_append.mpr ⟨lw_r3, lw_r4⟩⟩⟩
-- ===== end of PART A; then your names; then what follows =====
end
section
abbrev zS : Type := Nat × Nat × List Value
abbrev zM : Type := Nat → Nat → Int32
abbrev zL : Type := List (Nat × Value)
abbrev zC : Type := Nat × zL × List Value × List zS × zM
abbrev zO : Type := zC ⊕ (Prop × Nat × zC) ⊕ (Nat × List Value × zC) ⊕ (Option Value × List zS × zM)
/-- an instruction of a method, with what it names resolved: pc, instruction, length, value, three numbers, locals to keep, targets -/
abbrev zN : Type := Nat × Instr × Nat × Value × Nat × Nat × Nat × List Nat × List Nat
def zR0 : String := "SugarBelow$Duel"
def zT0 : u_T := fun k => match k with
  | 0 => ("SugarBelow$Duel", "changes", "I", false)
  | 1 => ("SugarBelow$Duel", "round", "I", false)
  | 2 => ("SugarBelow$Duel", "rows", "[I", true)
  | 3 => ("SugarBelow$Duel", "goods", "LSugarBelow$Goods;", true)
  | 4 => ("SugarBelow$Duel", "walks", "LSugarBelow$Walks;", true)
  | 5 => ("SugarBelow$Duel", "rowCount", "I", false)
  | 6 => ("SugarBelow$Duel", "fresh", "Z", false)
  | 7 => ("SugarBelow$Duel", "leftHere", "[I", true)
  | 8 => ("SugarBelow$Duel", "leftThere", "[I", true)
  | 9 => ("SugarBelow$Duel", "lawful", "[Z", true)
  | 10 => ("SugarBelow$Duel", "answer", "[I", true)
  | _ => ("SugarBelow$Duel", "seen", "[I", true)
def zR1 : String := "SugarBelow$Goods"
def zT1 : u_T := fun k => match k with
  | 0 => ("SugarBelow$Goods", "things", "I", false)
  | 1 => ("SugarBelow$Goods", "steps", "[I", true)
  | 2 => ("SugarBelow$Goods", "price", "[I", true)
  | 3 => ("SugarBelow$Goods", "cost", "[I", true)
  | 4 => ("SugarBelow$Goods", "head", "[I", true)
  | 5 => ("SugarBelow$Goods", "at", "[I", true)
  | _ => ("SugarBelow$Goods", "window", "[I", true)
def zR2 : String := "SugarBelow$Pad"
def zT2 : u_T := fun k => match k with
  | 0 => ("SugarBelow$Pad", "count", "I", false)
  | 1 => ("SugarBelow$Pad", "items", "I", false)
  | 2 => ("SugarBelow$Pad", "thing", "I", false)
  | 3 => ("SugarBelow$Pad", "signs", "[I", true)
  | 4 => ("SugarBelow$Pad", "want", "[I", true)
  | 5 => ("SugarBelow$Pad", "worth", "[I", true)
  | _ => ("SugarBelow$Pad", "guess", "[I", true)
def zR3 : String := "SugarBelow$People"
def zT3 : u_T := fun k => match k with
  | 0 => ("SugarBelow$People", "sorts", "I", false)
  | 1 => ("SugarBelow$People", "many", "[I", true)
  | 2 => ("SugarBelow$People", "far", "[I", true)
  | 3 => ("SugarBelow$People", "way", "[I", true)
  | 4 => ("SugarBelow$People", "shelf", "[I", true)
  | 5 => ("SugarBelow$People", "want", "[I", true)
  | 6 => ("SugarBelow$People", "worth", "[I", true)
  | _ => ("SugarBelow$People", "guess", "[I", true)
def zR4 : String := "SugarBelow$Prices"
def zT4 : u_T := fun k => match k with
  | 0 => ("SugarBelow$Prices", "goods", "LSugarBelow$Goods;", true)
  | 1 => ("SugarBelow$Prices", "people", "LSugarBelow$People;", true)
  | 2 => ("SugarBelow$Prices", "walks", "LSugarBelow$Walks;", true)
  | _ => ("SugarBelow$Prices", "alone", "[I", true)
def zR5 : String := "SugarBelow$Till"
def zT5 : u_T := fun k => match k with
  | 0 => ("SugarBelow$Till", "slips", "I", false)
  | _ => ("SugarBelow$Till", "things", "[I", true)
def zR6 : String := "SugarBelow$Town"
def zT6 : u_T := fun k => match k with
  | 0 => ("SugarBelow$Town", "goods", "LSugarBelow$Goods;", true)
  | 1 => ("SugarBelow$Town", "people", "LSugarBelow$People;", true)
  | 2 => ("SugarBelow$Town", "till", "LSugarBelow$Till;", true)
  | _ => ("SugarBelow$Town", "law", "I", false)
def zR7 : String := "SugarBelow$Walks"
def zT7 : u_T := fun k => match k with
  | 0 => ("SugarBelow$Walks", "goods", "LSugarBelow$Goods;", true)
  | 1 => ("SugarBelow$Walks", "people", "LSugarBelow$People;", true)
  | 2 => ("SugarBelow$Walks", "thought", "[I", true)
  | 3 => ("SugarBelow$Walks", "wanted", "[I", true)
  | 4 => ("SugarBelow$Walks", "side", "[I", true)
  | 5 => ("SugarBelow$Walks", "basket", "[I", true)
  | _ => ("SugarBelow$Walks", "sums", "[I", true)
def zR8 : String := "SugarBelow$Weeks"
def zT8 : u_T := fun k => match k with
  | 0 => ("SugarBelow$Weeks", "count", "I", false)
  | 1 => ("SugarBelow$Weeks", "earned", "I", false)
  | 2 => ("SugarBelow$Weeks", "stock", "I", false)
  | 3 => ("SugarBelow$Weeks", "goods", "LSugarBelow$Goods;", true)
  | _ => ("SugarBelow$Weeks", "people", "LSugarBelow$People;", true)
def zR9 : String := "SugarBelow"
def zT9 : u_T := fun k => match k with
  | 0 => ("SugarBelow", "town", "LSugarBelow$Town;", true)
  | 1 => ("SugarBelow", "images", "[LSugarBelow$Town;", true)
  | 2 => ("SugarBelow", "kept", "[Z", true)
  | 3 => ("SugarBelow", "pad", "LSugarBelow$Pad;", true)
  | 4 => ("SugarBelow", "trial", "LSugarBelow$Goods;", true)
  | 5 => ("SugarBelow", "walks", "LSugarBelow$Walks;", true)
  | 6 => ("SugarBelow", "prices", "LSugarBelow$Prices;", true)
  | 7 => ("SugarBelow", "duel", "LSugarBelow$Duel;", true)
  | _ => ("SugarBelow", "pantry", "LSugarBelow$Weeks;", true)
def zR10 : String := "SugarBelowModel"
def zT10 : u_T := fun k => match k with
  | 0 => ("SugarBelowModel", "costs", "[I", true)
  | 1 => ("SugarBelowModel", "heads", "[I", true)
  | 2 => ("SugarBelowModel", "stepNow", "[I", true)
  | 3 => ("SugarBelowModel", "windows", "[I", true)
  | 4 => ("SugarBelowModel", "prices", "[I", true)
  | 5 => ("SugarBelowModel", "stepMany", "[I", true)
  | 6 => ("SugarBelowModel", "things", "I", false)
  | 7 => ("SugarBelowModel", "howMany", "[I", true)
  | 8 => ("SugarBelowModel", "far", "[I", true)
  | 9 => ("SugarBelowModel", "ways", "[I", true)
  | 10 => ("SugarBelowModel", "shelves", "[I", true)
  | 11 => ("SugarBelowModel", "wants", "[I", true)
  | 12 => ("SugarBelowModel", "worths", "[I", true)
  | 13 => ("SugarBelowModel", "guesses", "[I", true)
  | 14 => ("SugarBelowModel", "sorts", "I", false)
  | 15 => ("SugarBelowModel", "signs", "[I", true)
  | 16 => ("SugarBelowModel", "signMany", "I", false)
  | 17 => ("SugarBelowModel", "were", "I", false)
  | 18 => ("SugarBelowModel", "lawIs", "I", false)
  | 19 => ("SugarBelowModel", "mostLeft", "I", false)
  | 20 => ("SugarBelowModel", "leftBoth", "[I", true)
  | 21 => ("SugarBelowModel", "mostAgainst", "[I", true)
  | 22 => ("SugarBelowModel", "isFree", "[Z", true)
  | 23 => ("SugarBelowModel", "seenAt", "[I", true)
  | 24 => ("SugarBelowModel", "changes", "I", false)
  | 25 => ("SugarBelowModel", "round", "I", false)
  | 26 => ("SugarBelowModel", "endRow0", "I", false)
  | 27 => ("SugarBelowModel", "endRow1", "I", false)
  | 28 => ("SugarBelowModel", "slips", "[I", true)
  | 29 => ("SugarBelowModel", "slipMany", "I", false)
  | 30 => ("SugarBelowModel", "kept", "[I", true)
  | 31 => ("SugarBelowModel", "isKept", "[Z", true)
  | 32 => ("SugarBelowModel", "place", "I", false)
  | _ => ("SugarBelowModel", "isWriting", "Z", false)
def zcl : List vw_C := [(zR0, zT0, 12), (zR1, zT1, 7), (zR2, zT2, 7), (zR3, zT3, 8), (zR4, zT4, 4), (zR5, zT5, 2), (zR6, zT6, 4), (zR7, zT7, 7), (zR8, zT8, 5), (zR9, zT9, 9), (zR10, zT10, 34)]
def zdfs : List (List Value) := [[.int 0, .int 0, .null, .null, .null, .int 0, .int 0, .null, .null, .null, .null, .null], [.int 0, .null, .null, .null, .null, .null, .null], [.int 0, .int 0, .int 0, .null, .null, .null, .null], [.int 0, .null, .null, .null, .null, .null, .null, .null], [.null, .null, .null, .null], [.int 0, .null], [.null, .null, .null, .int 0], [.null, .null, .null, .null, .null, .null, .null], [.int 0, .int 0, .int 0, .null, .null], [.null, .null, .null, .null, .null, .null, .null, .null, .null], [.null, .null, .null, .null, .null, .null, .int 0, .null, .null, .null, .null, .null, .null, .null, .int 0, .null, .int 0, .int 0, .int 0, .int 0, .null, .null, .null, .null, .int 0, .int 0, .int 0, .int 0, .null, .int 0, .null, .null, .int 0, .int 0]]
def zdf (a : Nat) : List Value := zdfs.getD a []
def zowns : List String := ["SugarBelow$Duel", "SugarBelow$Goods", "SugarBelow$Pad", "SugarBelow$People", "SugarBelow$Prices", "SugarBelow$Till", "SugarBelow$Town", "SugarBelow$Walks", "SugarBelow$Weeks", "SugarBelow", "SugarBelowModel", "SugarBelowLaw", "java/lang/Integer", "java/util/Arrays"]
/-- SugarBelow$Duel.<init>(LSugarBelow$Goods;LSugarBelow$Walks;)V -/
def zc0_0 : List zN := [(0, .aload_n 0, 1, .null, 0, 0, 0, [], []), (1, .invokespecial 3, 3, .null, 0, 0, 0, [], []), (4, .aload_n 0, 1, .null, 0, 0, 0, [], []), (5, .iconst 2, 1, .int 2, 0, 0, 0, [], []), (6, .newarray .int, 2, .null, 0, 0, 0, [], []), (8, .putfield 9, 3, .null, 0, 2, 2, [], []), (11, .aload_n 0, 1, .null, 0, 0, 0, [], []), (12, .sipush 6561, 3, .int 6561, 0, 0, 0, [], []), (15, .newarray .int, 2, .null, 0, 0, 0, [], []), (17, .putfield 15, 3, .null, 0, 7, 2, [], []), (20, .aload_n 0, 1, .null, 0, 0, 0, [], []), (21, .sipush 6561, 3, .int 6561, 0, 0, 0, [], [])]
def zc0_1 : List zN := [(24, .newarray .int, 2, .null, 0, 0, 0, [], []), (26, .putfield 18, 3, .null, 0, 8, 2, [], []), (29, .aload_n 0, 1, .null, 0, 0, 0, [], []), (30, .sipush 162, 3, .int 162, 0, 0, 0, [], []), (33, .newarray .boolean, 2, .null, 1, 0, 0, [], []), (35, .putfield 21, 3, .null, 0, 9, 2, [], []), (38, .aload_n 0, 1, .null, 0, 0, 0, [], []), (39, .sipush 162, 3, .int 162, 0, 0, 0, [], []), (42, .newarray .int, 2, .null, 0, 0, 0, [], []), (44, .putfield 25, 3, .null, 0, 10, 2, [], []), (47, .aload_n 0, 1, .null, 0, 0, 0, [], []), (48, .sipush 13122, 3, .int 13122, 0, 0, 0, [], [])]
def zc0_2 : List zN := [(51, .newarray .int, 2, .null, 0, 0, 0, [], []), (53, .putfield 28, 3, .null, 0, 11, 2, [], []), (56, .aload_n 0, 1, .null, 0, 0, 0, [], []), (57, .aload_n 1, 1, .null, 0, 0, 0, [], []), (58, .putfield 31, 3, .null, 0, 3, 2, [], []), (61, .aload_n 0, 1, .null, 0, 0, 0, [], []), (62, .aload_n 2, 1, .null, 0, 0, 0, [], []), (63, .putfield 35, 3, .null, 0, 4, 2, [], []), (66, .return_, 1, .null, 0, 0, 0, [], [])]
def zc0 : List (Nat × List zN) := [(21, zc0_0), (48, zc0_1), (66, zc0_2)]
/-- SugarBelow$Duel.forget()V -/
def zc1_0 : List zN := [(0, .aload_n 0, 1, .null, 0, 0, 0, [], []), (1, .iconst 0, 1, .int 0, 0, 0, 0, [], []), (2, .putfield 39, 3, .null, 0, 6, 1, [], []), (5, .return_, 1, .null, 0, 0, 0, [], [])]
def zc1 : List (Nat × List zN) := [(5, zc1_0)]
/-- SugarBelow$Duel.prepare(I)V -/
def zc2_0 : List zN := [(0, .aload_n 0, 1, .null, 0, 0, 0, [], []), (1, .aload_n 0, 1, .null, 0, 0, 0, [], []), (2, .getfield 31, 3, .null, 0, 3, 2, [], []), (5, .invokevirtual 43, 3, .null, 19, 0, 1, [], []), (8, .putfield 49, 3, .null, 0, 5, 0, [], []), (11, .aload_n 0, 1, .null, 0, 0, 0, [], []), (12, .getfield 39, 3, .null, 0, 6, 1, [], []), (15, .ifCond .ne 12, 3, .null, 27, 0, 0, [], []), (18, .aload_n 0, 1, .null, 0, 0, 0, [], []), (19, .invokevirtual 52, 3, .null, 3, 0, 0, [], []), (22, .aload_n 0, 1, .null, 0, 0, 0, [], []), (23, .iconst 1, 1, .int 1, 0, 0, 0, [], [])]
def zc2_1 : List zN := [(24, .putfield 39, 3, .null, 0, 6, 1, [], []), (27, .iconst 0, 1, .int 0, 0, 0, 0, [0, 1], []), (28, .istore_n 2, 1, .null, 0, 0, 0, [], []), (29, .iload_n 2, 1, .null, 0, 0, 0, [0, 1, 2], []), (30, .iconst 2, 1, .int 2, 0, 0, 0, [], []), (31, .if_icmp .ge 54, 3, .null, 85, 0, 0, [], []), (34, .iconst 0, 1, .int 0, 0, 0, 0, [], []), (35, .istore_n 3, 1, .null, 0, 0, 0, [], []), (36, .iload_n 3, 1, .null, 0, 0, 0, [0, 1, 2, 3], []), (37, .aload_n 0, 1, .null, 0, 0, 0, [], []), (38, .getfield 49, 3, .null, 0, 5, 0, [], []), (41, .if_icmp .ge 38, 3, .null, 79, 0, 0, [], [])]
def zc2_2 : List zN := [(44, .aload_n 0, 1, .null, 0, 0, 0, [], []), (45, .getfield 31, 3, .null, 0, 3, 2, [], []), (48, .iload_n 2, 1, .null, 0, 0, 0, [], []), (49, .iload_n 3, 1, .null, 0, 0, 0, [], []), (50, .invokevirtual 55, 3, .null, 21, 2, 1, [], []), (53, .aload_n 0, 1, .null, 0, 0, 0, [], []), (54, .getfield 21, 3, .null, 0, 9, 2, [], []), (57, .iload_n 2, 1, .null, 0, 0, 0, [], []), (58, .bipush 81, 2, .int 81, 0, 0, 0, [], []), (60, .imul, 1, .null, 0, 0, 0, [], []), (61, .iload_n 3, 1, .null, 0, 0, 0, [], []), (62, .iadd, 1, .null, 0, 0, 0, [], [])]
def zc2_3 : List zN := [(63, .aload_n 0, 1, .null, 0, 0, 0, [], []), (64, .getfield 31, 3, .null, 0, 3, 2, [], []), (67, .iload_n 2, 1, .null, 0, 0, 0, [], []), (68, .iload_n 1, 1, .null, 0, 0, 0, [], []), (69, .invokevirtual 59, 3, .null, 24, 2, 1, [], []), (72, .bastore, 1, .null, 0, 0, 0, [], []), (73, .iinc 3 1, 3, .int 1, 3, 0, 0, [], []), (76, .goto (-40), 3, .null, 36, 0, 0, [], []), (79, .iinc 2 1, 3, .int 1, 2, 0, 0, [], []), (82, .goto (-53), 3, .null, 29, 0, 0, [], []), (85, .iconst 0, 1, .int 0, 0, 0, 0, [], []), (86, .istore_n 2, 1, .null, 0, 0, 0, [], [])]
def zc2_4 : List zN := [(87, .iload_n 2, 1, .null, 0, 0, 0, [0, 2], []), (88, .iconst 2, 1, .int 2, 0, 0, 0, [], []), (89, .if_icmp .ge 42, 3, .null, 131, 0, 0, [], []), (92, .iconst 0, 1, .int 0, 0, 0, 0, [], []), (93, .istore_n 3, 1, .null, 0, 0, 0, [], []), (94, .iload_n 3, 1, .null, 0, 0, 0, [0, 2, 3], []), (95, .aload_n 0, 1, .null, 0, 0, 0, [], []), (96, .getfield 49, 3, .null, 0, 5, 0, [], []), (99, .if_icmp .ge 26, 3, .null, 125, 0, 0, [], []), (102, .aload_n 0, 1, .null, 0, 0, 0, [], []), (103, .getfield 25, 3, .null, 0, 10, 2, [], []), (106, .iload_n 2, 1, .null, 0, 0, 0, [], [])]
def zc2_5 : List zN := [(107, .bipush 81, 2, .int 81, 0, 0, 0, [], []), (109, .imul, 1, .null, 0, 0, 0, [], []), (110, .iload_n 3, 1, .null, 0, 0, 0, [], []), (111, .iadd, 1, .null, 0, 0, 0, [], []), (112, .aload_n 0, 1, .null, 0, 0, 0, [], []), (113, .iload_n 2, 1, .null, 0, 0, 0, [], []), (114, .iload_n 3, 1, .null, 0, 0, 0, [], []), (115, .invokevirtual 63, 3, .null, 5, 2, 0, [], []), (118, .iastore, 1, .null, 0, 0, 0, [], []), (119, .iinc 3 1, 3, .int 1, 3, 0, 0, [], []), (122, .goto (-28), 3, .null, 94, 0, 0, [], []), (125, .iinc 2 1, 3, .int 1, 2, 0, 0, [], [])]
def zc2_6 : List zN := [(128, .goto (-41), 3, .null, 87, 0, 0, [], []), (131, .return_, 1, .null, 0, 0, 0, [], [])]
def zc2 : List (Nat × List zN) := [(23, zc2_0), (41, zc2_1), (62, zc2_2), (86, zc2_3), (106, zc2_4), (125, zc2_5), (131, zc2_6)]
/-- SugarBelow$Duel.fillTables()V -/
def zc3_0 : List zN := [(0, .iconst 0, 1, .int 0, 0, 0, 0, [], []), (1, .istore_n 1, 1, .null, 0, 0, 0, [], []), (2, .iload_n 1, 1, .null, 0, 0, 0, [0, 1], []), (3, .aload_n 0, 1, .null, 0, 0, 0, [], []), (4, .getfield 49, 3, .null, 0, 5, 0, [], []), (7, .if_icmp .ge 90, 3, .null, 97, 0, 0, [], []), (10, .aload_n 0, 1, .null, 0, 0, 0, [], []), (11, .getfield 31, 3, .null, 0, 3, 2, [], []), (14, .iconst 0, 1, .int 0, 0, 0, 0, [], []), (15, .iload_n 1, 1, .null, 0, 0, 0, [], []), (16, .invokevirtual 55, 3, .null, 21, 2, 1, [], []), (19, .iconst 0, 1, .int 0, 0, 0, 0, [], [])]
def zc3_1 : List zN := [(20, .istore_n 2, 1, .null, 0, 0, 0, [], []), (21, .iload_n 2, 1, .null, 0, 0, 0, [0, 1, 2], []), (22, .aload_n 0, 1, .null, 0, 0, 0, [], []), (23, .getfield 49, 3, .null, 0, 5, 0, [], []), (26, .if_icmp .ge 65, 3, .null, 91, 0, 0, [], []), (29, .aload_n 0, 1, .null, 0, 0, 0, [], []), (30, .getfield 31, 3, .null, 0, 3, 2, [], []), (33, .iconst 1, 1, .int 1, 0, 0, 0, [], []), (34, .iload_n 2, 1, .null, 0, 0, 0, [], []), (35, .invokevirtual 55, 3, .null, 21, 2, 1, [], []), (38, .aload_n 0, 1, .null, 0, 0, 0, [], []), (39, .getfield 35, 3, .null, 0, 4, 2, [], [])]
def zc3_2 : List zN := [(42, .invokevirtual 67, 3, .null, 77, 0, 7, [], []), (45, .aload_n 0, 1, .null, 0, 0, 0, [], []), (46, .getfield 15, 3, .null, 0, 7, 2, [], []), (49, .iload_n 1, 1, .null, 0, 0, 0, [], []), (50, .bipush 81, 2, .int 81, 0, 0, 0, [], []), (52, .imul, 1, .null, 0, 0, 0, [], []), (53, .iload_n 2, 1, .null, 0, 0, 0, [], []), (54, .iadd, 1, .null, 0, 0, 0, [], []), (55, .aload_n 0, 1, .null, 0, 0, 0, [], []), (56, .getfield 35, 3, .null, 0, 4, 2, [], []), (59, .getfield 72, 3, .null, 7, 6, 2, [], []), (62, .iconst 0, 1, .int 0, 0, 0, 0, [], [])]
def zc3_3 : List zN := [(63, .iaload, 1, .null, 0, 0, 0, [], []), (64, .iastore, 1, .null, 0, 0, 0, [], []), (65, .aload_n 0, 1, .null, 0, 0, 0, [], []), (66, .getfield 18, 3, .null, 0, 8, 2, [], []), (69, .iload_n 1, 1, .null, 0, 0, 0, [], []), (70, .bipush 81, 2, .int 81, 0, 0, 0, [], []), (72, .imul, 1, .null, 0, 0, 0, [], []), (73, .iload_n 2, 1, .null, 0, 0, 0, [], []), (74, .iadd, 1, .null, 0, 0, 0, [], []), (75, .aload_n 0, 1, .null, 0, 0, 0, [], []), (76, .getfield 35, 3, .null, 0, 4, 2, [], []), (79, .getfield 72, 3, .null, 7, 6, 2, [], [])]
def zc3_4 : List zN := [(82, .iconst 1, 1, .int 1, 0, 0, 0, [], []), (83, .iaload, 1, .null, 0, 0, 0, [], []), (84, .iastore, 1, .null, 0, 0, 0, [], []), (85, .iinc 2 1, 3, .int 1, 2, 0, 0, [], []), (88, .goto (-67), 3, .null, 21, 0, 0, [], []), (91, .iinc 1 1, 3, .int 1, 1, 0, 0, [], []), (94, .goto (-92), 3, .null, 2, 0, 0, [], []), (97, .return_, 1, .null, 0, 0, 0, [], [])]
def zc3 : List (Nat × List zN) := [(19, zc3_0), (39, zc3_1), (62, zc3_2), (79, zc3_3), (97, zc3_4)]
/-- SugarBelow$Duel.leftBy(III)I -/
def zc4_0 : List zN := [(0, .iload_n 1, 1, .null, 0, 0, 0, [], []), (1, .ifCond .ne 17, 3, .null, 18, 0, 0, [], []), (4, .aload_n 0, 1, .null, 0, 0, 0, [], []), (5, .getfield 15, 3, .null, 0, 7, 2, [], []), (8, .iload_n 2, 1, .null, 0, 0, 0, [], []), (9, .bipush 81, 2, .int 81, 0, 0, 0, [], []), (11, .imul, 1, .null, 0, 0, 0, [], []), (12, .iload_n 3, 1, .null, 0, 0, 0, [], []), (13, .iadd, 1, .null, 0, 0, 0, [], []), (14, .iaload, 1, .null, 0, 0, 0, [], []), (15, .goto 14, 3, .null, 29, 0, 0, [], []), (18, .aload_n 0, 1, .null, 0, 0, 0, [], [])]
def zc4_1 : List zN := [(19, .getfield 18, 3, .null, 0, 8, 2, [], []), (22, .iload_n 3, 1, .null, 0, 0, 0, [], []), (23, .bipush 81, 2, .int 81, 0, 0, 0, [], []), (25, .imul, 1, .null, 0, 0, 0, [], []), (26, .iload_n 2, 1, .null, 0, 0, 0, [], []), (27, .iadd, 1, .null, 0, 0, 0, [], []), (28, .iaload, 1, .null, 0, 0, 0, [], []), (29, .ireturn, 1, .null, 0, 0, 0, [99], [])]
def zc4 : List (Nat × List zN) := [(18, zc4_0), (29, zc4_1)]
/-- SugarBelow$Duel.bestAgainst(II)I -/
def zc5_0 : List zN := [(0, .iconst 0, 1, .int 0, 0, 0, 0, [], []), (1, .istore_n 3, 1, .null, 0, 0, 0, [], []), (2, .iconst 0, 1, .int 0, 0, 0, 0, [], []), (3, .istore 4, 2, .null, 0, 0, 0, [], []), (5, .iconst 0, 1, .int 0, 0, 0, 0, [], []), (6, .istore 5, 2, .null, 0, 0, 0, [], []), (8, .iload 5, 2, .null, 0, 0, 0, [0, 1, 2, 3, 4, 5], []), (10, .aload_n 0, 1, .null, 0, 0, 0, [], []), (11, .getfield 49, 3, .null, 0, 5, 0, [], []), (14, .if_icmp .ge 53, 3, .null, 67, 0, 0, [], []), (17, .aload_n 0, 1, .null, 0, 0, 0, [], []), (18, .getfield 21, 3, .null, 0, 9, 2, [], [])]
def zc5_1 : List zN := [(21, .iload_n 1, 1, .null, 0, 0, 0, [], []), (22, .bipush 81, 2, .int 81, 0, 0, 0, [], []), (24, .imul, 1, .null, 0, 0, 0, [], []), (25, .iload 5, 2, .null, 0, 0, 0, [], []), (27, .iadd, 1, .null, 0, 0, 0, [], []), (28, .baload, 1, .null, 0, 0, 0, [], []), (29, .ifCond .eq 32, 3, .null, 61, 0, 0, [], []), (32, .iload 4, 2, .null, 0, 0, 0, [], []), (34, .ifCond .eq 21, 3, .null, 55, 0, 0, [], []), (37, .aload_n 0, 1, .null, 0, 0, 0, [], []), (38, .iload_n 1, 1, .null, 0, 0, 0, [], []), (39, .iload 5, 2, .null, 0, 0, 0, [], [])]
def zc5_2 : List zN := [(41, .iload_n 2, 1, .null, 0, 0, 0, [], []), (42, .invokevirtual 75, 3, .null, 4, 3, 0, [], []), (45, .aload_n 0, 1, .null, 0, 0, 0, [], []), (46, .iload_n 1, 1, .null, 0, 0, 0, [], []), (47, .iload_n 3, 1, .null, 0, 0, 0, [], []), (48, .iload_n 2, 1, .null, 0, 0, 0, [], []), (49, .invokevirtual 75, 3, .null, 4, 3, 0, [], []), (52, .if_icmp .le 6, 3, .null, 58, 0, 0, [], []), (55, .iload 5, 2, .null, 0, 0, 0, [0, 1, 2, 5], []), (57, .istore_n 3, 1, .null, 0, 0, 0, [], []), (58, .iconst 1, 1, .int 1, 0, 0, 0, [0, 1, 2, 3, 5], []), (59, .istore 4, 2, .null, 0, 0, 0, [], [])]
def zc5_3 : List zN := [(61, .iinc 5 1, 3, .int 1, 5, 0, 0, [0, 1, 2, 3, 4, 5], []), (64, .goto (-56), 3, .null, 8, 0, 0, [], []), (67, .iload_n 3, 1, .null, 0, 0, 0, [], []), (68, .ireturn, 1, .null, 0, 0, 0, [], [])]
def zc5 : List (Nat × List zN) := [(18, zc5_0), (39, zc5_1), (59, zc5_2), (68, zc5_3)]
/-- SugarBelow$Duel.couldHaveMore(III)Z -/
def zc6_0 : List zN := [(0, .aload_n 0, 1, .null, 0, 0, 0, [], []), (1, .getfield 25, 3, .null, 0, 10, 2, [], []), (4, .iload_n 1, 1, .null, 0, 0, 0, [], []), (5, .bipush 81, 2, .int 81, 0, 0, 0, [], []), (7, .imul, 1, .null, 0, 0, 0, [], []), (8, .iload_n 3, 1, .null, 0, 0, 0, [], []), (9, .iadd, 1, .null, 0, 0, 0, [], []), (10, .iaload, 1, .null, 0, 0, 0, [], []), (11, .istore 4, 2, .null, 0, 0, 0, [], []), (13, .aload_n 0, 1, .null, 0, 0, 0, [], []), (14, .iload_n 1, 1, .null, 0, 0, 0, [], []), (15, .iload 4, 2, .null, 0, 0, 0, [], [])]
def zc6_1 : List zN := [(17, .iload_n 3, 1, .null, 0, 0, 0, [], []), (18, .invokevirtual 75, 3, .null, 4, 3, 0, [], []), (21, .aload_n 0, 1, .null, 0, 0, 0, [], []), (22, .iload_n 1, 1, .null, 0, 0, 0, [], []), (23, .iload_n 2, 1, .null, 0, 0, 0, [], []), (24, .iload_n 3, 1, .null, 0, 0, 0, [], []), (25, .invokevirtual 75, 3, .null, 4, 3, 0, [], []), (28, .if_icmp .le 7, 3, .null, 35, 0, 0, [], []), (31, .iconst 1, 1, .int 1, 0, 0, 0, [], []), (32, .goto 4, 3, .null, 36, 0, 0, [], []), (35, .iconst 0, 1, .int 0, 0, 0, 0, [], []), (36, .ireturn, 1, .null, 0, 0, 1, [99], [])]
def zc6 : List (Nat × List zN) := [(15, zc6_0), (36, zc6_1)]
/-- SugarBelow$Duel.isRest(II)Z -/
def zc7_0 : List zN := [(0, .aload_n 0, 1, .null, 0, 0, 0, [], []), (1, .getfield 21, 3, .null, 0, 9, 2, [], []), (4, .iload_n 1, 1, .null, 0, 0, 0, [], []), (5, .baload, 1, .null, 0, 0, 0, [], []), (6, .ifCond .eq 39, 3, .null, 45, 0, 0, [], []), (9, .aload_n 0, 1, .null, 0, 0, 0, [], []), (10, .getfield 21, 3, .null, 0, 9, 2, [], []), (13, .bipush 81, 2, .int 81, 0, 0, 0, [], []), (15, .iload_n 2, 1, .null, 0, 0, 0, [], []), (16, .iadd, 1, .null, 0, 0, 0, [], []), (17, .baload, 1, .null, 0, 0, 0, [], []), (18, .ifCond .eq 27, 3, .null, 45, 0, 0, [], [])]
def zc7_1 : List zN := [(21, .aload_n 0, 1, .null, 0, 0, 0, [], []), (22, .iconst 0, 1, .int 0, 0, 0, 0, [], []), (23, .iload_n 1, 1, .null, 0, 0, 0, [], []), (24, .iload_n 2, 1, .null, 0, 0, 0, [], []), (25, .invokevirtual 79, 3, .null, 6, 3, 0, [], []), (28, .ifCond .ne 17, 3, .null, 45, 0, 0, [], []), (31, .aload_n 0, 1, .null, 0, 0, 0, [], []), (32, .iconst 1, 1, .int 1, 0, 0, 0, [], []), (33, .iload_n 2, 1, .null, 0, 0, 0, [], []), (34, .iload_n 1, 1, .null, 0, 0, 0, [], []), (35, .invokevirtual 79, 3, .null, 6, 3, 0, [], []), (38, .ifCond .ne 7, 3, .null, 45, 0, 0, [], [])]
def zc7_2 : List zN := [(41, .iconst 1, 1, .int 1, 0, 0, 0, [], []), (42, .goto 4, 3, .null, 46, 0, 0, [], []), (45, .iconst 0, 1, .int 0, 0, 0, 0, [99], []), (46, .ireturn, 1, .null, 0, 0, 1, [99], [])]
def zc7 : List (Nat × List zN) := [(18, zc7_0), (38, zc7_1), (46, zc7_2)]
/-- SugarBelow$Duel.countRests()I -/
def zc8_0 : List zN := [(0, .iconst 0, 1, .int 0, 0, 0, 0, [], []), (1, .istore_n 1, 1, .null, 0, 0, 0, [], []), (2, .iconst 0, 1, .int 0, 0, 0, 0, [], []), (3, .istore_n 2, 1, .null, 0, 0, 0, [], []), (4, .iload_n 2, 1, .null, 0, 0, 0, [0, 1, 2], []), (5, .aload_n 0, 1, .null, 0, 0, 0, [], []), (6, .getfield 49, 3, .null, 0, 5, 0, [], []), (9, .if_icmp .ge 37, 3, .null, 46, 0, 0, [], []), (12, .iconst 0, 1, .int 0, 0, 0, 0, [], []), (13, .istore_n 3, 1, .null, 0, 0, 0, [], []), (14, .iload_n 3, 1, .null, 0, 0, 0, [0, 1, 2, 3], []), (15, .aload_n 0, 1, .null, 0, 0, 0, [], [])]
def zc8_1 : List zN := [(16, .getfield 49, 3, .null, 0, 5, 0, [], []), (19, .if_icmp .ge 21, 3, .null, 40, 0, 0, [], []), (22, .aload_n 0, 1, .null, 0, 0, 0, [], []), (23, .iload_n 2, 1, .null, 0, 0, 0, [], []), (24, .iload_n 3, 1, .null, 0, 0, 0, [], []), (25, .invokevirtual 83, 3, .null, 7, 2, 0, [], []), (28, .ifCond .eq 6, 3, .null, 34, 0, 0, [], []), (31, .iinc 1 1, 3, .int 1, 1, 0, 0, [], []), (34, .iinc 3 1, 3, .int 1, 3, 0, 0, [0, 1, 2, 3], []), (37, .goto (-23), 3, .null, 14, 0, 0, [], []), (40, .iinc 2 1, 3, .int 1, 2, 0, 0, [], []), (43, .goto (-39), 3, .null, 4, 0, 0, [], [])]
def zc8_2 : List zN := [(46, .iload_n 1, 1, .null, 0, 0, 0, [], []), (47, .ireturn, 1, .null, 0, 0, 0, [], [])]
def zc8 : List (Nat × List zN) := [(15, zc8_0), (43, zc8_1), (47, zc8_2)]
/-- SugarBelow$Duel.findRest(I)I -/
def zc9_0 : List zN := [(0, .iconst 0, 1, .int 0, 0, 0, 0, [], []), (1, .istore_n 2, 1, .null, 0, 0, 0, [], []), (2, .iconst 0, 1, .int 0, 0, 0, 0, [], []), (3, .istore_n 3, 1, .null, 0, 0, 0, [], []), (4, .iload_n 3, 1, .null, 0, 0, 0, [0, 1, 2, 3], []), (5, .aload_n 0, 1, .null, 0, 0, 0, [], []), (6, .getfield 49, 3, .null, 0, 5, 0, [], []), (9, .if_icmp .ge 53, 3, .null, 62, 0, 0, [], []), (12, .iconst 0, 1, .int 0, 0, 0, 0, [], []), (13, .istore 4, 2, .null, 0, 0, 0, [], []), (15, .iload 4, 2, .null, 0, 0, 0, [0, 1, 2, 3, 4], []), (17, .aload_n 0, 1, .null, 0, 0, 0, [], [])]
def zc9_1 : List zN := [(18, .getfield 49, 3, .null, 0, 5, 0, [], []), (21, .if_icmp .ge 35, 3, .null, 56, 0, 0, [], []), (24, .aload_n 0, 1, .null, 0, 0, 0, [], []), (25, .iload_n 3, 1, .null, 0, 0, 0, [], []), (26, .iload 4, 2, .null, 0, 0, 0, [], []), (28, .invokevirtual 83, 3, .null, 7, 2, 0, [], []), (31, .ifCond .eq 19, 3, .null, 50, 0, 0, [], []), (34, .iload_n 2, 1, .null, 0, 0, 0, [], []), (35, .iload_n 1, 1, .null, 0, 0, 0, [], []), (36, .if_icmp .ne 11, 3, .null, 47, 0, 0, [], []), (39, .iload_n 3, 1, .null, 0, 0, 0, [], []), (40, .bipush 100, 2, .int 100, 0, 0, 0, [], [])]
def zc9_2 : List zN := [(42, .imul, 1, .null, 0, 0, 0, [], []), (43, .iload 4, 2, .null, 0, 0, 0, [], []), (45, .iadd, 1, .null, 0, 0, 0, [], []), (46, .ireturn, 1, .null, 0, 0, 0, [], []), (47, .iinc 2 1, 3, .int 1, 2, 0, 0, [], []), (50, .iinc 4 1, 3, .int 1, 4, 0, 0, [0, 1, 2, 3, 4], []), (53, .goto (-38), 3, .null, 15, 0, 0, [], []), (56, .iinc 3 1, 3, .int 1, 3, 0, 0, [], []), (59, .goto (-55), 3, .null, 4, 0, 0, [], []), (62, .bipush (-6), 2, .int (-6), 0, 0, 0, [], []), (64, .ireturn, 1, .null, 0, 0, 0, [], [])]
def zc9 : List (Nat × List zN) := [(17, zc9_0), (40, zc9_1), (64, zc9_2)]
/-- SugarBelow$Duel.fight(III)V -/
def zc10_0 : List zN := [(0, .aload_n 0, 1, .null, 0, 0, 0, [], []), (1, .getfield 28, 3, .null, 0, 11, 2, [], []), (4, .iconst 0, 1, .int 0, 0, 0, 0, [], []), (5, .invokestatic 86, 3, .null, 211, 2, 0, [], []), (8, .aload_n 0, 1, .null, 0, 0, 0, [], []), (9, .iconst 0, 1, .int 0, 0, 0, 0, [], []), (10, .putfield 92, 3, .null, 0, 0, 0, [], []), (13, .aload_n 0, 1, .null, 0, 0, 0, [], []), (14, .iconst 0, 1, .int 0, 0, 0, 0, [], []), (15, .putfield 95, 3, .null, 0, 1, 0, [], []), (18, .aload_n 0, 1, .null, 0, 0, 0, [], []), (19, .getfield 9, 3, .null, 0, 2, 2, [], [])]
def zc10_1 : List zN := [(22, .iconst 0, 1, .int 0, 0, 0, 0, [], []), (23, .iload_n 2, 1, .null, 0, 0, 0, [], []), (24, .iastore, 1, .null, 0, 0, 0, [], []), (25, .aload_n 0, 1, .null, 0, 0, 0, [], []), (26, .getfield 9, 3, .null, 0, 2, 2, [], []), (29, .iconst 1, 1, .int 1, 0, 0, 0, [], []), (30, .iload_n 3, 1, .null, 0, 0, 0, [], []), (31, .iastore, 1, .null, 0, 0, 0, [], []), (32, .iload_n 1, 1, .null, 0, 0, 0, [], []), (33, .istore 4, 2, .null, 0, 0, 0, [], []), (35, .iconst 0, 1, .int 0, 0, 0, 0, [], []), (36, .istore 5, 2, .null, 0, 0, 0, [], [])]
def zc10_2 : List zN := [(38, .iconst 1, 1, .int 1, 0, 0, 0, [], []), (39, .istore 6, 2, .null, 0, 0, 0, [], []), (41, .iload 6, 2, .null, 0, 0, 0, [0, 4, 5, 6], []), (43, .aload_n 0, 1, .null, 0, 0, 0, [], []), (44, .getfield 28, 3, .null, 0, 11, 2, [], []), (47, .arraylength, 1, .null, 0, 0, 0, [], []), (48, .iconst 1, 1, .int 1, 0, 0, 0, [], []), (49, .iadd, 1, .null, 0, 0, 0, [], []), (50, .if_icmp .gt 97, 3, .null, 147, 0, 0, [], []), (53, .iload 5, 2, .null, 0, 0, 0, [], []), (55, .iconst 2, 1, .int 2, 0, 0, 0, [], []), (56, .if_icmp .ge 91, 3, .null, 147, 0, 0, [], [])]
def zc10_3 : List zN := [(59, .aload_n 0, 1, .null, 0, 0, 0, [], []), (60, .getfield 9, 3, .null, 0, 2, 2, [], []), (63, .iconst 0, 1, .int 0, 0, 0, 0, [], []), (64, .iaload, 1, .null, 0, 0, 0, [], []), (65, .bipush 81, 2, .int 81, 0, 0, 0, [], []), (67, .imul, 1, .null, 0, 0, 0, [], []), (68, .aload_n 0, 1, .null, 0, 0, 0, [], []), (69, .getfield 9, 3, .null, 0, 2, 2, [], []), (72, .iconst 1, 1, .int 1, 0, 0, 0, [], []), (73, .iaload, 1, .null, 0, 0, 0, [], []), (74, .iadd, 1, .null, 0, 0, 0, [], []), (75, .iconst 2, 1, .int 2, 0, 0, 0, [], [])]
def zc10_4 : List zN := [(76, .imul, 1, .null, 0, 0, 0, [], []), (77, .iload 4, 2, .null, 0, 0, 0, [], []), (79, .iadd, 1, .null, 0, 0, 0, [], []), (80, .istore 7, 2, .null, 0, 0, 0, [], []), (82, .aload_n 0, 1, .null, 0, 0, 0, [], []), (83, .getfield 28, 3, .null, 0, 11, 2, [], []), (86, .iload 7, 2, .null, 0, 0, 0, [], []), (88, .iaload, 1, .null, 0, 0, 0, [], []), (89, .ifCond .le 18, 3, .null, 107, 0, 0, [], []), (92, .aload_n 0, 1, .null, 0, 0, 0, [], []), (93, .iload 6, 2, .null, 0, 0, 0, [], []), (95, .aload_n 0, 1, .null, 0, 0, 0, [], [])]
def zc10_5 : List zN := [(96, .getfield 28, 3, .null, 0, 11, 2, [], []), (99, .iload 7, 2, .null, 0, 0, 0, [], []), (101, .iaload, 1, .null, 0, 0, 0, [], []), (102, .isub, 1, .null, 0, 0, 0, [], []), (103, .putfield 95, 3, .null, 0, 1, 0, [], []), (106, .return_, 1, .null, 0, 0, 0, [], []), (107, .aload_n 0, 1, .null, 0, 0, 0, [], []), (108, .getfield 28, 3, .null, 0, 11, 2, [], []), (111, .iload 7, 2, .null, 0, 0, 0, [], []), (113, .iload 6, 2, .null, 0, 0, 0, [], []), (115, .iastore, 1, .null, 0, 0, 0, [], []), (116, .aload_n 0, 1, .null, 0, 0, 0, [], [])]
def zc10_6 : List zN := [(117, .iload 4, 2, .null, 0, 0, 0, [], []), (119, .invokevirtual 98, 3, .null, 11, 1, 0, [], []), (122, .ifCond .eq 7, 3, .null, 129, 0, 0, [], []), (125, .iconst 0, 1, .int 0, 0, 0, 0, [], []), (126, .goto 7, 3, .null, 133, 0, 0, [], []), (129, .iload 5, 2, .null, 0, 0, 0, [], []), (131, .iconst 1, 1, .int 1, 0, 0, 0, [], []), (132, .iadd, 1, .null, 0, 0, 0, [], []), (133, .istore 5, 2, .null, 0, 0, 0, [0, 4, 6], []), (135, .iconst 1, 1, .int 1, 0, 0, 0, [], []), (136, .iload 4, 2, .null, 0, 0, 0, [], []), (138, .isub, 1, .null, 0, 0, 0, [], [])]
def zc10_7 : List zN := [(139, .istore 4, 2, .null, 0, 0, 0, [], []), (141, .iinc 6 1, 3, .int 1, 6, 0, 0, [], []), (144, .goto (-103), 3, .null, 41, 0, 0, [], []), (147, .return_, 1, .null, 0, 0, 0, [99], [])]
def zc10 : List (Nat × List zN) := [(19, zc10_0), (36, zc10_1), (56, zc10_2), (75, zc10_3), (95, zc10_4), (116, zc10_5), (138, zc10_6), (147, zc10_7)]
/-- SugarBelow$Duel.takesTurn(I)Z -/
def zc11_0 : List zN := [(0, .aload_n 0, 1, .null, 0, 0, 0, [], []), (1, .getfield 9, 3, .null, 0, 2, 2, [], []), (4, .iload_n 1, 1, .null, 0, 0, 0, [], []), (5, .iaload, 1, .null, 0, 0, 0, [], []), (6, .istore_n 2, 1, .null, 0, 0, 0, [], []), (7, .aload_n 0, 1, .null, 0, 0, 0, [], []), (8, .getfield 9, 3, .null, 0, 2, 2, [], []), (11, .iconst 1, 1, .int 1, 0, 0, 0, [], []), (12, .iload_n 1, 1, .null, 0, 0, 0, [], []), (13, .isub, 1, .null, 0, 0, 0, [], []), (14, .iaload, 1, .null, 0, 0, 0, [], []), (15, .istore_n 3, 1, .null, 0, 0, 0, [], [])]
def zc11_1 : List zN := [(16, .aload_n 0, 1, .null, 0, 0, 0, [], []), (17, .getfield 21, 3, .null, 0, 9, 2, [], []), (20, .iload_n 1, 1, .null, 0, 0, 0, [], []), (21, .bipush 81, 2, .int 81, 0, 0, 0, [], []), (23, .imul, 1, .null, 0, 0, 0, [], []), (24, .iload_n 2, 1, .null, 0, 0, 0, [], []), (25, .iadd, 1, .null, 0, 0, 0, [], []), (26, .baload, 1, .null, 0, 0, 0, [], []), (27, .ifCond .eq 15, 3, .null, 42, 0, 0, [], []), (30, .aload_n 0, 1, .null, 0, 0, 0, [], []), (31, .iload_n 1, 1, .null, 0, 0, 0, [], []), (32, .iload_n 2, 1, .null, 0, 0, 0, [], [])]
def zc11_2 : List zN := [(33, .iload_n 3, 1, .null, 0, 0, 0, [], []), (34, .invokevirtual 79, 3, .null, 6, 3, 0, [], []), (37, .ifCond .ne 5, 3, .null, 42, 0, 0, [], []), (40, .iconst 0, 1, .int 0, 0, 0, 0, [], []), (41, .ireturn, 1, .null, 0, 0, 1, [], []), (42, .aload_n 0, 1, .null, 0, 0, 0, [0, 1, 3], []), (43, .getfield 9, 3, .null, 0, 2, 2, [], []), (46, .iload_n 1, 1, .null, 0, 0, 0, [], []), (47, .aload_n 0, 1, .null, 0, 0, 0, [], []), (48, .getfield 25, 3, .null, 0, 10, 2, [], []), (51, .iload_n 1, 1, .null, 0, 0, 0, [], []), (52, .bipush 81, 2, .int 81, 0, 0, 0, [], [])]
def zc11_3 : List zN := [(54, .imul, 1, .null, 0, 0, 0, [], []), (55, .iload_n 3, 1, .null, 0, 0, 0, [], []), (56, .iadd, 1, .null, 0, 0, 0, [], []), (57, .iaload, 1, .null, 0, 0, 0, [], []), (58, .iastore, 1, .null, 0, 0, 0, [], []), (59, .aload_n 0, 1, .null, 0, 0, 0, [], []), (60, .dup, 1, .null, 0, 0, 0, [], []), (61, .getfield 92, 3, .null, 0, 0, 0, [], []), (64, .iconst 1, 1, .int 1, 0, 0, 0, [], []), (65, .iadd, 1, .null, 0, 0, 0, [], []), (66, .putfield 92, 3, .null, 0, 0, 0, [], []), (69, .iconst 1, 1, .int 1, 0, 0, 0, [], [])]
def zc11_4 : List zN := [(70, .ireturn, 1, .null, 0, 0, 1, [], [])]
def zc11 : List (Nat × List zN) := [(15, zc11_0), (32, zc11_1), (52, zc11_2), (69, zc11_3), (70, zc11_4)]
/-- SugarBelow$Goods.<init>()V -/
def zc12_0 : List zN := [(0, .aload_n 0, 1, .null, 0, 0, 0, [], []), (1, .invokespecial 3, 3, .null, 0, 0, 0, [], []), (4, .aload_n 0, 1, .null, 0, 0, 0, [], []), (5, .iconst 4, 1, .int 4, 0, 0, 0, [], []), (6, .newarray .int, 2, .null, 0, 0, 0, [], []), (8, .putfield 9, 3, .null, 1, 1, 2, [], []), (11, .aload_n 0, 1, .null, 0, 0, 0, [], []), (12, .bipush 12, 2, .int 12, 0, 0, 0, [], []), (14, .newarray .int, 2, .null, 0, 0, 0, [], []), (16, .putfield 15, 3, .null, 1, 2, 2, [], []), (19, .aload_n 0, 1, .null, 0, 0, 0, [], []), (20, .bipush 8, 2, .int 8, 0, 0, 0, [], [])]
def zc12_1 : List zN := [(22, .newarray .int, 2, .null, 0, 0, 0, [], []), (24, .putfield 18, 3, .null, 1, 3, 2, [], []), (27, .aload_n 0, 1, .null, 0, 0, 0, [], []), (28, .bipush 8, 2, .int 8, 0, 0, 0, [], []), (30, .newarray .int, 2, .null, 0, 0, 0, [], []), (32, .putfield 21, 3, .null, 1, 4, 2, [], []), (35, .aload_n 0, 1, .null, 0, 0, 0, [], []), (36, .bipush 8, 2, .int 8, 0, 0, 0, [], []), (38, .newarray .int, 2, .null, 0, 0, 0, [], []), (40, .putfield 24, 3, .null, 1, 5, 2, [], []), (43, .aload_n 0, 1, .null, 0, 0, 0, [], []), (44, .iconst 2, 1, .int 2, 0, 0, 0, [], [])]
def zc12_2 : List zN := [(45, .newarray .int, 2, .null, 0, 0, 0, [], []), (47, .putfield 27, 3, .null, 1, 6, 2, [], []), (50, .return_, 1, .null, 0, 0, 0, [], [])]
def zc12 : List (Nat × List zN) := [(20, zc12_0), (44, zc12_1), (50, zc12_2)]
/-- SugarBelow$Goods.copy(LSugarBelow$Goods;)V -/
def zc13_0 : List zN := [(0, .aload_n 0, 1, .null, 0, 0, 0, [], []), (1, .aload_n 1, 1, .null, 0, 0, 0, [], []), (2, .getfield 30, 3, .null, 1, 0, 0, [], []), (5, .putfield 30, 3, .null, 1, 0, 0, [], []), (8, .aload_n 1, 1, .null, 0, 0, 0, [], []), (9, .getfield 9, 3, .null, 1, 1, 2, [], []), (12, .iconst 0, 1, .int 0, 0, 0, 0, [], []), (13, .aload_n 0, 1, .null, 0, 0, 0, [], []), (14, .getfield 9, 3, .null, 1, 1, 2, [], []), (17, .iconst 0, 1, .int 0, 0, 0, 0, [], []), (18, .iconst 4, 1, .int 4, 0, 0, 0, [], []), (19, .invokestatic 34, 3, .null, 0, 5, 1, [], [])]
def zc13_1 : List zN := [(22, .aload_n 1, 1, .null, 0, 0, 0, [], []), (23, .getfield 15, 3, .null, 1, 2, 2, [], []), (26, .iconst 0, 1, .int 0, 0, 0, 0, [], []), (27, .aload_n 0, 1, .null, 0, 0, 0, [], []), (28, .getfield 15, 3, .null, 1, 2, 2, [], []), (31, .iconst 0, 1, .int 0, 0, 0, 0, [], []), (32, .bipush 12, 2, .int 12, 0, 0, 0, [], []), (34, .invokestatic 34, 3, .null, 0, 5, 1, [], []), (37, .aload_n 1, 1, .null, 0, 0, 0, [], []), (38, .getfield 18, 3, .null, 1, 3, 2, [], []), (41, .iconst 0, 1, .int 0, 0, 0, 0, [], []), (42, .aload_n 0, 1, .null, 0, 0, 0, [], [])]
def zc13_2 : List zN := [(43, .getfield 18, 3, .null, 1, 3, 2, [], []), (46, .iconst 0, 1, .int 0, 0, 0, 0, [], []), (47, .bipush 8, 2, .int 8, 0, 0, 0, [], []), (49, .invokestatic 34, 3, .null, 0, 5, 1, [], []), (52, .aload_n 1, 1, .null, 0, 0, 0, [], []), (53, .getfield 21, 3, .null, 1, 4, 2, [], []), (56, .iconst 0, 1, .int 0, 0, 0, 0, [], []), (57, .aload_n 0, 1, .null, 0, 0, 0, [], []), (58, .getfield 21, 3, .null, 1, 4, 2, [], []), (61, .iconst 0, 1, .int 0, 0, 0, 0, [], []), (62, .bipush 8, 2, .int 8, 0, 0, 0, [], []), (64, .invokestatic 34, 3, .null, 0, 5, 1, [], [])]
def zc13_3 : List zN := [(67, .aload_n 1, 1, .null, 0, 0, 0, [], []), (68, .getfield 24, 3, .null, 1, 5, 2, [], []), (71, .iconst 0, 1, .int 0, 0, 0, 0, [], []), (72, .aload_n 0, 1, .null, 0, 0, 0, [], []), (73, .getfield 24, 3, .null, 1, 5, 2, [], []), (76, .iconst 0, 1, .int 0, 0, 0, 0, [], []), (77, .bipush 8, 2, .int 8, 0, 0, 0, [], []), (79, .invokestatic 34, 3, .null, 0, 5, 1, [], []), (82, .aload_n 1, 1, .null, 0, 0, 0, [], []), (83, .getfield 27, 3, .null, 1, 6, 2, [], []), (86, .iconst 0, 1, .int 0, 0, 0, 0, [], []), (87, .aload_n 0, 1, .null, 0, 0, 0, [], [])]
def zc13_4 : List zN := [(88, .getfield 27, 3, .null, 1, 6, 2, [], []), (91, .iconst 0, 1, .int 0, 0, 0, 0, [], []), (92, .iconst 2, 1, .int 2, 0, 0, 0, [], []), (93, .invokestatic 34, 3, .null, 0, 5, 1, [], []), (96, .return_, 1, .null, 0, 0, 0, [], [])]
def zc13 : List (Nat × List zN) := [(19, zc13_0), (42, zc13_1), (64, zc13_2), (87, zc13_3), (96, zc13_4)]
/-- SugarBelow$Goods.addThing(III)I -/
def zc14_0 : List zN := [(0, .aload_n 0, 1, .null, 0, 0, 0, [], []), (1, .getfield 30, 3, .null, 1, 0, 0, [], []), (4, .istore 4, 2, .null, 0, 0, 0, [], []), (6, .aload_n 0, 1, .null, 0, 0, 0, [], []), (7, .getfield 9, 3, .null, 1, 1, 2, [], []), (10, .iload 4, 2, .null, 0, 0, 0, [], []), (12, .iconst 1, 1, .int 1, 0, 0, 0, [], []), (13, .iastore, 1, .null, 0, 0, 0, [], []), (14, .aload_n 0, 1, .null, 0, 0, 0, [], []), (15, .getfield 15, 3, .null, 1, 2, 2, [], []), (18, .iload 4, 2, .null, 0, 0, 0, [], []), (20, .iconst 3, 1, .int 3, 0, 0, 0, [], [])]
def zc14_1 : List zN := [(21, .imul, 1, .null, 0, 0, 0, [], []), (22, .iload_n 3, 1, .null, 0, 0, 0, [], []), (23, .iastore, 1, .null, 0, 0, 0, [], []), (24, .iconst 0, 1, .int 0, 0, 0, 0, [], []), (25, .istore 5, 2, .null, 0, 0, 0, [], []), (27, .iload 5, 2, .null, 0, 0, 0, [0, 1, 2, 4, 5], []), (29, .iconst 2, 1, .int 2, 0, 0, 0, [], []), (30, .if_icmp .ge 57, 3, .null, 87, 0, 0, [], []), (33, .aload_n 0, 1, .null, 0, 0, 0, [], []), (34, .getfield 18, 3, .null, 1, 3, 2, [], []), (37, .iload 5, 2, .null, 0, 0, 0, [], []), (39, .iconst 4, 1, .int 4, 0, 0, 0, [], [])]
def zc14_2 : List zN := [(40, .imul, 1, .null, 0, 0, 0, [], []), (41, .iload 4, 2, .null, 0, 0, 0, [], []), (43, .iadd, 1, .null, 0, 0, 0, [], []), (44, .iload 5, 2, .null, 0, 0, 0, [], []), (46, .ifCond .ne 7, 3, .null, 53, 0, 0, [], []), (49, .iload_n 1, 1, .null, 0, 0, 0, [], []), (50, .goto 4, 3, .null, 54, 0, 0, [], []), (53, .iload_n 2, 1, .null, 0, 0, 0, [], []), (54, .iastore, 1, .null, 0, 0, 0, [0, 1, 2, 4, 5], []), (55, .aload_n 0, 1, .null, 0, 0, 0, [], []), (56, .getfield 21, 3, .null, 1, 4, 2, [], []), (59, .iload 5, 2, .null, 0, 0, 0, [], [])]
def zc14_3 : List zN := [(61, .iconst 4, 1, .int 4, 0, 0, 0, [], []), (62, .imul, 1, .null, 0, 0, 0, [], []), (63, .iload 4, 2, .null, 0, 0, 0, [], []), (65, .iadd, 1, .null, 0, 0, 0, [], []), (66, .iconst 3, 1, .int 3, 0, 0, 0, [], []), (67, .iastore, 1, .null, 0, 0, 0, [], []), (68, .aload_n 0, 1, .null, 0, 0, 0, [], []), (69, .getfield 24, 3, .null, 1, 5, 2, [], []), (72, .iload 5, 2, .null, 0, 0, 0, [], []), (74, .iconst 4, 1, .int 4, 0, 0, 0, [], []), (75, .imul, 1, .null, 0, 0, 0, [], []), (76, .iload 4, 2, .null, 0, 0, 0, [], [])]
def zc14_4 : List zN := [(78, .iadd, 1, .null, 0, 0, 0, [], []), (79, .iconst 0, 1, .int 0, 0, 0, 0, [], []), (80, .iastore, 1, .null, 0, 0, 0, [], []), (81, .iinc 5 1, 3, .int 1, 5, 0, 0, [], []), (84, .goto (-57), 3, .null, 27, 0, 0, [], []), (87, .aload_n 0, 1, .null, 0, 0, 0, [], []), (88, .dup, 1, .null, 0, 0, 0, [], []), (89, .getfield 30, 3, .null, 1, 0, 0, [], []), (92, .iconst 1, 1, .int 1, 0, 0, 0, [], []), (93, .iadd, 1, .null, 0, 0, 0, [], []), (94, .putfield 30, 3, .null, 1, 0, 0, [], []), (97, .iload 4, 2, .null, 0, 0, 0, [], [])]
def zc14_5 : List zN := [(99, .ireturn, 1, .null, 0, 0, 0, [], [])]
def zc14 : List (Nat × List zN) := [(20, zc14_0), (39, zc14_1), (59, zc14_2), (76, zc14_3), (97, zc14_4), (99, zc14_5)]
/-- SugarBelow$Goods.addStep(II)I -/
def zc15_0 : List zN := [(0, .aload_n 0, 1, .null, 0, 0, 0, [], []), (1, .getfield 9, 3, .null, 1, 1, 2, [], []), (4, .iload_n 1, 1, .null, 0, 0, 0, [], []), (5, .iaload, 1, .null, 0, 0, 0, [], []), (6, .istore_n 3, 1, .null, 0, 0, 0, [], []), (7, .aload_n 0, 1, .null, 0, 0, 0, [], []), (8, .getfield 15, 3, .null, 1, 2, 2, [], []), (11, .iload_n 1, 1, .null, 0, 0, 0, [], []), (12, .iconst 3, 1, .int 3, 0, 0, 0, [], []), (13, .imul, 1, .null, 0, 0, 0, [], []), (14, .iload_n 3, 1, .null, 0, 0, 0, [], []), (15, .iadd, 1, .null, 0, 0, 0, [], [])]
def zc15_1 : List zN := [(16, .iload_n 2, 1, .null, 0, 0, 0, [], []), (17, .iastore, 1, .null, 0, 0, 0, [], []), (18, .aload_n 0, 1, .null, 0, 0, 0, [], []), (19, .getfield 9, 3, .null, 1, 1, 2, [], []), (22, .iload_n 1, 1, .null, 0, 0, 0, [], []), (23, .dup2, 1, .null, 0, 0, 0, [], []), (24, .iaload, 1, .null, 0, 0, 0, [], []), (25, .iconst 1, 1, .int 1, 0, 0, 0, [], []), (26, .iadd, 1, .null, 0, 0, 0, [], []), (27, .iastore, 1, .null, 0, 0, 0, [], []), (28, .iload_n 3, 1, .null, 0, 0, 0, [], []), (29, .ireturn, 1, .null, 0, 0, 0, [], [])]
def zc15 : List (Nat × List zN) := [(15, zc15_0), (29, zc15_1)]
/-- SugarBelow$Goods.lastPrice(I)I -/
def zc16_0 : List zN := [(0, .aload_n 0, 1, .null, 0, 0, 0, [], []), (1, .getfield 15, 3, .null, 1, 2, 2, [], []), (4, .iload_n 1, 1, .null, 0, 0, 0, [], []), (5, .iconst 3, 1, .int 3, 0, 0, 0, [], []), (6, .imul, 1, .null, 0, 0, 0, [], []), (7, .aload_n 0, 1, .null, 0, 0, 0, [], []), (8, .getfield 9, 3, .null, 1, 1, 2, [], []), (11, .iload_n 1, 1, .null, 0, 0, 0, [], []), (12, .iaload, 1, .null, 0, 0, 0, [], []), (13, .iadd, 1, .null, 0, 0, 0, [], []), (14, .iconst 1, 1, .int 1, 0, 0, 0, [], []), (15, .isub, 1, .null, 0, 0, 0, [], [])]
def zc16_1 : List zN := [(16, .iaload, 1, .null, 0, 0, 0, [], []), (17, .ireturn, 1, .null, 0, 0, 0, [], [])]
def zc16 : List (Nat × List zN) := [(15, zc16_0), (17, zc16_1)]
/-- SugarBelow$Goods.priceNow(II)I -/
def zc17_0 : List zN := [(0, .aload_n 0, 1, .null, 0, 0, 0, [], []), (1, .getfield 15, 3, .null, 1, 2, 2, [], []), (4, .iload_n 2, 1, .null, 0, 0, 0, [], []), (5, .iconst 3, 1, .int 3, 0, 0, 0, [], []), (6, .imul, 1, .null, 0, 0, 0, [], []), (7, .aload_n 0, 1, .null, 0, 0, 0, [], []), (8, .getfield 24, 3, .null, 1, 5, 2, [], []), (11, .iload_n 1, 1, .null, 0, 0, 0, [], []), (12, .iconst 4, 1, .int 4, 0, 0, 0, [], []), (13, .imul, 1, .null, 0, 0, 0, [], []), (14, .iload_n 2, 1, .null, 0, 0, 0, [], []), (15, .iadd, 1, .null, 0, 0, 0, [], [])]
def zc17_1 : List zN := [(16, .iaload, 1, .null, 0, 0, 0, [], []), (17, .iadd, 1, .null, 0, 0, 0, [], []), (18, .iaload, 1, .null, 0, 0, 0, [], []), (19, .ireturn, 1, .null, 0, 0, 0, [], [])]
def zc17 : List (Nat × List zN) := [(15, zc17_0), (19, zc17_1)]
/-- SugarBelow$Goods.priceOrNone(I)I -/
def zc18_0 : List zN := [(0, .iload_n 1, 1, .null, 0, 0, 0, [], []), (1, .iconst 3, 1, .int 3, 0, 0, 0, [], []), (2, .idiv, 1, .null, 0, 0, 0, [], []), (3, .istore_n 2, 1, .null, 0, 0, 0, [], []), (4, .iload_n 2, 1, .null, 0, 0, 0, [], []), (5, .aload_n 0, 1, .null, 0, 0, 0, [], []), (6, .getfield 30, 3, .null, 1, 0, 0, [], []), (9, .if_icmp .ge 24, 3, .null, 33, 0, 0, [], []), (12, .iload_n 1, 1, .null, 0, 0, 0, [], []), (13, .iconst 3, 1, .int 3, 0, 0, 0, [], []), (14, .irem, 1, .null, 0, 0, 0, [], []), (15, .aload_n 0, 1, .null, 0, 0, 0, [], [])]
def zc18_1 : List zN := [(16, .getfield 9, 3, .null, 1, 1, 2, [], []), (19, .iload_n 2, 1, .null, 0, 0, 0, [], []), (20, .iaload, 1, .null, 0, 0, 0, [], []), (21, .if_icmp .ge 12, 3, .null, 33, 0, 0, [], []), (24, .aload_n 0, 1, .null, 0, 0, 0, [], []), (25, .getfield 15, 3, .null, 1, 2, 2, [], []), (28, .iload_n 1, 1, .null, 0, 0, 0, [], []), (29, .iaload, 1, .null, 0, 0, 0, [], []), (30, .goto 5, 3, .null, 35, 0, 0, [], []), (33, .bipush (-6), 2, .int (-6), 0, 0, 0, [99], []), (35, .ireturn, 1, .null, 0, 0, 0, [99], [])]
def zc18 : List (Nat × List zN) := [(15, zc18_0), (35, zc18_1)]
/-- SugarBelow$Goods.rowCount()I -/
def zc19_0 : List zN := [(0, .iconst 1, 1, .int 1, 0, 0, 0, [], []), (1, .istore_n 1, 1, .null, 0, 0, 0, [], []), (2, .iconst 0, 1, .int 0, 0, 0, 0, [], []), (3, .istore_n 2, 1, .null, 0, 0, 0, [], []), (4, .iload_n 2, 1, .null, 0, 0, 0, [0, 1, 2], []), (5, .aload_n 0, 1, .null, 0, 0, 0, [], []), (6, .getfield 30, 3, .null, 1, 0, 0, [], []), (9, .if_icmp .ge 18, 3, .null, 27, 0, 0, [], []), (12, .iload_n 1, 1, .null, 0, 0, 0, [], []), (13, .aload_n 0, 1, .null, 0, 0, 0, [], []), (14, .getfield 9, 3, .null, 1, 1, 2, [], []), (17, .iload_n 2, 1, .null, 0, 0, 0, [], [])]
def zc19_1 : List zN := [(18, .iaload, 1, .null, 0, 0, 0, [], []), (19, .imul, 1, .null, 0, 0, 0, [], []), (20, .istore_n 1, 1, .null, 0, 0, 0, [], []), (21, .iinc 2 1, 3, .int 1, 2, 0, 0, [], []), (24, .goto (-20), 3, .null, 4, 0, 0, [], []), (27, .iload_n 1, 1, .null, 0, 0, 0, [], []), (28, .ireturn, 1, .null, 0, 0, 0, [], [])]
def zc19 : List (Nat × List zN) := [(17, zc19_0), (28, zc19_1)]
/-- SugarBelow$Goods.rowOf(I)I -/
def zc20_0 : List zN := [(0, .iconst 0, 1, .int 0, 0, 0, 0, [], []), (1, .istore_n 2, 1, .null, 0, 0, 0, [], []), (2, .iconst 0, 1, .int 0, 0, 0, 0, [], []), (3, .istore_n 3, 1, .null, 0, 0, 0, [], []), (4, .iload_n 3, 1, .null, 0, 0, 0, [0, 1, 2, 3], []), (5, .aload_n 0, 1, .null, 0, 0, 0, [], []), (6, .getfield 30, 3, .null, 1, 0, 0, [], []), (9, .if_icmp .ge 29, 3, .null, 38, 0, 0, [], []), (12, .iload_n 2, 1, .null, 0, 0, 0, [], []), (13, .aload_n 0, 1, .null, 0, 0, 0, [], []), (14, .getfield 9, 3, .null, 1, 1, 2, [], []), (17, .iload_n 3, 1, .null, 0, 0, 0, [], [])]
def zc20_1 : List zN := [(18, .iaload, 1, .null, 0, 0, 0, [], []), (19, .imul, 1, .null, 0, 0, 0, [], []), (20, .aload_n 0, 1, .null, 0, 0, 0, [], []), (21, .getfield 24, 3, .null, 1, 5, 2, [], []), (24, .iload_n 1, 1, .null, 0, 0, 0, [], []), (25, .iconst 4, 1, .int 4, 0, 0, 0, [], []), (26, .imul, 1, .null, 0, 0, 0, [], []), (27, .iload_n 3, 1, .null, 0, 0, 0, [], []), (28, .iadd, 1, .null, 0, 0, 0, [], []), (29, .iaload, 1, .null, 0, 0, 0, [], []), (30, .iadd, 1, .null, 0, 0, 0, [], []), (31, .istore_n 2, 1, .null, 0, 0, 0, [], [])]
def zc20_2 : List zN := [(32, .iinc 3 1, 3, .int 1, 3, 0, 0, [], []), (35, .goto (-31), 3, .null, 4, 0, 0, [], []), (38, .iload_n 2, 1, .null, 0, 0, 0, [], []), (39, .ireturn, 1, .null, 0, 0, 0, [], [])]
def zc20 : List (Nat × List zN) := [(17, zc20_0), (31, zc20_1), (39, zc20_2)]
/-- SugarBelow$Goods.putRow(II)V -/
def zc21_0 : List zN := [(0, .iconst 0, 1, .int 0, 0, 0, 0, [], []), (1, .iload_n 2, 1, .null, 0, 0, 0, [], []), (2, .invokestatic 40, 3, .null, 0, 2, 2, [], []), (5, .istore_n 3, 1, .null, 0, 0, 0, [], []), (6, .aload_n 0, 1, .null, 0, 0, 0, [], []), (7, .getfield 30, 3, .null, 1, 0, 0, [], []), (10, .iconst 1, 1, .int 1, 0, 0, 0, [], []), (11, .isub, 1, .null, 0, 0, 0, [], []), (12, .istore 4, 2, .null, 0, 0, 0, [], []), (14, .iload 4, 2, .null, 0, 0, 0, [0, 1, 3, 4], []), (16, .ifCond .lt 42, 3, .null, 58, 0, 0, [], []), (19, .iconst 1, 1, .int 1, 0, 0, 0, [], [])]
def zc21_1 : List zN := [(20, .aload_n 0, 1, .null, 0, 0, 0, [], []), (21, .getfield 9, 3, .null, 1, 1, 2, [], []), (24, .iload 4, 2, .null, 0, 0, 0, [], []), (26, .iaload, 1, .null, 0, 0, 0, [], []), (27, .invokestatic 40, 3, .null, 0, 2, 2, [], []), (30, .istore 5, 2, .null, 0, 0, 0, [], []), (32, .aload_n 0, 1, .null, 0, 0, 0, [], []), (33, .getfield 24, 3, .null, 1, 5, 2, [], []), (36, .iload_n 1, 1, .null, 0, 0, 0, [], []), (37, .iconst 4, 1, .int 4, 0, 0, 0, [], []), (38, .imul, 1, .null, 0, 0, 0, [], []), (39, .iload 4, 2, .null, 0, 0, 0, [], [])]
def zc21_2 : List zN := [(41, .iadd, 1, .null, 0, 0, 0, [], []), (42, .iload_n 3, 1, .null, 0, 0, 0, [], []), (43, .iload 5, 2, .null, 0, 0, 0, [], []), (45, .irem, 1, .null, 0, 0, 0, [], []), (46, .iastore, 1, .null, 0, 0, 0, [], []), (47, .iload_n 3, 1, .null, 0, 0, 0, [], []), (48, .iload 5, 2, .null, 0, 0, 0, [], []), (50, .idiv, 1, .null, 0, 0, 0, [], []), (51, .istore_n 3, 1, .null, 0, 0, 0, [], []), (52, .iinc 4 (-1), 3, .int (-1), 4, 0, 0, [], []), (55, .goto (-41), 3, .null, 14, 0, 0, [], []), (58, .return_, 1, .null, 0, 0, 0, [], [])]
def zc21 : List (Nat × List zN) := [(19, zc21_0), (39, zc21_1), (58, zc21_2)]
/-- SugarBelow$Goods.isBelow(II)Z -/
def zc22_0 : List zN := [(0, .iload_n 1, 1, .null, 0, 0, 0, [], []), (1, .iconst 4, 1, .int 4, 0, 0, 0, [], []), (2, .imul, 1, .null, 0, 0, 0, [], []), (3, .iload_n 2, 1, .null, 0, 0, 0, [], []), (4, .iadd, 1, .null, 0, 0, 0, [], []), (5, .istore_n 3, 1, .null, 0, 0, 0, [], []), (6, .aload_n 0, 1, .null, 0, 0, 0, [], []), (7, .getfield 15, 3, .null, 1, 2, 2, [], []), (10, .iload_n 2, 1, .null, 0, 0, 0, [], []), (11, .iconst 3, 1, .int 3, 0, 0, 0, [], []), (12, .imul, 1, .null, 0, 0, 0, [], []), (13, .aload_n 0, 1, .null, 0, 0, 0, [], [])]
def zc22_1 : List zN := [(14, .getfield 24, 3, .null, 1, 5, 2, [], []), (17, .iload_n 3, 1, .null, 0, 0, 0, [], []), (18, .iaload, 1, .null, 0, 0, 0, [], []), (19, .iadd, 1, .null, 0, 0, 0, [], []), (20, .iaload, 1, .null, 0, 0, 0, [], []), (21, .aload_n 0, 1, .null, 0, 0, 0, [], []), (22, .getfield 18, 3, .null, 1, 3, 2, [], []), (25, .iload_n 3, 1, .null, 0, 0, 0, [], []), (26, .iaload, 1, .null, 0, 0, 0, [], []), (27, .if_icmp .ge 7, 3, .null, 34, 0, 0, [], []), (30, .iconst 1, 1, .int 1, 0, 0, 0, [], []), (31, .goto 4, 3, .null, 35, 0, 0, [], [])]
def zc22_2 : List zN := [(34, .iconst 0, 1, .int 0, 0, 0, 0, [], []), (35, .ireturn, 1, .null, 0, 0, 1, [99], [])]
def zc22 : List (Nat × List zN) := [(13, zc22_0), (31, zc22_1), (35, zc22_2)]
/-- SugarBelow$Goods.belowCost(I)I -/
def zc23_0 : List zN := [(0, .iconst 0, 1, .int 0, 0, 0, 0, [], []), (1, .istore_n 2, 1, .null, 0, 0, 0, [], []), (2, .iconst 0, 1, .int 0, 0, 0, 0, [], []), (3, .istore_n 3, 1, .null, 0, 0, 0, [], []), (4, .iload_n 3, 1, .null, 0, 0, 0, [0, 1, 2, 3], []), (5, .aload_n 0, 1, .null, 0, 0, 0, [], []), (6, .getfield 30, 3, .null, 1, 0, 0, [], []), (9, .if_icmp .ge 24, 3, .null, 33, 0, 0, [], []), (12, .aload_n 0, 1, .null, 0, 0, 0, [], []), (13, .iload_n 1, 1, .null, 0, 0, 0, [], []), (14, .iload_n 3, 1, .null, 0, 0, 0, [], []), (15, .invokevirtual 46, 3, .null, 22, 2, 1, [], [])]
def zc23_1 : List zN := [(18, .ifCond .eq 9, 3, .null, 27, 0, 0, [], []), (21, .iload_n 2, 1, .null, 0, 0, 0, [], []), (22, .iconst 1, 1, .int 1, 0, 0, 0, [], []), (23, .iload_n 3, 1, .null, 0, 0, 0, [], []), (24, .ishl, 1, .null, 0, 0, 0, [], []), (25, .ior, 1, .null, 0, 0, 0, [], []), (26, .istore_n 2, 1, .null, 0, 0, 0, [], []), (27, .iinc 3 1, 3, .int 1, 3, 0, 0, [0, 1, 2, 3], []), (30, .goto (-26), 3, .null, 4, 0, 0, [], []), (33, .iload_n 2, 1, .null, 0, 0, 0, [], []), (34, .ireturn, 1, .null, 0, 0, 0, [], [])]
def zc23 : List (Nat × List zN) := [(15, zc23_0), (34, zc23_1)]
/-- SugarBelow$Goods.isLawful(II)Z -/
def zc24_0 : List zN := [(0, .iload_n 2, 1, .null, 0, 0, 0, [], []), (1, .ifCond .eq 11, 3, .null, 12, 0, 0, [], []), (4, .aload_n 0, 1, .null, 0, 0, 0, [], []), (5, .iload_n 1, 1, .null, 0, 0, 0, [], []), (6, .invokevirtual 50, 3, .null, 23, 1, 1, [], []), (9, .ifCond .ne 7, 3, .null, 16, 0, 0, [], []), (12, .iconst 1, 1, .int 1, 0, 0, 0, [99], []), (13, .goto 4, 3, .null, 17, 0, 0, [], []), (16, .iconst 0, 1, .int 0, 0, 0, 0, [], []), (17, .ireturn, 1, .null, 0, 0, 1, [99], [])]
def zc24 : List (Nat × List zN) := [(17, zc24_0)]
/-- SugarBelow$Goods.hasLawfulRow(I)Z -/
def zc25_0 : List zN := [(0, .iconst 0, 1, .int 0, 0, 0, 0, [], []), (1, .istore_n 2, 1, .null, 0, 0, 0, [], []), (2, .iload_n 2, 1, .null, 0, 0, 0, [0, 1, 2], []), (3, .aload_n 0, 1, .null, 0, 0, 0, [], []), (4, .getfield 30, 3, .null, 1, 0, 0, [], []), (7, .if_icmp .ge 29, 3, .null, 36, 0, 0, [], []), (10, .aload_n 0, 1, .null, 0, 0, 0, [], []), (11, .iload_n 2, 1, .null, 0, 0, 0, [], []), (12, .invokevirtual 54, 3, .null, 16, 1, 1, [], []), (15, .aload_n 0, 1, .null, 0, 0, 0, [], []), (16, .getfield 18, 3, .null, 1, 3, 2, [], []), (19, .iload_n 1, 1, .null, 0, 0, 0, [], [])]
def zc25_1 : List zN := [(20, .iconst 4, 1, .int 4, 0, 0, 0, [], []), (21, .imul, 1, .null, 0, 0, 0, [], []), (22, .iload_n 2, 1, .null, 0, 0, 0, [], []), (23, .iadd, 1, .null, 0, 0, 0, [], []), (24, .iaload, 1, .null, 0, 0, 0, [], []), (25, .if_icmp .ge 5, 3, .null, 30, 0, 0, [], []), (28, .iconst 0, 1, .int 0, 0, 0, 0, [], []), (29, .ireturn, 1, .null, 0, 0, 1, [], []), (30, .iinc 2 1, 3, .int 1, 2, 0, 0, [], []), (33, .goto (-31), 3, .null, 2, 0, 0, [], []), (36, .iconst 1, 1, .int 1, 0, 0, 0, [], []), (37, .ireturn, 1, .null, 0, 0, 1, [], [])]
def zc25 : List (Nat × List zN) := [(19, zc25_0), (37, zc25_1)]
/-- SugarBelow$Pad.<init>()V -/
def zc26_0 : List zN := [(0, .aload_n 0, 1, .null, 0, 0, 0, [], []), (1, .invokespecial 3, 3, .null, 0, 0, 0, [], []), (4, .aload_n 0, 1, .null, 0, 0, 0, [], []), (5, .bipush 40, 2, .int 40, 0, 0, 0, [], []), (7, .newarray .int, 2, .null, 0, 0, 0, [], []), (9, .putfield 9, 3, .null, 2, 3, 2, [], []), (12, .aload_n 0, 1, .null, 0, 0, 0, [], []), (13, .iconst 4, 1, .int 4, 0, 0, 0, [], []), (14, .newarray .int, 2, .null, 0, 0, 0, [], []), (16, .putfield 15, 3, .null, 2, 4, 2, [], []), (19, .aload_n 0, 1, .null, 0, 0, 0, [], []), (20, .iconst 4, 1, .int 4, 0, 0, 0, [], [])]
def zc26_1 : List zN := [(21, .newarray .int, 2, .null, 0, 0, 0, [], []), (23, .putfield 18, 3, .null, 2, 5, 2, [], []), (26, .aload_n 0, 1, .null, 0, 0, 0, [], []), (27, .iconst 4, 1, .int 4, 0, 0, 0, [], []), (28, .newarray .int, 2, .null, 0, 0, 0, [], []), (30, .putfield 21, 3, .null, 2, 6, 2, [], []), (33, .return_, 1, .null, 0, 0, 0, [], [])]
def zc26 : List (Nat × List zN) := [(20, zc26_0), (33, zc26_1)]
/-- SugarBelow$Pad.put(I)I -/
def zc27_0 : List zN := [(0, .aload_n 0, 1, .null, 0, 0, 0, [], []), (1, .getfield 9, 3, .null, 2, 3, 2, [], []), (4, .aload_n 0, 1, .null, 0, 0, 0, [], []), (5, .getfield 24, 3, .null, 2, 0, 0, [], []), (8, .iload_n 1, 1, .null, 0, 0, 0, [], []), (9, .iastore, 1, .null, 0, 0, 0, [], []), (10, .aload_n 0, 1, .null, 0, 0, 0, [], []), (11, .dup, 1, .null, 0, 0, 0, [], []), (12, .getfield 24, 3, .null, 2, 0, 0, [], []), (15, .iconst 1, 1, .int 1, 0, 0, 0, [], []), (16, .iadd, 1, .null, 0, 0, 0, [], []), (17, .putfield 24, 3, .null, 2, 0, 0, [], [])]
def zc27_1 : List zN := [(20, .aload_n 0, 1, .null, 0, 0, 0, [], []), (21, .getfield 24, 3, .null, 2, 0, 0, [], []), (24, .ireturn, 1, .null, 0, 0, 0, [], [])]
def zc27 : List (Nat × List zN) := [(17, zc27_0), (24, zc27_1)]
/-- SugarBelow$Pad.clear()I -/
def zc28_0 : List zN := [(0, .aload_n 0, 1, .null, 0, 0, 0, [], []), (1, .getfield 24, 3, .null, 2, 0, 0, [], []), (4, .istore_n 1, 1, .null, 0, 0, 0, [], []), (5, .aload_n 0, 1, .null, 0, 0, 0, [], []), (6, .iconst 0, 1, .int 0, 0, 0, 0, [], []), (7, .putfield 24, 3, .null, 2, 0, 0, [], []), (10, .iload_n 1, 1, .null, 0, 0, 0, [], []), (11, .ireturn, 1, .null, 0, 0, 0, [], [])]
def zc28 : List (Nat × List zN) := [(11, zc28_0)]
/-- SugarBelow$Pad.read()I -/
def zc29_0 : List zN := [(0, .aload_n 0, 1, .null, 0, 0, 0, [], []), (1, .iconst 0, 1, .int 0, 0, 0, 0, [], []), (2, .putfield 28, 3, .null, 2, 1, 0, [], []), (5, .aload_n 0, 1, .null, 0, 0, 0, [], []), (6, .iconst 0, 1, .int 0, 0, 0, 0, [], []), (7, .putfield 31, 3, .null, 2, 2, 0, [], []), (10, .iconst 0, 1, .int 0, 0, 0, 0, [], []), (11, .istore_n 1, 1, .null, 0, 0, 0, [], []), (12, .iload_n 1, 1, .null, 0, 0, 0, [0, 1], []), (13, .iconst 4, 1, .int 4, 0, 0, 0, [], []), (14, .if_icmp .ge 31, 3, .null, 45, 0, 0, [], []), (17, .aload_n 0, 1, .null, 0, 0, 0, [], [])]
def zc29_1 : List zN := [(18, .getfield 15, 3, .null, 2, 4, 2, [], []), (21, .iload_n 1, 1, .null, 0, 0, 0, [], []), (22, .iconst 0, 1, .int 0, 0, 0, 0, [], []), (23, .iastore, 1, .null, 0, 0, 0, [], []), (24, .aload_n 0, 1, .null, 0, 0, 0, [], []), (25, .getfield 18, 3, .null, 2, 5, 2, [], []), (28, .iload_n 1, 1, .null, 0, 0, 0, [], []), (29, .iconst 0, 1, .int 0, 0, 0, 0, [], []), (30, .iastore, 1, .null, 0, 0, 0, [], []), (31, .aload_n 0, 1, .null, 0, 0, 0, [], []), (32, .getfield 21, 3, .null, 2, 6, 2, [], []), (35, .iload_n 1, 1, .null, 0, 0, 0, [], [])]
def zc29_2 : List zN := [(36, .bipush (-6), 2, .int (-6), 0, 0, 0, [], []), (38, .iastore, 1, .null, 0, 0, 0, [], []), (39, .iinc 1 1, 3, .int 1, 1, 0, 0, [], []), (42, .goto (-30), 3, .null, 12, 0, 0, [], []), (45, .iconst 0, 1, .int 0, 0, 0, 0, [], []), (46, .istore_n 1, 1, .null, 0, 0, 0, [], []), (47, .iconst 0, 1, .int 0, 0, 0, 0, [], []), (48, .istore_n 2, 1, .null, 0, 0, 0, [], []), (49, .iload_n 2, 1, .null, 0, 0, 0, [0, 1, 2], []), (50, .aload_n 0, 1, .null, 0, 0, 0, [], []), (51, .getfield 24, 3, .null, 2, 0, 0, [], []), (54, .if_icmp .ge 29, 3, .null, 83, 0, 0, [], [])]
def zc29_3 : List zN := [(57, .aload_n 0, 1, .null, 0, 0, 0, [], []), (58, .iload_n 1, 1, .null, 0, 0, 0, [], []), (59, .aload_n 0, 1, .null, 0, 0, 0, [], []), (60, .getfield 9, 3, .null, 2, 3, 2, [], []), (63, .iload_n 2, 1, .null, 0, 0, 0, [], []), (64, .iaload, 1, .null, 0, 0, 0, [], []), (65, .invokevirtual 34, 3, .null, 33, 2, 2, [], []), (68, .istore_n 1, 1, .null, 0, 0, 0, [], []), (69, .iload_n 1, 1, .null, 0, 0, 0, [], []), (70, .bipush 9, 2, .int 9, 0, 0, 0, [], []), (72, .if_icmp .ne 5, 3, .null, 77, 0, 0, [], []), (75, .iload_n 2, 1, .null, 0, 0, 0, [], [])]
def zc29_4 : List zN := [(76, .ireturn, 1, .null, 0, 0, 0, [], []), (77, .iinc 2 1, 3, .int 1, 2, 0, 0, [], []), (80, .goto (-31), 3, .null, 49, 0, 0, [], []), (83, .iload_n 1, 1, .null, 0, 0, 0, [], []), (84, .invokestatic 38, 3, .null, 31, 1, 0, [], []), (87, .ifCond .eq 8, 3, .null, 95, 0, 0, [], []), (90, .bipush (-6), 2, .int (-6), 0, 0, 0, [], []), (92, .goto 7, 3, .null, 99, 0, 0, [], []), (95, .aload_n 0, 1, .null, 0, 0, 0, [], []), (96, .getfield 24, 3, .null, 2, 0, 0, [], []), (99, .ireturn, 1, .null, 0, 0, 0, [99], [])]
def zc29 : List (Nat × List zN) := [(17, zc29_0), (35, zc29_1), (54, zc29_2), (75, zc29_3), (99, zc29_4)]
/-- SugarBelow$Pad.writeTo(LSugarBelow$People;I)V -/
def zc30_0 : List zN := [(0, .aload_n 0, 1, .null, 0, 0, 0, [], []), (1, .getfield 15, 3, .null, 2, 4, 2, [], []), (4, .iconst 0, 1, .int 0, 0, 0, 0, [], []), (5, .aload_n 1, 1, .null, 0, 0, 0, [], []), (6, .getfield 42, 3, .null, 3, 5, 2, [], []), (9, .iload_n 2, 1, .null, 0, 0, 0, [], []), (10, .iconst 4, 1, .int 4, 0, 0, 0, [], []), (11, .imul, 1, .null, 0, 0, 0, [], []), (12, .iconst 4, 1, .int 4, 0, 0, 0, [], []), (13, .invokestatic 45, 3, .null, 0, 5, 1, [], []), (16, .aload_n 0, 1, .null, 0, 0, 0, [], []), (17, .getfield 18, 3, .null, 2, 5, 2, [], [])]
def zc30_1 : List zN := [(20, .iconst 0, 1, .int 0, 0, 0, 0, [], []), (21, .aload_n 1, 1, .null, 0, 0, 0, [], []), (22, .getfield 51, 3, .null, 3, 6, 2, [], []), (25, .iload_n 2, 1, .null, 0, 0, 0, [], []), (26, .iconst 4, 1, .int 4, 0, 0, 0, [], []), (27, .imul, 1, .null, 0, 0, 0, [], []), (28, .iconst 4, 1, .int 4, 0, 0, 0, [], []), (29, .invokestatic 45, 3, .null, 0, 5, 1, [], []), (32, .aload_n 0, 1, .null, 0, 0, 0, [], []), (33, .getfield 21, 3, .null, 2, 6, 2, [], []), (36, .iconst 0, 1, .int 0, 0, 0, 0, [], []), (37, .aload_n 1, 1, .null, 0, 0, 0, [], [])]
def zc30_2 : List zN := [(38, .getfield 52, 3, .null, 3, 7, 2, [], []), (41, .iload_n 2, 1, .null, 0, 0, 0, [], []), (42, .iconst 4, 1, .int 4, 0, 0, 0, [], []), (43, .imul, 1, .null, 0, 0, 0, [], []), (44, .iconst 4, 1, .int 4, 0, 0, 0, [], []), (45, .invokestatic 45, 3, .null, 0, 5, 1, [], []), (48, .return_, 1, .null, 0, 0, 0, [], [])]
def zc30 : List (Nat × List zN) := [(17, zc30_0), (37, zc30_1), (48, zc30_2)]
/-- SugarBelow$Pad.mayEnd(I)Z -/
def zc31_0 : List zN := [(0, .iload_n 0, 1, .null, 0, 0, 0, [], []), (1, .iconst 4, 1, .int 4, 0, 0, 0, [], []), (2, .if_icmp .eq 20, 3, .null, 22, 0, 0, [], []), (5, .iload_n 0, 1, .null, 0, 0, 0, [], []), (6, .iconst 5, 1, .int 5, 0, 0, 0, [], []), (7, .if_icmp .eq 15, 3, .null, 22, 0, 0, [], []), (10, .iload_n 0, 1, .null, 0, 0, 0, [], []), (11, .bipush 7, 2, .int 7, 0, 0, 0, [], []), (13, .if_icmp .eq 9, 3, .null, 22, 0, 0, [], []), (16, .iload_n 0, 1, .null, 0, 0, 0, [], []), (17, .bipush 8, 2, .int 8, 0, 0, 0, [], []), (19, .if_icmp .ne 7, 3, .null, 26, 0, 0, [], [])]
def zc31_1 : List zN := [(22, .iconst 1, 1, .int 1, 0, 0, 0, [99], []), (23, .goto 4, 3, .null, 27, 0, 0, [], []), (26, .iconst 0, 1, .int 0, 0, 0, 0, [], []), (27, .ireturn, 1, .null, 0, 0, 1, [99], [])]
def zc31 : List (Nat × List zN) := [(19, zc31_0), (27, zc31_1)]
/-- SugarBelow$Pad.isDigit(I)Z -/
def zc32_0 : List zN := [(0, .iload_n 0, 1, .null, 0, 0, 0, [], []), (1, .bipush 48, 2, .int 48, 0, 0, 0, [], []), (3, .if_icmp .lt 13, 3, .null, 16, 0, 0, [], []), (6, .iload_n 0, 1, .null, 0, 0, 0, [], []), (7, .bipush 57, 2, .int 57, 0, 0, 0, [], []), (9, .if_icmp .gt 7, 3, .null, 16, 0, 0, [], []), (12, .iconst 1, 1, .int 1, 0, 0, 0, [], []), (13, .goto 4, 3, .null, 17, 0, 0, [], []), (16, .iconst 0, 1, .int 0, 0, 0, 0, [99], []), (17, .ireturn, 1, .null, 0, 0, 1, [99], [])]
def zc32 : List (Nat × List zN) := [(17, zc32_0)]
/-- SugarBelow$Pad.take(II)I -/
def zc33_0 : List zN := [(0, .iload_n 1, 1, .null, 0, 0, 0, [], []), (1, .tableswitch 201 0 7 #[47, 53, 59, 72, 96, 132, 139, 164], 47, .null, 202, 0, 0, [], [48, 54, 60, 73, 97, 133, 140, 165]), (48, .aload_n 0, 1, .null, 0, 0, 0, [], []), (49, .iload_n 2, 1, .null, 0, 0, 0, [], []), (50, .invokevirtual 53, 3, .null, 34, 1, 2, [], []), (53, .ireturn, 1, .null, 0, 0, 0, [], []), (54, .aload_n 0, 1, .null, 0, 0, 0, [], []), (55, .iload_n 2, 1, .null, 0, 0, 0, [], []), (56, .invokevirtual 57, 3, .null, 35, 1, 2, [], []), (59, .ireturn, 1, .null, 0, 0, 0, [], []), (60, .iload_n 2, 1, .null, 0, 0, 0, [], []), (61, .bipush 60, 2, .int 60, 0, 0, 0, [], [])]
def zc33_1 : List zN := [(63, .if_icmp .ne 7, 3, .null, 70, 0, 0, [], []), (66, .iconst 3, 1, .int 3, 0, 0, 0, [], []), (67, .goto 5, 3, .null, 72, 0, 0, [], []), (70, .bipush 9, 2, .int 9, 0, 0, 0, [], []), (72, .ireturn, 1, .null, 0, 0, 0, [99], []), (73, .iload_n 2, 1, .null, 0, 0, 0, [], []), (74, .invokestatic 60, 3, .null, 32, 1, 0, [], []), (77, .ifCond .eq 17, 3, .null, 94, 0, 0, [], []), (80, .aload_n 0, 1, .null, 0, 0, 0, [], []), (81, .aload_n 0, 1, .null, 0, 0, 0, [], []), (82, .getfield 18, 3, .null, 2, 5, 2, [], []), (85, .iconst 0, 1, .int 0, 0, 0, 0, [], [])]
def zc33_2 : List zN := [(86, .iload_n 2, 1, .null, 0, 0, 0, [], []), (87, .iconst 4, 1, .int 4, 0, 0, 0, [], []), (88, .invokevirtual 63, 3, .null, 36, 4, 2, [], []), (91, .goto 5, 3, .null, 96, 0, 0, [], []), (94, .bipush 9, 2, .int 9, 0, 0, 0, [], []), (96, .ireturn, 1, .null, 0, 0, 0, [99], []), (97, .iload_n 2, 1, .null, 0, 0, 0, [], []), (98, .invokestatic 60, 3, .null, 32, 1, 0, [], []), (101, .ifCond .eq 25, 3, .null, 126, 0, 0, [], []), (104, .aload_n 0, 1, .null, 0, 0, 0, [], []), (105, .aload_n 0, 1, .null, 0, 0, 0, [], []), (106, .getfield 18, 3, .null, 2, 5, 2, [], [])]
def zc33_3 : List zN := [(109, .aload_n 0, 1, .null, 0, 0, 0, [], []), (110, .getfield 18, 3, .null, 2, 5, 2, [], []), (113, .aload_n 0, 1, .null, 0, 0, 0, [], []), (114, .getfield 31, 3, .null, 2, 2, 0, [], []), (117, .iaload, 1, .null, 0, 0, 0, [], []), (118, .iload_n 2, 1, .null, 0, 0, 0, [], []), (119, .iconst 5, 1, .int 5, 0, 0, 0, [], []), (120, .invokevirtual 63, 3, .null, 36, 4, 2, [], []), (123, .goto 9, 3, .null, 132, 0, 0, [], []), (126, .aload_n 0, 1, .null, 0, 0, 0, [], []), (127, .iload_n 2, 1, .null, 0, 0, 0, [], []), (128, .iconst 1, 1, .int 1, 0, 0, 0, [], [])]
def zc33_4 : List zN := [(129, .invokevirtual 67, 3, .null, 37, 2, 2, [], []), (132, .ireturn, 1, .null, 0, 0, 0, [99], []), (133, .aload_n 0, 1, .null, 0, 0, 0, [], []), (134, .iload_n 2, 1, .null, 0, 0, 0, [], []), (135, .iconst 1, 1, .int 1, 0, 0, 0, [], []), (136, .invokevirtual 67, 3, .null, 37, 2, 2, [], []), (139, .ireturn, 1, .null, 0, 0, 0, [], []), (140, .iload_n 2, 1, .null, 0, 0, 0, [], []), (141, .invokestatic 60, 3, .null, 32, 1, 0, [], []), (144, .ifCond .eq 18, 3, .null, 162, 0, 0, [], []), (147, .aload_n 0, 1, .null, 0, 0, 0, [], []), (148, .aload_n 0, 1, .null, 0, 0, 0, [], [])]
def zc33_5 : List zN := [(149, .getfield 21, 3, .null, 2, 6, 2, [], []), (152, .iconst 0, 1, .int 0, 0, 0, 0, [], []), (153, .iload_n 2, 1, .null, 0, 0, 0, [], []), (154, .bipush 7, 2, .int 7, 0, 0, 0, [], []), (156, .invokevirtual 63, 3, .null, 36, 4, 2, [], []), (159, .goto 5, 3, .null, 164, 0, 0, [], []), (162, .bipush 9, 2, .int 9, 0, 0, 0, [], []), (164, .ireturn, 1, .null, 0, 0, 0, [99], []), (165, .iload_n 2, 1, .null, 0, 0, 0, [], []), (166, .invokestatic 60, 3, .null, 32, 1, 0, [], []), (169, .ifCond .eq 26, 3, .null, 195, 0, 0, [], []), (172, .aload_n 0, 1, .null, 0, 0, 0, [], [])]
def zc33_6 : List zN := [(173, .aload_n 0, 1, .null, 0, 0, 0, [], []), (174, .getfield 21, 3, .null, 2, 6, 2, [], []), (177, .aload_n 0, 1, .null, 0, 0, 0, [], []), (178, .getfield 21, 3, .null, 2, 6, 2, [], []), (181, .aload_n 0, 1, .null, 0, 0, 0, [], []), (182, .getfield 31, 3, .null, 2, 2, 0, [], []), (185, .iaload, 1, .null, 0, 0, 0, [], []), (186, .iload_n 2, 1, .null, 0, 0, 0, [], []), (187, .bipush 8, 2, .int 8, 0, 0, 0, [], []), (189, .invokevirtual 63, 3, .null, 36, 4, 2, [], []), (192, .goto 9, 3, .null, 201, 0, 0, [], []), (195, .aload_n 0, 1, .null, 0, 0, 0, [], [])]
def zc33_7 : List zN := [(196, .iload_n 2, 1, .null, 0, 0, 0, [], []), (197, .iconst 0, 1, .int 0, 0, 0, 0, [], []), (198, .invokevirtual 67, 3, .null, 37, 2, 2, [], []), (201, .ireturn, 1, .null, 0, 0, 0, [99], []), (202, .aload_n 0, 1, .null, 0, 0, 0, [], []), (203, .iload_n 2, 1, .null, 0, 0, 0, [], []), (204, .iconst 0, 1, .int 0, 0, 0, 0, [], []), (205, .invokevirtual 67, 3, .null, 37, 2, 2, [], []), (208, .ireturn, 1, .null, 0, 0, 0, [], [])]
def zc33 : List (Nat × List zN) := [(61, zc33_0), (85, zc33_1), (106, zc33_2), (128, zc33_3), (148, zc33_4), (172, zc33_5), (195, zc33_6), (208, zc33_7)]
/-- SugarBelow$Pad.takeLetter(I)I -/
def zc34_0 : List zN := [(0, .iload_n 1, 1, .null, 0, 0, 0, [], []), (1, .bipush 97, 2, .int 97, 0, 0, 0, [], []), (3, .isub, 1, .null, 0, 0, 0, [], []), (4, .istore_n 2, 1, .null, 0, 0, 0, [], []), (5, .iload_n 2, 1, .null, 0, 0, 0, [], []), (6, .ifCond .lt 17, 3, .null, 23, 0, 0, [], []), (9, .iload_n 2, 1, .null, 0, 0, 0, [], []), (10, .iconst 4, 1, .int 4, 0, 0, 0, [], []), (11, .if_icmp .ge 12, 3, .null, 23, 0, 0, [], []), (14, .aload_n 0, 1, .null, 0, 0, 0, [], []), (15, .getfield 15, 3, .null, 2, 4, 2, [], []), (18, .iload_n 2, 1, .null, 0, 0, 0, [], [])]
def zc34_1 : List zN := [(19, .iaload, 1, .null, 0, 0, 0, [], []), (20, .ifCond .eq 6, 3, .null, 26, 0, 0, [], []), (23, .bipush 9, 2, .int 9, 0, 0, 0, [99], []), (25, .ireturn, 1, .null, 0, 0, 0, [], []), (26, .aload_n 0, 1, .null, 0, 0, 0, [], []), (27, .iload_n 2, 1, .null, 0, 0, 0, [], []), (28, .putfield 31, 3, .null, 2, 2, 0, [], []), (31, .iconst 1, 1, .int 1, 0, 0, 0, [], []), (32, .ireturn, 1, .null, 0, 0, 0, [], [])]
def zc34 : List (Nat × List zN) := [(18, zc34_0), (32, zc34_1)]
/-- SugarBelow$Pad.takeMany(I)I -/
def zc35_0 : List zN := [(0, .iload_n 1, 1, .null, 0, 0, 0, [], []), (1, .bipush 49, 2, .int 49, 0, 0, 0, [], []), (3, .if_icmp .lt 9, 3, .null, 12, 0, 0, [], []), (6, .iload_n 1, 1, .null, 0, 0, 0, [], []), (7, .bipush 51, 2, .int 51, 0, 0, 0, [], []), (9, .if_icmp .le 6, 3, .null, 15, 0, 0, [], []), (12, .bipush 9, 2, .int 9, 0, 0, 0, [99], []), (14, .ireturn, 1, .null, 0, 0, 0, [], []), (15, .aload_n 0, 1, .null, 0, 0, 0, [], []), (16, .getfield 15, 3, .null, 2, 4, 2, [], []), (19, .aload_n 0, 1, .null, 0, 0, 0, [], []), (20, .getfield 31, 3, .null, 2, 2, 0, [], [])]
def zc35_1 : List zN := [(23, .iload_n 1, 1, .null, 0, 0, 0, [], []), (24, .bipush 48, 2, .int 48, 0, 0, 0, [], []), (26, .isub, 1, .null, 0, 0, 0, [], []), (27, .iastore, 1, .null, 0, 0, 0, [], []), (28, .aload_n 0, 1, .null, 0, 0, 0, [], []), (29, .dup, 1, .null, 0, 0, 0, [], []), (30, .getfield 28, 3, .null, 2, 1, 0, [], []), (33, .iconst 1, 1, .int 1, 0, 0, 0, [], []), (34, .iadd, 1, .null, 0, 0, 0, [], []), (35, .putfield 28, 3, .null, 2, 1, 0, [], []), (38, .iconst 2, 1, .int 2, 0, 0, 0, [], []), (39, .ireturn, 1, .null, 0, 0, 0, [], [])]
def zc35 : List (Nat × List zN) := [(20, zc35_0), (39, zc35_1)]
/-- SugarBelow$Pad.addDigit([IIII)I -/
def zc36_0 : List zN := [(0, .aload_n 1, 1, .null, 0, 0, 0, [], []), (1, .aload_n 0, 1, .null, 0, 0, 0, [], []), (2, .getfield 31, 3, .null, 2, 2, 0, [], []), (5, .iload_n 2, 1, .null, 0, 0, 0, [], []), (6, .bipush 10, 2, .int 10, 0, 0, 0, [], []), (8, .imul, 1, .null, 0, 0, 0, [], []), (9, .iload_n 3, 1, .null, 0, 0, 0, [], []), (10, .iadd, 1, .null, 0, 0, 0, [], []), (11, .bipush 48, 2, .int 48, 0, 0, 0, [], []), (13, .isub, 1, .null, 0, 0, 0, [], []), (14, .iastore, 1, .null, 0, 0, 0, [], []), (15, .iload 4, 2, .null, 0, 0, 0, [], [])]
def zc36_1 : List zN := [(17, .ireturn, 1, .null, 0, 0, 0, [], [])]
def zc36 : List (Nat × List zN) := [(15, zc36_0), (17, zc36_1)]
/-- SugarBelow$Pad.takeMark(IZ)I -/
def zc37_0 : List zN := [(0, .iload_n 2, 1, .null, 0, 0, 0, [], []), (1, .ifCond .eq 12, 3, .null, 13, 0, 0, [], []), (4, .iload_n 1, 1, .null, 0, 0, 0, [], []), (5, .bipush 126, 2, .int 126, 0, 0, 0, [], []), (7, .if_icmp .ne 6, 3, .null, 13, 0, 0, [], []), (10, .bipush 6, 2, .int 6, 0, 0, 0, [], []), (12, .ireturn, 1, .null, 0, 0, 0, [], []), (13, .iload_n 1, 1, .null, 0, 0, 0, [0, 1], []), (14, .bipush 59, 2, .int 59, 0, 0, 0, [], []), (16, .if_icmp .ne 15, 3, .null, 31, 0, 0, [], []), (19, .aload_n 0, 1, .null, 0, 0, 0, [], []), (20, .getfield 28, 3, .null, 2, 1, 0, [], [])]
def zc37_1 : List zN := [(23, .iconst 4, 1, .int 4, 0, 0, 0, [], []), (24, .if_icmp .ge 7, 3, .null, 31, 0, 0, [], []), (27, .iconst 0, 1, .int 0, 0, 0, 0, [], []), (28, .goto 5, 3, .null, 33, 0, 0, [], []), (31, .bipush 9, 2, .int 9, 0, 0, 0, [99], []), (33, .ireturn, 1, .null, 0, 0, 0, [99], [])]
def zc37 : List (Nat × List zN) := [(20, zc37_0), (33, zc37_1)]
/-- SugarBelow$People.<init>()V -/
def zc38_0 : List zN := [(0, .aload_n 0, 1, .null, 0, 0, 0, [], []), (1, .invokespecial 3, 3, .null, 0, 0, 0, [], []), (4, .aload_n 0, 1, .null, 0, 0, 0, [], []), (5, .iconst 5, 1, .int 5, 0, 0, 0, [], []), (6, .newarray .int, 2, .null, 0, 0, 0, [], []), (8, .putfield 9, 3, .null, 3, 1, 2, [], []), (11, .aload_n 0, 1, .null, 0, 0, 0, [], []), (12, .bipush 10, 2, .int 10, 0, 0, 0, [], []), (14, .newarray .int, 2, .null, 0, 0, 0, [], []), (16, .putfield 15, 3, .null, 3, 2, 2, [], []), (19, .aload_n 0, 1, .null, 0, 0, 0, [], []), (20, .iconst 5, 1, .int 5, 0, 0, 0, [], [])]
def zc38_1 : List zN := [(21, .newarray .int, 2, .null, 0, 0, 0, [], []), (23, .putfield 18, 3, .null, 3, 3, 2, [], []), (26, .aload_n 0, 1, .null, 0, 0, 0, [], []), (27, .iconst 5, 1, .int 5, 0, 0, 0, [], []), (28, .newarray .int, 2, .null, 0, 0, 0, [], []), (30, .putfield 21, 3, .null, 3, 4, 2, [], []), (33, .aload_n 0, 1, .null, 0, 0, 0, [], []), (34, .bipush 20, 2, .int 20, 0, 0, 0, [], []), (36, .newarray .int, 2, .null, 0, 0, 0, [], []), (38, .putfield 24, 3, .null, 3, 5, 2, [], []), (41, .aload_n 0, 1, .null, 0, 0, 0, [], []), (42, .bipush 20, 2, .int 20, 0, 0, 0, [], [])]
def zc38_2 : List zN := [(44, .newarray .int, 2, .null, 0, 0, 0, [], []), (46, .putfield 27, 3, .null, 3, 6, 2, [], []), (49, .aload_n 0, 1, .null, 0, 0, 0, [], []), (50, .bipush 20, 2, .int 20, 0, 0, 0, [], []), (52, .newarray .int, 2, .null, 0, 0, 0, [], []), (54, .putfield 30, 3, .null, 3, 7, 2, [], []), (57, .return_, 1, .null, 0, 0, 0, [], [])]
def zc38 : List (Nat × List zN) := [(20, zc38_0), (42, zc38_1), (57, zc38_2)]
/-- SugarBelow$People.copy(LSugarBelow$People;)V -/
def zc39_0 : List zN := [(0, .aload_n 0, 1, .null, 0, 0, 0, [], []), (1, .aload_n 1, 1, .null, 0, 0, 0, [], []), (2, .getfield 33, 3, .null, 3, 0, 0, [], []), (5, .putfield 33, 3, .null, 3, 0, 0, [], []), (8, .aload_n 1, 1, .null, 0, 0, 0, [], []), (9, .getfield 9, 3, .null, 3, 1, 2, [], []), (12, .iconst 0, 1, .int 0, 0, 0, 0, [], []), (13, .aload_n 0, 1, .null, 0, 0, 0, [], []), (14, .getfield 9, 3, .null, 3, 1, 2, [], []), (17, .iconst 0, 1, .int 0, 0, 0, 0, [], []), (18, .iconst 5, 1, .int 5, 0, 0, 0, [], []), (19, .invokestatic 37, 3, .null, 0, 5, 1, [], [])]
def zc39_1 : List zN := [(22, .aload_n 1, 1, .null, 0, 0, 0, [], []), (23, .getfield 15, 3, .null, 3, 2, 2, [], []), (26, .iconst 0, 1, .int 0, 0, 0, 0, [], []), (27, .aload_n 0, 1, .null, 0, 0, 0, [], []), (28, .getfield 15, 3, .null, 3, 2, 2, [], []), (31, .iconst 0, 1, .int 0, 0, 0, 0, [], []), (32, .bipush 10, 2, .int 10, 0, 0, 0, [], []), (34, .invokestatic 37, 3, .null, 0, 5, 1, [], []), (37, .aload_n 1, 1, .null, 0, 0, 0, [], []), (38, .getfield 18, 3, .null, 3, 3, 2, [], []), (41, .iconst 0, 1, .int 0, 0, 0, 0, [], []), (42, .aload_n 0, 1, .null, 0, 0, 0, [], [])]
def zc39_2 : List zN := [(43, .getfield 18, 3, .null, 3, 3, 2, [], []), (46, .iconst 0, 1, .int 0, 0, 0, 0, [], []), (47, .iconst 5, 1, .int 5, 0, 0, 0, [], []), (48, .invokestatic 37, 3, .null, 0, 5, 1, [], []), (51, .aload_n 1, 1, .null, 0, 0, 0, [], []), (52, .getfield 21, 3, .null, 3, 4, 2, [], []), (55, .iconst 0, 1, .int 0, 0, 0, 0, [], []), (56, .aload_n 0, 1, .null, 0, 0, 0, [], []), (57, .getfield 21, 3, .null, 3, 4, 2, [], []), (60, .iconst 0, 1, .int 0, 0, 0, 0, [], []), (61, .iconst 5, 1, .int 5, 0, 0, 0, [], []), (62, .invokestatic 37, 3, .null, 0, 5, 1, [], [])]
def zc39_3 : List zN := [(65, .aload_n 1, 1, .null, 0, 0, 0, [], []), (66, .getfield 24, 3, .null, 3, 5, 2, [], []), (69, .iconst 0, 1, .int 0, 0, 0, 0, [], []), (70, .aload_n 0, 1, .null, 0, 0, 0, [], []), (71, .getfield 24, 3, .null, 3, 5, 2, [], []), (74, .iconst 0, 1, .int 0, 0, 0, 0, [], []), (75, .bipush 20, 2, .int 20, 0, 0, 0, [], []), (77, .invokestatic 37, 3, .null, 0, 5, 1, [], []), (80, .aload_n 1, 1, .null, 0, 0, 0, [], []), (81, .getfield 27, 3, .null, 3, 6, 2, [], []), (84, .iconst 0, 1, .int 0, 0, 0, 0, [], []), (85, .aload_n 0, 1, .null, 0, 0, 0, [], [])]
def zc39_4 : List zN := [(86, .getfield 27, 3, .null, 3, 6, 2, [], []), (89, .iconst 0, 1, .int 0, 0, 0, 0, [], []), (90, .bipush 20, 2, .int 20, 0, 0, 0, [], []), (92, .invokestatic 37, 3, .null, 0, 5, 1, [], []), (95, .aload_n 1, 1, .null, 0, 0, 0, [], []), (96, .getfield 30, 3, .null, 3, 7, 2, [], []), (99, .iconst 0, 1, .int 0, 0, 0, 0, [], []), (100, .aload_n 0, 1, .null, 0, 0, 0, [], []), (101, .getfield 30, 3, .null, 3, 7, 2, [], []), (104, .iconst 0, 1, .int 0, 0, 0, 0, [], []), (105, .bipush 20, 2, .int 20, 0, 0, 0, [], []), (107, .invokestatic 37, 3, .null, 0, 5, 1, [], [])]
def zc39_5 : List zN := [(110, .return_, 1, .null, 0, 0, 0, [], [])]
def zc39 : List (Nat × List zN) := [(19, zc39_0), (42, zc39_1), (62, zc39_2), (85, zc39_3), (107, zc39_4), (110, zc39_5)]
/-- SugarBelow$People.addSort(IIII)I -/
def zc40_0 : List zN := [(0, .aload_n 0, 1, .null, 0, 0, 0, [], []), (1, .getfield 33, 3, .null, 3, 0, 0, [], []), (4, .istore 5, 2, .null, 0, 0, 0, [], []), (6, .aload_n 0, 1, .null, 0, 0, 0, [], []), (7, .getfield 9, 3, .null, 3, 1, 2, [], []), (10, .iload 5, 2, .null, 0, 0, 0, [], []), (12, .iload_n 1, 1, .null, 0, 0, 0, [], []), (13, .iastore, 1, .null, 0, 0, 0, [], []), (14, .aload_n 0, 1, .null, 0, 0, 0, [], []), (15, .getfield 15, 3, .null, 3, 2, 2, [], []), (18, .iload 5, 2, .null, 0, 0, 0, [], []), (20, .iconst 2, 1, .int 2, 0, 0, 0, [], [])]
def zc40_1 : List zN := [(21, .imul, 1, .null, 0, 0, 0, [], []), (22, .iload_n 2, 1, .null, 0, 0, 0, [], []), (23, .iastore, 1, .null, 0, 0, 0, [], []), (24, .aload_n 0, 1, .null, 0, 0, 0, [], []), (25, .getfield 15, 3, .null, 3, 2, 2, [], []), (28, .iload 5, 2, .null, 0, 0, 0, [], []), (30, .iconst 2, 1, .int 2, 0, 0, 0, [], []), (31, .imul, 1, .null, 0, 0, 0, [], []), (32, .iconst 1, 1, .int 1, 0, 0, 0, [], []), (33, .iadd, 1, .null, 0, 0, 0, [], []), (34, .iload_n 3, 1, .null, 0, 0, 0, [], []), (35, .iastore, 1, .null, 0, 0, 0, [], [])]
def zc40_2 : List zN := [(36, .aload_n 0, 1, .null, 0, 0, 0, [], []), (37, .getfield 18, 3, .null, 3, 3, 2, [], []), (40, .iload 5, 2, .null, 0, 0, 0, [], []), (42, .iload 4, 2, .null, 0, 0, 0, [], []), (44, .iastore, 1, .null, 0, 0, 0, [], []), (45, .aload_n 0, 1, .null, 0, 0, 0, [], []), (46, .getfield 21, 3, .null, 3, 4, 2, [], []), (49, .iload 5, 2, .null, 0, 0, 0, [], []), (51, .iconst 0, 1, .int 0, 0, 0, 0, [], []), (52, .iastore, 1, .null, 0, 0, 0, [], []), (53, .iconst 0, 1, .int 0, 0, 0, 0, [], []), (54, .istore 6, 2, .null, 0, 0, 0, [], [])]
def zc40_3 : List zN := [(56, .iload 6, 2, .null, 0, 0, 0, [0, 5, 6], []), (58, .iconst 4, 1, .int 4, 0, 0, 0, [], []), (59, .if_icmp .ge 22, 3, .null, 81, 0, 0, [], []), (62, .aload_n 0, 1, .null, 0, 0, 0, [], []), (63, .getfield 24, 3, .null, 3, 5, 2, [], []), (66, .iload 5, 2, .null, 0, 0, 0, [], []), (68, .iconst 4, 1, .int 4, 0, 0, 0, [], []), (69, .imul, 1, .null, 0, 0, 0, [], []), (70, .iload 6, 2, .null, 0, 0, 0, [], []), (72, .iadd, 1, .null, 0, 0, 0, [], []), (73, .iconst 0, 1, .int 0, 0, 0, 0, [], []), (74, .iastore, 1, .null, 0, 0, 0, [], [])]
def zc40_4 : List zN := [(75, .iinc 6 1, 3, .int 1, 6, 0, 0, [], []), (78, .goto (-22), 3, .null, 56, 0, 0, [], []), (81, .aload_n 0, 1, .null, 0, 0, 0, [], []), (82, .dup, 1, .null, 0, 0, 0, [], []), (83, .getfield 33, 3, .null, 3, 0, 0, [], []), (86, .iconst 1, 1, .int 1, 0, 0, 0, [], []), (87, .iadd, 1, .null, 0, 0, 0, [], []), (88, .putfield 33, 3, .null, 3, 0, 0, [], []), (91, .iload 5, 2, .null, 0, 0, 0, [], []), (93, .ireturn, 1, .null, 0, 0, 0, [], [])]
def zc40 : List (Nat × List zN) := [(20, zc40_0), (35, zc40_1), (54, zc40_2), (74, zc40_3), (93, zc40_4)]
/-- SugarBelow$Prices.<init>(LSugarBelow$Goods;LSugarBelow$People;LSugarBelow$Walks;)V -/
def zc41_0 : List zN := [(0, .aload_n 0, 1, .null, 0, 0, 0, [], []), (1, .invokespecial 3, 3, .null, 0, 0, 0, [], []), (4, .aload_n 0, 1, .null, 0, 0, 0, [], []), (5, .iconst 5, 1, .int 5, 0, 0, 0, [], []), (6, .newarray .int, 2, .null, 0, 0, 0, [], []), (8, .putfield 9, 3, .null, 4, 3, 2, [], []), (11, .aload_n 0, 1, .null, 0, 0, 0, [], []), (12, .aload_n 1, 1, .null, 0, 0, 0, [], []), (13, .putfield 15, 3, .null, 4, 0, 2, [], []), (16, .aload_n 0, 1, .null, 0, 0, 0, [], []), (17, .aload_n 2, 1, .null, 0, 0, 0, [], []), (18, .putfield 19, 3, .null, 4, 1, 2, [], [])]
def zc41_1 : List zN := [(21, .aload_n 0, 1, .null, 0, 0, 0, [], []), (22, .aload_n 3, 1, .null, 0, 0, 0, [], []), (23, .putfield 23, 3, .null, 4, 2, 2, [], []), (26, .return_, 1, .null, 0, 0, 0, [], [])]
def zc41 : List (Nat × List zN) := [(18, zc41_0), (26, zc41_1)]
/-- SugarBelow$Prices.bestRow(II)I -/
def zc42_0 : List zN := [(0, .aload_n 0, 1, .null, 0, 0, 0, [], []), (1, .getfield 15, 3, .null, 4, 0, 2, [], []), (4, .iload_n 1, 1, .null, 0, 0, 0, [], []), (5, .invokevirtual 27, 3, .null, 20, 1, 1, [], []), (8, .istore_n 3, 1, .null, 0, 0, 0, [], []), (9, .aload_n 0, 1, .null, 0, 0, 0, [], []), (10, .getfield 15, 3, .null, 4, 0, 2, [], []), (13, .invokevirtual 33, 3, .null, 19, 0, 1, [], []), (16, .istore 4, 2, .null, 0, 0, 0, [], []), (18, .bipush (-6), 2, .int (-6), 0, 0, 0, [], []), (20, .istore 5, 2, .null, 0, 0, 0, [], []), (22, .iconst 0, 1, .int 0, 0, 0, 0, [], [])]
def zc42_1 : List zN := [(23, .istore 6, 2, .null, 0, 0, 0, [], []), (25, .iconst 0, 1, .int 0, 0, 0, 0, [], []), (26, .istore 7, 2, .null, 0, 0, 0, [], []), (28, .iload 7, 2, .null, 0, 0, 0, [0, 1, 2, 3, 4, 5, 6, 7], []), (30, .iload 4, 2, .null, 0, 0, 0, [], []), (32, .if_icmp .ge 63, 3, .null, 95, 0, 0, [], []), (35, .aload_n 0, 1, .null, 0, 0, 0, [], []), (36, .getfield 15, 3, .null, 4, 0, 2, [], []), (39, .iload_n 1, 1, .null, 0, 0, 0, [], []), (40, .iload 7, 2, .null, 0, 0, 0, [], []), (42, .invokevirtual 37, 3, .null, 21, 2, 1, [], []), (45, .aload_n 0, 1, .null, 0, 0, 0, [], [])]
def zc42_2 : List zN := [(46, .getfield 15, 3, .null, 4, 0, 2, [], []), (49, .iload_n 1, 1, .null, 0, 0, 0, [], []), (50, .iload_n 2, 1, .null, 0, 0, 0, [], []), (51, .invokevirtual 41, 3, .null, 24, 2, 1, [], []), (54, .ifCond .eq 35, 3, .null, 89, 0, 0, [], []), (57, .aload_n 0, 1, .null, 0, 0, 0, [], []), (58, .getfield 23, 3, .null, 4, 2, 2, [], []), (61, .iload_n 1, 1, .null, 0, 0, 0, [], []), (62, .invokevirtual 45, 3, .null, 78, 1, 7, [], []), (65, .istore 8, 2, .null, 0, 0, 0, [], []), (67, .iload 5, 2, .null, 0, 0, 0, [], []), (69, .bipush (-6), 2, .int (-6), 0, 0, 0, [], [])]
def zc42_3 : List zN := [(71, .if_icmp .eq 10, 3, .null, 81, 0, 0, [], []), (74, .iload 8, 2, .null, 0, 0, 0, [], []), (76, .iload 6, 2, .null, 0, 0, 0, [], []), (78, .if_icmp .le 11, 3, .null, 89, 0, 0, [], []), (81, .iload 7, 2, .null, 0, 0, 0, [0, 1, 2, 3, 4, 7, 8], []), (83, .istore 5, 2, .null, 0, 0, 0, [], []), (85, .iload 8, 2, .null, 0, 0, 0, [], []), (87, .istore 6, 2, .null, 0, 0, 0, [], []), (89, .iinc 7 1, 3, .int 1, 7, 0, 0, [0, 1, 2, 3, 4, 5, 6, 7], []), (92, .goto (-64), 3, .null, 28, 0, 0, [], []), (95, .aload_n 0, 1, .null, 0, 0, 0, [], []), (96, .getfield 15, 3, .null, 4, 0, 2, [], [])]
def zc42_4 : List zN := [(99, .iload_n 1, 1, .null, 0, 0, 0, [], []), (100, .iload_n 3, 1, .null, 0, 0, 0, [], []), (101, .invokevirtual 37, 3, .null, 21, 2, 1, [], []), (104, .iload 5, 2, .null, 0, 0, 0, [], []), (106, .ireturn, 1, .null, 0, 0, 0, [], [])]
def zc42 : List (Nat × List zN) := [(22, zc42_0), (45, zc42_1), (69, zc42_2), (96, zc42_3), (106, zc42_4)]
/-- SugarBelow$Prices.climbedRow(II)I -/
def zc43_0 : List zN := [(0, .iconst 1, 1, .int 1, 0, 0, 0, [], []), (1, .istore_n 3, 1, .null, 0, 0, 0, [], []), (2, .iconst 0, 1, .int 0, 0, 0, 0, [], []), (3, .istore 4, 2, .null, 0, 0, 0, [], []), (5, .iload 4, 2, .null, 0, 0, 0, [0, 1, 2, 3, 4], []), (7, .bipush 81, 2, .int 81, 0, 0, 0, [], []), (9, .if_icmp .gt 49, 3, .null, 58, 0, 0, [], []), (12, .iload_n 3, 1, .null, 0, 0, 0, [], []), (13, .ifCond .eq 45, 3, .null, 58, 0, 0, [], []), (16, .iconst 0, 1, .int 0, 0, 0, 0, [], []), (17, .istore_n 3, 1, .null, 0, 0, 0, [], []), (18, .iconst 0, 1, .int 0, 0, 0, 0, [], [])]
def zc43_1 : List zN := [(19, .istore 5, 2, .null, 0, 0, 0, [], []), (21, .iload 5, 2, .null, 0, 0, 0, [0, 1, 2, 3, 4, 5], []), (23, .aload_n 0, 1, .null, 0, 0, 0, [], []), (24, .getfield 15, 3, .null, 4, 0, 2, [], []), (27, .getfield 50, 3, .null, 1, 0, 0, [], []), (30, .if_icmp .ge 22, 3, .null, 52, 0, 0, [], []), (33, .aload_n 0, 1, .null, 0, 0, 0, [], []), (34, .iload_n 1, 1, .null, 0, 0, 0, [], []), (35, .iload 5, 2, .null, 0, 0, 0, [], []), (37, .iload_n 2, 1, .null, 0, 0, 0, [], []), (38, .invokevirtual 54, 3, .null, 44, 3, 4, [], []), (41, .ifCond .eq 5, 3, .null, 46, 0, 0, [], [])]
def zc43_2 : List zN := [(44, .iconst 1, 1, .int 1, 0, 0, 0, [], []), (45, .istore_n 3, 1, .null, 0, 0, 0, [], []), (46, .iinc 5 1, 3, .int 1, 5, 0, 0, [0, 1, 2, 3, 4, 5], []), (49, .goto (-28), 3, .null, 21, 0, 0, [], []), (52, .iinc 4 1, 3, .int 1, 4, 0, 0, [], []), (55, .goto (-50), 3, .null, 5, 0, 0, [], []), (58, .aload_n 0, 1, .null, 0, 0, 0, [0, 1], []), (59, .getfield 15, 3, .null, 4, 0, 2, [], []), (62, .iload_n 1, 1, .null, 0, 0, 0, [], []), (63, .invokevirtual 27, 3, .null, 20, 1, 1, [], []), (66, .ireturn, 1, .null, 0, 0, 0, [], [])]
def zc43 : List (Nat × List zN) := [(18, zc43_0), (41, zc43_1), (66, zc43_2)]
/-- SugarBelow$Prices.moveThing(III)Z -/
def zc44_0 : List zN := [(0, .iload_n 1, 1, .null, 0, 0, 0, [], []), (1, .iconst 4, 1, .int 4, 0, 0, 0, [], []), (2, .imul, 1, .null, 0, 0, 0, [], []), (3, .iload_n 2, 1, .null, 0, 0, 0, [], []), (4, .iadd, 1, .null, 0, 0, 0, [], []), (5, .istore 4, 2, .null, 0, 0, 0, [], []), (7, .aload_n 0, 1, .null, 0, 0, 0, [], []), (8, .getfield 15, 3, .null, 4, 0, 2, [], []), (11, .getfield 58, 3, .null, 1, 5, 2, [], []), (14, .iload 4, 2, .null, 0, 0, 0, [], []), (16, .iaload, 1, .null, 0, 0, 0, [], []), (17, .istore 5, 2, .null, 0, 0, 0, [], [])]
def zc44_1 : List zN := [(19, .iload 5, 2, .null, 0, 0, 0, [], []), (21, .istore 6, 2, .null, 0, 0, 0, [], []), (23, .aload_n 0, 1, .null, 0, 0, 0, [], []), (24, .getfield 23, 3, .null, 4, 2, 2, [], []), (27, .iload_n 1, 1, .null, 0, 0, 0, [], []), (28, .invokevirtual 45, 3, .null, 78, 1, 7, [], []), (31, .istore 7, 2, .null, 0, 0, 0, [], []), (33, .iconst 0, 1, .int 0, 0, 0, 0, [], []), (34, .istore 8, 2, .null, 0, 0, 0, [], []), (36, .iload 8, 2, .null, 0, 0, 0, [0, 1, 2, 3, 4, 5, 6, 7, 8], []), (38, .aload_n 0, 1, .null, 0, 0, 0, [], []), (39, .getfield 15, 3, .null, 4, 0, 2, [], [])]
def zc44_2 : List zN := [(42, .getfield 61, 3, .null, 1, 1, 2, [], []), (45, .iload_n 2, 1, .null, 0, 0, 0, [], []), (46, .iaload, 1, .null, 0, 0, 0, [], []), (47, .if_icmp .ge 62, 3, .null, 109, 0, 0, [], []), (50, .aload_n 0, 1, .null, 0, 0, 0, [], []), (51, .getfield 15, 3, .null, 4, 0, 2, [], []), (54, .getfield 58, 3, .null, 1, 5, 2, [], []), (57, .iload 4, 2, .null, 0, 0, 0, [], []), (59, .iload 8, 2, .null, 0, 0, 0, [], []), (61, .iastore, 1, .null, 0, 0, 0, [], []), (62, .iload_n 3, 1, .null, 0, 0, 0, [], []), (63, .ifCond .eq 15, 3, .null, 78, 0, 0, [], [])]
def zc44_3 : List zN := [(66, .aload_n 0, 1, .null, 0, 0, 0, [], []), (67, .getfield 15, 3, .null, 4, 0, 2, [], []), (70, .iload_n 1, 1, .null, 0, 0, 0, [], []), (71, .iload_n 2, 1, .null, 0, 0, 0, [], []), (72, .invokevirtual 64, 3, .null, 22, 2, 1, [], []), (75, .ifCond .ne 28, 3, .null, 103, 0, 0, [], []), (78, .aload_n 0, 1, .null, 0, 0, 0, [0, 1, 2, 3, 4, 5, 6, 7, 8], []), (79, .getfield 23, 3, .null, 4, 2, 2, [], []), (82, .iload_n 1, 1, .null, 0, 0, 0, [], []), (83, .invokevirtual 45, 3, .null, 78, 1, 7, [], []), (86, .istore 9, 2, .null, 0, 0, 0, [], []), (88, .iload 9, 2, .null, 0, 0, 0, [], [])]
def zc44_4 : List zN := [(90, .iload 7, 2, .null, 0, 0, 0, [], []), (92, .if_icmp .le 11, 3, .null, 103, 0, 0, [], []), (95, .iload 8, 2, .null, 0, 0, 0, [], []), (97, .istore 6, 2, .null, 0, 0, 0, [], []), (99, .iload 9, 2, .null, 0, 0, 0, [], []), (101, .istore 7, 2, .null, 0, 0, 0, [], []), (103, .iinc 8 1, 3, .int 1, 8, 0, 0, [0, 1, 2, 3, 4, 5, 6, 7, 8], []), (106, .goto (-70), 3, .null, 36, 0, 0, [], []), (109, .aload_n 0, 1, .null, 0, 0, 0, [], []), (110, .getfield 15, 3, .null, 4, 0, 2, [], []), (113, .getfield 58, 3, .null, 1, 5, 2, [], []), (116, .iload 4, 2, .null, 0, 0, 0, [], [])]
def zc44_5 : List zN := [(118, .iload 6, 2, .null, 0, 0, 0, [], []), (120, .iastore, 1, .null, 0, 0, 0, [], []), (121, .iload 6, 2, .null, 0, 0, 0, [], []), (123, .iload 5, 2, .null, 0, 0, 0, [], []), (125, .if_icmp .eq 7, 3, .null, 132, 0, 0, [], []), (128, .iconst 1, 1, .int 1, 0, 0, 0, [], []), (129, .goto 4, 3, .null, 133, 0, 0, [], []), (132, .iconst 0, 1, .int 0, 0, 0, 0, [], []), (133, .ireturn, 1, .null, 0, 0, 1, [99], [])]
def zc44 : List (Nat × List zN) := [(17, zc44_0), (39, zc44_1), (63, zc44_2), (88, zc44_3), (116, zc44_4), (133, zc44_5)]
/-- SugarBelow$Prices.boundOf(II)I -/
def zc45_0 : List zN := [(0, .aload_n 0, 1, .null, 0, 0, 0, [], []), (1, .getfield 15, 3, .null, 4, 0, 2, [], []), (4, .invokevirtual 33, 3, .null, 19, 0, 1, [], []), (7, .istore_n 3, 1, .null, 0, 0, 0, [], []), (8, .iconst 0, 1, .int 0, 0, 0, 0, [], []), (9, .istore 4, 2, .null, 0, 0, 0, [], []), (11, .iconst 0, 1, .int 0, 0, 0, 0, [], []), (12, .istore 5, 2, .null, 0, 0, 0, [], []), (14, .iload 5, 2, .null, 0, 0, 0, [0, 1, 2, 3, 4, 5], []), (16, .iload_n 3, 1, .null, 0, 0, 0, [], []), (17, .if_icmp .ge 49, 3, .null, 66, 0, 0, [], []), (20, .aload_n 0, 1, .null, 0, 0, 0, [], [])]
def zc45_1 : List zN := [(21, .getfield 15, 3, .null, 4, 0, 2, [], []), (24, .iload_n 1, 1, .null, 0, 0, 0, [], []), (25, .iload 5, 2, .null, 0, 0, 0, [], []), (27, .invokevirtual 37, 3, .null, 21, 2, 1, [], []), (30, .aload_n 0, 1, .null, 0, 0, 0, [], []), (31, .getfield 15, 3, .null, 4, 0, 2, [], []), (34, .iload_n 1, 1, .null, 0, 0, 0, [], []), (35, .iload_n 2, 1, .null, 0, 0, 0, [], []), (36, .invokevirtual 41, 3, .null, 24, 2, 1, [], []), (39, .ifCond .eq 21, 3, .null, 60, 0, 0, [], []), (42, .aload_n 0, 1, .null, 0, 0, 0, [], []), (43, .iload_n 1, 1, .null, 0, 0, 0, [], [])]
def zc45_2 : List zN := [(44, .iload 4, 2, .null, 0, 0, 0, [], []), (46, .ifCond .ne 7, 3, .null, 53, 0, 0, [], []), (49, .iconst 1, 1, .int 1, 0, 0, 0, [], []), (50, .goto 4, 3, .null, 54, 0, 0, [], []), (53, .iconst 0, 1, .int 0, 0, 0, 0, [], []), (54, .invokevirtual 67, 3, .null, 46, 2, 4, [0, 1, 2, 3, 5], []), (57, .iconst 1, 1, .int 1, 0, 0, 0, [], []), (58, .istore 4, 2, .null, 0, 0, 0, [], []), (60, .iinc 5 1, 3, .int 1, 5, 0, 0, [0, 1, 2, 3, 4, 5], []), (63, .goto (-49), 3, .null, 14, 0, 0, [], []), (66, .iconst 0, 1, .int 0, 0, 0, 0, [], []), (67, .istore 5, 2, .null, 0, 0, 0, [], [])]
def zc45_3 : List zN := [(69, .iconst 0, 1, .int 0, 0, 0, 0, [], []), (70, .istore 6, 2, .null, 0, 0, 0, [], []), (72, .iload 6, 2, .null, 0, 0, 0, [0, 4, 5, 6], []), (74, .aload_n 0, 1, .null, 0, 0, 0, [], []), (75, .getfield 19, 3, .null, 4, 1, 2, [], []), (78, .getfield 71, 3, .null, 3, 0, 0, [], []), (81, .if_icmp .ge 30, 3, .null, 111, 0, 0, [], []), (84, .iload 5, 2, .null, 0, 0, 0, [], []), (86, .iload 4, 2, .null, 0, 0, 0, [], []), (88, .ifCond .eq 13, 3, .null, 101, 0, 0, [], []), (91, .aload_n 0, 1, .null, 0, 0, 0, [], []), (92, .getfield 9, 3, .null, 4, 3, 2, [], [])]
def zc45_4 : List zN := [(95, .iload 6, 2, .null, 0, 0, 0, [], []), (97, .iaload, 1, .null, 0, 0, 0, [], []), (98, .goto 4, 3, .null, 102, 0, 0, [], []), (101, .iconst 0, 1, .int 0, 0, 0, 0, [], []), (102, .iadd, 1, .null, 0, 0, 0, [0, 4, 6], []), (103, .istore 5, 2, .null, 0, 0, 0, [], []), (105, .iinc 6 1, 3, .int 1, 6, 0, 0, [], []), (108, .goto (-36), 3, .null, 72, 0, 0, [], []), (111, .iload 5, 2, .null, 0, 0, 0, [], []), (113, .ireturn, 1, .null, 0, 0, 0, [], [])]
def zc45 : List (Nat × List zN) := [(20, zc45_0), (43, zc45_1), (67, zc45_2), (92, zc45_3), (113, zc45_4)]
/-- SugarBelow$Prices.raiseAlone(IZ)V -/
def zc46_0 : List zN := [(0, .iconst 0, 1, .int 0, 0, 0, 0, [], []), (1, .istore_n 3, 1, .null, 0, 0, 0, [], []), (2, .iload_n 3, 1, .null, 0, 0, 0, [0, 1, 2, 3], []), (3, .aload_n 0, 1, .null, 0, 0, 0, [], []), (4, .getfield 19, 3, .null, 4, 1, 2, [], []), (7, .getfield 71, 3, .null, 3, 0, 0, [], []), (10, .if_icmp .ge 55, 3, .null, 65, 0, 0, [], []), (13, .aload_n 0, 1, .null, 0, 0, 0, [], []), (14, .getfield 23, 3, .null, 4, 2, 2, [], []), (17, .iload_n 3, 1, .null, 0, 0, 0, [], []), (18, .invokevirtual 76, 3, .null, 75, 1, 7, [], []), (21, .pop, 1, .null, 0, 0, 0, [], [])]
def zc46_1 : List zN := [(22, .aload_n 0, 1, .null, 0, 0, 0, [], []), (23, .getfield 23, 3, .null, 4, 2, 2, [], []), (26, .iload_n 3, 1, .null, 0, 0, 0, [], []), (27, .iload_n 1, 1, .null, 0, 0, 0, [], []), (28, .invokevirtual 79, 3, .null, 76, 2, 7, [], []), (31, .istore 4, 2, .null, 0, 0, 0, [], []), (33, .aload_n 0, 1, .null, 0, 0, 0, [], []), (34, .getfield 9, 3, .null, 4, 3, 2, [], []), (37, .iload_n 3, 1, .null, 0, 0, 0, [], []), (38, .iload_n 2, 1, .null, 0, 0, 0, [], []), (39, .ifCond .eq 8, 3, .null, 47, 0, 0, [], []), (42, .iload 4, 2, .null, 0, 0, 0, [], [])]
def zc46_2 : List zN := [(44, .goto 14, 3, .null, 58, 0, 0, [], []), (47, .aload_n 0, 1, .null, 0, 0, 0, [], []), (48, .getfield 9, 3, .null, 4, 3, 2, [], []), (51, .iload_n 3, 1, .null, 0, 0, 0, [], []), (52, .iaload, 1, .null, 0, 0, 0, [], []), (53, .iload 4, 2, .null, 0, 0, 0, [], []), (55, .invokestatic 83, 3, .null, 0, 2, 2, [], []), (58, .iastore, 1, .null, 0, 0, 0, [0, 1, 2, 3], []), (59, .iinc 3 1, 3, .int 1, 3, 0, 0, [], []), (62, .goto (-60), 3, .null, 2, 0, 0, [], []), (65, .return_, 1, .null, 0, 0, 0, [], [])]
def zc46 : List (Nat × List zN) := [(21, zc46_0), (42, zc46_1), (65, zc46_2)]
/-- SugarBelow$Prices.headFor(II)I -/
def zc47_0 : List zN := [(0, .iconst 3, 1, .int 3, 0, 0, 0, [], []), (1, .istore_n 3, 1, .null, 0, 0, 0, [], []), (2, .aload_n 0, 1, .null, 0, 0, 0, [], []), (3, .iload_n 1, 1, .null, 0, 0, 0, [], []), (4, .iload_n 2, 1, .null, 0, 0, 0, [], []), (5, .iconst 3, 1, .int 3, 0, 0, 0, [], []), (6, .invokevirtual 88, 3, .null, 48, 3, 4, [], []), (9, .istore 4, 2, .null, 0, 0, 0, [], []), (11, .iconst 2, 1, .int 2, 0, 0, 0, [], []), (12, .istore 5, 2, .null, 0, 0, 0, [], []), (14, .iload 5, 2, .null, 0, 0, 0, [0, 1, 2, 3, 4, 5], []), (16, .ifCond .lt 33, 3, .null, 49, 0, 0, [], [])]
def zc47_1 : List zN := [(19, .aload_n 0, 1, .null, 0, 0, 0, [], []), (20, .iload_n 1, 1, .null, 0, 0, 0, [], []), (21, .iload_n 2, 1, .null, 0, 0, 0, [], []), (22, .iload 5, 2, .null, 0, 0, 0, [], []), (24, .invokevirtual 88, 3, .null, 48, 3, 4, [], []), (27, .istore 6, 2, .null, 0, 0, 0, [], []), (29, .iload 6, 2, .null, 0, 0, 0, [], []), (31, .iload 4, 2, .null, 0, 0, 0, [], []), (33, .if_icmp .le 10, 3, .null, 43, 0, 0, [], []), (36, .iload 5, 2, .null, 0, 0, 0, [], []), (38, .istore_n 3, 1, .null, 0, 0, 0, [], []), (39, .iload 6, 2, .null, 0, 0, 0, [], [])]
def zc47_2 : List zN := [(41, .istore 4, 2, .null, 0, 0, 0, [], []), (43, .iinc 5 (-1), 3, .int (-1), 5, 0, 0, [0, 1, 2, 3, 4, 5], []), (46, .goto (-32), 3, .null, 14, 0, 0, [], []), (49, .iload_n 3, 1, .null, 0, 0, 0, [], []), (50, .ireturn, 1, .null, 0, 0, 0, [], [])]
def zc47 : List (Nat × List zN) := [(16, zc47_0), (39, zc47_1), (50, zc47_2)]
/-- SugarBelow$Prices.leftWithHead(III)I -/
def zc48_0 : List zN := [(0, .aload_n 0, 1, .null, 0, 0, 0, [], []), (1, .getfield 15, 3, .null, 4, 0, 2, [], []), (4, .getfield 92, 3, .null, 1, 4, 2, [], []), (7, .iload_n 1, 1, .null, 0, 0, 0, [], []), (8, .iconst 4, 1, .int 4, 0, 0, 0, [], []), (9, .imul, 1, .null, 0, 0, 0, [], []), (10, .iload_n 2, 1, .null, 0, 0, 0, [], []), (11, .iadd, 1, .null, 0, 0, 0, [], []), (12, .iload_n 3, 1, .null, 0, 0, 0, [], []), (13, .iastore, 1, .null, 0, 0, 0, [], []), (14, .aload_n 0, 1, .null, 0, 0, 0, [], []), (15, .getfield 23, 3, .null, 4, 2, 2, [], [])]
def zc48_1 : List zN := [(18, .iload_n 1, 1, .null, 0, 0, 0, [], []), (19, .iload_n 2, 1, .null, 0, 0, 0, [], []), (20, .invokevirtual 95, 3, .null, 65, 2, 7, [], []), (23, .aload_n 0, 1, .null, 0, 0, 0, [], []), (24, .getfield 23, 3, .null, 4, 2, 2, [], []), (27, .iload_n 1, 1, .null, 0, 0, 0, [], []), (28, .invokevirtual 45, 3, .null, 78, 1, 7, [], []), (31, .ireturn, 1, .null, 0, 0, 0, [], [])]
def zc48 : List (Nat × List zN) := [(15, zc48_0), (31, zc48_1)]
/-- SugarBelow$Prices.windowFor(II)I -/
def zc49_0 : List zN := [(0, .iconst 0, 1, .int 0, 0, 0, 0, [], []), (1, .istore_n 3, 1, .null, 0, 0, 0, [], []), (2, .aload_n 0, 1, .null, 0, 0, 0, [], []), (3, .iload_n 1, 1, .null, 0, 0, 0, [], []), (4, .iconst 0, 1, .int 0, 0, 0, 0, [], []), (5, .invokevirtual 98, 3, .null, 50, 2, 4, [], []), (8, .istore 4, 2, .null, 0, 0, 0, [], []), (10, .iconst 1, 1, .int 1, 0, 0, 0, [], []), (11, .istore 5, 2, .null, 0, 0, 0, [], []), (13, .iload 5, 2, .null, 0, 0, 0, [0, 1, 2, 3, 4, 5], []), (15, .iload_n 2, 1, .null, 0, 0, 0, [], []), (16, .if_icmp .gt 70, 3, .null, 86, 0, 0, [], [])]
def zc49_1 : List zN := [(19, .iconst 1, 1, .int 1, 0, 0, 0, [], []), (20, .istore 6, 2, .null, 0, 0, 0, [], []), (22, .iload 6, 2, .null, 0, 0, 0, [0, 1, 2, 3, 4, 5, 6], []), (24, .iconst 1, 1, .int 1, 0, 0, 0, [], []), (25, .aload_n 0, 1, .null, 0, 0, 0, [], []), (26, .getfield 15, 3, .null, 4, 0, 2, [], []), (29, .getfield 50, 3, .null, 1, 0, 0, [], []), (32, .ishl, 1, .null, 0, 0, 0, [], []), (33, .if_icmp .ge 47, 3, .null, 80, 0, 0, [], []), (36, .iload 6, 2, .null, 0, 0, 0, [], []), (38, .invokestatic 101, 3, .null, 210, 1, 0, [], []), (41, .iload 5, 2, .null, 0, 0, 0, [], [])]
def zc49_2 : List zN := [(43, .if_icmp .ne 13, 3, .null, 56, 0, 0, [], []), (46, .aload_n 0, 1, .null, 0, 0, 0, [], []), (47, .iload_n 1, 1, .null, 0, 0, 0, [], []), (48, .iload 6, 2, .null, 0, 0, 0, [], []), (50, .invokevirtual 98, 3, .null, 50, 2, 4, [], []), (53, .goto 5, 3, .null, 58, 0, 0, [], []), (56, .iload 4, 2, .null, 0, 0, 0, [], []), (58, .istore 7, 2, .null, 0, 0, 0, [0, 1, 2, 3, 4, 5, 6], []), (60, .iload 7, 2, .null, 0, 0, 0, [], []), (62, .iload 4, 2, .null, 0, 0, 0, [], []), (64, .if_icmp .le 10, 3, .null, 74, 0, 0, [], []), (67, .iload 6, 2, .null, 0, 0, 0, [], [])]
def zc49_3 : List zN := [(69, .istore_n 3, 1, .null, 0, 0, 0, [], []), (70, .iload 7, 2, .null, 0, 0, 0, [], []), (72, .istore 4, 2, .null, 0, 0, 0, [], []), (74, .iinc 6 1, 3, .int 1, 6, 0, 0, [0, 1, 2, 3, 4, 5, 6], []), (77, .goto (-55), 3, .null, 22, 0, 0, [], []), (80, .iinc 5 1, 3, .int 1, 5, 0, 0, [], []), (83, .goto (-70), 3, .null, 13, 0, 0, [], []), (86, .iload_n 3, 1, .null, 0, 0, 0, [], []), (87, .ireturn, 1, .null, 0, 0, 0, [], [])]
def zc49 : List (Nat × List zN) := [(16, zc49_0), (41, zc49_1), (67, zc49_2), (87, zc49_3)]
/-- SugarBelow$Prices.leftWithWindow(II)I -/
def zc50_0 : List zN := [(0, .aload_n 0, 1, .null, 0, 0, 0, [], []), (1, .getfield 15, 3, .null, 4, 0, 2, [], []), (4, .getfield 106, 3, .null, 1, 6, 2, [], []), (7, .iload_n 1, 1, .null, 0, 0, 0, [], []), (8, .iload_n 2, 1, .null, 0, 0, 0, [], []), (9, .iastore, 1, .null, 0, 0, 0, [], []), (10, .aload_n 0, 1, .null, 0, 0, 0, [], []), (11, .getfield 23, 3, .null, 4, 2, 2, [], []), (14, .invokevirtual 109, 3, .null, 64, 0, 7, [], []), (17, .aload_n 0, 1, .null, 0, 0, 0, [], []), (18, .getfield 23, 3, .null, 4, 2, 2, [], []), (21, .iload_n 1, 1, .null, 0, 0, 0, [], [])]
def zc50_1 : List zN := [(22, .invokevirtual 45, 3, .null, 78, 1, 7, [], []), (25, .ireturn, 1, .null, 0, 0, 0, [], [])]
def zc50 : List (Nat × List zN) := [(21, zc50_0), (25, zc50_1)]
/-- SugarBelow$Prices.edgeOf(III)I -/
def zc51_0 : List zN := [(0, .aload_n 0, 1, .null, 0, 0, 0, [], []), (1, .getfield 15, 3, .null, 4, 0, 2, [], []), (4, .getfield 112, 3, .null, 1, 3, 2, [], []), (7, .iload_n 1, 1, .null, 0, 0, 0, [], []), (8, .iconst 4, 1, .int 4, 0, 0, 0, [], []), (9, .imul, 1, .null, 0, 0, 0, [], []), (10, .iload_n 2, 1, .null, 0, 0, 0, [], []), (11, .iadd, 1, .null, 0, 0, 0, [], []), (12, .iaload, 1, .null, 0, 0, 0, [], []), (13, .istore 4, 2, .null, 0, 0, 0, [], []), (15, .aload_n 0, 1, .null, 0, 0, 0, [], []), (16, .iload_n 1, 1, .null, 0, 0, 0, [], [])]
def zc51_1 : List zN := [(17, .iload_n 3, 1, .null, 0, 0, 0, [], []), (18, .invokevirtual 115, 3, .null, 42, 2, 4, [], []), (21, .istore 5, 2, .null, 0, 0, 0, [], []), (23, .iconst 1, 1, .int 1, 0, 0, 0, [], []), (24, .istore 6, 2, .null, 0, 0, 0, [], []), (26, .iload 6, 2, .null, 0, 0, 0, [0, 1, 2, 3, 4, 5, 6], []), (28, .bipush 99, 2, .int 99, 0, 0, 0, [], []), (30, .if_icmp .gt 73, 3, .null, 103, 0, 0, [], []), (33, .iload 4, 2, .null, 0, 0, 0, [], []), (35, .iload 6, 2, .null, 0, 0, 0, [], []), (37, .isub, 1, .null, 0, 0, 0, [], []), (38, .ifCond .lt 26, 3, .null, 64, 0, 0, [], [])]
def zc51_2 : List zN := [(41, .aload_n 0, 1, .null, 0, 0, 0, [], []), (42, .iload_n 1, 1, .null, 0, 0, 0, [], []), (43, .iload_n 2, 1, .null, 0, 0, 0, [], []), (44, .iload_n 3, 1, .null, 0, 0, 0, [], []), (45, .iload 4, 2, .null, 0, 0, 0, [], []), (47, .iload 6, 2, .null, 0, 0, 0, [], []), (49, .isub, 1, .null, 0, 0, 0, [], []), (50, .iload 5, 2, .null, 0, 0, 0, [], []), (52, .invokevirtual 118, 3, .null, 52, 5, 4, [], []), (55, .ifCond .eq 9, 3, .null, 64, 0, 0, [], []), (58, .iload 4, 2, .null, 0, 0, 0, [], []), (60, .iload 6, 2, .null, 0, 0, 0, [], [])]
def zc51_3 : List zN := [(62, .isub, 1, .null, 0, 0, 0, [], []), (63, .ireturn, 1, .null, 0, 0, 0, [], []), (64, .iload 4, 2, .null, 0, 0, 0, [0, 1, 2, 3, 4, 5, 6], []), (66, .iload 6, 2, .null, 0, 0, 0, [], []), (68, .iadd, 1, .null, 0, 0, 0, [], []), (69, .bipush 99, 2, .int 99, 0, 0, 0, [], []), (71, .if_icmp .gt 26, 3, .null, 97, 0, 0, [], []), (74, .aload_n 0, 1, .null, 0, 0, 0, [], []), (75, .iload_n 1, 1, .null, 0, 0, 0, [], []), (76, .iload_n 2, 1, .null, 0, 0, 0, [], []), (77, .iload_n 3, 1, .null, 0, 0, 0, [], []), (78, .iload 4, 2, .null, 0, 0, 0, [], [])]
def zc51_4 : List zN := [(80, .iload 6, 2, .null, 0, 0, 0, [], []), (82, .iadd, 1, .null, 0, 0, 0, [], []), (83, .iload 5, 2, .null, 0, 0, 0, [], []), (85, .invokevirtual 118, 3, .null, 52, 5, 4, [], []), (88, .ifCond .eq 9, 3, .null, 97, 0, 0, [], []), (91, .iload 4, 2, .null, 0, 0, 0, [], []), (93, .iload 6, 2, .null, 0, 0, 0, [], []), (95, .iadd, 1, .null, 0, 0, 0, [], []), (96, .ireturn, 1, .null, 0, 0, 0, [], []), (97, .iinc 6 1, 3, .int 1, 6, 0, 0, [0, 1, 2, 3, 4, 5, 6], []), (100, .goto (-74), 3, .null, 26, 0, 0, [], []), (103, .bipush (-6), 2, .int (-6), 0, 0, 0, [], [])]
def zc51_5 : List zN := [(105, .ireturn, 1, .null, 0, 0, 0, [], [])]
def zc51 : List (Nat × List zN) := [(16, zc51_0), (38, zc51_1), (60, zc51_2), (78, zc51_3), (103, zc51_4), (105, zc51_5)]
/-- SugarBelow$Prices.turnsBest(IIIII)Z -/
def zc52_0 : List zN := [(0, .aload_n 0, 1, .null, 0, 0, 0, [], []), (1, .getfield 15, 3, .null, 4, 0, 2, [], []), (4, .getfield 112, 3, .null, 1, 3, 2, [], []), (7, .iload_n 1, 1, .null, 0, 0, 0, [], []), (8, .iconst 4, 1, .int 4, 0, 0, 0, [], []), (9, .imul, 1, .null, 0, 0, 0, [], []), (10, .iload_n 2, 1, .null, 0, 0, 0, [], []), (11, .iadd, 1, .null, 0, 0, 0, [], []), (12, .iload 4, 2, .null, 0, 0, 0, [], []), (14, .iastore, 1, .null, 0, 0, 0, [], []), (15, .aload_n 0, 1, .null, 0, 0, 0, [], []), (16, .getfield 23, 3, .null, 4, 2, 2, [], [])]
def zc52_1 : List zN := [(19, .iload_n 1, 1, .null, 0, 0, 0, [], []), (20, .iload_n 2, 1, .null, 0, 0, 0, [], []), (21, .invokevirtual 95, 3, .null, 65, 2, 7, [], []), (24, .aload_n 0, 1, .null, 0, 0, 0, [], []), (25, .iload_n 1, 1, .null, 0, 0, 0, [], []), (26, .iload_n 3, 1, .null, 0, 0, 0, [], []), (27, .invokevirtual 115, 3, .null, 42, 2, 4, [], []), (30, .istore 6, 2, .null, 0, 0, 0, [], []), (32, .iload 6, 2, .null, 0, 0, 0, [], []), (34, .bipush (-6), 2, .int (-6), 0, 0, 0, [], []), (36, .if_icmp .eq 14, 3, .null, 50, 0, 0, [], []), (39, .iload 6, 2, .null, 0, 0, 0, [], [])]
def zc52_2 : List zN := [(41, .iload 5, 2, .null, 0, 0, 0, [], []), (43, .if_icmp .eq 7, 3, .null, 50, 0, 0, [], []), (46, .iconst 1, 1, .int 1, 0, 0, 0, [], []), (47, .goto 4, 3, .null, 51, 0, 0, [], []), (50, .iconst 0, 1, .int 0, 0, 0, 0, [99], []), (51, .ireturn, 1, .null, 0, 0, 1, [99], [])]
def zc52 : List (Nat × List zN) := [(16, zc52_0), (39, zc52_1), (51, zc52_2)]
/-- SugarBelow$Till.<init>()V -/
def zc53_0 : List zN := [(0, .aload_n 0, 1, .null, 0, 0, 0, [], []), (1, .invokespecial 3, 3, .null, 0, 0, 0, [], []), (4, .aload_n 0, 1, .null, 0, 0, 0, [], []), (5, .bipush 30, 2, .int 30, 0, 0, 0, [], []), (7, .newarray .int, 2, .null, 0, 0, 0, [], []), (9, .putfield 9, 3, .null, 5, 1, 2, [], []), (12, .return_, 1, .null, 0, 0, 0, [], [])]
def zc53 : List (Nat × List zN) := [(12, zc53_0)]
/-- SugarBelow$Till.copy(LSugarBelow$Till;)V -/
def zc54_0 : List zN := [(0, .aload_n 0, 1, .null, 0, 0, 0, [], []), (1, .aload_n 1, 1, .null, 0, 0, 0, [], []), (2, .getfield 15, 3, .null, 5, 0, 0, [], []), (5, .putfield 15, 3, .null, 5, 0, 0, [], []), (8, .aload_n 1, 1, .null, 0, 0, 0, [], []), (9, .getfield 9, 3, .null, 5, 1, 2, [], []), (12, .iconst 0, 1, .int 0, 0, 0, 0, [], []), (13, .aload_n 0, 1, .null, 0, 0, 0, [], []), (14, .getfield 9, 3, .null, 5, 1, 2, [], []), (17, .iconst 0, 1, .int 0, 0, 0, 0, [], []), (18, .bipush 30, 2, .int 30, 0, 0, 0, [], []), (20, .invokestatic 19, 3, .null, 0, 5, 1, [], [])]
def zc54_1 : List zN := [(23, .return_, 1, .null, 0, 0, 0, [], [])]
def zc54 : List (Nat × List zN) := [(20, zc54_0), (23, zc54_1)]
/-- SugarBelow$Till.put(I)I -/
def zc55_0 : List zN := [(0, .aload_n 0, 1, .null, 0, 0, 0, [], []), (1, .getfield 9, 3, .null, 5, 1, 2, [], []), (4, .aload_n 0, 1, .null, 0, 0, 0, [], []), (5, .getfield 15, 3, .null, 5, 0, 0, [], []), (8, .iload_n 1, 1, .null, 0, 0, 0, [], []), (9, .iastore, 1, .null, 0, 0, 0, [], []), (10, .aload_n 0, 1, .null, 0, 0, 0, [], []), (11, .dup, 1, .null, 0, 0, 0, [], []), (12, .getfield 15, 3, .null, 5, 0, 0, [], []), (15, .iconst 1, 1, .int 1, 0, 0, 0, [], []), (16, .iadd, 1, .null, 0, 0, 0, [], []), (17, .putfield 15, 3, .null, 5, 0, 0, [], [])]
def zc55_1 : List zN := [(20, .aload_n 0, 1, .null, 0, 0, 0, [], []), (21, .getfield 15, 3, .null, 5, 0, 0, [], []), (24, .ireturn, 1, .null, 0, 0, 0, [], [])]
def zc55 : List (Nat × List zN) := [(17, zc55_0), (24, zc55_1)]
/-- SugarBelow$Till.clear()I -/
def zc56_0 : List zN := [(0, .aload_n 0, 1, .null, 0, 0, 0, [], []), (1, .getfield 15, 3, .null, 5, 0, 0, [], []), (4, .istore_n 1, 1, .null, 0, 0, 0, [], []), (5, .aload_n 0, 1, .null, 0, 0, 0, [], []), (6, .iconst 0, 1, .int 0, 0, 0, 0, [], []), (7, .putfield 15, 3, .null, 5, 0, 0, [], []), (10, .iload_n 1, 1, .null, 0, 0, 0, [], []), (11, .ireturn, 1, .null, 0, 0, 0, [], [])]
def zc56 : List (Nat × List zN) := [(11, zc56_0)]
/-- SugarBelow$Till.countWith(I)I -/
def zc57_0 : List zN := [(0, .iconst 0, 1, .int 0, 0, 0, 0, [], []), (1, .istore_n 2, 1, .null, 0, 0, 0, [], []), (2, .iconst 0, 1, .int 0, 0, 0, 0, [], []), (3, .istore_n 3, 1, .null, 0, 0, 0, [], []), (4, .iload_n 3, 1, .null, 0, 0, 0, [0, 1, 2, 3], []), (5, .aload_n 0, 1, .null, 0, 0, 0, [], []), (6, .getfield 15, 3, .null, 5, 0, 0, [], []), (9, .if_icmp .ge 24, 3, .null, 33, 0, 0, [], []), (12, .aload_n 0, 1, .null, 0, 0, 0, [], []), (13, .getfield 9, 3, .null, 5, 1, 2, [], []), (16, .iload_n 3, 1, .null, 0, 0, 0, [], []), (17, .iaload, 1, .null, 0, 0, 0, [], [])]
def zc57_1 : List zN := [(18, .iload_n 1, 1, .null, 0, 0, 0, [], []), (19, .iand, 1, .null, 0, 0, 0, [], []), (20, .iload_n 1, 1, .null, 0, 0, 0, [], []), (21, .if_icmp .ne 6, 3, .null, 27, 0, 0, [], []), (24, .iinc 2 1, 3, .int 1, 2, 0, 0, [], []), (27, .iinc 3 1, 3, .int 1, 3, 0, 0, [0, 1, 2, 3], []), (30, .goto (-26), 3, .null, 4, 0, 0, [], []), (33, .iload_n 2, 1, .null, 0, 0, 0, [], []), (34, .ireturn, 1, .null, 0, 0, 0, [], [])]
def zc57 : List (Nat × List zN) := [(17, zc57_0), (34, zc57_1)]
/-- SugarBelow$Till.odds(III)J -/
def zc58_0 : List zN := [(0, .aload_n 0, 1, .null, 0, 0, 0, [], []), (1, .iload_n 1, 1, .null, 0, 0, 0, [], []), (2, .invokevirtual 25, 3, .null, 57, 1, 5, [], []), (5, .istore 4, 2, .null, 0, 0, 0, [], []), (7, .aload_n 0, 1, .null, 0, 0, 0, [], []), (8, .iload_n 2, 1, .null, 0, 0, 0, [], []), (9, .invokevirtual 25, 3, .null, 57, 1, 5, [], []), (12, .istore 5, 2, .null, 0, 0, 0, [], []), (14, .lconst 0, 1, .long 0, 0, 0, 0, [], []), (15, .lstore 6, 2, .null, 0, 0, 0, [], []), (17, .aload_n 0, 1, .null, 0, 0, 0, [], []), (18, .iload_n 1, 1, .null, 0, 0, 0, [], [])]
def zc58_1 : List zN := [(19, .iload_n 2, 1, .null, 0, 0, 0, [], []), (20, .ior, 1, .null, 0, 0, 0, [], []), (21, .invokevirtual 25, 3, .null, 57, 1, 5, [], []), (24, .istore 8, 2, .null, 0, 0, 0, [], []), (26, .iload 8, 2, .null, 0, 0, 0, [0, 3, 4, 5, 6, 8], []), (28, .iload 4, 2, .null, 0, 0, 0, [], []), (30, .if_icmp .gt 37, 3, .null, 67, 0, 0, [], []), (33, .lload 6, 2, .null, 0, 0, 0, [], []), (35, .iload 5, 2, .null, 0, 0, 0, [], []), (37, .iload 8, 2, .null, 0, 0, 0, [], []), (39, .invokestatic 29, 3, .null, 59, 2, 0, [], []), (42, .aload_n 0, 1, .null, 0, 0, 0, [], [])]
def zc58_2 : List zN := [(43, .getfield 15, 3, .null, 5, 0, 0, [], []), (46, .iload 5, 2, .null, 0, 0, 0, [], []), (48, .isub, 1, .null, 0, 0, 0, [], []), (49, .iload 4, 2, .null, 0, 0, 0, [], []), (51, .iload 8, 2, .null, 0, 0, 0, [], []), (53, .isub, 1, .null, 0, 0, 0, [], []), (54, .invokestatic 29, 3, .null, 59, 2, 0, [], []), (57, .lmul, 1, .null, 0, 0, 0, [], []), (58, .ladd, 1, .null, 0, 0, 0, [], []), (59, .lstore 6, 2, .null, 0, 0, 0, [], []), (61, .iinc 8 1, 3, .int 1, 8, 0, 0, [], []), (64, .goto (-38), 3, .null, 26, 0, 0, [], [])]
def zc58_3 : List zN := [(67, .aload_n 0, 1, .null, 0, 0, 0, [], []), (68, .getfield 15, 3, .null, 5, 0, 0, [], []), (71, .iload 4, 2, .null, 0, 0, 0, [], []), (73, .invokestatic 29, 3, .null, 59, 2, 0, [], []), (76, .lstore 8, 2, .null, 0, 0, 0, [], []), (78, .lconst 1, 1, .long 1, 0, 0, 0, [], []), (79, .lload 8, 2, .null, 0, 0, 0, [], []), (81, .lload 6, 2, .null, 0, 0, 0, [], []), (83, .invokestatic 33, 3, .null, 60, 2, 0, [], []), (86, .invokestatic 37, 3, .null, 0, 2, 3, [], []), (89, .lstore 10, 2, .null, 0, 0, 0, [], []), (91, .iload_n 3, 1, .null, 0, 0, 0, [], [])]
def zc58_4 : List zN := [(92, .ifCond .ne 8, 3, .null, 100, 0, 0, [], []), (95, .lload 6, 2, .null, 0, 0, 0, [], []), (97, .goto 5, 3, .null, 102, 0, 0, [], []), (100, .lload 8, 2, .null, 0, 0, 0, [], []), (102, .lload 10, 2, .null, 0, 0, 0, [10], []), (104, .ldiv, 1, .null, 0, 0, 0, [], []), (105, .lreturn, 1, .null, 0, 0, 0, [], [])]
def zc58 : List (Nat × List zN) := [(18, zc58_0), (42, zc58_1), (64, zc58_2), (91, zc58_3), (105, zc58_4)]
/-- SugarBelow$Till.choose(II)J -/
def zc59_0 : List zN := [(0, .iload_n 1, 1, .null, 0, 0, 0, [], []), (1, .ifCond .lt 8, 3, .null, 9, 0, 0, [], []), (4, .iload_n 1, 1, .null, 0, 0, 0, [], []), (5, .iload_n 0, 1, .null, 0, 0, 0, [], []), (6, .if_icmp .le 5, 3, .null, 11, 0, 0, [], []), (9, .lconst 0, 1, .long 0, 0, 0, 0, [99], []), (10, .lreturn, 1, .null, 0, 0, 0, [], []), (11, .lconst 1, 1, .long 1, 0, 0, 0, [], []), (12, .lstore_n 2, 1, .null, 0, 0, 0, [], []), (13, .iconst 0, 1, .int 0, 0, 0, 0, [], []), (14, .istore 4, 2, .null, 0, 0, 0, [], []), (16, .iload 4, 2, .null, 0, 0, 0, [0, 1, 2, 4], [])]
def zc59_1 : List zN := [(18, .iload_n 1, 1, .null, 0, 0, 0, [], []), (19, .if_icmp .ge 23, 3, .null, 42, 0, 0, [], []), (22, .lload_n 2, 1, .null, 0, 0, 0, [], []), (23, .iload_n 0, 1, .null, 0, 0, 0, [], []), (24, .iload 4, 2, .null, 0, 0, 0, [], []), (26, .isub, 1, .null, 0, 0, 0, [], []), (27, .i2l, 1, .null, 0, 0, 0, [], []), (28, .lmul, 1, .null, 0, 0, 0, [], []), (29, .iload 4, 2, .null, 0, 0, 0, [], []), (31, .iconst 1, 1, .int 1, 0, 0, 0, [], []), (32, .iadd, 1, .null, 0, 0, 0, [], []), (33, .i2l, 1, .null, 0, 0, 0, [], [])]
def zc59_2 : List zN := [(34, .ldiv, 1, .null, 0, 0, 0, [], []), (35, .lstore_n 2, 1, .null, 0, 0, 0, [], []), (36, .iinc 4 1, 3, .int 1, 4, 0, 0, [], []), (39, .goto (-23), 3, .null, 16, 0, 0, [], []), (42, .lload_n 2, 1, .null, 0, 0, 0, [], []), (43, .lreturn, 1, .null, 0, 0, 0, [], [])]
def zc59 : List (Nat × List zN) := [(16, zc59_0), (33, zc59_1), (43, zc59_2)]
/-- SugarBelow$Till.commonDivisor(JJ)J -/
def zc60_0 : List zN := [(0, .lload_n 0, 1, .null, 0, 0, 0, [], []), (1, .lstore 4, 2, .null, 0, 0, 0, [], []), (3, .lload_n 2, 1, .null, 0, 0, 0, [], []), (4, .lstore 6, 2, .null, 0, 0, 0, [], []), (6, .iconst 0, 1, .int 0, 0, 0, 0, [], []), (7, .istore 8, 2, .null, 0, 0, 0, [], []), (9, .iload 8, 2, .null, 0, 0, 0, [4, 6, 8], []), (11, .bipush 100, 2, .int 100, 0, 0, 0, [], []), (13, .if_icmp .ge 31, 3, .null, 44, 0, 0, [], []), (16, .lload 6, 2, .null, 0, 0, 0, [], []), (18, .lconst 0, 1, .long 0, 0, 0, 0, [], []), (19, .lcmp, 1, .null, 0, 0, 0, [], [])]
def zc60_1 : List zN := [(20, .ifCond .eq 24, 3, .null, 44, 0, 0, [], []), (23, .lload 4, 2, .null, 0, 0, 0, [], []), (25, .lload 6, 2, .null, 0, 0, 0, [], []), (27, .lrem, 1, .null, 0, 0, 0, [], []), (28, .lstore 9, 2, .null, 0, 0, 0, [], []), (30, .lload 6, 2, .null, 0, 0, 0, [], []), (32, .lstore 4, 2, .null, 0, 0, 0, [], []), (34, .lload 9, 2, .null, 0, 0, 0, [], []), (36, .lstore 6, 2, .null, 0, 0, 0, [], []), (38, .iinc 8 1, 3, .int 1, 8, 0, 0, [], []), (41, .goto (-32), 3, .null, 9, 0, 0, [], []), (44, .lload 4, 2, .null, 0, 0, 0, [4], [])]
def zc60_2 : List zN := [(46, .lreturn, 1, .null, 0, 0, 0, [], [])]
def zc60 : List (Nat × List zN) := [(19, zc60_0), (44, zc60_1), (46, zc60_2)]
/-- SugarBelow$Town.<init>()V -/
def zc61_0 : List zN := [(0, .aload_n 0, 1, .null, 0, 0, 0, [], []), (1, .invokespecial 1, 3, .null, 0, 0, 0, [], []), (4, .aload_n 0, 1, .null, 0, 0, 0, [], []), (5, .new 7, 3, .null, 1, 7, 0, [], []), (8, .dup, 1, .null, 0, 0, 0, [], []), (9, .invokespecial 9, 3, .null, 12, 0, 2, [], []), (12, .putfield 10, 3, .null, 6, 0, 2, [], []), (15, .aload_n 0, 1, .null, 0, 0, 0, [], []), (16, .new 16, 3, .null, 3, 8, 0, [], []), (19, .dup, 1, .null, 0, 0, 0, [], []), (20, .invokespecial 18, 3, .null, 38, 0, 2, [], []), (23, .putfield 19, 3, .null, 6, 1, 2, [], [])]
def zc61_1 : List zN := [(26, .aload_n 0, 1, .null, 0, 0, 0, [], []), (27, .new 23, 3, .null, 5, 2, 0, [], []), (30, .dup, 1, .null, 0, 0, 0, [], []), (31, .invokespecial 25, 3, .null, 53, 0, 2, [], []), (34, .putfield 26, 3, .null, 6, 2, 2, [], []), (37, .return_, 1, .null, 0, 0, 0, [], [])]
def zc61 : List (Nat × List zN) := [(23, zc61_0), (37, zc61_1)]
/-- SugarBelow$Town.copy(LSugarBelow$Town;)V -/
def zc62_0 : List zN := [(0, .aload_n 0, 1, .null, 0, 0, 0, [], []), (1, .getfield 10, 3, .null, 6, 0, 2, [], []), (4, .aload_n 1, 1, .null, 0, 0, 0, [], []), (5, .getfield 10, 3, .null, 6, 0, 2, [], []), (8, .invokevirtual 30, 3, .null, 13, 1, 1, [], []), (11, .aload_n 0, 1, .null, 0, 0, 0, [], []), (12, .getfield 19, 3, .null, 6, 1, 2, [], []), (15, .aload_n 1, 1, .null, 0, 0, 0, [], []), (16, .getfield 19, 3, .null, 6, 1, 2, [], []), (19, .invokevirtual 34, 3, .null, 39, 1, 3, [], []), (22, .aload_n 0, 1, .null, 0, 0, 0, [], []), (23, .getfield 26, 3, .null, 6, 2, 2, [], [])]
def zc62_1 : List zN := [(26, .aload_n 1, 1, .null, 0, 0, 0, [], []), (27, .getfield 26, 3, .null, 6, 2, 2, [], []), (30, .invokevirtual 37, 3, .null, 54, 1, 5, [], []), (33, .aload_n 0, 1, .null, 0, 0, 0, [], []), (34, .aload_n 1, 1, .null, 0, 0, 0, [], []), (35, .getfield 40, 3, .null, 6, 3, 0, [], []), (38, .putfield 40, 3, .null, 6, 3, 0, [], []), (41, .return_, 1, .null, 0, 0, 0, [], [])]
def zc62 : List (Nat × List zN) := [(23, zc62_0), (41, zc62_1)]
/-- SugarBelow$Walks.<init>(LSugarBelow$Goods;LSugarBelow$People;)V -/
def zc63_0 : List zN := [(0, .aload_n 0, 1, .null, 0, 0, 0, [], []), (1, .invokespecial 3, 3, .null, 0, 0, 0, [], []), (4, .aload_n 0, 1, .null, 0, 0, 0, [], []), (5, .bipush 120, 2, .int 120, 0, 0, 0, [], []), (7, .newarray .int, 2, .null, 0, 0, 0, [], []), (9, .putfield 9, 3, .null, 7, 2, 2, [], []), (12, .aload_n 0, 1, .null, 0, 0, 0, [], []), (13, .bipush 120, 2, .int 120, 0, 0, 0, [], []), (15, .newarray .int, 2, .null, 0, 0, 0, [], []), (17, .putfield 15, 3, .null, 7, 3, 2, [], []), (20, .aload_n 0, 1, .null, 0, 0, 0, [], []), (21, .iconst 4, 1, .int 4, 0, 0, 0, [], [])]
def zc63_1 : List zN := [(22, .newarray .int, 2, .null, 0, 0, 0, [], []), (24, .putfield 18, 3, .null, 7, 4, 2, [], []), (27, .aload_n 0, 1, .null, 0, 0, 0, [], []), (28, .bipush 8, 2, .int 8, 0, 0, 0, [], []), (30, .newarray .int, 2, .null, 0, 0, 0, [], []), (32, .putfield 21, 3, .null, 7, 5, 2, [], []), (35, .aload_n 0, 1, .null, 0, 0, 0, [], []), (36, .iconst 2, 1, .int 2, 0, 0, 0, [], []), (37, .newarray .int, 2, .null, 0, 0, 0, [], []), (39, .putfield 24, 3, .null, 7, 6, 2, [], []), (42, .aload_n 0, 1, .null, 0, 0, 0, [], []), (43, .aload_n 1, 1, .null, 0, 0, 0, [], [])]
def zc63_2 : List zN := [(44, .putfield 27, 3, .null, 7, 0, 2, [], []), (47, .aload_n 0, 1, .null, 0, 0, 0, [], []), (48, .aload_n 2, 1, .null, 0, 0, 0, [], []), (49, .putfield 31, 3, .null, 7, 1, 2, [], []), (52, .return_, 1, .null, 0, 0, 0, [], [])]
def zc63 : List (Nat × List zN) := [(21, zc63_0), (43, zc63_1), (52, zc63_2)]
/-- SugarBelow$Walks.learn()V -/
def zc64_0 : List zN := [(0, .iconst 0, 1, .int 0, 0, 0, 0, [], []), (1, .istore_n 1, 1, .null, 0, 0, 0, [], []), (2, .iload_n 1, 1, .null, 0, 0, 0, [0, 1], []), (3, .iconst 2, 1, .int 2, 0, 0, 0, [], []), (4, .if_icmp .ge 34, 3, .null, 38, 0, 0, [], []), (7, .iconst 0, 1, .int 0, 0, 0, 0, [], []), (8, .istore_n 2, 1, .null, 0, 0, 0, [], []), (9, .iload_n 2, 1, .null, 0, 0, 0, [0, 1, 2], []), (10, .aload_n 0, 1, .null, 0, 0, 0, [], []), (11, .getfield 27, 3, .null, 7, 0, 2, [], []), (14, .getfield 35, 3, .null, 1, 0, 0, [], []), (17, .if_icmp .ge 15, 3, .null, 32, 0, 0, [], [])]
def zc64_1 : List zN := [(20, .aload_n 0, 1, .null, 0, 0, 0, [], []), (21, .iload_n 1, 1, .null, 0, 0, 0, [], []), (22, .iload_n 2, 1, .null, 0, 0, 0, [], []), (23, .invokevirtual 41, 3, .null, 65, 2, 7, [], []), (26, .iinc 2 1, 3, .int 1, 2, 0, 0, [], []), (29, .goto (-20), 3, .null, 9, 0, 0, [], []), (32, .iinc 1 1, 3, .int 1, 1, 0, 0, [], []), (35, .goto (-33), 3, .null, 2, 0, 0, [], []), (38, .return_, 1, .null, 0, 0, 0, [], [])]
def zc64 : List (Nat × List zN) := [(17, zc64_0), (38, zc64_1)]
/-- SugarBelow$Walks.learnThing(II)V -/
def zc65_0 : List zN := [(0, .iconst 0, 1, .int 0, 0, 0, 0, [], []), (1, .istore_n 3, 1, .null, 0, 0, 0, [], []), (2, .iload_n 3, 1, .null, 0, 0, 0, [0, 1, 2, 3], []), (3, .aload_n 0, 1, .null, 0, 0, 0, [], []), (4, .getfield 31, 3, .null, 7, 1, 2, [], []), (7, .getfield 45, 3, .null, 3, 0, 0, [], []), (10, .if_icmp .ge 121, 3, .null, 131, 0, 0, [], []), (13, .iload_n 3, 1, .null, 0, 0, 0, [], []), (14, .iconst 2, 1, .int 2, 0, 0, 0, [], []), (15, .imul, 1, .null, 0, 0, 0, [], []), (16, .iload_n 1, 1, .null, 0, 0, 0, [], []), (17, .iadd, 1, .null, 0, 0, 0, [], [])]
def zc65_1 : List zN := [(18, .iconst 4, 1, .int 4, 0, 0, 0, [], []), (19, .imul, 1, .null, 0, 0, 0, [], []), (20, .iload_n 2, 1, .null, 0, 0, 0, [], []), (21, .iadd, 1, .null, 0, 0, 0, [], []), (22, .iconst 3, 1, .int 3, 0, 0, 0, [], []), (23, .imul, 1, .null, 0, 0, 0, [], []), (24, .istore 4, 2, .null, 0, 0, 0, [], []), (26, .aload_n 0, 1, .null, 0, 0, 0, [], []), (27, .getfield 31, 3, .null, 7, 1, 2, [], []), (30, .getfield 50, 3, .null, 3, 3, 2, [], []), (33, .iload_n 3, 1, .null, 0, 0, 0, [], []), (34, .iaload, 1, .null, 0, 0, 0, [], [])]
def zc65_2 : List zN := [(35, .istore 5, 2, .null, 0, 0, 0, [], []), (37, .iconst 0, 1, .int 0, 0, 0, 0, [], []), (38, .istore 6, 2, .null, 0, 0, 0, [], []), (40, .iload 6, 2, .null, 0, 0, 0, [0, 1, 2, 3, 4, 5, 6], []), (42, .aload_n 0, 1, .null, 0, 0, 0, [], []), (43, .getfield 27, 3, .null, 7, 0, 2, [], []), (46, .getfield 53, 3, .null, 1, 1, 2, [], []), (49, .iload_n 2, 1, .null, 0, 0, 0, [], []), (50, .iaload, 1, .null, 0, 0, 0, [], []), (51, .if_icmp .ge 74, 3, .null, 125, 0, 0, [], []), (54, .aload_n 0, 1, .null, 0, 0, 0, [], []), (55, .getfield 27, 3, .null, 7, 0, 2, [], [])]
def zc65_3 : List zN := [(58, .getfield 56, 3, .null, 1, 2, 2, [], []), (61, .iload_n 2, 1, .null, 0, 0, 0, [], []), (62, .iconst 3, 1, .int 3, 0, 0, 0, [], []), (63, .imul, 1, .null, 0, 0, 0, [], []), (64, .iload 6, 2, .null, 0, 0, 0, [], []), (66, .iadd, 1, .null, 0, 0, 0, [], []), (67, .iaload, 1, .null, 0, 0, 0, [], []), (68, .istore 7, 2, .null, 0, 0, 0, [], []), (70, .aload_n 0, 1, .null, 0, 0, 0, [], []), (71, .getfield 9, 3, .null, 7, 2, 2, [], []), (74, .iload 4, 2, .null, 0, 0, 0, [], []), (76, .iload 6, 2, .null, 0, 0, 0, [], [])]
def zc65_4 : List zN := [(78, .iadd, 1, .null, 0, 0, 0, [], []), (79, .aload_n 0, 1, .null, 0, 0, 0, [], []), (80, .iload_n 3, 1, .null, 0, 0, 0, [], []), (81, .iload_n 1, 1, .null, 0, 0, 0, [], []), (82, .iload_n 2, 1, .null, 0, 0, 0, [], []), (83, .aload_n 0, 1, .null, 0, 0, 0, [], []), (84, .iload_n 3, 1, .null, 0, 0, 0, [], []), (85, .iload_n 1, 1, .null, 0, 0, 0, [], []), (86, .iload_n 2, 1, .null, 0, 0, 0, [], []), (87, .iload 7, 2, .null, 0, 0, 0, [], []), (89, .invokevirtual 59, 3, .null, 66, 4, 7, [], []), (92, .iload 5, 2, .null, 0, 0, 0, [], [])]
def zc65_5 : List zN := [(94, .invokevirtual 63, 3, .null, 68, 5, 7, [], []), (97, .iastore, 1, .null, 0, 0, 0, [], []), (98, .aload_n 0, 1, .null, 0, 0, 0, [], []), (99, .getfield 15, 3, .null, 7, 3, 2, [], []), (102, .iload 4, 2, .null, 0, 0, 0, [], []), (104, .iload 6, 2, .null, 0, 0, 0, [], []), (106, .iadd, 1, .null, 0, 0, 0, [], []), (107, .aload_n 0, 1, .null, 0, 0, 0, [], []), (108, .iload_n 3, 1, .null, 0, 0, 0, [], []), (109, .iload_n 1, 1, .null, 0, 0, 0, [], []), (110, .iload_n 2, 1, .null, 0, 0, 0, [], []), (111, .iload 7, 2, .null, 0, 0, 0, [], [])]
def zc65_6 : List zN := [(113, .iload 5, 2, .null, 0, 0, 0, [], []), (115, .invokevirtual 67, 3, .null, 67, 5, 7, [], []), (118, .iastore, 1, .null, 0, 0, 0, [], []), (119, .iinc 6 1, 3, .int 1, 6, 0, 0, [], []), (122, .goto (-82), 3, .null, 40, 0, 0, [], []), (125, .iinc 3 1, 3, .int 1, 3, 0, 0, [], []), (128, .goto (-126), 3, .null, 2, 0, 0, [], []), (131, .return_, 1, .null, 0, 0, 0, [], [])]
def zc65 : List (Nat × List zN) := [(17, zc65_0), (34, zc65_1), (55, zc65_2), (76, zc65_3), (92, zc65_4), (111, zc65_5), (131, zc65_6)]
/-- SugarBelow$Walks.takenFor(IIII)I -/
def zc66_0 : List zN := [(0, .aload_n 0, 1, .null, 0, 0, 0, [], []), (1, .getfield 31, 3, .null, 7, 1, 2, [], []), (4, .getfield 70, 3, .null, 3, 7, 2, [], []), (7, .iload_n 1, 1, .null, 0, 0, 0, [], []), (8, .iconst 4, 1, .int 4, 0, 0, 0, [], []), (9, .imul, 1, .null, 0, 0, 0, [], []), (10, .iload_n 3, 1, .null, 0, 0, 0, [], []), (11, .iadd, 1, .null, 0, 0, 0, [], []), (12, .iaload, 1, .null, 0, 0, 0, [], []), (13, .istore 5, 2, .null, 0, 0, 0, [], []), (15, .iload 5, 2, .null, 0, 0, 0, [], []), (17, .bipush (-6), 2, .int (-6), 0, 0, 0, [], [])]
def zc66_1 : List zN := [(19, .if_icmp .eq 20, 3, .null, 39, 0, 0, [], []), (22, .aload_n 0, 1, .null, 0, 0, 0, [], []), (23, .getfield 27, 3, .null, 7, 0, 2, [], []), (26, .getfield 73, 3, .null, 1, 6, 2, [], []), (29, .iload_n 2, 1, .null, 0, 0, 0, [], []), (30, .iaload, 1, .null, 0, 0, 0, [], []), (31, .iload_n 3, 1, .null, 0, 0, 0, [], []), (32, .ishr, 1, .null, 0, 0, 0, [], []), (33, .iconst 1, 1, .int 1, 0, 0, 0, [], []), (34, .iand, 1, .null, 0, 0, 0, [], []), (35, .iconst 1, 1, .int 1, 0, 0, 0, [], []), (36, .if_icmp .ne 7, 3, .null, 43, 0, 0, [], [])]
def zc66_2 : List zN := [(39, .iconst 1, 1, .int 1, 0, 0, 0, [4, 5], []), (40, .goto 4, 3, .null, 44, 0, 0, [], []), (43, .iconst 0, 1, .int 0, 0, 0, 0, [], []), (44, .istore 6, 2, .null, 0, 0, 0, [4, 5], []), (46, .iload 6, 2, .null, 0, 0, 0, [], []), (48, .ifCond .eq 8, 3, .null, 56, 0, 0, [], []), (51, .iload 4, 2, .null, 0, 0, 0, [], []), (53, .goto 5, 3, .null, 58, 0, 0, [], []), (56, .iload 5, 2, .null, 0, 0, 0, [], []), (58, .ireturn, 1, .null, 0, 0, 0, [99], [])]
def zc66 : List (Nat × List zN) := [(17, zc66_0), (36, zc66_1), (58, zc66_2)]
/-- SugarBelow$Walks.wantedAt(IIIII)I -/
def zc67_0 : List zN := [(0, .iload_n 1, 1, .null, 0, 0, 0, [], []), (1, .iconst 4, 1, .int 4, 0, 0, 0, [], []), (2, .imul, 1, .null, 0, 0, 0, [], []), (3, .iload_n 3, 1, .null, 0, 0, 0, [], []), (4, .iadd, 1, .null, 0, 0, 0, [], []), (5, .istore 6, 2, .null, 0, 0, 0, [], []), (7, .aload_n 0, 1, .null, 0, 0, 0, [], []), (8, .getfield 31, 3, .null, 7, 1, 2, [], []), (11, .getfield 76, 3, .null, 3, 5, 2, [], []), (14, .iload 6, 2, .null, 0, 0, 0, [], []), (16, .iaload, 1, .null, 0, 0, 0, [], []), (17, .ifCond .eq 18, 3, .null, 35, 0, 0, [], [])]
def zc67_1 : List zN := [(20, .aload_n 0, 1, .null, 0, 0, 0, [], []), (21, .getfield 31, 3, .null, 7, 1, 2, [], []), (24, .getfield 79, 3, .null, 3, 6, 2, [], []), (27, .iload 6, 2, .null, 0, 0, 0, [], []), (29, .iaload, 1, .null, 0, 0, 0, [], []), (30, .iload 4, 2, .null, 0, 0, 0, [], []), (32, .if_icmp .ge 5, 3, .null, 37, 0, 0, [], []), (35, .iconst 0, 1, .int 0, 0, 0, 0, [99], []), (36, .ireturn, 1, .null, 0, 0, 0, [], []), (37, .iload 5, 2, .null, 0, 0, 0, [], []), (39, .iconst 2, 1, .int 2, 0, 0, 0, [], []), (40, .if_icmp .ne 23, 3, .null, 63, 0, 0, [], [])]
def zc67_2 : List zN := [(43, .iload 4, 2, .null, 0, 0, 0, [], []), (45, .aload_n 0, 1, .null, 0, 0, 0, [], []), (46, .getfield 27, 3, .null, 7, 0, 2, [], []), (49, .getfield 82, 3, .null, 1, 3, 2, [], []), (52, .iload_n 2, 1, .null, 0, 0, 0, [], []), (53, .iconst 4, 1, .int 4, 0, 0, 0, [], []), (54, .imul, 1, .null, 0, 0, 0, [], []), (55, .iload_n 3, 1, .null, 0, 0, 0, [], []), (56, .iadd, 1, .null, 0, 0, 0, [], []), (57, .iaload, 1, .null, 0, 0, 0, [], []), (58, .if_icmp .lt 5, 3, .null, 63, 0, 0, [], []), (61, .iconst 0, 1, .int 0, 0, 0, 0, [], [])]
def zc67_3 : List zN := [(62, .ireturn, 1, .null, 0, 0, 0, [], []), (63, .aload_n 0, 1, .null, 0, 0, 0, [0, 2, 3, 6], []), (64, .getfield 27, 3, .null, 7, 0, 2, [], []), (67, .getfield 85, 3, .null, 1, 4, 2, [], []), (70, .iload_n 2, 1, .null, 0, 0, 0, [], []), (71, .iconst 4, 1, .int 4, 0, 0, 0, [], []), (72, .imul, 1, .null, 0, 0, 0, [], []), (73, .iload_n 3, 1, .null, 0, 0, 0, [], []), (74, .iadd, 1, .null, 0, 0, 0, [], []), (75, .iaload, 1, .null, 0, 0, 0, [], []), (76, .istore 7, 2, .null, 0, 0, 0, [], []), (78, .aload_n 0, 1, .null, 0, 0, 0, [], [])]
def zc67_4 : List zN := [(79, .getfield 31, 3, .null, 7, 1, 2, [], []), (82, .getfield 76, 3, .null, 3, 5, 2, [], []), (85, .iload 6, 2, .null, 0, 0, 0, [], []), (87, .iaload, 1, .null, 0, 0, 0, [], []), (88, .iload 7, 2, .null, 0, 0, 0, [], []), (90, .if_icmp .ge 16, 3, .null, 106, 0, 0, [], []), (93, .aload_n 0, 1, .null, 0, 0, 0, [], []), (94, .getfield 31, 3, .null, 7, 1, 2, [], []), (97, .getfield 76, 3, .null, 3, 5, 2, [], []), (100, .iload 6, 2, .null, 0, 0, 0, [], []), (102, .iaload, 1, .null, 0, 0, 0, [], []), (103, .goto 5, 3, .null, 108, 0, 0, [], [])]
def zc67_5 : List zN := [(106, .iload 7, 2, .null, 0, 0, 0, [], []), (108, .ireturn, 1, .null, 0, 0, 0, [99], [])]
def zc67 : List (Nat × List zN) := [(17, zc67_0), (40, zc67_1), (61, zc67_2), (78, zc67_3), (103, zc67_4), (108, zc67_5)]
/-- SugarBelow$Walks.gainAt(IIIII)I -/
def zc68_0 : List zN := [(0, .aload_n 0, 1, .null, 0, 0, 0, [], []), (1, .iload_n 1, 1, .null, 0, 0, 0, [], []), (2, .iload_n 2, 1, .null, 0, 0, 0, [], []), (3, .iload_n 3, 1, .null, 0, 0, 0, [], []), (4, .iload 4, 2, .null, 0, 0, 0, [], []), (6, .iload 5, 2, .null, 0, 0, 0, [], []), (8, .invokevirtual 67, 3, .null, 67, 5, 7, [], []), (11, .istore 6, 2, .null, 0, 0, 0, [], []), (13, .iload 6, 2, .null, 0, 0, 0, [], []), (15, .ifCond .ne 7, 3, .null, 22, 0, 0, [], []), (18, .iconst 0, 1, .int 0, 0, 0, 0, [], []), (19, .goto 22, 3, .null, 41, 0, 0, [], [])]
def zc68_1 : List zN := [(22, .iload 6, 2, .null, 0, 0, 0, [], []), (24, .aload_n 0, 1, .null, 0, 0, 0, [], []), (25, .getfield 31, 3, .null, 7, 1, 2, [], []), (28, .getfield 79, 3, .null, 3, 6, 2, [], []), (31, .iload_n 1, 1, .null, 0, 0, 0, [], []), (32, .iconst 4, 1, .int 4, 0, 0, 0, [], []), (33, .imul, 1, .null, 0, 0, 0, [], []), (34, .iload_n 3, 1, .null, 0, 0, 0, [], []), (35, .iadd, 1, .null, 0, 0, 0, [], []), (36, .iaload, 1, .null, 0, 0, 0, [], []), (37, .iload 4, 2, .null, 0, 0, 0, [], []), (39, .isub, 1, .null, 0, 0, 0, [], [])]
def zc68_2 : List zN := [(40, .imul, 1, .null, 0, 0, 0, [], []), (41, .ireturn, 1, .null, 0, 0, 0, [99], [])]
def zc68 : List (Nat × List zN) := [(19, zc68_0), (39, zc68_1), (41, zc68_2)]
/-- SugarBelow$Walks.thoughtOf(II)I -/
def zc69_0 : List zN := [(0, .aload_n 0, 1, .null, 0, 0, 0, [], []), (1, .getfield 31, 3, .null, 7, 1, 2, [], []), (4, .getfield 88, 3, .null, 3, 2, 2, [], []), (7, .iload_n 1, 1, .null, 0, 0, 0, [], []), (8, .iconst 2, 1, .int 2, 0, 0, 0, [], []), (9, .imul, 1, .null, 0, 0, 0, [], []), (10, .iload_n 2, 1, .null, 0, 0, 0, [], []), (11, .iadd, 1, .null, 0, 0, 0, [], []), (12, .iaload, 1, .null, 0, 0, 0, [], []), (13, .ineg, 1, .null, 0, 0, 0, [], []), (14, .istore_n 3, 1, .null, 0, 0, 0, [], []), (15, .iconst 0, 1, .int 0, 0, 0, 0, [], [])]
def zc69_1 : List zN := [(16, .istore 4, 2, .null, 0, 0, 0, [], []), (18, .iload 4, 2, .null, 0, 0, 0, [0, 1, 2, 3, 4], []), (20, .aload_n 0, 1, .null, 0, 0, 0, [], []), (21, .getfield 27, 3, .null, 7, 0, 2, [], []), (24, .getfield 35, 3, .null, 1, 0, 0, [], []), (27, .if_icmp .ge 25, 3, .null, 52, 0, 0, [], []), (30, .iload_n 3, 1, .null, 0, 0, 0, [], []), (31, .aload_n 0, 1, .null, 0, 0, 0, [], []), (32, .getfield 9, 3, .null, 7, 2, 2, [], []), (35, .aload_n 0, 1, .null, 0, 0, 0, [], []), (36, .iload_n 1, 1, .null, 0, 0, 0, [], []), (37, .iload_n 2, 1, .null, 0, 0, 0, [], [])]
def zc69_2 : List zN := [(38, .iload 4, 2, .null, 0, 0, 0, [], []), (40, .invokevirtual 91, 3, .null, 72, 3, 7, [], []), (43, .iaload, 1, .null, 0, 0, 0, [], []), (44, .iadd, 1, .null, 0, 0, 0, [], []), (45, .istore_n 3, 1, .null, 0, 0, 0, [], []), (46, .iinc 4 1, 3, .int 1, 4, 0, 0, [], []), (49, .goto (-31), 3, .null, 18, 0, 0, [], []), (52, .iload_n 3, 1, .null, 0, 0, 0, [], []), (53, .ireturn, 1, .null, 0, 0, 0, [], [])]
def zc69 : List (Nat × List zN) := [(15, zc69_0), (37, zc69_1), (53, zc69_2)]
/-- SugarBelow$Walks.thoughtOfBoth(I)I -/
def zc70_0 : List zN := [(0, .aload_n 0, 1, .null, 0, 0, 0, [], []), (1, .getfield 31, 3, .null, 7, 1, 2, [], []), (4, .getfield 88, 3, .null, 3, 2, 2, [], []), (7, .iload_n 1, 1, .null, 0, 0, 0, [], []), (8, .iconst 2, 1, .int 2, 0, 0, 0, [], []), (9, .imul, 1, .null, 0, 0, 0, [], []), (10, .iaload, 1, .null, 0, 0, 0, [], []), (11, .ineg, 1, .null, 0, 0, 0, [], []), (12, .aload_n 0, 1, .null, 0, 0, 0, [], []), (13, .getfield 31, 3, .null, 7, 1, 2, [], []), (16, .getfield 88, 3, .null, 3, 2, 2, [], []), (19, .iload_n 1, 1, .null, 0, 0, 0, [], [])]
def zc70_1 : List zN := [(20, .iconst 2, 1, .int 2, 0, 0, 0, [], []), (21, .imul, 1, .null, 0, 0, 0, [], []), (22, .iconst 1, 1, .int 1, 0, 0, 0, [], []), (23, .iadd, 1, .null, 0, 0, 0, [], []), (24, .iaload, 1, .null, 0, 0, 0, [], []), (25, .isub, 1, .null, 0, 0, 0, [], []), (26, .istore_n 2, 1, .null, 0, 0, 0, [], []), (27, .iconst 0, 1, .int 0, 0, 0, 0, [], []), (28, .istore_n 3, 1, .null, 0, 0, 0, [], []), (29, .iload_n 3, 1, .null, 0, 0, 0, [0, 1, 2, 3], []), (30, .aload_n 0, 1, .null, 0, 0, 0, [], []), (31, .getfield 27, 3, .null, 7, 0, 2, [], [])]
def zc70_2 : List zN := [(34, .getfield 35, 3, .null, 1, 0, 0, [], []), (37, .if_icmp .ge 29, 3, .null, 66, 0, 0, [], []), (40, .iload_n 2, 1, .null, 0, 0, 0, [], []), (41, .aload_n 0, 1, .null, 0, 0, 0, [], []), (42, .iload_n 1, 1, .null, 0, 0, 0, [], []), (43, .iconst 0, 1, .int 0, 0, 0, 0, [], []), (44, .iload_n 3, 1, .null, 0, 0, 0, [], []), (45, .invokevirtual 95, 3, .null, 71, 3, 7, [], []), (48, .aload_n 0, 1, .null, 0, 0, 0, [], []), (49, .iload_n 1, 1, .null, 0, 0, 0, [], []), (50, .iconst 1, 1, .int 1, 0, 0, 0, [], []), (51, .iload_n 3, 1, .null, 0, 0, 0, [], [])]
def zc70_3 : List zN := [(52, .invokevirtual 95, 3, .null, 71, 3, 7, [], []), (55, .invokestatic 98, 3, .null, 0, 2, 2, [], []), (58, .iadd, 1, .null, 0, 0, 0, [], []), (59, .istore_n 2, 1, .null, 0, 0, 0, [], []), (60, .iinc 3 1, 3, .int 1, 3, 0, 0, [], []), (63, .goto (-34), 3, .null, 29, 0, 0, [], []), (66, .iload_n 2, 1, .null, 0, 0, 0, [], []), (67, .ireturn, 1, .null, 0, 0, 0, [], [])]
def zc70 : List (Nat × List zN) := [(19, zc70_0), (31, zc70_1), (51, zc70_2), (67, zc70_3)]
/-- SugarBelow$Walks.freeGain(III)I -/
def zc71_0 : List zN := [(0, .aload_n 0, 1, .null, 0, 0, 0, [], []), (1, .iload_n 1, 1, .null, 0, 0, 0, [], []), (2, .iload_n 2, 1, .null, 0, 0, 0, [], []), (3, .iload_n 3, 1, .null, 0, 0, 0, [], []), (4, .aload_n 0, 1, .null, 0, 0, 0, [], []), (5, .getfield 27, 3, .null, 7, 0, 2, [], []), (8, .iload_n 2, 1, .null, 0, 0, 0, [], []), (9, .iload_n 3, 1, .null, 0, 0, 0, [], []), (10, .invokevirtual 104, 3, .null, 17, 2, 1, [], []), (13, .invokevirtual 59, 3, .null, 66, 4, 7, [], []), (16, .istore 4, 2, .null, 0, 0, 0, [], []), (18, .aload_n 0, 1, .null, 0, 0, 0, [], [])]
def zc71_1 : List zN := [(19, .iload_n 1, 1, .null, 0, 0, 0, [], []), (20, .iload_n 2, 1, .null, 0, 0, 0, [], []), (21, .iload_n 3, 1, .null, 0, 0, 0, [], []), (22, .iload 4, 2, .null, 0, 0, 0, [], []), (24, .iconst 1, 1, .int 1, 0, 0, 0, [], []), (25, .invokevirtual 63, 3, .null, 68, 5, 7, [], []), (28, .ireturn, 1, .null, 0, 0, 0, [], [])]
def zc71 : List (Nat × List zN) := [(18, zc71_0), (28, zc71_1)]
/-- SugarBelow$Walks.cell(III)I -/
def zc72_0 : List zN := [(0, .iload_n 2, 1, .null, 0, 0, 0, [], []), (1, .iconst 4, 1, .int 4, 0, 0, 0, [], []), (2, .imul, 1, .null, 0, 0, 0, [], []), (3, .iload_n 3, 1, .null, 0, 0, 0, [], []), (4, .iadd, 1, .null, 0, 0, 0, [], []), (5, .istore 4, 2, .null, 0, 0, 0, [], []), (7, .iload_n 1, 1, .null, 0, 0, 0, [], []), (8, .iconst 2, 1, .int 2, 0, 0, 0, [], []), (9, .imul, 1, .null, 0, 0, 0, [], []), (10, .iconst 4, 1, .int 4, 0, 0, 0, [], []), (11, .imul, 1, .null, 0, 0, 0, [], []), (12, .iload 4, 2, .null, 0, 0, 0, [], [])]
def zc72_1 : List zN := [(14, .iadd, 1, .null, 0, 0, 0, [], []), (15, .iconst 3, 1, .int 3, 0, 0, 0, [], []), (16, .imul, 1, .null, 0, 0, 0, [], []), (17, .aload_n 0, 1, .null, 0, 0, 0, [], []), (18, .getfield 27, 3, .null, 7, 0, 2, [], []), (21, .getfield 107, 3, .null, 1, 5, 2, [], []), (24, .iload 4, 2, .null, 0, 0, 0, [], []), (26, .iaload, 1, .null, 0, 0, 0, [], []), (27, .iadd, 1, .null, 0, 0, 0, [], []), (28, .ireturn, 1, .null, 0, 0, 0, [], [])]
def zc72 : List (Nat × List zN) := [(12, zc72_0), (28, zc72_1)]
/-- SugarBelow$Walks.placeOf(I)I -/
def zc73_0 : List zN := [(0, .aload_n 0, 1, .null, 0, 0, 0, [], []), (1, .getfield 31, 3, .null, 7, 1, 2, [], []), (4, .getfield 88, 3, .null, 3, 2, 2, [], []), (7, .iload_n 1, 1, .null, 0, 0, 0, [], []), (8, .iconst 2, 1, .int 2, 0, 0, 0, [], []), (9, .imul, 1, .null, 0, 0, 0, [], []), (10, .iaload, 1, .null, 0, 0, 0, [], []), (11, .ineg, 1, .null, 0, 0, 0, [], []), (12, .istore_n 2, 1, .null, 0, 0, 0, [], []), (13, .aload_n 0, 1, .null, 0, 0, 0, [], []), (14, .getfield 31, 3, .null, 7, 1, 2, [], []), (17, .getfield 88, 3, .null, 3, 2, 2, [], [])]
def zc73_1 : List zN := [(20, .iload_n 1, 1, .null, 0, 0, 0, [], []), (21, .iconst 2, 1, .int 2, 0, 0, 0, [], []), (22, .imul, 1, .null, 0, 0, 0, [], []), (23, .iconst 1, 1, .int 1, 0, 0, 0, [], []), (24, .iadd, 1, .null, 0, 0, 0, [], []), (25, .iaload, 1, .null, 0, 0, 0, [], []), (26, .ineg, 1, .null, 0, 0, 0, [], []), (27, .istore_n 3, 1, .null, 0, 0, 0, [], []), (28, .iload_n 2, 1, .null, 0, 0, 0, [], []), (29, .iload_n 3, 1, .null, 0, 0, 0, [], []), (30, .iadd, 1, .null, 0, 0, 0, [], []), (31, .istore 4, 2, .null, 0, 0, 0, [], [])]
def zc73_2 : List zN := [(33, .iload_n 1, 1, .null, 0, 0, 0, [], []), (34, .iconst 2, 1, .int 2, 0, 0, 0, [], []), (35, .imul, 1, .null, 0, 0, 0, [], []), (36, .iconst 4, 1, .int 4, 0, 0, 0, [], []), (37, .imul, 1, .null, 0, 0, 0, [], []), (38, .istore 5, 2, .null, 0, 0, 0, [], []), (40, .iconst 0, 1, .int 0, 0, 0, 0, [], []), (41, .istore 6, 2, .null, 0, 0, 0, [], []), (43, .iload 6, 2, .null, 0, 0, 0, [0, 1, 2, 3, 4, 5, 6], []), (45, .aload_n 0, 1, .null, 0, 0, 0, [], []), (46, .getfield 27, 3, .null, 7, 0, 2, [], []), (49, .getfield 35, 3, .null, 1, 0, 0, [], [])]
def zc73_3 : List zN := [(52, .if_icmp .ge 115, 3, .null, 167, 0, 0, [], []), (55, .aload_n 0, 1, .null, 0, 0, 0, [], []), (56, .getfield 9, 3, .null, 7, 2, 2, [], []), (59, .iload 5, 2, .null, 0, 0, 0, [], []), (61, .iload 6, 2, .null, 0, 0, 0, [], []), (63, .iadd, 1, .null, 0, 0, 0, [], []), (64, .iconst 3, 1, .int 3, 0, 0, 0, [], []), (65, .imul, 1, .null, 0, 0, 0, [], []), (66, .aload_n 0, 1, .null, 0, 0, 0, [], []), (67, .getfield 27, 3, .null, 7, 0, 2, [], []), (70, .getfield 107, 3, .null, 1, 5, 2, [], []), (73, .iload 6, 2, .null, 0, 0, 0, [], [])]
def zc73_4 : List zN := [(75, .iaload, 1, .null, 0, 0, 0, [], []), (76, .iadd, 1, .null, 0, 0, 0, [], []), (77, .iaload, 1, .null, 0, 0, 0, [], []), (78, .istore 7, 2, .null, 0, 0, 0, [], []), (80, .aload_n 0, 1, .null, 0, 0, 0, [], []), (81, .getfield 9, 3, .null, 7, 2, 2, [], []), (84, .iload 5, 2, .null, 0, 0, 0, [], []), (86, .iconst 4, 1, .int 4, 0, 0, 0, [], []), (87, .iadd, 1, .null, 0, 0, 0, [], []), (88, .iload 6, 2, .null, 0, 0, 0, [], []), (90, .iadd, 1, .null, 0, 0, 0, [], []), (91, .iconst 3, 1, .int 3, 0, 0, 0, [], [])]
def zc73_5 : List zN := [(92, .imul, 1, .null, 0, 0, 0, [], []), (93, .aload_n 0, 1, .null, 0, 0, 0, [], []), (94, .getfield 27, 3, .null, 7, 0, 2, [], []), (97, .getfield 107, 3, .null, 1, 5, 2, [], []), (100, .iconst 4, 1, .int 4, 0, 0, 0, [], []), (101, .iload 6, 2, .null, 0, 0, 0, [], []), (103, .iadd, 1, .null, 0, 0, 0, [], []), (104, .iaload, 1, .null, 0, 0, 0, [], []), (105, .iadd, 1, .null, 0, 0, 0, [], []), (106, .iaload, 1, .null, 0, 0, 0, [], []), (107, .istore 8, 2, .null, 0, 0, 0, [], []), (109, .aload_n 0, 1, .null, 0, 0, 0, [], [])]
def zc73_6 : List zN := [(110, .getfield 18, 3, .null, 7, 4, 2, [], []), (113, .iload 6, 2, .null, 0, 0, 0, [], []), (115, .iload 8, 2, .null, 0, 0, 0, [], []), (117, .iload 7, 2, .null, 0, 0, 0, [], []), (119, .if_icmp .le 7, 3, .null, 126, 0, 0, [], []), (122, .iconst 1, 1, .int 1, 0, 0, 0, [], []), (123, .goto 4, 3, .null, 127, 0, 0, [], []), (126, .iconst 0, 1, .int 0, 0, 0, 0, [], []), (127, .iastore, 1, .null, 0, 0, 0, [0, 1, 2, 3, 4, 5, 6, 7, 8], []), (128, .iload_n 2, 1, .null, 0, 0, 0, [], []), (129, .iload 7, 2, .null, 0, 0, 0, [], []), (131, .iadd, 1, .null, 0, 0, 0, [], [])]
def zc73_7 : List zN := [(132, .istore_n 2, 1, .null, 0, 0, 0, [], []), (133, .iload_n 3, 1, .null, 0, 0, 0, [], []), (134, .iload 8, 2, .null, 0, 0, 0, [], []), (136, .iadd, 1, .null, 0, 0, 0, [], []), (137, .istore_n 3, 1, .null, 0, 0, 0, [], []), (138, .iload 4, 2, .null, 0, 0, 0, [], []), (140, .aload_n 0, 1, .null, 0, 0, 0, [], []), (141, .getfield 18, 3, .null, 7, 4, 2, [], []), (144, .iload 6, 2, .null, 0, 0, 0, [], []), (146, .iaload, 1, .null, 0, 0, 0, [], []), (147, .iconst 1, 1, .int 1, 0, 0, 0, [], []), (148, .if_icmp .ne 8, 3, .null, 156, 0, 0, [], [])]
def zc73_8 : List zN := [(151, .iload 8, 2, .null, 0, 0, 0, [], []), (153, .goto 5, 3, .null, 158, 0, 0, [], []), (156, .iload 7, 2, .null, 0, 0, 0, [], []), (158, .iadd, 1, .null, 0, 0, 0, [0, 1, 2, 3, 5, 6], []), (159, .istore 4, 2, .null, 0, 0, 0, [], []), (161, .iinc 6 1, 3, .int 1, 6, 0, 0, [], []), (164, .goto (-121), 3, .null, 43, 0, 0, [], []), (167, .iload_n 2, 1, .null, 0, 0, 0, [], []), (168, .ifCond .le 7, 3, .null, 175, 0, 0, [], []), (171, .iconst 1, 1, .int 1, 0, 0, 0, [], []), (172, .goto 4, 3, .null, 176, 0, 0, [], []), (175, .iconst 0, 1, .int 0, 0, 0, 0, [], [])]
def zc73_9 : List zN := [(176, .istore 6, 2, .null, 0, 0, 0, [0, 1, 2, 3, 4], []), (178, .iload_n 2, 1, .null, 0, 0, 0, [], []), (179, .ifCond .le 7, 3, .null, 186, 0, 0, [], []), (182, .iload_n 2, 1, .null, 0, 0, 0, [], []), (183, .goto 4, 3, .null, 187, 0, 0, [], []), (186, .iconst 0, 1, .int 0, 0, 0, 0, [], []), (187, .istore 7, 2, .null, 0, 0, 0, [0, 1, 3, 4, 6], []), (189, .iload_n 3, 1, .null, 0, 0, 0, [], []), (190, .iload 7, 2, .null, 0, 0, 0, [], []), (192, .if_icmp .le 9, 3, .null, 201, 0, 0, [], []), (195, .iconst 2, 1, .int 2, 0, 0, 0, [], []), (196, .istore 6, 2, .null, 0, 0, 0, [], [])]
def zc73_10 : List zN := [(198, .iload_n 3, 1, .null, 0, 0, 0, [], []), (199, .istore 7, 2, .null, 0, 0, 0, [], []), (201, .aload_n 0, 1, .null, 0, 0, 0, [0, 1, 4, 6, 7], []), (202, .getfield 31, 3, .null, 7, 1, 2, [], []), (205, .getfield 50, 3, .null, 3, 3, 2, [], []), (208, .iload_n 1, 1, .null, 0, 0, 0, [], []), (209, .iaload, 1, .null, 0, 0, 0, [], []), (210, .iconst 1, 1, .int 1, 0, 0, 0, [], []), (211, .if_icmp .ne 14, 3, .null, 225, 0, 0, [], []), (214, .iload 4, 2, .null, 0, 0, 0, [], []), (216, .iload 7, 2, .null, 0, 0, 0, [], []), (218, .if_icmp .le 7, 3, .null, 225, 0, 0, [], [])]
def zc73_11 : List zN := [(221, .iconst 3, 1, .int 3, 0, 0, 0, [], []), (222, .goto 5, 3, .null, 227, 0, 0, [], []), (225, .iload 6, 2, .null, 0, 0, 0, [6], []), (227, .ireturn, 1, .null, 0, 0, 0, [99], [])]
def zc73 : List (Nat × List zN) := [(17, zc73_0), (31, zc73_1), (49, zc73_2), (73, zc73_3), (91, zc73_4), (109, zc73_5), (131, zc73_6), (148, zc73_7), (175, zc73_8), (196, zc73_9), (218, zc73_10), (227, zc73_11)]
/-- SugarBelow$Walks.visits(II)Z -/
def zc74_0 : List zN := [(0, .iload_n 0, 1, .null, 0, 0, 0, [], []), (1, .iload_n 1, 1, .null, 0, 0, 0, [], []), (2, .ishr, 1, .null, 0, 0, 0, [], []), (3, .iconst 1, 1, .int 1, 0, 0, 0, [], []), (4, .iand, 1, .null, 0, 0, 0, [], []), (5, .iconst 1, 1, .int 1, 0, 0, 0, [], []), (6, .if_icmp .ne 7, 3, .null, 13, 0, 0, [], []), (9, .iconst 1, 1, .int 1, 0, 0, 0, [], []), (10, .goto 4, 3, .null, 14, 0, 0, [], []), (13, .iconst 0, 1, .int 0, 0, 0, 0, [], []), (14, .ireturn, 1, .null, 0, 0, 1, [99], [])]
def zc74 : List (Nat × List zN) := [(14, zc74_0)]
/-- SugarBelow$Walks.send(I)I -/
def zc75_0 : List zN := [(0, .aload_n 0, 1, .null, 0, 0, 0, [], []), (1, .iload_n 1, 1, .null, 0, 0, 0, [], []), (2, .invokevirtual 110, 3, .null, 73, 1, 7, [], []), (5, .istore_n 2, 1, .null, 0, 0, 0, [], []), (6, .iconst 0, 1, .int 0, 0, 0, 0, [], []), (7, .istore_n 3, 1, .null, 0, 0, 0, [], []), (8, .iload_n 3, 1, .null, 0, 0, 0, [0, 1, 2, 3], []), (9, .iconst 2, 1, .int 2, 0, 0, 0, [], []), (10, .if_icmp .ge 98, 3, .null, 108, 0, 0, [], []), (13, .iload_n 2, 1, .null, 0, 0, 0, [], []), (14, .iload_n 3, 1, .null, 0, 0, 0, [], []), (15, .invokestatic 114, 3, .null, 74, 2, 0, [], [])]
def zc75_1 : List zN := [(18, .istore 4, 2, .null, 0, 0, 0, [], []), (20, .iconst 0, 1, .int 0, 0, 0, 0, [], []), (21, .istore 5, 2, .null, 0, 0, 0, [], []), (23, .iload 5, 2, .null, 0, 0, 0, [0, 1, 2, 3, 4, 5], []), (25, .aload_n 0, 1, .null, 0, 0, 0, [], []), (26, .getfield 27, 3, .null, 7, 0, 2, [], []), (29, .getfield 35, 3, .null, 1, 0, 0, [], []), (32, .if_icmp .ge 70, 3, .null, 102, 0, 0, [], []), (35, .iload 4, 2, .null, 0, 0, 0, [], []), (37, .ifCond .eq 23, 3, .null, 60, 0, 0, [], []), (40, .iload_n 2, 1, .null, 0, 0, 0, [], []), (41, .iconst 3, 1, .int 3, 0, 0, 0, [], [])]
def zc75_2 : List zN := [(42, .if_icmp .ne 14, 3, .null, 56, 0, 0, [], []), (45, .aload_n 0, 1, .null, 0, 0, 0, [], []), (46, .getfield 18, 3, .null, 7, 4, 2, [], []), (49, .iload 5, 2, .null, 0, 0, 0, [], []), (51, .iaload, 1, .null, 0, 0, 0, [], []), (52, .iload_n 3, 1, .null, 0, 0, 0, [], []), (53, .if_icmp .ne 7, 3, .null, 60, 0, 0, [], []), (56, .iconst 1, 1, .int 1, 0, 0, 0, [0, 1, 2, 3, 4, 5], []), (57, .goto 4, 3, .null, 61, 0, 0, [], []), (60, .iconst 0, 1, .int 0, 0, 0, 0, [0, 1, 2, 3, 4, 5], []), (61, .istore 6, 2, .null, 0, 0, 0, [0, 1, 2, 3, 4, 5], []), (63, .aload_n 0, 1, .null, 0, 0, 0, [], [])]
def zc75_3 : List zN := [(64, .getfield 21, 3, .null, 7, 5, 2, [], []), (67, .iload_n 3, 1, .null, 0, 0, 0, [], []), (68, .iconst 4, 1, .int 4, 0, 0, 0, [], []), (69, .imul, 1, .null, 0, 0, 0, [], []), (70, .iload 5, 2, .null, 0, 0, 0, [], []), (72, .iadd, 1, .null, 0, 0, 0, [], []), (73, .iload 6, 2, .null, 0, 0, 0, [], []), (75, .ifCond .eq 19, 3, .null, 94, 0, 0, [], []), (78, .aload_n 0, 1, .null, 0, 0, 0, [], []), (79, .getfield 15, 3, .null, 7, 3, 2, [], []), (82, .aload_n 0, 1, .null, 0, 0, 0, [], []), (83, .iload_n 1, 1, .null, 0, 0, 0, [], [])]
def zc75_4 : List zN := [(84, .iload_n 3, 1, .null, 0, 0, 0, [], []), (85, .iload 5, 2, .null, 0, 0, 0, [], []), (87, .invokevirtual 91, 3, .null, 72, 3, 7, [], []), (90, .iaload, 1, .null, 0, 0, 0, [], []), (91, .goto 4, 3, .null, 95, 0, 0, [], []), (94, .iconst 0, 1, .int 0, 0, 0, 0, [], []), (95, .iastore, 1, .null, 0, 0, 0, [0, 1, 2, 3, 4, 5], []), (96, .iinc 5 1, 3, .int 1, 5, 0, 0, [], []), (99, .goto (-76), 3, .null, 23, 0, 0, [], []), (102, .iinc 3 1, 3, .int 1, 3, 0, 0, [], []), (105, .goto (-97), 3, .null, 8, 0, 0, [], []), (108, .iload_n 2, 1, .null, 0, 0, 0, [], [])]
def zc75_5 : List zN := [(109, .ireturn, 1, .null, 0, 0, 0, [], [])]
def zc75 : List (Nat × List zN) := [(15, zc75_0), (41, zc75_1), (63, zc75_2), (83, zc75_3), (108, zc75_4), (109, zc75_5)]
/-- SugarBelow$Walks.brought(II)I -/
def zc76_0 : List zN := [(0, .iconst 0, 1, .int 0, 0, 0, 0, [], []), (1, .istore_n 3, 1, .null, 0, 0, 0, [], []), (2, .iconst 0, 1, .int 0, 0, 0, 0, [], []), (3, .istore 4, 2, .null, 0, 0, 0, [], []), (5, .iload 4, 2, .null, 0, 0, 0, [0, 1, 2, 3, 4], []), (7, .aload_n 0, 1, .null, 0, 0, 0, [], []), (8, .getfield 27, 3, .null, 7, 0, 2, [], []), (11, .getfield 35, 3, .null, 1, 0, 0, [], []), (14, .if_icmp .ge 62, 3, .null, 76, 0, 0, [], []), (17, .iload_n 2, 1, .null, 0, 0, 0, [], []), (18, .iconst 4, 1, .int 4, 0, 0, 0, [], []), (19, .imul, 1, .null, 0, 0, 0, [], [])]
def zc76_1 : List zN := [(20, .iload 4, 2, .null, 0, 0, 0, [], []), (22, .iadd, 1, .null, 0, 0, 0, [], []), (23, .istore 5, 2, .null, 0, 0, 0, [], []), (25, .iload_n 3, 1, .null, 0, 0, 0, [], []), (26, .aload_n 0, 1, .null, 0, 0, 0, [], []), (27, .getfield 21, 3, .null, 7, 5, 2, [], []), (30, .iload 5, 2, .null, 0, 0, 0, [], []), (32, .iaload, 1, .null, 0, 0, 0, [], []), (33, .aload_n 0, 1, .null, 0, 0, 0, [], []), (34, .getfield 27, 3, .null, 7, 0, 2, [], []), (37, .getfield 56, 3, .null, 1, 2, 2, [], []), (40, .iload 4, 2, .null, 0, 0, 0, [], [])]
def zc76_2 : List zN := [(42, .iconst 3, 1, .int 3, 0, 0, 0, [], []), (43, .imul, 1, .null, 0, 0, 0, [], []), (44, .aload_n 0, 1, .null, 0, 0, 0, [], []), (45, .getfield 27, 3, .null, 7, 0, 2, [], []), (48, .getfield 107, 3, .null, 1, 5, 2, [], []), (51, .iload 5, 2, .null, 0, 0, 0, [], []), (53, .iaload, 1, .null, 0, 0, 0, [], []), (54, .iadd, 1, .null, 0, 0, 0, [], []), (55, .iaload, 1, .null, 0, 0, 0, [], []), (56, .aload_n 0, 1, .null, 0, 0, 0, [], []), (57, .getfield 27, 3, .null, 7, 0, 2, [], []), (60, .getfield 82, 3, .null, 1, 3, 2, [], [])]
def zc76_3 : List zN := [(63, .iload 5, 2, .null, 0, 0, 0, [], []), (65, .iaload, 1, .null, 0, 0, 0, [], []), (66, .isub, 1, .null, 0, 0, 0, [], []), (67, .imul, 1, .null, 0, 0, 0, [], []), (68, .iadd, 1, .null, 0, 0, 0, [], []), (69, .istore_n 3, 1, .null, 0, 0, 0, [], []), (70, .iinc 4 1, 3, .int 1, 4, 0, 0, [], []), (73, .goto (-68), 3, .null, 5, 0, 0, [], []), (76, .iload_n 3, 1, .null, 0, 0, 0, [], []), (77, .aload_n 0, 1, .null, 0, 0, 0, [], []), (78, .getfield 31, 3, .null, 7, 1, 2, [], []), (81, .getfield 118, 3, .null, 3, 1, 2, [], [])]
def zc76_4 : List zN := [(84, .iload_n 1, 1, .null, 0, 0, 0, [], []), (85, .iaload, 1, .null, 0, 0, 0, [], []), (86, .imul, 1, .null, 0, 0, 0, [], []), (87, .ireturn, 1, .null, 0, 0, 0, [], [])]
def zc76 : List (Nat × List zN) := [(19, zc76_0), (40, zc76_1), (60, zc76_2), (81, zc76_3), (87, zc76_4)]
/-- SugarBelow$Walks.tally()V -/
def zc77_0 : List zN := [(0, .aload_n 0, 1, .null, 0, 0, 0, [], []), (1, .getfield 24, 3, .null, 7, 6, 2, [], []), (4, .iconst 0, 1, .int 0, 0, 0, 0, [], []), (5, .invokestatic 121, 3, .null, 211, 2, 0, [], []), (8, .iconst 0, 1, .int 0, 0, 0, 0, [], []), (9, .istore_n 1, 1, .null, 0, 0, 0, [], []), (10, .iload_n 1, 1, .null, 0, 0, 0, [0, 1], []), (11, .aload_n 0, 1, .null, 0, 0, 0, [], []), (12, .getfield 31, 3, .null, 7, 1, 2, [], []), (15, .getfield 45, 3, .null, 3, 0, 0, [], []), (18, .if_icmp .ge 47, 3, .null, 65, 0, 0, [], []), (21, .aload_n 0, 1, .null, 0, 0, 0, [], [])]
def zc77_1 : List zN := [(22, .iload_n 1, 1, .null, 0, 0, 0, [], []), (23, .invokevirtual 127, 3, .null, 75, 1, 7, [], []), (26, .ifCond .eq 33, 3, .null, 59, 0, 0, [], []), (29, .aload_n 0, 1, .null, 0, 0, 0, [], []), (30, .getfield 24, 3, .null, 7, 6, 2, [], []), (33, .iconst 0, 1, .int 0, 0, 0, 0, [], []), (34, .dup2, 1, .null, 0, 0, 0, [], []), (35, .iaload, 1, .null, 0, 0, 0, [], []), (36, .aload_n 0, 1, .null, 0, 0, 0, [], []), (37, .iload_n 1, 1, .null, 0, 0, 0, [], []), (38, .iconst 0, 1, .int 0, 0, 0, 0, [], []), (39, .invokevirtual 130, 3, .null, 76, 2, 7, [], [])]
def zc77_2 : List zN := [(42, .iadd, 1, .null, 0, 0, 0, [], []), (43, .iastore, 1, .null, 0, 0, 0, [], []), (44, .aload_n 0, 1, .null, 0, 0, 0, [], []), (45, .getfield 24, 3, .null, 7, 6, 2, [], []), (48, .iconst 1, 1, .int 1, 0, 0, 0, [], []), (49, .dup2, 1, .null, 0, 0, 0, [], []), (50, .iaload, 1, .null, 0, 0, 0, [], []), (51, .aload_n 0, 1, .null, 0, 0, 0, [], []), (52, .iload_n 1, 1, .null, 0, 0, 0, [], []), (53, .iconst 1, 1, .int 1, 0, 0, 0, [], []), (54, .invokevirtual 130, 3, .null, 76, 2, 7, [], []), (57, .iadd, 1, .null, 0, 0, 0, [], [])]
def zc77_3 : List zN := [(58, .iastore, 1, .null, 0, 0, 0, [], []), (59, .iinc 1 1, 3, .int 1, 1, 0, 0, [0, 1], []), (62, .goto (-52), 3, .null, 10, 0, 0, [], []), (65, .return_, 1, .null, 0, 0, 0, [], [])]
def zc77 : List (Nat × List zN) := [(21, zc77_0), (39, zc77_1), (57, zc77_2), (65, zc77_3)]
/-- SugarBelow$Walks.leftOf(I)I -/
def zc78_0 : List zN := [(0, .iconst 0, 1, .int 0, 0, 0, 0, [], []), (1, .istore_n 2, 1, .null, 0, 0, 0, [], []), (2, .iconst 0, 1, .int 0, 0, 0, 0, [], []), (3, .istore_n 3, 1, .null, 0, 0, 0, [], []), (4, .iload_n 3, 1, .null, 0, 0, 0, [0, 1, 2, 3], []), (5, .aload_n 0, 1, .null, 0, 0, 0, [], []), (6, .getfield 31, 3, .null, 7, 1, 2, [], []), (9, .getfield 45, 3, .null, 3, 0, 0, [], []), (12, .if_icmp .ge 30, 3, .null, 42, 0, 0, [], []), (15, .aload_n 0, 1, .null, 0, 0, 0, [], []), (16, .iload_n 3, 1, .null, 0, 0, 0, [], []), (17, .invokevirtual 127, 3, .null, 75, 1, 7, [], [])]
def zc78_1 : List zN := [(20, .iload_n 1, 1, .null, 0, 0, 0, [], []), (21, .invokestatic 114, 3, .null, 74, 2, 0, [], []), (24, .ifCond .eq 12, 3, .null, 36, 0, 0, [], []), (27, .iload_n 2, 1, .null, 0, 0, 0, [], []), (28, .aload_n 0, 1, .null, 0, 0, 0, [], []), (29, .iload_n 3, 1, .null, 0, 0, 0, [], []), (30, .iload_n 1, 1, .null, 0, 0, 0, [], []), (31, .invokevirtual 130, 3, .null, 76, 2, 7, [], []), (34, .iadd, 1, .null, 0, 0, 0, [], []), (35, .istore_n 2, 1, .null, 0, 0, 0, [], []), (36, .iinc 3 1, 3, .int 1, 3, 0, 0, [0, 1, 2, 3], []), (39, .goto (-35), 3, .null, 4, 0, 0, [], [])]
def zc78_2 : List zN := [(42, .iload_n 2, 1, .null, 0, 0, 0, [], []), (43, .ireturn, 1, .null, 0, 0, 0, [], [])]
def zc78 : List (Nat × List zN) := [(17, zc78_0), (39, zc78_1), (43, zc78_2)]
/-- SugarBelow$Walks.savedBy(I)I -/
def zc79_0 : List zN := [(0, .aload_n 0, 1, .null, 0, 0, 0, [], []), (1, .iload_n 1, 1, .null, 0, 0, 0, [], []), (2, .invokevirtual 127, 3, .null, 75, 1, 7, [], []), (5, .istore_n 2, 1, .null, 0, 0, 0, [], []), (6, .iconst 0, 1, .int 0, 0, 0, 0, [], []), (7, .istore_n 3, 1, .null, 0, 0, 0, [], []), (8, .iconst 0, 1, .int 0, 0, 0, 0, [], []), (9, .istore 4, 2, .null, 0, 0, 0, [], []), (11, .iload 4, 2, .null, 0, 0, 0, [0, 1, 2, 3, 4], []), (13, .iconst 2, 1, .int 2, 0, 0, 0, [], []), (14, .if_icmp .ge 43, 3, .null, 57, 0, 0, [], []), (17, .iload_n 2, 1, .null, 0, 0, 0, [], [])]
def zc79_1 : List zN := [(18, .iload 4, 2, .null, 0, 0, 0, [], []), (20, .invokestatic 114, 3, .null, 74, 2, 0, [], []), (23, .ifCond .eq 28, 3, .null, 51, 0, 0, [], []), (26, .iload_n 3, 1, .null, 0, 0, 0, [], []), (27, .aload_n 0, 1, .null, 0, 0, 0, [], []), (28, .iload_n 1, 1, .null, 0, 0, 0, [], []), (29, .iload 4, 2, .null, 0, 0, 0, [], []), (31, .invokevirtual 133, 3, .null, 80, 2, 7, [], []), (34, .aload_n 0, 1, .null, 0, 0, 0, [], []), (35, .getfield 31, 3, .null, 7, 1, 2, [], []), (38, .getfield 88, 3, .null, 3, 2, 2, [], []), (41, .iload_n 1, 1, .null, 0, 0, 0, [], [])]
def zc79_2 : List zN := [(42, .iconst 2, 1, .int 2, 0, 0, 0, [], []), (43, .imul, 1, .null, 0, 0, 0, [], []), (44, .iload 4, 2, .null, 0, 0, 0, [], []), (46, .iadd, 1, .null, 0, 0, 0, [], []), (47, .iaload, 1, .null, 0, 0, 0, [], []), (48, .isub, 1, .null, 0, 0, 0, [], []), (49, .iadd, 1, .null, 0, 0, 0, [], []), (50, .istore_n 3, 1, .null, 0, 0, 0, [], []), (51, .iinc 4 1, 3, .int 1, 4, 0, 0, [0, 1, 2, 3, 4], []), (54, .goto (-43), 3, .null, 11, 0, 0, [], []), (57, .iload_n 3, 1, .null, 0, 0, 0, [], []), (58, .ireturn, 1, .null, 0, 0, 0, [], [])]
def zc79 : List (Nat × List zN) := [(17, zc79_0), (41, zc79_1), (58, zc79_2)]
/-- SugarBelow$Walks.gained(II)I -/
def zc80_0 : List zN := [(0, .iconst 0, 1, .int 0, 0, 0, 0, [], []), (1, .istore_n 3, 1, .null, 0, 0, 0, [], []), (2, .iconst 0, 1, .int 0, 0, 0, 0, [], []), (3, .istore 4, 2, .null, 0, 0, 0, [], []), (5, .iload 4, 2, .null, 0, 0, 0, [0, 1, 2, 3, 4], []), (7, .aload_n 0, 1, .null, 0, 0, 0, [], []), (8, .getfield 27, 3, .null, 7, 0, 2, [], []), (11, .getfield 35, 3, .null, 1, 0, 0, [], []), (14, .if_icmp .ge 53, 3, .null, 67, 0, 0, [], []), (17, .aload_n 0, 1, .null, 0, 0, 0, [], []), (18, .getfield 31, 3, .null, 7, 1, 2, [], []), (21, .getfield 79, 3, .null, 3, 6, 2, [], [])]
def zc80_1 : List zN := [(24, .iload_n 1, 1, .null, 0, 0, 0, [], []), (25, .iconst 4, 1, .int 4, 0, 0, 0, [], []), (26, .imul, 1, .null, 0, 0, 0, [], []), (27, .iload 4, 2, .null, 0, 0, 0, [], []), (29, .iadd, 1, .null, 0, 0, 0, [], []), (30, .iaload, 1, .null, 0, 0, 0, [], []), (31, .aload_n 0, 1, .null, 0, 0, 0, [], []), (32, .getfield 27, 3, .null, 7, 0, 2, [], []), (35, .iload_n 2, 1, .null, 0, 0, 0, [], []), (36, .iload 4, 2, .null, 0, 0, 0, [], []), (38, .invokevirtual 104, 3, .null, 17, 2, 1, [], []), (41, .isub, 1, .null, 0, 0, 0, [], [])]
def zc80_2 : List zN := [(42, .istore 5, 2, .null, 0, 0, 0, [], []), (44, .iload_n 3, 1, .null, 0, 0, 0, [], []), (45, .aload_n 0, 1, .null, 0, 0, 0, [], []), (46, .getfield 21, 3, .null, 7, 5, 2, [], []), (49, .iload_n 2, 1, .null, 0, 0, 0, [], []), (50, .iconst 4, 1, .int 4, 0, 0, 0, [], []), (51, .imul, 1, .null, 0, 0, 0, [], []), (52, .iload 4, 2, .null, 0, 0, 0, [], []), (54, .iadd, 1, .null, 0, 0, 0, [], []), (55, .iaload, 1, .null, 0, 0, 0, [], []), (56, .iload 5, 2, .null, 0, 0, 0, [], []), (58, .imul, 1, .null, 0, 0, 0, [], [])]
def zc80_3 : List zN := [(59, .iadd, 1, .null, 0, 0, 0, [], []), (60, .istore_n 3, 1, .null, 0, 0, 0, [], []), (61, .iinc 4 1, 3, .int 1, 4, 0, 0, [], []), (64, .goto (-59), 3, .null, 5, 0, 0, [], []), (67, .iload_n 3, 1, .null, 0, 0, 0, [], []), (68, .ireturn, 1, .null, 0, 0, 0, [], [])]
def zc80 : List (Nat × List zN) := [(21, zc80_0), (41, zc80_1), (58, zc80_2), (68, zc80_3)]
/-- SugarBelow$Walks.buysBelowAlone(II)Z -/
def zc81_0 : List zN := [(0, .aload_n 0, 1, .null, 0, 0, 0, [], []), (1, .iload_n 1, 1, .null, 0, 0, 0, [], []), (2, .invokevirtual 127, 3, .null, 75, 1, 7, [], []), (5, .pop, 1, .null, 0, 0, 0, [], []), (6, .iconst 0, 1, .int 0, 0, 0, 0, [], []), (7, .istore_n 3, 1, .null, 0, 0, 0, [], []), (8, .iconst 0, 1, .int 0, 0, 0, 0, [], []), (9, .istore 4, 2, .null, 0, 0, 0, [], []), (11, .iload 4, 2, .null, 0, 0, 0, [0, 2, 3, 4], []), (13, .aload_n 0, 1, .null, 0, 0, 0, [], []), (14, .getfield 27, 3, .null, 7, 0, 2, [], []), (17, .getfield 35, 3, .null, 1, 0, 0, [], [])]
def zc81_1 : List zN := [(20, .if_icmp .ge 40, 3, .null, 60, 0, 0, [], []), (23, .aload_n 0, 1, .null, 0, 0, 0, [], []), (24, .getfield 21, 3, .null, 7, 5, 2, [], []), (27, .iload_n 2, 1, .null, 0, 0, 0, [], []), (28, .iconst 4, 1, .int 4, 0, 0, 0, [], []), (29, .imul, 1, .null, 0, 0, 0, [], []), (30, .iload 4, 2, .null, 0, 0, 0, [], []), (32, .iadd, 1, .null, 0, 0, 0, [], []), (33, .iaload, 1, .null, 0, 0, 0, [], []), (34, .ifCond .le 20, 3, .null, 54, 0, 0, [], []), (37, .aload_n 0, 1, .null, 0, 0, 0, [], []), (38, .getfield 27, 3, .null, 7, 0, 2, [], [])]
def zc81_2 : List zN := [(41, .iload_n 2, 1, .null, 0, 0, 0, [], []), (42, .iload 4, 2, .null, 0, 0, 0, [], []), (44, .invokevirtual 136, 3, .null, 22, 2, 1, [], []), (47, .ifCond .ne 5, 3, .null, 52, 0, 0, [], []), (50, .iconst 0, 1, .int 0, 0, 0, 0, [], []), (51, .ireturn, 1, .null, 0, 0, 1, [], []), (52, .iconst 1, 1, .int 1, 0, 0, 0, [], []), (53, .istore_n 3, 1, .null, 0, 0, 0, [], []), (54, .iinc 4 1, 3, .int 1, 4, 0, 0, [0, 2, 3, 4], []), (57, .goto (-46), 3, .null, 11, 0, 0, [], []), (60, .iload_n 3, 1, .null, 0, 0, 0, [], []), (61, .ireturn, 1, .null, 0, 0, 1, [], [])]
def zc81 : List (Nat × List zN) := [(17, zc81_0), (38, zc81_1), (61, zc81_2)]
/-- SugarBelow$Weeks.<init>(LSugarBelow$Goods;LSugarBelow$People;)V -/
def zc82_0 : List zN := [(0, .aload_n 0, 1, .null, 0, 0, 0, [], []), (1, .invokespecial 3, 3, .null, 0, 0, 0, [], []), (4, .aload_n 0, 1, .null, 0, 0, 0, [], []), (5, .aload_n 1, 1, .null, 0, 0, 0, [], []), (6, .putfield 9, 3, .null, 8, 3, 2, [], []), (9, .aload_n 0, 1, .null, 0, 0, 0, [], []), (10, .aload_n 2, 1, .null, 0, 0, 0, [], []), (11, .putfield 15, 3, .null, 8, 4, 2, [], []), (14, .return_, 1, .null, 0, 0, 0, [], [])]
def zc82 : List (Nat × List zN) := [(14, zc82_0)]
/-- SugarBelow$Weeks.live(IIIII)V -/
def zc83_0 : List zN := [(0, .aload_n 0, 1, .null, 0, 0, 0, [], []), (1, .iconst 0, 1, .int 0, 0, 0, 0, [], []), (2, .putfield 19, 3, .null, 8, 0, 0, [], []), (5, .aload_n 0, 1, .null, 0, 0, 0, [], []), (6, .iconst 0, 1, .int 0, 0, 0, 0, [], []), (7, .putfield 23, 3, .null, 8, 1, 0, [], []), (10, .aload_n 0, 1, .null, 0, 0, 0, [], []), (11, .iconst 0, 1, .int 0, 0, 0, 0, [], []), (12, .putfield 26, 3, .null, 8, 2, 0, [], []), (15, .aload_n 0, 1, .null, 0, 0, 0, [], []), (16, .getfield 9, 3, .null, 8, 3, 2, [], []), (19, .getfield 29, 3, .null, 1, 2, 2, [], [])]
def zc83_1 : List zN := [(22, .iload_n 3, 1, .null, 0, 0, 0, [], []), (23, .iconst 3, 1, .int 3, 0, 0, 0, [], []), (24, .imul, 1, .null, 0, 0, 0, [], []), (25, .iaload, 1, .null, 0, 0, 0, [], []), (26, .istore 6, 2, .null, 0, 0, 0, [], []), (28, .aload_n 0, 1, .null, 0, 0, 0, [], []), (29, .getfield 9, 3, .null, 8, 3, 2, [], []), (32, .iload_n 3, 1, .null, 0, 0, 0, [], []), (33, .invokevirtual 35, 3, .null, 16, 1, 1, [], []), (36, .istore 7, 2, .null, 0, 0, 0, [], []), (38, .aload_n 0, 1, .null, 0, 0, 0, [], []), (39, .getfield 15, 3, .null, 8, 4, 2, [], [])]
def zc83_2 : List zN := [(42, .getfield 39, 3, .null, 3, 6, 2, [], []), (45, .iload_n 1, 1, .null, 0, 0, 0, [], []), (46, .iconst 4, 1, .int 4, 0, 0, 0, [], []), (47, .imul, 1, .null, 0, 0, 0, [], []), (48, .iload_n 3, 1, .null, 0, 0, 0, [], []), (49, .iadd, 1, .null, 0, 0, 0, [], []), (50, .iaload, 1, .null, 0, 0, 0, [], []), (51, .istore 8, 2, .null, 0, 0, 0, [], []), (53, .aload_n 0, 1, .null, 0, 0, 0, [], []), (54, .getfield 15, 3, .null, 8, 4, 2, [], []), (57, .getfield 44, 3, .null, 3, 5, 2, [], []), (60, .iload_n 1, 1, .null, 0, 0, 0, [], [])]
def zc83_3 : List zN := [(61, .iconst 4, 1, .int 4, 0, 0, 0, [], []), (62, .imul, 1, .null, 0, 0, 0, [], []), (63, .iload_n 3, 1, .null, 0, 0, 0, [], []), (64, .iadd, 1, .null, 0, 0, 0, [], []), (65, .iaload, 1, .null, 0, 0, 0, [], []), (66, .istore 9, 2, .null, 0, 0, 0, [], []), (68, .aload_n 0, 1, .null, 0, 0, 0, [], []), (69, .getfield 9, 3, .null, 8, 3, 2, [], []), (72, .getfield 47, 3, .null, 1, 3, 2, [], []), (75, .iload_n 2, 1, .null, 0, 0, 0, [], []), (76, .iconst 4, 1, .int 4, 0, 0, 0, [], []), (77, .imul, 1, .null, 0, 0, 0, [], [])]
def zc83_4 : List zN := [(78, .iload_n 3, 1, .null, 0, 0, 0, [], []), (79, .iadd, 1, .null, 0, 0, 0, [], []), (80, .iaload, 1, .null, 0, 0, 0, [], []), (81, .istore 10, 2, .null, 0, 0, 0, [], []), (83, .iconst 0, 1, .int 0, 0, 0, 0, [], []), (84, .istore 11, 2, .null, 0, 0, 0, [], []), (86, .iload 11, 2, .null, 0, 0, 0, [0, 1, 4, 5, 6, 7, 8, 9, 10, 11], []), (88, .iload 5, 2, .null, 0, 0, 0, [], []), (90, .if_icmp .ge 126, 3, .null, 216, 0, 0, [], []), (93, .iload 4, 2, .null, 0, 0, 0, [], []), (95, .iload 11, 2, .null, 0, 0, 0, [], []), (97, .ishr, 1, .null, 0, 0, 0, [], [])]
def zc83_5 : List zN := [(98, .iconst 1, 1, .int 1, 0, 0, 0, [], []), (99, .iand, 1, .null, 0, 0, 0, [], []), (100, .iconst 1, 1, .int 1, 0, 0, 0, [], []), (101, .if_icmp .ne 14, 3, .null, 115, 0, 0, [], []), (104, .iload 6, 2, .null, 0, 0, 0, [], []), (106, .iload 7, 2, .null, 0, 0, 0, [], []), (108, .if_icmp .ge 7, 3, .null, 115, 0, 0, [], []), (111, .iconst 1, 1, .int 1, 0, 0, 0, [], []), (112, .goto 4, 3, .null, 116, 0, 0, [], []), (115, .iconst 0, 1, .int 0, 0, 0, 0, [0, 1, 4, 5, 6, 7, 8, 9, 10, 11], []), (116, .istore 12, 2, .null, 0, 0, 0, [0, 1, 4, 5, 6, 7, 8, 9, 10, 11], []), (118, .iload 12, 2, .null, 0, 0, 0, [], [])]
def zc83_6 : List zN := [(120, .ifCond .eq 8, 3, .null, 128, 0, 0, [], []), (123, .iload 6, 2, .null, 0, 0, 0, [], []), (125, .goto 5, 3, .null, 130, 0, 0, [], []), (128, .iload 7, 2, .null, 0, 0, 0, [], []), (130, .istore 13, 2, .null, 0, 0, 0, [0, 1, 4, 5, 6, 7, 8, 9, 10, 11, 12], []), (132, .iload 12, 2, .null, 0, 0, 0, [], []), (134, .ifCond .eq 33, 3, .null, 167, 0, 0, [], []), (137, .aload_n 0, 1, .null, 0, 0, 0, [], []), (138, .iload 9, 2, .null, 0, 0, 0, [], []), (140, .aload_n 0, 1, .null, 0, 0, 0, [], []), (141, .getfield 15, 3, .null, 8, 4, 2, [], []), (144, .getfield 50, 3, .null, 3, 4, 2, [], [])]
def zc83_7 : List zN := [(147, .iload_n 1, 1, .null, 0, 0, 0, [], []), (148, .iaload, 1, .null, 0, 0, 0, [], []), (149, .iload 13, 2, .null, 0, 0, 0, [], []), (151, .iload 8, 2, .null, 0, 0, 0, [], []), (153, .if_icmp .gt 7, 3, .null, 160, 0, 0, [], []), (156, .iconst 1, 1, .int 1, 0, 0, 0, [], []), (157, .goto 4, 3, .null, 161, 0, 0, [], []), (160, .iconst 0, 1, .int 0, 0, 0, 0, [], []), (161, .invokevirtual 53, 3, .null, 84, 3, 8, [0, 1, 4, 5, 6, 7, 8, 9, 10, 11, 13], []), (164, .goto 9, 3, .null, 173, 0, 0, [], []), (167, .aload_n 0, 1, .null, 0, 0, 0, [], []), (168, .iload 9, 2, .null, 0, 0, 0, [], [])]
def zc83_8 : List zN := [(170, .invokevirtual 57, 3, .null, 85, 1, 8, [], []), (173, .istore 14, 2, .null, 0, 0, 0, [0, 1, 4, 5, 6, 7, 8, 9, 10, 11, 13], []), (175, .iload 13, 2, .null, 0, 0, 0, [], []), (177, .iload 8, 2, .null, 0, 0, 0, [], []), (179, .if_icmp .gt 31, 3, .null, 210, 0, 0, [], []), (182, .aload_n 0, 1, .null, 0, 0, 0, [], []), (183, .dup, 1, .null, 0, 0, 0, [], []), (184, .getfield 19, 3, .null, 8, 0, 0, [], []), (187, .iload 14, 2, .null, 0, 0, 0, [], []), (189, .iadd, 1, .null, 0, 0, 0, [], []), (190, .putfield 19, 3, .null, 8, 0, 0, [], []), (193, .aload_n 0, 1, .null, 0, 0, 0, [], [])]
def zc83_9 : List zN := [(194, .dup, 1, .null, 0, 0, 0, [], []), (195, .getfield 23, 3, .null, 8, 1, 0, [], []), (198, .iload 14, 2, .null, 0, 0, 0, [], []), (200, .iload 13, 2, .null, 0, 0, 0, [], []), (202, .iload 10, 2, .null, 0, 0, 0, [], []), (204, .isub, 1, .null, 0, 0, 0, [], []), (205, .imul, 1, .null, 0, 0, 0, [], []), (206, .iadd, 1, .null, 0, 0, 0, [], []), (207, .putfield 23, 3, .null, 8, 1, 0, [], []), (210, .iinc 11 1, 3, .int 1, 11, 0, 0, [0, 1, 4, 5, 6, 7, 8, 9, 10, 11], []), (213, .goto (-127), 3, .null, 86, 0, 0, [], []), (216, .return_, 1, .null, 0, 0, 0, [], [])]
def zc83 : List (Nat × List zN) := [(19, zc83_0), (39, zc83_1), (60, zc83_2), (77, zc83_3), (97, zc83_4), (118, zc83_5), (144, zc83_6), (168, zc83_7), (193, zc83_8), (216, zc83_9)]
/-- SugarBelow$Weeks.needCheaply(IIZ)I -/
def zc84_0 : List zN := [(0, .iload_n 1, 1, .null, 0, 0, 0, [], []), (1, .iload_n 2, 1, .null, 0, 0, 0, [], []), (2, .iadd, 1, .null, 0, 0, 0, [], []), (3, .aload_n 0, 1, .null, 0, 0, 0, [], []), (4, .getfield 26, 3, .null, 8, 2, 0, [], []), (7, .isub, 1, .null, 0, 0, 0, [], []), (8, .istore 4, 2, .null, 0, 0, 0, [], []), (10, .iload_n 3, 1, .null, 0, 0, 0, [], []), (11, .ifCond .eq 8, 3, .null, 19, 0, 0, [], []), (14, .aload_n 0, 1, .null, 0, 0, 0, [], []), (15, .iload_n 2, 1, .null, 0, 0, 0, [], []), (16, .putfield 26, 3, .null, 8, 2, 0, [], [])]
def zc84_1 : List zN := [(19, .iload 4, 2, .null, 0, 0, 0, [4], []), (21, .ireturn, 1, .null, 0, 0, 0, [], [])]
def zc84 : List (Nat × List zN) := [(16, zc84_0), (21, zc84_1)]
/-- SugarBelow$Weeks.needDearly(I)I -/
def zc85_0 : List zN := [(0, .aload_n 0, 1, .null, 0, 0, 0, [], []), (1, .getfield 26, 3, .null, 8, 2, 0, [], []), (4, .iload_n 1, 1, .null, 0, 0, 0, [], []), (5, .invokestatic 60, 3, .null, 0, 2, 4, [], []), (8, .istore_n 2, 1, .null, 0, 0, 0, [], []), (9, .aload_n 0, 1, .null, 0, 0, 0, [], []), (10, .dup, 1, .null, 0, 0, 0, [], []), (11, .getfield 26, 3, .null, 8, 2, 0, [], []), (14, .iload_n 2, 1, .null, 0, 0, 0, [], []), (15, .isub, 1, .null, 0, 0, 0, [], []), (16, .putfield 26, 3, .null, 8, 2, 0, [], []), (19, .iload_n 1, 1, .null, 0, 0, 0, [], [])]
def zc85_1 : List zN := [(20, .iload_n 2, 1, .null, 0, 0, 0, [], []), (21, .isub, 1, .null, 0, 0, 0, [], []), (22, .ireturn, 1, .null, 0, 0, 0, [], [])]
def zc85 : List (Nat × List zN) := [(19, zc85_0), (22, zc85_1)]
/-- SugarBelow.<init>()V -/
def zc86_0 : List zN := [(0, .aload_n 0, 1, .null, 0, 0, 0, [], []), (1, .invokespecial 3, 3, .null, 0, 0, 0, [], []), (4, .aload_n 0, 1, .null, 0, 0, 0, [], []), (5, .new 9, 3, .null, 6, 4, 0, [], []), (8, .dup, 1, .null, 0, 0, 0, [], []), (9, .invokespecial 11, 3, .null, 61, 0, 2, [], []), (12, .putfield 12, 3, .null, 9, 0, 2, [], []), (15, .aload_n 0, 1, .null, 0, 0, 0, [], []), (16, .iconst 2, 1, .int 2, 0, 0, 0, [], []), (17, .anewarray 9, 3, .null, 6, 0, 0, [], []), (20, .putfield 16, 3, .null, 9, 1, 2, [], []), (23, .iconst 0, 1, .int 0, 0, 0, 0, [], [])]
def zc86_1 : List zN := [(24, .istore_n 1, 1, .null, 0, 0, 0, [], []), (25, .iload_n 1, 1, .null, 0, 0, 0, [0, 1], []), (26, .iconst 2, 1, .int 2, 0, 0, 0, [], []), (27, .if_icmp .ge 22, 3, .null, 49, 0, 0, [], []), (30, .aload_n 0, 1, .null, 0, 0, 0, [], []), (31, .getfield 16, 3, .null, 9, 1, 2, [], []), (34, .iload_n 1, 1, .null, 0, 0, 0, [], []), (35, .new 9, 3, .null, 6, 4, 0, [], []), (38, .dup, 1, .null, 0, 0, 0, [], []), (39, .invokespecial 11, 3, .null, 61, 0, 2, [], []), (42, .aastore, 1, .null, 0, 0, 0, [], []), (43, .iinc 1 1, 3, .int 1, 1, 0, 0, [], [])]
def zc86_2 : List zN := [(46, .goto (-21), 3, .null, 25, 0, 0, [], []), (49, .aload_n 0, 1, .null, 0, 0, 0, [], []), (50, .iconst 2, 1, .int 2, 0, 0, 0, [], []), (51, .newarray .boolean, 2, .null, 1, 0, 0, [], []), (53, .putfield 20, 3, .null, 9, 2, 2, [], []), (56, .aload_n 0, 1, .null, 0, 0, 0, [], []), (57, .new 24, 3, .null, 2, 7, 0, [], []), (60, .dup, 1, .null, 0, 0, 0, [], []), (61, .invokespecial 26, 3, .null, 26, 0, 2, [], []), (64, .putfield 27, 3, .null, 9, 3, 2, [], []), (67, .aload_n 0, 1, .null, 0, 0, 0, [], []), (68, .new 31, 3, .null, 1, 7, 0, [], [])]
def zc86_3 : List zN := [(71, .dup, 1, .null, 0, 0, 0, [], []), (72, .invokespecial 33, 3, .null, 12, 0, 2, [], []), (75, .putfield 34, 3, .null, 9, 4, 2, [], []), (78, .aload_n 0, 1, .null, 0, 0, 0, [], []), (79, .new 38, 3, .null, 7, 7, 0, [], []), (82, .dup, 1, .null, 0, 0, 0, [], []), (83, .aload_n 0, 1, .null, 0, 0, 0, [], []), (84, .getfield 34, 3, .null, 9, 4, 2, [], []), (87, .aload_n 0, 1, .null, 0, 0, 0, [], []), (88, .getfield 12, 3, .null, 9, 0, 2, [], []), (91, .getfield 40, 3, .null, 6, 1, 2, [], []), (94, .invokespecial 44, 3, .null, 63, 2, 1, [], [])]
def zc86_4 : List zN := [(97, .putfield 47, 3, .null, 9, 5, 2, [], []), (100, .aload_n 0, 1, .null, 0, 0, 0, [], []), (101, .new 51, 3, .null, 4, 4, 0, [], []), (104, .dup, 1, .null, 0, 0, 0, [], []), (105, .aload_n 0, 1, .null, 0, 0, 0, [], []), (106, .getfield 34, 3, .null, 9, 4, 2, [], []), (109, .aload_n 0, 1, .null, 0, 0, 0, [], []), (110, .getfield 12, 3, .null, 9, 0, 2, [], []), (113, .getfield 40, 3, .null, 6, 1, 2, [], []), (116, .aload_n 0, 1, .null, 0, 0, 0, [], []), (117, .getfield 47, 3, .null, 9, 5, 2, [], []), (120, .invokespecial 53, 3, .null, 41, 3, 1, [], [])]
def zc86_5 : List zN := [(123, .putfield 56, 3, .null, 9, 6, 2, [], []), (126, .aload_n 0, 1, .null, 0, 0, 0, [], []), (127, .new 60, 3, .null, 0, 12, 0, [], []), (130, .dup, 1, .null, 0, 0, 0, [], []), (131, .aload_n 0, 1, .null, 0, 0, 0, [], []), (132, .getfield 34, 3, .null, 9, 4, 2, [], []), (135, .aload_n 0, 1, .null, 0, 0, 0, [], []), (136, .getfield 47, 3, .null, 9, 5, 2, [], []), (139, .invokespecial 62, 3, .null, 0, 2, 1, [], []), (142, .putfield 65, 3, .null, 9, 7, 2, [], []), (145, .aload_n 0, 1, .null, 0, 0, 0, [], []), (146, .new 69, 3, .null, 8, 5, 0, [], [])]
def zc86_6 : List zN := [(149, .dup, 1, .null, 0, 0, 0, [], []), (150, .aload_n 0, 1, .null, 0, 0, 0, [], []), (151, .getfield 12, 3, .null, 9, 0, 2, [], []), (154, .getfield 71, 3, .null, 6, 0, 2, [], []), (157, .aload_n 0, 1, .null, 0, 0, 0, [], []), (158, .getfield 12, 3, .null, 9, 0, 2, [], []), (161, .getfield 40, 3, .null, 6, 1, 2, [], []), (164, .invokespecial 74, 3, .null, 82, 2, 1, [], []), (167, .putfield 75, 3, .null, 9, 8, 2, [], []), (170, .return_, 1, .null, 0, 0, 0, [], [])]
def zc86 : List (Nat × List zN) := [(23, zc86_0), (43, zc86_1), (68, zc86_2), (94, zc86_3), (120, zc86_4), (146, zc86_5), (170, zc86_6)]
/-- SugarBelow.thing(III)I -/
def zc87_0 : List zN := [(0, .iload_n 1, 1, .null, 0, 0, 0, [], []), (1, .iconst 0, 1, .int 0, 0, 0, 0, [], []), (2, .bipush 99, 2, .int 99, 0, 0, 0, [], []), (4, .invokestatic 79, 3, .null, 125, 3, 0, [], []), (7, .ifCond .ne 23, 3, .null, 30, 0, 0, [], []), (10, .iload_n 2, 1, .null, 0, 0, 0, [], []), (11, .iconst 0, 1, .int 0, 0, 0, 0, [], []), (12, .bipush 99, 2, .int 99, 0, 0, 0, [], []), (14, .invokestatic 79, 3, .null, 125, 3, 0, [], []), (17, .ifCond .ne 13, 3, .null, 30, 0, 0, [], []), (20, .iload_n 3, 1, .null, 0, 0, 0, [], []), (21, .iconst 0, 1, .int 0, 0, 0, 0, [], [])]
def zc87_1 : List zN := [(22, .bipush 99, 2, .int 99, 0, 0, 0, [], []), (24, .invokestatic 79, 3, .null, 125, 3, 0, [], []), (27, .ifCond .eq 6, 3, .null, 33, 0, 0, [], []), (30, .bipush (-2), 2, .int (-2), 0, 0, 0, [99], []), (32, .ireturn, 1, .null, 0, 0, 0, [], []), (33, .aload_n 0, 1, .null, 0, 0, 0, [], []), (34, .getfield 12, 3, .null, 9, 0, 2, [], []), (37, .getfield 71, 3, .null, 6, 0, 2, [], []), (40, .getfield 83, 3, .null, 1, 0, 0, [], []), (43, .iconst 4, 1, .int 4, 0, 0, 0, [], []), (44, .if_icmp .lt 6, 3, .null, 50, 0, 0, [], []), (47, .bipush (-4), 2, .int (-4), 0, 0, 0, [], [])]
def zc87_2 : List zN := [(49, .ireturn, 1, .null, 0, 0, 0, [], []), (50, .aload_n 0, 1, .null, 0, 0, 0, [], []), (51, .getfield 65, 3, .null, 9, 7, 2, [], []), (54, .invokevirtual 87, 3, .null, 1, 0, 0, [], []), (57, .aload_n 0, 1, .null, 0, 0, 0, [], []), (58, .getfield 12, 3, .null, 9, 0, 2, [], []), (61, .getfield 71, 3, .null, 6, 0, 2, [], []), (64, .iload_n 1, 1, .null, 0, 0, 0, [], []), (65, .iload_n 2, 1, .null, 0, 0, 0, [], []), (66, .iload_n 3, 1, .null, 0, 0, 0, [], []), (67, .invokevirtual 90, 3, .null, 14, 3, 1, [], []), (70, .ireturn, 1, .null, 0, 0, 0, [], [])]
def zc87 : List (Nat × List zN) := [(21, zc87_0), (47, zc87_1), (70, zc87_2)]
/-- SugarBelow.step(II)I -/
def zc88_0 : List zN := [(0, .aload_n 0, 1, .null, 0, 0, 0, [], []), (1, .iload_n 1, 1, .null, 0, 0, 0, [], []), (2, .invokevirtual 94, 3, .null, 128, 1, 9, [], []), (5, .ifCond .eq 5, 3, .null, 10, 0, 0, [], []), (8, .iconst (-1), 1, .int (-1), 0, 0, 0, [], []), (9, .ireturn, 1, .null, 0, 0, 0, [], []), (10, .iload_n 2, 1, .null, 0, 0, 0, [], []), (11, .iconst 0, 1, .int 0, 0, 0, 0, [], []), (12, .bipush 99, 2, .int 99, 0, 0, 0, [], []), (14, .invokestatic 79, 3, .null, 125, 3, 0, [], []), (17, .ifCond .ne 18, 3, .null, 35, 0, 0, [], []), (20, .iload_n 2, 1, .null, 0, 0, 0, [], [])]
def zc88_1 : List zN := [(21, .aload_n 0, 1, .null, 0, 0, 0, [], []), (22, .getfield 12, 3, .null, 9, 0, 2, [], []), (25, .getfield 71, 3, .null, 6, 0, 2, [], []), (28, .iload_n 1, 1, .null, 0, 0, 0, [], []), (29, .invokevirtual 98, 3, .null, 16, 1, 1, [], []), (32, .if_icmp .gt 6, 3, .null, 38, 0, 0, [], []), (35, .bipush (-2), 2, .int (-2), 0, 0, 0, [99], []), (37, .ireturn, 1, .null, 0, 0, 0, [], []), (38, .aload_n 0, 1, .null, 0, 0, 0, [], []), (39, .getfield 12, 3, .null, 9, 0, 2, [], []), (42, .getfield 71, 3, .null, 6, 0, 2, [], []), (45, .getfield 102, 3, .null, 1, 1, 2, [], [])]
def zc88_2 : List zN := [(48, .iload_n 1, 1, .null, 0, 0, 0, [], []), (49, .iaload, 1, .null, 0, 0, 0, [], []), (50, .iconst 3, 1, .int 3, 0, 0, 0, [], []), (51, .if_icmp .lt 6, 3, .null, 57, 0, 0, [], []), (54, .bipush (-4), 2, .int (-4), 0, 0, 0, [], []), (56, .ireturn, 1, .null, 0, 0, 0, [], []), (57, .aload_n 0, 1, .null, 0, 0, 0, [], []), (58, .getfield 65, 3, .null, 9, 7, 2, [], []), (61, .invokevirtual 87, 3, .null, 1, 0, 0, [], []), (64, .aload_n 0, 1, .null, 0, 0, 0, [], []), (65, .getfield 12, 3, .null, 9, 0, 2, [], []), (68, .getfield 71, 3, .null, 6, 0, 2, [], [])]
def zc88_3 : List zN := [(71, .iload_n 1, 1, .null, 0, 0, 0, [], []), (72, .iload_n 2, 1, .null, 0, 0, 0, [], []), (73, .invokevirtual 106, 3, .null, 15, 2, 1, [], []), (76, .ireturn, 1, .null, 0, 0, 0, [], [])]
def zc88 : List (Nat × List zN) := [(20, zc88_0), (45, zc88_1), (68, zc88_2), (76, zc88_3)]
/-- SugarBelow.set(IIII)I -/
def zc89_0 : List zN := [(0, .iload_n 1, 1, .null, 0, 0, 0, [], []), (1, .invokestatic 110, 3, .null, 126, 1, 0, [], []), (4, .ifCond .ne 11, 3, .null, 15, 0, 0, [], []), (7, .aload_n 0, 1, .null, 0, 0, 0, [], []), (8, .iload_n 2, 1, .null, 0, 0, 0, [], []), (9, .invokevirtual 94, 3, .null, 128, 1, 9, [], []), (12, .ifCond .eq 5, 3, .null, 17, 0, 0, [], []), (15, .iconst (-1), 1, .int (-1), 0, 0, 0, [99], []), (16, .ireturn, 1, .null, 0, 0, 0, [], []), (17, .iload_n 1, 1, .null, 0, 0, 0, [], []), (18, .iconst 4, 1, .int 4, 0, 0, 0, [], []), (19, .imul, 1, .null, 0, 0, 0, [], [])]
def zc89_1 : List zN := [(20, .iload_n 2, 1, .null, 0, 0, 0, [], []), (21, .iadd, 1, .null, 0, 0, 0, [], []), (22, .istore 5, 2, .null, 0, 0, 0, [], []), (24, .iload_n 3, 1, .null, 0, 0, 0, [], []), (25, .tableswitch 142 0 2 #[27, 62, 96], 27, .null, 167, 0, 0, [], [52, 87, 121]), (52, .iload 4, 2, .null, 0, 0, 0, [], []), (54, .iconst 0, 1, .int 0, 0, 0, 0, [], []), (55, .bipush 99, 2, .int 99, 0, 0, 0, [], []), (57, .invokestatic 79, 3, .null, 125, 3, 0, [], []), (60, .ifCond .eq 8, 3, .null, 68, 0, 0, [], []), (63, .bipush (-2), 2, .int (-2), 0, 0, 0, [], []), (65, .goto 21, 3, .null, 86, 0, 0, [], [])]
def zc89_2 : List zN := [(68, .aload_n 0, 1, .null, 0, 0, 0, [], []), (69, .aload_n 0, 1, .null, 0, 0, 0, [], []), (70, .getfield 12, 3, .null, 9, 0, 2, [], []), (73, .getfield 71, 3, .null, 6, 0, 2, [], []), (76, .getfield 113, 3, .null, 1, 3, 2, [], []), (79, .iload 5, 2, .null, 0, 0, 0, [], []), (81, .iload 4, 2, .null, 0, 0, 0, [], []), (83, .invokevirtual 116, 3, .null, 131, 3, 9, [], []), (86, .ireturn, 1, .null, 0, 0, 0, [99], []), (87, .iload 4, 2, .null, 0, 0, 0, [], []), (89, .iconst 0, 1, .int 0, 0, 0, 0, [], []), (90, .iconst 3, 1, .int 3, 0, 0, 0, [], [])]
def zc89_3 : List zN := [(91, .invokestatic 79, 3, .null, 125, 3, 0, [], []), (94, .ifCond .eq 8, 3, .null, 102, 0, 0, [], []), (97, .bipush (-2), 2, .int (-2), 0, 0, 0, [], []), (99, .goto 21, 3, .null, 120, 0, 0, [], []), (102, .aload_n 0, 1, .null, 0, 0, 0, [], []), (103, .aload_n 0, 1, .null, 0, 0, 0, [], []), (104, .getfield 12, 3, .null, 9, 0, 2, [], []), (107, .getfield 71, 3, .null, 6, 0, 2, [], []), (110, .getfield 120, 3, .null, 1, 4, 2, [], []), (113, .iload 5, 2, .null, 0, 0, 0, [], []), (115, .iload 4, 2, .null, 0, 0, 0, [], []), (117, .invokevirtual 116, 3, .null, 131, 3, 9, [], [])]
def zc89_4 : List zN := [(120, .ireturn, 1, .null, 0, 0, 0, [99], []), (121, .iload 4, 2, .null, 0, 0, 0, [], []), (123, .iconst 0, 1, .int 0, 0, 0, 0, [], []), (124, .aload_n 0, 1, .null, 0, 0, 0, [], []), (125, .getfield 12, 3, .null, 9, 0, 2, [], []), (128, .getfield 71, 3, .null, 6, 0, 2, [], []), (131, .getfield 102, 3, .null, 1, 1, 2, [], []), (134, .iload_n 2, 1, .null, 0, 0, 0, [], []), (135, .iaload, 1, .null, 0, 0, 0, [], []), (136, .iconst 1, 1, .int 1, 0, 0, 0, [], []), (137, .isub, 1, .null, 0, 0, 0, [], []), (138, .invokestatic 79, 3, .null, 125, 3, 0, [], [])]
def zc89_5 : List zN := [(141, .ifCond .eq 7, 3, .null, 148, 0, 0, [], []), (144, .iconst (-1), 1, .int (-1), 0, 0, 0, [], []), (145, .goto 21, 3, .null, 166, 0, 0, [], []), (148, .aload_n 0, 1, .null, 0, 0, 0, [], []), (149, .aload_n 0, 1, .null, 0, 0, 0, [], []), (150, .getfield 12, 3, .null, 9, 0, 2, [], []), (153, .getfield 71, 3, .null, 6, 0, 2, [], []), (156, .getfield 123, 3, .null, 1, 5, 2, [], []), (159, .iload 5, 2, .null, 0, 0, 0, [], []), (161, .iload 4, 2, .null, 0, 0, 0, [], []), (163, .invokevirtual 116, 3, .null, 131, 3, 9, [], []), (166, .ireturn, 1, .null, 0, 0, 0, [99], [])]
def zc89_6 : List zN := [(167, .bipush (-2), 2, .int (-2), 0, 0, 0, [], []), (169, .ireturn, 1, .null, 0, 0, 0, [], [])]
def zc89 : List (Nat × List zN) := [(19, zc89_0), (65, zc89_1), (90, zc89_2), (117, zc89_3), (138, zc89_4), (166, zc89_5), (169, zc89_6)]
/-- SugarBelow.show(II)I -/
def zc90_0 : List zN := [(0, .iload_n 1, 1, .null, 0, 0, 0, [], []), (1, .invokestatic 110, 3, .null, 126, 1, 0, [], []), (4, .ifCond .eq 5, 3, .null, 9, 0, 0, [], []), (7, .iconst (-1), 1, .int (-1), 0, 0, 0, [], []), (8, .ireturn, 1, .null, 0, 0, 0, [], []), (9, .iload_n 2, 1, .null, 0, 0, 0, [], []), (10, .iconst 0, 1, .int 0, 0, 0, 0, [], []), (11, .bipush 15, 2, .int 15, 0, 0, 0, [], []), (13, .invokestatic 79, 3, .null, 125, 3, 0, [], []), (16, .ifCond .eq 6, 3, .null, 22, 0, 0, [], []), (19, .bipush (-2), 2, .int (-2), 0, 0, 0, [], []), (21, .ireturn, 1, .null, 0, 0, 0, [], [])]
def zc90_1 : List zN := [(22, .aload_n 0, 1, .null, 0, 0, 0, [], []), (23, .aload_n 0, 1, .null, 0, 0, 0, [], []), (24, .getfield 12, 3, .null, 9, 0, 2, [], []), (27, .getfield 71, 3, .null, 6, 0, 2, [], []), (30, .getfield 126, 3, .null, 1, 6, 2, [], []), (33, .iload_n 1, 1, .null, 0, 0, 0, [], []), (34, .iload_n 2, 1, .null, 0, 0, 0, [], []), (35, .invokevirtual 116, 3, .null, 131, 3, 9, [], []), (38, .ireturn, 1, .null, 0, 0, 0, [], [])]
def zc90 : List (Nat × List zN) := [(21, zc90_0), (38, zc90_1)]
/-- SugarBelow.sort(IIII)I -/
def zc91_0 : List zN := [(0, .iload_n 1, 1, .null, 0, 0, 0, [], []), (1, .iconst 1, 1, .int 1, 0, 0, 0, [], []), (2, .bipush 99, 2, .int 99, 0, 0, 0, [], []), (4, .invokestatic 79, 3, .null, 125, 3, 0, [], []), (7, .ifCond .ne 33, 3, .null, 40, 0, 0, [], []), (10, .iload_n 2, 1, .null, 0, 0, 0, [], []), (11, .iconst 0, 1, .int 0, 0, 0, 0, [], []), (12, .bipush 99, 2, .int 99, 0, 0, 0, [], []), (14, .invokestatic 79, 3, .null, 125, 3, 0, [], []), (17, .ifCond .ne 23, 3, .null, 40, 0, 0, [], []), (20, .iload_n 3, 1, .null, 0, 0, 0, [], []), (21, .iconst 0, 1, .int 0, 0, 0, 0, [], [])]
def zc91_1 : List zN := [(22, .bipush 99, 2, .int 99, 0, 0, 0, [], []), (24, .invokestatic 79, 3, .null, 125, 3, 0, [], []), (27, .ifCond .ne 13, 3, .null, 40, 0, 0, [], []), (30, .iload 4, 2, .null, 0, 0, 0, [], []), (32, .iconst 0, 1, .int 0, 0, 0, 0, [], []), (33, .iconst 2, 1, .int 2, 0, 0, 0, [], []), (34, .invokestatic 79, 3, .null, 125, 3, 0, [], []), (37, .ifCond .eq 6, 3, .null, 43, 0, 0, [], []), (40, .bipush (-2), 2, .int (-2), 0, 0, 0, [99], []), (42, .ireturn, 1, .null, 0, 0, 0, [], []), (43, .aload_n 0, 1, .null, 0, 0, 0, [], []), (44, .getfield 12, 3, .null, 9, 0, 2, [], [])]
def zc91_2 : List zN := [(47, .getfield 40, 3, .null, 6, 1, 2, [], []), (50, .getfield 129, 3, .null, 3, 0, 0, [], []), (53, .iconst 5, 1, .int 5, 0, 0, 0, [], []), (54, .if_icmp .lt 6, 3, .null, 60, 0, 0, [], []), (57, .bipush (-4), 2, .int (-4), 0, 0, 0, [], []), (59, .ireturn, 1, .null, 0, 0, 0, [], []), (60, .aload_n 0, 1, .null, 0, 0, 0, [], []), (61, .getfield 65, 3, .null, 9, 7, 2, [], []), (64, .invokevirtual 87, 3, .null, 1, 0, 0, [], []), (67, .aload_n 0, 1, .null, 0, 0, 0, [], []), (68, .getfield 12, 3, .null, 9, 0, 2, [], []), (71, .getfield 40, 3, .null, 6, 1, 2, [], [])]
def zc91_3 : List zN := [(74, .iload_n 1, 1, .null, 0, 0, 0, [], []), (75, .iload_n 2, 1, .null, 0, 0, 0, [], []), (76, .iload_n 3, 1, .null, 0, 0, 0, [], []), (77, .iload 4, 2, .null, 0, 0, 0, [], []), (79, .invokevirtual 134, 3, .null, 40, 4, 3, [], []), (82, .ireturn, 1, .null, 0, 0, 0, [], [])]
def zc91 : List (Nat × List zN) := [(21, zc91_0), (44, zc91_1), (71, zc91_2), (82, zc91_3)]
/-- SugarBelow.change(III)I -/
def zc92_0 : List zN := [(0, .aload_n 0, 1, .null, 0, 0, 0, [], []), (1, .iload_n 1, 1, .null, 0, 0, 0, [], []), (2, .invokevirtual 138, 3, .null, 129, 1, 9, [], []), (5, .ifCond .eq 5, 3, .null, 10, 0, 0, [], []), (8, .iconst (-1), 1, .int (-1), 0, 0, 0, [], []), (9, .ireturn, 1, .null, 0, 0, 0, [], []), (10, .iload_n 2, 1, .null, 0, 0, 0, [], []), (11, .tableswitch 166 0 4 #[33, 65, 65, 103, 134], 33, .null, 177, 0, 0, [], [44, 76, 76, 114, 145]), (44, .iload_n 3, 1, .null, 0, 0, 0, [], []), (45, .iconst 1, 1, .int 1, 0, 0, 0, [], []), (46, .bipush 99, 2, .int 99, 0, 0, 0, [], []), (48, .invokestatic 79, 3, .null, 125, 3, 0, [], [])]
def zc92_1 : List zN := [(51, .ifCond .eq 8, 3, .null, 59, 0, 0, [], []), (54, .bipush (-2), 2, .int (-2), 0, 0, 0, [], []), (56, .goto 19, 3, .null, 75, 0, 0, [], []), (59, .aload_n 0, 1, .null, 0, 0, 0, [], []), (60, .aload_n 0, 1, .null, 0, 0, 0, [], []), (61, .getfield 12, 3, .null, 9, 0, 2, [], []), (64, .getfield 40, 3, .null, 6, 1, 2, [], []), (67, .getfield 141, 3, .null, 3, 1, 2, [], []), (70, .iload_n 1, 1, .null, 0, 0, 0, [], []), (71, .iload_n 3, 1, .null, 0, 0, 0, [], []), (72, .invokevirtual 116, 3, .null, 131, 3, 9, [], []), (75, .ireturn, 1, .null, 0, 0, 0, [99], [])]
def zc92_2 : List zN := [(76, .iload_n 3, 1, .null, 0, 0, 0, [], []), (77, .iconst 0, 1, .int 0, 0, 0, 0, [], []), (78, .bipush 99, 2, .int 99, 0, 0, 0, [], []), (80, .invokestatic 79, 3, .null, 125, 3, 0, [], []), (83, .ifCond .eq 8, 3, .null, 91, 0, 0, [], []), (86, .bipush (-2), 2, .int (-2), 0, 0, 0, [], []), (88, .goto 25, 3, .null, 113, 0, 0, [], []), (91, .aload_n 0, 1, .null, 0, 0, 0, [], []), (92, .aload_n 0, 1, .null, 0, 0, 0, [], []), (93, .getfield 12, 3, .null, 9, 0, 2, [], []), (96, .getfield 40, 3, .null, 6, 1, 2, [], []), (99, .getfield 144, 3, .null, 3, 2, 2, [], [])]
def zc92_3 : List zN := [(102, .iload_n 1, 1, .null, 0, 0, 0, [], []), (103, .iconst 2, 1, .int 2, 0, 0, 0, [], []), (104, .imul, 1, .null, 0, 0, 0, [], []), (105, .iload_n 2, 1, .null, 0, 0, 0, [], []), (106, .iadd, 1, .null, 0, 0, 0, [], []), (107, .iconst 1, 1, .int 1, 0, 0, 0, [], []), (108, .isub, 1, .null, 0, 0, 0, [], []), (109, .iload_n 3, 1, .null, 0, 0, 0, [], []), (110, .invokevirtual 116, 3, .null, 131, 3, 9, [], []), (113, .ireturn, 1, .null, 0, 0, 0, [99], []), (114, .iload_n 3, 1, .null, 0, 0, 0, [], []), (115, .iconst 0, 1, .int 0, 0, 0, 0, [], [])]
def zc92_4 : List zN := [(116, .iconst 2, 1, .int 2, 0, 0, 0, [], []), (117, .invokestatic 79, 3, .null, 125, 3, 0, [], []), (120, .ifCond .eq 8, 3, .null, 128, 0, 0, [], []), (123, .bipush (-2), 2, .int (-2), 0, 0, 0, [], []), (125, .goto 19, 3, .null, 144, 0, 0, [], []), (128, .aload_n 0, 1, .null, 0, 0, 0, [], []), (129, .aload_n 0, 1, .null, 0, 0, 0, [], []), (130, .getfield 12, 3, .null, 9, 0, 2, [], []), (133, .getfield 40, 3, .null, 6, 1, 2, [], []), (136, .getfield 147, 3, .null, 3, 3, 2, [], []), (139, .iload_n 1, 1, .null, 0, 0, 0, [], []), (140, .iload_n 3, 1, .null, 0, 0, 0, [], [])]
def zc92_5 : List zN := [(141, .invokevirtual 116, 3, .null, 131, 3, 9, [], []), (144, .ireturn, 1, .null, 0, 0, 0, [99], []), (145, .iload_n 3, 1, .null, 0, 0, 0, [], []), (146, .iconst 0, 1, .int 0, 0, 0, 0, [], []), (147, .bipush 6, 2, .int 6, 0, 0, 0, [], []), (149, .invokestatic 79, 3, .null, 125, 3, 0, [], []), (152, .ifCond .eq 8, 3, .null, 160, 0, 0, [], []), (155, .bipush (-2), 2, .int (-2), 0, 0, 0, [], []), (157, .goto 19, 3, .null, 176, 0, 0, [], []), (160, .aload_n 0, 1, .null, 0, 0, 0, [], []), (161, .aload_n 0, 1, .null, 0, 0, 0, [], []), (162, .getfield 12, 3, .null, 9, 0, 2, [], [])]
def zc92_6 : List zN := [(165, .getfield 40, 3, .null, 6, 1, 2, [], []), (168, .getfield 150, 3, .null, 3, 4, 2, [], []), (171, .iload_n 1, 1, .null, 0, 0, 0, [], []), (172, .iload_n 3, 1, .null, 0, 0, 0, [], []), (173, .invokevirtual 116, 3, .null, 131, 3, 9, [], []), (176, .ireturn, 1, .null, 0, 0, 0, [99], []), (177, .bipush (-2), 2, .int (-2), 0, 0, 0, [], []), (179, .ireturn, 1, .null, 0, 0, 0, [], [])]
def zc92 : List (Nat × List zN) := [(48, zc92_0), (75, zc92_1), (99, zc92_2), (115, zc92_3), (140, zc92_4), (162, zc92_5), (179, zc92_6)]
/-- SugarBelow.say(I)I -/
def zc93_0 : List zN := [(0, .iload_n 1, 1, .null, 0, 0, 0, [], []), (1, .bipush 33, 2, .int 33, 0, 0, 0, [], []), (3, .bipush 126, 2, .int 126, 0, 0, 0, [], []), (5, .invokestatic 79, 3, .null, 125, 3, 0, [], []), (8, .ifCond .eq 6, 3, .null, 14, 0, 0, [], []), (11, .bipush (-2), 2, .int (-2), 0, 0, 0, [], []), (13, .ireturn, 1, .null, 0, 0, 0, [], []), (14, .aload_n 0, 1, .null, 0, 0, 0, [], []), (15, .getfield 27, 3, .null, 9, 3, 2, [], []), (18, .getfield 153, 3, .null, 2, 0, 0, [], []), (21, .bipush 40, 2, .int 40, 0, 0, 0, [], []), (23, .if_icmp .lt 8, 3, .null, 31, 0, 0, [], [])]
def zc93_1 : List zN := [(26, .bipush (-4), 2, .int (-4), 0, 0, 0, [], []), (28, .goto 11, 3, .null, 39, 0, 0, [], []), (31, .aload_n 0, 1, .null, 0, 0, 0, [], []), (32, .getfield 27, 3, .null, 9, 3, 2, [], []), (35, .iload_n 1, 1, .null, 0, 0, 0, [], []), (36, .invokevirtual 156, 3, .null, 27, 1, 2, [], []), (39, .ireturn, 1, .null, 0, 0, 0, [99], [])]
def zc93 : List (Nat × List zN) := [(23, zc93_0), (39, zc93_1)]
/-- SugarBelow.wipe()I -/
def zc94_0 : List zN := [(0, .aload_n 0, 1, .null, 0, 0, 0, [], []), (1, .getfield 27, 3, .null, 9, 3, 2, [], []), (4, .invokevirtual 159, 3, .null, 28, 0, 2, [], []), (7, .ireturn, 1, .null, 0, 0, 0, [], [])]
def zc94 : List (Nat × List zN) := [(7, zc94_0)]
/-- SugarBelow.fault()I -/
def zc95_0 : List zN := [(0, .aload_n 0, 1, .null, 0, 0, 0, [], []), (1, .getfield 27, 3, .null, 9, 3, 2, [], []), (4, .invokevirtual 163, 3, .null, 29, 0, 2, [], []), (7, .ireturn, 1, .null, 0, 0, 0, [], [])]
def zc95 : List (Nat × List zN) := [(7, zc95_0)]
/-- SugarBelow.list(I)I -/
def zc96_0 : List zN := [(0, .aload_n 0, 1, .null, 0, 0, 0, [], []), (1, .iload_n 1, 1, .null, 0, 0, 0, [], []), (2, .invokevirtual 138, 3, .null, 129, 1, 9, [], []), (5, .ifCond .eq 5, 3, .null, 10, 0, 0, [], []), (8, .iconst (-1), 1, .int (-1), 0, 0, 0, [], []), (9, .ireturn, 1, .null, 0, 0, 0, [], []), (10, .aload_n 0, 1, .null, 0, 0, 0, [], []), (11, .getfield 27, 3, .null, 9, 3, 2, [], []), (14, .invokevirtual 163, 3, .null, 29, 0, 2, [], []), (17, .bipush (-6), 2, .int (-6), 0, 0, 0, [], []), (19, .if_icmp .eq 6, 3, .null, 25, 0, 0, [], []), (22, .bipush (-5), 2, .int (-5), 0, 0, 0, [], [])]
def zc96_1 : List zN := [(24, .ireturn, 1, .null, 0, 0, 0, [], []), (25, .aload_n 0, 1, .null, 0, 0, 0, [], []), (26, .getfield 65, 3, .null, 9, 7, 2, [], []), (29, .invokevirtual 87, 3, .null, 1, 0, 0, [], []), (32, .aload_n 0, 1, .null, 0, 0, 0, [], []), (33, .getfield 27, 3, .null, 9, 3, 2, [], []), (36, .aload_n 0, 1, .null, 0, 0, 0, [], []), (37, .getfield 12, 3, .null, 9, 0, 2, [], []), (40, .getfield 40, 3, .null, 6, 1, 2, [], []), (43, .iload_n 1, 1, .null, 0, 0, 0, [], []), (44, .invokevirtual 166, 3, .null, 30, 2, 2, [], []), (47, .aload_n 0, 1, .null, 0, 0, 0, [], [])]
def zc96_2 : List zN := [(48, .getfield 27, 3, .null, 9, 3, 2, [], []), (51, .invokevirtual 159, 3, .null, 28, 0, 2, [], []), (54, .pop, 1, .null, 0, 0, 0, [], []), (55, .aload_n 0, 1, .null, 0, 0, 0, [], []), (56, .getfield 27, 3, .null, 9, 3, 2, [], []), (59, .getfield 170, 3, .null, 2, 1, 0, [], []), (62, .ireturn, 1, .null, 0, 0, 0, [], [])]
def zc96 : List (Nat × List zN) := [(22, zc96_0), (47, zc96_1), (62, zc96_2)]
/-- SugarBelow.item(III)I -/
def zc97_0 : List zN := [(0, .aload_n 0, 1, .null, 0, 0, 0, [], []), (1, .iload_n 1, 1, .null, 0, 0, 0, [], []), (2, .invokevirtual 138, 3, .null, 129, 1, 9, [], []), (5, .ifCond .ne 10, 3, .null, 15, 0, 0, [], []), (8, .iload_n 2, 1, .null, 0, 0, 0, [], []), (9, .invokestatic 173, 3, .null, 127, 1, 0, [], []), (12, .ifCond .eq 5, 3, .null, 17, 0, 0, [], []), (15, .iconst (-1), 1, .int (-1), 0, 0, 0, [99], []), (16, .ireturn, 1, .null, 0, 0, 0, [], []), (17, .iload_n 3, 1, .null, 0, 0, 0, [], []), (18, .iconst 0, 1, .int 0, 0, 0, 0, [], []), (19, .iconst 2, 1, .int 2, 0, 0, 0, [], [])]
def zc97_1 : List zN := [(20, .invokestatic 79, 3, .null, 125, 3, 0, [], []), (23, .ifCond .eq 6, 3, .null, 29, 0, 0, [], []), (26, .bipush (-2), 2, .int (-2), 0, 0, 0, [], []), (28, .ireturn, 1, .null, 0, 0, 0, [], []), (29, .iload_n 1, 1, .null, 0, 0, 0, [], []), (30, .iconst 4, 1, .int 4, 0, 0, 0, [], []), (31, .imul, 1, .null, 0, 0, 0, [], []), (32, .iload_n 2, 1, .null, 0, 0, 0, [], []), (33, .iadd, 1, .null, 0, 0, 0, [], []), (34, .istore 4, 2, .null, 0, 0, 0, [], []), (36, .aload_n 0, 1, .null, 0, 0, 0, [], []), (37, .getfield 12, 3, .null, 9, 0, 2, [], [])]
def zc97_2 : List zN := [(40, .getfield 40, 3, .null, 6, 1, 2, [], []), (43, .getfield 176, 3, .null, 3, 5, 2, [], []), (46, .iload 4, 2, .null, 0, 0, 0, [], []), (48, .iaload, 1, .null, 0, 0, 0, [], []), (49, .ifCond .ne 6, 3, .null, 55, 0, 0, [], []), (52, .bipush (-6), 2, .int (-6), 0, 0, 0, [], []), (54, .ireturn, 1, .null, 0, 0, 0, [], []), (55, .iload_n 3, 1, .null, 0, 0, 0, [], []), (56, .ifCond .ne 17, 3, .null, 73, 0, 0, [], []), (59, .aload_n 0, 1, .null, 0, 0, 0, [], []), (60, .getfield 12, 3, .null, 9, 0, 2, [], []), (63, .getfield 40, 3, .null, 6, 1, 2, [], [])]
def zc97_3 : List zN := [(66, .getfield 176, 3, .null, 3, 5, 2, [], []), (69, .iload 4, 2, .null, 0, 0, 0, [], []), (71, .iaload, 1, .null, 0, 0, 0, [], []), (72, .ireturn, 1, .null, 0, 0, 0, [], []), (73, .iload_n 3, 1, .null, 0, 0, 0, [], []), (74, .iconst 1, 1, .int 1, 0, 0, 0, [], []), (75, .if_icmp .ne 19, 3, .null, 94, 0, 0, [], []), (78, .aload_n 0, 1, .null, 0, 0, 0, [], []), (79, .getfield 12, 3, .null, 9, 0, 2, [], []), (82, .getfield 40, 3, .null, 6, 1, 2, [], []), (85, .getfield 179, 3, .null, 3, 6, 2, [], []), (88, .iload 4, 2, .null, 0, 0, 0, [], [])]
def zc97_4 : List zN := [(90, .iaload, 1, .null, 0, 0, 0, [], []), (91, .goto 16, 3, .null, 107, 0, 0, [], []), (94, .aload_n 0, 1, .null, 0, 0, 0, [], []), (95, .getfield 12, 3, .null, 9, 0, 2, [], []), (98, .getfield 40, 3, .null, 6, 1, 2, [], []), (101, .getfield 182, 3, .null, 3, 7, 2, [], []), (104, .iload 4, 2, .null, 0, 0, 0, [], []), (106, .iaload, 1, .null, 0, 0, 0, [], []), (107, .ireturn, 1, .null, 0, 0, 0, [99], [])]
def zc97 : List (Nat × List zN) := [(19, zc97_0), (37, zc97_1), (63, zc97_2), (88, zc97_3), (107, zc97_4)]
/-- SugarBelow.law(I)I -/
def zc98_0 : List zN := [(0, .iload_n 1, 1, .null, 0, 0, 0, [], []), (1, .iconst 0, 1, .int 0, 0, 0, 0, [], []), (2, .iconst 1, 1, .int 1, 0, 0, 0, [], []), (3, .invokestatic 79, 3, .null, 125, 3, 0, [], []), (6, .ifCond .eq 6, 3, .null, 12, 0, 0, [], []), (9, .bipush (-2), 2, .int (-2), 0, 0, 0, [], []), (11, .ireturn, 1, .null, 0, 0, 0, [], []), (12, .aload_n 0, 1, .null, 0, 0, 0, [], []), (13, .getfield 12, 3, .null, 9, 0, 2, [], []), (16, .getfield 185, 3, .null, 6, 3, 0, [], []), (19, .istore_n 2, 1, .null, 0, 0, 0, [], []), (20, .aload_n 0, 1, .null, 0, 0, 0, [], [])]
def zc98_1 : List zN := [(21, .getfield 12, 3, .null, 9, 0, 2, [], []), (24, .iload_n 1, 1, .null, 0, 0, 0, [], []), (25, .putfield 185, 3, .null, 6, 3, 0, [], []), (28, .iload_n 2, 1, .null, 0, 0, 0, [], []), (29, .ireturn, 1, .null, 0, 0, 0, [], [])]
def zc98 : List (Nat × List zN) := [(20, zc98_0), (29, zc98_1)]
/-- SugarBelow.thinks(II)J -/
def zc99_0 : List zN := [(0, .aload_n 0, 1, .null, 0, 0, 0, [], []), (1, .iload_n 1, 1, .null, 0, 0, 0, [], []), (2, .invokevirtual 138, 3, .null, 129, 1, 9, [], []), (5, .ifCond .eq 7, 3, .null, 12, 0, 0, [], []), (8, .ldc2_w 188, 3, .long (-1000000000000000001), 0, 0, 0, [], []), (11, .lreturn, 1, .null, 0, 0, 0, [], []), (12, .iload_n 2, 1, .null, 0, 0, 0, [], []), (13, .iconst 0, 1, .int 0, 0, 0, 0, [], []), (14, .iconst 2, 1, .int 2, 0, 0, 0, [], []), (15, .invokestatic 79, 3, .null, 125, 3, 0, [], []), (18, .ifCond .eq 7, 3, .null, 25, 0, 0, [], []), (21, .ldc2_w 190, 3, .long (-1000000000000000002), 0, 0, 0, [], [])]
def zc99_1 : List zN := [(24, .lreturn, 1, .null, 0, 0, 0, [], []), (25, .aload_n 0, 1, .null, 0, 0, 0, [], []), (26, .invokevirtual 192, 3, .null, 132, 0, 9, [], []), (29, .iload_n 2, 1, .null, 0, 0, 0, [], []), (30, .iconst 2, 1, .int 2, 0, 0, 0, [], []), (31, .if_icmp .ne 15, 3, .null, 46, 0, 0, [], []), (34, .aload_n 0, 1, .null, 0, 0, 0, [], []), (35, .getfield 47, 3, .null, 9, 5, 2, [], []), (38, .iload_n 1, 1, .null, 0, 0, 0, [], []), (39, .invokevirtual 195, 3, .null, 70, 1, 7, [], []), (42, .i2l, 1, .null, 0, 0, 0, [], []), (43, .goto 13, 3, .null, 56, 0, 0, [], [])]
def zc99_2 : List zN := [(46, .aload_n 0, 1, .null, 0, 0, 0, [], []), (47, .getfield 47, 3, .null, 9, 5, 2, [], []), (50, .iload_n 1, 1, .null, 0, 0, 0, [], []), (51, .iload_n 2, 1, .null, 0, 0, 0, [], []), (52, .invokevirtual 198, 3, .null, 69, 2, 7, [], []), (55, .i2l, 1, .null, 0, 0, 0, [], []), (56, .lreturn, 1, .null, 0, 0, 0, [99], [])]
def zc99 : List (Nat × List zN) := [(21, zc99_0), (43, zc99_1), (56, zc99_2)]
/-- SugarBelow.goes(I)I -/
def zc100_0 : List zN := [(0, .aload_n 0, 1, .null, 0, 0, 0, [], []), (1, .iload_n 1, 1, .null, 0, 0, 0, [], []), (2, .invokevirtual 138, 3, .null, 129, 1, 9, [], []), (5, .ifCond .eq 5, 3, .null, 10, 0, 0, [], []), (8, .iconst (-1), 1, .int (-1), 0, 0, 0, [], []), (9, .ireturn, 1, .null, 0, 0, 0, [], []), (10, .aload_n 0, 1, .null, 0, 0, 0, [], []), (11, .invokevirtual 192, 3, .null, 132, 0, 9, [], []), (14, .aload_n 0, 1, .null, 0, 0, 0, [], []), (15, .getfield 47, 3, .null, 9, 5, 2, [], []), (18, .iload_n 1, 1, .null, 0, 0, 0, [], []), (19, .invokevirtual 201, 3, .null, 73, 1, 7, [], [])]
def zc100_1 : List zN := [(22, .ireturn, 1, .null, 0, 0, 0, [], [])]
def zc100 : List (Nat × List zN) := [(19, zc100_0), (22, zc100_1)]
/-- SugarBelow.buys(III)I -/
def zc101_0 : List zN := [(0, .aload_n 0, 1, .null, 0, 0, 0, [], []), (1, .iload_n 1, 1, .null, 0, 0, 0, [], []), (2, .invokevirtual 138, 3, .null, 129, 1, 9, [], []), (5, .ifCond .ne 18, 3, .null, 23, 0, 0, [], []), (8, .iload_n 2, 1, .null, 0, 0, 0, [], []), (9, .invokestatic 110, 3, .null, 126, 1, 0, [], []), (12, .ifCond .ne 11, 3, .null, 23, 0, 0, [], []), (15, .aload_n 0, 1, .null, 0, 0, 0, [], []), (16, .iload_n 3, 1, .null, 0, 0, 0, [], []), (17, .invokevirtual 94, 3, .null, 128, 1, 9, [], []), (20, .ifCond .eq 5, 3, .null, 25, 0, 0, [], []), (23, .iconst (-1), 1, .int (-1), 0, 0, 0, [99], [])]
def zc101_1 : List zN := [(24, .ireturn, 1, .null, 0, 0, 0, [], []), (25, .aload_n 0, 1, .null, 0, 0, 0, [], []), (26, .invokevirtual 192, 3, .null, 132, 0, 9, [], []), (29, .aload_n 0, 1, .null, 0, 0, 0, [], []), (30, .getfield 47, 3, .null, 9, 5, 2, [], []), (33, .iload_n 1, 1, .null, 0, 0, 0, [], []), (34, .invokevirtual 204, 3, .null, 75, 1, 7, [], []), (37, .pop, 1, .null, 0, 0, 0, [], []), (38, .aload_n 0, 1, .null, 0, 0, 0, [], []), (39, .getfield 47, 3, .null, 9, 5, 2, [], []), (42, .getfield 207, 3, .null, 7, 5, 2, [], []), (45, .iload_n 2, 1, .null, 0, 0, 0, [], [])]
def zc101_2 : List zN := [(46, .iconst 4, 1, .int 4, 0, 0, 0, [], []), (47, .imul, 1, .null, 0, 0, 0, [], []), (48, .iload_n 3, 1, .null, 0, 0, 0, [], []), (49, .iadd, 1, .null, 0, 0, 0, [], []), (50, .iaload, 1, .null, 0, 0, 0, [], []), (51, .ireturn, 1, .null, 0, 0, 0, [], [])]
def zc101 : List (Nat × List zN) := [(23, zc101_0), (45, zc101_1), (51, zc101_2)]
/-- SugarBelow.saves(I)J -/
def zc102_0 : List zN := [(0, .aload_n 0, 1, .null, 0, 0, 0, [], []), (1, .iload_n 1, 1, .null, 0, 0, 0, [], []), (2, .invokevirtual 138, 3, .null, 129, 1, 9, [], []), (5, .ifCond .eq 7, 3, .null, 12, 0, 0, [], []), (8, .ldc2_w 188, 3, .long (-1000000000000000001), 0, 0, 0, [], []), (11, .lreturn, 1, .null, 0, 0, 0, [], []), (12, .aload_n 0, 1, .null, 0, 0, 0, [], []), (13, .invokevirtual 192, 3, .null, 132, 0, 9, [], []), (16, .aload_n 0, 1, .null, 0, 0, 0, [], []), (17, .getfield 47, 3, .null, 9, 5, 2, [], []), (20, .iload_n 1, 1, .null, 0, 0, 0, [], []), (21, .invokevirtual 210, 3, .null, 79, 1, 7, [], [])]
def zc102_1 : List zN := [(24, .i2l, 1, .null, 0, 0, 0, [], []), (25, .lreturn, 1, .null, 0, 0, 0, [], [])]
def zc102 : List (Nat × List zN) := [(21, zc102_0), (25, zc102_1)]
/-- SugarBelow.left(I)J -/
def zc103_0 : List zN := [(0, .iload_n 1, 1, .null, 0, 0, 0, [], []), (1, .invokestatic 110, 3, .null, 126, 1, 0, [], []), (4, .ifCond .eq 7, 3, .null, 11, 0, 0, [], []), (7, .ldc2_w 188, 3, .long (-1000000000000000001), 0, 0, 0, [], []), (10, .lreturn, 1, .null, 0, 0, 0, [], []), (11, .aload_n 0, 1, .null, 0, 0, 0, [], []), (12, .invokevirtual 192, 3, .null, 132, 0, 9, [], []), (15, .aload_n 0, 1, .null, 0, 0, 0, [], []), (16, .getfield 47, 3, .null, 9, 5, 2, [], []), (19, .iload_n 1, 1, .null, 0, 0, 0, [], []), (20, .invokevirtual 213, 3, .null, 78, 1, 7, [], []), (23, .i2l, 1, .null, 0, 0, 0, [], [])]
def zc103_1 : List zN := [(24, .lreturn, 1, .null, 0, 0, 0, [], [])]
def zc103 : List (Nat × List zN) := [(23, zc103_0), (24, zc103_1)]
/-- SugarBelow.row(I)I -/
def zc104_0 : List zN := [(0, .iload_n 1, 1, .null, 0, 0, 0, [], []), (1, .invokestatic 110, 3, .null, 126, 1, 0, [], []), (4, .ifCond .eq 7, 3, .null, 11, 0, 0, [], []), (7, .iconst (-1), 1, .int (-1), 0, 0, 0, [], []), (8, .goto 14, 3, .null, 22, 0, 0, [], []), (11, .aload_n 0, 1, .null, 0, 0, 0, [], []), (12, .getfield 12, 3, .null, 9, 0, 2, [], []), (15, .getfield 71, 3, .null, 6, 0, 2, [], []), (18, .iload_n 1, 1, .null, 0, 0, 0, [], []), (19, .invokevirtual 216, 3, .null, 20, 1, 1, [], []), (22, .ireturn, 1, .null, 0, 0, 0, [99], [])]
def zc104 : List (Nat × List zN) := [(22, zc104_0)]
/-- SugarBelow.best(I)I -/
def zc105_0 : List zN := [(0, .iload_n 1, 1, .null, 0, 0, 0, [], []), (1, .invokestatic 110, 3, .null, 126, 1, 0, [], []), (4, .ifCond .eq 5, 3, .null, 9, 0, 0, [], []), (7, .iconst (-1), 1, .int (-1), 0, 0, 0, [], []), (8, .ireturn, 1, .null, 0, 0, 0, [], []), (9, .aload_n 0, 1, .null, 0, 0, 0, [], []), (10, .iload_n 1, 1, .null, 0, 0, 0, [], []), (11, .aload_n 0, 1, .null, 0, 0, 0, [], []), (12, .getfield 12, 3, .null, 9, 0, 2, [], []), (15, .getfield 185, 3, .null, 6, 3, 0, [], []), (18, .invokevirtual 219, 3, .null, 130, 2, 9, [], []), (21, .ifCond .eq 6, 3, .null, 27, 0, 0, [], [])]
def zc105_1 : List zN := [(24, .bipush (-5), 2, .int (-5), 0, 0, 0, [], []), (26, .ireturn, 1, .null, 0, 0, 0, [], []), (27, .aload_n 0, 1, .null, 0, 0, 0, [], []), (28, .invokevirtual 192, 3, .null, 132, 0, 9, [], []), (31, .aload_n 0, 1, .null, 0, 0, 0, [], []), (32, .getfield 56, 3, .null, 9, 6, 2, [], []), (35, .iload_n 1, 1, .null, 0, 0, 0, [], []), (36, .aload_n 0, 1, .null, 0, 0, 0, [], []), (37, .getfield 12, 3, .null, 9, 0, 2, [], []), (40, .getfield 185, 3, .null, 6, 3, 0, [], []), (43, .invokevirtual 223, 3, .null, 42, 2, 4, [], []), (46, .ireturn, 1, .null, 0, 0, 0, [], [])]
def zc105 : List (Nat × List zN) := [(21, zc105_0), (46, zc105_1)]
/-- SugarBelow.most(II)J -/
def zc106_0 : List zN := [(0, .iload_n 1, 1, .null, 0, 0, 0, [], []), (1, .invokestatic 110, 3, .null, 126, 1, 0, [], []), (4, .ifCond .eq 7, 3, .null, 11, 0, 0, [], []), (7, .ldc2_w 188, 3, .long (-1000000000000000001), 0, 0, 0, [], []), (10, .lreturn, 1, .null, 0, 0, 0, [], []), (11, .iload_n 2, 1, .null, 0, 0, 0, [], []), (12, .iconst 0, 1, .int 0, 0, 0, 0, [], []), (13, .iconst 2, 1, .int 2, 0, 0, 0, [], []), (14, .invokestatic 79, 3, .null, 125, 3, 0, [], []), (17, .ifCond .eq 7, 3, .null, 24, 0, 0, [], []), (20, .ldc2_w 190, 3, .long (-1000000000000000002), 0, 0, 0, [], []), (23, .lreturn, 1, .null, 0, 0, 0, [], [])]
def zc106_1 : List zN := [(24, .aload_n 0, 1, .null, 0, 0, 0, [], []), (25, .iload_n 1, 1, .null, 0, 0, 0, [], []), (26, .aload_n 0, 1, .null, 0, 0, 0, [], []), (27, .getfield 12, 3, .null, 9, 0, 2, [], []), (30, .getfield 185, 3, .null, 6, 3, 0, [], []), (33, .invokevirtual 219, 3, .null, 130, 2, 9, [], []), (36, .ifCond .eq 7, 3, .null, 43, 0, 0, [], []), (39, .ldc2_w 226, 3, .long (-1000000000000000005), 0, 0, 0, [], []), (42, .lreturn, 1, .null, 0, 0, 0, [], []), (43, .aload_n 0, 1, .null, 0, 0, 0, [], []), (44, .invokevirtual 192, 3, .null, 132, 0, 9, [], []), (47, .iload_n 2, 1, .null, 0, 0, 0, [], [])]
def zc106_2 : List zN := [(48, .iconst 2, 1, .int 2, 0, 0, 0, [], []), (49, .if_icmp .ne 20, 3, .null, 69, 0, 0, [], []), (52, .aload_n 0, 1, .null, 0, 0, 0, [], []), (53, .getfield 56, 3, .null, 9, 6, 2, [], []), (56, .iload_n 1, 1, .null, 0, 0, 0, [], []), (57, .aload_n 0, 1, .null, 0, 0, 0, [], []), (58, .getfield 12, 3, .null, 9, 0, 2, [], []), (61, .getfield 185, 3, .null, 6, 3, 0, [], []), (64, .invokevirtual 228, 3, .null, 45, 2, 4, [], []), (67, .i2l, 1, .null, 0, 0, 0, [], []), (68, .lreturn, 1, .null, 0, 0, 0, [], []), (69, .aload_n 0, 1, .null, 0, 0, 0, [], [])]
def zc106_3 : List zN := [(70, .getfield 34, 3, .null, 9, 4, 2, [], []), (73, .iload_n 1, 1, .null, 0, 0, 0, [], []), (74, .iload_n 2, 1, .null, 0, 0, 0, [], []), (75, .ifCond .ne 21, 3, .null, 96, 0, 0, [], []), (78, .aload_n 0, 1, .null, 0, 0, 0, [], []), (79, .getfield 56, 3, .null, 9, 6, 2, [], []), (82, .iload_n 1, 1, .null, 0, 0, 0, [], []), (83, .aload_n 0, 1, .null, 0, 0, 0, [], []), (84, .getfield 12, 3, .null, 9, 0, 2, [], []), (87, .getfield 185, 3, .null, 6, 3, 0, [], []), (90, .invokevirtual 223, 3, .null, 42, 2, 4, [], []), (93, .goto 18, 3, .null, 111, 0, 0, [], [])]
def zc106_4 : List zN := [(96, .aload_n 0, 1, .null, 0, 0, 0, [], []), (97, .getfield 56, 3, .null, 9, 6, 2, [], []), (100, .iload_n 1, 1, .null, 0, 0, 0, [], []), (101, .aload_n 0, 1, .null, 0, 0, 0, [], []), (102, .getfield 12, 3, .null, 9, 0, 2, [], []), (105, .getfield 185, 3, .null, 6, 3, 0, [], []), (108, .invokevirtual 231, 3, .null, 43, 2, 4, [], []), (111, .invokevirtual 234, 3, .null, 21, 2, 1, [0, 1], []), (114, .aload_n 0, 1, .null, 0, 0, 0, [], []), (115, .getfield 47, 3, .null, 9, 5, 2, [], []), (118, .iload_n 1, 1, .null, 0, 0, 0, [], []), (119, .invokevirtual 213, 3, .null, 78, 1, 7, [], [])]
def zc106_5 : List zN := [(122, .i2l, 1, .null, 0, 0, 0, [], []), (123, .lreturn, 1, .null, 0, 0, 0, [], [])]
def zc106 : List (Nat × List zN) := [(23, zc106_0), (47, zc106_1), (69, zc106_2), (93, zc106_3), (119, zc106_4), (123, zc106_5)]
/-- SugarBelow.climb(I)I -/
def zc107_0 : List zN := [(0, .iload_n 1, 1, .null, 0, 0, 0, [], []), (1, .invokestatic 110, 3, .null, 126, 1, 0, [], []), (4, .ifCond .eq 5, 3, .null, 9, 0, 0, [], []), (7, .iconst (-1), 1, .int (-1), 0, 0, 0, [], []), (8, .ireturn, 1, .null, 0, 0, 0, [], []), (9, .aload_n 0, 1, .null, 0, 0, 0, [], []), (10, .invokevirtual 192, 3, .null, 132, 0, 9, [], []), (13, .aload_n 0, 1, .null, 0, 0, 0, [], []), (14, .getfield 56, 3, .null, 9, 6, 2, [], []), (17, .iload_n 1, 1, .null, 0, 0, 0, [], []), (18, .aload_n 0, 1, .null, 0, 0, 0, [], []), (19, .getfield 12, 3, .null, 9, 0, 2, [], [])]
def zc107_1 : List zN := [(22, .getfield 185, 3, .null, 6, 3, 0, [], []), (25, .invokevirtual 231, 3, .null, 43, 2, 4, [], []), (28, .ireturn, 1, .null, 0, 0, 0, [], [])]
def zc107 : List (Nat × List zN) := [(19, zc107_0), (28, zc107_1)]
/-- SugarBelow.lures(I)I -/
def zc108_0 : List zN := [(0, .iload_n 1, 1, .null, 0, 0, 0, [], []), (1, .invokestatic 110, 3, .null, 126, 1, 0, [], []), (4, .ifCond .eq 5, 3, .null, 9, 0, 0, [], []), (7, .iconst (-1), 1, .int (-1), 0, 0, 0, [], []), (8, .ireturn, 1, .null, 0, 0, 0, [], []), (9, .aload_n 0, 1, .null, 0, 0, 0, [], []), (10, .iload_n 1, 1, .null, 0, 0, 0, [], []), (11, .aload_n 0, 1, .null, 0, 0, 0, [], []), (12, .getfield 12, 3, .null, 9, 0, 2, [], []), (15, .getfield 185, 3, .null, 6, 3, 0, [], []), (18, .invokevirtual 219, 3, .null, 130, 2, 9, [], []), (21, .ifCond .eq 6, 3, .null, 27, 0, 0, [], [])]
def zc108_1 : List zN := [(24, .bipush (-5), 2, .int (-5), 0, 0, 0, [], []), (26, .ireturn, 1, .null, 0, 0, 0, [], []), (27, .aload_n 0, 1, .null, 0, 0, 0, [], []), (28, .invokevirtual 192, 3, .null, 132, 0, 9, [], []), (31, .aload_n 0, 1, .null, 0, 0, 0, [], []), (32, .getfield 34, 3, .null, 9, 4, 2, [], []), (35, .iload_n 1, 1, .null, 0, 0, 0, [], []), (36, .aload_n 0, 1, .null, 0, 0, 0, [], []), (37, .getfield 56, 3, .null, 9, 6, 2, [], []), (40, .iload_n 1, 1, .null, 0, 0, 0, [], []), (41, .aload_n 0, 1, .null, 0, 0, 0, [], []), (42, .getfield 12, 3, .null, 9, 0, 2, [], [])]
def zc108_2 : List zN := [(45, .getfield 185, 3, .null, 6, 3, 0, [], []), (48, .invokevirtual 223, 3, .null, 42, 2, 4, [], []), (51, .invokevirtual 234, 3, .null, 21, 2, 1, [], []), (54, .aload_n 0, 1, .null, 0, 0, 0, [], []), (55, .getfield 34, 3, .null, 9, 4, 2, [], []), (58, .iload_n 1, 1, .null, 0, 0, 0, [], []), (59, .invokevirtual 238, 3, .null, 23, 1, 1, [], []), (62, .ireturn, 1, .null, 0, 0, 0, [], [])]
def zc108 : List (Nat × List zN) := [(21, zc108_0), (42, zc108_1), (62, zc108_2)]
/-- SugarBelow.brings(II)J -/
def zc109_0 : List zN := [(0, .iload_n 1, 1, .null, 0, 0, 0, [], []), (1, .invokestatic 110, 3, .null, 126, 1, 0, [], []), (4, .ifCond .ne 11, 3, .null, 15, 0, 0, [], []), (7, .aload_n 0, 1, .null, 0, 0, 0, [], []), (8, .iload_n 2, 1, .null, 0, 0, 0, [], []), (9, .invokevirtual 94, 3, .null, 128, 1, 9, [], []), (12, .ifCond .eq 7, 3, .null, 19, 0, 0, [], []), (15, .ldc2_w 188, 3, .long (-1000000000000000001), 0, 0, 0, [99], []), (18, .lreturn, 1, .null, 0, 0, 0, [], []), (19, .aload_n 0, 1, .null, 0, 0, 0, [], []), (20, .invokevirtual 192, 3, .null, 132, 0, 9, [], []), (23, .aload_n 0, 1, .null, 0, 0, 0, [], [])]
def zc109_1 : List zN := [(24, .getfield 47, 3, .null, 9, 5, 2, [], []), (27, .iload_n 1, 1, .null, 0, 0, 0, [], []), (28, .invokevirtual 213, 3, .null, 78, 1, 7, [], []), (31, .i2l, 1, .null, 0, 0, 0, [], []), (32, .lstore_n 3, 1, .null, 0, 0, 0, [], []), (33, .aload_n 0, 1, .null, 0, 0, 0, [], []), (34, .getfield 34, 3, .null, 9, 4, 2, [], []), (37, .getfield 123, 3, .null, 1, 5, 2, [], []), (40, .iload_n 1, 1, .null, 0, 0, 0, [], []), (41, .iconst 4, 1, .int 4, 0, 0, 0, [], []), (42, .imul, 1, .null, 0, 0, 0, [], []), (43, .iload_n 2, 1, .null, 0, 0, 0, [], [])]
def zc109_2 : List zN := [(44, .iadd, 1, .null, 0, 0, 0, [], []), (45, .aload_n 0, 1, .null, 0, 0, 0, [], []), (46, .getfield 34, 3, .null, 9, 4, 2, [], []), (49, .getfield 102, 3, .null, 1, 1, 2, [], []), (52, .iload_n 2, 1, .null, 0, 0, 0, [], []), (53, .iaload, 1, .null, 0, 0, 0, [], []), (54, .iconst 1, 1, .int 1, 0, 0, 0, [], []), (55, .isub, 1, .null, 0, 0, 0, [], []), (56, .iastore, 1, .null, 0, 0, 0, [], []), (57, .lload_n 3, 1, .null, 0, 0, 0, [], []), (58, .aload_n 0, 1, .null, 0, 0, 0, [], []), (59, .getfield 47, 3, .null, 9, 5, 2, [], [])]
def zc109_3 : List zN := [(62, .iload_n 1, 1, .null, 0, 0, 0, [], []), (63, .invokevirtual 213, 3, .null, 78, 1, 7, [], []), (66, .i2l, 1, .null, 0, 0, 0, [], []), (67, .lsub, 1, .null, 0, 0, 0, [], []), (68, .lreturn, 1, .null, 0, 0, 0, [], [])]
def zc109 : List (Nat × List zN) := [(23, zc109_0), (43, zc109_1), (59, zc109_2), (68, zc109_3)]
/-- SugarBelow.only(I)I -/
def zc110_0 : List zN := [(0, .iload_n 1, 1, .null, 0, 0, 0, [], []), (1, .invokestatic 110, 3, .null, 126, 1, 0, [], []), (4, .ifCond .eq 5, 3, .null, 9, 0, 0, [], []), (7, .iconst (-1), 1, .int (-1), 0, 0, 0, [], []), (8, .ireturn, 1, .null, 0, 0, 0, [], []), (9, .aload_n 0, 1, .null, 0, 0, 0, [], []), (10, .invokevirtual 192, 3, .null, 132, 0, 9, [], []), (13, .iconst 0, 1, .int 0, 0, 0, 0, [], []), (14, .istore_n 2, 1, .null, 0, 0, 0, [], []), (15, .iconst 0, 1, .int 0, 0, 0, 0, [], []), (16, .istore_n 3, 1, .null, 0, 0, 0, [], []), (17, .iload_n 3, 1, .null, 0, 0, 0, [0, 1, 2, 3], [])]
def zc110_1 : List zN := [(18, .aload_n 0, 1, .null, 0, 0, 0, [], []), (19, .getfield 12, 3, .null, 9, 0, 2, [], []), (22, .getfield 40, 3, .null, 6, 1, 2, [], []), (25, .getfield 129, 3, .null, 3, 0, 0, [], []), (28, .if_icmp .ge 27, 3, .null, 55, 0, 0, [], []), (31, .aload_n 0, 1, .null, 0, 0, 0, [], []), (32, .getfield 47, 3, .null, 9, 5, 2, [], []), (35, .iload_n 3, 1, .null, 0, 0, 0, [], []), (36, .iload_n 1, 1, .null, 0, 0, 0, [], []), (37, .invokevirtual 241, 3, .null, 81, 2, 7, [], []), (40, .ifCond .eq 9, 3, .null, 49, 0, 0, [], []), (43, .iload_n 2, 1, .null, 0, 0, 0, [], [])]
def zc110_2 : List zN := [(44, .iconst 1, 1, .int 1, 0, 0, 0, [], []), (45, .iload_n 3, 1, .null, 0, 0, 0, [], []), (46, .ishl, 1, .null, 0, 0, 0, [], []), (47, .ior, 1, .null, 0, 0, 0, [], []), (48, .istore_n 2, 1, .null, 0, 0, 0, [], []), (49, .iinc 3 1, 3, .int 1, 3, 0, 0, [0, 1, 2, 3], []), (52, .goto (-35), 3, .null, 17, 0, 0, [], []), (55, .iload_n 2, 1, .null, 0, 0, 0, [], []), (56, .ireturn, 1, .null, 0, 0, 0, [], [])]
def zc110 : List (Nat × List zN) := [(17, zc110_0), (43, zc110_1), (56, zc110_2)]
/-- SugarBelow.rest(I)I -/
def zc111_0 : List zN := [(0, .aload_n 0, 1, .null, 0, 0, 0, [], []), (1, .iconst 0, 1, .int 0, 0, 0, 0, [], []), (2, .aload_n 0, 1, .null, 0, 0, 0, [], []), (3, .getfield 12, 3, .null, 9, 0, 2, [], []), (6, .getfield 185, 3, .null, 6, 3, 0, [], []), (9, .invokevirtual 219, 3, .null, 130, 2, 9, [], []), (12, .ifCond .ne 18, 3, .null, 30, 0, 0, [], []), (15, .aload_n 0, 1, .null, 0, 0, 0, [], []), (16, .iconst 1, 1, .int 1, 0, 0, 0, [], []), (17, .aload_n 0, 1, .null, 0, 0, 0, [], []), (18, .getfield 12, 3, .null, 9, 0, 2, [], []), (21, .getfield 185, 3, .null, 6, 3, 0, [], [])]
def zc111_1 : List zN := [(24, .invokevirtual 219, 3, .null, 130, 2, 9, [], []), (27, .ifCond .eq 6, 3, .null, 33, 0, 0, [], []), (30, .bipush (-5), 2, .int (-5), 0, 0, 0, [99], []), (32, .ireturn, 1, .null, 0, 0, 0, [], []), (33, .aload_n 0, 1, .null, 0, 0, 0, [], []), (34, .invokevirtual 192, 3, .null, 132, 0, 9, [], []), (37, .aload_n 0, 1, .null, 0, 0, 0, [], []), (38, .getfield 65, 3, .null, 9, 7, 2, [], []), (41, .aload_n 0, 1, .null, 0, 0, 0, [], []), (42, .getfield 12, 3, .null, 9, 0, 2, [], []), (45, .getfield 185, 3, .null, 6, 3, 0, [], []), (48, .invokevirtual 244, 3, .null, 2, 1, 0, [], [])]
def zc111_2 : List zN := [(51, .iload_n 1, 1, .null, 0, 0, 0, [], []), (52, .iconst (-1), 1, .int (-1), 0, 0, 0, [], []), (53, .if_icmp .ne 13, 3, .null, 66, 0, 0, [], []), (56, .aload_n 0, 1, .null, 0, 0, 0, [], []), (57, .getfield 65, 3, .null, 9, 7, 2, [], []), (60, .invokevirtual 248, 3, .null, 8, 0, 0, [], []), (63, .goto 11, 3, .null, 74, 0, 0, [], []), (66, .aload_n 0, 1, .null, 0, 0, 0, [], []), (67, .getfield 65, 3, .null, 9, 7, 2, [], []), (70, .iload_n 1, 1, .null, 0, 0, 0, [], []), (71, .invokevirtual 251, 3, .null, 9, 1, 0, [], []), (74, .ireturn, 1, .null, 0, 0, 0, [99], [])]
def zc111 : List (Nat × List zN) := [(21, zc111_0), (48, zc111_1), (74, zc111_2)]
/-- SugarBelow.ring(II)I -/
def zc112_0 : List zN := [(0, .iload_n 1, 1, .null, 0, 0, 0, [], []), (1, .invokestatic 110, 3, .null, 126, 1, 0, [], []), (4, .ifCond .eq 5, 3, .null, 9, 0, 0, [], []), (7, .iconst (-1), 1, .int (-1), 0, 0, 0, [], []), (8, .ireturn, 1, .null, 0, 0, 0, [], []), (9, .iload_n 2, 1, .null, 0, 0, 0, [], []), (10, .iconst 0, 1, .int 0, 0, 0, 0, [], []), (11, .iconst 3, 1, .int 3, 0, 0, 0, [], []), (12, .invokestatic 79, 3, .null, 125, 3, 0, [], []), (15, .ifCond .eq 6, 3, .null, 21, 0, 0, [], []), (18, .bipush (-2), 2, .int (-2), 0, 0, 0, [], []), (20, .ireturn, 1, .null, 0, 0, 0, [], [])]
def zc112_1 : List zN := [(21, .aload_n 0, 1, .null, 0, 0, 0, [], []), (22, .iconst 0, 1, .int 0, 0, 0, 0, [], []), (23, .aload_n 0, 1, .null, 0, 0, 0, [], []), (24, .getfield 12, 3, .null, 9, 0, 2, [], []), (27, .getfield 185, 3, .null, 6, 3, 0, [], []), (30, .invokevirtual 219, 3, .null, 130, 2, 9, [], []), (33, .ifCond .ne 18, 3, .null, 51, 0, 0, [], []), (36, .aload_n 0, 1, .null, 0, 0, 0, [], []), (37, .iconst 1, 1, .int 1, 0, 0, 0, [], []), (38, .aload_n 0, 1, .null, 0, 0, 0, [], []), (39, .getfield 12, 3, .null, 9, 0, 2, [], []), (42, .getfield 185, 3, .null, 6, 3, 0, [], [])]
def zc112_2 : List zN := [(45, .invokevirtual 219, 3, .null, 130, 2, 9, [], []), (48, .ifCond .eq 6, 3, .null, 54, 0, 0, [], []), (51, .bipush (-5), 2, .int (-5), 0, 0, 0, [99], []), (53, .ireturn, 1, .null, 0, 0, 0, [], []), (54, .aload_n 0, 1, .null, 0, 0, 0, [], []), (55, .invokevirtual 192, 3, .null, 132, 0, 9, [], []), (58, .aload_n 0, 1, .null, 0, 0, 0, [], []), (59, .getfield 65, 3, .null, 9, 7, 2, [], []), (62, .aload_n 0, 1, .null, 0, 0, 0, [], []), (63, .getfield 12, 3, .null, 9, 0, 2, [], []), (66, .getfield 185, 3, .null, 6, 3, 0, [], []), (69, .invokevirtual 244, 3, .null, 2, 1, 0, [], [])]
def zc112_3 : List zN := [(72, .aload_n 0, 1, .null, 0, 0, 0, [], []), (73, .getfield 65, 3, .null, 9, 7, 2, [], []), (76, .iload_n 1, 1, .null, 0, 0, 0, [], []), (77, .aload_n 0, 1, .null, 0, 0, 0, [], []), (78, .getfield 12, 3, .null, 9, 0, 2, [], []), (81, .getfield 71, 3, .null, 6, 0, 2, [], []), (84, .iconst 0, 1, .int 0, 0, 0, 0, [], []), (85, .invokevirtual 216, 3, .null, 20, 1, 1, [], []), (88, .aload_n 0, 1, .null, 0, 0, 0, [], []), (89, .getfield 12, 3, .null, 9, 0, 2, [], []), (92, .getfield 71, 3, .null, 6, 0, 2, [], []), (95, .iconst 1, 1, .int 1, 0, 0, 0, [], [])]
def zc112_4 : List zN := [(96, .invokevirtual 216, 3, .null, 20, 1, 1, [], []), (99, .invokevirtual 254, 3, .null, 10, 3, 0, [], []), (102, .iload_n 2, 1, .null, 0, 0, 0, [], []), (103, .lookupswitch 41 #[(0, 25), (1, 33)], 25, .null, 144, 0, 0, [], [128, 136]), (128, .aload_n 0, 1, .null, 0, 0, 0, [], []), (129, .getfield 65, 3, .null, 9, 7, 2, [], []), (132, .getfield 258, 3, .null, 0, 0, 0, [], []), (135, .ireturn, 1, .null, 0, 0, 0, [], []), (136, .aload_n 0, 1, .null, 0, 0, 0, [], []), (137, .getfield 65, 3, .null, 9, 7, 2, [], []), (140, .getfield 261, 3, .null, 0, 1, 0, [], []), (143, .ireturn, 1, .null, 0, 0, 0, [], [])]
def zc112_5 : List zN := [(144, .aload_n 0, 1, .null, 0, 0, 0, [], []), (145, .getfield 65, 3, .null, 9, 7, 2, [], []), (148, .getfield 264, 3, .null, 0, 2, 2, [], []), (151, .iload_n 2, 1, .null, 0, 0, 0, [], []), (152, .iconst 2, 1, .int 2, 0, 0, 0, [], []), (153, .isub, 1, .null, 0, 0, 0, [], []), (154, .iaload, 1, .null, 0, 0, 0, [], []), (155, .ireturn, 1, .null, 0, 0, 0, [], [])]
def zc112 : List (Nat × List zN) := [(20, zc112_0), (42, zc112_1), (69, zc112_2), (95, zc112_3), (143, zc112_4), (155, zc112_5)]
/-- SugarBelow.heads(II)I -/
def zc113_0 : List zN := [(0, .iload_n 1, 1, .null, 0, 0, 0, [], []), (1, .invokestatic 110, 3, .null, 126, 1, 0, [], []), (4, .ifCond .ne 11, 3, .null, 15, 0, 0, [], []), (7, .aload_n 0, 1, .null, 0, 0, 0, [], []), (8, .iload_n 2, 1, .null, 0, 0, 0, [], []), (9, .invokevirtual 94, 3, .null, 128, 1, 9, [], []), (12, .ifCond .eq 5, 3, .null, 17, 0, 0, [], []), (15, .iconst (-1), 1, .int (-1), 0, 0, 0, [99], []), (16, .ireturn, 1, .null, 0, 0, 0, [], []), (17, .aload_n 0, 1, .null, 0, 0, 0, [], []), (18, .invokevirtual 192, 3, .null, 132, 0, 9, [], []), (21, .aload_n 0, 1, .null, 0, 0, 0, [], [])]
def zc113_1 : List zN := [(22, .getfield 56, 3, .null, 9, 6, 2, [], []), (25, .iload_n 1, 1, .null, 0, 0, 0, [], []), (26, .iload_n 2, 1, .null, 0, 0, 0, [], []), (27, .invokevirtual 267, 3, .null, 47, 2, 4, [], []), (30, .ireturn, 1, .null, 0, 0, 0, [], [])]
def zc113 : List (Nat × List zN) := [(21, zc113_0), (30, zc113_1)]
/-- SugarBelow.shown(II)I -/
def zc114_0 : List zN := [(0, .iload_n 1, 1, .null, 0, 0, 0, [], []), (1, .invokestatic 110, 3, .null, 126, 1, 0, [], []), (4, .ifCond .eq 5, 3, .null, 9, 0, 0, [], []), (7, .iconst (-1), 1, .int (-1), 0, 0, 0, [], []), (8, .ireturn, 1, .null, 0, 0, 0, [], []), (9, .iload_n 2, 1, .null, 0, 0, 0, [], []), (10, .iconst 0, 1, .int 0, 0, 0, 0, [], []), (11, .iconst 4, 1, .int 4, 0, 0, 0, [], []), (12, .invokestatic 79, 3, .null, 125, 3, 0, [], []), (15, .ifCond .eq 6, 3, .null, 21, 0, 0, [], []), (18, .bipush (-2), 2, .int (-2), 0, 0, 0, [], []), (20, .ireturn, 1, .null, 0, 0, 0, [], [])]
def zc114_1 : List zN := [(21, .aload_n 0, 1, .null, 0, 0, 0, [], []), (22, .invokevirtual 192, 3, .null, 132, 0, 9, [], []), (25, .aload_n 0, 1, .null, 0, 0, 0, [], []), (26, .getfield 56, 3, .null, 9, 6, 2, [], []), (29, .iload_n 1, 1, .null, 0, 0, 0, [], []), (30, .iload_n 2, 1, .null, 0, 0, 0, [], []), (31, .invokevirtual 270, 3, .null, 49, 2, 4, [], []), (34, .ireturn, 1, .null, 0, 0, 0, [], [])]
def zc114 : List (Nat × List zN) := [(20, zc114_0), (34, zc114_1)]
/-- SugarBelow.hurt()I -/
def zc115_0 : List zN := [(0, .aload_n 0, 1, .null, 0, 0, 0, [], []), (1, .iconst 0, 1, .int 0, 0, 0, 0, [], []), (2, .iconst 1, 1, .int 1, 0, 0, 0, [], []), (3, .invokevirtual 219, 3, .null, 130, 2, 9, [], []), (6, .ifCond .eq 6, 3, .null, 12, 0, 0, [], []), (9, .bipush (-5), 2, .int (-5), 0, 0, 0, [], []), (11, .ireturn, 1, .null, 0, 0, 0, [], []), (12, .aload_n 0, 1, .null, 0, 0, 0, [], []), (13, .invokevirtual 192, 3, .null, 132, 0, 9, [], []), (16, .aload_n 0, 1, .null, 0, 0, 0, [], []), (17, .getfield 56, 3, .null, 9, 6, 2, [], []), (20, .iconst 0, 1, .int 0, 0, 0, 0, [], [])]
def zc115_1 : List zN := [(21, .iconst 1, 1, .int 1, 0, 0, 0, [], []), (22, .invokevirtual 223, 3, .null, 42, 2, 4, [], []), (25, .istore_n 1, 1, .null, 0, 0, 0, [], []), (26, .aload_n 0, 1, .null, 0, 0, 0, [], []), (27, .getfield 56, 3, .null, 9, 6, 2, [], []), (30, .iconst 0, 1, .int 0, 0, 0, 0, [], []), (31, .iconst 0, 1, .int 0, 0, 0, 0, [], []), (32, .invokevirtual 223, 3, .null, 42, 2, 4, [], []), (35, .istore_n 2, 1, .null, 0, 0, 0, [], []), (36, .iconst 0, 1, .int 0, 0, 0, 0, [], []), (37, .istore_n 3, 1, .null, 0, 0, 0, [], []), (38, .iconst 0, 1, .int 0, 0, 0, 0, [], [])]
def zc115_2 : List zN := [(39, .istore 4, 2, .null, 0, 0, 0, [], []), (41, .iload 4, 2, .null, 0, 0, 0, [0, 1, 2, 3, 4], []), (43, .aload_n 0, 1, .null, 0, 0, 0, [], []), (44, .getfield 12, 3, .null, 9, 0, 2, [], []), (47, .getfield 40, 3, .null, 6, 1, 2, [], []), (50, .getfield 129, 3, .null, 3, 0, 0, [], []), (53, .if_icmp .ge 59, 3, .null, 112, 0, 0, [], []), (56, .aload_n 0, 1, .null, 0, 0, 0, [], []), (57, .getfield 34, 3, .null, 9, 4, 2, [], []), (60, .iconst 0, 1, .int 0, 0, 0, 0, [], []), (61, .iload_n 1, 1, .null, 0, 0, 0, [], []), (62, .invokevirtual 234, 3, .null, 21, 2, 1, [], [])]
def zc115_3 : List zN := [(65, .aload_n 0, 1, .null, 0, 0, 0, [], []), (66, .getfield 47, 3, .null, 9, 5, 2, [], []), (69, .iload 4, 2, .null, 0, 0, 0, [], []), (71, .invokevirtual 210, 3, .null, 79, 1, 7, [], []), (74, .istore 5, 2, .null, 0, 0, 0, [], []), (76, .aload_n 0, 1, .null, 0, 0, 0, [], []), (77, .getfield 34, 3, .null, 9, 4, 2, [], []), (80, .iconst 0, 1, .int 0, 0, 0, 0, [], []), (81, .iload_n 2, 1, .null, 0, 0, 0, [], []), (82, .invokevirtual 234, 3, .null, 21, 2, 1, [], []), (85, .iload 5, 2, .null, 0, 0, 0, [], []), (87, .aload_n 0, 1, .null, 0, 0, 0, [], [])]
def zc115_4 : List zN := [(88, .getfield 47, 3, .null, 9, 5, 2, [], []), (91, .iload 4, 2, .null, 0, 0, 0, [], []), (93, .invokevirtual 210, 3, .null, 79, 1, 7, [], []), (96, .if_icmp .ge 10, 3, .null, 106, 0, 0, [], []), (99, .iload_n 3, 1, .null, 0, 0, 0, [], []), (100, .iconst 1, 1, .int 1, 0, 0, 0, [], []), (101, .iload 4, 2, .null, 0, 0, 0, [], []), (103, .ishl, 1, .null, 0, 0, 0, [], []), (104, .ior, 1, .null, 0, 0, 0, [], []), (105, .istore_n 3, 1, .null, 0, 0, 0, [], []), (106, .iinc 4 1, 3, .int 1, 4, 0, 0, [0, 1, 2, 3, 4], []), (109, .goto (-68), 3, .null, 41, 0, 0, [], [])]
def zc115_5 : List zN := [(112, .iload_n 3, 1, .null, 0, 0, 0, [], []), (113, .ireturn, 1, .null, 0, 0, 0, [], [])]
def zc115 : List (Nat × List zN) := [(20, zc115_0), (38, zc115_1), (62, zc115_2), (87, zc115_3), (109, zc115_4), (113, zc115_5)]
/-- SugarBelow.home(IIIIII)J -/
def zc116_0 : List zN := [(0, .aload_n 0, 1, .null, 0, 0, 0, [], []), (1, .iload_n 1, 1, .null, 0, 0, 0, [], []), (2, .invokevirtual 138, 3, .null, 129, 1, 9, [], []), (5, .ifCond .ne 37, 3, .null, 42, 0, 0, [], []), (8, .iload_n 2, 1, .null, 0, 0, 0, [], []), (9, .invokestatic 110, 3, .null, 126, 1, 0, [], []), (12, .ifCond .ne 30, 3, .null, 42, 0, 0, [], []), (15, .aload_n 0, 1, .null, 0, 0, 0, [], []), (16, .iload_n 3, 1, .null, 0, 0, 0, [], []), (17, .invokevirtual 94, 3, .null, 128, 1, 9, [], []), (20, .ifCond .ne 22, 3, .null, 42, 0, 0, [], []), (23, .aload_n 0, 1, .null, 0, 0, 0, [], [])]
def zc116_1 : List zN := [(24, .getfield 12, 3, .null, 9, 0, 2, [], []), (27, .getfield 40, 3, .null, 6, 1, 2, [], []), (30, .getfield 176, 3, .null, 3, 5, 2, [], []), (33, .iload_n 1, 1, .null, 0, 0, 0, [], []), (34, .iconst 4, 1, .int 4, 0, 0, 0, [], []), (35, .imul, 1, .null, 0, 0, 0, [], []), (36, .iload_n 3, 1, .null, 0, 0, 0, [], []), (37, .iadd, 1, .null, 0, 0, 0, [], []), (38, .iaload, 1, .null, 0, 0, 0, [], []), (39, .ifCond .ne 7, 3, .null, 46, 0, 0, [], []), (42, .ldc2_w 188, 3, .long (-1000000000000000001), 0, 0, 0, [99], []), (45, .lreturn, 1, .null, 0, 0, 0, [], [])]
def zc116_2 : List zN := [(46, .iload 4, 2, .null, 0, 0, 0, [], []), (48, .iconst 0, 1, .int 0, 0, 0, 0, [], []), (49, .sipush 4095, 3, .int 4095, 0, 0, 0, [], []), (52, .invokestatic 79, 3, .null, 125, 3, 0, [], []), (55, .ifCond .ne 24, 3, .null, 79, 0, 0, [], []), (58, .iload 5, 2, .null, 0, 0, 0, [], []), (60, .iconst 1, 1, .int 1, 0, 0, 0, [], []), (61, .bipush 12, 2, .int 12, 0, 0, 0, [], []), (63, .invokestatic 79, 3, .null, 125, 3, 0, [], []), (66, .ifCond .ne 13, 3, .null, 79, 0, 0, [], []), (69, .iload 6, 2, .null, 0, 0, 0, [], []), (71, .iconst 0, 1, .int 0, 0, 0, 0, [], [])]
def zc116_3 : List zN := [(72, .iconst 2, 1, .int 2, 0, 0, 0, [], []), (73, .invokestatic 79, 3, .null, 125, 3, 0, [], []), (76, .ifCond .eq 7, 3, .null, 83, 0, 0, [], []), (79, .ldc2_w 190, 3, .long (-1000000000000000002), 0, 0, 0, [99], []), (82, .lreturn, 1, .null, 0, 0, 0, [], []), (83, .aload_n 0, 1, .null, 0, 0, 0, [], []), (84, .getfield 75, 3, .null, 9, 8, 2, [], []), (87, .iload_n 1, 1, .null, 0, 0, 0, [], []), (88, .iload_n 2, 1, .null, 0, 0, 0, [], []), (89, .iload_n 3, 1, .null, 0, 0, 0, [], []), (90, .iload 4, 2, .null, 0, 0, 0, [], []), (92, .iload 5, 2, .null, 0, 0, 0, [], [])]
def zc116_4 : List zN := [(94, .invokevirtual 273, 3, .null, 83, 5, 8, [], []), (97, .iload 6, 2, .null, 0, 0, 0, [], []), (99, .ifCond .ne 12, 3, .null, 111, 0, 0, [], []), (102, .aload_n 0, 1, .null, 0, 0, 0, [], []), (103, .getfield 75, 3, .null, 9, 8, 2, [], []), (106, .getfield 277, 3, .null, 8, 0, 0, [], []), (109, .i2l, 1, .null, 0, 0, 0, [], []), (110, .lreturn, 1, .null, 0, 0, 0, [], []), (111, .iload 6, 2, .null, 0, 0, 0, [], []), (113, .iconst 1, 1, .int 1, 0, 0, 0, [], []), (114, .if_icmp .ne 14, 3, .null, 128, 0, 0, [], []), (117, .aload_n 0, 1, .null, 0, 0, 0, [], [])]
def zc116_5 : List zN := [(118, .getfield 75, 3, .null, 9, 8, 2, [], []), (121, .getfield 278, 3, .null, 8, 1, 0, [], []), (124, .i2l, 1, .null, 0, 0, 0, [], []), (125, .goto 11, 3, .null, 136, 0, 0, [], []), (128, .aload_n 0, 1, .null, 0, 0, 0, [], []), (129, .getfield 75, 3, .null, 9, 8, 2, [], []), (132, .getfield 281, 3, .null, 8, 2, 0, [], []), (135, .i2l, 1, .null, 0, 0, 0, [], []), (136, .lreturn, 1, .null, 0, 0, 0, [99], [])]
def zc116 : List (Nat × List zN) := [(23, zc116_0), (45, zc116_1), (71, zc116_2), (92, zc116_3), (117, zc116_4), (136, zc116_5)]
/-- SugarBelow.slip(I)I -/
def zc117_0 : List zN := [(0, .iload_n 1, 1, .null, 0, 0, 0, [], []), (1, .iconst 0, 1, .int 0, 0, 0, 0, [], []), (2, .bipush 15, 2, .int 15, 0, 0, 0, [], []), (4, .invokestatic 79, 3, .null, 125, 3, 0, [], []), (7, .ifCond .eq 6, 3, .null, 13, 0, 0, [], []), (10, .bipush (-2), 2, .int (-2), 0, 0, 0, [], []), (12, .ireturn, 1, .null, 0, 0, 0, [], []), (13, .aload_n 0, 1, .null, 0, 0, 0, [], []), (14, .getfield 12, 3, .null, 9, 0, 2, [], []), (17, .getfield 284, 3, .null, 6, 2, 2, [], []), (20, .getfield 288, 3, .null, 5, 0, 0, [], []), (23, .bipush 30, 2, .int 30, 0, 0, 0, [], [])]
def zc117_1 : List zN := [(25, .if_icmp .lt 8, 3, .null, 33, 0, 0, [], []), (28, .bipush (-4), 2, .int (-4), 0, 0, 0, [], []), (30, .goto 14, 3, .null, 44, 0, 0, [], []), (33, .aload_n 0, 1, .null, 0, 0, 0, [], []), (34, .getfield 12, 3, .null, 9, 0, 2, [], []), (37, .getfield 284, 3, .null, 6, 2, 2, [], []), (40, .iload_n 1, 1, .null, 0, 0, 0, [], []), (41, .invokevirtual 293, 3, .null, 55, 1, 5, [], []), (44, .ireturn, 1, .null, 0, 0, 0, [99], [])]
def zc117 : List (Nat × List zN) := [(23, zc117_0), (44, zc117_1)]
/-- SugarBelow.burn()I -/
def zc118_0 : List zN := [(0, .aload_n 0, 1, .null, 0, 0, 0, [], []), (1, .getfield 12, 3, .null, 9, 0, 2, [], []), (4, .getfield 284, 3, .null, 6, 2, 2, [], []), (7, .invokevirtual 294, 3, .null, 56, 0, 5, [], []), (10, .ireturn, 1, .null, 0, 0, 0, [], [])]
def zc118 : List (Nat × List zN) := [(10, zc118_0)]
/-- SugarBelow.with(II)I -/
def zc119_0 : List zN := [(0, .iload_n 1, 1, .null, 0, 0, 0, [], []), (1, .invokestatic 173, 3, .null, 127, 1, 0, [], []), (4, .ifCond .ne 10, 3, .null, 14, 0, 0, [], []), (7, .iload_n 2, 1, .null, 0, 0, 0, [], []), (8, .invokestatic 173, 3, .null, 127, 1, 0, [], []), (11, .ifCond .eq 5, 3, .null, 16, 0, 0, [], []), (14, .iconst (-1), 1, .int (-1), 0, 0, 0, [99], []), (15, .ireturn, 1, .null, 0, 0, 0, [], []), (16, .aload_n 0, 1, .null, 0, 0, 0, [], []), (17, .getfield 12, 3, .null, 9, 0, 2, [], []), (20, .getfield 284, 3, .null, 6, 2, 2, [], []), (23, .iconst 1, 1, .int 1, 0, 0, 0, [], [])]
def zc119_1 : List zN := [(24, .iload_n 1, 1, .null, 0, 0, 0, [], []), (25, .ishl, 1, .null, 0, 0, 0, [], []), (26, .iconst 1, 1, .int 1, 0, 0, 0, [], []), (27, .iload_n 2, 1, .null, 0, 0, 0, [], []), (28, .ishl, 1, .null, 0, 0, 0, [], []), (29, .ior, 1, .null, 0, 0, 0, [], []), (30, .invokevirtual 295, 3, .null, 57, 1, 5, [], []), (33, .ireturn, 1, .null, 0, 0, 0, [], [])]
def zc119 : List (Nat × List zN) := [(23, zc119_0), (33, zc119_1)]
/-- SugarBelow.chance(III)J -/
def zc120_0 : List zN := [(0, .iload_n 1, 1, .null, 0, 0, 0, [], []), (1, .invokestatic 173, 3, .null, 127, 1, 0, [], []), (4, .ifCond .ne 15, 3, .null, 19, 0, 0, [], []), (7, .iload_n 2, 1, .null, 0, 0, 0, [], []), (8, .invokestatic 173, 3, .null, 127, 1, 0, [], []), (11, .ifCond .ne 8, 3, .null, 19, 0, 0, [], []), (14, .iload_n 1, 1, .null, 0, 0, 0, [], []), (15, .iload_n 2, 1, .null, 0, 0, 0, [], []), (16, .if_icmp .ne 7, 3, .null, 23, 0, 0, [], []), (19, .ldc2_w 188, 3, .long (-1000000000000000001), 0, 0, 0, [99], []), (22, .lreturn, 1, .null, 0, 0, 0, [], []), (23, .iload_n 3, 1, .null, 0, 0, 0, [], [])]
def zc120_1 : List zN := [(24, .iconst 0, 1, .int 0, 0, 0, 0, [], []), (25, .iconst 1, 1, .int 1, 0, 0, 0, [], []), (26, .invokestatic 79, 3, .null, 125, 3, 0, [], []), (29, .ifCond .eq 7, 3, .null, 36, 0, 0, [], []), (32, .ldc2_w 190, 3, .long (-1000000000000000002), 0, 0, 0, [], []), (35, .lreturn, 1, .null, 0, 0, 0, [], []), (36, .aload_n 0, 1, .null, 0, 0, 0, [], []), (37, .getfield 12, 3, .null, 9, 0, 2, [], []), (40, .getfield 284, 3, .null, 6, 2, 2, [], []), (43, .getfield 288, 3, .null, 5, 0, 0, [], []), (46, .ifCond .ne 7, 3, .null, 53, 0, 0, [], []), (49, .ldc2_w 298, 3, .long (-1000000000000000003), 0, 0, 0, [], [])]
def zc120_2 : List zN := [(52, .lreturn, 1, .null, 0, 0, 0, [], []), (53, .aload_n 0, 1, .null, 0, 0, 0, [], []), (54, .getfield 12, 3, .null, 9, 0, 2, [], []), (57, .getfield 284, 3, .null, 6, 2, 2, [], []), (60, .iconst 1, 1, .int 1, 0, 0, 0, [], []), (61, .iload_n 1, 1, .null, 0, 0, 0, [], []), (62, .ishl, 1, .null, 0, 0, 0, [], []), (63, .iconst 1, 1, .int 1, 0, 0, 0, [], []), (64, .iload_n 2, 1, .null, 0, 0, 0, [], []), (65, .ishl, 1, .null, 0, 0, 0, [], []), (66, .iload_n 3, 1, .null, 0, 0, 0, [], []), (67, .invokevirtual 300, 3, .null, 58, 3, 5, [], [])]
def zc120_3 : List zN := [(70, .lreturn, 1, .null, 0, 0, 0, [], [])]
def zc120 : List (Nat × List zN) := [(23, zc120_0), (49, zc120_1), (67, zc120_2), (70, zc120_3)]
/-- SugarBelow.edge(II)I -/
def zc121_0 : List zN := [(0, .iload_n 1, 1, .null, 0, 0, 0, [], []), (1, .invokestatic 110, 3, .null, 126, 1, 0, [], []), (4, .ifCond .ne 11, 3, .null, 15, 0, 0, [], []), (7, .aload_n 0, 1, .null, 0, 0, 0, [], []), (8, .iload_n 2, 1, .null, 0, 0, 0, [], []), (9, .invokevirtual 94, 3, .null, 128, 1, 9, [], []), (12, .ifCond .eq 5, 3, .null, 17, 0, 0, [], []), (15, .iconst (-1), 1, .int (-1), 0, 0, 0, [99], []), (16, .ireturn, 1, .null, 0, 0, 0, [], []), (17, .aload_n 0, 1, .null, 0, 0, 0, [], []), (18, .iload_n 1, 1, .null, 0, 0, 0, [], []), (19, .aload_n 0, 1, .null, 0, 0, 0, [], [])]
def zc121_1 : List zN := [(20, .getfield 12, 3, .null, 9, 0, 2, [], []), (23, .getfield 185, 3, .null, 6, 3, 0, [], []), (26, .invokevirtual 219, 3, .null, 130, 2, 9, [], []), (29, .ifCond .eq 6, 3, .null, 35, 0, 0, [], []), (32, .bipush (-5), 2, .int (-5), 0, 0, 0, [], []), (34, .ireturn, 1, .null, 0, 0, 0, [], []), (35, .aload_n 0, 1, .null, 0, 0, 0, [], []), (36, .invokevirtual 192, 3, .null, 132, 0, 9, [], []), (39, .aload_n 0, 1, .null, 0, 0, 0, [], []), (40, .getfield 56, 3, .null, 9, 6, 2, [], []), (43, .iload_n 1, 1, .null, 0, 0, 0, [], []), (44, .iload_n 2, 1, .null, 0, 0, 0, [], [])]
def zc121_2 : List zN := [(45, .aload_n 0, 1, .null, 0, 0, 0, [], []), (46, .getfield 12, 3, .null, 9, 0, 2, [], []), (49, .getfield 185, 3, .null, 6, 3, 0, [], []), (52, .invokevirtual 304, 3, .null, 51, 3, 4, [], []), (55, .ireturn, 1, .null, 0, 0, 0, [], [])]
def zc121 : List (Nat × List zN) := [(19, zc121_0), (44, zc121_1), (55, zc121_2)]
/-- SugarBelow.image(I)I -/
def zc122_0 : List zN := [(0, .iload_n 1, 1, .null, 0, 0, 0, [], []), (1, .iconst 0, 1, .int 0, 0, 0, 0, [], []), (2, .iconst 1, 1, .int 1, 0, 0, 0, [], []), (3, .invokestatic 79, 3, .null, 125, 3, 0, [], []), (6, .ifCond .eq 6, 3, .null, 12, 0, 0, [], []), (9, .bipush (-2), 2, .int (-2), 0, 0, 0, [], []), (11, .ireturn, 1, .null, 0, 0, 0, [], []), (12, .aload_n 0, 1, .null, 0, 0, 0, [], []), (13, .getfield 16, 3, .null, 9, 1, 2, [], []), (16, .iload_n 1, 1, .null, 0, 0, 0, [], []), (17, .aaload, 1, .null, 0, 0, 0, [], []), (18, .aload_n 0, 1, .null, 0, 0, 0, [], [])]
def zc122_1 : List zN := [(19, .getfield 12, 3, .null, 9, 0, 2, [], []), (22, .invokevirtual 307, 3, .null, 62, 1, 6, [], []), (25, .aload_n 0, 1, .null, 0, 0, 0, [], []), (26, .getfield 20, 3, .null, 9, 2, 2, [], []), (29, .iload_n 1, 1, .null, 0, 0, 0, [], []), (30, .iconst 1, 1, .int 1, 0, 0, 0, [], []), (31, .bastore, 1, .null, 0, 0, 0, [], []), (32, .iconst 1, 1, .int 1, 0, 0, 0, [], []), (33, .ireturn, 1, .null, 0, 0, 0, [], [])]
def zc122 : List (Nat × List zN) := [(18, zc122_0), (33, zc122_1)]
/-- SugarBelow.restore(I)I -/
def zc123_0 : List zN := [(0, .iload_n 1, 1, .null, 0, 0, 0, [], []), (1, .iconst 0, 1, .int 0, 0, 0, 0, [], []), (2, .iconst 1, 1, .int 1, 0, 0, 0, [], []), (3, .invokestatic 79, 3, .null, 125, 3, 0, [], []), (6, .ifCond .eq 6, 3, .null, 12, 0, 0, [], []), (9, .bipush (-2), 2, .int (-2), 0, 0, 0, [], []), (11, .ireturn, 1, .null, 0, 0, 0, [], []), (12, .aload_n 0, 1, .null, 0, 0, 0, [], []), (13, .getfield 20, 3, .null, 9, 2, 2, [], []), (16, .iload_n 1, 1, .null, 0, 0, 0, [], []), (17, .baload, 1, .null, 0, 0, 0, [], []), (18, .ifCond .ne 6, 3, .null, 24, 0, 0, [], [])]
def zc123_1 : List zN := [(21, .bipush (-3), 2, .int (-3), 0, 0, 0, [], []), (23, .ireturn, 1, .null, 0, 0, 0, [], []), (24, .aload_n 0, 1, .null, 0, 0, 0, [], []), (25, .getfield 65, 3, .null, 9, 7, 2, [], []), (28, .invokevirtual 87, 3, .null, 1, 0, 0, [], []), (31, .aload_n 0, 1, .null, 0, 0, 0, [], []), (32, .getfield 12, 3, .null, 9, 0, 2, [], []), (35, .aload_n 0, 1, .null, 0, 0, 0, [], []), (36, .getfield 16, 3, .null, 9, 1, 2, [], []), (39, .iload_n 1, 1, .null, 0, 0, 0, [], []), (40, .aaload, 1, .null, 0, 0, 0, [], []), (41, .invokevirtual 307, 3, .null, 62, 1, 6, [], [])]
def zc123_2 : List zN := [(44, .iconst 1, 1, .int 1, 0, 0, 0, [], []), (45, .ireturn, 1, .null, 0, 0, 0, [], [])]
def zc123 : List (Nat × List zN) := [(18, zc123_0), (41, zc123_1), (45, zc123_2)]
/-- SugarBelow.told(I)I -/
def zc124_0 : List zN := [(0, .iload_n 1, 1, .null, 0, 0, 0, [], []), (1, .tableswitch 99 0 5 #[39, 50, 61, 72, 80, 88], 39, .null, 100, 0, 0, [], [40, 51, 62, 73, 81, 89]), (40, .aload_n 0, 1, .null, 0, 0, 0, [], []), (41, .getfield 12, 3, .null, 9, 0, 2, [], []), (44, .getfield 71, 3, .null, 6, 0, 2, [], []), (47, .getfield 83, 3, .null, 1, 0, 0, [], []), (50, .ireturn, 1, .null, 0, 0, 0, [], []), (51, .aload_n 0, 1, .null, 0, 0, 0, [], []), (52, .getfield 12, 3, .null, 9, 0, 2, [], []), (55, .getfield 40, 3, .null, 6, 1, 2, [], []), (58, .getfield 129, 3, .null, 3, 0, 0, [], []), (61, .ireturn, 1, .null, 0, 0, 0, [], [])]
def zc124_1 : List zN := [(62, .aload_n 0, 1, .null, 0, 0, 0, [], []), (63, .getfield 12, 3, .null, 9, 0, 2, [], []), (66, .getfield 284, 3, .null, 6, 2, 2, [], []), (69, .getfield 288, 3, .null, 5, 0, 0, [], []), (72, .ireturn, 1, .null, 0, 0, 0, [], []), (73, .aload_n 0, 1, .null, 0, 0, 0, [], []), (74, .getfield 27, 3, .null, 9, 3, 2, [], []), (77, .getfield 153, 3, .null, 2, 0, 0, [], []), (80, .ireturn, 1, .null, 0, 0, 0, [], []), (81, .aload_n 0, 1, .null, 0, 0, 0, [], []), (82, .getfield 12, 3, .null, 9, 0, 2, [], []), (85, .getfield 185, 3, .null, 6, 3, 0, [], [])]
def zc124_2 : List zN := [(88, .ireturn, 1, .null, 0, 0, 0, [], []), (89, .aload_n 0, 1, .null, 0, 0, 0, [], []), (90, .getfield 12, 3, .null, 9, 0, 2, [], []), (93, .getfield 71, 3, .null, 6, 0, 2, [], []), (96, .invokevirtual 311, 3, .null, 19, 0, 1, [], []), (99, .ireturn, 1, .null, 0, 0, 0, [], []), (100, .iload_n 1, 1, .null, 0, 0, 0, [], []), (101, .bipush 10, 2, .int 10, 0, 0, 0, [], []), (103, .bipush 21, 2, .int 21, 0, 0, 0, [], []), (105, .invokestatic 79, 3, .null, 125, 3, 0, [], []), (108, .ifCond .eq 8, 3, .null, 116, 0, 0, [], []), (111, .bipush (-2), 2, .int (-2), 0, 0, 0, [], [])]
def zc124_3 : List zN := [(113, .goto 17, 3, .null, 130, 0, 0, [], []), (116, .aload_n 0, 1, .null, 0, 0, 0, [], []), (117, .getfield 12, 3, .null, 9, 0, 2, [], []), (120, .getfield 71, 3, .null, 6, 0, 2, [], []), (123, .iload_n 1, 1, .null, 0, 0, 0, [], []), (124, .bipush 10, 2, .int 10, 0, 0, 0, [], []), (126, .isub, 1, .null, 0, 0, 0, [], []), (127, .invokevirtual 314, 3, .null, 18, 1, 1, [], []), (130, .ireturn, 1, .null, 0, 0, 0, [99], [])]
def zc124 : List (Nat × List zN) := [(61, zc124_0), (85, zc124_1), (111, zc124_2), (130, zc124_3)]
/-- SugarBelow.isOut(III)Z -/
def zc125_0 : List zN := [(0, .iload_n 0, 1, .null, 0, 0, 0, [], []), (1, .iload_n 1, 1, .null, 0, 0, 0, [], []), (2, .if_icmp .lt 8, 3, .null, 10, 0, 0, [], []), (5, .iload_n 0, 1, .null, 0, 0, 0, [], []), (6, .iload_n 2, 1, .null, 0, 0, 0, [], []), (7, .if_icmp .le 7, 3, .null, 14, 0, 0, [], []), (10, .iconst 1, 1, .int 1, 0, 0, 0, [99], []), (11, .goto 4, 3, .null, 15, 0, 0, [], []), (14, .iconst 0, 1, .int 0, 0, 0, 0, [], []), (15, .ireturn, 1, .null, 0, 0, 1, [99], [])]
def zc125 : List (Nat × List zN) := [(15, zc125_0)]
/-- SugarBelow.noShop(I)Z -/
def zc126_0 : List zN := [(0, .iload_n 0, 1, .null, 0, 0, 0, [], []), (1, .iconst 0, 1, .int 0, 0, 0, 0, [], []), (2, .iconst 1, 1, .int 1, 0, 0, 0, [], []), (3, .invokestatic 79, 3, .null, 125, 3, 0, [], []), (6, .ireturn, 1, .null, 0, 0, 1, [], [])]
def zc126 : List (Nat × List zN) := [(6, zc126_0)]
/-- SugarBelow.noLetter(I)Z -/
def zc127_0 : List zN := [(0, .iload_n 0, 1, .null, 0, 0, 0, [], []), (1, .iconst 0, 1, .int 0, 0, 0, 0, [], []), (2, .iconst 3, 1, .int 3, 0, 0, 0, [], []), (3, .invokestatic 79, 3, .null, 125, 3, 0, [], []), (6, .ireturn, 1, .null, 0, 0, 1, [], [])]
def zc127 : List (Nat × List zN) := [(6, zc127_0)]
/-- SugarBelow.noThing(I)Z -/
def zc128_0 : List zN := [(0, .iload_n 1, 1, .null, 0, 0, 0, [], []), (1, .iconst 0, 1, .int 0, 0, 0, 0, [], []), (2, .aload_n 0, 1, .null, 0, 0, 0, [], []), (3, .getfield 12, 3, .null, 9, 0, 2, [], []), (6, .getfield 71, 3, .null, 6, 0, 2, [], []), (9, .getfield 83, 3, .null, 1, 0, 0, [], []), (12, .iconst 1, 1, .int 1, 0, 0, 0, [], []), (13, .isub, 1, .null, 0, 0, 0, [], []), (14, .invokestatic 79, 3, .null, 125, 3, 0, [], []), (17, .ireturn, 1, .null, 0, 0, 1, [], [])]
def zc128 : List (Nat × List zN) := [(17, zc128_0)]
/-- SugarBelow.noSort(I)Z -/
def zc129_0 : List zN := [(0, .iload_n 1, 1, .null, 0, 0, 0, [], []), (1, .iconst 0, 1, .int 0, 0, 0, 0, [], []), (2, .aload_n 0, 1, .null, 0, 0, 0, [], []), (3, .getfield 12, 3, .null, 9, 0, 2, [], []), (6, .getfield 40, 3, .null, 6, 1, 2, [], []), (9, .getfield 129, 3, .null, 3, 0, 0, [], []), (12, .iconst 1, 1, .int 1, 0, 0, 0, [], []), (13, .isub, 1, .null, 0, 0, 0, [], []), (14, .invokestatic 79, 3, .null, 125, 3, 0, [], []), (17, .ireturn, 1, .null, 0, 0, 1, [], [])]
def zc129 : List (Nat × List zN) := [(17, zc129_0)]
/-- SugarBelow.forbidsAll(II)Z -/
def zc130_0 : List zN := [(0, .iload_n 2, 1, .null, 0, 0, 0, [], []), (1, .iconst 1, 1, .int 1, 0, 0, 0, [], []), (2, .if_icmp .ne 21, 3, .null, 23, 0, 0, [], []), (5, .aload_n 0, 1, .null, 0, 0, 0, [], []), (6, .getfield 12, 3, .null, 9, 0, 2, [], []), (9, .getfield 71, 3, .null, 6, 0, 2, [], []), (12, .iload_n 1, 1, .null, 0, 0, 0, [], []), (13, .invokevirtual 317, 3, .null, 25, 1, 1, [], []), (16, .ifCond .ne 7, 3, .null, 23, 0, 0, [], []), (19, .iconst 1, 1, .int 1, 0, 0, 0, [], []), (20, .goto 4, 3, .null, 24, 0, 0, [], []), (23, .iconst 0, 1, .int 0, 0, 0, 0, [99], [])]
def zc130_1 : List zN := [(24, .ireturn, 1, .null, 0, 0, 1, [99], [])]
def zc130 : List (Nat × List zN) := [(23, zc130_0), (24, zc130_1)]
/-- SugarBelow.exchange([III)I -/
def zc131_0 : List zN := [(0, .iload_n 2, 1, .null, 0, 0, 0, [], []), (1, .iconst 0, 1, .int 0, 0, 0, 0, [], []), (2, .aload_n 1, 1, .null, 0, 0, 0, [], []), (3, .arraylength, 1, .null, 0, 0, 0, [], []), (4, .iconst 1, 1, .int 1, 0, 0, 0, [], []), (5, .isub, 1, .null, 0, 0, 0, [], []), (6, .invokestatic 79, 3, .null, 125, 3, 0, [], []), (9, .ifCond .eq 5, 3, .null, 14, 0, 0, [], []), (12, .iconst (-1), 1, .int (-1), 0, 0, 0, [], []), (13, .ireturn, 1, .null, 0, 0, 0, [], []), (14, .aload_n 0, 1, .null, 0, 0, 0, [], []), (15, .getfield 65, 3, .null, 9, 7, 2, [], [])]
def zc131_1 : List zN := [(18, .invokevirtual 87, 3, .null, 1, 0, 0, [], []), (21, .aload_n 1, 1, .null, 0, 0, 0, [], []), (22, .iload_n 2, 1, .null, 0, 0, 0, [], []), (23, .iaload, 1, .null, 0, 0, 0, [], []), (24, .istore 4, 2, .null, 0, 0, 0, [], []), (26, .aload_n 1, 1, .null, 0, 0, 0, [], []), (27, .iload_n 2, 1, .null, 0, 0, 0, [], []), (28, .iload_n 3, 1, .null, 0, 0, 0, [], []), (29, .iastore, 1, .null, 0, 0, 0, [], []), (30, .iload 4, 2, .null, 0, 0, 0, [], []), (32, .ireturn, 1, .null, 0, 0, 0, [], [])]
def zc131 : List (Nat × List zN) := [(15, zc131_0), (32, zc131_1)]
/-- SugarBelow.lookAsItIs()V -/
def zc132_0 : List zN := [(0, .aload_n 0, 1, .null, 0, 0, 0, [], []), (1, .getfield 34, 3, .null, 9, 4, 2, [], []), (4, .aload_n 0, 1, .null, 0, 0, 0, [], []), (5, .getfield 12, 3, .null, 9, 0, 2, [], []), (8, .getfield 71, 3, .null, 6, 0, 2, [], []), (11, .invokevirtual 320, 3, .null, 13, 1, 1, [], []), (14, .aload_n 0, 1, .null, 0, 0, 0, [], []), (15, .getfield 47, 3, .null, 9, 5, 2, [], []), (18, .invokevirtual 323, 3, .null, 64, 0, 7, [], []), (21, .return_, 1, .null, 0, 0, 0, [], [])]
def zc132 : List (Nat × List zN) := [(21, zc132_0)]
/-- SugarBelowModel.<init>()V -/
def zc133_0 : List zN := [(0, .aload_n 0, 1, .null, 0, 0, 0, [], []), (1, .invokespecial 1, 3, .null, 0, 0, 0, [], []), (4, .aload_n 0, 1, .null, 0, 0, 0, [], []), (5, .bipush 8, 2, .int 8, 0, 0, 0, [], []), (7, .newarray .int, 2, .null, 0, 0, 0, [], []), (9, .putfield 7, 3, .null, 10, 0, 2, [], []), (12, .aload_n 0, 1, .null, 0, 0, 0, [], []), (13, .bipush 8, 2, .int 8, 0, 0, 0, [], []), (15, .newarray .int, 2, .null, 0, 0, 0, [], []), (17, .putfield 13, 3, .null, 10, 1, 2, [], []), (20, .aload_n 0, 1, .null, 0, 0, 0, [], []), (21, .bipush 8, 2, .int 8, 0, 0, 0, [], [])]
def zc133_1 : List zN := [(23, .newarray .int, 2, .null, 0, 0, 0, [], []), (25, .putfield 16, 3, .null, 10, 2, 2, [], []), (28, .aload_n 0, 1, .null, 0, 0, 0, [], []), (29, .iconst 2, 1, .int 2, 0, 0, 0, [], []), (30, .newarray .int, 2, .null, 0, 0, 0, [], []), (32, .putfield 19, 3, .null, 10, 3, 2, [], []), (35, .aload_n 0, 1, .null, 0, 0, 0, [], []), (36, .bipush 12, 2, .int 12, 0, 0, 0, [], []), (38, .newarray .int, 2, .null, 0, 0, 0, [], []), (40, .putfield 22, 3, .null, 10, 4, 2, [], []), (43, .aload_n 0, 1, .null, 0, 0, 0, [], []), (44, .iconst 4, 1, .int 4, 0, 0, 0, [], [])]
def zc133_2 : List zN := [(45, .newarray .int, 2, .null, 0, 0, 0, [], []), (47, .putfield 25, 3, .null, 10, 5, 2, [], []), (50, .aload_n 0, 1, .null, 0, 0, 0, [], []), (51, .iconst 5, 1, .int 5, 0, 0, 0, [], []), (52, .newarray .int, 2, .null, 0, 0, 0, [], []), (54, .putfield 28, 3, .null, 10, 7, 2, [], []), (57, .aload_n 0, 1, .null, 0, 0, 0, [], []), (58, .bipush 10, 2, .int 10, 0, 0, 0, [], []), (60, .newarray .int, 2, .null, 0, 0, 0, [], []), (62, .putfield 31, 3, .null, 10, 8, 2, [], []), (65, .aload_n 0, 1, .null, 0, 0, 0, [], []), (66, .iconst 5, 1, .int 5, 0, 0, 0, [], [])]
def zc133_3 : List zN := [(67, .newarray .int, 2, .null, 0, 0, 0, [], []), (69, .putfield 34, 3, .null, 10, 9, 2, [], []), (72, .aload_n 0, 1, .null, 0, 0, 0, [], []), (73, .iconst 5, 1, .int 5, 0, 0, 0, [], []), (74, .newarray .int, 2, .null, 0, 0, 0, [], []), (76, .putfield 37, 3, .null, 10, 10, 2, [], []), (79, .aload_n 0, 1, .null, 0, 0, 0, [], []), (80, .bipush 20, 2, .int 20, 0, 0, 0, [], []), (82, .newarray .int, 2, .null, 0, 0, 0, [], []), (84, .putfield 40, 3, .null, 10, 11, 2, [], []), (87, .aload_n 0, 1, .null, 0, 0, 0, [], []), (88, .bipush 20, 2, .int 20, 0, 0, 0, [], [])]
def zc133_4 : List zN := [(90, .newarray .int, 2, .null, 0, 0, 0, [], []), (92, .putfield 43, 3, .null, 10, 12, 2, [], []), (95, .aload_n 0, 1, .null, 0, 0, 0, [], []), (96, .bipush 20, 2, .int 20, 0, 0, 0, [], []), (98, .newarray .int, 2, .null, 0, 0, 0, [], []), (100, .putfield 46, 3, .null, 10, 13, 2, [], []), (103, .aload_n 0, 1, .null, 0, 0, 0, [], []), (104, .bipush 40, 2, .int 40, 0, 0, 0, [], []), (106, .newarray .int, 2, .null, 0, 0, 0, [], []), (108, .putfield 49, 3, .null, 10, 15, 2, [], []), (111, .aload_n 0, 1, .null, 0, 0, 0, [], []), (112, .sipush 13122, 3, .int 13122, 0, 0, 0, [], [])]
def zc133_5 : List zN := [(115, .newarray .int, 2, .null, 0, 0, 0, [], []), (117, .putfield 52, 3, .null, 10, 20, 2, [], []), (120, .aload_n 0, 1, .null, 0, 0, 0, [], []), (121, .sipush 162, 3, .int 162, 0, 0, 0, [], []), (124, .newarray .int, 2, .null, 0, 0, 0, [], []), (126, .putfield 55, 3, .null, 10, 21, 2, [], []), (129, .aload_n 0, 1, .null, 0, 0, 0, [], []), (130, .sipush 162, 3, .int 162, 0, 0, 0, [], []), (133, .newarray .boolean, 2, .null, 1, 0, 0, [], []), (135, .putfield 58, 3, .null, 10, 22, 2, [], []), (138, .aload_n 0, 1, .null, 0, 0, 0, [], []), (139, .sipush 13122, 3, .int 13122, 0, 0, 0, [], [])]
def zc133_6 : List zN := [(142, .newarray .int, 2, .null, 0, 0, 0, [], []), (144, .putfield 62, 3, .null, 10, 23, 2, [], []), (147, .aload_n 0, 1, .null, 0, 0, 0, [], []), (148, .bipush 30, 2, .int 30, 0, 0, 0, [], []), (150, .newarray .int, 2, .null, 0, 0, 0, [], []), (152, .putfield 65, 3, .null, 10, 28, 2, [], []), (155, .aload_n 0, 1, .null, 0, 0, 0, [], []), (156, .sipush 400, 3, .int 400, 0, 0, 0, [], []), (159, .newarray .int, 2, .null, 0, 0, 0, [], []), (161, .putfield 68, 3, .null, 10, 30, 2, [], []), (164, .aload_n 0, 1, .null, 0, 0, 0, [], []), (165, .iconst 2, 1, .int 2, 0, 0, 0, [], [])]
def zc133_7 : List zN := [(166, .newarray .boolean, 2, .null, 1, 0, 0, [], []), (168, .putfield 71, 3, .null, 10, 31, 2, [], []), (171, .return_, 1, .null, 0, 0, 0, [], [])]
def zc133 : List (Nat × List zN) := [(21, zc133_0), (44, zc133_1), (66, zc133_2), (88, zc133_3), (112, zc133_4), (139, zc133_5), (165, zc133_6), (171, zc133_7)]
/-- SugarBelowModel.in(JJJ)Z -/
def zc134_0 : List zN := [(0, .lload_n 0, 1, .null, 0, 0, 0, [], []), (1, .lload_n 2, 1, .null, 0, 0, 0, [], []), (2, .lcmp, 1, .null, 0, 0, 0, [], []), (3, .ifCond .lt 14, 3, .null, 17, 0, 0, [], []), (6, .lload_n 0, 1, .null, 0, 0, 0, [], []), (7, .lload 4, 2, .null, 0, 0, 0, [], []), (9, .lcmp, 1, .null, 0, 0, 0, [], []), (10, .ifCond .gt 7, 3, .null, 17, 0, 0, [], []), (13, .iconst 1, 1, .int 1, 0, 0, 0, [], []), (14, .goto 4, 3, .null, 18, 0, 0, [], []), (17, .iconst 0, 1, .int 0, 0, 0, 0, [99], []), (18, .ireturn, 1, .null, 0, 0, 1, [99], [])]
def zc134 : List (Nat × List zN) := [(18, zc134_0)]
/-- SugarBelowModel.ones(I)I -/
def zc135_0 : List zN := [(0, .iconst 0, 1, .int 0, 0, 0, 0, [], []), (1, .istore_n 1, 1, .null, 0, 0, 0, [], []), (2, .iconst 0, 1, .int 0, 0, 0, 0, [], []), (3, .istore_n 2, 1, .null, 0, 0, 0, [], []), (4, .iload_n 2, 1, .null, 0, 0, 0, [0, 1, 2], []), (5, .iconst 4, 1, .int 4, 0, 0, 0, [], []), (6, .if_icmp .ge 17, 3, .null, 23, 0, 0, [], []), (9, .iload_n 1, 1, .null, 0, 0, 0, [], []), (10, .iload_n 0, 1, .null, 0, 0, 0, [], []), (11, .iload_n 2, 1, .null, 0, 0, 0, [], []), (12, .ishr, 1, .null, 0, 0, 0, [], []), (13, .iconst 1, 1, .int 1, 0, 0, 0, [], [])]
def zc135_1 : List zN := [(14, .iand, 1, .null, 0, 0, 0, [], []), (15, .iadd, 1, .null, 0, 0, 0, [], []), (16, .istore_n 1, 1, .null, 0, 0, 0, [], []), (17, .iinc 2 1, 3, .int 1, 2, 0, 0, [], []), (20, .goto (-16), 3, .null, 4, 0, 0, [], []), (23, .iload_n 1, 1, .null, 0, 0, 0, [], []), (24, .ireturn, 1, .null, 0, 0, 0, [], [])]
def zc135 : List (Nat × List zN) := [(13, zc135_0), (24, zc135_1)]
/-- SugarBelowModel.isShop(I)Z -/
def zc136_0 : List zN := [(0, .iload_n 0, 1, .null, 0, 0, 0, [], []), (1, .i2l, 1, .null, 0, 0, 0, [], []), (2, .lconst 0, 1, .long 0, 0, 0, 0, [], []), (3, .lconst 1, 1, .long 1, 0, 0, 0, [], []), (4, .invokestatic 74, 3, .null, 134, 3, 0, [], []), (7, .ireturn, 1, .null, 0, 0, 1, [], [])]
def zc136 : List (Nat × List zN) := [(7, zc136_0)]
/-- SugarBelowModel.isThing(I)Z -/
def zc137_0 : List zN := [(0, .iload_n 1, 1, .null, 0, 0, 0, [], []), (1, .i2l, 1, .null, 0, 0, 0, [], []), (2, .lconst 0, 1, .long 0, 0, 0, 0, [], []), (3, .aload_n 0, 1, .null, 0, 0, 0, [], []), (4, .getfield 78, 3, .null, 10, 6, 0, [], []), (7, .iconst 1, 1, .int 1, 0, 0, 0, [], []), (8, .isub, 1, .null, 0, 0, 0, [], []), (9, .i2l, 1, .null, 0, 0, 0, [], []), (10, .invokestatic 74, 3, .null, 134, 3, 0, [], []), (13, .ireturn, 1, .null, 0, 0, 1, [], [])]
def zc137 : List (Nat × List zN) := [(13, zc137_0)]
/-- SugarBelowModel.isLetter(I)Z -/
def zc138_0 : List zN := [(0, .iload_n 0, 1, .null, 0, 0, 0, [], []), (1, .i2l, 1, .null, 0, 0, 0, [], []), (2, .lconst 0, 1, .long 0, 0, 0, 0, [], []), (3, .ldc2_w 82, 3, .long 3, 0, 0, 0, [], []), (6, .invokestatic 74, 3, .null, 134, 3, 0, [], []), (9, .ireturn, 1, .null, 0, 0, 1, [], [])]
def zc138 : List (Nat × List zN) := [(9, zc138_0)]
/-- SugarBelowModel.isPrice(I)Z -/
def zc139_0 : List zN := [(0, .iload_n 0, 1, .null, 0, 0, 0, [], []), (1, .i2l, 1, .null, 0, 0, 0, [], []), (2, .lconst 0, 1, .long 0, 0, 0, 0, [], []), (3, .ldc2_w 84, 3, .long 99, 0, 0, 0, [], []), (6, .invokestatic 74, 3, .null, 134, 3, 0, [], []), (9, .ireturn, 1, .null, 0, 0, 1, [], [])]
def zc139 : List (Nat × List zN) := [(9, zc139_0)]
/-- SugarBelowModel.thing(III)I -/
def zc140_0 : List zN := [(0, .iload_n 1, 1, .null, 0, 0, 0, [], []), (1, .invokestatic 86, 3, .null, 139, 1, 0, [], []), (4, .ifCond .eq 17, 3, .null, 21, 0, 0, [], []), (7, .iload_n 2, 1, .null, 0, 0, 0, [], []), (8, .invokestatic 86, 3, .null, 139, 1, 0, [], []), (11, .ifCond .eq 10, 3, .null, 21, 0, 0, [], []), (14, .iload_n 3, 1, .null, 0, 0, 0, [], []), (15, .invokestatic 86, 3, .null, 139, 1, 0, [], []), (18, .ifCond .ne 6, 3, .null, 24, 0, 0, [], []), (21, .bipush (-2), 2, .int (-2), 0, 0, 0, [99], []), (23, .ireturn, 1, .null, 0, 0, 0, [], []), (24, .aload_n 0, 1, .null, 0, 0, 0, [], [])]
def zc140_1 : List zN := [(25, .getfield 78, 3, .null, 10, 6, 0, [], []), (28, .iconst 4, 1, .int 4, 0, 0, 0, [], []), (29, .if_icmp .ne 6, 3, .null, 35, 0, 0, [], []), (32, .bipush (-4), 2, .int (-4), 0, 0, 0, [], []), (34, .ireturn, 1, .null, 0, 0, 0, [], []), (35, .aload_n 0, 1, .null, 0, 0, 0, [], []), (36, .getfield 7, 3, .null, 10, 0, 2, [], []), (39, .aload_n 0, 1, .null, 0, 0, 0, [], []), (40, .getfield 78, 3, .null, 10, 6, 0, [], []), (43, .iload_n 1, 1, .null, 0, 0, 0, [], []), (44, .iastore, 1, .null, 0, 0, 0, [], []), (45, .aload_n 0, 1, .null, 0, 0, 0, [], [])]
def zc140_2 : List zN := [(46, .getfield 7, 3, .null, 10, 0, 2, [], []), (49, .iconst 4, 1, .int 4, 0, 0, 0, [], []), (50, .aload_n 0, 1, .null, 0, 0, 0, [], []), (51, .getfield 78, 3, .null, 10, 6, 0, [], []), (54, .iadd, 1, .null, 0, 0, 0, [], []), (55, .iload_n 2, 1, .null, 0, 0, 0, [], []), (56, .iastore, 1, .null, 0, 0, 0, [], []), (57, .iconst 0, 1, .int 0, 0, 0, 0, [], []), (58, .istore 4, 2, .null, 0, 0, 0, [], []), (60, .iload 4, 2, .null, 0, 0, 0, [0, 3, 4], []), (62, .iconst 2, 1, .int 2, 0, 0, 0, [], []), (63, .if_icmp .ge 39, 3, .null, 102, 0, 0, [], [])]
def zc140_3 : List zN := [(66, .aload_n 0, 1, .null, 0, 0, 0, [], []), (67, .getfield 13, 3, .null, 10, 1, 2, [], []), (70, .iconst 4, 1, .int 4, 0, 0, 0, [], []), (71, .iload 4, 2, .null, 0, 0, 0, [], []), (73, .imul, 1, .null, 0, 0, 0, [], []), (74, .aload_n 0, 1, .null, 0, 0, 0, [], []), (75, .getfield 78, 3, .null, 10, 6, 0, [], []), (78, .iadd, 1, .null, 0, 0, 0, [], []), (79, .iconst 3, 1, .int 3, 0, 0, 0, [], []), (80, .iastore, 1, .null, 0, 0, 0, [], []), (81, .aload_n 0, 1, .null, 0, 0, 0, [], []), (82, .getfield 16, 3, .null, 10, 2, 2, [], [])]
def zc140_4 : List zN := [(85, .iconst 4, 1, .int 4, 0, 0, 0, [], []), (86, .iload 4, 2, .null, 0, 0, 0, [], []), (88, .imul, 1, .null, 0, 0, 0, [], []), (89, .aload_n 0, 1, .null, 0, 0, 0, [], []), (90, .getfield 78, 3, .null, 10, 6, 0, [], []), (93, .iadd, 1, .null, 0, 0, 0, [], []), (94, .iconst 0, 1, .int 0, 0, 0, 0, [], []), (95, .iastore, 1, .null, 0, 0, 0, [], []), (96, .iinc 4 1, 3, .int 1, 4, 0, 0, [], []), (99, .goto (-39), 3, .null, 60, 0, 0, [], []), (102, .aload_n 0, 1, .null, 0, 0, 0, [], []), (103, .getfield 22, 3, .null, 10, 4, 2, [], [])]
def zc140_5 : List zN := [(106, .iconst 3, 1, .int 3, 0, 0, 0, [], []), (107, .aload_n 0, 1, .null, 0, 0, 0, [], []), (108, .getfield 78, 3, .null, 10, 6, 0, [], []), (111, .imul, 1, .null, 0, 0, 0, [], []), (112, .iload_n 3, 1, .null, 0, 0, 0, [], []), (113, .iastore, 1, .null, 0, 0, 0, [], []), (114, .aload_n 0, 1, .null, 0, 0, 0, [], []), (115, .getfield 25, 3, .null, 10, 5, 2, [], []), (118, .aload_n 0, 1, .null, 0, 0, 0, [], []), (119, .getfield 78, 3, .null, 10, 6, 0, [], []), (122, .iconst 1, 1, .int 1, 0, 0, 0, [], []), (123, .iastore, 1, .null, 0, 0, 0, [], [])]
def zc140_6 : List zN := [(124, .aload_n 0, 1, .null, 0, 0, 0, [], []), (125, .dup, 1, .null, 0, 0, 0, [], []), (126, .getfield 78, 3, .null, 10, 6, 0, [], []), (129, .iconst 1, 1, .int 1, 0, 0, 0, [], []), (130, .iadd, 1, .null, 0, 0, 0, [], []), (131, .putfield 78, 3, .null, 10, 6, 0, [], []), (134, .aload_n 0, 1, .null, 0, 0, 0, [], []), (135, .getfield 78, 3, .null, 10, 6, 0, [], []), (138, .iconst 1, 1, .int 1, 0, 0, 0, [], []), (139, .isub, 1, .null, 0, 0, 0, [], []), (140, .ireturn, 1, .null, 0, 0, 0, [], [])]
def zc140 : List (Nat × List zN) := [(24, zc140_0), (45, zc140_1), (63, zc140_2), (82, zc140_3), (103, zc140_4), (123, zc140_5), (140, zc140_6)]
/-- SugarBelowModel.step(II)I -/
def zc141_0 : List zN := [(0, .aload_n 0, 1, .null, 0, 0, 0, [], []), (1, .iload_n 1, 1, .null, 0, 0, 0, [], []), (2, .invokevirtual 90, 3, .null, 137, 1, 10, [], []), (5, .ifCond .ne 5, 3, .null, 10, 0, 0, [], []), (8, .iconst (-1), 1, .int (-1), 0, 0, 0, [], []), (9, .ireturn, 1, .null, 0, 0, 0, [], []), (10, .iload_n 2, 1, .null, 0, 0, 0, [], []), (11, .i2l, 1, .null, 0, 0, 0, [], []), (12, .aload_n 0, 1, .null, 0, 0, 0, [], []), (13, .getfield 22, 3, .null, 10, 4, 2, [], []), (16, .iconst 3, 1, .int 3, 0, 0, 0, [], []), (17, .iload_n 1, 1, .null, 0, 0, 0, [], [])]
def zc141_1 : List zN := [(18, .imul, 1, .null, 0, 0, 0, [], []), (19, .aload_n 0, 1, .null, 0, 0, 0, [], []), (20, .getfield 25, 3, .null, 10, 5, 2, [], []), (23, .iload_n 1, 1, .null, 0, 0, 0, [], []), (24, .iaload, 1, .null, 0, 0, 0, [], []), (25, .iadd, 1, .null, 0, 0, 0, [], []), (26, .iconst 1, 1, .int 1, 0, 0, 0, [], []), (27, .isub, 1, .null, 0, 0, 0, [], []), (28, .iaload, 1, .null, 0, 0, 0, [], []), (29, .iconst 1, 1, .int 1, 0, 0, 0, [], []), (30, .iadd, 1, .null, 0, 0, 0, [], []), (31, .i2l, 1, .null, 0, 0, 0, [], [])]
def zc141_2 : List zN := [(32, .ldc2_w 84, 3, .long 99, 0, 0, 0, [], []), (35, .invokestatic 74, 3, .null, 134, 3, 0, [], []), (38, .ifCond .ne 6, 3, .null, 44, 0, 0, [], []), (41, .bipush (-2), 2, .int (-2), 0, 0, 0, [], []), (43, .ireturn, 1, .null, 0, 0, 0, [], []), (44, .aload_n 0, 1, .null, 0, 0, 0, [], []), (45, .getfield 25, 3, .null, 10, 5, 2, [], []), (48, .iload_n 1, 1, .null, 0, 0, 0, [], []), (49, .iaload, 1, .null, 0, 0, 0, [], []), (50, .iconst 3, 1, .int 3, 0, 0, 0, [], []), (51, .if_icmp .ne 6, 3, .null, 57, 0, 0, [], []), (54, .bipush (-4), 2, .int (-4), 0, 0, 0, [], [])]
def zc141_3 : List zN := [(56, .ireturn, 1, .null, 0, 0, 0, [], []), (57, .aload_n 0, 1, .null, 0, 0, 0, [], []), (58, .getfield 22, 3, .null, 10, 4, 2, [], []), (61, .iconst 3, 1, .int 3, 0, 0, 0, [], []), (62, .iload_n 1, 1, .null, 0, 0, 0, [], []), (63, .imul, 1, .null, 0, 0, 0, [], []), (64, .aload_n 0, 1, .null, 0, 0, 0, [], []), (65, .getfield 25, 3, .null, 10, 5, 2, [], []), (68, .iload_n 1, 1, .null, 0, 0, 0, [], []), (69, .iaload, 1, .null, 0, 0, 0, [], []), (70, .iadd, 1, .null, 0, 0, 0, [], []), (71, .iload_n 2, 1, .null, 0, 0, 0, [], [])]
def zc141_4 : List zN := [(72, .iastore, 1, .null, 0, 0, 0, [], []), (73, .aload_n 0, 1, .null, 0, 0, 0, [], []), (74, .getfield 25, 3, .null, 10, 5, 2, [], []), (77, .iload_n 1, 1, .null, 0, 0, 0, [], []), (78, .dup2, 1, .null, 0, 0, 0, [], []), (79, .iaload, 1, .null, 0, 0, 0, [], []), (80, .iconst 1, 1, .int 1, 0, 0, 0, [], []), (81, .iadd, 1, .null, 0, 0, 0, [], []), (82, .iastore, 1, .null, 0, 0, 0, [], []), (83, .aload_n 0, 1, .null, 0, 0, 0, [], []), (84, .getfield 25, 3, .null, 10, 5, 2, [], []), (87, .iload_n 1, 1, .null, 0, 0, 0, [], [])]
def zc141_5 : List zN := [(88, .iaload, 1, .null, 0, 0, 0, [], []), (89, .iconst 1, 1, .int 1, 0, 0, 0, [], []), (90, .isub, 1, .null, 0, 0, 0, [], []), (91, .ireturn, 1, .null, 0, 0, 0, [], [])]
def zc141 : List (Nat × List zN) := [(17, zc141_0), (31, zc141_1), (54, zc141_2), (71, zc141_3), (87, zc141_4), (91, zc141_5)]
/-- SugarBelowModel.set(IIII)I -/
def zc142_0 : List zN := [(0, .iload_n 1, 1, .null, 0, 0, 0, [], []), (1, .invokestatic 93, 3, .null, 136, 1, 0, [], []), (4, .ifCond .eq 35, 3, .null, 39, 0, 0, [], []), (7, .aload_n 0, 1, .null, 0, 0, 0, [], []), (8, .iload_n 2, 1, .null, 0, 0, 0, [], []), (9, .invokevirtual 90, 3, .null, 137, 1, 10, [], []), (12, .ifCond .eq 27, 3, .null, 39, 0, 0, [], []), (15, .iload_n 3, 1, .null, 0, 0, 0, [], []), (16, .iconst 2, 1, .int 2, 0, 0, 0, [], []), (17, .if_icmp .ne 24, 3, .null, 41, 0, 0, [], []), (20, .iload 4, 2, .null, 0, 0, 0, [], []), (22, .i2l, 1, .null, 0, 0, 0, [], [])]
def zc142_1 : List zN := [(23, .lconst 0, 1, .long 0, 0, 0, 0, [], []), (24, .aload_n 0, 1, .null, 0, 0, 0, [], []), (25, .getfield 25, 3, .null, 10, 5, 2, [], []), (28, .iload_n 2, 1, .null, 0, 0, 0, [], []), (29, .iaload, 1, .null, 0, 0, 0, [], []), (30, .iconst 1, 1, .int 1, 0, 0, 0, [], []), (31, .isub, 1, .null, 0, 0, 0, [], []), (32, .i2l, 1, .null, 0, 0, 0, [], []), (33, .invokestatic 74, 3, .null, 134, 3, 0, [], []), (36, .ifCond .ne 5, 3, .null, 41, 0, 0, [], []), (39, .iconst (-1), 1, .int (-1), 0, 0, 0, [99], []), (40, .ireturn, 1, .null, 0, 0, 0, [], [])]
def zc142_2 : List zN := [(41, .iload_n 3, 1, .null, 0, 0, 0, [0, 1, 2, 3, 4], []), (42, .i2l, 1, .null, 0, 0, 0, [], []), (43, .lconst 0, 1, .long 0, 0, 0, 0, [], []), (44, .ldc2_w 96, 3, .long 2, 0, 0, 0, [], []), (47, .invokestatic 74, 3, .null, 134, 3, 0, [], []), (50, .ifCond .eq 31, 3, .null, 81, 0, 0, [], []), (53, .iload_n 3, 1, .null, 0, 0, 0, [], []), (54, .iconst 2, 1, .int 2, 0, 0, 0, [], []), (55, .if_icmp .ge 29, 3, .null, 84, 0, 0, [], []), (58, .iload 4, 2, .null, 0, 0, 0, [], []), (60, .i2l, 1, .null, 0, 0, 0, [], []), (61, .lconst 0, 1, .long 0, 0, 0, 0, [], [])]
def zc142_3 : List zN := [(62, .iload_n 3, 1, .null, 0, 0, 0, [], []), (63, .ifCond .ne 9, 3, .null, 72, 0, 0, [], []), (66, .ldc2_w 84, 3, .long 99, 0, 0, 0, [], []), (69, .goto 6, 3, .null, 75, 0, 0, [], []), (72, .ldc2_w 82, 3, .long 3, 0, 0, 0, [], []), (75, .invokestatic 74, 3, .null, 134, 3, 0, [0, 1, 2, 3, 4], []), (78, .ifCond .ne 6, 3, .null, 84, 0, 0, [], []), (81, .bipush (-2), 2, .int (-2), 0, 0, 0, [99], []), (83, .ireturn, 1, .null, 0, 0, 0, [], []), (84, .iconst 4, 1, .int 4, 0, 0, 0, [0, 1, 2, 3, 4], []), (85, .iload_n 1, 1, .null, 0, 0, 0, [], []), (86, .imul, 1, .null, 0, 0, 0, [], [])]
def zc142_4 : List zN := [(87, .iload_n 2, 1, .null, 0, 0, 0, [], []), (88, .iadd, 1, .null, 0, 0, 0, [], []), (89, .istore 5, 2, .null, 0, 0, 0, [], []), (91, .iload_n 3, 1, .null, 0, 0, 0, [], []), (92, .ifCond .ne 13, 3, .null, 105, 0, 0, [], []), (95, .aload_n 0, 1, .null, 0, 0, 0, [], []), (96, .getfield 7, 3, .null, 10, 0, 2, [], []), (99, .iload 5, 2, .null, 0, 0, 0, [], []), (101, .iaload, 1, .null, 0, 0, 0, [], []), (102, .goto 25, 3, .null, 127, 0, 0, [], []), (105, .iload_n 3, 1, .null, 0, 0, 0, [], []), (106, .iconst 1, 1, .int 1, 0, 0, 0, [], [])]
def zc142_5 : List zN := [(107, .if_icmp .ne 13, 3, .null, 120, 0, 0, [], []), (110, .aload_n 0, 1, .null, 0, 0, 0, [], []), (111, .getfield 13, 3, .null, 10, 1, 2, [], []), (114, .iload 5, 2, .null, 0, 0, 0, [], []), (116, .iaload, 1, .null, 0, 0, 0, [], []), (117, .goto 10, 3, .null, 127, 0, 0, [], []), (120, .aload_n 0, 1, .null, 0, 0, 0, [], []), (121, .getfield 16, 3, .null, 10, 2, 2, [], []), (124, .iload 5, 2, .null, 0, 0, 0, [], []), (126, .iaload, 1, .null, 0, 0, 0, [], []), (127, .istore 6, 2, .null, 0, 0, 0, [0, 3, 4, 5], []), (129, .iload_n 3, 1, .null, 0, 0, 0, [], [])]
def zc142_6 : List zN := [(130, .ifCond .ne 15, 3, .null, 145, 0, 0, [], []), (133, .aload_n 0, 1, .null, 0, 0, 0, [], []), (134, .getfield 7, 3, .null, 10, 0, 2, [], []), (137, .iload 5, 2, .null, 0, 0, 0, [], []), (139, .iload 4, 2, .null, 0, 0, 0, [], []), (141, .iastore, 1, .null, 0, 0, 0, [], []), (142, .goto 29, 3, .null, 171, 0, 0, [], []), (145, .iload_n 3, 1, .null, 0, 0, 0, [], []), (146, .iconst 1, 1, .int 1, 0, 0, 0, [], []), (147, .if_icmp .ne 15, 3, .null, 162, 0, 0, [], []), (150, .aload_n 0, 1, .null, 0, 0, 0, [], []), (151, .getfield 13, 3, .null, 10, 1, 2, [], [])]
def zc142_7 : List zN := [(154, .iload 5, 2, .null, 0, 0, 0, [], []), (156, .iload 4, 2, .null, 0, 0, 0, [], []), (158, .iastore, 1, .null, 0, 0, 0, [], []), (159, .goto 12, 3, .null, 171, 0, 0, [], []), (162, .aload_n 0, 1, .null, 0, 0, 0, [], []), (163, .getfield 16, 3, .null, 10, 2, 2, [], []), (166, .iload 5, 2, .null, 0, 0, 0, [], []), (168, .iload 4, 2, .null, 0, 0, 0, [], []), (170, .iastore, 1, .null, 0, 0, 0, [], []), (171, .iload 6, 2, .null, 0, 0, 0, [6], []), (173, .ireturn, 1, .null, 0, 0, 0, [], [])]
def zc142 : List (Nat × List zN) := [(22, zc142_0), (40, zc142_1), (61, zc142_2), (86, zc142_3), (106, zc142_4), (129, zc142_5), (151, zc142_6), (173, zc142_7)]
/-- SugarBelowModel.show(II)I -/
def zc143_0 : List zN := [(0, .iload_n 1, 1, .null, 0, 0, 0, [], []), (1, .invokestatic 93, 3, .null, 136, 1, 0, [], []), (4, .ifCond .ne 5, 3, .null, 9, 0, 0, [], []), (7, .iconst (-1), 1, .int (-1), 0, 0, 0, [], []), (8, .ireturn, 1, .null, 0, 0, 0, [], []), (9, .iload_n 2, 1, .null, 0, 0, 0, [], []), (10, .i2l, 1, .null, 0, 0, 0, [], []), (11, .lconst 0, 1, .long 0, 0, 0, 0, [], []), (12, .ldc2_w 98, 3, .long 15, 0, 0, 0, [], []), (15, .invokestatic 74, 3, .null, 134, 3, 0, [], []), (18, .ifCond .ne 6, 3, .null, 24, 0, 0, [], []), (21, .bipush (-2), 2, .int (-2), 0, 0, 0, [], [])]
def zc143_1 : List zN := [(23, .ireturn, 1, .null, 0, 0, 0, [], []), (24, .aload_n 0, 1, .null, 0, 0, 0, [], []), (25, .getfield 19, 3, .null, 10, 3, 2, [], []), (28, .iload_n 1, 1, .null, 0, 0, 0, [], []), (29, .iaload, 1, .null, 0, 0, 0, [], []), (30, .istore_n 3, 1, .null, 0, 0, 0, [], []), (31, .aload_n 0, 1, .null, 0, 0, 0, [], []), (32, .getfield 19, 3, .null, 10, 3, 2, [], []), (35, .iload_n 1, 1, .null, 0, 0, 0, [], []), (36, .iload_n 2, 1, .null, 0, 0, 0, [], []), (37, .iastore, 1, .null, 0, 0, 0, [], []), (38, .iload_n 3, 1, .null, 0, 0, 0, [], [])]
def zc143_2 : List zN := [(39, .ireturn, 1, .null, 0, 0, 0, [], [])]
def zc143 : List (Nat × List zN) := [(21, zc143_0), (38, zc143_1), (39, zc143_2)]
/-- SugarBelowModel.priceOf(II)I -/
def zc144_0 : List zN := [(0, .aload_n 0, 1, .null, 0, 0, 0, [], []), (1, .getfield 22, 3, .null, 10, 4, 2, [], []), (4, .iconst 3, 1, .int 3, 0, 0, 0, [], []), (5, .iload_n 2, 1, .null, 0, 0, 0, [], []), (6, .imul, 1, .null, 0, 0, 0, [], []), (7, .aload_n 0, 1, .null, 0, 0, 0, [], []), (8, .getfield 16, 3, .null, 10, 2, 2, [], []), (11, .iconst 4, 1, .int 4, 0, 0, 0, [], []), (12, .iload_n 1, 1, .null, 0, 0, 0, [], []), (13, .imul, 1, .null, 0, 0, 0, [], []), (14, .iload_n 2, 1, .null, 0, 0, 0, [], []), (15, .iadd, 1, .null, 0, 0, 0, [], [])]
def zc144_1 : List zN := [(16, .iaload, 1, .null, 0, 0, 0, [], []), (17, .iadd, 1, .null, 0, 0, 0, [], []), (18, .iaload, 1, .null, 0, 0, 0, [], []), (19, .ireturn, 1, .null, 0, 0, 0, [], [])]
def zc144 : List (Nat × List zN) := [(15, zc144_0), (19, zc144_1)]
/-- SugarBelowModel.isBelow(II)Z -/
def zc145_0 : List zN := [(0, .aload_n 0, 1, .null, 0, 0, 0, [], []), (1, .iload_n 1, 1, .null, 0, 0, 0, [], []), (2, .iload_n 2, 1, .null, 0, 0, 0, [], []), (3, .invokevirtual 100, 3, .null, 144, 2, 10, [], []), (6, .aload_n 0, 1, .null, 0, 0, 0, [], []), (7, .getfield 7, 3, .null, 10, 0, 2, [], []), (10, .iconst 4, 1, .int 4, 0, 0, 0, [], []), (11, .iload_n 1, 1, .null, 0, 0, 0, [], []), (12, .imul, 1, .null, 0, 0, 0, [], []), (13, .iload_n 2, 1, .null, 0, 0, 0, [], []), (14, .iadd, 1, .null, 0, 0, 0, [], []), (15, .iaload, 1, .null, 0, 0, 0, [], [])]
def zc145_1 : List zN := [(16, .if_icmp .ge 7, 3, .null, 23, 0, 0, [], []), (19, .iconst 1, 1, .int 1, 0, 0, 0, [], []), (20, .goto 4, 3, .null, 24, 0, 0, [], []), (23, .iconst 0, 1, .int 0, 0, 0, 0, [], []), (24, .ireturn, 1, .null, 0, 0, 1, [99], [])]
def zc145 : List (Nat × List zN) := [(15, zc145_0), (24, zc145_1)]
/-- SugarBelowModel.isSort(I)Z -/
def zc146_0 : List zN := [(0, .iload_n 1, 1, .null, 0, 0, 0, [], []), (1, .i2l, 1, .null, 0, 0, 0, [], []), (2, .lconst 0, 1, .long 0, 0, 0, 0, [], []), (3, .aload_n 0, 1, .null, 0, 0, 0, [], []), (4, .getfield 104, 3, .null, 10, 14, 0, [], []), (7, .iconst 1, 1, .int 1, 0, 0, 0, [], []), (8, .isub, 1, .null, 0, 0, 0, [], []), (9, .i2l, 1, .null, 0, 0, 0, [], []), (10, .invokestatic 74, 3, .null, 134, 3, 0, [], []), (13, .ireturn, 1, .null, 0, 0, 1, [], [])]
def zc146 : List (Nat × List zN) := [(13, zc146_0)]
/-- SugarBelowModel.clearList(I)V -/
def zc147_0 : List zN := [(0, .iconst 0, 1, .int 0, 0, 0, 0, [], []), (1, .istore_n 2, 1, .null, 0, 0, 0, [], []), (2, .iload_n 2, 1, .null, 0, 0, 0, [0, 1, 2], []), (3, .iconst 4, 1, .int 4, 0, 0, 0, [], []), (4, .if_icmp .ge 20, 3, .null, 24, 0, 0, [], []), (7, .aload_n 0, 1, .null, 0, 0, 0, [], []), (8, .getfield 40, 3, .null, 10, 11, 2, [], []), (11, .iconst 4, 1, .int 4, 0, 0, 0, [], []), (12, .iload_n 1, 1, .null, 0, 0, 0, [], []), (13, .imul, 1, .null, 0, 0, 0, [], []), (14, .iload_n 2, 1, .null, 0, 0, 0, [], []), (15, .iadd, 1, .null, 0, 0, 0, [], [])]
def zc147_1 : List zN := [(16, .iconst 0, 1, .int 0, 0, 0, 0, [], []), (17, .iastore, 1, .null, 0, 0, 0, [], []), (18, .iinc 2 1, 3, .int 1, 2, 0, 0, [], []), (21, .goto (-19), 3, .null, 2, 0, 0, [], []), (24, .return_, 1, .null, 0, 0, 0, [], [])]
def zc147 : List (Nat × List zN) := [(15, zc147_0), (24, zc147_1)]
/-- SugarBelowModel.sort(IIII)I -/
def zc148_0 : List zN := [(0, .iload_n 1, 1, .null, 0, 0, 0, [], []), (1, .i2l, 1, .null, 0, 0, 0, [], []), (2, .lconst 1, 1, .long 1, 0, 0, 0, [], []), (3, .ldc2_w 84, 3, .long 99, 0, 0, 0, [], []), (6, .invokestatic 74, 3, .null, 134, 3, 0, [], []), (9, .ifCond .eq 30, 3, .null, 39, 0, 0, [], []), (12, .iload_n 2, 1, .null, 0, 0, 0, [], []), (13, .invokestatic 86, 3, .null, 139, 1, 0, [], []), (16, .ifCond .eq 23, 3, .null, 39, 0, 0, [], []), (19, .iload_n 3, 1, .null, 0, 0, 0, [], []), (20, .invokestatic 86, 3, .null, 139, 1, 0, [], []), (23, .ifCond .eq 16, 3, .null, 39, 0, 0, [], [])]
def zc148_1 : List zN := [(26, .iload 4, 2, .null, 0, 0, 0, [], []), (28, .i2l, 1, .null, 0, 0, 0, [], []), (29, .lconst 0, 1, .long 0, 0, 0, 0, [], []), (30, .ldc2_w 96, 3, .long 2, 0, 0, 0, [], []), (33, .invokestatic 74, 3, .null, 134, 3, 0, [], []), (36, .ifCond .ne 6, 3, .null, 42, 0, 0, [], []), (39, .bipush (-2), 2, .int (-2), 0, 0, 0, [99], []), (41, .ireturn, 1, .null, 0, 0, 0, [], []), (42, .aload_n 0, 1, .null, 0, 0, 0, [], []), (43, .getfield 104, 3, .null, 10, 14, 0, [], []), (46, .iconst 5, 1, .int 5, 0, 0, 0, [], []), (47, .if_icmp .ne 6, 3, .null, 53, 0, 0, [], [])]
def zc148_2 : List zN := [(50, .bipush (-4), 2, .int (-4), 0, 0, 0, [], []), (52, .ireturn, 1, .null, 0, 0, 0, [], []), (53, .aload_n 0, 1, .null, 0, 0, 0, [], []), (54, .getfield 28, 3, .null, 10, 7, 2, [], []), (57, .aload_n 0, 1, .null, 0, 0, 0, [], []), (58, .getfield 104, 3, .null, 10, 14, 0, [], []), (61, .iload_n 1, 1, .null, 0, 0, 0, [], []), (62, .iastore, 1, .null, 0, 0, 0, [], []), (63, .aload_n 0, 1, .null, 0, 0, 0, [], []), (64, .getfield 31, 3, .null, 10, 8, 2, [], []), (67, .iconst 2, 1, .int 2, 0, 0, 0, [], []), (68, .aload_n 0, 1, .null, 0, 0, 0, [], [])]
def zc148_3 : List zN := [(69, .getfield 104, 3, .null, 10, 14, 0, [], []), (72, .imul, 1, .null, 0, 0, 0, [], []), (73, .iload_n 2, 1, .null, 0, 0, 0, [], []), (74, .iastore, 1, .null, 0, 0, 0, [], []), (75, .aload_n 0, 1, .null, 0, 0, 0, [], []), (76, .getfield 31, 3, .null, 10, 8, 2, [], []), (79, .iconst 2, 1, .int 2, 0, 0, 0, [], []), (80, .aload_n 0, 1, .null, 0, 0, 0, [], []), (81, .getfield 104, 3, .null, 10, 14, 0, [], []), (84, .imul, 1, .null, 0, 0, 0, [], []), (85, .iconst 1, 1, .int 1, 0, 0, 0, [], []), (86, .iadd, 1, .null, 0, 0, 0, [], [])]
def zc148_4 : List zN := [(87, .iload_n 3, 1, .null, 0, 0, 0, [], []), (88, .iastore, 1, .null, 0, 0, 0, [], []), (89, .aload_n 0, 1, .null, 0, 0, 0, [], []), (90, .getfield 34, 3, .null, 10, 9, 2, [], []), (93, .aload_n 0, 1, .null, 0, 0, 0, [], []), (94, .getfield 104, 3, .null, 10, 14, 0, [], []), (97, .iload 4, 2, .null, 0, 0, 0, [], []), (99, .iastore, 1, .null, 0, 0, 0, [], []), (100, .aload_n 0, 1, .null, 0, 0, 0, [], []), (101, .getfield 37, 3, .null, 10, 10, 2, [], []), (104, .aload_n 0, 1, .null, 0, 0, 0, [], []), (105, .getfield 104, 3, .null, 10, 14, 0, [], [])]
def zc148_5 : List zN := [(108, .iconst 0, 1, .int 0, 0, 0, 0, [], []), (109, .iastore, 1, .null, 0, 0, 0, [], []), (110, .aload_n 0, 1, .null, 0, 0, 0, [], []), (111, .aload_n 0, 1, .null, 0, 0, 0, [], []), (112, .getfield 104, 3, .null, 10, 14, 0, [], []), (115, .invokevirtual 107, 3, .null, 147, 1, 10, [], []), (118, .aload_n 0, 1, .null, 0, 0, 0, [], []), (119, .dup, 1, .null, 0, 0, 0, [], []), (120, .getfield 104, 3, .null, 10, 14, 0, [], []), (123, .iconst 1, 1, .int 1, 0, 0, 0, [], []), (124, .iadd, 1, .null, 0, 0, 0, [], []), (125, .putfield 104, 3, .null, 10, 14, 0, [], [])]
def zc148_6 : List zN := [(128, .aload_n 0, 1, .null, 0, 0, 0, [], []), (129, .getfield 104, 3, .null, 10, 14, 0, [], []), (132, .iconst 1, 1, .int 1, 0, 0, 0, [], []), (133, .isub, 1, .null, 0, 0, 0, [], []), (134, .ireturn, 1, .null, 0, 0, 0, [], [])]
def zc148 : List (Nat × List zN) := [(23, zc148_0), (47, zc148_1), (68, zc148_2), (86, zc148_3), (105, zc148_4), (125, zc148_5), (134, zc148_6)]
/-- SugarBelowModel.change(III)I -/
def zc149_0 : List zN := [(0, .aload_n 0, 1, .null, 0, 0, 0, [], []), (1, .iload_n 1, 1, .null, 0, 0, 0, [], []), (2, .invokevirtual 111, 3, .null, 146, 1, 10, [], []), (5, .ifCond .ne 5, 3, .null, 10, 0, 0, [], []), (8, .iconst (-1), 1, .int (-1), 0, 0, 0, [], []), (9, .ireturn, 1, .null, 0, 0, 0, [], []), (10, .iload_n 2, 1, .null, 0, 0, 0, [], []), (11, .i2l, 1, .null, 0, 0, 0, [], []), (12, .lconst 0, 1, .long 0, 0, 0, 0, [], []), (13, .ldc2_w 114, 3, .long 4, 0, 0, 0, [], []), (16, .invokestatic 74, 3, .null, 134, 3, 0, [], []), (19, .ifCond .eq 45, 3, .null, 64, 0, 0, [], [])]
def zc149_1 : List zN := [(22, .iload_n 3, 1, .null, 0, 0, 0, [], []), (23, .i2l, 1, .null, 0, 0, 0, [], []), (24, .iload_n 2, 1, .null, 0, 0, 0, [], []), (25, .ifCond .ne 7, 3, .null, 32, 0, 0, [], []), (28, .lconst 1, 1, .long 1, 0, 0, 0, [], []), (29, .goto 4, 3, .null, 33, 0, 0, [], []), (32, .lconst 0, 1, .long 0, 0, 0, 0, [], []), (33, .iload_n 2, 1, .null, 0, 0, 0, [0, 1, 2, 3], []), (34, .iconst 3, 1, .int 3, 0, 0, 0, [], []), (35, .if_icmp .ge 9, 3, .null, 44, 0, 0, [], []), (38, .ldc2_w 84, 3, .long 99, 0, 0, 0, [], []), (41, .goto 17, 3, .null, 58, 0, 0, [], [])]
def zc149_2 : List zN := [(44, .iload_n 2, 1, .null, 0, 0, 0, [], []), (45, .iconst 3, 1, .int 3, 0, 0, 0, [], []), (46, .if_icmp .ne 9, 3, .null, 55, 0, 0, [], []), (49, .ldc2_w 96, 3, .long 2, 0, 0, 0, [], []), (52, .goto 6, 3, .null, 58, 0, 0, [], []), (55, .ldc2_w 116, 3, .long 6, 0, 0, 0, [], []), (58, .invokestatic 74, 3, .null, 134, 3, 0, [0, 1, 2, 3], []), (61, .ifCond .ne 6, 3, .null, 67, 0, 0, [], []), (64, .bipush (-2), 2, .int (-2), 0, 0, 0, [99], []), (66, .ireturn, 1, .null, 0, 0, 0, [], []), (67, .iload_n 2, 1, .null, 0, 0, 0, [], []), (68, .ifCond .ne 12, 3, .null, 80, 0, 0, [], [])]
def zc149_3 : List zN := [(71, .aload_n 0, 1, .null, 0, 0, 0, [], []), (72, .getfield 28, 3, .null, 10, 7, 2, [], []), (75, .iload_n 1, 1, .null, 0, 0, 0, [], []), (76, .iaload, 1, .null, 0, 0, 0, [], []), (77, .goto 43, 3, .null, 120, 0, 0, [], []), (80, .iload_n 2, 1, .null, 0, 0, 0, [], []), (81, .iconst 3, 1, .int 3, 0, 0, 0, [], []), (82, .if_icmp .ge 18, 3, .null, 100, 0, 0, [], []), (85, .aload_n 0, 1, .null, 0, 0, 0, [], []), (86, .getfield 31, 3, .null, 10, 8, 2, [], []), (89, .iconst 2, 1, .int 2, 0, 0, 0, [], []), (90, .iload_n 1, 1, .null, 0, 0, 0, [], [])]
def zc149_4 : List zN := [(91, .imul, 1, .null, 0, 0, 0, [], []), (92, .iload_n 2, 1, .null, 0, 0, 0, [], []), (93, .iadd, 1, .null, 0, 0, 0, [], []), (94, .iconst 1, 1, .int 1, 0, 0, 0, [], []), (95, .isub, 1, .null, 0, 0, 0, [], []), (96, .iaload, 1, .null, 0, 0, 0, [], []), (97, .goto 23, 3, .null, 120, 0, 0, [], []), (100, .iload_n 2, 1, .null, 0, 0, 0, [], []), (101, .iconst 3, 1, .int 3, 0, 0, 0, [], []), (102, .if_icmp .ne 12, 3, .null, 114, 0, 0, [], []), (105, .aload_n 0, 1, .null, 0, 0, 0, [], []), (106, .getfield 34, 3, .null, 10, 9, 2, [], [])]
def zc149_5 : List zN := [(109, .iload_n 1, 1, .null, 0, 0, 0, [], []), (110, .iaload, 1, .null, 0, 0, 0, [], []), (111, .goto 9, 3, .null, 120, 0, 0, [], []), (114, .aload_n 0, 1, .null, 0, 0, 0, [], []), (115, .getfield 37, 3, .null, 10, 10, 2, [], []), (118, .iload_n 1, 1, .null, 0, 0, 0, [], []), (119, .iaload, 1, .null, 0, 0, 0, [], []), (120, .istore 4, 2, .null, 0, 0, 0, [0, 1, 2, 3], []), (122, .iload_n 2, 1, .null, 0, 0, 0, [], []), (123, .ifCond .ne 13, 3, .null, 136, 0, 0, [], []), (126, .aload_n 0, 1, .null, 0, 0, 0, [], []), (127, .getfield 28, 3, .null, 10, 7, 2, [], [])]
def zc149_6 : List zN := [(130, .iload_n 1, 1, .null, 0, 0, 0, [], []), (131, .iload_n 3, 1, .null, 0, 0, 0, [], []), (132, .iastore, 1, .null, 0, 0, 0, [], []), (133, .goto 46, 3, .null, 179, 0, 0, [], []), (136, .iload_n 2, 1, .null, 0, 0, 0, [], []), (137, .iconst 3, 1, .int 3, 0, 0, 0, [], []), (138, .if_icmp .ge 19, 3, .null, 157, 0, 0, [], []), (141, .aload_n 0, 1, .null, 0, 0, 0, [], []), (142, .getfield 31, 3, .null, 10, 8, 2, [], []), (145, .iconst 2, 1, .int 2, 0, 0, 0, [], []), (146, .iload_n 1, 1, .null, 0, 0, 0, [], []), (147, .imul, 1, .null, 0, 0, 0, [], [])]
def zc149_7 : List zN := [(148, .iload_n 2, 1, .null, 0, 0, 0, [], []), (149, .iadd, 1, .null, 0, 0, 0, [], []), (150, .iconst 1, 1, .int 1, 0, 0, 0, [], []), (151, .isub, 1, .null, 0, 0, 0, [], []), (152, .iload_n 3, 1, .null, 0, 0, 0, [], []), (153, .iastore, 1, .null, 0, 0, 0, [], []), (154, .goto 25, 3, .null, 179, 0, 0, [], []), (157, .iload_n 2, 1, .null, 0, 0, 0, [], []), (158, .iconst 3, 1, .int 3, 0, 0, 0, [], []), (159, .if_icmp .ne 13, 3, .null, 172, 0, 0, [], []), (162, .aload_n 0, 1, .null, 0, 0, 0, [], []), (163, .getfield 34, 3, .null, 10, 9, 2, [], [])]
def zc149_8 : List zN := [(166, .iload_n 1, 1, .null, 0, 0, 0, [], []), (167, .iload_n 3, 1, .null, 0, 0, 0, [], []), (168, .iastore, 1, .null, 0, 0, 0, [], []), (169, .goto 10, 3, .null, 179, 0, 0, [], []), (172, .aload_n 0, 1, .null, 0, 0, 0, [], []), (173, .getfield 37, 3, .null, 10, 10, 2, [], []), (176, .iload_n 1, 1, .null, 0, 0, 0, [], []), (177, .iload_n 3, 1, .null, 0, 0, 0, [], []), (178, .iastore, 1, .null, 0, 0, 0, [], []), (179, .iload 4, 2, .null, 0, 0, 0, [4], []), (181, .ireturn, 1, .null, 0, 0, 0, [], [])]
def zc149 : List (Nat × List zN) := [(19, zc149_0), (41, zc149_1), (68, zc149_2), (90, zc149_3), (106, zc149_4), (127, zc149_5), (147, zc149_6), (163, zc149_7), (181, zc149_8)]
/-- SugarBelowModel.say(I)I -/
def zc150_0 : List zN := [(0, .iload_n 1, 1, .null, 0, 0, 0, [], []), (1, .i2l, 1, .null, 0, 0, 0, [], []), (2, .ldc2_w 118, 3, .long 33, 0, 0, 0, [], []), (5, .ldc2_w 120, 3, .long 126, 0, 0, 0, [], []), (8, .invokestatic 74, 3, .null, 134, 3, 0, [], []), (11, .ifCond .ne 6, 3, .null, 17, 0, 0, [], []), (14, .bipush (-2), 2, .int (-2), 0, 0, 0, [], []), (16, .ireturn, 1, .null, 0, 0, 0, [], []), (17, .aload_n 0, 1, .null, 0, 0, 0, [], []), (18, .getfield 122, 3, .null, 10, 16, 0, [], []), (21, .bipush 40, 2, .int 40, 0, 0, 0, [], []), (23, .if_icmp .ne 6, 3, .null, 29, 0, 0, [], [])]
def zc150_1 : List zN := [(26, .bipush (-4), 2, .int (-4), 0, 0, 0, [], []), (28, .ireturn, 1, .null, 0, 0, 0, [], []), (29, .aload_n 0, 1, .null, 0, 0, 0, [], []), (30, .getfield 49, 3, .null, 10, 15, 2, [], []), (33, .aload_n 0, 1, .null, 0, 0, 0, [], []), (34, .getfield 122, 3, .null, 10, 16, 0, [], []), (37, .iload_n 1, 1, .null, 0, 0, 0, [], []), (38, .iastore, 1, .null, 0, 0, 0, [], []), (39, .aload_n 0, 1, .null, 0, 0, 0, [], []), (40, .dup, 1, .null, 0, 0, 0, [], []), (41, .getfield 122, 3, .null, 10, 16, 0, [], []), (44, .iconst 1, 1, .int 1, 0, 0, 0, [], [])]
def zc150_2 : List zN := [(45, .iadd, 1, .null, 0, 0, 0, [], []), (46, .putfield 122, 3, .null, 10, 16, 0, [], []), (49, .aload_n 0, 1, .null, 0, 0, 0, [], []), (50, .getfield 122, 3, .null, 10, 16, 0, [], []), (53, .ireturn, 1, .null, 0, 0, 0, [], [])]
def zc150 : List (Nat × List zN) := [(23, zc150_0), (44, zc150_1), (53, zc150_2)]
/-- SugarBelowModel.wipe()I -/
def zc151_0 : List zN := [(0, .aload_n 0, 1, .null, 0, 0, 0, [], []), (1, .getfield 122, 3, .null, 10, 16, 0, [], []), (4, .istore_n 1, 1, .null, 0, 0, 0, [], []), (5, .aload_n 0, 1, .null, 0, 0, 0, [], []), (6, .iconst 0, 1, .int 0, 0, 0, 0, [], []), (7, .putfield 122, 3, .null, 10, 16, 0, [], []), (10, .iload_n 1, 1, .null, 0, 0, 0, [], []), (11, .ireturn, 1, .null, 0, 0, 0, [], [])]
def zc151 : List (Nat × List zN) := [(11, zc151_0)]
/-- SugarBelowModel.stepOf(II)I -/
def zc152_0 : List zN := [(0, .iload_n 2, 1, .null, 0, 0, 0, [], []), (1, .i2l, 1, .null, 0, 0, 0, [], []), (2, .ldc2_w 125, 3, .long 48, 0, 0, 0, [], []), (5, .ldc2_w 127, 3, .long 57, 0, 0, 0, [], []), (8, .invokestatic 74, 3, .null, 134, 3, 0, [], []), (11, .istore_n 3, 1, .null, 0, 0, 0, [], []), (12, .iload_n 1, 1, .null, 0, 0, 0, [], []), (13, .tableswitch 144 0 6 #[43, 91, 111, 123, 144, 144, 133], 43, .null, 157, 0, 0, [], [56, 104, 124, 136, 157, 157, 146]), (56, .iload_n 2, 1, .null, 0, 0, 0, [], []), (57, .i2l, 1, .null, 0, 0, 0, [], []), (58, .ldc2_w 129, 3, .long 97, 0, 0, 0, [], []), (61, .ldc2_w 131, 3, .long 100, 0, 0, 0, [], [])]
def zc152_1 : List zN := [(64, .invokestatic 74, 3, .null, 134, 3, 0, [], []), (67, .ifCond .eq 18, 3, .null, 85, 0, 0, [], []), (70, .aload_n 0, 1, .null, 0, 0, 0, [], []), (71, .getfield 133, 3, .null, 10, 17, 0, [], []), (74, .iload_n 2, 1, .null, 0, 0, 0, [], []), (75, .bipush 97, 2, .int 97, 0, 0, 0, [], []), (77, .isub, 1, .null, 0, 0, 0, [], []), (78, .ishr, 1, .null, 0, 0, 0, [], []), (79, .iconst 1, 1, .int 1, 0, 0, 0, [], []), (80, .iand, 1, .null, 0, 0, 0, [], []), (81, .iconst 1, 1, .int 1, 0, 0, 0, [], []), (82, .if_icmp .ne 5, 3, .null, 87, 0, 0, [], [])]
def zc152_2 : List zN := [(85, .iconst (-1), 1, .int (-1), 0, 0, 0, [99], []), (86, .ireturn, 1, .null, 0, 0, 0, [], []), (87, .aload_n 0, 1, .null, 0, 0, 0, [], []), (88, .dup, 1, .null, 0, 0, 0, [], []), (89, .getfield 133, 3, .null, 10, 17, 0, [], []), (92, .iconst 1, 1, .int 1, 0, 0, 0, [], []), (93, .iload_n 2, 1, .null, 0, 0, 0, [], []), (94, .bipush 97, 2, .int 97, 0, 0, 0, [], []), (96, .isub, 1, .null, 0, 0, 0, [], []), (97, .ishl, 1, .null, 0, 0, 0, [], []), (98, .ior, 1, .null, 0, 0, 0, [], []), (99, .putfield 133, 3, .null, 10, 17, 0, [], [])]
def zc152_3 : List zN := [(102, .iconst 1, 1, .int 1, 0, 0, 0, [], []), (103, .ireturn, 1, .null, 0, 0, 0, [], []), (104, .iload_n 2, 1, .null, 0, 0, 0, [], []), (105, .i2l, 1, .null, 0, 0, 0, [], []), (106, .ldc2_w 136, 3, .long 49, 0, 0, 0, [], []), (109, .ldc2_w 138, 3, .long 51, 0, 0, 0, [], []), (112, .invokestatic 74, 3, .null, 134, 3, 0, [], []), (115, .ifCond .eq 7, 3, .null, 122, 0, 0, [], []), (118, .iconst 2, 1, .int 2, 0, 0, 0, [], []), (119, .goto 4, 3, .null, 123, 0, 0, [], []), (122, .iconst (-1), 1, .int (-1), 0, 0, 0, [], []), (123, .ireturn, 1, .null, 0, 0, 0, [99], [])]
def zc152_4 : List zN := [(124, .iload_n 2, 1, .null, 0, 0, 0, [], []), (125, .bipush 60, 2, .int 60, 0, 0, 0, [], []), (127, .if_icmp .ne 7, 3, .null, 134, 0, 0, [], []), (130, .iconst 3, 1, .int 3, 0, 0, 0, [], []), (131, .goto 4, 3, .null, 135, 0, 0, [], []), (134, .iconst (-1), 1, .int (-1), 0, 0, 0, [], []), (135, .ireturn, 1, .null, 0, 0, 0, [99], []), (136, .iload_n 3, 1, .null, 0, 0, 0, [], []), (137, .ifCond .eq 7, 3, .null, 144, 0, 0, [], []), (140, .iconst 4, 1, .int 4, 0, 0, 0, [], []), (141, .goto 4, 3, .null, 145, 0, 0, [], []), (144, .iconst (-1), 1, .int (-1), 0, 0, 0, [], [])]
def zc152_5 : List zN := [(145, .ireturn, 1, .null, 0, 0, 0, [99], []), (146, .iload_n 3, 1, .null, 0, 0, 0, [], []), (147, .ifCond .eq 8, 3, .null, 155, 0, 0, [], []), (150, .bipush 7, 2, .int 7, 0, 0, 0, [], []), (152, .goto 4, 3, .null, 156, 0, 0, [], []), (155, .iconst (-1), 1, .int (-1), 0, 0, 0, [], []), (156, .ireturn, 1, .null, 0, 0, 0, [99], []), (157, .iload_n 3, 1, .null, 0, 0, 0, [], []), (158, .ifCond .eq 22, 3, .null, 180, 0, 0, [], []), (161, .iload_n 1, 1, .null, 0, 0, 0, [], []), (162, .iconst 4, 1, .int 4, 0, 0, 0, [], []), (163, .if_icmp .eq 9, 3, .null, 172, 0, 0, [], [])]
def zc152_6 : List zN := [(166, .iload_n 1, 1, .null, 0, 0, 0, [], []), (167, .bipush 7, 2, .int 7, 0, 0, 0, [], []), (169, .if_icmp .ne 9, 3, .null, 178, 0, 0, [], []), (172, .iload_n 1, 1, .null, 0, 0, 0, [1], []), (173, .iconst 1, 1, .int 1, 0, 0, 0, [], []), (174, .iadd, 1, .null, 0, 0, 0, [], []), (175, .goto 4, 3, .null, 179, 0, 0, [], []), (178, .iconst (-1), 1, .int (-1), 0, 0, 0, [], []), (179, .ireturn, 1, .null, 0, 0, 0, [99], []), (180, .iload_n 2, 1, .null, 0, 0, 0, [], []), (181, .bipush 126, 2, .int 126, 0, 0, 0, [], []), (183, .if_icmp .ne 14, 3, .null, 197, 0, 0, [], [])]
def zc152_7 : List zN := [(186, .iload_n 1, 1, .null, 0, 0, 0, [], []), (187, .bipush 6, 2, .int 6, 0, 0, 0, [], []), (189, .if_icmp .ge 8, 3, .null, 197, 0, 0, [], []), (192, .bipush 6, 2, .int 6, 0, 0, 0, [], []), (194, .goto 23, 3, .null, 217, 0, 0, [], []), (197, .iload_n 2, 1, .null, 0, 0, 0, [0, 2], []), (198, .bipush 59, 2, .int 59, 0, 0, 0, [], []), (200, .if_icmp .ne 16, 3, .null, 216, 0, 0, [], []), (203, .aload_n 0, 1, .null, 0, 0, 0, [], []), (204, .getfield 133, 3, .null, 10, 17, 0, [], []), (207, .bipush 15, 2, .int 15, 0, 0, 0, [], []), (209, .if_icmp .eq 7, 3, .null, 216, 0, 0, [], [])]
def zc152_8 : List zN := [(212, .iconst 0, 1, .int 0, 0, 0, 0, [], []), (213, .goto 4, 3, .null, 217, 0, 0, [], []), (216, .iconst (-1), 1, .int (-1), 0, 0, 0, [99], []), (217, .ireturn, 1, .null, 0, 0, 0, [99], [])]
def zc152 : List (Nat × List zN) := [(61, zc152_0), (82, zc152_1), (99, zc152_2), (123, zc152_3), (144, zc152_4), (163, zc152_5), (183, zc152_6), (209, zc152_7), (217, zc152_8)]
/-- SugarBelowModel.fault()I -/
def zc153_0 : List zN := [(0, .aload_n 0, 1, .null, 0, 0, 0, [], []), (1, .iconst 0, 1, .int 0, 0, 0, 0, [], []), (2, .putfield 133, 3, .null, 10, 17, 0, [], []), (5, .iconst 0, 1, .int 0, 0, 0, 0, [], []), (6, .istore_n 1, 1, .null, 0, 0, 0, [], []), (7, .iconst 0, 1, .int 0, 0, 0, 0, [], []), (8, .istore_n 2, 1, .null, 0, 0, 0, [], []), (9, .iload_n 2, 1, .null, 0, 0, 0, [0, 1, 2], []), (10, .aload_n 0, 1, .null, 0, 0, 0, [], []), (11, .getfield 122, 3, .null, 10, 16, 0, [], []), (14, .if_icmp .ge 27, 3, .null, 41, 0, 0, [], []), (17, .aload_n 0, 1, .null, 0, 0, 0, [], [])]
def zc153_1 : List zN := [(18, .iload_n 1, 1, .null, 0, 0, 0, [], []), (19, .aload_n 0, 1, .null, 0, 0, 0, [], []), (20, .getfield 49, 3, .null, 10, 15, 2, [], []), (23, .iload_n 2, 1, .null, 0, 0, 0, [], []), (24, .iaload, 1, .null, 0, 0, 0, [], []), (25, .invokevirtual 140, 3, .null, 152, 2, 10, [], []), (28, .istore_n 1, 1, .null, 0, 0, 0, [], []), (29, .iload_n 1, 1, .null, 0, 0, 0, [], []), (30, .ifCond .ge 5, 3, .null, 35, 0, 0, [], []), (33, .iload_n 2, 1, .null, 0, 0, 0, [], []), (34, .ireturn, 1, .null, 0, 0, 0, [], []), (35, .iinc 2 1, 3, .int 1, 2, 0, 0, [], [])]
def zc153_2 : List zN := [(38, .goto (-29), 3, .null, 9, 0, 0, [], []), (41, .iload_n 1, 1, .null, 0, 0, 0, [], []), (42, .iconst 4, 1, .int 4, 0, 0, 0, [], []), (43, .if_icmp .eq 20, 3, .null, 63, 0, 0, [], []), (46, .iload_n 1, 1, .null, 0, 0, 0, [], []), (47, .iconst 5, 1, .int 5, 0, 0, 0, [], []), (48, .if_icmp .eq 15, 3, .null, 63, 0, 0, [], []), (51, .iload_n 1, 1, .null, 0, 0, 0, [], []), (52, .bipush 7, 2, .int 7, 0, 0, 0, [], []), (54, .if_icmp .eq 9, 3, .null, 63, 0, 0, [], []), (57, .iload_n 1, 1, .null, 0, 0, 0, [], []), (58, .bipush 8, 2, .int 8, 0, 0, 0, [], [])]
def zc153_3 : List zN := [(60, .if_icmp .ne 8, 3, .null, 68, 0, 0, [], []), (63, .bipush (-6), 2, .int (-6), 0, 0, 0, [99], []), (65, .goto 7, 3, .null, 72, 0, 0, [], []), (68, .aload_n 0, 1, .null, 0, 0, 0, [], []), (69, .getfield 122, 3, .null, 10, 16, 0, [], []), (72, .ireturn, 1, .null, 0, 0, 0, [99], [])]
def zc153 : List (Nat × List zN) := [(17, zc153_0), (35, zc153_1), (58, zc153_2), (72, zc153_3)]
/-- SugarBelowModel.list(I)I -/
def zc154_0 : List zN := [(0, .aload_n 0, 1, .null, 0, 0, 0, [], []), (1, .iload_n 1, 1, .null, 0, 0, 0, [], []), (2, .invokevirtual 111, 3, .null, 146, 1, 10, [], []), (5, .ifCond .ne 5, 3, .null, 10, 0, 0, [], []), (8, .iconst (-1), 1, .int (-1), 0, 0, 0, [], []), (9, .ireturn, 1, .null, 0, 0, 0, [], []), (10, .aload_n 0, 1, .null, 0, 0, 0, [], []), (11, .invokevirtual 143, 3, .null, 153, 0, 10, [], []), (14, .ifCond .lt 6, 3, .null, 20, 0, 0, [], []), (17, .bipush (-5), 2, .int (-5), 0, 0, 0, [], []), (19, .ireturn, 1, .null, 0, 0, 0, [], []), (20, .aload_n 0, 1, .null, 0, 0, 0, [], [])]
def zc154_1 : List zN := [(21, .iload_n 1, 1, .null, 0, 0, 0, [], []), (22, .invokevirtual 107, 3, .null, 147, 1, 10, [], []), (25, .aload_n 0, 1, .null, 0, 0, 0, [], []), (26, .iconst 0, 1, .int 0, 0, 0, 0, [], []), (27, .putfield 133, 3, .null, 10, 17, 0, [], []), (30, .iconst 0, 1, .int 0, 0, 0, 0, [], []), (31, .istore_n 2, 1, .null, 0, 0, 0, [], []), (32, .iconst 0, 1, .int 0, 0, 0, 0, [], []), (33, .istore_n 3, 1, .null, 0, 0, 0, [], []), (34, .iconst 0, 1, .int 0, 0, 0, 0, [], []), (35, .istore 4, 2, .null, 0, 0, 0, [], []), (37, .iconst 0, 1, .int 0, 0, 0, 0, [], [])]
def zc154_2 : List zN := [(38, .istore 5, 2, .null, 0, 0, 0, [], []), (40, .iload 5, 2, .null, 0, 0, 0, [0, 1, 2, 3, 4, 5], []), (42, .aload_n 0, 1, .null, 0, 0, 0, [], []), (43, .getfield 122, 3, .null, 10, 16, 0, [], []), (46, .if_icmp .ge 179, 3, .null, 225, 0, 0, [], []), (49, .aload_n 0, 1, .null, 0, 0, 0, [], []), (50, .getfield 49, 3, .null, 10, 15, 2, [], []), (53, .iload 5, 2, .null, 0, 0, 0, [], []), (55, .iaload, 1, .null, 0, 0, 0, [], []), (56, .istore 6, 2, .null, 0, 0, 0, [], []), (58, .aload_n 0, 1, .null, 0, 0, 0, [], []), (59, .iload_n 2, 1, .null, 0, 0, 0, [], [])]
def zc154_3 : List zN := [(60, .iload 6, 2, .null, 0, 0, 0, [], []), (62, .invokevirtual 140, 3, .null, 152, 2, 10, [], []), (65, .istore_n 2, 1, .null, 0, 0, 0, [], []), (66, .iload_n 2, 1, .null, 0, 0, 0, [], []), (67, .tableswitch 152 1 8 #[45, 76, 152, 90, 90, 152, 114, 128], 45, .null, 219, 0, 0, [], [112, 143, 219, 157, 157, 219, 181, 195]), (112, .iconst 4, 1, .int 4, 0, 0, 0, [], []), (113, .iload_n 1, 1, .null, 0, 0, 0, [], []), (114, .imul, 1, .null, 0, 0, 0, [], []), (115, .iload 6, 2, .null, 0, 0, 0, [], []), (117, .iadd, 1, .null, 0, 0, 0, [], []), (118, .bipush 97, 2, .int 97, 0, 0, 0, [], []), (120, .isub, 1, .null, 0, 0, 0, [], [])]
def zc154_4 : List zN := [(121, .istore_n 3, 1, .null, 0, 0, 0, [], []), (122, .aload_n 0, 1, .null, 0, 0, 0, [], []), (123, .getfield 43, 3, .null, 10, 12, 2, [], []), (126, .iload_n 3, 1, .null, 0, 0, 0, [], []), (127, .iconst 0, 1, .int 0, 0, 0, 0, [], []), (128, .iastore, 1, .null, 0, 0, 0, [], []), (129, .aload_n 0, 1, .null, 0, 0, 0, [], []), (130, .getfield 46, 3, .null, 10, 13, 2, [], []), (133, .iload_n 3, 1, .null, 0, 0, 0, [], []), (134, .bipush (-6), 2, .int (-6), 0, 0, 0, [], []), (136, .iastore, 1, .null, 0, 0, 0, [], []), (137, .iinc 4 1, 3, .int 1, 4, 0, 0, [], [])]
def zc154_5 : List zN := [(140, .goto 79, 3, .null, 219, 0, 0, [], []), (143, .aload_n 0, 1, .null, 0, 0, 0, [], []), (144, .getfield 40, 3, .null, 10, 11, 2, [], []), (147, .iload_n 3, 1, .null, 0, 0, 0, [], []), (148, .iload 6, 2, .null, 0, 0, 0, [], []), (150, .bipush 48, 2, .int 48, 0, 0, 0, [], []), (152, .isub, 1, .null, 0, 0, 0, [], []), (153, .iastore, 1, .null, 0, 0, 0, [], []), (154, .goto 65, 3, .null, 219, 0, 0, [], []), (157, .aload_n 0, 1, .null, 0, 0, 0, [], []), (158, .getfield 43, 3, .null, 10, 12, 2, [], []), (161, .iload_n 3, 1, .null, 0, 0, 0, [], [])]
def zc154_6 : List zN := [(162, .bipush 10, 2, .int 10, 0, 0, 0, [], []), (164, .aload_n 0, 1, .null, 0, 0, 0, [], []), (165, .getfield 43, 3, .null, 10, 12, 2, [], []), (168, .iload_n 3, 1, .null, 0, 0, 0, [], []), (169, .iaload, 1, .null, 0, 0, 0, [], []), (170, .imul, 1, .null, 0, 0, 0, [], []), (171, .iload 6, 2, .null, 0, 0, 0, [], []), (173, .iadd, 1, .null, 0, 0, 0, [], []), (174, .bipush 48, 2, .int 48, 0, 0, 0, [], []), (176, .isub, 1, .null, 0, 0, 0, [], []), (177, .iastore, 1, .null, 0, 0, 0, [], []), (178, .goto 41, 3, .null, 219, 0, 0, [], [])]
def zc154_7 : List zN := [(181, .aload_n 0, 1, .null, 0, 0, 0, [], []), (182, .getfield 46, 3, .null, 10, 13, 2, [], []), (185, .iload_n 3, 1, .null, 0, 0, 0, [], []), (186, .iload 6, 2, .null, 0, 0, 0, [], []), (188, .bipush 48, 2, .int 48, 0, 0, 0, [], []), (190, .isub, 1, .null, 0, 0, 0, [], []), (191, .iastore, 1, .null, 0, 0, 0, [], []), (192, .goto 27, 3, .null, 219, 0, 0, [], []), (195, .aload_n 0, 1, .null, 0, 0, 0, [], []), (196, .getfield 46, 3, .null, 10, 13, 2, [], []), (199, .iload_n 3, 1, .null, 0, 0, 0, [], []), (200, .bipush 10, 2, .int 10, 0, 0, 0, [], [])]
def zc154_8 : List zN := [(202, .aload_n 0, 1, .null, 0, 0, 0, [], []), (203, .getfield 46, 3, .null, 10, 13, 2, [], []), (206, .iload_n 3, 1, .null, 0, 0, 0, [], []), (207, .iaload, 1, .null, 0, 0, 0, [], []), (208, .imul, 1, .null, 0, 0, 0, [], []), (209, .iload 6, 2, .null, 0, 0, 0, [], []), (211, .iadd, 1, .null, 0, 0, 0, [], []), (212, .bipush 48, 2, .int 48, 0, 0, 0, [], []), (214, .isub, 1, .null, 0, 0, 0, [], []), (215, .iastore, 1, .null, 0, 0, 0, [], []), (216, .goto 3, 3, .null, 219, 0, 0, [], []), (219, .iinc 5 1, 3, .int 1, 5, 0, 0, [0, 1, 2, 3, 4, 5], [])]
def zc154_9 : List zN := [(222, .goto (-182), 3, .null, 40, 0, 0, [], []), (225, .aload_n 0, 1, .null, 0, 0, 0, [], []), (226, .iconst 0, 1, .int 0, 0, 0, 0, [], []), (227, .putfield 122, 3, .null, 10, 16, 0, [], []), (230, .iload 4, 2, .null, 0, 0, 0, [], []), (232, .ireturn, 1, .null, 0, 0, 0, [], [])]
def zc154 : List (Nat × List zN) := [(20, zc154_0), (37, zc154_1), (59, zc154_2), (120, zc154_3), (137, zc154_4), (161, zc154_5), (178, zc154_6), (200, zc154_7), (219, zc154_8), (232, zc154_9)]
/-- SugarBelowModel.item(III)I -/
def zc155_0 : List zN := [(0, .aload_n 0, 1, .null, 0, 0, 0, [], []), (1, .iload_n 1, 1, .null, 0, 0, 0, [], []), (2, .invokevirtual 111, 3, .null, 146, 1, 10, [], []), (5, .ifCond .eq 10, 3, .null, 15, 0, 0, [], []), (8, .iload_n 2, 1, .null, 0, 0, 0, [], []), (9, .invokestatic 147, 3, .null, 138, 1, 0, [], []), (12, .ifCond .ne 5, 3, .null, 17, 0, 0, [], []), (15, .iconst (-1), 1, .int (-1), 0, 0, 0, [99], []), (16, .ireturn, 1, .null, 0, 0, 0, [], []), (17, .iload_n 3, 1, .null, 0, 0, 0, [], []), (18, .i2l, 1, .null, 0, 0, 0, [], []), (19, .lconst 0, 1, .long 0, 0, 0, 0, [], [])]
def zc155_1 : List zN := [(20, .ldc2_w 96, 3, .long 2, 0, 0, 0, [], []), (23, .invokestatic 74, 3, .null, 134, 3, 0, [], []), (26, .ifCond .ne 6, 3, .null, 32, 0, 0, [], []), (29, .bipush (-2), 2, .int (-2), 0, 0, 0, [], []), (31, .ireturn, 1, .null, 0, 0, 0, [], []), (32, .iconst 4, 1, .int 4, 0, 0, 0, [], []), (33, .iload_n 1, 1, .null, 0, 0, 0, [], []), (34, .imul, 1, .null, 0, 0, 0, [], []), (35, .iload_n 2, 1, .null, 0, 0, 0, [], []), (36, .iadd, 1, .null, 0, 0, 0, [], []), (37, .istore 4, 2, .null, 0, 0, 0, [], []), (39, .aload_n 0, 1, .null, 0, 0, 0, [], [])]
def zc155_2 : List zN := [(40, .getfield 40, 3, .null, 10, 11, 2, [], []), (43, .iload 4, 2, .null, 0, 0, 0, [], []), (45, .iaload, 1, .null, 0, 0, 0, [], []), (46, .ifCond .ne 8, 3, .null, 54, 0, 0, [], []), (49, .bipush (-6), 2, .int (-6), 0, 0, 0, [], []), (51, .goto 39, 3, .null, 90, 0, 0, [], []), (54, .iload_n 3, 1, .null, 0, 0, 0, [], []), (55, .ifCond .ne 13, 3, .null, 68, 0, 0, [], []), (58, .aload_n 0, 1, .null, 0, 0, 0, [], []), (59, .getfield 40, 3, .null, 10, 11, 2, [], []), (62, .iload 4, 2, .null, 0, 0, 0, [], []), (64, .iaload, 1, .null, 0, 0, 0, [], [])]
def zc155_3 : List zN := [(65, .goto 25, 3, .null, 90, 0, 0, [], []), (68, .iload_n 3, 1, .null, 0, 0, 0, [], []), (69, .iconst 1, 1, .int 1, 0, 0, 0, [], []), (70, .if_icmp .ne 13, 3, .null, 83, 0, 0, [], []), (73, .aload_n 0, 1, .null, 0, 0, 0, [], []), (74, .getfield 43, 3, .null, 10, 12, 2, [], []), (77, .iload 4, 2, .null, 0, 0, 0, [], []), (79, .iaload, 1, .null, 0, 0, 0, [], []), (80, .goto 10, 3, .null, 90, 0, 0, [], []), (83, .aload_n 0, 1, .null, 0, 0, 0, [], []), (84, .getfield 46, 3, .null, 10, 13, 2, [], []), (87, .iload 4, 2, .null, 0, 0, 0, [], [])]
def zc155_4 : List zN := [(89, .iaload, 1, .null, 0, 0, 0, [], []), (90, .ireturn, 1, .null, 0, 0, 0, [99], [])]
def zc155 : List (Nat × List zN) := [(19, zc155_0), (39, zc155_1), (64, zc155_2), (87, zc155_3), (90, zc155_4)]
/-- SugarBelowModel.law(I)I -/
def zc156_0 : List zN := [(0, .iload_n 1, 1, .null, 0, 0, 0, [], []), (1, .i2l, 1, .null, 0, 0, 0, [], []), (2, .lconst 0, 1, .long 0, 0, 0, 0, [], []), (3, .lconst 1, 1, .long 1, 0, 0, 0, [], []), (4, .invokestatic 74, 3, .null, 134, 3, 0, [], []), (7, .ifCond .ne 6, 3, .null, 13, 0, 0, [], []), (10, .bipush (-2), 2, .int (-2), 0, 0, 0, [], []), (12, .ireturn, 1, .null, 0, 0, 0, [], []), (13, .aload_n 0, 1, .null, 0, 0, 0, [], []), (14, .getfield 150, 3, .null, 10, 18, 0, [], []), (17, .istore_n 2, 1, .null, 0, 0, 0, [], []), (18, .aload_n 0, 1, .null, 0, 0, 0, [], [])]
def zc156_1 : List zN := [(19, .iload_n 1, 1, .null, 0, 0, 0, [], []), (20, .putfield 150, 3, .null, 10, 18, 0, [], []), (23, .iload_n 2, 1, .null, 0, 0, 0, [], []), (24, .ireturn, 1, .null, 0, 0, 0, [], [])]
def zc156 : List (Nat × List zN) := [(18, zc156_0), (24, zc156_1)]
/-- SugarBelowModel.takenFor(III)I -/
def zc157_0 : List zN := [(0, .aload_n 0, 1, .null, 0, 0, 0, [], []), (1, .getfield 46, 3, .null, 10, 13, 2, [], []), (4, .iconst 4, 1, .int 4, 0, 0, 0, [], []), (5, .iload_n 1, 1, .null, 0, 0, 0, [], []), (6, .imul, 1, .null, 0, 0, 0, [], []), (7, .iload_n 3, 1, .null, 0, 0, 0, [], []), (8, .iadd, 1, .null, 0, 0, 0, [], []), (9, .iaload, 1, .null, 0, 0, 0, [], []), (10, .istore 4, 2, .null, 0, 0, 0, [], []), (12, .iload 4, 2, .null, 0, 0, 0, [], []), (14, .ifCond .lt 17, 3, .null, 31, 0, 0, [], []), (17, .aload_n 0, 1, .null, 0, 0, 0, [], [])]
def zc157_1 : List zN := [(18, .getfield 19, 3, .null, 10, 3, 2, [], []), (21, .iload_n 2, 1, .null, 0, 0, 0, [], []), (22, .iaload, 1, .null, 0, 0, 0, [], []), (23, .iload_n 3, 1, .null, 0, 0, 0, [], []), (24, .ishr, 1, .null, 0, 0, 0, [], []), (25, .iconst 1, 1, .int 1, 0, 0, 0, [], []), (26, .iand, 1, .null, 0, 0, 0, [], []), (27, .iconst 1, 1, .int 1, 0, 0, 0, [], []), (28, .if_icmp .ne 12, 3, .null, 40, 0, 0, [], []), (31, .aload_n 0, 1, .null, 0, 0, 0, [0, 2, 3], []), (32, .iload_n 2, 1, .null, 0, 0, 0, [], []), (33, .iload_n 3, 1, .null, 0, 0, 0, [], [])]
def zc157_2 : List zN := [(34, .invokevirtual 100, 3, .null, 144, 2, 10, [], []), (37, .goto 5, 3, .null, 42, 0, 0, [], []), (40, .iload 4, 2, .null, 0, 0, 0, [], []), (42, .ireturn, 1, .null, 0, 0, 0, [99], [])]
def zc157 : List (Nat × List zN) := [(17, zc157_0), (33, zc157_1), (42, zc157_2)]
/-- SugarBelowModel.wanted(IIII)I -/
def zc158_0 : List zN := [(0, .iconst 4, 1, .int 4, 0, 0, 0, [], []), (1, .iload_n 2, 1, .null, 0, 0, 0, [], []), (2, .imul, 1, .null, 0, 0, 0, [], []), (3, .iload_n 3, 1, .null, 0, 0, 0, [], []), (4, .iadd, 1, .null, 0, 0, 0, [], []), (5, .istore 5, 2, .null, 0, 0, 0, [], []), (7, .aload_n 0, 1, .null, 0, 0, 0, [], []), (8, .getfield 40, 3, .null, 10, 11, 2, [], []), (11, .iconst 4, 1, .int 4, 0, 0, 0, [], []), (12, .iload_n 1, 1, .null, 0, 0, 0, [], []), (13, .imul, 1, .null, 0, 0, 0, [], []), (14, .iload_n 3, 1, .null, 0, 0, 0, [], [])]
def zc158_1 : List zN := [(15, .iadd, 1, .null, 0, 0, 0, [], []), (16, .iaload, 1, .null, 0, 0, 0, [], []), (17, .istore 6, 2, .null, 0, 0, 0, [], []), (19, .iload 6, 2, .null, 0, 0, 0, [], []), (21, .ifCond .le 44, 3, .null, 65, 0, 0, [], []), (24, .aload_n 0, 1, .null, 0, 0, 0, [], []), (25, .getfield 43, 3, .null, 10, 12, 2, [], []), (28, .iconst 4, 1, .int 4, 0, 0, 0, [], []), (29, .iload_n 1, 1, .null, 0, 0, 0, [], []), (30, .imul, 1, .null, 0, 0, 0, [], []), (31, .iload_n 3, 1, .null, 0, 0, 0, [], []), (32, .iadd, 1, .null, 0, 0, 0, [], [])]
def zc158_2 : List zN := [(33, .iaload, 1, .null, 0, 0, 0, [], []), (34, .iload 4, 2, .null, 0, 0, 0, [], []), (36, .if_icmp .lt 29, 3, .null, 65, 0, 0, [], []), (39, .aload_n 0, 1, .null, 0, 0, 0, [], []), (40, .getfield 34, 3, .null, 10, 9, 2, [], []), (43, .iload_n 1, 1, .null, 0, 0, 0, [], []), (44, .iaload, 1, .null, 0, 0, 0, [], []), (45, .iconst 2, 1, .int 2, 0, 0, 0, [], []), (46, .if_icmp .ne 15, 3, .null, 61, 0, 0, [], []), (49, .iload 4, 2, .null, 0, 0, 0, [], []), (51, .aload_n 0, 1, .null, 0, 0, 0, [], []), (52, .getfield 7, 3, .null, 10, 0, 2, [], [])]
def zc158_3 : List zN := [(55, .iload 5, 2, .null, 0, 0, 0, [], []), (57, .iaload, 1, .null, 0, 0, 0, [], []), (58, .if_icmp .ge 7, 3, .null, 65, 0, 0, [], []), (61, .iconst 1, 1, .int 1, 0, 0, 0, [0, 5, 6], []), (62, .goto 4, 3, .null, 66, 0, 0, [], []), (65, .iconst 0, 1, .int 0, 0, 0, 0, [0, 5, 6], []), (66, .istore 7, 2, .null, 0, 0, 0, [0, 5, 6], []), (68, .iload 7, 2, .null, 0, 0, 0, [], []), (70, .ifCond .ne 7, 3, .null, 77, 0, 0, [], []), (73, .iconst 0, 1, .int 0, 0, 0, 0, [], []), (74, .goto 27, 3, .null, 101, 0, 0, [], []), (77, .iload 6, 2, .null, 0, 0, 0, [], [])]
def zc158_4 : List zN := [(79, .aload_n 0, 1, .null, 0, 0, 0, [], []), (80, .getfield 13, 3, .null, 10, 1, 2, [], []), (83, .iload 5, 2, .null, 0, 0, 0, [], []), (85, .iaload, 1, .null, 0, 0, 0, [], []), (86, .if_icmp .ge 8, 3, .null, 94, 0, 0, [], []), (89, .iload 6, 2, .null, 0, 0, 0, [], []), (91, .goto 10, 3, .null, 101, 0, 0, [], []), (94, .aload_n 0, 1, .null, 0, 0, 0, [], []), (95, .getfield 13, 3, .null, 10, 1, 2, [], []), (98, .iload 5, 2, .null, 0, 0, 0, [], []), (100, .iaload, 1, .null, 0, 0, 0, [], []), (101, .ireturn, 1, .null, 0, 0, 0, [99], [])]
def zc158 : List (Nat × List zN) := [(14, zc158_0), (32, zc158_1), (52, zc158_2), (77, zc158_3), (101, zc158_4)]
/-- SugarBelowModel.gain(IIII)I -/
def zc159_0 : List zN := [(0, .aload_n 0, 1, .null, 0, 0, 0, [], []), (1, .iload_n 1, 1, .null, 0, 0, 0, [], []), (2, .iload_n 2, 1, .null, 0, 0, 0, [], []), (3, .iload_n 3, 1, .null, 0, 0, 0, [], []), (4, .iload 4, 2, .null, 0, 0, 0, [], []), (6, .invokevirtual 153, 3, .null, 158, 4, 10, [], []), (9, .aload_n 0, 1, .null, 0, 0, 0, [], []), (10, .getfield 43, 3, .null, 10, 12, 2, [], []), (13, .iconst 4, 1, .int 4, 0, 0, 0, [], []), (14, .iload_n 1, 1, .null, 0, 0, 0, [], []), (15, .imul, 1, .null, 0, 0, 0, [], []), (16, .iload_n 3, 1, .null, 0, 0, 0, [], [])]
def zc159_1 : List zN := [(17, .iadd, 1, .null, 0, 0, 0, [], []), (18, .iaload, 1, .null, 0, 0, 0, [], []), (19, .iload 4, 2, .null, 0, 0, 0, [], []), (21, .isub, 1, .null, 0, 0, 0, [], []), (22, .imul, 1, .null, 0, 0, 0, [], []), (23, .ireturn, 1, .null, 0, 0, 0, [], [])]
def zc159 : List (Nat × List zN) := [(16, zc159_0), (23, zc159_1)]
/-- SugarBelowModel.thoughtGain(III)I -/
def zc160_0 : List zN := [(0, .aload_n 0, 1, .null, 0, 0, 0, [], []), (1, .iload_n 1, 1, .null, 0, 0, 0, [], []), (2, .iload_n 2, 1, .null, 0, 0, 0, [], []), (3, .iload_n 3, 1, .null, 0, 0, 0, [], []), (4, .aload_n 0, 1, .null, 0, 0, 0, [], []), (5, .iload_n 1, 1, .null, 0, 0, 0, [], []), (6, .iload_n 2, 1, .null, 0, 0, 0, [], []), (7, .iload_n 3, 1, .null, 0, 0, 0, [], []), (8, .invokevirtual 157, 3, .null, 157, 3, 10, [], []), (11, .invokevirtual 161, 3, .null, 159, 4, 10, [], []), (14, .ireturn, 1, .null, 0, 0, 0, [], [])]
def zc160 : List (Nat × List zN) := [(14, zc160_0)]
/-- SugarBelowModel.thinksOf(II)I -/
def zc161_0 : List zN := [(0, .aload_n 0, 1, .null, 0, 0, 0, [], []), (1, .getfield 31, 3, .null, 10, 8, 2, [], []), (4, .iconst 2, 1, .int 2, 0, 0, 0, [], []), (5, .iload_n 1, 1, .null, 0, 0, 0, [], []), (6, .imul, 1, .null, 0, 0, 0, [], []), (7, .iload_n 2, 1, .null, 0, 0, 0, [], []), (8, .iadd, 1, .null, 0, 0, 0, [], []), (9, .iaload, 1, .null, 0, 0, 0, [], []), (10, .ineg, 1, .null, 0, 0, 0, [], []), (11, .istore_n 3, 1, .null, 0, 0, 0, [], []), (12, .iconst 0, 1, .int 0, 0, 0, 0, [], []), (13, .istore 4, 2, .null, 0, 0, 0, [], [])]
def zc161_1 : List zN := [(15, .iload 4, 2, .null, 0, 0, 0, [0, 1, 2, 3, 4], []), (17, .aload_n 0, 1, .null, 0, 0, 0, [], []), (18, .getfield 78, 3, .null, 10, 6, 0, [], []), (21, .if_icmp .ge 20, 3, .null, 41, 0, 0, [], []), (24, .iload_n 3, 1, .null, 0, 0, 0, [], []), (25, .aload_n 0, 1, .null, 0, 0, 0, [], []), (26, .iload_n 1, 1, .null, 0, 0, 0, [], []), (27, .iload_n 2, 1, .null, 0, 0, 0, [], []), (28, .iload 4, 2, .null, 0, 0, 0, [], []), (30, .invokevirtual 164, 3, .null, 160, 3, 10, [], []), (33, .iadd, 1, .null, 0, 0, 0, [], []), (34, .istore_n 3, 1, .null, 0, 0, 0, [], [])]
def zc161_2 : List zN := [(35, .iinc 4 1, 3, .int 1, 4, 0, 0, [], []), (38, .goto (-23), 3, .null, 15, 0, 0, [], []), (41, .iload_n 3, 1, .null, 0, 0, 0, [], []), (42, .ireturn, 1, .null, 0, 0, 0, [], [])]
def zc161 : List (Nat × List zN) := [(13, zc161_0), (34, zc161_1), (42, zc161_2)]
/-- SugarBelowModel.shopOf(II)I -/
def zc162_0 : List zN := [(0, .aload_n 0, 1, .null, 0, 0, 0, [], []), (1, .iload_n 1, 1, .null, 0, 0, 0, [], []), (2, .iconst 1, 1, .int 1, 0, 0, 0, [], []), (3, .iload_n 2, 1, .null, 0, 0, 0, [], []), (4, .invokevirtual 164, 3, .null, 160, 3, 10, [], []), (7, .aload_n 0, 1, .null, 0, 0, 0, [], []), (8, .iload_n 1, 1, .null, 0, 0, 0, [], []), (9, .iconst 0, 1, .int 0, 0, 0, 0, [], []), (10, .iload_n 2, 1, .null, 0, 0, 0, [], []), (11, .invokevirtual 164, 3, .null, 160, 3, 10, [], []), (14, .if_icmp .le 7, 3, .null, 21, 0, 0, [], []), (17, .iconst 1, 1, .int 1, 0, 0, 0, [], [])]
def zc162_1 : List zN := [(18, .goto 4, 3, .null, 22, 0, 0, [], []), (21, .iconst 0, 1, .int 0, 0, 0, 0, [], []), (22, .ireturn, 1, .null, 0, 0, 0, [99], [])]
def zc162 : List (Nat × List zN) := [(17, zc162_0), (22, zc162_1)]
/-- SugarBelowModel.thinksBoth(I)I -/
def zc163_0 : List zN := [(0, .aload_n 0, 1, .null, 0, 0, 0, [], []), (1, .getfield 31, 3, .null, 10, 8, 2, [], []), (4, .iconst 2, 1, .int 2, 0, 0, 0, [], []), (5, .iload_n 1, 1, .null, 0, 0, 0, [], []), (6, .imul, 1, .null, 0, 0, 0, [], []), (7, .iaload, 1, .null, 0, 0, 0, [], []), (8, .ineg, 1, .null, 0, 0, 0, [], []), (9, .aload_n 0, 1, .null, 0, 0, 0, [], []), (10, .getfield 31, 3, .null, 10, 8, 2, [], []), (13, .iconst 2, 1, .int 2, 0, 0, 0, [], []), (14, .iload_n 1, 1, .null, 0, 0, 0, [], []), (15, .imul, 1, .null, 0, 0, 0, [], [])]
def zc163_1 : List zN := [(16, .iconst 1, 1, .int 1, 0, 0, 0, [], []), (17, .iadd, 1, .null, 0, 0, 0, [], []), (18, .iaload, 1, .null, 0, 0, 0, [], []), (19, .isub, 1, .null, 0, 0, 0, [], []), (20, .istore_n 2, 1, .null, 0, 0, 0, [], []), (21, .iconst 0, 1, .int 0, 0, 0, 0, [], []), (22, .istore_n 3, 1, .null, 0, 0, 0, [], []), (23, .iload_n 3, 1, .null, 0, 0, 0, [0, 1, 2, 3], []), (24, .aload_n 0, 1, .null, 0, 0, 0, [], []), (25, .getfield 78, 3, .null, 10, 6, 0, [], []), (28, .if_icmp .ge 24, 3, .null, 52, 0, 0, [], []), (31, .iload_n 2, 1, .null, 0, 0, 0, [], [])]
def zc163_2 : List zN := [(32, .aload_n 0, 1, .null, 0, 0, 0, [], []), (33, .iload_n 1, 1, .null, 0, 0, 0, [], []), (34, .aload_n 0, 1, .null, 0, 0, 0, [], []), (35, .iload_n 1, 1, .null, 0, 0, 0, [], []), (36, .iload_n 3, 1, .null, 0, 0, 0, [], []), (37, .invokevirtual 167, 3, .null, 162, 2, 10, [], []), (40, .iload_n 3, 1, .null, 0, 0, 0, [], []), (41, .invokevirtual 164, 3, .null, 160, 3, 10, [], []), (44, .iadd, 1, .null, 0, 0, 0, [], []), (45, .istore_n 2, 1, .null, 0, 0, 0, [], []), (46, .iinc 3 1, 3, .int 1, 3, 0, 0, [], []), (49, .goto (-26), 3, .null, 23, 0, 0, [], [])]
def zc163_3 : List zN := [(52, .iload_n 2, 1, .null, 0, 0, 0, [], []), (53, .ireturn, 1, .null, 0, 0, 0, [], [])]
def zc163 : List (Nat × List zN) := [(15, zc163_0), (31, zc163_1), (49, zc163_2), (53, zc163_3)]
/-- SugarBelowModel.thinks(II)J -/
def zc164_0 : List zN := [(0, .aload_n 0, 1, .null, 0, 0, 0, [], []), (1, .iload_n 1, 1, .null, 0, 0, 0, [], []), (2, .invokevirtual 111, 3, .null, 146, 1, 10, [], []), (5, .ifCond .ne 7, 3, .null, 12, 0, 0, [], []), (8, .ldc2_w 170, 3, .long (-1000000000000000001), 0, 0, 0, [], []), (11, .lreturn, 1, .null, 0, 0, 0, [], []), (12, .iload_n 2, 1, .null, 0, 0, 0, [], []), (13, .i2l, 1, .null, 0, 0, 0, [], []), (14, .lconst 0, 1, .long 0, 0, 0, 0, [], []), (15, .ldc2_w 96, 3, .long 2, 0, 0, 0, [], []), (18, .invokestatic 74, 3, .null, 134, 3, 0, [], []), (21, .ifCond .ne 7, 3, .null, 28, 0, 0, [], [])]
def zc164_1 : List zN := [(24, .ldc2_w 172, 3, .long (-1000000000000000002), 0, 0, 0, [], []), (27, .lreturn, 1, .null, 0, 0, 0, [], []), (28, .iload_n 2, 1, .null, 0, 0, 0, [], []), (29, .iconst 2, 1, .int 2, 0, 0, 0, [], []), (30, .if_icmp .ge 11, 3, .null, 41, 0, 0, [], []), (33, .aload_n 0, 1, .null, 0, 0, 0, [], []), (34, .iload_n 1, 1, .null, 0, 0, 0, [], []), (35, .iload_n 2, 1, .null, 0, 0, 0, [], []), (36, .invokevirtual 174, 3, .null, 161, 2, 10, [], []), (39, .i2l, 1, .null, 0, 0, 0, [], []), (40, .lreturn, 1, .null, 0, 0, 0, [], []), (41, .aload_n 0, 1, .null, 0, 0, 0, [], [])]
def zc164_2 : List zN := [(42, .getfield 34, 3, .null, 10, 9, 2, [], []), (45, .iload_n 1, 1, .null, 0, 0, 0, [], []), (46, .iaload, 1, .null, 0, 0, 0, [], []), (47, .istore_n 3, 1, .null, 0, 0, 0, [], []), (48, .aload_n 0, 1, .null, 0, 0, 0, [], []), (49, .getfield 34, 3, .null, 10, 9, 2, [], []), (52, .iload_n 1, 1, .null, 0, 0, 0, [], []), (53, .iconst 1, 1, .int 1, 0, 0, 0, [], []), (54, .iastore, 1, .null, 0, 0, 0, [], []), (55, .aload_n 0, 1, .null, 0, 0, 0, [], []), (56, .iload_n 1, 1, .null, 0, 0, 0, [], []), (57, .invokevirtual 177, 3, .null, 163, 1, 10, [], [])]
def zc164_3 : List zN := [(60, .istore 4, 2, .null, 0, 0, 0, [], []), (62, .aload_n 0, 1, .null, 0, 0, 0, [], []), (63, .getfield 34, 3, .null, 10, 9, 2, [], []), (66, .iload_n 1, 1, .null, 0, 0, 0, [], []), (67, .iload_n 3, 1, .null, 0, 0, 0, [], []), (68, .iastore, 1, .null, 0, 0, 0, [], []), (69, .iload 4, 2, .null, 0, 0, 0, [], []), (71, .i2l, 1, .null, 0, 0, 0, [], []), (72, .lreturn, 1, .null, 0, 0, 0, [], [])]
def zc164 : List (Nat × List zN) := [(21, zc164_0), (41, zc164_1), (57, zc164_2), (72, zc164_3)]
/-- SugarBelowModel.goesTo(I)I -/
def zc165_0 : List zN := [(0, .iconst 0, 1, .int 0, 0, 0, 0, [], []), (1, .istore_n 2, 1, .null, 0, 0, 0, [], []), (2, .iconst 0, 1, .int 0, 0, 0, 0, [], []), (3, .istore_n 3, 1, .null, 0, 0, 0, [], []), (4, .aload_n 0, 1, .null, 0, 0, 0, [], []), (5, .iload_n 1, 1, .null, 0, 0, 0, [], []), (6, .iconst 0, 1, .int 0, 0, 0, 0, [], []), (7, .invokevirtual 174, 3, .null, 161, 2, 10, [], []), (10, .istore 4, 2, .null, 0, 0, 0, [], []), (12, .iload 4, 2, .null, 0, 0, 0, [], []), (14, .iload_n 3, 1, .null, 0, 0, 0, [], []), (15, .if_icmp .le 8, 3, .null, 23, 0, 0, [], [])]
def zc165_1 : List zN := [(18, .iload 4, 2, .null, 0, 0, 0, [], []), (20, .istore_n 3, 1, .null, 0, 0, 0, [], []), (21, .iconst 1, 1, .int 1, 0, 0, 0, [], []), (22, .istore_n 2, 1, .null, 0, 0, 0, [], []), (23, .aload_n 0, 1, .null, 0, 0, 0, [0, 1, 2, 3], []), (24, .iload_n 1, 1, .null, 0, 0, 0, [], []), (25, .iconst 1, 1, .int 1, 0, 0, 0, [], []), (26, .invokevirtual 174, 3, .null, 161, 2, 10, [], []), (29, .istore 5, 2, .null, 0, 0, 0, [], []), (31, .iload 5, 2, .null, 0, 0, 0, [], []), (33, .iload_n 3, 1, .null, 0, 0, 0, [], []), (34, .if_icmp .le 8, 3, .null, 42, 0, 0, [], [])]
def zc165_2 : List zN := [(37, .iload 5, 2, .null, 0, 0, 0, [], []), (39, .istore_n 3, 1, .null, 0, 0, 0, [], []), (40, .iconst 2, 1, .int 2, 0, 0, 0, [], []), (41, .istore_n 2, 1, .null, 0, 0, 0, [], []), (42, .aload_n 0, 1, .null, 0, 0, 0, [0, 1, 2, 3], []), (43, .getfield 34, 3, .null, 10, 9, 2, [], []), (46, .iload_n 1, 1, .null, 0, 0, 0, [], []), (47, .iaload, 1, .null, 0, 0, 0, [], []), (48, .iconst 1, 1, .int 1, 0, 0, 0, [], []), (49, .if_icmp .ne 16, 3, .null, 65, 0, 0, [], []), (52, .aload_n 0, 1, .null, 0, 0, 0, [], []), (53, .iload_n 1, 1, .null, 0, 0, 0, [], [])]
def zc165_3 : List zN := [(54, .invokevirtual 177, 3, .null, 163, 1, 10, [], []), (57, .iload_n 3, 1, .null, 0, 0, 0, [], []), (58, .if_icmp .le 7, 3, .null, 65, 0, 0, [], []), (61, .iconst 3, 1, .int 3, 0, 0, 0, [], []), (62, .goto 4, 3, .null, 66, 0, 0, [], []), (65, .iload_n 2, 1, .null, 0, 0, 0, [2], []), (66, .ireturn, 1, .null, 0, 0, 0, [99], [])]
def zc165 : List (Nat × List zN) := [(15, zc165_0), (34, zc165_1), (53, zc165_2), (66, zc165_3)]
/-- SugarBelowModel.goes(I)I -/
def zc166_0 : List zN := [(0, .aload_n 0, 1, .null, 0, 0, 0, [], []), (1, .iload_n 1, 1, .null, 0, 0, 0, [], []), (2, .invokevirtual 111, 3, .null, 146, 1, 10, [], []), (5, .ifCond .eq 11, 3, .null, 16, 0, 0, [], []), (8, .aload_n 0, 1, .null, 0, 0, 0, [], []), (9, .iload_n 1, 1, .null, 0, 0, 0, [], []), (10, .invokevirtual 181, 3, .null, 165, 1, 10, [], []), (13, .goto 4, 3, .null, 17, 0, 0, [], []), (16, .iconst (-1), 1, .int (-1), 0, 0, 0, [], []), (17, .ireturn, 1, .null, 0, 0, 0, [99], [])]
def zc166 : List (Nat × List zN) := [(17, zc166_0)]
/-- SugarBelowModel.bought(IIII)I -/
def zc167_0 : List zN := [(0, .iload_n 2, 1, .null, 0, 0, 0, [], []), (1, .iload_n 3, 1, .null, 0, 0, 0, [], []), (2, .ishr, 1, .null, 0, 0, 0, [], []), (3, .iconst 1, 1, .int 1, 0, 0, 0, [], []), (4, .iand, 1, .null, 0, 0, 0, [], []), (5, .iconst 1, 1, .int 1, 0, 0, 0, [], []), (6, .if_icmp .ne 23, 3, .null, 29, 0, 0, [], []), (9, .iload_n 2, 1, .null, 0, 0, 0, [], []), (10, .iconst 3, 1, .int 3, 0, 0, 0, [], []), (11, .if_icmp .lt 14, 3, .null, 25, 0, 0, [], []), (14, .aload_n 0, 1, .null, 0, 0, 0, [], []), (15, .iload_n 1, 1, .null, 0, 0, 0, [], [])]
def zc167_1 : List zN := [(16, .iload 4, 2, .null, 0, 0, 0, [], []), (18, .invokevirtual 167, 3, .null, 162, 2, 10, [], []), (21, .iload_n 3, 1, .null, 0, 0, 0, [], []), (22, .if_icmp .ne 7, 3, .null, 29, 0, 0, [], []), (25, .iconst 1, 1, .int 1, 0, 0, 0, [0, 1, 3, 4], []), (26, .goto 4, 3, .null, 30, 0, 0, [], []), (29, .iconst 0, 1, .int 0, 0, 0, 0, [0, 1, 3, 4], []), (30, .istore 5, 2, .null, 0, 0, 0, [0, 1, 3, 4], []), (32, .iload 5, 2, .null, 0, 0, 0, [], []), (34, .ifCond .eq 21, 3, .null, 55, 0, 0, [], []), (37, .aload_n 0, 1, .null, 0, 0, 0, [], []), (38, .iload_n 1, 1, .null, 0, 0, 0, [], [])]
def zc167_2 : List zN := [(39, .iload_n 3, 1, .null, 0, 0, 0, [], []), (40, .iload 4, 2, .null, 0, 0, 0, [], []), (42, .aload_n 0, 1, .null, 0, 0, 0, [], []), (43, .iload_n 3, 1, .null, 0, 0, 0, [], []), (44, .iload 4, 2, .null, 0, 0, 0, [], []), (46, .invokevirtual 100, 3, .null, 144, 2, 10, [], []), (49, .invokevirtual 153, 3, .null, 158, 4, 10, [], []), (52, .goto 4, 3, .null, 56, 0, 0, [], []), (55, .iconst 0, 1, .int 0, 0, 0, 0, [], []), (56, .ireturn, 1, .null, 0, 0, 0, [99], [])]
def zc167 : List (Nat × List zN) := [(15, zc167_0), (38, zc167_1), (56, zc167_2)]
/-- SugarBelowModel.buys(III)I -/
def zc168_0 : List zN := [(0, .aload_n 0, 1, .null, 0, 0, 0, [], []), (1, .iload_n 1, 1, .null, 0, 0, 0, [], []), (2, .invokevirtual 111, 3, .null, 146, 1, 10, [], []), (5, .ifCond .eq 33, 3, .null, 38, 0, 0, [], []), (8, .iload_n 2, 1, .null, 0, 0, 0, [], []), (9, .invokestatic 93, 3, .null, 136, 1, 0, [], []), (12, .ifCond .eq 26, 3, .null, 38, 0, 0, [], []), (15, .aload_n 0, 1, .null, 0, 0, 0, [], []), (16, .iload_n 3, 1, .null, 0, 0, 0, [], []), (17, .invokevirtual 90, 3, .null, 137, 1, 10, [], []), (20, .ifCond .eq 18, 3, .null, 38, 0, 0, [], []), (23, .aload_n 0, 1, .null, 0, 0, 0, [], [])]
def zc168_1 : List zN := [(24, .iload_n 1, 1, .null, 0, 0, 0, [], []), (25, .aload_n 0, 1, .null, 0, 0, 0, [], []), (26, .iload_n 1, 1, .null, 0, 0, 0, [], []), (27, .invokevirtual 181, 3, .null, 165, 1, 10, [], []), (30, .iload_n 2, 1, .null, 0, 0, 0, [], []), (31, .iload_n 3, 1, .null, 0, 0, 0, [], []), (32, .invokevirtual 184, 3, .null, 167, 4, 10, [], []), (35, .goto 4, 3, .null, 39, 0, 0, [], []), (38, .iconst (-1), 1, .int (-1), 0, 0, 0, [99], []), (39, .ireturn, 1, .null, 0, 0, 0, [99], [])]
def zc168 : List (Nat × List zN) := [(23, zc168_0), (39, zc168_1)]
/-- SugarBelowModel.savesOf(I)I -/
def zc169_0 : List zN := [(0, .aload_n 0, 1, .null, 0, 0, 0, [], []), (1, .iload_n 1, 1, .null, 0, 0, 0, [], []), (2, .invokevirtual 181, 3, .null, 165, 1, 10, [], []), (5, .istore_n 2, 1, .null, 0, 0, 0, [], []), (6, .iconst 0, 1, .int 0, 0, 0, 0, [], []), (7, .istore_n 3, 1, .null, 0, 0, 0, [], []), (8, .iconst 0, 1, .int 0, 0, 0, 0, [], []), (9, .istore 4, 2, .null, 0, 0, 0, [], []), (11, .iload 4, 2, .null, 0, 0, 0, [0, 1, 2, 3, 4], []), (13, .iconst 2, 1, .int 2, 0, 0, 0, [], []), (14, .if_icmp .ge 89, 3, .null, 103, 0, 0, [], []), (17, .iload_n 3, 1, .null, 0, 0, 0, [], [])]
def zc169_1 : List zN := [(18, .iload_n 2, 1, .null, 0, 0, 0, [], []), (19, .iload 4, 2, .null, 0, 0, 0, [], []), (21, .ishr, 1, .null, 0, 0, 0, [], []), (22, .iconst 1, 1, .int 1, 0, 0, 0, [], []), (23, .iand, 1, .null, 0, 0, 0, [], []), (24, .iconst 1, 1, .int 1, 0, 0, 0, [], []), (25, .if_icmp .ne 17, 3, .null, 42, 0, 0, [], []), (28, .aload_n 0, 1, .null, 0, 0, 0, [], []), (29, .getfield 31, 3, .null, 10, 8, 2, [], []), (32, .iconst 2, 1, .int 2, 0, 0, 0, [], []), (33, .iload_n 1, 1, .null, 0, 0, 0, [], []), (34, .imul, 1, .null, 0, 0, 0, [], [])]
def zc169_2 : List zN := [(35, .iload 4, 2, .null, 0, 0, 0, [], []), (37, .iadd, 1, .null, 0, 0, 0, [], []), (38, .iaload, 1, .null, 0, 0, 0, [], []), (39, .goto 4, 3, .null, 43, 0, 0, [], []), (42, .iconst 0, 1, .int 0, 0, 0, 0, [], []), (43, .isub, 1, .null, 0, 0, 0, [0, 1, 2, 4], []), (44, .istore_n 3, 1, .null, 0, 0, 0, [], []), (45, .iconst 0, 1, .int 0, 0, 0, 0, [], []), (46, .istore 5, 2, .null, 0, 0, 0, [], []), (48, .iload 5, 2, .null, 0, 0, 0, [0, 1, 2, 3, 4, 5], []), (50, .aload_n 0, 1, .null, 0, 0, 0, [], []), (51, .getfield 78, 3, .null, 10, 6, 0, [], [])]
def zc169_3 : List zN := [(54, .if_icmp .ge 43, 3, .null, 97, 0, 0, [], []), (57, .iload_n 3, 1, .null, 0, 0, 0, [], []), (58, .aload_n 0, 1, .null, 0, 0, 0, [], []), (59, .iload_n 1, 1, .null, 0, 0, 0, [], []), (60, .iload_n 2, 1, .null, 0, 0, 0, [], []), (61, .iload 4, 2, .null, 0, 0, 0, [], []), (63, .iload 5, 2, .null, 0, 0, 0, [], []), (65, .invokevirtual 184, 3, .null, 167, 4, 10, [], []), (68, .aload_n 0, 1, .null, 0, 0, 0, [], []), (69, .getfield 43, 3, .null, 10, 12, 2, [], []), (72, .iconst 4, 1, .int 4, 0, 0, 0, [], []), (73, .iload_n 1, 1, .null, 0, 0, 0, [], [])]
def zc169_4 : List zN := [(74, .imul, 1, .null, 0, 0, 0, [], []), (75, .iload 5, 2, .null, 0, 0, 0, [], []), (77, .iadd, 1, .null, 0, 0, 0, [], []), (78, .iaload, 1, .null, 0, 0, 0, [], []), (79, .aload_n 0, 1, .null, 0, 0, 0, [], []), (80, .iload 4, 2, .null, 0, 0, 0, [], []), (82, .iload 5, 2, .null, 0, 0, 0, [], []), (84, .invokevirtual 100, 3, .null, 144, 2, 10, [], []), (87, .isub, 1, .null, 0, 0, 0, [], []), (88, .imul, 1, .null, 0, 0, 0, [], []), (89, .iadd, 1, .null, 0, 0, 0, [], []), (90, .istore_n 3, 1, .null, 0, 0, 0, [], [])]
def zc169_5 : List zN := [(91, .iinc 5 1, 3, .int 1, 5, 0, 0, [], []), (94, .goto (-46), 3, .null, 48, 0, 0, [], []), (97, .iinc 4 1, 3, .int 1, 4, 0, 0, [], []), (100, .goto (-89), 3, .null, 11, 0, 0, [], []), (103, .iload_n 3, 1, .null, 0, 0, 0, [], []), (104, .ireturn, 1, .null, 0, 0, 0, [], [])]
def zc169 : List (Nat × List zN) := [(17, zc169_0), (34, zc169_1), (51, zc169_2), (73, zc169_3), (90, zc169_4), (104, zc169_5)]
/-- SugarBelowModel.saves(I)J -/
def zc170_0 : List zN := [(0, .aload_n 0, 1, .null, 0, 0, 0, [], []), (1, .iload_n 1, 1, .null, 0, 0, 0, [], []), (2, .invokevirtual 111, 3, .null, 146, 1, 10, [], []), (5, .ifCond .eq 12, 3, .null, 17, 0, 0, [], []), (8, .aload_n 0, 1, .null, 0, 0, 0, [], []), (9, .iload_n 1, 1, .null, 0, 0, 0, [], []), (10, .invokevirtual 187, 3, .null, 169, 1, 10, [], []), (13, .i2l, 1, .null, 0, 0, 0, [], []), (14, .goto 6, 3, .null, 20, 0, 0, [], []), (17, .ldc2_w 170, 3, .long (-1000000000000000001), 0, 0, 0, [], []), (20, .lreturn, 1, .null, 0, 0, 0, [99], [])]
def zc170 : List (Nat × List zN) := [(20, zc170_0)]
/-- SugarBelowModel.broughtBy(II)I -/
def zc171_0 : List zN := [(0, .aload_n 0, 1, .null, 0, 0, 0, [], []), (1, .iload_n 1, 1, .null, 0, 0, 0, [], []), (2, .invokevirtual 181, 3, .null, 165, 1, 10, [], []), (5, .istore_n 3, 1, .null, 0, 0, 0, [], []), (6, .iconst 0, 1, .int 0, 0, 0, 0, [], []), (7, .istore 4, 2, .null, 0, 0, 0, [], []), (9, .iconst 0, 1, .int 0, 0, 0, 0, [], []), (10, .istore 5, 2, .null, 0, 0, 0, [], []), (12, .iload 5, 2, .null, 0, 0, 0, [0, 1, 2, 3, 4, 5], []), (14, .aload_n 0, 1, .null, 0, 0, 0, [], []), (15, .getfield 78, 3, .null, 10, 6, 0, [], []), (18, .if_icmp .ge 43, 3, .null, 61, 0, 0, [], [])]
def zc171_1 : List zN := [(21, .iload 4, 2, .null, 0, 0, 0, [], []), (23, .aload_n 0, 1, .null, 0, 0, 0, [], []), (24, .iload_n 1, 1, .null, 0, 0, 0, [], []), (25, .iload_n 3, 1, .null, 0, 0, 0, [], []), (26, .iload_n 2, 1, .null, 0, 0, 0, [], []), (27, .iload 5, 2, .null, 0, 0, 0, [], []), (29, .invokevirtual 184, 3, .null, 167, 4, 10, [], []), (32, .aload_n 0, 1, .null, 0, 0, 0, [], []), (33, .iload_n 2, 1, .null, 0, 0, 0, [], []), (34, .iload 5, 2, .null, 0, 0, 0, [], []), (36, .invokevirtual 100, 3, .null, 144, 2, 10, [], []), (39, .aload_n 0, 1, .null, 0, 0, 0, [], [])]
def zc171_2 : List zN := [(40, .getfield 7, 3, .null, 10, 0, 2, [], []), (43, .iconst 4, 1, .int 4, 0, 0, 0, [], []), (44, .iload_n 2, 1, .null, 0, 0, 0, [], []), (45, .imul, 1, .null, 0, 0, 0, [], []), (46, .iload 5, 2, .null, 0, 0, 0, [], []), (48, .iadd, 1, .null, 0, 0, 0, [], []), (49, .iaload, 1, .null, 0, 0, 0, [], []), (50, .isub, 1, .null, 0, 0, 0, [], []), (51, .imul, 1, .null, 0, 0, 0, [], []), (52, .iadd, 1, .null, 0, 0, 0, [], []), (53, .istore 4, 2, .null, 0, 0, 0, [], []), (55, .iinc 5 1, 3, .int 1, 5, 0, 0, [], [])]
def zc171_3 : List zN := [(58, .goto (-46), 3, .null, 12, 0, 0, [], []), (61, .aload_n 0, 1, .null, 0, 0, 0, [], []), (62, .getfield 28, 3, .null, 10, 7, 2, [], []), (65, .iload_n 1, 1, .null, 0, 0, 0, [], []), (66, .iaload, 1, .null, 0, 0, 0, [], []), (67, .iload 4, 2, .null, 0, 0, 0, [], []), (69, .imul, 1, .null, 0, 0, 0, [], []), (70, .ireturn, 1, .null, 0, 0, 0, [], [])]
def zc171 : List (Nat × List zN) := [(18, zc171_0), (39, zc171_1), (55, zc171_2), (70, zc171_3)]
/-- SugarBelowModel.leftOf(I)I -/
def zc172_0 : List zN := [(0, .iconst 0, 1, .int 0, 0, 0, 0, [], []), (1, .istore_n 2, 1, .null, 0, 0, 0, [], []), (2, .iconst 0, 1, .int 0, 0, 0, 0, [], []), (3, .istore_n 3, 1, .null, 0, 0, 0, [], []), (4, .iload_n 3, 1, .null, 0, 0, 0, [0, 1, 2, 3], []), (5, .aload_n 0, 1, .null, 0, 0, 0, [], []), (6, .getfield 104, 3, .null, 10, 14, 0, [], []), (9, .if_icmp .ge 18, 3, .null, 27, 0, 0, [], []), (12, .iload_n 2, 1, .null, 0, 0, 0, [], []), (13, .aload_n 0, 1, .null, 0, 0, 0, [], []), (14, .iload_n 3, 1, .null, 0, 0, 0, [], []), (15, .iload_n 1, 1, .null, 0, 0, 0, [], [])]
def zc172_1 : List zN := [(16, .invokevirtual 190, 3, .null, 171, 2, 10, [], []), (19, .iadd, 1, .null, 0, 0, 0, [], []), (20, .istore_n 2, 1, .null, 0, 0, 0, [], []), (21, .iinc 3 1, 3, .int 1, 3, 0, 0, [], []), (24, .goto (-20), 3, .null, 4, 0, 0, [], []), (27, .iload_n 2, 1, .null, 0, 0, 0, [], []), (28, .ireturn, 1, .null, 0, 0, 0, [], [])]
def zc172 : List (Nat × List zN) := [(15, zc172_0), (28, zc172_1)]
/-- SugarBelowModel.left(I)J -/
def zc173_0 : List zN := [(0, .iload_n 1, 1, .null, 0, 0, 0, [], []), (1, .invokestatic 93, 3, .null, 136, 1, 0, [], []), (4, .ifCond .eq 12, 3, .null, 16, 0, 0, [], []), (7, .aload_n 0, 1, .null, 0, 0, 0, [], []), (8, .iload_n 1, 1, .null, 0, 0, 0, [], []), (9, .invokevirtual 193, 3, .null, 172, 1, 10, [], []), (12, .i2l, 1, .null, 0, 0, 0, [], []), (13, .goto 6, 3, .null, 19, 0, 0, [], []), (16, .ldc2_w 170, 3, .long (-1000000000000000001), 0, 0, 0, [], []), (19, .lreturn, 1, .null, 0, 0, 0, [99], [])]
def zc173 : List (Nat × List zN) := [(19, zc173_0)]
/-- SugarBelowModel.rowOf(I)I -/
def zc174_0 : List zN := [(0, .iconst 0, 1, .int 0, 0, 0, 0, [], []), (1, .istore_n 2, 1, .null, 0, 0, 0, [], []), (2, .iconst 0, 1, .int 0, 0, 0, 0, [], []), (3, .istore_n 3, 1, .null, 0, 0, 0, [], []), (4, .iload_n 3, 1, .null, 0, 0, 0, [0, 1, 2, 3], []), (5, .aload_n 0, 1, .null, 0, 0, 0, [], []), (6, .getfield 78, 3, .null, 10, 6, 0, [], []), (9, .if_icmp .ge 29, 3, .null, 38, 0, 0, [], []), (12, .iload_n 2, 1, .null, 0, 0, 0, [], []), (13, .aload_n 0, 1, .null, 0, 0, 0, [], []), (14, .getfield 25, 3, .null, 10, 5, 2, [], []), (17, .iload_n 3, 1, .null, 0, 0, 0, [], [])]
def zc174_1 : List zN := [(18, .iaload, 1, .null, 0, 0, 0, [], []), (19, .imul, 1, .null, 0, 0, 0, [], []), (20, .aload_n 0, 1, .null, 0, 0, 0, [], []), (21, .getfield 16, 3, .null, 10, 2, 2, [], []), (24, .iconst 4, 1, .int 4, 0, 0, 0, [], []), (25, .iload_n 1, 1, .null, 0, 0, 0, [], []), (26, .imul, 1, .null, 0, 0, 0, [], []), (27, .iload_n 3, 1, .null, 0, 0, 0, [], []), (28, .iadd, 1, .null, 0, 0, 0, [], []), (29, .iaload, 1, .null, 0, 0, 0, [], []), (30, .iadd, 1, .null, 0, 0, 0, [], []), (31, .istore_n 2, 1, .null, 0, 0, 0, [], [])]
def zc174_2 : List zN := [(32, .iinc 3 1, 3, .int 1, 3, 0, 0, [], []), (35, .goto (-31), 3, .null, 4, 0, 0, [], []), (38, .iload_n 2, 1, .null, 0, 0, 0, [], []), (39, .ireturn, 1, .null, 0, 0, 0, [], [])]
def zc174 : List (Nat × List zN) := [(17, zc174_0), (31, zc174_1), (39, zc174_2)]
/-- SugarBelowModel.rows()I -/
def zc175_0 : List zN := [(0, .iconst 1, 1, .int 1, 0, 0, 0, [], []), (1, .istore_n 1, 1, .null, 0, 0, 0, [], []), (2, .iconst 0, 1, .int 0, 0, 0, 0, [], []), (3, .istore_n 2, 1, .null, 0, 0, 0, [], []), (4, .iload_n 2, 1, .null, 0, 0, 0, [0, 1, 2], []), (5, .aload_n 0, 1, .null, 0, 0, 0, [], []), (6, .getfield 78, 3, .null, 10, 6, 0, [], []), (9, .if_icmp .ge 18, 3, .null, 27, 0, 0, [], []), (12, .iload_n 1, 1, .null, 0, 0, 0, [], []), (13, .aload_n 0, 1, .null, 0, 0, 0, [], []), (14, .getfield 25, 3, .null, 10, 5, 2, [], []), (17, .iload_n 2, 1, .null, 0, 0, 0, [], [])]
def zc175_1 : List zN := [(18, .iaload, 1, .null, 0, 0, 0, [], []), (19, .imul, 1, .null, 0, 0, 0, [], []), (20, .istore_n 1, 1, .null, 0, 0, 0, [], []), (21, .iinc 2 1, 3, .int 1, 2, 0, 0, [], []), (24, .goto (-20), 3, .null, 4, 0, 0, [], []), (27, .iload_n 1, 1, .null, 0, 0, 0, [], []), (28, .ireturn, 1, .null, 0, 0, 0, [], [])]
def zc175 : List (Nat × List zN) := [(17, zc175_0), (28, zc175_1)]
/-- SugarBelowModel.lay(II)V -/
def zc176_0 : List zN := [(0, .iload_n 2, 1, .null, 0, 0, 0, [], []), (1, .istore_n 3, 1, .null, 0, 0, 0, [], []), (2, .aload_n 0, 1, .null, 0, 0, 0, [], []), (3, .getfield 78, 3, .null, 10, 6, 0, [], []), (6, .iconst 1, 1, .int 1, 0, 0, 0, [], []), (7, .isub, 1, .null, 0, 0, 0, [], []), (8, .istore 4, 2, .null, 0, 0, 0, [], []), (10, .iload 4, 2, .null, 0, 0, 0, [0, 1, 3, 4], []), (12, .ifCond .lt 39, 3, .null, 51, 0, 0, [], []), (15, .aload_n 0, 1, .null, 0, 0, 0, [], []), (16, .getfield 16, 3, .null, 10, 2, 2, [], []), (19, .iconst 4, 1, .int 4, 0, 0, 0, [], [])]
def zc176_1 : List zN := [(20, .iload_n 1, 1, .null, 0, 0, 0, [], []), (21, .imul, 1, .null, 0, 0, 0, [], []), (22, .iload 4, 2, .null, 0, 0, 0, [], []), (24, .iadd, 1, .null, 0, 0, 0, [], []), (25, .iload_n 3, 1, .null, 0, 0, 0, [], []), (26, .aload_n 0, 1, .null, 0, 0, 0, [], []), (27, .getfield 25, 3, .null, 10, 5, 2, [], []), (30, .iload 4, 2, .null, 0, 0, 0, [], []), (32, .iaload, 1, .null, 0, 0, 0, [], []), (33, .irem, 1, .null, 0, 0, 0, [], []), (34, .iastore, 1, .null, 0, 0, 0, [], []), (35, .iload_n 3, 1, .null, 0, 0, 0, [], [])]
def zc176_2 : List zN := [(36, .aload_n 0, 1, .null, 0, 0, 0, [], []), (37, .getfield 25, 3, .null, 10, 5, 2, [], []), (40, .iload 4, 2, .null, 0, 0, 0, [], []), (42, .iaload, 1, .null, 0, 0, 0, [], []), (43, .idiv, 1, .null, 0, 0, 0, [], []), (44, .istore_n 3, 1, .null, 0, 0, 0, [], []), (45, .iinc 4 (-1), 3, .int (-1), 4, 0, 0, [], []), (48, .goto (-38), 3, .null, 10, 0, 0, [], []), (51, .return_, 1, .null, 0, 0, 0, [], [])]
def zc176 : List (Nat × List zN) := [(19, zc176_0), (35, zc176_1), (51, zc176_2)]
/-- SugarBelowModel.row(I)I -/
def zc177_0 : List zN := [(0, .iload_n 1, 1, .null, 0, 0, 0, [], []), (1, .invokestatic 93, 3, .null, 136, 1, 0, [], []), (4, .ifCond .eq 11, 3, .null, 15, 0, 0, [], []), (7, .aload_n 0, 1, .null, 0, 0, 0, [], []), (8, .iload_n 1, 1, .null, 0, 0, 0, [], []), (9, .invokevirtual 196, 3, .null, 174, 1, 10, [], []), (12, .goto 4, 3, .null, 16, 0, 0, [], []), (15, .iconst (-1), 1, .int (-1), 0, 0, 0, [], []), (16, .ireturn, 1, .null, 0, 0, 0, [99], [])]
def zc177 : List (Nat × List zN) := [(16, zc177_0)]
/-- SugarBelowModel.isAllowed(I)Z -/
def zc178_0 : List zN := [(0, .iconst 1, 1, .int 1, 0, 0, 0, [], []), (1, .istore_n 2, 1, .null, 0, 0, 0, [], []), (2, .iconst 0, 1, .int 0, 0, 0, 0, [], []), (3, .istore_n 3, 1, .null, 0, 0, 0, [], []), (4, .iload_n 3, 1, .null, 0, 0, 0, [0, 1, 2, 3], []), (5, .aload_n 0, 1, .null, 0, 0, 0, [], []), (6, .getfield 78, 3, .null, 10, 6, 0, [], []), (9, .if_icmp .ge 36, 3, .null, 45, 0, 0, [], []), (12, .aload_n 0, 1, .null, 0, 0, 0, [], []), (13, .getfield 150, 3, .null, 10, 18, 0, [], []), (16, .iconst 1, 1, .int 1, 0, 0, 0, [], []), (17, .if_icmp .ne 28, 3, .null, 45, 0, 0, [], [])]
def zc178_1 : List zN := [(20, .iload_n 2, 1, .null, 0, 0, 0, [], []), (21, .ifCond .eq 16, 3, .null, 37, 0, 0, [], []), (24, .aload_n 0, 1, .null, 0, 0, 0, [], []), (25, .iload_n 1, 1, .null, 0, 0, 0, [], []), (26, .iload_n 3, 1, .null, 0, 0, 0, [], []), (27, .invokevirtual 199, 3, .null, 145, 2, 10, [], []), (30, .ifCond .ne 7, 3, .null, 37, 0, 0, [], []), (33, .iconst 1, 1, .int 1, 0, 0, 0, [], []), (34, .goto 4, 3, .null, 38, 0, 0, [], []), (37, .iconst 0, 1, .int 0, 0, 0, 0, [0, 1, 3], []), (38, .istore_n 2, 1, .null, 0, 0, 0, [0, 1, 3], []), (39, .iinc 3 1, 3, .int 1, 3, 0, 0, [], [])]
def zc178_2 : List zN := [(42, .goto (-38), 3, .null, 4, 0, 0, [], []), (45, .iload_n 2, 1, .null, 0, 0, 0, [2], []), (46, .ireturn, 1, .null, 0, 0, 1, [], [])]
def zc178 : List (Nat × List zN) := [(17, zc178_0), (39, zc178_1), (46, zc178_2)]
/-- SugarBelowModel.bestOf(I)I -/
def zc179_0 : List zN := [(0, .aload_n 0, 1, .null, 0, 0, 0, [], []), (1, .iload_n 1, 1, .null, 0, 0, 0, [], []), (2, .invokevirtual 196, 3, .null, 174, 1, 10, [], []), (5, .istore_n 2, 1, .null, 0, 0, 0, [], []), (6, .bipush (-6), 2, .int (-6), 0, 0, 0, [], []), (8, .istore_n 3, 1, .null, 0, 0, 0, [], []), (9, .aload_n 0, 1, .null, 0, 0, 0, [], []), (10, .invokevirtual 203, 3, .null, 175, 0, 10, [], []), (13, .istore 4, 2, .null, 0, 0, 0, [], []), (15, .iconst 0, 1, .int 0, 0, 0, 0, [], []), (16, .istore 5, 2, .null, 0, 0, 0, [], []), (18, .iload 5, 2, .null, 0, 0, 0, [0, 1, 2, 3, 4, 5], [])]
def zc179_1 : List zN := [(20, .iload 4, 2, .null, 0, 0, 0, [], []), (22, .if_icmp .ge 53, 3, .null, 75, 0, 0, [], []), (25, .aload_n 0, 1, .null, 0, 0, 0, [], []), (26, .iload_n 1, 1, .null, 0, 0, 0, [], []), (27, .iload 5, 2, .null, 0, 0, 0, [], []), (29, .invokevirtual 206, 3, .null, 176, 2, 10, [], []), (32, .aload_n 0, 1, .null, 0, 0, 0, [], []), (33, .iload_n 1, 1, .null, 0, 0, 0, [], []), (34, .invokevirtual 210, 3, .null, 178, 1, 10, [], []), (37, .ifCond .eq 32, 3, .null, 69, 0, 0, [], []), (40, .aload_n 0, 1, .null, 0, 0, 0, [], []), (41, .iload_n 1, 1, .null, 0, 0, 0, [], [])]
def zc179_2 : List zN := [(42, .invokevirtual 193, 3, .null, 172, 1, 10, [], []), (45, .istore 6, 2, .null, 0, 0, 0, [], []), (47, .iload_n 3, 1, .null, 0, 0, 0, [], []), (48, .ifCond .lt 12, 3, .null, 60, 0, 0, [], []), (51, .iload 6, 2, .null, 0, 0, 0, [], []), (53, .aload_n 0, 1, .null, 0, 0, 0, [], []), (54, .getfield 213, 3, .null, 10, 19, 0, [], []), (57, .if_icmp .le 12, 3, .null, 69, 0, 0, [], []), (60, .iload 5, 2, .null, 0, 0, 0, [0, 1, 2, 4, 5, 6], []), (62, .istore_n 3, 1, .null, 0, 0, 0, [], []), (63, .aload_n 0, 1, .null, 0, 0, 0, [], []), (64, .iload 6, 2, .null, 0, 0, 0, [], [])]
def zc179_3 : List zN := [(66, .putfield 213, 3, .null, 10, 19, 0, [], []), (69, .iinc 5 1, 3, .int 1, 5, 0, 0, [0, 1, 2, 3, 4, 5], []), (72, .goto (-54), 3, .null, 18, 0, 0, [], []), (75, .aload_n 0, 1, .null, 0, 0, 0, [], []), (76, .iload_n 1, 1, .null, 0, 0, 0, [], []), (77, .iload_n 2, 1, .null, 0, 0, 0, [], []), (78, .invokevirtual 206, 3, .null, 176, 2, 10, [], []), (81, .iload_n 3, 1, .null, 0, 0, 0, [], []), (82, .ireturn, 1, .null, 0, 0, 0, [], [])]
def zc179 : List (Nat × List zN) := [(18, zc179_0), (41, zc179_1), (64, zc179_2), (82, zc179_3)]
/-- SugarBelowModel.best(I)I -/
def zc180_0 : List zN := [(0, .iload_n 1, 1, .null, 0, 0, 0, [], []), (1, .invokestatic 93, 3, .null, 136, 1, 0, [], []), (4, .ifCond .ne 5, 3, .null, 9, 0, 0, [], []), (7, .iconst (-1), 1, .int (-1), 0, 0, 0, [], []), (8, .ireturn, 1, .null, 0, 0, 0, [], []), (9, .aload_n 0, 1, .null, 0, 0, 0, [], []), (10, .iload_n 1, 1, .null, 0, 0, 0, [], []), (11, .invokevirtual 216, 3, .null, 179, 1, 10, [], []), (14, .istore_n 2, 1, .null, 0, 0, 0, [], []), (15, .iload_n 2, 1, .null, 0, 0, 0, [], []), (16, .ifCond .ge 8, 3, .null, 24, 0, 0, [], []), (19, .bipush (-5), 2, .int (-5), 0, 0, 0, [], [])]
def zc180_1 : List zN := [(21, .goto 4, 3, .null, 25, 0, 0, [], []), (24, .iload_n 2, 1, .null, 0, 0, 0, [], []), (25, .ireturn, 1, .null, 0, 0, 0, [99], [])]
def zc180 : List (Nat × List zN) := [(19, zc180_0), (25, zc180_1)]
/-- SugarBelowModel.climbUp(I)V -/
def zc181_0 : List zN := [(0, .iconst 1, 1, .int 1, 0, 0, 0, [], []), (1, .istore_n 2, 1, .null, 0, 0, 0, [], []), (2, .iload_n 2, 1, .null, 0, 0, 0, [0, 1, 2], []), (3, .ifCond .eq 144, 3, .null, 147, 0, 0, [], []), (6, .iconst 0, 1, .int 0, 0, 0, 0, [], []), (7, .istore_n 2, 1, .null, 0, 0, 0, [], []), (8, .iconst 0, 1, .int 0, 0, 0, 0, [], []), (9, .istore_n 3, 1, .null, 0, 0, 0, [], []), (10, .iload_n 3, 1, .null, 0, 0, 0, [0, 1, 2, 3], []), (11, .aload_n 0, 1, .null, 0, 0, 0, [], []), (12, .getfield 78, 3, .null, 10, 6, 0, [], []), (15, .if_icmp .ge 129, 3, .null, 144, 0, 0, [], [])]
def zc181_1 : List zN := [(18, .iconst 4, 1, .int 4, 0, 0, 0, [], []), (19, .iload_n 1, 1, .null, 0, 0, 0, [], []), (20, .imul, 1, .null, 0, 0, 0, [], []), (21, .iload_n 3, 1, .null, 0, 0, 0, [], []), (22, .iadd, 1, .null, 0, 0, 0, [], []), (23, .istore 4, 2, .null, 0, 0, 0, [], []), (25, .aload_n 0, 1, .null, 0, 0, 0, [], []), (26, .getfield 16, 3, .null, 10, 2, 2, [], []), (29, .iload 4, 2, .null, 0, 0, 0, [], []), (31, .iaload, 1, .null, 0, 0, 0, [], []), (32, .istore 5, 2, .null, 0, 0, 0, [], []), (34, .iload 5, 2, .null, 0, 0, 0, [], [])]
def zc181_2 : List zN := [(36, .istore 6, 2, .null, 0, 0, 0, [], []), (38, .aload_n 0, 1, .null, 0, 0, 0, [], []), (39, .iload_n 1, 1, .null, 0, 0, 0, [], []), (40, .invokevirtual 193, 3, .null, 172, 1, 10, [], []), (43, .istore 7, 2, .null, 0, 0, 0, [], []), (45, .iconst 0, 1, .int 0, 0, 0, 0, [], []), (46, .istore 8, 2, .null, 0, 0, 0, [], []), (48, .iload 8, 2, .null, 0, 0, 0, [0, 1, 2, 3, 4, 5, 6, 7, 8], []), (50, .aload_n 0, 1, .null, 0, 0, 0, [], []), (51, .getfield 25, 3, .null, 10, 5, 2, [], []), (54, .iload_n 3, 1, .null, 0, 0, 0, [], []), (55, .iaload, 1, .null, 0, 0, 0, [], [])]
def zc181_3 : List zN := [(56, .if_icmp .ge 56, 3, .null, 112, 0, 0, [], []), (59, .aload_n 0, 1, .null, 0, 0, 0, [], []), (60, .getfield 16, 3, .null, 10, 2, 2, [], []), (63, .iload 4, 2, .null, 0, 0, 0, [], []), (65, .iload 8, 2, .null, 0, 0, 0, [], []), (67, .iastore, 1, .null, 0, 0, 0, [], []), (68, .aload_n 0, 1, .null, 0, 0, 0, [], []), (69, .getfield 150, 3, .null, 10, 18, 0, [], []), (72, .ifCond .eq 12, 3, .null, 84, 0, 0, [], []), (75, .aload_n 0, 1, .null, 0, 0, 0, [], []), (76, .iload_n 1, 1, .null, 0, 0, 0, [], []), (77, .iload_n 3, 1, .null, 0, 0, 0, [], [])]
def zc181_4 : List zN := [(78, .invokevirtual 199, 3, .null, 145, 2, 10, [], []), (81, .ifCond .ne 25, 3, .null, 106, 0, 0, [], []), (84, .aload_n 0, 1, .null, 0, 0, 0, [0, 1, 2, 3, 4, 5, 6, 7, 8], []), (85, .iload_n 1, 1, .null, 0, 0, 0, [], []), (86, .invokevirtual 193, 3, .null, 172, 1, 10, [], []), (89, .istore 9, 2, .null, 0, 0, 0, [], []), (91, .iload 9, 2, .null, 0, 0, 0, [], []), (93, .iload 7, 2, .null, 0, 0, 0, [], []), (95, .if_icmp .le 11, 3, .null, 106, 0, 0, [], []), (98, .iload 9, 2, .null, 0, 0, 0, [], []), (100, .istore 7, 2, .null, 0, 0, 0, [], []), (102, .iload 8, 2, .null, 0, 0, 0, [], [])]
def zc181_5 : List zN := [(104, .istore 5, 2, .null, 0, 0, 0, [], []), (106, .iinc 8 1, 3, .int 1, 8, 0, 0, [0, 1, 2, 3, 4, 5, 6, 7, 8], []), (109, .goto (-61), 3, .null, 48, 0, 0, [], []), (112, .aload_n 0, 1, .null, 0, 0, 0, [], []), (113, .getfield 16, 3, .null, 10, 2, 2, [], []), (116, .iload 4, 2, .null, 0, 0, 0, [], []), (118, .iload 5, 2, .null, 0, 0, 0, [], []), (120, .iastore, 1, .null, 0, 0, 0, [], []), (121, .iload_n 2, 1, .null, 0, 0, 0, [], []), (122, .ifCond .ne 10, 3, .null, 132, 0, 0, [], []), (125, .iload 5, 2, .null, 0, 0, 0, [], []), (127, .iload 6, 2, .null, 0, 0, 0, [], [])]
def zc181_6 : List zN := [(129, .if_icmp .eq 7, 3, .null, 136, 0, 0, [], []), (132, .iconst 1, 1, .int 1, 0, 0, 0, [0, 1, 3], []), (133, .goto 4, 3, .null, 137, 0, 0, [], []), (136, .iconst 0, 1, .int 0, 0, 0, 0, [], []), (137, .istore_n 2, 1, .null, 0, 0, 0, [0, 1, 3], []), (138, .iinc 3 1, 3, .int 1, 3, 0, 0, [], []), (141, .goto (-131), 3, .null, 10, 0, 0, [], []), (144, .goto (-142), 3, .null, 2, 0, 0, [], []), (147, .return_, 1, .null, 0, 0, 0, [], [])]
def zc181 : List (Nat × List zN) := [(15, zc181_0), (34, zc181_1), (55, zc181_2), (77, zc181_3), (102, zc181_4), (127, zc181_5), (147, zc181_6)]
/-- SugarBelowModel.climb(I)I -/
def zc182_0 : List zN := [(0, .iload_n 1, 1, .null, 0, 0, 0, [], []), (1, .invokestatic 93, 3, .null, 136, 1, 0, [], []), (4, .ifCond .ne 5, 3, .null, 9, 0, 0, [], []), (7, .iconst (-1), 1, .int (-1), 0, 0, 0, [], []), (8, .ireturn, 1, .null, 0, 0, 0, [], []), (9, .aload_n 0, 1, .null, 0, 0, 0, [], []), (10, .iload_n 1, 1, .null, 0, 0, 0, [], []), (11, .invokevirtual 196, 3, .null, 174, 1, 10, [], []), (14, .istore_n 2, 1, .null, 0, 0, 0, [], []), (15, .aload_n 0, 1, .null, 0, 0, 0, [], []), (16, .iload_n 1, 1, .null, 0, 0, 0, [], []), (17, .invokevirtual 219, 3, .null, 181, 1, 10, [], [])]
def zc182_1 : List zN := [(20, .aload_n 0, 1, .null, 0, 0, 0, [], []), (21, .iload_n 1, 1, .null, 0, 0, 0, [], []), (22, .invokevirtual 196, 3, .null, 174, 1, 10, [], []), (25, .istore_n 3, 1, .null, 0, 0, 0, [], []), (26, .aload_n 0, 1, .null, 0, 0, 0, [], []), (27, .iload_n 1, 1, .null, 0, 0, 0, [], []), (28, .iload_n 2, 1, .null, 0, 0, 0, [], []), (29, .invokevirtual 206, 3, .null, 176, 2, 10, [], []), (32, .iload_n 3, 1, .null, 0, 0, 0, [], []), (33, .ireturn, 1, .null, 0, 0, 0, [], [])]
def zc182 : List (Nat × List zN) := [(17, zc182_0), (33, zc182_1)]
/-- SugarBelowModel.boundOf(I)J -/
def zc183_0 : List zN := [(0, .aload_n 0, 1, .null, 0, 0, 0, [], []), (1, .iload_n 1, 1, .null, 0, 0, 0, [], []), (2, .invokevirtual 196, 3, .null, 174, 1, 10, [], []), (5, .istore_n 2, 1, .null, 0, 0, 0, [], []), (6, .aload_n 0, 1, .null, 0, 0, 0, [], []), (7, .invokevirtual 203, 3, .null, 175, 0, 10, [], []), (10, .istore_n 3, 1, .null, 0, 0, 0, [], []), (11, .lconst 0, 1, .long 0, 0, 0, 0, [], []), (12, .lstore 4, 2, .null, 0, 0, 0, [], []), (14, .iconst 0, 1, .int 0, 0, 0, 0, [], []), (15, .istore 6, 2, .null, 0, 0, 0, [], []), (17, .iload 6, 2, .null, 0, 0, 0, [0, 1, 2, 3, 4, 6], [])]
def zc183_1 : List zN := [(19, .aload_n 0, 1, .null, 0, 0, 0, [], []), (20, .getfield 104, 3, .null, 10, 14, 0, [], []), (23, .if_icmp .ge 86, 3, .null, 109, 0, 0, [], []), (26, .iconst 0, 1, .int 0, 0, 0, 0, [], []), (27, .istore 7, 2, .null, 0, 0, 0, [], []), (29, .iconst 0, 1, .int 0, 0, 0, 0, [], []), (30, .istore 8, 2, .null, 0, 0, 0, [], []), (32, .iconst 0, 1, .int 0, 0, 0, 0, [], []), (33, .istore 9, 2, .null, 0, 0, 0, [], []), (35, .iload 9, 2, .null, 0, 0, 0, [0, 1, 2, 3, 4, 6, 7, 8, 9], []), (37, .iload_n 3, 1, .null, 0, 0, 0, [], []), (38, .if_icmp .ge 57, 3, .null, 95, 0, 0, [], [])]
def zc183_2 : List zN := [(41, .aload_n 0, 1, .null, 0, 0, 0, [], []), (42, .iload_n 1, 1, .null, 0, 0, 0, [], []), (43, .iload 9, 2, .null, 0, 0, 0, [], []), (45, .invokevirtual 206, 3, .null, 176, 2, 10, [], []), (48, .aload_n 0, 1, .null, 0, 0, 0, [], []), (49, .iload_n 1, 1, .null, 0, 0, 0, [], []), (50, .invokevirtual 210, 3, .null, 178, 1, 10, [], []), (53, .ifCond .eq 36, 3, .null, 89, 0, 0, [], []), (56, .aload_n 0, 1, .null, 0, 0, 0, [], []), (57, .iload 6, 2, .null, 0, 0, 0, [], []), (59, .iload_n 1, 1, .null, 0, 0, 0, [], []), (60, .invokevirtual 190, 3, .null, 171, 2, 10, [], [])]
def zc183_3 : List zN := [(63, .istore 10, 2, .null, 0, 0, 0, [], []), (65, .iload 7, 2, .null, 0, 0, 0, [], []), (67, .ifCond .eq 10, 3, .null, 77, 0, 0, [], []), (70, .iload 10, 2, .null, 0, 0, 0, [], []), (72, .iload 8, 2, .null, 0, 0, 0, [], []), (74, .if_icmp .le 8, 3, .null, 82, 0, 0, [], []), (77, .iload 10, 2, .null, 0, 0, 0, [0, 1, 2, 3, 4, 6, 9, 10], []), (79, .goto 5, 3, .null, 84, 0, 0, [], []), (82, .iload 8, 2, .null, 0, 0, 0, [], []), (84, .istore 8, 2, .null, 0, 0, 0, [0, 1, 2, 3, 4, 6, 9], []), (86, .iconst 1, 1, .int 1, 0, 0, 0, [], []), (87, .istore 7, 2, .null, 0, 0, 0, [], [])]
def zc183_4 : List zN := [(89, .iinc 9 1, 3, .int 1, 9, 0, 0, [0, 1, 2, 3, 4, 6, 7, 8, 9], []), (92, .goto (-57), 3, .null, 35, 0, 0, [], []), (95, .lload 4, 2, .null, 0, 0, 0, [], []), (97, .iload 8, 2, .null, 0, 0, 0, [], []), (99, .i2l, 1, .null, 0, 0, 0, [], []), (100, .ladd, 1, .null, 0, 0, 0, [], []), (101, .lstore 4, 2, .null, 0, 0, 0, [], []), (103, .iinc 6 1, 3, .int 1, 6, 0, 0, [], []), (106, .goto (-89), 3, .null, 17, 0, 0, [], []), (109, .aload_n 0, 1, .null, 0, 0, 0, [], []), (110, .iload_n 1, 1, .null, 0, 0, 0, [], []), (111, .iload_n 2, 1, .null, 0, 0, 0, [], [])]
def zc183_5 : List zN := [(112, .invokevirtual 206, 3, .null, 176, 2, 10, [], []), (115, .lload 4, 2, .null, 0, 0, 0, [], []), (117, .lreturn, 1, .null, 0, 0, 0, [], [])]
def zc183 : List (Nat × List zN) := [(17, zc183_0), (38, zc183_1), (60, zc183_2), (87, zc183_3), (111, zc183_4), (117, zc183_5)]
/-- SugarBelowModel.most(II)J -/
def zc184_0 : List zN := [(0, .iload_n 1, 1, .null, 0, 0, 0, [], []), (1, .invokestatic 93, 3, .null, 136, 1, 0, [], []), (4, .ifCond .ne 7, 3, .null, 11, 0, 0, [], []), (7, .ldc2_w 170, 3, .long (-1000000000000000001), 0, 0, 0, [], []), (10, .lreturn, 1, .null, 0, 0, 0, [], []), (11, .iload_n 2, 1, .null, 0, 0, 0, [], []), (12, .i2l, 1, .null, 0, 0, 0, [], []), (13, .lconst 0, 1, .long 0, 0, 0, 0, [], []), (14, .ldc2_w 96, 3, .long 2, 0, 0, 0, [], []), (17, .invokestatic 74, 3, .null, 134, 3, 0, [], []), (20, .ifCond .ne 7, 3, .null, 27, 0, 0, [], []), (23, .ldc2_w 172, 3, .long (-1000000000000000002), 0, 0, 0, [], [])]
def zc184_1 : List zN := [(26, .lreturn, 1, .null, 0, 0, 0, [], []), (27, .aload_n 0, 1, .null, 0, 0, 0, [], []), (28, .iload_n 1, 1, .null, 0, 0, 0, [], []), (29, .invokevirtual 216, 3, .null, 179, 1, 10, [], []), (32, .ifCond .ge 7, 3, .null, 39, 0, 0, [], []), (35, .ldc2_w 222, 3, .long (-1000000000000000005), 0, 0, 0, [], []), (38, .lreturn, 1, .null, 0, 0, 0, [], []), (39, .iload_n 2, 1, .null, 0, 0, 0, [], []), (40, .ifCond .ne 9, 3, .null, 49, 0, 0, [], []), (43, .aload_n 0, 1, .null, 0, 0, 0, [], []), (44, .getfield 213, 3, .null, 10, 19, 0, [], []), (47, .i2l, 1, .null, 0, 0, 0, [], [])]
def zc184_2 : List zN := [(48, .lreturn, 1, .null, 0, 0, 0, [], []), (49, .iload_n 2, 1, .null, 0, 0, 0, [], []), (50, .iconst 2, 1, .int 2, 0, 0, 0, [], []), (51, .if_icmp .ne 9, 3, .null, 60, 0, 0, [], []), (54, .aload_n 0, 1, .null, 0, 0, 0, [], []), (55, .iload_n 1, 1, .null, 0, 0, 0, [], []), (56, .invokevirtual 224, 3, .null, 183, 1, 10, [], []), (59, .lreturn, 1, .null, 0, 0, 0, [], []), (60, .aload_n 0, 1, .null, 0, 0, 0, [], []), (61, .iload_n 1, 1, .null, 0, 0, 0, [], []), (62, .invokevirtual 196, 3, .null, 174, 1, 10, [], []), (65, .istore_n 3, 1, .null, 0, 0, 0, [], [])]
def zc184_3 : List zN := [(66, .aload_n 0, 1, .null, 0, 0, 0, [], []), (67, .iload_n 1, 1, .null, 0, 0, 0, [], []), (68, .invokevirtual 219, 3, .null, 181, 1, 10, [], []), (71, .aload_n 0, 1, .null, 0, 0, 0, [], []), (72, .iload_n 1, 1, .null, 0, 0, 0, [], []), (73, .invokevirtual 193, 3, .null, 172, 1, 10, [], []), (76, .istore 4, 2, .null, 0, 0, 0, [], []), (78, .aload_n 0, 1, .null, 0, 0, 0, [], []), (79, .iload_n 1, 1, .null, 0, 0, 0, [], []), (80, .iload_n 3, 1, .null, 0, 0, 0, [], []), (81, .invokevirtual 206, 3, .null, 176, 2, 10, [], []), (84, .iload 4, 2, .null, 0, 0, 0, [], [])]
def zc184_4 : List zN := [(86, .i2l, 1, .null, 0, 0, 0, [], []), (87, .lreturn, 1, .null, 0, 0, 0, [], [])]
def zc184 : List (Nat × List zN) := [(23, zc184_0), (47, zc184_1), (65, zc184_2), (84, zc184_3), (87, zc184_4)]
/-- SugarBelowModel.lures(I)I -/
def zc185_0 : List zN := [(0, .iload_n 1, 1, .null, 0, 0, 0, [], []), (1, .invokestatic 93, 3, .null, 136, 1, 0, [], []), (4, .ifCond .ne 5, 3, .null, 9, 0, 0, [], []), (7, .iconst (-1), 1, .int (-1), 0, 0, 0, [], []), (8, .ireturn, 1, .null, 0, 0, 0, [], []), (9, .aload_n 0, 1, .null, 0, 0, 0, [], []), (10, .iload_n 1, 1, .null, 0, 0, 0, [], []), (11, .invokevirtual 216, 3, .null, 179, 1, 10, [], []), (14, .istore_n 2, 1, .null, 0, 0, 0, [], []), (15, .iload_n 2, 1, .null, 0, 0, 0, [], []), (16, .ifCond .ge 6, 3, .null, 22, 0, 0, [], []), (19, .bipush (-5), 2, .int (-5), 0, 0, 0, [], [])]
def zc185_1 : List zN := [(21, .ireturn, 1, .null, 0, 0, 0, [], []), (22, .aload_n 0, 1, .null, 0, 0, 0, [], []), (23, .iload_n 1, 1, .null, 0, 0, 0, [], []), (24, .invokevirtual 196, 3, .null, 174, 1, 10, [], []), (27, .istore_n 3, 1, .null, 0, 0, 0, [], []), (28, .aload_n 0, 1, .null, 0, 0, 0, [], []), (29, .iload_n 1, 1, .null, 0, 0, 0, [], []), (30, .iload_n 2, 1, .null, 0, 0, 0, [], []), (31, .invokevirtual 206, 3, .null, 176, 2, 10, [], []), (34, .iconst 0, 1, .int 0, 0, 0, 0, [], []), (35, .istore 4, 2, .null, 0, 0, 0, [], []), (37, .iconst 0, 1, .int 0, 0, 0, 0, [], [])]
def zc185_2 : List zN := [(38, .istore 5, 2, .null, 0, 0, 0, [], []), (40, .iload 5, 2, .null, 0, 0, 0, [0, 1, 3, 4, 5], []), (42, .aload_n 0, 1, .null, 0, 0, 0, [], []), (43, .getfield 78, 3, .null, 10, 6, 0, [], []), (46, .if_icmp .ge 32, 3, .null, 78, 0, 0, [], []), (49, .iload 4, 2, .null, 0, 0, 0, [], []), (51, .aload_n 0, 1, .null, 0, 0, 0, [], []), (52, .iload_n 1, 1, .null, 0, 0, 0, [], []), (53, .iload 5, 2, .null, 0, 0, 0, [], []), (55, .invokevirtual 199, 3, .null, 145, 2, 10, [], []), (58, .ifCond .eq 10, 3, .null, 68, 0, 0, [], []), (61, .iconst 1, 1, .int 1, 0, 0, 0, [], [])]
def zc185_3 : List zN := [(62, .iload 5, 2, .null, 0, 0, 0, [], []), (64, .ishl, 1, .null, 0, 0, 0, [], []), (65, .goto 4, 3, .null, 69, 0, 0, [], []), (68, .iconst 0, 1, .int 0, 0, 0, 0, [], []), (69, .ior, 1, .null, 0, 0, 0, [0, 1, 3, 5], []), (70, .istore 4, 2, .null, 0, 0, 0, [], []), (72, .iinc 5 1, 3, .int 1, 5, 0, 0, [], []), (75, .goto (-35), 3, .null, 40, 0, 0, [], []), (78, .aload_n 0, 1, .null, 0, 0, 0, [], []), (79, .iload_n 1, 1, .null, 0, 0, 0, [], []), (80, .iload_n 3, 1, .null, 0, 0, 0, [], []), (81, .invokevirtual 206, 3, .null, 176, 2, 10, [], [])]
def zc185_4 : List zN := [(84, .iload 4, 2, .null, 0, 0, 0, [], []), (86, .ireturn, 1, .null, 0, 0, 0, [], [])]
def zc185 : List (Nat × List zN) := [(19, zc185_0), (37, zc185_1), (61, zc185_2), (81, zc185_3), (86, zc185_4)]
/-- SugarBelowModel.brings(II)J -/
def zc186_0 : List zN := [(0, .iload_n 1, 1, .null, 0, 0, 0, [], []), (1, .invokestatic 93, 3, .null, 136, 1, 0, [], []), (4, .ifCond .eq 11, 3, .null, 15, 0, 0, [], []), (7, .aload_n 0, 1, .null, 0, 0, 0, [], []), (8, .iload_n 2, 1, .null, 0, 0, 0, [], []), (9, .invokevirtual 90, 3, .null, 137, 1, 10, [], []), (12, .ifCond .ne 7, 3, .null, 19, 0, 0, [], []), (15, .ldc2_w 170, 3, .long (-1000000000000000001), 0, 0, 0, [99], []), (18, .lreturn, 1, .null, 0, 0, 0, [], []), (19, .iconst 4, 1, .int 4, 0, 0, 0, [], []), (20, .iload_n 1, 1, .null, 0, 0, 0, [], []), (21, .imul, 1, .null, 0, 0, 0, [], [])]
def zc186_1 : List zN := [(22, .iload_n 2, 1, .null, 0, 0, 0, [], []), (23, .iadd, 1, .null, 0, 0, 0, [], []), (24, .istore_n 3, 1, .null, 0, 0, 0, [], []), (25, .aload_n 0, 1, .null, 0, 0, 0, [], []), (26, .getfield 16, 3, .null, 10, 2, 2, [], []), (29, .iload_n 3, 1, .null, 0, 0, 0, [], []), (30, .iaload, 1, .null, 0, 0, 0, [], []), (31, .istore 4, 2, .null, 0, 0, 0, [], []), (33, .aload_n 0, 1, .null, 0, 0, 0, [], []), (34, .iload_n 1, 1, .null, 0, 0, 0, [], []), (35, .invokevirtual 193, 3, .null, 172, 1, 10, [], []), (38, .istore 5, 2, .null, 0, 0, 0, [], [])]
def zc186_2 : List zN := [(40, .aload_n 0, 1, .null, 0, 0, 0, [], []), (41, .getfield 16, 3, .null, 10, 2, 2, [], []), (44, .iload_n 3, 1, .null, 0, 0, 0, [], []), (45, .aload_n 0, 1, .null, 0, 0, 0, [], []), (46, .getfield 25, 3, .null, 10, 5, 2, [], []), (49, .iload_n 2, 1, .null, 0, 0, 0, [], []), (50, .iaload, 1, .null, 0, 0, 0, [], []), (51, .iconst 1, 1, .int 1, 0, 0, 0, [], []), (52, .isub, 1, .null, 0, 0, 0, [], []), (53, .iastore, 1, .null, 0, 0, 0, [], []), (54, .aload_n 0, 1, .null, 0, 0, 0, [], []), (55, .iload_n 1, 1, .null, 0, 0, 0, [], [])]
def zc186_3 : List zN := [(56, .invokevirtual 193, 3, .null, 172, 1, 10, [], []), (59, .istore 6, 2, .null, 0, 0, 0, [], []), (61, .aload_n 0, 1, .null, 0, 0, 0, [], []), (62, .getfield 16, 3, .null, 10, 2, 2, [], []), (65, .iload_n 3, 1, .null, 0, 0, 0, [], []), (66, .iload 4, 2, .null, 0, 0, 0, [], []), (68, .iastore, 1, .null, 0, 0, 0, [], []), (69, .iload 5, 2, .null, 0, 0, 0, [], []), (71, .iload 6, 2, .null, 0, 0, 0, [], []), (73, .isub, 1, .null, 0, 0, 0, [], []), (74, .i2l, 1, .null, 0, 0, 0, [], []), (75, .lreturn, 1, .null, 0, 0, 0, [], [])]
def zc186 : List (Nat × List zN) := [(21, zc186_0), (38, zc186_1), (55, zc186_2), (75, zc186_3)]
/-- SugarBelowModel.only(I)I -/
def zc187_0 : List zN := [(0, .iload_n 1, 1, .null, 0, 0, 0, [], []), (1, .invokestatic 93, 3, .null, 136, 1, 0, [], []), (4, .ifCond .ne 5, 3, .null, 9, 0, 0, [], []), (7, .iconst (-1), 1, .int (-1), 0, 0, 0, [], []), (8, .ireturn, 1, .null, 0, 0, 0, [], []), (9, .iconst 0, 1, .int 0, 0, 0, 0, [], []), (10, .istore_n 2, 1, .null, 0, 0, 0, [], []), (11, .iconst 0, 1, .int 0, 0, 0, 0, [], []), (12, .istore_n 3, 1, .null, 0, 0, 0, [], []), (13, .iload_n 3, 1, .null, 0, 0, 0, [0, 1, 2, 3], []), (14, .aload_n 0, 1, .null, 0, 0, 0, [], []), (15, .getfield 104, 3, .null, 10, 14, 0, [], [])]
def zc187_1 : List zN := [(18, .if_icmp .ge 124, 3, .null, 142, 0, 0, [], []), (21, .aload_n 0, 1, .null, 0, 0, 0, [], []), (22, .iload_n 3, 1, .null, 0, 0, 0, [], []), (23, .invokevirtual 181, 3, .null, 165, 1, 10, [], []), (26, .istore 4, 2, .null, 0, 0, 0, [], []), (28, .iconst 0, 1, .int 0, 0, 0, 0, [], []), (29, .istore 5, 2, .null, 0, 0, 0, [], []), (31, .iconst 1, 1, .int 1, 0, 0, 0, [], []), (32, .istore 6, 2, .null, 0, 0, 0, [], []), (34, .iconst 0, 1, .int 0, 0, 0, 0, [], []), (35, .istore 7, 2, .null, 0, 0, 0, [], []), (37, .iload 7, 2, .null, 0, 0, 0, [0, 1, 2, 3, 4, 5, 6, 7], [])]
def zc187_2 : List zN := [(39, .aload_n 0, 1, .null, 0, 0, 0, [], []), (40, .getfield 78, 3, .null, 10, 6, 0, [], []), (43, .if_icmp .ge 73, 3, .null, 116, 0, 0, [], []), (46, .aload_n 0, 1, .null, 0, 0, 0, [], []), (47, .iload_n 3, 1, .null, 0, 0, 0, [], []), (48, .iload 4, 2, .null, 0, 0, 0, [], []), (50, .iload_n 1, 1, .null, 0, 0, 0, [], []), (51, .iload 7, 2, .null, 0, 0, 0, [], []), (53, .invokevirtual 184, 3, .null, 167, 4, 10, [], []), (56, .ifCond .le 7, 3, .null, 63, 0, 0, [], []), (59, .iconst 1, 1, .int 1, 0, 0, 0, [], []), (60, .goto 4, 3, .null, 64, 0, 0, [], [])]
def zc187_3 : List zN := [(63, .iconst 0, 1, .int 0, 0, 0, 0, [], []), (64, .istore 8, 2, .null, 0, 0, 0, [0, 1, 2, 3, 4, 5, 6, 7], []), (66, .iload 5, 2, .null, 0, 0, 0, [], []), (68, .ifCond .ne 8, 3, .null, 76, 0, 0, [], []), (71, .iload 8, 2, .null, 0, 0, 0, [], []), (73, .ifCond .eq 7, 3, .null, 80, 0, 0, [], []), (76, .iconst 1, 1, .int 1, 0, 0, 0, [0, 1, 2, 3, 4, 6, 7, 8], []), (77, .goto 4, 3, .null, 81, 0, 0, [], []), (80, .iconst 0, 1, .int 0, 0, 0, 0, [], []), (81, .istore 5, 2, .null, 0, 0, 0, [0, 1, 2, 3, 4, 6, 7, 8], []), (83, .iload 6, 2, .null, 0, 0, 0, [], []), (85, .ifCond .eq 22, 3, .null, 107, 0, 0, [], [])]
def zc187_4 : List zN := [(88, .iload 8, 2, .null, 0, 0, 0, [], []), (90, .ifCond .eq 13, 3, .null, 103, 0, 0, [], []), (93, .aload_n 0, 1, .null, 0, 0, 0, [], []), (94, .iload_n 1, 1, .null, 0, 0, 0, [], []), (95, .iload 7, 2, .null, 0, 0, 0, [], []), (97, .invokevirtual 199, 3, .null, 145, 2, 10, [], []), (100, .ifCond .eq 7, 3, .null, 107, 0, 0, [], []), (103, .iconst 1, 1, .int 1, 0, 0, 0, [0, 1, 2, 3, 4, 5, 7], []), (104, .goto 4, 3, .null, 108, 0, 0, [], []), (107, .iconst 0, 1, .int 0, 0, 0, 0, [0, 1, 2, 3, 4, 5, 7], []), (108, .istore 6, 2, .null, 0, 0, 0, [0, 1, 2, 3, 4, 5, 7], []), (110, .iinc 7 1, 3, .int 1, 7, 0, 0, [], [])]
def zc187_5 : List zN := [(113, .goto (-76), 3, .null, 37, 0, 0, [], []), (116, .iload_n 2, 1, .null, 0, 0, 0, [], []), (117, .iload 5, 2, .null, 0, 0, 0, [], []), (119, .ifCond .eq 14, 3, .null, 133, 0, 0, [], []), (122, .iload 6, 2, .null, 0, 0, 0, [], []), (124, .ifCond .eq 9, 3, .null, 133, 0, 0, [], []), (127, .iconst 1, 1, .int 1, 0, 0, 0, [], []), (128, .iload_n 3, 1, .null, 0, 0, 0, [], []), (129, .ishl, 1, .null, 0, 0, 0, [], []), (130, .goto 4, 3, .null, 134, 0, 0, [], []), (133, .iconst 0, 1, .int 0, 0, 0, 0, [0, 1, 3], []), (134, .ior, 1, .null, 0, 0, 0, [0, 1, 3], [])]
def zc187_6 : List zN := [(135, .istore_n 2, 1, .null, 0, 0, 0, [], []), (136, .iinc 3 1, 3, .int 1, 3, 0, 0, [], []), (139, .goto (-126), 3, .null, 13, 0, 0, [], []), (142, .iload_n 2, 1, .null, 0, 0, 0, [], []), (143, .ireturn, 1, .null, 0, 0, 0, [], [])]
def zc187 : List (Nat × List zN) := [(15, zc187_0), (37, zc187_1), (60, zc187_2), (85, zc187_3), (110, zc187_4), (134, zc187_5), (143, zc187_6)]
/-- SugarBelowModel.at(III)I -/
def zc188_0 : List zN := [(0, .sipush 6561, 3, .int 6561, 0, 0, 0, [], []), (3, .iload_n 0, 1, .null, 0, 0, 0, [], []), (4, .imul, 1, .null, 0, 0, 0, [], []), (5, .bipush 81, 2, .int 81, 0, 0, 0, [], []), (7, .iload_n 1, 1, .null, 0, 0, 0, [], []), (8, .imul, 1, .null, 0, 0, 0, [], []), (9, .iadd, 1, .null, 0, 0, 0, [], []), (10, .iload_n 2, 1, .null, 0, 0, 0, [], []), (11, .iadd, 1, .null, 0, 0, 0, [], []), (12, .ireturn, 1, .null, 0, 0, 0, [], [])]
def zc188 : List (Nat × List zN) := [(12, zc188_0)]
/-- SugarBelowModel.findBoth()Z -/
def zc189_0 : List zN := [(0, .aload_n 0, 1, .null, 0, 0, 0, [], []), (1, .iconst 0, 1, .int 0, 0, 0, 0, [], []), (2, .invokevirtual 196, 3, .null, 174, 1, 10, [], []), (5, .istore_n 1, 1, .null, 0, 0, 0, [], []), (6, .aload_n 0, 1, .null, 0, 0, 0, [], []), (7, .iconst 1, 1, .int 1, 0, 0, 0, [], []), (8, .invokevirtual 196, 3, .null, 174, 1, 10, [], []), (11, .istore_n 2, 1, .null, 0, 0, 0, [], []), (12, .aload_n 0, 1, .null, 0, 0, 0, [], []), (13, .invokevirtual 203, 3, .null, 175, 0, 10, [], []), (16, .istore_n 3, 1, .null, 0, 0, 0, [], []), (17, .iconst 0, 1, .int 0, 0, 0, 0, [], [])]
def zc189_1 : List zN := [(18, .istore 4, 2, .null, 0, 0, 0, [], []), (20, .iconst 0, 1, .int 0, 0, 0, 0, [], []), (21, .istore 5, 2, .null, 0, 0, 0, [], []), (23, .iconst 0, 1, .int 0, 0, 0, 0, [], []), (24, .istore 6, 2, .null, 0, 0, 0, [], []), (26, .iload 6, 2, .null, 0, 0, 0, [0, 1, 2, 3, 4, 5, 6], []), (28, .iload_n 3, 1, .null, 0, 0, 0, [], []), (29, .if_icmp .ge 118, 3, .null, 147, 0, 0, [], []), (32, .aload_n 0, 1, .null, 0, 0, 0, [], []), (33, .iconst 0, 1, .int 0, 0, 0, 0, [], []), (34, .iload 6, 2, .null, 0, 0, 0, [], []), (36, .invokevirtual 206, 3, .null, 176, 2, 10, [], [])]
def zc189_2 : List zN := [(39, .aload_n 0, 1, .null, 0, 0, 0, [], []), (40, .iconst 1, 1, .int 1, 0, 0, 0, [], []), (41, .iload 6, 2, .null, 0, 0, 0, [], []), (43, .invokevirtual 206, 3, .null, 176, 2, 10, [], []), (46, .aload_n 0, 1, .null, 0, 0, 0, [], []), (47, .getfield 58, 3, .null, 10, 22, 2, [], []), (50, .iload 6, 2, .null, 0, 0, 0, [], []), (52, .aload_n 0, 1, .null, 0, 0, 0, [], []), (53, .iconst 0, 1, .int 0, 0, 0, 0, [], []), (54, .invokevirtual 210, 3, .null, 178, 1, 10, [], []), (57, .bastore, 1, .null, 0, 0, 0, [], []), (58, .aload_n 0, 1, .null, 0, 0, 0, [], [])]
def zc189_3 : List zN := [(59, .getfield 58, 3, .null, 10, 22, 2, [], []), (62, .bipush 81, 2, .int 81, 0, 0, 0, [], []), (64, .iload 6, 2, .null, 0, 0, 0, [], []), (66, .iadd, 1, .null, 0, 0, 0, [], []), (67, .aload_n 0, 1, .null, 0, 0, 0, [], []), (68, .iconst 1, 1, .int 1, 0, 0, 0, [], []), (69, .invokevirtual 210, 3, .null, 178, 1, 10, [], []), (72, .bastore, 1, .null, 0, 0, 0, [], []), (73, .iload 4, 2, .null, 0, 0, 0, [], []), (75, .ifCond .ne 13, 3, .null, 88, 0, 0, [], []), (78, .aload_n 0, 1, .null, 0, 0, 0, [], []), (79, .getfield 58, 3, .null, 10, 22, 2, [], [])]
def zc189_4 : List zN := [(82, .iload 6, 2, .null, 0, 0, 0, [], []), (84, .baload, 1, .null, 0, 0, 0, [], []), (85, .ifCond .eq 7, 3, .null, 92, 0, 0, [], []), (88, .iconst 1, 1, .int 1, 0, 0, 0, [0, 1, 2, 3, 5, 6], []), (89, .goto 4, 3, .null, 93, 0, 0, [], []), (92, .iconst 0, 1, .int 0, 0, 0, 0, [], []), (93, .istore 4, 2, .null, 0, 0, 0, [0, 1, 2, 3, 5, 6], []), (95, .iload 5, 2, .null, 0, 0, 0, [], []), (97, .ifCond .ne 16, 3, .null, 113, 0, 0, [], []), (100, .aload_n 0, 1, .null, 0, 0, 0, [], []), (101, .getfield 58, 3, .null, 10, 22, 2, [], []), (104, .bipush 81, 2, .int 81, 0, 0, 0, [], [])]
def zc189_5 : List zN := [(106, .iload 6, 2, .null, 0, 0, 0, [], []), (108, .iadd, 1, .null, 0, 0, 0, [], []), (109, .baload, 1, .null, 0, 0, 0, [], []), (110, .ifCond .eq 7, 3, .null, 117, 0, 0, [], []), (113, .iconst 1, 1, .int 1, 0, 0, 0, [0, 1, 2, 3, 4, 6], []), (114, .goto 4, 3, .null, 118, 0, 0, [], []), (117, .iconst 0, 1, .int 0, 0, 0, 0, [], []), (118, .istore 5, 2, .null, 0, 0, 0, [0, 1, 2, 3, 4, 6], []), (120, .aload_n 0, 1, .null, 0, 0, 0, [], []), (121, .getfield 55, 3, .null, 10, 21, 2, [], []), (124, .iload 6, 2, .null, 0, 0, 0, [], []), (126, .bipush (-6), 2, .int (-6), 0, 0, 0, [], [])]
def zc189_6 : List zN := [(128, .iastore, 1, .null, 0, 0, 0, [], []), (129, .aload_n 0, 1, .null, 0, 0, 0, [], []), (130, .getfield 55, 3, .null, 10, 21, 2, [], []), (133, .bipush 81, 2, .int 81, 0, 0, 0, [], []), (135, .iload 6, 2, .null, 0, 0, 0, [], []), (137, .iadd, 1, .null, 0, 0, 0, [], []), (138, .bipush (-6), 2, .int (-6), 0, 0, 0, [], []), (140, .iastore, 1, .null, 0, 0, 0, [], []), (141, .iinc 6 1, 3, .int 1, 6, 0, 0, [], []), (144, .goto (-118), 3, .null, 26, 0, 0, [], []), (147, .iconst 0, 1, .int 0, 0, 0, 0, [], []), (148, .istore 6, 2, .null, 0, 0, 0, [], [])]
def zc189_7 : List zN := [(150, .iload 6, 2, .null, 0, 0, 0, [0, 1, 2, 3, 4, 5, 6], []), (152, .iload_n 3, 1, .null, 0, 0, 0, [], []), (153, .if_icmp .ge 74, 3, .null, 227, 0, 0, [], []), (156, .aload_n 0, 1, .null, 0, 0, 0, [], []), (157, .iconst 0, 1, .int 0, 0, 0, 0, [], []), (158, .iload 6, 2, .null, 0, 0, 0, [], []), (160, .invokevirtual 206, 3, .null, 176, 2, 10, [], []), (163, .iconst 0, 1, .int 0, 0, 0, 0, [], []), (164, .istore 7, 2, .null, 0, 0, 0, [], []), (166, .iload 7, 2, .null, 0, 0, 0, [0, 1, 2, 3, 4, 5, 6, 7], []), (168, .iload_n 3, 1, .null, 0, 0, 0, [], []), (169, .if_icmp .ge 52, 3, .null, 221, 0, 0, [], [])]
def zc189_8 : List zN := [(172, .aload_n 0, 1, .null, 0, 0, 0, [], []), (173, .iconst 1, 1, .int 1, 0, 0, 0, [], []), (174, .iload 7, 2, .null, 0, 0, 0, [], []), (176, .invokevirtual 206, 3, .null, 176, 2, 10, [], []), (179, .aload_n 0, 1, .null, 0, 0, 0, [], []), (180, .getfield 52, 3, .null, 10, 20, 2, [], []), (183, .iconst 0, 1, .int 0, 0, 0, 0, [], []), (184, .iload 6, 2, .null, 0, 0, 0, [], []), (186, .iload 7, 2, .null, 0, 0, 0, [], []), (188, .invokestatic 228, 3, .null, 188, 3, 0, [], []), (191, .aload_n 0, 1, .null, 0, 0, 0, [], []), (192, .iconst 0, 1, .int 0, 0, 0, 0, [], [])]
def zc189_9 : List zN := [(193, .invokevirtual 193, 3, .null, 172, 1, 10, [], []), (196, .iastore, 1, .null, 0, 0, 0, [], []), (197, .aload_n 0, 1, .null, 0, 0, 0, [], []), (198, .getfield 52, 3, .null, 10, 20, 2, [], []), (201, .iconst 1, 1, .int 1, 0, 0, 0, [], []), (202, .iload 6, 2, .null, 0, 0, 0, [], []), (204, .iload 7, 2, .null, 0, 0, 0, [], []), (206, .invokestatic 228, 3, .null, 188, 3, 0, [], []), (209, .aload_n 0, 1, .null, 0, 0, 0, [], []), (210, .iconst 1, 1, .int 1, 0, 0, 0, [], []), (211, .invokevirtual 193, 3, .null, 172, 1, 10, [], []), (214, .iastore, 1, .null, 0, 0, 0, [], [])]
def zc189_10 : List zN := [(215, .iinc 7 1, 3, .int 1, 7, 0, 0, [], []), (218, .goto (-52), 3, .null, 166, 0, 0, [], []), (221, .iinc 6 1, 3, .int 1, 6, 0, 0, [], []), (224, .goto (-74), 3, .null, 150, 0, 0, [], []), (227, .aload_n 0, 1, .null, 0, 0, 0, [], []), (228, .iconst 0, 1, .int 0, 0, 0, 0, [], []), (229, .iload_n 1, 1, .null, 0, 0, 0, [], []), (230, .invokevirtual 206, 3, .null, 176, 2, 10, [], []), (233, .aload_n 0, 1, .null, 0, 0, 0, [], []), (234, .iconst 1, 1, .int 1, 0, 0, 0, [], []), (235, .iload_n 2, 1, .null, 0, 0, 0, [], []), (236, .invokevirtual 206, 3, .null, 176, 2, 10, [], [])]
def zc189_11 : List zN := [(239, .iload 4, 2, .null, 0, 0, 0, [], []), (241, .ifCond .eq 12, 3, .null, 253, 0, 0, [], []), (244, .iload 5, 2, .null, 0, 0, 0, [], []), (246, .ifCond .eq 7, 3, .null, 253, 0, 0, [], []), (249, .iconst 1, 1, .int 1, 0, 0, 0, [], []), (250, .goto 4, 3, .null, 254, 0, 0, [], []), (253, .iconst 0, 1, .int 0, 0, 0, 0, [99], []), (254, .ireturn, 1, .null, 0, 0, 1, [99], [])]
def zc189 : List (Nat × List zN) := [(17, zc189_0), (36, zc189_1), (58, zc189_2), (79, zc189_3), (104, zc189_4), (126, zc189_5), (148, zc189_6), (169, zc189_7), (192, zc189_8), (214, zc189_9), (236, zc189_10), (254, zc189_11)]
/-- SugarBelowModel.isRest(III)Z -/
def zc190_0 : List zN := [(0, .aload_n 0, 1, .null, 0, 0, 0, [], []), (1, .getfield 58, 3, .null, 10, 22, 2, [], []), (4, .iload_n 1, 1, .null, 0, 0, 0, [], []), (5, .baload, 1, .null, 0, 0, 0, [], []), (6, .ifCond .eq 19, 3, .null, 25, 0, 0, [], []), (9, .aload_n 0, 1, .null, 0, 0, 0, [], []), (10, .getfield 58, 3, .null, 10, 22, 2, [], []), (13, .bipush 81, 2, .int 81, 0, 0, 0, [], []), (15, .iload_n 2, 1, .null, 0, 0, 0, [], []), (16, .iadd, 1, .null, 0, 0, 0, [], []), (17, .baload, 1, .null, 0, 0, 0, [], []), (18, .ifCond .eq 7, 3, .null, 25, 0, 0, [], [])]
def zc190_1 : List zN := [(21, .iconst 1, 1, .int 1, 0, 0, 0, [], []), (22, .goto 4, 3, .null, 26, 0, 0, [], []), (25, .iconst 0, 1, .int 0, 0, 0, 0, [0, 1, 2, 3], []), (26, .istore 4, 2, .null, 0, 0, 0, [0, 1, 2, 3], []), (28, .iconst 0, 1, .int 0, 0, 0, 0, [], []), (29, .istore 5, 2, .null, 0, 0, 0, [], []), (31, .iload 5, 2, .null, 0, 0, 0, [0, 1, 2, 3, 4, 5], []), (33, .iload_n 3, 1, .null, 0, 0, 0, [], []), (34, .if_icmp .ge 96, 3, .null, 130, 0, 0, [], []), (37, .iload 4, 2, .null, 0, 0, 0, [], []), (39, .ifCond .eq 91, 3, .null, 130, 0, 0, [], []), (42, .aload_n 0, 1, .null, 0, 0, 0, [], [])]
def zc190_2 : List zN := [(43, .getfield 58, 3, .null, 10, 22, 2, [], []), (46, .iload 5, 2, .null, 0, 0, 0, [], []), (48, .baload, 1, .null, 0, 0, 0, [], []), (49, .ifCond .eq 29, 3, .null, 78, 0, 0, [], []), (52, .aload_n 0, 1, .null, 0, 0, 0, [], []), (53, .getfield 52, 3, .null, 10, 20, 2, [], []), (56, .iconst 0, 1, .int 0, 0, 0, 0, [], []), (57, .iload 5, 2, .null, 0, 0, 0, [], []), (59, .iload_n 2, 1, .null, 0, 0, 0, [], []), (60, .invokestatic 228, 3, .null, 188, 3, 0, [], []), (63, .iaload, 1, .null, 0, 0, 0, [], []), (64, .aload_n 0, 1, .null, 0, 0, 0, [], [])]
def zc190_3 : List zN := [(65, .getfield 52, 3, .null, 10, 20, 2, [], []), (68, .iconst 0, 1, .int 0, 0, 0, 0, [], []), (69, .iload_n 1, 1, .null, 0, 0, 0, [], []), (70, .iload_n 2, 1, .null, 0, 0, 0, [], []), (71, .invokestatic 228, 3, .null, 188, 3, 0, [], []), (74, .iaload, 1, .null, 0, 0, 0, [], []), (75, .if_icmp .gt 46, 3, .null, 121, 0, 0, [], []), (78, .aload_n 0, 1, .null, 0, 0, 0, [0, 1, 2, 3, 5], []), (79, .getfield 58, 3, .null, 10, 22, 2, [], []), (82, .bipush 81, 2, .int 81, 0, 0, 0, [], []), (84, .iload 5, 2, .null, 0, 0, 0, [], []), (86, .iadd, 1, .null, 0, 0, 0, [], [])]
def zc190_4 : List zN := [(87, .baload, 1, .null, 0, 0, 0, [], []), (88, .ifCond .eq 29, 3, .null, 117, 0, 0, [], []), (91, .aload_n 0, 1, .null, 0, 0, 0, [], []), (92, .getfield 52, 3, .null, 10, 20, 2, [], []), (95, .iconst 1, 1, .int 1, 0, 0, 0, [], []), (96, .iload_n 1, 1, .null, 0, 0, 0, [], []), (97, .iload 5, 2, .null, 0, 0, 0, [], []), (99, .invokestatic 228, 3, .null, 188, 3, 0, [], []), (102, .iaload, 1, .null, 0, 0, 0, [], []), (103, .aload_n 0, 1, .null, 0, 0, 0, [], []), (104, .getfield 52, 3, .null, 10, 20, 2, [], []), (107, .iconst 1, 1, .int 1, 0, 0, 0, [], [])]
def zc190_5 : List zN := [(108, .iload_n 1, 1, .null, 0, 0, 0, [], []), (109, .iload_n 2, 1, .null, 0, 0, 0, [], []), (110, .invokestatic 228, 3, .null, 188, 3, 0, [], []), (113, .iaload, 1, .null, 0, 0, 0, [], []), (114, .if_icmp .gt 7, 3, .null, 121, 0, 0, [], []), (117, .iconst 1, 1, .int 1, 0, 0, 0, [0, 1, 2, 3, 5], []), (118, .goto 4, 3, .null, 122, 0, 0, [], []), (121, .iconst 0, 1, .int 0, 0, 0, 0, [0, 1, 2, 3, 5], []), (122, .istore 4, 2, .null, 0, 0, 0, [0, 1, 2, 3, 5], []), (124, .iinc 5 1, 3, .int 1, 5, 0, 0, [], []), (127, .goto (-96), 3, .null, 31, 0, 0, [], []), (130, .iload 4, 2, .null, 0, 0, 0, [4], [])]
def zc190_6 : List zN := [(132, .ireturn, 1, .null, 0, 0, 1, [], [])]
def zc190 : List (Nat × List zN) := [(18, zc190_0), (42, zc190_1), (64, zc190_2), (86, zc190_3), (107, zc190_4), (130, zc190_5), (132, zc190_6)]
/-- SugarBelowModel.rest(I)I -/
def zc191_0 : List zN := [(0, .aload_n 0, 1, .null, 0, 0, 0, [], []), (1, .invokevirtual 231, 3, .null, 189, 0, 10, [], []), (4, .ifCond .ne 6, 3, .null, 10, 0, 0, [], []), (7, .bipush (-5), 2, .int (-5), 0, 0, 0, [], []), (9, .ireturn, 1, .null, 0, 0, 0, [], []), (10, .aload_n 0, 1, .null, 0, 0, 0, [], []), (11, .invokevirtual 203, 3, .null, 175, 0, 10, [], []), (14, .istore_n 2, 1, .null, 0, 0, 0, [], []), (15, .iconst 0, 1, .int 0, 0, 0, 0, [], []), (16, .istore_n 3, 1, .null, 0, 0, 0, [], []), (17, .iconst 0, 1, .int 0, 0, 0, 0, [], []), (18, .istore 4, 2, .null, 0, 0, 0, [], [])]
def zc191_1 : List zN := [(20, .iload 4, 2, .null, 0, 0, 0, [0, 1, 2, 3, 4], []), (22, .iload_n 2, 1, .null, 0, 0, 0, [], []), (23, .if_icmp .ge 53, 3, .null, 76, 0, 0, [], []), (26, .iconst 0, 1, .int 0, 0, 0, 0, [], []), (27, .istore 5, 2, .null, 0, 0, 0, [], []), (29, .iload 5, 2, .null, 0, 0, 0, [0, 1, 2, 3, 4, 5], []), (31, .iload_n 2, 1, .null, 0, 0, 0, [], []), (32, .if_icmp .ge 38, 3, .null, 70, 0, 0, [], []), (35, .aload_n 0, 1, .null, 0, 0, 0, [], []), (36, .iload 4, 2, .null, 0, 0, 0, [], []), (38, .iload 5, 2, .null, 0, 0, 0, [], []), (40, .iload_n 2, 1, .null, 0, 0, 0, [], [])]
def zc191_2 : List zN := [(41, .invokevirtual 235, 3, .null, 190, 3, 10, [], []), (44, .ifCond .eq 20, 3, .null, 64, 0, 0, [], []), (47, .iload_n 3, 1, .null, 0, 0, 0, [], []), (48, .iload_n 1, 1, .null, 0, 0, 0, [], []), (49, .if_icmp .ne 12, 3, .null, 61, 0, 0, [], []), (52, .bipush 100, 2, .int 100, 0, 0, 0, [], []), (54, .iload 4, 2, .null, 0, 0, 0, [], []), (56, .imul, 1, .null, 0, 0, 0, [], []), (57, .iload 5, 2, .null, 0, 0, 0, [], []), (59, .iadd, 1, .null, 0, 0, 0, [], []), (60, .ireturn, 1, .null, 0, 0, 0, [], []), (61, .iinc 3 1, 3, .int 1, 3, 0, 0, [], [])]
def zc191_3 : List zN := [(64, .iinc 5 1, 3, .int 1, 5, 0, 0, [0, 1, 2, 3, 4, 5], []), (67, .goto (-38), 3, .null, 29, 0, 0, [], []), (70, .iinc 4 1, 3, .int 1, 4, 0, 0, [], []), (73, .goto (-53), 3, .null, 20, 0, 0, [], []), (76, .iload_n 1, 1, .null, 0, 0, 0, [], []), (77, .iconst (-1), 1, .int (-1), 0, 0, 0, [], []), (78, .if_icmp .ne 7, 3, .null, 85, 0, 0, [], []), (81, .iload_n 3, 1, .null, 0, 0, 0, [], []), (82, .goto 5, 3, .null, 87, 0, 0, [], []), (85, .bipush (-6), 2, .int (-6), 0, 0, 0, [], []), (87, .ireturn, 1, .null, 0, 0, 0, [99], [])]
def zc191 : List (Nat × List zN) := [(18, zc191_0), (40, zc191_1), (61, zc191_2), (87, zc191_3)]
/-- SugarBelowModel.goRound(I)Z -/
def zc192_0 : List zN := [(0, .aload_n 0, 1, .null, 0, 0, 0, [], []), (1, .iconst 0, 1, .int 0, 0, 0, 0, [], []), (2, .invokevirtual 216, 3, .null, 179, 1, 10, [], []), (5, .ifCond .lt 11, 3, .null, 16, 0, 0, [], []), (8, .aload_n 0, 1, .null, 0, 0, 0, [], []), (9, .iconst 1, 1, .int 1, 0, 0, 0, [], []), (10, .invokevirtual 216, 3, .null, 179, 1, 10, [], []), (13, .ifCond .ge 5, 3, .null, 18, 0, 0, [], []), (16, .iconst 0, 1, .int 0, 0, 0, 0, [99], []), (17, .ireturn, 1, .null, 0, 0, 1, [], []), (18, .aload_n 0, 1, .null, 0, 0, 0, [], []), (19, .iconst 0, 1, .int 0, 0, 0, 0, [], [])]
def zc192_1 : List zN := [(20, .invokevirtual 196, 3, .null, 174, 1, 10, [], []), (23, .istore_n 2, 1, .null, 0, 0, 0, [], []), (24, .aload_n 0, 1, .null, 0, 0, 0, [], []), (25, .iconst 1, 1, .int 1, 0, 0, 0, [], []), (26, .invokevirtual 196, 3, .null, 174, 1, 10, [], []), (29, .istore_n 3, 1, .null, 0, 0, 0, [], []), (30, .iconst 0, 1, .int 0, 0, 0, 0, [], []), (31, .istore 4, 2, .null, 0, 0, 0, [], []), (33, .iload 4, 2, .null, 0, 0, 0, [0, 1, 2, 3, 4], []), (35, .sipush 13122, 3, .int 13122, 0, 0, 0, [], []), (38, .if_icmp .ge 18, 3, .null, 56, 0, 0, [], []), (41, .aload_n 0, 1, .null, 0, 0, 0, [], [])]
def zc192_2 : List zN := [(42, .getfield 62, 3, .null, 10, 23, 2, [], []), (45, .iload 4, 2, .null, 0, 0, 0, [], []), (47, .bipush (-6), 2, .int (-6), 0, 0, 0, [], []), (49, .iastore, 1, .null, 0, 0, 0, [], []), (50, .iinc 4 1, 3, .int 1, 4, 0, 0, [], []), (53, .goto (-20), 3, .null, 33, 0, 0, [], []), (56, .aload_n 0, 1, .null, 0, 0, 0, [], []), (57, .iconst 0, 1, .int 0, 0, 0, 0, [], []), (58, .putfield 239, 3, .null, 10, 24, 0, [], []), (61, .aload_n 0, 1, .null, 0, 0, 0, [], []), (62, .iconst 0, 1, .int 0, 0, 0, 0, [], []), (63, .putfield 242, 3, .null, 10, 25, 0, [], [])]
def zc192_3 : List zN := [(66, .iload_n 1, 1, .null, 0, 0, 0, [], []), (67, .istore 4, 2, .null, 0, 0, 0, [], []), (69, .iconst 0, 1, .int 0, 0, 0, 0, [], []), (70, .istore 5, 2, .null, 0, 0, 0, [], []), (72, .iconst 0, 1, .int 0, 0, 0, 0, [], []), (73, .istore 6, 2, .null, 0, 0, 0, [], []), (75, .iconst 1, 1, .int 1, 0, 0, 0, [], []), (76, .istore 7, 2, .null, 0, 0, 0, [], []), (78, .aload_n 0, 1, .null, 0, 0, 0, [], []), (79, .getfield 62, 3, .null, 10, 23, 2, [], []), (82, .iload 4, 2, .null, 0, 0, 0, [], []), (84, .iload_n 2, 1, .null, 0, 0, 0, [], [])]
def zc192_4 : List zN := [(85, .iload_n 3, 1, .null, 0, 0, 0, [], []), (86, .invokestatic 228, 3, .null, 188, 3, 0, [], []), (89, .iconst 0, 1, .int 0, 0, 0, 0, [], []), (90, .iastore, 1, .null, 0, 0, 0, [], []), (91, .iload 7, 2, .null, 0, 0, 0, [0, 2, 3, 4, 5, 6, 7], []), (93, .ifCond .eq 169, 3, .null, 262, 0, 0, [], []), (96, .aload_n 0, 1, .null, 0, 0, 0, [], []), (97, .iload 4, 2, .null, 0, 0, 0, [], []), (99, .invokevirtual 216, 3, .null, 179, 1, 10, [], []), (102, .istore 8, 2, .null, 0, 0, 0, [], []), (104, .iload 8, 2, .null, 0, 0, 0, [], []), (106, .aload_n 0, 1, .null, 0, 0, 0, [], [])]
def zc192_5 : List zN := [(107, .iload 4, 2, .null, 0, 0, 0, [], []), (109, .invokevirtual 196, 3, .null, 174, 1, 10, [], []), (112, .if_icmp .eq 29, 3, .null, 141, 0, 0, [], []), (115, .aload_n 0, 1, .null, 0, 0, 0, [], []), (116, .getfield 213, 3, .null, 10, 19, 0, [], []), (119, .aload_n 0, 1, .null, 0, 0, 0, [], []), (120, .iload 4, 2, .null, 0, 0, 0, [], []), (122, .invokevirtual 193, 3, .null, 172, 1, 10, [], []), (125, .if_icmp .gt 12, 3, .null, 137, 0, 0, [], []), (128, .aload_n 0, 1, .null, 0, 0, 0, [], []), (129, .iload 4, 2, .null, 0, 0, 0, [], []), (131, .invokevirtual 210, 3, .null, 178, 1, 10, [], [])]
def zc192_6 : List zN := [(134, .ifCond .ne 7, 3, .null, 141, 0, 0, [], []), (137, .iconst 1, 1, .int 1, 0, 0, 0, [0, 2, 3, 4, 5, 6, 7, 8], []), (138, .goto 4, 3, .null, 142, 0, 0, [], []), (141, .iconst 0, 1, .int 0, 0, 0, 0, [0, 2, 3, 4, 5, 6, 7, 8], []), (142, .istore 9, 2, .null, 0, 0, 0, [0, 2, 3, 4, 5, 6, 7, 8], []), (144, .iload 9, 2, .null, 0, 0, 0, [], []), (146, .ifCond .eq 21, 3, .null, 167, 0, 0, [], []), (149, .aload_n 0, 1, .null, 0, 0, 0, [], []), (150, .iload 4, 2, .null, 0, 0, 0, [], []), (152, .iload 8, 2, .null, 0, 0, 0, [], []), (154, .invokevirtual 206, 3, .null, 176, 2, 10, [], []), (157, .aload_n 0, 1, .null, 0, 0, 0, [], [])]
def zc192_7 : List zN := [(158, .dup, 1, .null, 0, 0, 0, [], []), (159, .getfield 239, 3, .null, 10, 24, 0, [], []), (162, .iconst 1, 1, .int 1, 0, 0, 0, [], []), (163, .iadd, 1, .null, 0, 0, 0, [], []), (164, .putfield 239, 3, .null, 10, 24, 0, [], []), (167, .iload 9, 2, .null, 0, 0, 0, [0, 2, 3, 4, 5, 6, 7, 9], []), (169, .ifCond .eq 7, 3, .null, 176, 0, 0, [], []), (172, .iconst 0, 1, .int 0, 0, 0, 0, [], []), (173, .goto 7, 3, .null, 180, 0, 0, [], []), (176, .iload 5, 2, .null, 0, 0, 0, [], []), (178, .iconst 1, 1, .int 1, 0, 0, 0, [], []), (179, .iadd, 1, .null, 0, 0, 0, [], [])]
def zc192_8 : List zN := [(180, .istore 5, 2, .null, 0, 0, 0, [0, 2, 3, 4, 6, 7], []), (182, .iconst 1, 1, .int 1, 0, 0, 0, [], []), (183, .iload 4, 2, .null, 0, 0, 0, [], []), (185, .isub, 1, .null, 0, 0, 0, [], []), (186, .istore 4, 2, .null, 0, 0, 0, [], []), (188, .iinc 6 1, 3, .int 1, 6, 0, 0, [], []), (191, .iload 4, 2, .null, 0, 0, 0, [], []), (193, .aload_n 0, 1, .null, 0, 0, 0, [], []), (194, .iconst 0, 1, .int 0, 0, 0, 0, [], []), (195, .invokevirtual 196, 3, .null, 174, 1, 10, [], []), (198, .aload_n 0, 1, .null, 0, 0, 0, [], []), (199, .iconst 1, 1, .int 1, 0, 0, 0, [], [])]
def zc192_9 : List zN := [(200, .invokevirtual 196, 3, .null, 174, 1, 10, [], []), (203, .invokestatic 228, 3, .null, 188, 3, 0, [], []), (206, .istore 10, 2, .null, 0, 0, 0, [], []), (208, .iload 5, 2, .null, 0, 0, 0, [], []), (210, .iconst 2, 1, .int 2, 0, 0, 0, [], []), (211, .if_icmp .ne 9, 3, .null, 220, 0, 0, [], []), (214, .iconst 0, 1, .int 0, 0, 0, 0, [], []), (215, .istore 7, 2, .null, 0, 0, 0, [], []), (217, .goto 42, 3, .null, 259, 0, 0, [], []), (220, .aload_n 0, 1, .null, 0, 0, 0, [], []), (221, .getfield 62, 3, .null, 10, 23, 2, [], []), (224, .iload 10, 2, .null, 0, 0, 0, [], [])]
def zc192_10 : List zN := [(226, .iaload, 1, .null, 0, 0, 0, [], []), (227, .ifCond .lt 23, 3, .null, 250, 0, 0, [], []), (230, .aload_n 0, 1, .null, 0, 0, 0, [], []), (231, .iload 6, 2, .null, 0, 0, 0, [], []), (233, .aload_n 0, 1, .null, 0, 0, 0, [], []), (234, .getfield 62, 3, .null, 10, 23, 2, [], []), (237, .iload 10, 2, .null, 0, 0, 0, [], []), (239, .iaload, 1, .null, 0, 0, 0, [], []), (240, .isub, 1, .null, 0, 0, 0, [], []), (241, .putfield 242, 3, .null, 10, 25, 0, [], []), (244, .iconst 0, 1, .int 0, 0, 0, 0, [], []), (245, .istore 7, 2, .null, 0, 0, 0, [], [])]
def zc192_11 : List zN := [(247, .goto 12, 3, .null, 259, 0, 0, [], []), (250, .aload_n 0, 1, .null, 0, 0, 0, [], []), (251, .getfield 62, 3, .null, 10, 23, 2, [], []), (254, .iload 10, 2, .null, 0, 0, 0, [], []), (256, .iload 6, 2, .null, 0, 0, 0, [], []), (258, .iastore, 1, .null, 0, 0, 0, [], []), (259, .goto (-168), 3, .null, 91, 0, 0, [0, 2, 3, 4, 5, 6, 7], []), (262, .aload_n 0, 1, .null, 0, 0, 0, [], []), (263, .aload_n 0, 1, .null, 0, 0, 0, [], []), (264, .iconst 0, 1, .int 0, 0, 0, 0, [], []), (265, .invokevirtual 196, 3, .null, 174, 1, 10, [], []), (268, .putfield 245, 3, .null, 10, 26, 0, [], [])]
def zc192_12 : List zN := [(271, .aload_n 0, 1, .null, 0, 0, 0, [], []), (272, .aload_n 0, 1, .null, 0, 0, 0, [], []), (273, .iconst 1, 1, .int 1, 0, 0, 0, [], []), (274, .invokevirtual 196, 3, .null, 174, 1, 10, [], []), (277, .putfield 248, 3, .null, 10, 27, 0, [], []), (280, .aload_n 0, 1, .null, 0, 0, 0, [], []), (281, .iconst 0, 1, .int 0, 0, 0, 0, [], []), (282, .iload_n 2, 1, .null, 0, 0, 0, [], []), (283, .invokevirtual 206, 3, .null, 176, 2, 10, [], []), (286, .aload_n 0, 1, .null, 0, 0, 0, [], []), (287, .iconst 1, 1, .int 1, 0, 0, 0, [], []), (288, .iload_n 3, 1, .null, 0, 0, 0, [], [])]
def zc192_13 : List zN := [(289, .invokevirtual 206, 3, .null, 176, 2, 10, [], []), (292, .iconst 1, 1, .int 1, 0, 0, 0, [], []), (293, .ireturn, 1, .null, 0, 0, 1, [], [])]
def zc192 : List (Nat × List zN) := [(19, zc192_0), (41, zc192_1), (63, zc192_2), (84, zc192_3), (106, zc192_4), (131, zc192_5), (157, zc192_6), (179, zc192_7), (199, zc192_8), (224, zc192_9), (245, zc192_10), (268, zc192_11), (288, zc192_12), (293, zc192_13)]
/-- SugarBelowModel.ring(II)I -/
def zc193_0 : List zN := [(0, .iload_n 1, 1, .null, 0, 0, 0, [], []), (1, .invokestatic 93, 3, .null, 136, 1, 0, [], []), (4, .ifCond .ne 5, 3, .null, 9, 0, 0, [], []), (7, .iconst (-1), 1, .int (-1), 0, 0, 0, [], []), (8, .ireturn, 1, .null, 0, 0, 0, [], []), (9, .iload_n 2, 1, .null, 0, 0, 0, [], []), (10, .i2l, 1, .null, 0, 0, 0, [], []), (11, .lconst 0, 1, .long 0, 0, 0, 0, [], []), (12, .ldc2_w 82, 3, .long 3, 0, 0, 0, [], []), (15, .invokestatic 74, 3, .null, 134, 3, 0, [], []), (18, .ifCond .ne 6, 3, .null, 24, 0, 0, [], []), (21, .bipush (-2), 2, .int (-2), 0, 0, 0, [], [])]
def zc193_1 : List zN := [(23, .ireturn, 1, .null, 0, 0, 0, [], []), (24, .aload_n 0, 1, .null, 0, 0, 0, [], []), (25, .iload_n 1, 1, .null, 0, 0, 0, [], []), (26, .invokevirtual 251, 3, .null, 192, 1, 10, [], []), (29, .ifCond .ne 6, 3, .null, 35, 0, 0, [], []), (32, .bipush (-5), 2, .int (-5), 0, 0, 0, [], []), (34, .ireturn, 1, .null, 0, 0, 0, [], []), (35, .iload_n 2, 1, .null, 0, 0, 0, [], []), (36, .ifCond .ne 10, 3, .null, 46, 0, 0, [], []), (39, .aload_n 0, 1, .null, 0, 0, 0, [], []), (40, .getfield 239, 3, .null, 10, 24, 0, [], []), (43, .goto 31, 3, .null, 74, 0, 0, [], [])]
def zc193_2 : List zN := [(46, .iload_n 2, 1, .null, 0, 0, 0, [], []), (47, .iconst 1, 1, .int 1, 0, 0, 0, [], []), (48, .if_icmp .ne 10, 3, .null, 58, 0, 0, [], []), (51, .aload_n 0, 1, .null, 0, 0, 0, [], []), (52, .getfield 242, 3, .null, 10, 25, 0, [], []), (55, .goto 19, 3, .null, 74, 0, 0, [], []), (58, .iload_n 2, 1, .null, 0, 0, 0, [], []), (59, .iconst 2, 1, .int 2, 0, 0, 0, [], []), (60, .if_icmp .ne 10, 3, .null, 70, 0, 0, [], []), (63, .aload_n 0, 1, .null, 0, 0, 0, [], []), (64, .getfield 245, 3, .null, 10, 26, 0, [], []), (67, .goto 7, 3, .null, 74, 0, 0, [], [])]
def zc193_3 : List zN := [(70, .aload_n 0, 1, .null, 0, 0, 0, [], []), (71, .getfield 248, 3, .null, 10, 27, 0, [], []), (74, .ireturn, 1, .null, 0, 0, 0, [99], [])]
def zc193 : List (Nat × List zN) := [(21, zc193_0), (43, zc193_1), (67, zc193_2), (74, zc193_3)]
/-- SugarBelowModel.heads(II)I -/
def zc194_0 : List zN := [(0, .iload_n 1, 1, .null, 0, 0, 0, [], []), (1, .invokestatic 93, 3, .null, 136, 1, 0, [], []), (4, .ifCond .eq 11, 3, .null, 15, 0, 0, [], []), (7, .aload_n 0, 1, .null, 0, 0, 0, [], []), (8, .iload_n 2, 1, .null, 0, 0, 0, [], []), (9, .invokevirtual 90, 3, .null, 137, 1, 10, [], []), (12, .ifCond .ne 5, 3, .null, 17, 0, 0, [], []), (15, .iconst (-1), 1, .int (-1), 0, 0, 0, [99], []), (16, .ireturn, 1, .null, 0, 0, 0, [], []), (17, .iconst 4, 1, .int 4, 0, 0, 0, [], []), (18, .iload_n 1, 1, .null, 0, 0, 0, [], []), (19, .imul, 1, .null, 0, 0, 0, [], [])]
def zc194_1 : List zN := [(20, .iload_n 2, 1, .null, 0, 0, 0, [], []), (21, .iadd, 1, .null, 0, 0, 0, [], []), (22, .istore_n 3, 1, .null, 0, 0, 0, [], []), (23, .aload_n 0, 1, .null, 0, 0, 0, [], []), (24, .getfield 13, 3, .null, 10, 1, 2, [], []), (27, .iload_n 3, 1, .null, 0, 0, 0, [], []), (28, .iaload, 1, .null, 0, 0, 0, [], []), (29, .istore 4, 2, .null, 0, 0, 0, [], []), (31, .iconst 0, 1, .int 0, 0, 0, 0, [], []), (32, .istore 5, 2, .null, 0, 0, 0, [], []), (34, .iconst 0, 1, .int 0, 0, 0, 0, [], []), (35, .istore 6, 2, .null, 0, 0, 0, [], [])]
def zc194_2 : List zN := [(37, .iconst 0, 1, .int 0, 0, 0, 0, [], []), (38, .istore 7, 2, .null, 0, 0, 0, [], []), (40, .iload 7, 2, .null, 0, 0, 0, [0, 1, 3, 4, 5, 6, 7], []), (42, .iconst 3, 1, .int 3, 0, 0, 0, [], []), (43, .if_icmp .gt 44, 3, .null, 87, 0, 0, [], []), (46, .aload_n 0, 1, .null, 0, 0, 0, [], []), (47, .getfield 13, 3, .null, 10, 1, 2, [], []), (50, .iload_n 3, 1, .null, 0, 0, 0, [], []), (51, .iload 7, 2, .null, 0, 0, 0, [], []), (53, .iastore, 1, .null, 0, 0, 0, [], []), (54, .aload_n 0, 1, .null, 0, 0, 0, [], []), (55, .iload_n 1, 1, .null, 0, 0, 0, [], [])]
def zc194_3 : List zN := [(56, .invokevirtual 193, 3, .null, 172, 1, 10, [], []), (59, .istore 8, 2, .null, 0, 0, 0, [], []), (61, .iload 7, 2, .null, 0, 0, 0, [], []), (63, .ifCond .eq 10, 3, .null, 73, 0, 0, [], []), (66, .iload 8, 2, .null, 0, 0, 0, [], []), (68, .iload 6, 2, .null, 0, 0, 0, [], []), (70, .if_icmp .lt 11, 3, .null, 81, 0, 0, [], []), (73, .iload 7, 2, .null, 0, 0, 0, [0, 1, 3, 4, 7, 8], []), (75, .istore 5, 2, .null, 0, 0, 0, [], []), (77, .iload 8, 2, .null, 0, 0, 0, [], []), (79, .istore 6, 2, .null, 0, 0, 0, [], []), (81, .iinc 7 1, 3, .int 1, 7, 0, 0, [0, 1, 3, 4, 5, 6, 7], [])]
def zc194_4 : List zN := [(84, .goto (-44), 3, .null, 40, 0, 0, [], []), (87, .aload_n 0, 1, .null, 0, 0, 0, [], []), (88, .getfield 13, 3, .null, 10, 1, 2, [], []), (91, .iload_n 3, 1, .null, 0, 0, 0, [], []), (92, .iload 4, 2, .null, 0, 0, 0, [], []), (94, .iastore, 1, .null, 0, 0, 0, [], []), (95, .iload 5, 2, .null, 0, 0, 0, [], []), (97, .ireturn, 1, .null, 0, 0, 0, [], [])]
def zc194 : List (Nat × List zN) := [(19, zc194_0), (35, zc194_1), (55, zc194_2), (81, zc194_3), (97, zc194_4)]
/-- SugarBelowModel.shown(II)I -/
def zc195_0 : List zN := [(0, .iload_n 1, 1, .null, 0, 0, 0, [], []), (1, .invokestatic 93, 3, .null, 136, 1, 0, [], []), (4, .ifCond .ne 5, 3, .null, 9, 0, 0, [], []), (7, .iconst (-1), 1, .int (-1), 0, 0, 0, [], []), (8, .ireturn, 1, .null, 0, 0, 0, [], []), (9, .iload_n 2, 1, .null, 0, 0, 0, [], []), (10, .i2l, 1, .null, 0, 0, 0, [], []), (11, .lconst 0, 1, .long 0, 0, 0, 0, [], []), (12, .ldc2_w 114, 3, .long 4, 0, 0, 0, [], []), (15, .invokestatic 74, 3, .null, 134, 3, 0, [], []), (18, .ifCond .ne 6, 3, .null, 24, 0, 0, [], []), (21, .bipush (-2), 2, .int (-2), 0, 0, 0, [], [])]
def zc195_1 : List zN := [(23, .ireturn, 1, .null, 0, 0, 0, [], []), (24, .aload_n 0, 1, .null, 0, 0, 0, [], []), (25, .getfield 19, 3, .null, 10, 3, 2, [], []), (28, .iload_n 1, 1, .null, 0, 0, 0, [], []), (29, .iaload, 1, .null, 0, 0, 0, [], []), (30, .istore_n 3, 1, .null, 0, 0, 0, [], []), (31, .bipush (-6), 2, .int (-6), 0, 0, 0, [], []), (33, .istore 4, 2, .null, 0, 0, 0, [], []), (35, .iconst 0, 1, .int 0, 0, 0, 0, [], []), (36, .istore 5, 2, .null, 0, 0, 0, [], []), (38, .iconst 0, 1, .int 0, 0, 0, 0, [], []), (39, .istore 6, 2, .null, 0, 0, 0, [], [])]
def zc195_2 : List zN := [(41, .iload 6, 2, .null, 0, 0, 0, [0, 1, 2, 3, 4, 5, 6], []), (43, .iconst 1, 1, .int 1, 0, 0, 0, [], []), (44, .aload_n 0, 1, .null, 0, 0, 0, [], []), (45, .getfield 78, 3, .null, 10, 6, 0, [], []), (48, .ishl, 1, .null, 0, 0, 0, [], []), (49, .if_icmp .ge 73, 3, .null, 122, 0, 0, [], []), (52, .iload 6, 2, .null, 0, 0, 0, [], []), (54, .invokestatic 254, 3, .null, 135, 1, 0, [], []), (57, .iload_n 2, 1, .null, 0, 0, 0, [], []), (58, .if_icmp .gt 58, 3, .null, 116, 0, 0, [], []), (61, .aload_n 0, 1, .null, 0, 0, 0, [], []), (62, .getfield 19, 3, .null, 10, 3, 2, [], [])]
def zc195_3 : List zN := [(65, .iload_n 1, 1, .null, 0, 0, 0, [], []), (66, .iload 6, 2, .null, 0, 0, 0, [], []), (68, .iastore, 1, .null, 0, 0, 0, [], []), (69, .aload_n 0, 1, .null, 0, 0, 0, [], []), (70, .iload_n 1, 1, .null, 0, 0, 0, [], []), (71, .invokevirtual 193, 3, .null, 172, 1, 10, [], []), (74, .istore 7, 2, .null, 0, 0, 0, [], []), (76, .iload 4, 2, .null, 0, 0, 0, [], []), (78, .ifCond .lt 30, 3, .null, 108, 0, 0, [], []), (81, .iload 7, 2, .null, 0, 0, 0, [], []), (83, .iload 5, 2, .null, 0, 0, 0, [], []), (85, .if_icmp .gt 23, 3, .null, 108, 0, 0, [], [])]
def zc195_4 : List zN := [(88, .iload 7, 2, .null, 0, 0, 0, [], []), (90, .iload 5, 2, .null, 0, 0, 0, [], []), (92, .if_icmp .ne 24, 3, .null, 116, 0, 0, [], []), (95, .iload 6, 2, .null, 0, 0, 0, [], []), (97, .invokestatic 254, 3, .null, 135, 1, 0, [], []), (100, .iload 4, 2, .null, 0, 0, 0, [], []), (102, .invokestatic 254, 3, .null, 135, 1, 0, [], []), (105, .if_icmp .ge 11, 3, .null, 116, 0, 0, [], []), (108, .iload 6, 2, .null, 0, 0, 0, [0, 1, 2, 3, 6, 7], []), (110, .istore 4, 2, .null, 0, 0, 0, [], []), (112, .iload 7, 2, .null, 0, 0, 0, [], []), (114, .istore 5, 2, .null, 0, 0, 0, [], [])]
def zc195_5 : List zN := [(116, .iinc 6 1, 3, .int 1, 6, 0, 0, [0, 1, 2, 3, 4, 5, 6], []), (119, .goto (-78), 3, .null, 41, 0, 0, [], []), (122, .aload_n 0, 1, .null, 0, 0, 0, [], []), (123, .getfield 19, 3, .null, 10, 3, 2, [], []), (126, .iload_n 1, 1, .null, 0, 0, 0, [], []), (127, .iload_n 3, 1, .null, 0, 0, 0, [], []), (128, .iastore, 1, .null, 0, 0, 0, [], []), (129, .iload 4, 2, .null, 0, 0, 0, [], []), (131, .ireturn, 1, .null, 0, 0, 0, [], [])]
def zc195 : List (Nat × List zN) := [(21, zc195_0), (39, zc195_1), (62, zc195_2), (85, zc195_3), (114, zc195_4), (131, zc195_5)]
/-- SugarBelowModel.hurt()I -/
def zc196_0 : List zN := [(0, .aload_n 0, 1, .null, 0, 0, 0, [], []), (1, .getfield 150, 3, .null, 10, 18, 0, [], []), (4, .istore_n 1, 1, .null, 0, 0, 0, [], []), (5, .aload_n 0, 1, .null, 0, 0, 0, [], []), (6, .iconst 0, 1, .int 0, 0, 0, 0, [], []), (7, .invokevirtual 196, 3, .null, 174, 1, 10, [], []), (10, .istore_n 2, 1, .null, 0, 0, 0, [], []), (11, .aload_n 0, 1, .null, 0, 0, 0, [], []), (12, .iconst 1, 1, .int 1, 0, 0, 0, [], []), (13, .putfield 150, 3, .null, 10, 18, 0, [], []), (16, .aload_n 0, 1, .null, 0, 0, 0, [], []), (17, .iconst 0, 1, .int 0, 0, 0, 0, [], [])]
def zc196_1 : List zN := [(18, .invokevirtual 216, 3, .null, 179, 1, 10, [], []), (21, .istore_n 3, 1, .null, 0, 0, 0, [], []), (22, .aload_n 0, 1, .null, 0, 0, 0, [], []), (23, .iconst 0, 1, .int 0, 0, 0, 0, [], []), (24, .putfield 150, 3, .null, 10, 18, 0, [], []), (27, .aload_n 0, 1, .null, 0, 0, 0, [], []), (28, .iconst 0, 1, .int 0, 0, 0, 0, [], []), (29, .invokevirtual 216, 3, .null, 179, 1, 10, [], []), (32, .istore 4, 2, .null, 0, 0, 0, [], []), (34, .aload_n 0, 1, .null, 0, 0, 0, [], []), (35, .iload_n 1, 1, .null, 0, 0, 0, [], []), (36, .putfield 150, 3, .null, 10, 18, 0, [], [])]
def zc196_2 : List zN := [(39, .iload_n 3, 1, .null, 0, 0, 0, [], []), (40, .ifCond .ge 6, 3, .null, 46, 0, 0, [], []), (43, .bipush (-5), 2, .int (-5), 0, 0, 0, [], []), (45, .ireturn, 1, .null, 0, 0, 0, [], []), (46, .iconst 0, 1, .int 0, 0, 0, 0, [], []), (47, .istore 5, 2, .null, 0, 0, 0, [], []), (49, .iconst 0, 1, .int 0, 0, 0, 0, [], []), (50, .istore 6, 2, .null, 0, 0, 0, [], []), (52, .iload 6, 2, .null, 0, 0, 0, [0, 2, 3, 4, 5, 6], []), (54, .aload_n 0, 1, .null, 0, 0, 0, [], []), (55, .getfield 104, 3, .null, 10, 14, 0, [], []), (58, .if_icmp .ge 54, 3, .null, 112, 0, 0, [], [])]
def zc196_3 : List zN := [(61, .aload_n 0, 1, .null, 0, 0, 0, [], []), (62, .iconst 0, 1, .int 0, 0, 0, 0, [], []), (63, .iload 4, 2, .null, 0, 0, 0, [], []), (65, .invokevirtual 206, 3, .null, 176, 2, 10, [], []), (68, .aload_n 0, 1, .null, 0, 0, 0, [], []), (69, .iload 6, 2, .null, 0, 0, 0, [], []), (71, .invokevirtual 187, 3, .null, 169, 1, 10, [], []), (74, .istore 7, 2, .null, 0, 0, 0, [], []), (76, .aload_n 0, 1, .null, 0, 0, 0, [], []), (77, .iconst 0, 1, .int 0, 0, 0, 0, [], []), (78, .iload_n 3, 1, .null, 0, 0, 0, [], []), (79, .invokevirtual 206, 3, .null, 176, 2, 10, [], [])]
def zc196_4 : List zN := [(82, .iload 5, 2, .null, 0, 0, 0, [], []), (84, .aload_n 0, 1, .null, 0, 0, 0, [], []), (85, .iload 6, 2, .null, 0, 0, 0, [], []), (87, .invokevirtual 187, 3, .null, 169, 1, 10, [], []), (90, .iload 7, 2, .null, 0, 0, 0, [], []), (92, .if_icmp .ge 10, 3, .null, 102, 0, 0, [], []), (95, .iconst 1, 1, .int 1, 0, 0, 0, [], []), (96, .iload 6, 2, .null, 0, 0, 0, [], []), (98, .ishl, 1, .null, 0, 0, 0, [], []), (99, .goto 4, 3, .null, 103, 0, 0, [], []), (102, .iconst 0, 1, .int 0, 0, 0, 0, [], []), (103, .ior, 1, .null, 0, 0, 0, [0, 2, 3, 4, 6], [])]
def zc196_5 : List zN := [(104, .istore 5, 2, .null, 0, 0, 0, [], []), (106, .iinc 6 1, 3, .int 1, 6, 0, 0, [], []), (109, .goto (-57), 3, .null, 52, 0, 0, [], []), (112, .aload_n 0, 1, .null, 0, 0, 0, [], []), (113, .iconst 0, 1, .int 0, 0, 0, 0, [], []), (114, .iload_n 2, 1, .null, 0, 0, 0, [], []), (115, .invokevirtual 206, 3, .null, 176, 2, 10, [], []), (118, .iload 5, 2, .null, 0, 0, 0, [], []), (120, .ireturn, 1, .null, 0, 0, 0, [], [])]
def zc196 : List (Nat × List zN) := [(17, zc196_0), (36, zc196_1), (58, zc196_2), (79, zc196_3), (103, zc196_4), (120, zc196_5)]
/-- SugarBelowModel.home(IIIIII)J -/
def zc197_0 : List zN := [(0, .aload_n 0, 1, .null, 0, 0, 0, [], []), (1, .iload_n 1, 1, .null, 0, 0, 0, [], []), (2, .invokevirtual 111, 3, .null, 146, 1, 10, [], []), (5, .ifCond .eq 31, 3, .null, 36, 0, 0, [], []), (8, .iload_n 2, 1, .null, 0, 0, 0, [], []), (9, .invokestatic 93, 3, .null, 136, 1, 0, [], []), (12, .ifCond .eq 24, 3, .null, 36, 0, 0, [], []), (15, .aload_n 0, 1, .null, 0, 0, 0, [], []), (16, .iload_n 3, 1, .null, 0, 0, 0, [], []), (17, .invokevirtual 90, 3, .null, 137, 1, 10, [], []), (20, .ifCond .eq 16, 3, .null, 36, 0, 0, [], []), (23, .aload_n 0, 1, .null, 0, 0, 0, [], [])]
def zc197_1 : List zN := [(24, .getfield 40, 3, .null, 10, 11, 2, [], []), (27, .iconst 4, 1, .int 4, 0, 0, 0, [], []), (28, .iload_n 1, 1, .null, 0, 0, 0, [], []), (29, .imul, 1, .null, 0, 0, 0, [], []), (30, .iload_n 3, 1, .null, 0, 0, 0, [], []), (31, .iadd, 1, .null, 0, 0, 0, [], []), (32, .iaload, 1, .null, 0, 0, 0, [], []), (33, .ifCond .ne 7, 3, .null, 40, 0, 0, [], []), (36, .ldc2_w 170, 3, .long (-1000000000000000001), 0, 0, 0, [99], []), (39, .lreturn, 1, .null, 0, 0, 0, [], []), (40, .iload 4, 2, .null, 0, 0, 0, [], []), (42, .i2l, 1, .null, 0, 0, 0, [], [])]
def zc197_2 : List zN := [(43, .lconst 0, 1, .long 0, 0, 0, 0, [], []), (44, .ldc2_w 257, 3, .long 4095, 0, 0, 0, [], []), (47, .invokestatic 74, 3, .null, 134, 3, 0, [], []), (50, .ifCond .eq 29, 3, .null, 79, 0, 0, [], []), (53, .iload 5, 2, .null, 0, 0, 0, [], []), (55, .i2l, 1, .null, 0, 0, 0, [], []), (56, .lconst 1, 1, .long 1, 0, 0, 0, [], []), (57, .ldc2_w 259, 3, .long 12, 0, 0, 0, [], []), (60, .invokestatic 74, 3, .null, 134, 3, 0, [], []), (63, .ifCond .eq 16, 3, .null, 79, 0, 0, [], []), (66, .iload 6, 2, .null, 0, 0, 0, [], []), (68, .i2l, 1, .null, 0, 0, 0, [], [])]
def zc197_3 : List zN := [(69, .lconst 0, 1, .long 0, 0, 0, 0, [], []), (70, .ldc2_w 96, 3, .long 2, 0, 0, 0, [], []), (73, .invokestatic 74, 3, .null, 134, 3, 0, [], []), (76, .ifCond .ne 7, 3, .null, 83, 0, 0, [], []), (79, .ldc2_w 172, 3, .long (-1000000000000000002), 0, 0, 0, [99], []), (82, .lreturn, 1, .null, 0, 0, 0, [], []), (83, .aload_n 0, 1, .null, 0, 0, 0, [], []), (84, .getfield 22, 3, .null, 10, 4, 2, [], []), (87, .iconst 3, 1, .int 3, 0, 0, 0, [], []), (88, .iload_n 3, 1, .null, 0, 0, 0, [], []), (89, .imul, 1, .null, 0, 0, 0, [], []), (90, .iaload, 1, .null, 0, 0, 0, [], [])]
def zc197_4 : List zN := [(91, .istore 7, 2, .null, 0, 0, 0, [], []), (93, .aload_n 0, 1, .null, 0, 0, 0, [], []), (94, .getfield 22, 3, .null, 10, 4, 2, [], []), (97, .iconst 3, 1, .int 3, 0, 0, 0, [], []), (98, .iload_n 3, 1, .null, 0, 0, 0, [], []), (99, .imul, 1, .null, 0, 0, 0, [], []), (100, .aload_n 0, 1, .null, 0, 0, 0, [], []), (101, .getfield 25, 3, .null, 10, 5, 2, [], []), (104, .iload_n 3, 1, .null, 0, 0, 0, [], []), (105, .iaload, 1, .null, 0, 0, 0, [], []), (106, .iadd, 1, .null, 0, 0, 0, [], []), (107, .iconst 1, 1, .int 1, 0, 0, 0, [], [])]
def zc197_5 : List zN := [(108, .isub, 1, .null, 0, 0, 0, [], []), (109, .iaload, 1, .null, 0, 0, 0, [], []), (110, .istore 8, 2, .null, 0, 0, 0, [], []), (112, .aload_n 0, 1, .null, 0, 0, 0, [], []), (113, .getfield 43, 3, .null, 10, 12, 2, [], []), (116, .iconst 4, 1, .int 4, 0, 0, 0, [], []), (117, .iload_n 1, 1, .null, 0, 0, 0, [], []), (118, .imul, 1, .null, 0, 0, 0, [], []), (119, .iload_n 3, 1, .null, 0, 0, 0, [], []), (120, .iadd, 1, .null, 0, 0, 0, [], []), (121, .iaload, 1, .null, 0, 0, 0, [], []), (122, .istore 9, 2, .null, 0, 0, 0, [], [])]
def zc197_6 : List zN := [(124, .aload_n 0, 1, .null, 0, 0, 0, [], []), (125, .getfield 40, 3, .null, 10, 11, 2, [], []), (128, .iconst 4, 1, .int 4, 0, 0, 0, [], []), (129, .iload_n 1, 1, .null, 0, 0, 0, [], []), (130, .imul, 1, .null, 0, 0, 0, [], []), (131, .iload_n 3, 1, .null, 0, 0, 0, [], []), (132, .iadd, 1, .null, 0, 0, 0, [], []), (133, .iaload, 1, .null, 0, 0, 0, [], []), (134, .istore 10, 2, .null, 0, 0, 0, [], []), (136, .aload_n 0, 1, .null, 0, 0, 0, [], []), (137, .getfield 7, 3, .null, 10, 0, 2, [], []), (140, .iconst 4, 1, .int 4, 0, 0, 0, [], [])]
def zc197_7 : List zN := [(141, .iload_n 2, 1, .null, 0, 0, 0, [], []), (142, .imul, 1, .null, 0, 0, 0, [], []), (143, .iload_n 3, 1, .null, 0, 0, 0, [], []), (144, .iadd, 1, .null, 0, 0, 0, [], []), (145, .iaload, 1, .null, 0, 0, 0, [], []), (146, .istore 11, 2, .null, 0, 0, 0, [], []), (148, .iconst 0, 1, .int 0, 0, 0, 0, [], []), (149, .istore 12, 2, .null, 0, 0, 0, [], []), (151, .lconst 0, 1, .long 0, 0, 0, 0, [], []), (152, .lstore 13, 2, .null, 0, 0, 0, [], []), (154, .lconst 0, 1, .long 0, 0, 0, 0, [], []), (155, .lstore 15, 2, .null, 0, 0, 0, [], [])]
def zc197_8 : List zN := [(157, .iconst 0, 1, .int 0, 0, 0, 0, [], []), (158, .istore 17, 2, .null, 0, 0, 0, [], []), (160, .iload 17, 2, .null, 0, 0, 0, [0, 1, 4, 5, 6, 7, 8, 9, 10, 11, 12, 13, 15, 17], []), (162, .iload 5, 2, .null, 0, 0, 0, [], []), (164, .if_icmp .ge 171, 3, .null, 335, 0, 0, [], []), (167, .iload 4, 2, .null, 0, 0, 0, [], []), (169, .iload 17, 2, .null, 0, 0, 0, [], []), (171, .ishr, 1, .null, 0, 0, 0, [], []), (172, .iconst 1, 1, .int 1, 0, 0, 0, [], []), (173, .iand, 1, .null, 0, 0, 0, [], []), (174, .iconst 1, 1, .int 1, 0, 0, 0, [], []), (175, .if_icmp .ne 14, 3, .null, 189, 0, 0, [], [])]
def zc197_9 : List zN := [(178, .iload 7, 2, .null, 0, 0, 0, [], []), (180, .iload 8, 2, .null, 0, 0, 0, [], []), (182, .if_icmp .ge 7, 3, .null, 189, 0, 0, [], []), (185, .iconst 1, 1, .int 1, 0, 0, 0, [], []), (186, .goto 4, 3, .null, 190, 0, 0, [], []), (189, .iconst 0, 1, .int 0, 0, 0, 0, [0, 1, 4, 5, 6, 7, 8, 9, 10, 11, 12, 13, 15, 17], []), (190, .istore 18, 2, .null, 0, 0, 0, [0, 1, 4, 5, 6, 7, 8, 9, 10, 11, 12, 13, 15, 17], []), (192, .iload 4, 2, .null, 0, 0, 0, [], []), (194, .iload 17, 2, .null, 0, 0, 0, [], []), (196, .ishr, 1, .null, 0, 0, 0, [], []), (197, .iconst 1, 1, .int 1, 0, 0, 0, [], []), (198, .iand, 1, .null, 0, 0, 0, [], [])]
def zc197_10 : List zN := [(199, .iconst 1, 1, .int 1, 0, 0, 0, [], []), (200, .if_icmp .ne 8, 3, .null, 208, 0, 0, [], []), (203, .iload 7, 2, .null, 0, 0, 0, [], []), (205, .goto 5, 3, .null, 210, 0, 0, [], []), (208, .iload 8, 2, .null, 0, 0, 0, [], []), (210, .istore 19, 2, .null, 0, 0, 0, [0, 1, 4, 5, 6, 7, 8, 9, 10, 11, 12, 13, 15, 17, 18], []), (212, .iload 18, 2, .null, 0, 0, 0, [], []), (214, .ifCond .ne 8, 3, .null, 222, 0, 0, [], []), (217, .iload 12, 2, .null, 0, 0, 0, [], []), (219, .ifCond .ne 7, 3, .null, 226, 0, 0, [], []), (222, .iconst 0, 1, .int 0, 0, 0, 0, [0, 1, 4, 5, 6, 7, 8, 9, 10, 11, 12, 13, 15, 17, 18, 19], []), (223, .goto 17, 3, .null, 240, 0, 0, [], [])]
def zc197_11 : List zN := [(226, .iload 12, 2, .null, 0, 0, 0, [], []), (228, .iload 10, 2, .null, 0, 0, 0, [], []), (230, .if_icmp .ge 8, 3, .null, 238, 0, 0, [], []), (233, .iload 12, 2, .null, 0, 0, 0, [], []), (235, .goto 5, 3, .null, 240, 0, 0, [], []), (238, .iload 10, 2, .null, 0, 0, 0, [], []), (240, .istore 20, 2, .null, 0, 0, 0, [0, 1, 4, 5, 6, 7, 8, 9, 10, 11, 12, 13, 15, 17, 18, 19], []), (242, .iload 19, 2, .null, 0, 0, 0, [], []), (244, .iload 9, 2, .null, 0, 0, 0, [], []), (246, .if_icmp .le 7, 3, .null, 253, 0, 0, [], []), (249, .iconst 0, 1, .int 0, 0, 0, 0, [], []), (250, .goto 28, 3, .null, 278, 0, 0, [], [])]
def zc197_12 : List zN := [(253, .iload 18, 2, .null, 0, 0, 0, [], []), (255, .ifCond .eq 18, 3, .null, 273, 0, 0, [], []), (258, .iload 10, 2, .null, 0, 0, 0, [], []), (260, .aload_n 0, 1, .null, 0, 0, 0, [], []), (261, .getfield 37, 3, .null, 10, 10, 2, [], []), (264, .iload_n 1, 1, .null, 0, 0, 0, [], []), (265, .iaload, 1, .null, 0, 0, 0, [], []), (266, .iadd, 1, .null, 0, 0, 0, [], []), (267, .iload 12, 2, .null, 0, 0, 0, [], []), (269, .isub, 1, .null, 0, 0, 0, [], []), (270, .goto 8, 3, .null, 278, 0, 0, [], []), (273, .iload 10, 2, .null, 0, 0, 0, [], [])]
def zc197_13 : List zN := [(275, .iload 20, 2, .null, 0, 0, 0, [], []), (277, .isub, 1, .null, 0, 0, 0, [], []), (278, .istore 21, 2, .null, 0, 0, 0, [0, 1, 4, 5, 6, 7, 8, 9, 10, 11, 12, 13, 15, 17, 18, 19, 20], []), (280, .iload 18, 2, .null, 0, 0, 0, [], []), (282, .ifCond .eq 17, 3, .null, 299, 0, 0, [], []), (285, .iload 21, 2, .null, 0, 0, 0, [], []), (287, .ifCond .le 12, 3, .null, 299, 0, 0, [], []), (290, .aload_n 0, 1, .null, 0, 0, 0, [], []), (291, .getfield 37, 3, .null, 10, 10, 2, [], []), (294, .iload_n 1, 1, .null, 0, 0, 0, [], []), (295, .iaload, 1, .null, 0, 0, 0, [], []), (296, .goto 8, 3, .null, 304, 0, 0, [], [])]
def zc197_14 : List zN := [(299, .iload 12, 2, .null, 0, 0, 0, [0, 1, 4, 5, 6, 7, 8, 9, 10, 11, 12, 13, 15, 17, 19, 20, 21], []), (301, .iload 20, 2, .null, 0, 0, 0, [], []), (303, .isub, 1, .null, 0, 0, 0, [], []), (304, .istore 12, 2, .null, 0, 0, 0, [0, 1, 4, 5, 6, 7, 8, 9, 10, 11, 13, 15, 17, 19, 21], []), (306, .lload 13, 2, .null, 0, 0, 0, [], []), (308, .iload 21, 2, .null, 0, 0, 0, [], []), (310, .i2l, 1, .null, 0, 0, 0, [], []), (311, .ladd, 1, .null, 0, 0, 0, [], []), (312, .lstore 13, 2, .null, 0, 0, 0, [], []), (314, .lload 15, 2, .null, 0, 0, 0, [], []), (316, .iload 21, 2, .null, 0, 0, 0, [], []), (318, .i2l, 1, .null, 0, 0, 0, [], [])]
def zc197_15 : List zN := [(319, .iload 19, 2, .null, 0, 0, 0, [], []), (321, .iload 11, 2, .null, 0, 0, 0, [], []), (323, .isub, 1, .null, 0, 0, 0, [], []), (324, .i2l, 1, .null, 0, 0, 0, [], []), (325, .lmul, 1, .null, 0, 0, 0, [], []), (326, .ladd, 1, .null, 0, 0, 0, [], []), (327, .lstore 15, 2, .null, 0, 0, 0, [], []), (329, .iinc 17 1, 3, .int 1, 17, 0, 0, [], []), (332, .goto (-172), 3, .null, 160, 0, 0, [], []), (335, .iload 6, 2, .null, 0, 0, 0, [], []), (337, .ifCond .ne 8, 3, .null, 345, 0, 0, [], []), (340, .lload 13, 2, .null, 0, 0, 0, [], [])]
def zc197_16 : List zN := [(342, .goto 17, 3, .null, 359, 0, 0, [], []), (345, .iload 6, 2, .null, 0, 0, 0, [], []), (347, .iconst 1, 1, .int 1, 0, 0, 0, [], []), (348, .if_icmp .ne 8, 3, .null, 356, 0, 0, [], []), (351, .lload 15, 2, .null, 0, 0, 0, [], []), (353, .goto 6, 3, .null, 359, 0, 0, [], []), (356, .iload 12, 2, .null, 0, 0, 0, [], []), (358, .i2l, 1, .null, 0, 0, 0, [], []), (359, .lreturn, 1, .null, 0, 0, 0, [99], [])]
def zc197 : List (Nat × List zN) := [(23, zc197_0), (42, zc197_1), (68, zc197_2), (90, zc197_3), (107, zc197_4), (122, zc197_5), (140, zc197_6), (155, zc197_7), (175, zc197_8), (198, zc197_9), (223, zc197_10), (250, zc197_11), (273, zc197_12), (296, zc197_13), (318, zc197_14), (340, zc197_15), (359, zc197_16)]
/-- SugarBelowModel.slip(I)I -/
def zc198_0 : List zN := [(0, .iload_n 1, 1, .null, 0, 0, 0, [], []), (1, .i2l, 1, .null, 0, 0, 0, [], []), (2, .lconst 0, 1, .long 0, 0, 0, 0, [], []), (3, .ldc2_w 98, 3, .long 15, 0, 0, 0, [], []), (6, .invokestatic 74, 3, .null, 134, 3, 0, [], []), (9, .ifCond .ne 6, 3, .null, 15, 0, 0, [], []), (12, .bipush (-2), 2, .int (-2), 0, 0, 0, [], []), (14, .ireturn, 1, .null, 0, 0, 0, [], []), (15, .aload_n 0, 1, .null, 0, 0, 0, [], []), (16, .getfield 261, 3, .null, 10, 29, 0, [], []), (19, .bipush 30, 2, .int 30, 0, 0, 0, [], []), (21, .if_icmp .ne 6, 3, .null, 27, 0, 0, [], [])]
def zc198_1 : List zN := [(24, .bipush (-4), 2, .int (-4), 0, 0, 0, [], []), (26, .ireturn, 1, .null, 0, 0, 0, [], []), (27, .aload_n 0, 1, .null, 0, 0, 0, [], []), (28, .getfield 65, 3, .null, 10, 28, 2, [], []), (31, .aload_n 0, 1, .null, 0, 0, 0, [], []), (32, .getfield 261, 3, .null, 10, 29, 0, [], []), (35, .iload_n 1, 1, .null, 0, 0, 0, [], []), (36, .iastore, 1, .null, 0, 0, 0, [], []), (37, .aload_n 0, 1, .null, 0, 0, 0, [], []), (38, .dup, 1, .null, 0, 0, 0, [], []), (39, .getfield 261, 3, .null, 10, 29, 0, [], []), (42, .iconst 1, 1, .int 1, 0, 0, 0, [], [])]
def zc198_2 : List zN := [(43, .iadd, 1, .null, 0, 0, 0, [], []), (44, .putfield 261, 3, .null, 10, 29, 0, [], []), (47, .aload_n 0, 1, .null, 0, 0, 0, [], []), (48, .getfield 261, 3, .null, 10, 29, 0, [], []), (51, .ireturn, 1, .null, 0, 0, 0, [], [])]
def zc198 : List (Nat × List zN) := [(21, zc198_0), (42, zc198_1), (51, zc198_2)]
/-- SugarBelowModel.burn()I -/
def zc199_0 : List zN := [(0, .aload_n 0, 1, .null, 0, 0, 0, [], []), (1, .getfield 261, 3, .null, 10, 29, 0, [], []), (4, .istore_n 1, 1, .null, 0, 0, 0, [], []), (5, .aload_n 0, 1, .null, 0, 0, 0, [], []), (6, .iconst 0, 1, .int 0, 0, 0, 0, [], []), (7, .putfield 261, 3, .null, 10, 29, 0, [], []), (10, .iload_n 1, 1, .null, 0, 0, 0, [], []), (11, .ireturn, 1, .null, 0, 0, 0, [], [])]
def zc199 : List (Nat × List zN) := [(11, zc199_0)]
/-- SugarBelowModel.withBoth(II)I -/
def zc200_0 : List zN := [(0, .iconst 0, 1, .int 0, 0, 0, 0, [], []), (1, .istore_n 3, 1, .null, 0, 0, 0, [], []), (2, .iconst 0, 1, .int 0, 0, 0, 0, [], []), (3, .istore 4, 2, .null, 0, 0, 0, [], []), (5, .iload 4, 2, .null, 0, 0, 0, [0, 1, 2, 3, 4], []), (7, .aload_n 0, 1, .null, 0, 0, 0, [], []), (8, .getfield 261, 3, .null, 10, 29, 0, [], []), (11, .if_icmp .ge 33, 3, .null, 44, 0, 0, [], []), (14, .iload_n 3, 1, .null, 0, 0, 0, [], []), (15, .aload_n 0, 1, .null, 0, 0, 0, [], []), (16, .getfield 65, 3, .null, 10, 28, 2, [], []), (19, .iload 4, 2, .null, 0, 0, 0, [], [])]
def zc200_1 : List zN := [(21, .iaload, 1, .null, 0, 0, 0, [], []), (22, .iload_n 1, 1, .null, 0, 0, 0, [], []), (23, .ishr, 1, .null, 0, 0, 0, [], []), (24, .aload_n 0, 1, .null, 0, 0, 0, [], []), (25, .getfield 65, 3, .null, 10, 28, 2, [], []), (28, .iload 4, 2, .null, 0, 0, 0, [], []), (30, .iaload, 1, .null, 0, 0, 0, [], []), (31, .iload_n 2, 1, .null, 0, 0, 0, [], []), (32, .ishr, 1, .null, 0, 0, 0, [], []), (33, .iand, 1, .null, 0, 0, 0, [], []), (34, .iconst 1, 1, .int 1, 0, 0, 0, [], []), (35, .iand, 1, .null, 0, 0, 0, [], [])]
def zc200_2 : List zN := [(36, .iadd, 1, .null, 0, 0, 0, [], []), (37, .istore_n 3, 1, .null, 0, 0, 0, [], []), (38, .iinc 4 1, 3, .int 1, 4, 0, 0, [], []), (41, .goto (-36), 3, .null, 5, 0, 0, [], []), (44, .iload_n 3, 1, .null, 0, 0, 0, [], []), (45, .ireturn, 1, .null, 0, 0, 0, [], [])]
def zc200 : List (Nat × List zN) := [(19, zc200_0), (35, zc200_1), (45, zc200_2)]
/-- SugarBelowModel.with(II)I -/
def zc201_0 : List zN := [(0, .iload_n 1, 1, .null, 0, 0, 0, [], []), (1, .invokestatic 147, 3, .null, 138, 1, 0, [], []), (4, .ifCond .eq 19, 3, .null, 23, 0, 0, [], []), (7, .iload_n 2, 1, .null, 0, 0, 0, [], []), (8, .invokestatic 147, 3, .null, 138, 1, 0, [], []), (11, .ifCond .eq 12, 3, .null, 23, 0, 0, [], []), (14, .aload_n 0, 1, .null, 0, 0, 0, [], []), (15, .iload_n 1, 1, .null, 0, 0, 0, [], []), (16, .iload_n 2, 1, .null, 0, 0, 0, [], []), (17, .invokevirtual 264, 3, .null, 200, 2, 10, [], []), (20, .goto 4, 3, .null, 24, 0, 0, [], []), (23, .iconst (-1), 1, .int (-1), 0, 0, 0, [99], [])]
def zc201_1 : List zN := [(24, .ireturn, 1, .null, 0, 0, 0, [99], [])]
def zc201 : List (Nat × List zN) := [(23, zc201_0), (24, zc201_1)]
/-- SugarBelowModel.choose(II)J -/
def zc202_0 : List zN := [(0, .iload_n 1, 1, .null, 0, 0, 0, [], []), (1, .ifCond .lt 8, 3, .null, 9, 0, 0, [], []), (4, .iload_n 1, 1, .null, 0, 0, 0, [], []), (5, .iload_n 0, 1, .null, 0, 0, 0, [], []), (6, .if_icmp .le 5, 3, .null, 11, 0, 0, [], []), (9, .lconst 0, 1, .long 0, 0, 0, 0, [99], []), (10, .lreturn, 1, .null, 0, 0, 0, [], []), (11, .lconst 1, 1, .long 1, 0, 0, 0, [], []), (12, .lstore_n 2, 1, .null, 0, 0, 0, [], []), (13, .iconst 1, 1, .int 1, 0, 0, 0, [], []), (14, .istore 4, 2, .null, 0, 0, 0, [], []), (16, .iload 4, 2, .null, 0, 0, 0, [0, 1, 2, 4], [])]
def zc202_1 : List zN := [(18, .iload_n 1, 1, .null, 0, 0, 0, [], []), (19, .if_icmp .gt 23, 3, .null, 42, 0, 0, [], []), (22, .lload_n 2, 1, .null, 0, 0, 0, [], []), (23, .iload_n 0, 1, .null, 0, 0, 0, [], []), (24, .iload_n 1, 1, .null, 0, 0, 0, [], []), (25, .isub, 1, .null, 0, 0, 0, [], []), (26, .iload 4, 2, .null, 0, 0, 0, [], []), (28, .iadd, 1, .null, 0, 0, 0, [], []), (29, .i2l, 1, .null, 0, 0, 0, [], []), (30, .lmul, 1, .null, 0, 0, 0, [], []), (31, .iload 4, 2, .null, 0, 0, 0, [], []), (33, .i2l, 1, .null, 0, 0, 0, [], [])]
def zc202_2 : List zN := [(34, .ldiv, 1, .null, 0, 0, 0, [], []), (35, .lstore_n 2, 1, .null, 0, 0, 0, [], []), (36, .iinc 4 1, 3, .int 1, 4, 0, 0, [], []), (39, .goto (-23), 3, .null, 16, 0, 0, [], []), (42, .lload_n 2, 1, .null, 0, 0, 0, [], []), (43, .lreturn, 1, .null, 0, 0, 0, [], [])]
def zc202 : List (Nat × List zN) := [(16, zc202_0), (33, zc202_1), (43, zc202_2)]
/-- SugarBelowModel.chance(III)J -/
def zc203_0 : List zN := [(0, .iload_n 1, 1, .null, 0, 0, 0, [], []), (1, .invokestatic 147, 3, .null, 138, 1, 0, [], []), (4, .ifCond .eq 15, 3, .null, 19, 0, 0, [], []), (7, .iload_n 2, 1, .null, 0, 0, 0, [], []), (8, .invokestatic 147, 3, .null, 138, 1, 0, [], []), (11, .ifCond .eq 8, 3, .null, 19, 0, 0, [], []), (14, .iload_n 1, 1, .null, 0, 0, 0, [], []), (15, .iload_n 2, 1, .null, 0, 0, 0, [], []), (16, .if_icmp .ne 7, 3, .null, 23, 0, 0, [], []), (19, .ldc2_w 170, 3, .long (-1000000000000000001), 0, 0, 0, [99], []), (22, .lreturn, 1, .null, 0, 0, 0, [], []), (23, .iload_n 3, 1, .null, 0, 0, 0, [], [])]
def zc203_1 : List zN := [(24, .i2l, 1, .null, 0, 0, 0, [], []), (25, .lconst 0, 1, .long 0, 0, 0, 0, [], []), (26, .lconst 1, 1, .long 1, 0, 0, 0, [], []), (27, .invokestatic 74, 3, .null, 134, 3, 0, [], []), (30, .ifCond .ne 7, 3, .null, 37, 0, 0, [], []), (33, .ldc2_w 172, 3, .long (-1000000000000000002), 0, 0, 0, [], []), (36, .lreturn, 1, .null, 0, 0, 0, [], []), (37, .aload_n 0, 1, .null, 0, 0, 0, [], []), (38, .getfield 261, 3, .null, 10, 29, 0, [], []), (41, .ifCond .ne 7, 3, .null, 48, 0, 0, [], []), (44, .ldc2_w 267, 3, .long (-1000000000000000003), 0, 0, 0, [], []), (47, .lreturn, 1, .null, 0, 0, 0, [], [])]
def zc203_2 : List zN := [(48, .aload_n 0, 1, .null, 0, 0, 0, [], []), (49, .iload_n 1, 1, .null, 0, 0, 0, [], []), (50, .iload_n 1, 1, .null, 0, 0, 0, [], []), (51, .invokevirtual 264, 3, .null, 200, 2, 10, [], []), (54, .istore 4, 2, .null, 0, 0, 0, [], []), (56, .aload_n 0, 1, .null, 0, 0, 0, [], []), (57, .iload_n 2, 1, .null, 0, 0, 0, [], []), (58, .iload_n 2, 1, .null, 0, 0, 0, [], []), (59, .invokevirtual 264, 3, .null, 200, 2, 10, [], []), (62, .istore 5, 2, .null, 0, 0, 0, [], []), (64, .lconst 0, 1, .long 0, 0, 0, 0, [], []), (65, .lstore 6, 2, .null, 0, 0, 0, [], [])]
def zc203_3 : List zN := [(67, .aload_n 0, 1, .null, 0, 0, 0, [], []), (68, .iload_n 1, 1, .null, 0, 0, 0, [], []), (69, .iload_n 2, 1, .null, 0, 0, 0, [], []), (70, .invokevirtual 264, 3, .null, 200, 2, 10, [], []), (73, .istore 8, 2, .null, 0, 0, 0, [], []), (75, .iload 8, 2, .null, 0, 0, 0, [0, 3, 4, 5, 6, 8], []), (77, .iload 4, 2, .null, 0, 0, 0, [], []), (79, .if_icmp .gt 37, 3, .null, 116, 0, 0, [], []), (82, .lload 6, 2, .null, 0, 0, 0, [], []), (84, .iload 5, 2, .null, 0, 0, 0, [], []), (86, .iload 8, 2, .null, 0, 0, 0, [], []), (88, .invokestatic 269, 3, .null, 202, 2, 0, [], [])]
def zc203_4 : List zN := [(91, .aload_n 0, 1, .null, 0, 0, 0, [], []), (92, .getfield 261, 3, .null, 10, 29, 0, [], []), (95, .iload 5, 2, .null, 0, 0, 0, [], []), (97, .isub, 1, .null, 0, 0, 0, [], []), (98, .iload 4, 2, .null, 0, 0, 0, [], []), (100, .iload 8, 2, .null, 0, 0, 0, [], []), (102, .isub, 1, .null, 0, 0, 0, [], []), (103, .invokestatic 269, 3, .null, 202, 2, 0, [], []), (106, .lmul, 1, .null, 0, 0, 0, [], []), (107, .ladd, 1, .null, 0, 0, 0, [], []), (108, .lstore 6, 2, .null, 0, 0, 0, [], []), (110, .iinc 8 1, 3, .int 1, 8, 0, 0, [], [])]
def zc203_5 : List zN := [(113, .goto (-38), 3, .null, 75, 0, 0, [], []), (116, .aload_n 0, 1, .null, 0, 0, 0, [], []), (117, .getfield 261, 3, .null, 10, 29, 0, [], []), (120, .iload 4, 2, .null, 0, 0, 0, [], []), (122, .invokestatic 269, 3, .null, 202, 2, 0, [], []), (125, .lstore 8, 2, .null, 0, 0, 0, [], []), (127, .lload 6, 2, .null, 0, 0, 0, [], []), (129, .lstore 10, 2, .null, 0, 0, 0, [], []), (131, .lload 8, 2, .null, 0, 0, 0, [], []), (133, .lstore 12, 2, .null, 0, 0, 0, [], []), (135, .lload 12, 2, .null, 0, 0, 0, [3, 6, 8, 10, 12], []), (137, .lconst 0, 1, .long 0, 0, 0, 0, [], [])]
def zc203_6 : List zN := [(138, .lcmp, 1, .null, 0, 0, 0, [], []), (139, .ifCond .eq 21, 3, .null, 160, 0, 0, [], []), (142, .lload 10, 2, .null, 0, 0, 0, [], []), (144, .lload 12, 2, .null, 0, 0, 0, [], []), (146, .lrem, 1, .null, 0, 0, 0, [], []), (147, .lstore 14, 2, .null, 0, 0, 0, [], []), (149, .lload 12, 2, .null, 0, 0, 0, [], []), (151, .lstore 10, 2, .null, 0, 0, 0, [], []), (153, .lload 14, 2, .null, 0, 0, 0, [], []), (155, .lstore 12, 2, .null, 0, 0, 0, [], []), (157, .goto (-22), 3, .null, 135, 0, 0, [], []), (160, .iload_n 3, 1, .null, 0, 0, 0, [], [])]
def zc203_7 : List zN := [(161, .ifCond .ne 11, 3, .null, 172, 0, 0, [], []), (164, .lload 6, 2, .null, 0, 0, 0, [], []), (166, .lload 10, 2, .null, 0, 0, 0, [], []), (168, .ldiv, 1, .null, 0, 0, 0, [], []), (169, .goto 8, 3, .null, 177, 0, 0, [], []), (172, .lload 8, 2, .null, 0, 0, 0, [], []), (174, .lload 10, 2, .null, 0, 0, 0, [], []), (176, .ldiv, 1, .null, 0, 0, 0, [], []), (177, .lreturn, 1, .null, 0, 0, 0, [99], [])]
def zc203 : List (Nat × List zN) := [(23, zc203_0), (47, zc203_1), (65, zc203_2), (88, zc203_3), (110, zc203_4), (137, zc203_5), (160, zc203_6), (177, zc203_7)]
/-- SugarBelowModel.edge(II)I -/
def zc204_0 : List zN := [(0, .iload_n 1, 1, .null, 0, 0, 0, [], []), (1, .invokestatic 93, 3, .null, 136, 1, 0, [], []), (4, .ifCond .eq 11, 3, .null, 15, 0, 0, [], []), (7, .aload_n 0, 1, .null, 0, 0, 0, [], []), (8, .iload_n 2, 1, .null, 0, 0, 0, [], []), (9, .invokevirtual 90, 3, .null, 137, 1, 10, [], []), (12, .ifCond .ne 5, 3, .null, 17, 0, 0, [], []), (15, .iconst (-1), 1, .int (-1), 0, 0, 0, [99], []), (16, .ireturn, 1, .null, 0, 0, 0, [], []), (17, .aload_n 0, 1, .null, 0, 0, 0, [], []), (18, .iload_n 1, 1, .null, 0, 0, 0, [], []), (19, .invokevirtual 216, 3, .null, 179, 1, 10, [], [])]
def zc204_1 : List zN := [(22, .istore_n 3, 1, .null, 0, 0, 0, [], []), (23, .iload_n 3, 1, .null, 0, 0, 0, [], []), (24, .ifCond .ge 6, 3, .null, 30, 0, 0, [], []), (27, .bipush (-5), 2, .int (-5), 0, 0, 0, [], []), (29, .ireturn, 1, .null, 0, 0, 0, [], []), (30, .iconst 4, 1, .int 4, 0, 0, 0, [], []), (31, .iload_n 1, 1, .null, 0, 0, 0, [], []), (32, .imul, 1, .null, 0, 0, 0, [], []), (33, .iload_n 2, 1, .null, 0, 0, 0, [], []), (34, .iadd, 1, .null, 0, 0, 0, [], []), (35, .istore 4, 2, .null, 0, 0, 0, [], []), (37, .aload_n 0, 1, .null, 0, 0, 0, [], [])]
def zc204_2 : List zN := [(38, .getfield 7, 3, .null, 10, 0, 2, [], []), (41, .iload 4, 2, .null, 0, 0, 0, [], []), (43, .iaload, 1, .null, 0, 0, 0, [], []), (44, .istore 5, 2, .null, 0, 0, 0, [], []), (46, .bipush (-6), 2, .int (-6), 0, 0, 0, [], []), (48, .istore 6, 2, .null, 0, 0, 0, [], []), (50, .iconst 1, 1, .int 1, 0, 0, 0, [], []), (51, .istore 7, 2, .null, 0, 0, 0, [], []), (53, .iload 7, 2, .null, 0, 0, 0, [0, 1, 3, 4, 5, 6, 7], []), (55, .bipush 99, 2, .int 99, 0, 0, 0, [], []), (57, .if_icmp .gt 98, 3, .null, 155, 0, 0, [], []), (60, .iload 6, 2, .null, 0, 0, 0, [], [])]
def zc204_3 : List zN := [(62, .ifCond .ge 93, 3, .null, 155, 0, 0, [], []), (65, .iconst 0, 1, .int 0, 0, 0, 0, [], []), (66, .istore 8, 2, .null, 0, 0, 0, [], []), (68, .iload 8, 2, .null, 0, 0, 0, [0, 1, 3, 4, 5, 6, 7, 8], []), (70, .iconst 2, 1, .int 2, 0, 0, 0, [], []), (71, .if_icmp .ge 78, 3, .null, 149, 0, 0, [], []), (74, .iload 6, 2, .null, 0, 0, 0, [], []), (76, .ifCond .ge 73, 3, .null, 149, 0, 0, [], []), (79, .iload 8, 2, .null, 0, 0, 0, [], []), (81, .ifCond .ne 11, 3, .null, 92, 0, 0, [], []), (84, .iload 5, 2, .null, 0, 0, 0, [], []), (86, .iload 7, 2, .null, 0, 0, 0, [], [])]
def zc204_4 : List zN := [(88, .isub, 1, .null, 0, 0, 0, [], []), (89, .goto 8, 3, .null, 97, 0, 0, [], []), (92, .iload 5, 2, .null, 0, 0, 0, [], []), (94, .iload 7, 2, .null, 0, 0, 0, [], []), (96, .iadd, 1, .null, 0, 0, 0, [], []), (97, .istore 9, 2, .null, 0, 0, 0, [0, 1, 3, 4, 5, 6, 7, 8], []), (99, .iload 9, 2, .null, 0, 0, 0, [], []), (101, .invokestatic 86, 3, .null, 139, 1, 0, [], []), (104, .ifCond .eq 39, 3, .null, 143, 0, 0, [], []), (107, .aload_n 0, 1, .null, 0, 0, 0, [], []), (108, .getfield 7, 3, .null, 10, 0, 2, [], []), (111, .iload 4, 2, .null, 0, 0, 0, [], [])]
def zc204_5 : List zN := [(113, .iload 9, 2, .null, 0, 0, 0, [], []), (115, .iastore, 1, .null, 0, 0, 0, [], []), (116, .aload_n 0, 1, .null, 0, 0, 0, [], []), (117, .iload_n 1, 1, .null, 0, 0, 0, [], []), (118, .invokevirtual 216, 3, .null, 179, 1, 10, [], []), (121, .istore 10, 2, .null, 0, 0, 0, [], []), (123, .iload 10, 2, .null, 0, 0, 0, [], []), (125, .ifCond .lt 14, 3, .null, 139, 0, 0, [], []), (128, .iload 10, 2, .null, 0, 0, 0, [], []), (130, .iload_n 3, 1, .null, 0, 0, 0, [], []), (131, .if_icmp .eq 8, 3, .null, 139, 0, 0, [], []), (134, .iload 9, 2, .null, 0, 0, 0, [], [])]
def zc204_6 : List zN := [(136, .goto 5, 3, .null, 141, 0, 0, [], []), (139, .bipush (-6), 2, .int (-6), 0, 0, 0, [0, 1, 3, 4, 5, 7, 8], []), (141, .istore 6, 2, .null, 0, 0, 0, [0, 1, 3, 4, 5, 7, 8], []), (143, .iinc 8 1, 3, .int 1, 8, 0, 0, [0, 1, 3, 4, 5, 6, 7, 8], []), (146, .goto (-78), 3, .null, 68, 0, 0, [], []), (149, .iinc 7 1, 3, .int 1, 7, 0, 0, [0, 1, 3, 4, 5, 6, 7], []), (152, .goto (-99), 3, .null, 53, 0, 0, [], []), (155, .aload_n 0, 1, .null, 0, 0, 0, [0, 4, 5, 6], []), (156, .getfield 7, 3, .null, 10, 0, 2, [], []), (159, .iload 4, 2, .null, 0, 0, 0, [], []), (161, .iload 5, 2, .null, 0, 0, 0, [], []), (163, .iastore, 1, .null, 0, 0, 0, [], [])]
def zc204_7 : List zN := [(164, .iload 6, 2, .null, 0, 0, 0, [], []), (166, .ireturn, 1, .null, 0, 0, 0, [], [])]
def zc204 : List (Nat × List zN) := [(19, zc204_0), (37, zc204_1), (60, zc204_2), (86, zc204_3), (111, zc204_4), (134, zc204_5), (163, zc204_6), (166, zc204_7)]
/-- SugarBelowModel.pass(I)I -/
def zc205_0 : List zN := [(0, .aload_n 0, 1, .null, 0, 0, 0, [], []), (1, .getfield 273, 3, .null, 10, 33, 1, [], []), (4, .ifCond .eq 7, 3, .null, 11, 0, 0, [], []), (7, .iload_n 1, 1, .null, 0, 0, 0, [], []), (8, .goto 12, 3, .null, 20, 0, 0, [], []), (11, .aload_n 0, 1, .null, 0, 0, 0, [], []), (12, .getfield 68, 3, .null, 10, 30, 2, [], []), (15, .aload_n 0, 1, .null, 0, 0, 0, [], []), (16, .getfield 277, 3, .null, 10, 32, 0, [], []), (19, .iaload, 1, .null, 0, 0, 0, [], []), (20, .istore_n 2, 1, .null, 0, 0, 0, [0], []), (21, .aload_n 0, 1, .null, 0, 0, 0, [], [])]
def zc205_1 : List zN := [(22, .getfield 68, 3, .null, 10, 30, 2, [], []), (25, .aload_n 0, 1, .null, 0, 0, 0, [], []), (26, .getfield 277, 3, .null, 10, 32, 0, [], []), (29, .iload_n 2, 1, .null, 0, 0, 0, [], []), (30, .iastore, 1, .null, 0, 0, 0, [], []), (31, .aload_n 0, 1, .null, 0, 0, 0, [], []), (32, .dup, 1, .null, 0, 0, 0, [], []), (33, .getfield 277, 3, .null, 10, 32, 0, [], []), (36, .iconst 1, 1, .int 1, 0, 0, 0, [], []), (37, .iadd, 1, .null, 0, 0, 0, [], []), (38, .putfield 277, 3, .null, 10, 32, 0, [], []), (41, .iload_n 2, 1, .null, 0, 0, 0, [], [])]
def zc205_2 : List zN := [(42, .ireturn, 1, .null, 0, 0, 0, [], [])]
def zc205 : List (Nat × List zN) := [(21, zc205_0), (41, zc205_1), (42, zc205_2)]
/-- SugarBelowModel.passAll()V -/
def zc206_0 : List zN := [(0, .aload_n 0, 1, .null, 0, 0, 0, [], []), (1, .aload_n 0, 1, .null, 0, 0, 0, [], []), (2, .aload_n 0, 1, .null, 0, 0, 0, [], []), (3, .getfield 78, 3, .null, 10, 6, 0, [], []), (6, .invokevirtual 280, 3, .null, 205, 1, 10, [], []), (9, .putfield 78, 3, .null, 10, 6, 0, [], []), (12, .aload_n 0, 1, .null, 0, 0, 0, [], []), (13, .aload_n 0, 1, .null, 0, 0, 0, [], []), (14, .aload_n 0, 1, .null, 0, 0, 0, [], []), (15, .getfield 104, 3, .null, 10, 14, 0, [], []), (18, .invokevirtual 280, 3, .null, 205, 1, 10, [], []), (21, .putfield 104, 3, .null, 10, 14, 0, [], [])]
def zc206_1 : List zN := [(24, .aload_n 0, 1, .null, 0, 0, 0, [], []), (25, .aload_n 0, 1, .null, 0, 0, 0, [], []), (26, .aload_n 0, 1, .null, 0, 0, 0, [], []), (27, .getfield 261, 3, .null, 10, 29, 0, [], []), (30, .invokevirtual 280, 3, .null, 205, 1, 10, [], []), (33, .putfield 261, 3, .null, 10, 29, 0, [], []), (36, .aload_n 0, 1, .null, 0, 0, 0, [], []), (37, .aload_n 0, 1, .null, 0, 0, 0, [], []), (38, .aload_n 0, 1, .null, 0, 0, 0, [], []), (39, .getfield 150, 3, .null, 10, 18, 0, [], []), (42, .invokevirtual 280, 3, .null, 205, 1, 10, [], []), (45, .putfield 150, 3, .null, 10, 18, 0, [], [])]
def zc206_2 : List zN := [(48, .iconst 0, 1, .int 0, 0, 0, 0, [], []), (49, .istore_n 1, 1, .null, 0, 0, 0, [], []), (50, .iload_n 1, 1, .null, 0, 0, 0, [0, 1], []), (51, .bipush 8, 2, .int 8, 0, 0, 0, [], []), (53, .if_icmp .ge 57, 3, .null, 110, 0, 0, [], []), (56, .aload_n 0, 1, .null, 0, 0, 0, [], []), (57, .getfield 7, 3, .null, 10, 0, 2, [], []), (60, .iload_n 1, 1, .null, 0, 0, 0, [], []), (61, .aload_n 0, 1, .null, 0, 0, 0, [], []), (62, .aload_n 0, 1, .null, 0, 0, 0, [], []), (63, .getfield 7, 3, .null, 10, 0, 2, [], []), (66, .iload_n 1, 1, .null, 0, 0, 0, [], [])]
def zc206_3 : List zN := [(67, .iaload, 1, .null, 0, 0, 0, [], []), (68, .invokevirtual 280, 3, .null, 205, 1, 10, [], []), (71, .iastore, 1, .null, 0, 0, 0, [], []), (72, .aload_n 0, 1, .null, 0, 0, 0, [], []), (73, .getfield 13, 3, .null, 10, 1, 2, [], []), (76, .iload_n 1, 1, .null, 0, 0, 0, [], []), (77, .aload_n 0, 1, .null, 0, 0, 0, [], []), (78, .aload_n 0, 1, .null, 0, 0, 0, [], []), (79, .getfield 13, 3, .null, 10, 1, 2, [], []), (82, .iload_n 1, 1, .null, 0, 0, 0, [], []), (83, .iaload, 1, .null, 0, 0, 0, [], []), (84, .invokevirtual 280, 3, .null, 205, 1, 10, [], [])]
def zc206_4 : List zN := [(87, .iastore, 1, .null, 0, 0, 0, [], []), (88, .aload_n 0, 1, .null, 0, 0, 0, [], []), (89, .getfield 16, 3, .null, 10, 2, 2, [], []), (92, .iload_n 1, 1, .null, 0, 0, 0, [], []), (93, .aload_n 0, 1, .null, 0, 0, 0, [], []), (94, .aload_n 0, 1, .null, 0, 0, 0, [], []), (95, .getfield 16, 3, .null, 10, 2, 2, [], []), (98, .iload_n 1, 1, .null, 0, 0, 0, [], []), (99, .iaload, 1, .null, 0, 0, 0, [], []), (100, .invokevirtual 280, 3, .null, 205, 1, 10, [], []), (103, .iastore, 1, .null, 0, 0, 0, [], []), (104, .iinc 1 1, 3, .int 1, 1, 0, 0, [], [])]
def zc206_5 : List zN := [(107, .goto (-57), 3, .null, 50, 0, 0, [], []), (110, .iconst 0, 1, .int 0, 0, 0, 0, [], []), (111, .istore_n 1, 1, .null, 0, 0, 0, [], []), (112, .iload_n 1, 1, .null, 0, 0, 0, [0, 1], []), (113, .iconst 2, 1, .int 2, 0, 0, 0, [], []), (114, .if_icmp .ge 25, 3, .null, 139, 0, 0, [], []), (117, .aload_n 0, 1, .null, 0, 0, 0, [], []), (118, .getfield 19, 3, .null, 10, 3, 2, [], []), (121, .iload_n 1, 1, .null, 0, 0, 0, [], []), (122, .aload_n 0, 1, .null, 0, 0, 0, [], []), (123, .aload_n 0, 1, .null, 0, 0, 0, [], []), (124, .getfield 19, 3, .null, 10, 3, 2, [], [])]
def zc206_6 : List zN := [(127, .iload_n 1, 1, .null, 0, 0, 0, [], []), (128, .iaload, 1, .null, 0, 0, 0, [], []), (129, .invokevirtual 280, 3, .null, 205, 1, 10, [], []), (132, .iastore, 1, .null, 0, 0, 0, [], []), (133, .iinc 1 1, 3, .int 1, 1, 0, 0, [], []), (136, .goto (-24), 3, .null, 112, 0, 0, [], []), (139, .iconst 0, 1, .int 0, 0, 0, 0, [], []), (140, .istore_n 1, 1, .null, 0, 0, 0, [], []), (141, .iload_n 1, 1, .null, 0, 0, 0, [0, 1], []), (142, .bipush 12, 2, .int 12, 0, 0, 0, [], []), (144, .if_icmp .ge 25, 3, .null, 169, 0, 0, [], []), (147, .aload_n 0, 1, .null, 0, 0, 0, [], [])]
def zc206_7 : List zN := [(148, .getfield 22, 3, .null, 10, 4, 2, [], []), (151, .iload_n 1, 1, .null, 0, 0, 0, [], []), (152, .aload_n 0, 1, .null, 0, 0, 0, [], []), (153, .aload_n 0, 1, .null, 0, 0, 0, [], []), (154, .getfield 22, 3, .null, 10, 4, 2, [], []), (157, .iload_n 1, 1, .null, 0, 0, 0, [], []), (158, .iaload, 1, .null, 0, 0, 0, [], []), (159, .invokevirtual 280, 3, .null, 205, 1, 10, [], []), (162, .iastore, 1, .null, 0, 0, 0, [], []), (163, .iinc 1 1, 3, .int 1, 1, 0, 0, [], []), (166, .goto (-25), 3, .null, 141, 0, 0, [], []), (169, .iconst 0, 1, .int 0, 0, 0, 0, [], [])]
def zc206_8 : List zN := [(170, .istore_n 1, 1, .null, 0, 0, 0, [], []), (171, .iload_n 1, 1, .null, 0, 0, 0, [0, 1], []), (172, .iconst 4, 1, .int 4, 0, 0, 0, [], []), (173, .if_icmp .ge 25, 3, .null, 198, 0, 0, [], []), (176, .aload_n 0, 1, .null, 0, 0, 0, [], []), (177, .getfield 25, 3, .null, 10, 5, 2, [], []), (180, .iload_n 1, 1, .null, 0, 0, 0, [], []), (181, .aload_n 0, 1, .null, 0, 0, 0, [], []), (182, .aload_n 0, 1, .null, 0, 0, 0, [], []), (183, .getfield 25, 3, .null, 10, 5, 2, [], []), (186, .iload_n 1, 1, .null, 0, 0, 0, [], []), (187, .iaload, 1, .null, 0, 0, 0, [], [])]
def zc206_9 : List zN := [(188, .invokevirtual 280, 3, .null, 205, 1, 10, [], []), (191, .iastore, 1, .null, 0, 0, 0, [], []), (192, .iinc 1 1, 3, .int 1, 1, 0, 0, [], []), (195, .goto (-24), 3, .null, 171, 0, 0, [], []), (198, .iconst 0, 1, .int 0, 0, 0, 0, [], []), (199, .istore_n 1, 1, .null, 0, 0, 0, [], []), (200, .iload_n 1, 1, .null, 0, 0, 0, [0, 1], []), (201, .iconst 5, 1, .int 5, 0, 0, 0, [], []), (202, .if_icmp .ge 101, 3, .null, 303, 0, 0, [], []), (205, .aload_n 0, 1, .null, 0, 0, 0, [], []), (206, .getfield 28, 3, .null, 10, 7, 2, [], []), (209, .iload_n 1, 1, .null, 0, 0, 0, [], [])]
def zc206_10 : List zN := [(210, .aload_n 0, 1, .null, 0, 0, 0, [], []), (211, .aload_n 0, 1, .null, 0, 0, 0, [], []), (212, .getfield 28, 3, .null, 10, 7, 2, [], []), (215, .iload_n 1, 1, .null, 0, 0, 0, [], []), (216, .iaload, 1, .null, 0, 0, 0, [], []), (217, .invokevirtual 280, 3, .null, 205, 1, 10, [], []), (220, .iastore, 1, .null, 0, 0, 0, [], []), (221, .aload_n 0, 1, .null, 0, 0, 0, [], []), (222, .getfield 31, 3, .null, 10, 8, 2, [], []), (225, .iconst 2, 1, .int 2, 0, 0, 0, [], []), (226, .iload_n 1, 1, .null, 0, 0, 0, [], []), (227, .imul, 1, .null, 0, 0, 0, [], [])]
def zc206_11 : List zN := [(228, .aload_n 0, 1, .null, 0, 0, 0, [], []), (229, .aload_n 0, 1, .null, 0, 0, 0, [], []), (230, .getfield 31, 3, .null, 10, 8, 2, [], []), (233, .iconst 2, 1, .int 2, 0, 0, 0, [], []), (234, .iload_n 1, 1, .null, 0, 0, 0, [], []), (235, .imul, 1, .null, 0, 0, 0, [], []), (236, .iaload, 1, .null, 0, 0, 0, [], []), (237, .invokevirtual 280, 3, .null, 205, 1, 10, [], []), (240, .iastore, 1, .null, 0, 0, 0, [], []), (241, .aload_n 0, 1, .null, 0, 0, 0, [], []), (242, .getfield 31, 3, .null, 10, 8, 2, [], []), (245, .iconst 2, 1, .int 2, 0, 0, 0, [], [])]
def zc206_12 : List zN := [(246, .iload_n 1, 1, .null, 0, 0, 0, [], []), (247, .imul, 1, .null, 0, 0, 0, [], []), (248, .iconst 1, 1, .int 1, 0, 0, 0, [], []), (249, .iadd, 1, .null, 0, 0, 0, [], []), (250, .aload_n 0, 1, .null, 0, 0, 0, [], []), (251, .aload_n 0, 1, .null, 0, 0, 0, [], []), (252, .getfield 31, 3, .null, 10, 8, 2, [], []), (255, .iconst 2, 1, .int 2, 0, 0, 0, [], []), (256, .iload_n 1, 1, .null, 0, 0, 0, [], []), (257, .imul, 1, .null, 0, 0, 0, [], []), (258, .iconst 1, 1, .int 1, 0, 0, 0, [], []), (259, .iadd, 1, .null, 0, 0, 0, [], [])]
def zc206_13 : List zN := [(260, .iaload, 1, .null, 0, 0, 0, [], []), (261, .invokevirtual 280, 3, .null, 205, 1, 10, [], []), (264, .iastore, 1, .null, 0, 0, 0, [], []), (265, .aload_n 0, 1, .null, 0, 0, 0, [], []), (266, .getfield 34, 3, .null, 10, 9, 2, [], []), (269, .iload_n 1, 1, .null, 0, 0, 0, [], []), (270, .aload_n 0, 1, .null, 0, 0, 0, [], []), (271, .aload_n 0, 1, .null, 0, 0, 0, [], []), (272, .getfield 34, 3, .null, 10, 9, 2, [], []), (275, .iload_n 1, 1, .null, 0, 0, 0, [], []), (276, .iaload, 1, .null, 0, 0, 0, [], []), (277, .invokevirtual 280, 3, .null, 205, 1, 10, [], [])]
def zc206_14 : List zN := [(280, .iastore, 1, .null, 0, 0, 0, [], []), (281, .aload_n 0, 1, .null, 0, 0, 0, [], []), (282, .getfield 37, 3, .null, 10, 10, 2, [], []), (285, .iload_n 1, 1, .null, 0, 0, 0, [], []), (286, .aload_n 0, 1, .null, 0, 0, 0, [], []), (287, .aload_n 0, 1, .null, 0, 0, 0, [], []), (288, .getfield 37, 3, .null, 10, 10, 2, [], []), (291, .iload_n 1, 1, .null, 0, 0, 0, [], []), (292, .iaload, 1, .null, 0, 0, 0, [], []), (293, .invokevirtual 280, 3, .null, 205, 1, 10, [], []), (296, .iastore, 1, .null, 0, 0, 0, [], []), (297, .iinc 1 1, 3, .int 1, 1, 0, 0, [], [])]
def zc206_15 : List zN := [(300, .goto (-100), 3, .null, 200, 0, 0, [], []), (303, .iconst 0, 1, .int 0, 0, 0, 0, [], []), (304, .istore_n 1, 1, .null, 0, 0, 0, [], []), (305, .iload_n 1, 1, .null, 0, 0, 0, [0, 1], []), (306, .bipush 20, 2, .int 20, 0, 0, 0, [], []), (308, .if_icmp .ge 57, 3, .null, 365, 0, 0, [], []), (311, .aload_n 0, 1, .null, 0, 0, 0, [], []), (312, .getfield 40, 3, .null, 10, 11, 2, [], []), (315, .iload_n 1, 1, .null, 0, 0, 0, [], []), (316, .aload_n 0, 1, .null, 0, 0, 0, [], []), (317, .aload_n 0, 1, .null, 0, 0, 0, [], []), (318, .getfield 40, 3, .null, 10, 11, 2, [], [])]
def zc206_16 : List zN := [(321, .iload_n 1, 1, .null, 0, 0, 0, [], []), (322, .iaload, 1, .null, 0, 0, 0, [], []), (323, .invokevirtual 280, 3, .null, 205, 1, 10, [], []), (326, .iastore, 1, .null, 0, 0, 0, [], []), (327, .aload_n 0, 1, .null, 0, 0, 0, [], []), (328, .getfield 43, 3, .null, 10, 12, 2, [], []), (331, .iload_n 1, 1, .null, 0, 0, 0, [], []), (332, .aload_n 0, 1, .null, 0, 0, 0, [], []), (333, .aload_n 0, 1, .null, 0, 0, 0, [], []), (334, .getfield 43, 3, .null, 10, 12, 2, [], []), (337, .iload_n 1, 1, .null, 0, 0, 0, [], []), (338, .iaload, 1, .null, 0, 0, 0, [], [])]
def zc206_17 : List zN := [(339, .invokevirtual 280, 3, .null, 205, 1, 10, [], []), (342, .iastore, 1, .null, 0, 0, 0, [], []), (343, .aload_n 0, 1, .null, 0, 0, 0, [], []), (344, .getfield 46, 3, .null, 10, 13, 2, [], []), (347, .iload_n 1, 1, .null, 0, 0, 0, [], []), (348, .aload_n 0, 1, .null, 0, 0, 0, [], []), (349, .aload_n 0, 1, .null, 0, 0, 0, [], []), (350, .getfield 46, 3, .null, 10, 13, 2, [], []), (353, .iload_n 1, 1, .null, 0, 0, 0, [], []), (354, .iaload, 1, .null, 0, 0, 0, [], []), (355, .invokevirtual 280, 3, .null, 205, 1, 10, [], []), (358, .iastore, 1, .null, 0, 0, 0, [], [])]
def zc206_18 : List zN := [(359, .iinc 1 1, 3, .int 1, 1, 0, 0, [], []), (362, .goto (-57), 3, .null, 305, 0, 0, [], []), (365, .iconst 0, 1, .int 0, 0, 0, 0, [], []), (366, .istore_n 1, 1, .null, 0, 0, 0, [], []), (367, .iload_n 1, 1, .null, 0, 0, 0, [0, 1], []), (368, .bipush 30, 2, .int 30, 0, 0, 0, [], []), (370, .if_icmp .ge 25, 3, .null, 395, 0, 0, [], []), (373, .aload_n 0, 1, .null, 0, 0, 0, [], []), (374, .getfield 65, 3, .null, 10, 28, 2, [], []), (377, .iload_n 1, 1, .null, 0, 0, 0, [], []), (378, .aload_n 0, 1, .null, 0, 0, 0, [], []), (379, .aload_n 0, 1, .null, 0, 0, 0, [], [])]
def zc206_19 : List zN := [(380, .getfield 65, 3, .null, 10, 28, 2, [], []), (383, .iload_n 1, 1, .null, 0, 0, 0, [], []), (384, .iaload, 1, .null, 0, 0, 0, [], []), (385, .invokevirtual 280, 3, .null, 205, 1, 10, [], []), (388, .iastore, 1, .null, 0, 0, 0, [], []), (389, .iinc 1 1, 3, .int 1, 1, 0, 0, [], []), (392, .goto (-25), 3, .null, 367, 0, 0, [], []), (395, .return_, 1, .null, 0, 0, 0, [], [])]
def zc206 : List (Nat × List zN) := [(21, zc206_0), (45, zc206_1), (66, zc206_2), (84, zc206_3), (104, zc206_4), (124, zc206_5), (147, zc206_6), (169, zc206_7), (187, zc206_8), (209, zc206_9), (227, zc206_10), (245, zc206_11), (259, zc206_12), (277, zc206_13), (297, zc206_14), (318, zc206_15), (338, zc206_16), (358, zc206_17), (379, zc206_18), (395, zc206_19)]
/-- SugarBelowModel.image(I)I -/
def zc207_0 : List zN := [(0, .iload_n 1, 1, .null, 0, 0, 0, [], []), (1, .i2l, 1, .null, 0, 0, 0, [], []), (2, .lconst 0, 1, .long 0, 0, 0, 0, [], []), (3, .lconst 1, 1, .long 1, 0, 0, 0, [], []), (4, .invokestatic 74, 3, .null, 134, 3, 0, [], []), (7, .ifCond .ne 6, 3, .null, 13, 0, 0, [], []), (10, .bipush (-2), 2, .int (-2), 0, 0, 0, [], []), (12, .ireturn, 1, .null, 0, 0, 0, [], []), (13, .aload_n 0, 1, .null, 0, 0, 0, [], []), (14, .sipush 200, 3, .int 200, 0, 0, 0, [], []), (17, .iload_n 1, 1, .null, 0, 0, 0, [], []), (18, .imul, 1, .null, 0, 0, 0, [], [])]
def zc207_1 : List zN := [(19, .putfield 277, 3, .null, 10, 32, 0, [], []), (22, .aload_n 0, 1, .null, 0, 0, 0, [], []), (23, .iconst 1, 1, .int 1, 0, 0, 0, [], []), (24, .putfield 273, 3, .null, 10, 33, 1, [], []), (27, .aload_n 0, 1, .null, 0, 0, 0, [], []), (28, .invokevirtual 283, 3, .null, 206, 0, 10, [], []), (31, .aload_n 0, 1, .null, 0, 0, 0, [], []), (32, .getfield 71, 3, .null, 10, 31, 2, [], []), (35, .iload_n 1, 1, .null, 0, 0, 0, [], []), (36, .iconst 1, 1, .int 1, 0, 0, 0, [], []), (37, .bastore, 1, .null, 0, 0, 0, [], []), (38, .iconst 1, 1, .int 1, 0, 0, 0, [], [])]
def zc207_2 : List zN := [(39, .ireturn, 1, .null, 0, 0, 0, [], [])]
def zc207 : List (Nat × List zN) := [(18, zc207_0), (38, zc207_1), (39, zc207_2)]
/-- SugarBelowModel.restore(I)I -/
def zc208_0 : List zN := [(0, .iload_n 1, 1, .null, 0, 0, 0, [], []), (1, .i2l, 1, .null, 0, 0, 0, [], []), (2, .lconst 0, 1, .long 0, 0, 0, 0, [], []), (3, .lconst 1, 1, .long 1, 0, 0, 0, [], []), (4, .invokestatic 74, 3, .null, 134, 3, 0, [], []), (7, .ifCond .ne 6, 3, .null, 13, 0, 0, [], []), (10, .bipush (-2), 2, .int (-2), 0, 0, 0, [], []), (12, .ireturn, 1, .null, 0, 0, 0, [], []), (13, .aload_n 0, 1, .null, 0, 0, 0, [], []), (14, .getfield 71, 3, .null, 10, 31, 2, [], []), (17, .iload_n 1, 1, .null, 0, 0, 0, [], []), (18, .baload, 1, .null, 0, 0, 0, [], [])]
def zc208_1 : List zN := [(19, .ifCond .ne 6, 3, .null, 25, 0, 0, [], []), (22, .bipush (-3), 2, .int (-3), 0, 0, 0, [], []), (24, .ireturn, 1, .null, 0, 0, 0, [], []), (25, .aload_n 0, 1, .null, 0, 0, 0, [], []), (26, .sipush 200, 3, .int 200, 0, 0, 0, [], []), (29, .iload_n 1, 1, .null, 0, 0, 0, [], []), (30, .imul, 1, .null, 0, 0, 0, [], []), (31, .putfield 277, 3, .null, 10, 32, 0, [], []), (34, .aload_n 0, 1, .null, 0, 0, 0, [], []), (35, .iconst 0, 1, .int 0, 0, 0, 0, [], []), (36, .putfield 273, 3, .null, 10, 33, 1, [], []), (39, .aload_n 0, 1, .null, 0, 0, 0, [], [])]
def zc208_2 : List zN := [(40, .invokevirtual 283, 3, .null, 206, 0, 10, [], []), (43, .iconst 1, 1, .int 1, 0, 0, 0, [], []), (44, .ireturn, 1, .null, 0, 0, 0, [], [])]
def zc208 : List (Nat × List zN) := [(18, zc208_0), (39, zc208_1), (44, zc208_2)]
/-- SugarBelowModel.told(I)I -/
def zc209_0 : List zN := [(0, .iload_n 1, 1, .null, 0, 0, 0, [], []), (1, .i2l, 1, .null, 0, 0, 0, [], []), (2, .ldc2_w 286, 3, .long 10, 0, 0, 0, [], []), (5, .ldc2_w 288, 3, .long 21, 0, 0, 0, [], []), (8, .invokestatic 74, 3, .null, 134, 3, 0, [], []), (11, .ifCond .eq 51, 3, .null, 62, 0, 0, [], []), (14, .iload_n 1, 1, .null, 0, 0, 0, [], []), (15, .bipush 10, 2, .int 10, 0, 0, 0, [], []), (17, .isub, 1, .null, 0, 0, 0, [], []), (18, .iconst 3, 1, .int 3, 0, 0, 0, [], []), (19, .idiv, 1, .null, 0, 0, 0, [], []), (20, .istore_n 2, 1, .null, 0, 0, 0, [], [])]
def zc209_1 : List zN := [(21, .iload_n 1, 1, .null, 0, 0, 0, [], []), (22, .bipush 10, 2, .int 10, 0, 0, 0, [], []), (24, .isub, 1, .null, 0, 0, 0, [], []), (25, .iconst 3, 1, .int 3, 0, 0, 0, [], []), (26, .irem, 1, .null, 0, 0, 0, [], []), (27, .istore_n 3, 1, .null, 0, 0, 0, [], []), (28, .aload_n 0, 1, .null, 0, 0, 0, [], []), (29, .iload_n 2, 1, .null, 0, 0, 0, [], []), (30, .invokevirtual 90, 3, .null, 137, 1, 10, [], []), (33, .ifCond .eq 26, 3, .null, 59, 0, 0, [], []), (36, .iload_n 3, 1, .null, 0, 0, 0, [], []), (37, .aload_n 0, 1, .null, 0, 0, 0, [], [])]
def zc209_2 : List zN := [(38, .getfield 25, 3, .null, 10, 5, 2, [], []), (41, .iload_n 2, 1, .null, 0, 0, 0, [], []), (42, .iaload, 1, .null, 0, 0, 0, [], []), (43, .if_icmp .ge 16, 3, .null, 59, 0, 0, [], []), (46, .aload_n 0, 1, .null, 0, 0, 0, [], []), (47, .getfield 22, 3, .null, 10, 4, 2, [], []), (50, .iconst 3, 1, .int 3, 0, 0, 0, [], []), (51, .iload_n 2, 1, .null, 0, 0, 0, [], []), (52, .imul, 1, .null, 0, 0, 0, [], []), (53, .iload_n 3, 1, .null, 0, 0, 0, [], []), (54, .iadd, 1, .null, 0, 0, 0, [], []), (55, .iaload, 1, .null, 0, 0, 0, [], [])]
def zc209_3 : List zN := [(56, .goto 5, 3, .null, 61, 0, 0, [], []), (59, .bipush (-6), 2, .int (-6), 0, 0, 0, [99], []), (61, .ireturn, 1, .null, 0, 0, 0, [99], []), (62, .iload_n 1, 1, .null, 0, 0, 0, [], []), (63, .tableswitch 67 0 5 #[37, 42, 47, 52, 57, 62], 37, .null, 130, 0, 0, [], [100, 105, 110, 115, 120, 125]), (100, .aload_n 0, 1, .null, 0, 0, 0, [], []), (101, .getfield 78, 3, .null, 10, 6, 0, [], []), (104, .ireturn, 1, .null, 0, 0, 0, [], []), (105, .aload_n 0, 1, .null, 0, 0, 0, [], []), (106, .getfield 104, 3, .null, 10, 14, 0, [], []), (109, .ireturn, 1, .null, 0, 0, 0, [], []), (110, .aload_n 0, 1, .null, 0, 0, 0, [], [])]
def zc209_4 : List zN := [(111, .getfield 261, 3, .null, 10, 29, 0, [], []), (114, .ireturn, 1, .null, 0, 0, 0, [], []), (115, .aload_n 0, 1, .null, 0, 0, 0, [], []), (116, .getfield 122, 3, .null, 10, 16, 0, [], []), (119, .ireturn, 1, .null, 0, 0, 0, [], []), (120, .aload_n 0, 1, .null, 0, 0, 0, [], []), (121, .getfield 150, 3, .null, 10, 18, 0, [], []), (124, .ireturn, 1, .null, 0, 0, 0, [], []), (125, .aload_n 0, 1, .null, 0, 0, 0, [], []), (126, .invokevirtual 203, 3, .null, 175, 0, 10, [], []), (129, .ireturn, 1, .null, 0, 0, 0, [], []), (130, .bipush (-2), 2, .int (-2), 0, 0, 0, [], [])]
def zc209_5 : List zN := [(132, .ireturn, 1, .null, 0, 0, 0, [], [])]
def zc209 : List (Nat × List zN) := [(20, zc209_0), (37, zc209_1), (55, zc209_2), (110, zc209_3), (130, zc209_4), (132, zc209_5)]
/-- java/lang/Integer.bitCount(I)I -/
def zc210_0 : List zN := [(0, .iload_n 0, 1, .null, 0, 0, 0, [], []), (1, .iload_n 0, 1, .null, 0, 0, 0, [], []), (2, .iconst 1, 1, .int 1, 0, 0, 0, [], []), (3, .iushr, 1, .null, 0, 0, 0, [], []), (4, .ldc_w 265, 3, .int 1431655765, 0, 0, 0, [], []), (7, .iand, 1, .null, 0, 0, 0, [], []), (8, .isub, 1, .null, 0, 0, 0, [], []), (9, .istore_n 0, 1, .null, 0, 0, 0, [], []), (10, .iload_n 0, 1, .null, 0, 0, 0, [], []), (11, .ldc_w 266, 3, .int 858993459, 0, 0, 0, [], []), (14, .iand, 1, .null, 0, 0, 0, [], []), (15, .iload_n 0, 1, .null, 0, 0, 0, [], [])]
def zc210_1 : List zN := [(16, .iconst 2, 1, .int 2, 0, 0, 0, [], []), (17, .iushr, 1, .null, 0, 0, 0, [], []), (18, .ldc_w 266, 3, .int 858993459, 0, 0, 0, [], []), (21, .iand, 1, .null, 0, 0, 0, [], []), (22, .iadd, 1, .null, 0, 0, 0, [], []), (23, .istore_n 0, 1, .null, 0, 0, 0, [], []), (24, .iload_n 0, 1, .null, 0, 0, 0, [], []), (25, .iload_n 0, 1, .null, 0, 0, 0, [], []), (26, .iconst 4, 1, .int 4, 0, 0, 0, [], []), (27, .iushr, 1, .null, 0, 0, 0, [], []), (28, .iadd, 1, .null, 0, 0, 0, [], []), (29, .ldc_w 267, 3, .int 252645135, 0, 0, 0, [], [])]
def zc210_2 : List zN := [(32, .iand, 1, .null, 0, 0, 0, [], []), (33, .istore_n 0, 1, .null, 0, 0, 0, [], []), (34, .iload_n 0, 1, .null, 0, 0, 0, [], []), (35, .iload_n 0, 1, .null, 0, 0, 0, [], []), (36, .bipush 8, 2, .int 8, 0, 0, 0, [], []), (38, .iushr, 1, .null, 0, 0, 0, [], []), (39, .iadd, 1, .null, 0, 0, 0, [], []), (40, .istore_n 0, 1, .null, 0, 0, 0, [], []), (41, .iload_n 0, 1, .null, 0, 0, 0, [], []), (42, .iload_n 0, 1, .null, 0, 0, 0, [], []), (43, .bipush 16, 2, .int 16, 0, 0, 0, [], []), (45, .iushr, 1, .null, 0, 0, 0, [], [])]
def zc210_3 : List zN := [(46, .iadd, 1, .null, 0, 0, 0, [], []), (47, .istore_n 0, 1, .null, 0, 0, 0, [], []), (48, .iload_n 0, 1, .null, 0, 0, 0, [], []), (49, .bipush 63, 2, .int 63, 0, 0, 0, [], []), (51, .iand, 1, .null, 0, 0, 0, [], []), (52, .ireturn, 1, .null, 0, 0, 0, [], [])]
def zc210 : List (Nat × List zN) := [(15, zc210_0), (29, zc210_1), (45, zc210_2), (52, zc210_3)]
/-- java/util/Arrays.fill([II)V -/
def zc211_0 : List zN := [(0, .iconst 0, 1, .int 0, 0, 0, 0, [], []), (1, .istore_n 2, 1, .null, 0, 0, 0, [], []), (2, .aload_n 0, 1, .null, 0, 0, 0, [], []), (3, .arraylength, 1, .null, 0, 0, 0, [], []), (4, .istore_n 3, 1, .null, 0, 0, 0, [], []), (5, .iload_n 2, 1, .null, 0, 0, 0, [0, 1, 2, 3], []), (6, .iload_n 3, 1, .null, 0, 0, 0, [], []), (7, .if_icmp .ge 13, 3, .null, 20, 0, 0, [], []), (10, .aload_n 0, 1, .null, 0, 0, 0, [], []), (11, .iload_n 2, 1, .null, 0, 0, 0, [], []), (12, .iload_n 1, 1, .null, 0, 0, 0, [], []), (13, .iastore, 1, .null, 0, 0, 0, [], [])]
def zc211_1 : List zN := [(14, .iinc 2 1, 3, .int 1, 2, 0, 0, [], []), (17, .goto (-12), 3, .null, 5, 0, 0, [], []), (20, .return_, 1, .null, 0, 0, 0, [], [])]
def zc211 : List (Nat × List zN) := [(13, zc211_0), (20, zc211_1)]
/-- SugarBelowLaw.law([I)Z -/
def zc212_0 : List zN := [(0, .new 7, 3, .null, 9, 9, 0, [], []), (3, .dup, 1, .null, 0, 0, 0, [], []), (4, .invokespecial 9, 3, .null, 86, 0, 1, [], []), (7, .astore_n 1, 1, .null, 0, 0, 0, [], []), (8, .new 10, 3, .null, 10, 34, 0, [], []), (11, .dup, 1, .null, 0, 0, 0, [], []), (12, .invokespecial 12, 3, .null, 133, 0, 1, [], []), (15, .astore_n 2, 1, .null, 0, 0, 0, [], []), (16, .iconst 0, 1, .int 0, 0, 0, 0, [], []), (17, .istore_n 3, 1, .null, 0, 0, 0, [], []), (18, .iload_n 3, 1, .null, 0, 0, 0, [0, 1, 2, 3], []), (19, .aload_n 0, 1, .null, 0, 0, 0, [], [])]
def zc212_1 : List zN := [(20, .arraylength, 1, .null, 0, 0, 0, [], []), (21, .bipush 7, 2, .int 7, 0, 0, 0, [], []), (23, .isub, 1, .null, 0, 0, 0, [], []), (24, .if_icmp .gt 1335, 3, .null, 1359, 0, 0, [], []), (27, .aload_n 0, 1, .null, 0, 0, 0, [], []), (28, .iload_n 3, 1, .null, 0, 0, 0, [], []), (29, .iaload, 1, .null, 0, 0, 0, [], []), (30, .bipush 63, 2, .int 63, 0, 0, 0, [], []), (32, .iand, 1, .null, 0, 0, 0, [], []), (33, .tableswitch 1320 0 37 #[167, 210, 243, 296, 329, 382, 425, 448, 461, 474, 497, 540, 563, 597, 620, 663, 687, 711, 734, 757, 791, 814, 837, 871, 894, 917, 950, 983, 1016, 1029, 1105, 1128, 1141, 1174, 1218, 1251, 1274, 1297], 167, .null, 1353, 0, 0, [], [200, 243, 276, 329, 362, 415, 458, 481, 494, 507, 530, 573, 596, 630, 653, 696, 720, 744, 767, 790, 824, 847, 870, 904, 927, 950, 983, 1016, 1049, 1062, 1138, 1161, 1174, 1207, 1251, 1284, 1307, 1330]), (200, .aload_n 1, 1, .null, 0, 0, 0, [], []), (201, .aload_n 0, 1, .null, 0, 0, 0, [], [])]
def zc212_2 : List zN := [(202, .iload_n 3, 1, .null, 0, 0, 0, [], []), (203, .iconst 1, 1, .int 1, 0, 0, 0, [], []), (204, .iadd, 1, .null, 0, 0, 0, [], []), (205, .iaload, 1, .null, 0, 0, 0, [], []), (206, .aload_n 0, 1, .null, 0, 0, 0, [], []), (207, .iload_n 3, 1, .null, 0, 0, 0, [], []), (208, .iconst 2, 1, .int 2, 0, 0, 0, [], []), (209, .iadd, 1, .null, 0, 0, 0, [], []), (210, .iaload, 1, .null, 0, 0, 0, [], []), (211, .aload_n 0, 1, .null, 0, 0, 0, [], []), (212, .iload_n 3, 1, .null, 0, 0, 0, [], []), (213, .iconst 3, 1, .int 3, 0, 0, 0, [], [])]
def zc212_3 : List zN := [(214, .iadd, 1, .null, 0, 0, 0, [], []), (215, .iaload, 1, .null, 0, 0, 0, [], []), (216, .invokevirtual 13, 3, .null, 87, 3, 9, [], []), (219, .aload_n 2, 1, .null, 0, 0, 0, [], []), (220, .aload_n 0, 1, .null, 0, 0, 0, [], []), (221, .iload_n 3, 1, .null, 0, 0, 0, [], []), (222, .iconst 1, 1, .int 1, 0, 0, 0, [], []), (223, .iadd, 1, .null, 0, 0, 0, [], []), (224, .iaload, 1, .null, 0, 0, 0, [], []), (225, .aload_n 0, 1, .null, 0, 0, 0, [], []), (226, .iload_n 3, 1, .null, 0, 0, 0, [], []), (227, .iconst 2, 1, .int 2, 0, 0, 0, [], [])]
def zc212_4 : List zN := [(228, .iadd, 1, .null, 0, 0, 0, [], []), (229, .iaload, 1, .null, 0, 0, 0, [], []), (230, .aload_n 0, 1, .null, 0, 0, 0, [], []), (231, .iload_n 3, 1, .null, 0, 0, 0, [], []), (232, .iconst 3, 1, .int 3, 0, 0, 0, [], []), (233, .iadd, 1, .null, 0, 0, 0, [], []), (234, .iaload, 1, .null, 0, 0, 0, [], []), (235, .invokevirtual 17, 3, .null, 140, 3, 10, [], []), (238, .if_icmp .eq 1115, 3, .null, 1353, 0, 0, [], []), (241, .iconst 0, 1, .int 0, 0, 0, 0, [], []), (242, .ireturn, 1, .null, 0, 0, 1, [], []), (243, .aload_n 1, 1, .null, 0, 0, 0, [], [])]
def zc212_5 : List zN := [(244, .aload_n 0, 1, .null, 0, 0, 0, [], []), (245, .iload_n 3, 1, .null, 0, 0, 0, [], []), (246, .iconst 1, 1, .int 1, 0, 0, 0, [], []), (247, .iadd, 1, .null, 0, 0, 0, [], []), (248, .iaload, 1, .null, 0, 0, 0, [], []), (249, .aload_n 0, 1, .null, 0, 0, 0, [], []), (250, .iload_n 3, 1, .null, 0, 0, 0, [], []), (251, .iconst 2, 1, .int 2, 0, 0, 0, [], []), (252, .iadd, 1, .null, 0, 0, 0, [], []), (253, .iaload, 1, .null, 0, 0, 0, [], []), (254, .invokevirtual 18, 3, .null, 88, 2, 9, [], []), (257, .aload_n 2, 1, .null, 0, 0, 0, [], [])]
def zc212_6 : List zN := [(258, .aload_n 0, 1, .null, 0, 0, 0, [], []), (259, .iload_n 3, 1, .null, 0, 0, 0, [], []), (260, .iconst 1, 1, .int 1, 0, 0, 0, [], []), (261, .iadd, 1, .null, 0, 0, 0, [], []), (262, .iaload, 1, .null, 0, 0, 0, [], []), (263, .aload_n 0, 1, .null, 0, 0, 0, [], []), (264, .iload_n 3, 1, .null, 0, 0, 0, [], []), (265, .iconst 2, 1, .int 2, 0, 0, 0, [], []), (266, .iadd, 1, .null, 0, 0, 0, [], []), (267, .iaload, 1, .null, 0, 0, 0, [], []), (268, .invokevirtual 22, 3, .null, 141, 2, 10, [], []), (271, .if_icmp .eq 1082, 3, .null, 1353, 0, 0, [], [])]
def zc212_7 : List zN := [(274, .iconst 0, 1, .int 0, 0, 0, 0, [], []), (275, .ireturn, 1, .null, 0, 0, 1, [], []), (276, .aload_n 1, 1, .null, 0, 0, 0, [], []), (277, .aload_n 0, 1, .null, 0, 0, 0, [], []), (278, .iload_n 3, 1, .null, 0, 0, 0, [], []), (279, .iconst 1, 1, .int 1, 0, 0, 0, [], []), (280, .iadd, 1, .null, 0, 0, 0, [], []), (281, .iaload, 1, .null, 0, 0, 0, [], []), (282, .aload_n 0, 1, .null, 0, 0, 0, [], []), (283, .iload_n 3, 1, .null, 0, 0, 0, [], []), (284, .iconst 2, 1, .int 2, 0, 0, 0, [], []), (285, .iadd, 1, .null, 0, 0, 0, [], [])]
def zc212_8 : List zN := [(286, .iaload, 1, .null, 0, 0, 0, [], []), (287, .aload_n 0, 1, .null, 0, 0, 0, [], []), (288, .iload_n 3, 1, .null, 0, 0, 0, [], []), (289, .iconst 3, 1, .int 3, 0, 0, 0, [], []), (290, .iadd, 1, .null, 0, 0, 0, [], []), (291, .iaload, 1, .null, 0, 0, 0, [], []), (292, .aload_n 0, 1, .null, 0, 0, 0, [], []), (293, .iload_n 3, 1, .null, 0, 0, 0, [], []), (294, .iconst 4, 1, .int 4, 0, 0, 0, [], []), (295, .iadd, 1, .null, 0, 0, 0, [], []), (296, .iaload, 1, .null, 0, 0, 0, [], []), (297, .invokevirtual 23, 3, .null, 89, 4, 9, [], [])]
def zc212_9 : List zN := [(300, .aload_n 2, 1, .null, 0, 0, 0, [], []), (301, .aload_n 0, 1, .null, 0, 0, 0, [], []), (302, .iload_n 3, 1, .null, 0, 0, 0, [], []), (303, .iconst 1, 1, .int 1, 0, 0, 0, [], []), (304, .iadd, 1, .null, 0, 0, 0, [], []), (305, .iaload, 1, .null, 0, 0, 0, [], []), (306, .aload_n 0, 1, .null, 0, 0, 0, [], []), (307, .iload_n 3, 1, .null, 0, 0, 0, [], []), (308, .iconst 2, 1, .int 2, 0, 0, 0, [], []), (309, .iadd, 1, .null, 0, 0, 0, [], []), (310, .iaload, 1, .null, 0, 0, 0, [], []), (311, .aload_n 0, 1, .null, 0, 0, 0, [], [])]
def zc212_10 : List zN := [(312, .iload_n 3, 1, .null, 0, 0, 0, [], []), (313, .iconst 3, 1, .int 3, 0, 0, 0, [], []), (314, .iadd, 1, .null, 0, 0, 0, [], []), (315, .iaload, 1, .null, 0, 0, 0, [], []), (316, .aload_n 0, 1, .null, 0, 0, 0, [], []), (317, .iload_n 3, 1, .null, 0, 0, 0, [], []), (318, .iconst 4, 1, .int 4, 0, 0, 0, [], []), (319, .iadd, 1, .null, 0, 0, 0, [], []), (320, .iaload, 1, .null, 0, 0, 0, [], []), (321, .invokevirtual 27, 3, .null, 142, 4, 10, [], []), (324, .if_icmp .eq 1029, 3, .null, 1353, 0, 0, [], []), (327, .iconst 0, 1, .int 0, 0, 0, 0, [], [])]
def zc212_11 : List zN := [(328, .ireturn, 1, .null, 0, 0, 1, [], []), (329, .aload_n 1, 1, .null, 0, 0, 0, [], []), (330, .aload_n 0, 1, .null, 0, 0, 0, [], []), (331, .iload_n 3, 1, .null, 0, 0, 0, [], []), (332, .iconst 1, 1, .int 1, 0, 0, 0, [], []), (333, .iadd, 1, .null, 0, 0, 0, [], []), (334, .iaload, 1, .null, 0, 0, 0, [], []), (335, .aload_n 0, 1, .null, 0, 0, 0, [], []), (336, .iload_n 3, 1, .null, 0, 0, 0, [], []), (337, .iconst 2, 1, .int 2, 0, 0, 0, [], []), (338, .iadd, 1, .null, 0, 0, 0, [], []), (339, .iaload, 1, .null, 0, 0, 0, [], [])]
def zc212_12 : List zN := [(340, .invokevirtual 28, 3, .null, 90, 2, 9, [], []), (343, .aload_n 2, 1, .null, 0, 0, 0, [], []), (344, .aload_n 0, 1, .null, 0, 0, 0, [], []), (345, .iload_n 3, 1, .null, 0, 0, 0, [], []), (346, .iconst 1, 1, .int 1, 0, 0, 0, [], []), (347, .iadd, 1, .null, 0, 0, 0, [], []), (348, .iaload, 1, .null, 0, 0, 0, [], []), (349, .aload_n 0, 1, .null, 0, 0, 0, [], []), (350, .iload_n 3, 1, .null, 0, 0, 0, [], []), (351, .iconst 2, 1, .int 2, 0, 0, 0, [], []), (352, .iadd, 1, .null, 0, 0, 0, [], []), (353, .iaload, 1, .null, 0, 0, 0, [], [])]
def zc212_13 : List zN := [(354, .invokevirtual 31, 3, .null, 143, 2, 10, [], []), (357, .if_icmp .eq 996, 3, .null, 1353, 0, 0, [], []), (360, .iconst 0, 1, .int 0, 0, 0, 0, [], []), (361, .ireturn, 1, .null, 0, 0, 1, [], []), (362, .aload_n 1, 1, .null, 0, 0, 0, [], []), (363, .aload_n 0, 1, .null, 0, 0, 0, [], []), (364, .iload_n 3, 1, .null, 0, 0, 0, [], []), (365, .iconst 1, 1, .int 1, 0, 0, 0, [], []), (366, .iadd, 1, .null, 0, 0, 0, [], []), (367, .iaload, 1, .null, 0, 0, 0, [], []), (368, .aload_n 0, 1, .null, 0, 0, 0, [], []), (369, .iload_n 3, 1, .null, 0, 0, 0, [], [])]
def zc212_14 : List zN := [(370, .iconst 2, 1, .int 2, 0, 0, 0, [], []), (371, .iadd, 1, .null, 0, 0, 0, [], []), (372, .iaload, 1, .null, 0, 0, 0, [], []), (373, .aload_n 0, 1, .null, 0, 0, 0, [], []), (374, .iload_n 3, 1, .null, 0, 0, 0, [], []), (375, .iconst 3, 1, .int 3, 0, 0, 0, [], []), (376, .iadd, 1, .null, 0, 0, 0, [], []), (377, .iaload, 1, .null, 0, 0, 0, [], []), (378, .aload_n 0, 1, .null, 0, 0, 0, [], []), (379, .iload_n 3, 1, .null, 0, 0, 0, [], []), (380, .iconst 4, 1, .int 4, 0, 0, 0, [], []), (381, .iadd, 1, .null, 0, 0, 0, [], [])]
def zc212_15 : List zN := [(382, .iaload, 1, .null, 0, 0, 0, [], []), (383, .invokevirtual 32, 3, .null, 91, 4, 9, [], []), (386, .aload_n 2, 1, .null, 0, 0, 0, [], []), (387, .aload_n 0, 1, .null, 0, 0, 0, [], []), (388, .iload_n 3, 1, .null, 0, 0, 0, [], []), (389, .iconst 1, 1, .int 1, 0, 0, 0, [], []), (390, .iadd, 1, .null, 0, 0, 0, [], []), (391, .iaload, 1, .null, 0, 0, 0, [], []), (392, .aload_n 0, 1, .null, 0, 0, 0, [], []), (393, .iload_n 3, 1, .null, 0, 0, 0, [], []), (394, .iconst 2, 1, .int 2, 0, 0, 0, [], []), (395, .iadd, 1, .null, 0, 0, 0, [], [])]
def zc212_16 : List zN := [(396, .iaload, 1, .null, 0, 0, 0, [], []), (397, .aload_n 0, 1, .null, 0, 0, 0, [], []), (398, .iload_n 3, 1, .null, 0, 0, 0, [], []), (399, .iconst 3, 1, .int 3, 0, 0, 0, [], []), (400, .iadd, 1, .null, 0, 0, 0, [], []), (401, .iaload, 1, .null, 0, 0, 0, [], []), (402, .aload_n 0, 1, .null, 0, 0, 0, [], []), (403, .iload_n 3, 1, .null, 0, 0, 0, [], []), (404, .iconst 4, 1, .int 4, 0, 0, 0, [], []), (405, .iadd, 1, .null, 0, 0, 0, [], []), (406, .iaload, 1, .null, 0, 0, 0, [], []), (407, .invokevirtual 35, 3, .null, 148, 4, 10, [], [])]
def zc212_17 : List zN := [(410, .if_icmp .eq 943, 3, .null, 1353, 0, 0, [], []), (413, .iconst 0, 1, .int 0, 0, 0, 0, [], []), (414, .ireturn, 1, .null, 0, 0, 1, [], []), (415, .aload_n 1, 1, .null, 0, 0, 0, [], []), (416, .aload_n 0, 1, .null, 0, 0, 0, [], []), (417, .iload_n 3, 1, .null, 0, 0, 0, [], []), (418, .iconst 1, 1, .int 1, 0, 0, 0, [], []), (419, .iadd, 1, .null, 0, 0, 0, [], []), (420, .iaload, 1, .null, 0, 0, 0, [], []), (421, .aload_n 0, 1, .null, 0, 0, 0, [], []), (422, .iload_n 3, 1, .null, 0, 0, 0, [], []), (423, .iconst 2, 1, .int 2, 0, 0, 0, [], [])]
def zc212_18 : List zN := [(424, .iadd, 1, .null, 0, 0, 0, [], []), (425, .iaload, 1, .null, 0, 0, 0, [], []), (426, .aload_n 0, 1, .null, 0, 0, 0, [], []), (427, .iload_n 3, 1, .null, 0, 0, 0, [], []), (428, .iconst 3, 1, .int 3, 0, 0, 0, [], []), (429, .iadd, 1, .null, 0, 0, 0, [], []), (430, .iaload, 1, .null, 0, 0, 0, [], []), (431, .invokevirtual 36, 3, .null, 92, 3, 9, [], []), (434, .aload_n 2, 1, .null, 0, 0, 0, [], []), (435, .aload_n 0, 1, .null, 0, 0, 0, [], []), (436, .iload_n 3, 1, .null, 0, 0, 0, [], []), (437, .iconst 1, 1, .int 1, 0, 0, 0, [], [])]
def zc212_19 : List zN := [(438, .iadd, 1, .null, 0, 0, 0, [], []), (439, .iaload, 1, .null, 0, 0, 0, [], []), (440, .aload_n 0, 1, .null, 0, 0, 0, [], []), (441, .iload_n 3, 1, .null, 0, 0, 0, [], []), (442, .iconst 2, 1, .int 2, 0, 0, 0, [], []), (443, .iadd, 1, .null, 0, 0, 0, [], []), (444, .iaload, 1, .null, 0, 0, 0, [], []), (445, .aload_n 0, 1, .null, 0, 0, 0, [], []), (446, .iload_n 3, 1, .null, 0, 0, 0, [], []), (447, .iconst 3, 1, .int 3, 0, 0, 0, [], []), (448, .iadd, 1, .null, 0, 0, 0, [], []), (449, .iaload, 1, .null, 0, 0, 0, [], [])]
def zc212_20 : List zN := [(450, .invokevirtual 39, 3, .null, 149, 3, 10, [], []), (453, .if_icmp .eq 900, 3, .null, 1353, 0, 0, [], []), (456, .iconst 0, 1, .int 0, 0, 0, 0, [], []), (457, .ireturn, 1, .null, 0, 0, 1, [], []), (458, .aload_n 1, 1, .null, 0, 0, 0, [], []), (459, .aload_n 0, 1, .null, 0, 0, 0, [], []), (460, .iload_n 3, 1, .null, 0, 0, 0, [], []), (461, .iconst 1, 1, .int 1, 0, 0, 0, [], []), (462, .iadd, 1, .null, 0, 0, 0, [], []), (463, .iaload, 1, .null, 0, 0, 0, [], []), (464, .invokevirtual 40, 3, .null, 93, 1, 9, [], []), (467, .aload_n 2, 1, .null, 0, 0, 0, [], [])]
def zc212_21 : List zN := [(468, .aload_n 0, 1, .null, 0, 0, 0, [], []), (469, .iload_n 3, 1, .null, 0, 0, 0, [], []), (470, .iconst 1, 1, .int 1, 0, 0, 0, [], []), (471, .iadd, 1, .null, 0, 0, 0, [], []), (472, .iaload, 1, .null, 0, 0, 0, [], []), (473, .invokevirtual 44, 3, .null, 150, 1, 10, [], []), (476, .if_icmp .eq 877, 3, .null, 1353, 0, 0, [], []), (479, .iconst 0, 1, .int 0, 0, 0, 0, [], []), (480, .ireturn, 1, .null, 0, 0, 1, [], []), (481, .aload_n 1, 1, .null, 0, 0, 0, [], []), (482, .invokevirtual 45, 3, .null, 94, 0, 9, [], []), (485, .aload_n 2, 1, .null, 0, 0, 0, [], [])]
def zc212_22 : List zN := [(486, .invokevirtual 49, 3, .null, 151, 0, 10, [], []), (489, .if_icmp .eq 864, 3, .null, 1353, 0, 0, [], []), (492, .iconst 0, 1, .int 0, 0, 0, 0, [], []), (493, .ireturn, 1, .null, 0, 0, 1, [], []), (494, .aload_n 1, 1, .null, 0, 0, 0, [], []), (495, .invokevirtual 50, 3, .null, 95, 0, 9, [], []), (498, .aload_n 2, 1, .null, 0, 0, 0, [], []), (499, .invokevirtual 53, 3, .null, 153, 0, 10, [], []), (502, .if_icmp .eq 851, 3, .null, 1353, 0, 0, [], []), (505, .iconst 0, 1, .int 0, 0, 0, 0, [], []), (506, .ireturn, 1, .null, 0, 0, 1, [], []), (507, .aload_n 1, 1, .null, 0, 0, 0, [], [])]
def zc212_23 : List zN := [(508, .aload_n 0, 1, .null, 0, 0, 0, [], []), (509, .iload_n 3, 1, .null, 0, 0, 0, [], []), (510, .iconst 1, 1, .int 1, 0, 0, 0, [], []), (511, .iadd, 1, .null, 0, 0, 0, [], []), (512, .iaload, 1, .null, 0, 0, 0, [], []), (513, .invokevirtual 54, 3, .null, 96, 1, 9, [], []), (516, .aload_n 2, 1, .null, 0, 0, 0, [], []), (517, .aload_n 0, 1, .null, 0, 0, 0, [], []), (518, .iload_n 3, 1, .null, 0, 0, 0, [], []), (519, .iconst 1, 1, .int 1, 0, 0, 0, [], []), (520, .iadd, 1, .null, 0, 0, 0, [], []), (521, .iaload, 1, .null, 0, 0, 0, [], [])]
def zc212_24 : List zN := [(522, .invokevirtual 57, 3, .null, 154, 1, 10, [], []), (525, .if_icmp .eq 828, 3, .null, 1353, 0, 0, [], []), (528, .iconst 0, 1, .int 0, 0, 0, 0, [], []), (529, .ireturn, 1, .null, 0, 0, 1, [], []), (530, .aload_n 1, 1, .null, 0, 0, 0, [], []), (531, .aload_n 0, 1, .null, 0, 0, 0, [], []), (532, .iload_n 3, 1, .null, 0, 0, 0, [], []), (533, .iconst 1, 1, .int 1, 0, 0, 0, [], []), (534, .iadd, 1, .null, 0, 0, 0, [], []), (535, .iaload, 1, .null, 0, 0, 0, [], []), (536, .aload_n 0, 1, .null, 0, 0, 0, [], []), (537, .iload_n 3, 1, .null, 0, 0, 0, [], [])]
def zc212_25 : List zN := [(538, .iconst 2, 1, .int 2, 0, 0, 0, [], []), (539, .iadd, 1, .null, 0, 0, 0, [], []), (540, .iaload, 1, .null, 0, 0, 0, [], []), (541, .aload_n 0, 1, .null, 0, 0, 0, [], []), (542, .iload_n 3, 1, .null, 0, 0, 0, [], []), (543, .iconst 3, 1, .int 3, 0, 0, 0, [], []), (544, .iadd, 1, .null, 0, 0, 0, [], []), (545, .iaload, 1, .null, 0, 0, 0, [], []), (546, .invokevirtual 58, 3, .null, 97, 3, 9, [], []), (549, .aload_n 2, 1, .null, 0, 0, 0, [], []), (550, .aload_n 0, 1, .null, 0, 0, 0, [], []), (551, .iload_n 3, 1, .null, 0, 0, 0, [], [])]
def zc212_26 : List zN := [(552, .iconst 1, 1, .int 1, 0, 0, 0, [], []), (553, .iadd, 1, .null, 0, 0, 0, [], []), (554, .iaload, 1, .null, 0, 0, 0, [], []), (555, .aload_n 0, 1, .null, 0, 0, 0, [], []), (556, .iload_n 3, 1, .null, 0, 0, 0, [], []), (557, .iconst 2, 1, .int 2, 0, 0, 0, [], []), (558, .iadd, 1, .null, 0, 0, 0, [], []), (559, .iaload, 1, .null, 0, 0, 0, [], []), (560, .aload_n 0, 1, .null, 0, 0, 0, [], []), (561, .iload_n 3, 1, .null, 0, 0, 0, [], []), (562, .iconst 3, 1, .int 3, 0, 0, 0, [], []), (563, .iadd, 1, .null, 0, 0, 0, [], [])]
def zc212_27 : List zN := [(564, .iaload, 1, .null, 0, 0, 0, [], []), (565, .invokevirtual 61, 3, .null, 155, 3, 10, [], []), (568, .if_icmp .eq 785, 3, .null, 1353, 0, 0, [], []), (571, .iconst 0, 1, .int 0, 0, 0, 0, [], []), (572, .ireturn, 1, .null, 0, 0, 1, [], []), (573, .aload_n 1, 1, .null, 0, 0, 0, [], []), (574, .aload_n 0, 1, .null, 0, 0, 0, [], []), (575, .iload_n 3, 1, .null, 0, 0, 0, [], []), (576, .iconst 1, 1, .int 1, 0, 0, 0, [], []), (577, .iadd, 1, .null, 0, 0, 0, [], []), (578, .iaload, 1, .null, 0, 0, 0, [], []), (579, .invokevirtual 62, 3, .null, 98, 1, 9, [], [])]
def zc212_28 : List zN := [(582, .aload_n 2, 1, .null, 0, 0, 0, [], []), (583, .aload_n 0, 1, .null, 0, 0, 0, [], []), (584, .iload_n 3, 1, .null, 0, 0, 0, [], []), (585, .iconst 1, 1, .int 1, 0, 0, 0, [], []), (586, .iadd, 1, .null, 0, 0, 0, [], []), (587, .iaload, 1, .null, 0, 0, 0, [], []), (588, .invokevirtual 65, 3, .null, 156, 1, 10, [], []), (591, .if_icmp .eq 762, 3, .null, 1353, 0, 0, [], []), (594, .iconst 0, 1, .int 0, 0, 0, 0, [], []), (595, .ireturn, 1, .null, 0, 0, 1, [], []), (596, .aload_n 1, 1, .null, 0, 0, 0, [], []), (597, .aload_n 0, 1, .null, 0, 0, 0, [], [])]
def zc212_29 : List zN := [(598, .iload_n 3, 1, .null, 0, 0, 0, [], []), (599, .iconst 1, 1, .int 1, 0, 0, 0, [], []), (600, .iadd, 1, .null, 0, 0, 0, [], []), (601, .iaload, 1, .null, 0, 0, 0, [], []), (602, .aload_n 0, 1, .null, 0, 0, 0, [], []), (603, .iload_n 3, 1, .null, 0, 0, 0, [], []), (604, .iconst 2, 1, .int 2, 0, 0, 0, [], []), (605, .iadd, 1, .null, 0, 0, 0, [], []), (606, .iaload, 1, .null, 0, 0, 0, [], []), (607, .invokevirtual 66, 3, .null, 99, 2, 9, [], []), (610, .aload_n 2, 1, .null, 0, 0, 0, [], []), (611, .aload_n 0, 1, .null, 0, 0, 0, [], [])]
def zc212_30 : List zN := [(612, .iload_n 3, 1, .null, 0, 0, 0, [], []), (613, .iconst 1, 1, .int 1, 0, 0, 0, [], []), (614, .iadd, 1, .null, 0, 0, 0, [], []), (615, .iaload, 1, .null, 0, 0, 0, [], []), (616, .aload_n 0, 1, .null, 0, 0, 0, [], []), (617, .iload_n 3, 1, .null, 0, 0, 0, [], []), (618, .iconst 2, 1, .int 2, 0, 0, 0, [], []), (619, .iadd, 1, .null, 0, 0, 0, [], []), (620, .iaload, 1, .null, 0, 0, 0, [], []), (621, .invokevirtual 70, 3, .null, 164, 2, 10, [], []), (624, .lcmp, 1, .null, 0, 0, 0, [], []), (625, .ifCond .eq 728, 3, .null, 1353, 0, 0, [], [])]
def zc212_31 : List zN := [(628, .iconst 0, 1, .int 0, 0, 0, 0, [], []), (629, .ireturn, 1, .null, 0, 0, 1, [], []), (630, .aload_n 1, 1, .null, 0, 0, 0, [], []), (631, .aload_n 0, 1, .null, 0, 0, 0, [], []), (632, .iload_n 3, 1, .null, 0, 0, 0, [], []), (633, .iconst 1, 1, .int 1, 0, 0, 0, [], []), (634, .iadd, 1, .null, 0, 0, 0, [], []), (635, .iaload, 1, .null, 0, 0, 0, [], []), (636, .invokevirtual 71, 3, .null, 100, 1, 9, [], []), (639, .aload_n 2, 1, .null, 0, 0, 0, [], []), (640, .aload_n 0, 1, .null, 0, 0, 0, [], []), (641, .iload_n 3, 1, .null, 0, 0, 0, [], [])]
def zc212_32 : List zN := [(642, .iconst 1, 1, .int 1, 0, 0, 0, [], []), (643, .iadd, 1, .null, 0, 0, 0, [], []), (644, .iaload, 1, .null, 0, 0, 0, [], []), (645, .invokevirtual 74, 3, .null, 166, 1, 10, [], []), (648, .if_icmp .eq 705, 3, .null, 1353, 0, 0, [], []), (651, .iconst 0, 1, .int 0, 0, 0, 0, [], []), (652, .ireturn, 1, .null, 0, 0, 1, [], []), (653, .aload_n 1, 1, .null, 0, 0, 0, [], []), (654, .aload_n 0, 1, .null, 0, 0, 0, [], []), (655, .iload_n 3, 1, .null, 0, 0, 0, [], []), (656, .iconst 1, 1, .int 1, 0, 0, 0, [], []), (657, .iadd, 1, .null, 0, 0, 0, [], [])]
def zc212_33 : List zN := [(658, .iaload, 1, .null, 0, 0, 0, [], []), (659, .aload_n 0, 1, .null, 0, 0, 0, [], []), (660, .iload_n 3, 1, .null, 0, 0, 0, [], []), (661, .iconst 2, 1, .int 2, 0, 0, 0, [], []), (662, .iadd, 1, .null, 0, 0, 0, [], []), (663, .iaload, 1, .null, 0, 0, 0, [], []), (664, .aload_n 0, 1, .null, 0, 0, 0, [], []), (665, .iload_n 3, 1, .null, 0, 0, 0, [], []), (666, .iconst 3, 1, .int 3, 0, 0, 0, [], []), (667, .iadd, 1, .null, 0, 0, 0, [], []), (668, .iaload, 1, .null, 0, 0, 0, [], []), (669, .invokevirtual 75, 3, .null, 101, 3, 9, [], [])]
def zc212_34 : List zN := [(672, .aload_n 2, 1, .null, 0, 0, 0, [], []), (673, .aload_n 0, 1, .null, 0, 0, 0, [], []), (674, .iload_n 3, 1, .null, 0, 0, 0, [], []), (675, .iconst 1, 1, .int 1, 0, 0, 0, [], []), (676, .iadd, 1, .null, 0, 0, 0, [], []), (677, .iaload, 1, .null, 0, 0, 0, [], []), (678, .aload_n 0, 1, .null, 0, 0, 0, [], []), (679, .iload_n 3, 1, .null, 0, 0, 0, [], []), (680, .iconst 2, 1, .int 2, 0, 0, 0, [], []), (681, .iadd, 1, .null, 0, 0, 0, [], []), (682, .iaload, 1, .null, 0, 0, 0, [], []), (683, .aload_n 0, 1, .null, 0, 0, 0, [], [])]
def zc212_35 : List zN := [(684, .iload_n 3, 1, .null, 0, 0, 0, [], []), (685, .iconst 3, 1, .int 3, 0, 0, 0, [], []), (686, .iadd, 1, .null, 0, 0, 0, [], []), (687, .iaload, 1, .null, 0, 0, 0, [], []), (688, .invokevirtual 78, 3, .null, 168, 3, 10, [], []), (691, .if_icmp .eq 662, 3, .null, 1353, 0, 0, [], []), (694, .iconst 0, 1, .int 0, 0, 0, 0, [], []), (695, .ireturn, 1, .null, 0, 0, 1, [], []), (696, .aload_n 1, 1, .null, 0, 0, 0, [], []), (697, .aload_n 0, 1, .null, 0, 0, 0, [], []), (698, .iload_n 3, 1, .null, 0, 0, 0, [], []), (699, .iconst 1, 1, .int 1, 0, 0, 0, [], [])]
def zc212_36 : List zN := [(700, .iadd, 1, .null, 0, 0, 0, [], []), (701, .iaload, 1, .null, 0, 0, 0, [], []), (702, .invokevirtual 79, 3, .null, 102, 1, 9, [], []), (705, .aload_n 2, 1, .null, 0, 0, 0, [], []), (706, .aload_n 0, 1, .null, 0, 0, 0, [], []), (707, .iload_n 3, 1, .null, 0, 0, 0, [], []), (708, .iconst 1, 1, .int 1, 0, 0, 0, [], []), (709, .iadd, 1, .null, 0, 0, 0, [], []), (710, .iaload, 1, .null, 0, 0, 0, [], []), (711, .invokevirtual 83, 3, .null, 170, 1, 10, [], []), (714, .lcmp, 1, .null, 0, 0, 0, [], []), (715, .ifCond .eq 638, 3, .null, 1353, 0, 0, [], [])]
def zc212_37 : List zN := [(718, .iconst 0, 1, .int 0, 0, 0, 0, [], []), (719, .ireturn, 1, .null, 0, 0, 1, [], []), (720, .aload_n 1, 1, .null, 0, 0, 0, [], []), (721, .aload_n 0, 1, .null, 0, 0, 0, [], []), (722, .iload_n 3, 1, .null, 0, 0, 0, [], []), (723, .iconst 1, 1, .int 1, 0, 0, 0, [], []), (724, .iadd, 1, .null, 0, 0, 0, [], []), (725, .iaload, 1, .null, 0, 0, 0, [], []), (726, .invokevirtual 84, 3, .null, 103, 1, 9, [], []), (729, .aload_n 2, 1, .null, 0, 0, 0, [], []), (730, .aload_n 0, 1, .null, 0, 0, 0, [], []), (731, .iload_n 3, 1, .null, 0, 0, 0, [], [])]
def zc212_38 : List zN := [(732, .iconst 1, 1, .int 1, 0, 0, 0, [], []), (733, .iadd, 1, .null, 0, 0, 0, [], []), (734, .iaload, 1, .null, 0, 0, 0, [], []), (735, .invokevirtual 87, 3, .null, 173, 1, 10, [], []), (738, .lcmp, 1, .null, 0, 0, 0, [], []), (739, .ifCond .eq 614, 3, .null, 1353, 0, 0, [], []), (742, .iconst 0, 1, .int 0, 0, 0, 0, [], []), (743, .ireturn, 1, .null, 0, 0, 1, [], []), (744, .aload_n 1, 1, .null, 0, 0, 0, [], []), (745, .aload_n 0, 1, .null, 0, 0, 0, [], []), (746, .iload_n 3, 1, .null, 0, 0, 0, [], []), (747, .iconst 1, 1, .int 1, 0, 0, 0, [], [])]
def zc212_39 : List zN := [(748, .iadd, 1, .null, 0, 0, 0, [], []), (749, .iaload, 1, .null, 0, 0, 0, [], []), (750, .invokevirtual 88, 3, .null, 104, 1, 9, [], []), (753, .aload_n 2, 1, .null, 0, 0, 0, [], []), (754, .aload_n 0, 1, .null, 0, 0, 0, [], []), (755, .iload_n 3, 1, .null, 0, 0, 0, [], []), (756, .iconst 1, 1, .int 1, 0, 0, 0, [], []), (757, .iadd, 1, .null, 0, 0, 0, [], []), (758, .iaload, 1, .null, 0, 0, 0, [], []), (759, .invokevirtual 91, 3, .null, 177, 1, 10, [], []), (762, .if_icmp .eq 591, 3, .null, 1353, 0, 0, [], []), (765, .iconst 0, 1, .int 0, 0, 0, 0, [], [])]
def zc212_40 : List zN := [(766, .ireturn, 1, .null, 0, 0, 1, [], []), (767, .aload_n 1, 1, .null, 0, 0, 0, [], []), (768, .aload_n 0, 1, .null, 0, 0, 0, [], []), (769, .iload_n 3, 1, .null, 0, 0, 0, [], []), (770, .iconst 1, 1, .int 1, 0, 0, 0, [], []), (771, .iadd, 1, .null, 0, 0, 0, [], []), (772, .iaload, 1, .null, 0, 0, 0, [], []), (773, .invokevirtual 92, 3, .null, 105, 1, 9, [], []), (776, .aload_n 2, 1, .null, 0, 0, 0, [], []), (777, .aload_n 0, 1, .null, 0, 0, 0, [], []), (778, .iload_n 3, 1, .null, 0, 0, 0, [], []), (779, .iconst 1, 1, .int 1, 0, 0, 0, [], [])]
def zc212_41 : List zN := [(780, .iadd, 1, .null, 0, 0, 0, [], []), (781, .iaload, 1, .null, 0, 0, 0, [], []), (782, .invokevirtual 95, 3, .null, 180, 1, 10, [], []), (785, .if_icmp .eq 568, 3, .null, 1353, 0, 0, [], []), (788, .iconst 0, 1, .int 0, 0, 0, 0, [], []), (789, .ireturn, 1, .null, 0, 0, 1, [], []), (790, .aload_n 1, 1, .null, 0, 0, 0, [], []), (791, .aload_n 0, 1, .null, 0, 0, 0, [], []), (792, .iload_n 3, 1, .null, 0, 0, 0, [], []), (793, .iconst 1, 1, .int 1, 0, 0, 0, [], []), (794, .iadd, 1, .null, 0, 0, 0, [], []), (795, .iaload, 1, .null, 0, 0, 0, [], [])]
def zc212_42 : List zN := [(796, .aload_n 0, 1, .null, 0, 0, 0, [], []), (797, .iload_n 3, 1, .null, 0, 0, 0, [], []), (798, .iconst 2, 1, .int 2, 0, 0, 0, [], []), (799, .iadd, 1, .null, 0, 0, 0, [], []), (800, .iaload, 1, .null, 0, 0, 0, [], []), (801, .invokevirtual 96, 3, .null, 106, 2, 9, [], []), (804, .aload_n 2, 1, .null, 0, 0, 0, [], []), (805, .aload_n 0, 1, .null, 0, 0, 0, [], []), (806, .iload_n 3, 1, .null, 0, 0, 0, [], []), (807, .iconst 1, 1, .int 1, 0, 0, 0, [], []), (808, .iadd, 1, .null, 0, 0, 0, [], []), (809, .iaload, 1, .null, 0, 0, 0, [], [])]
def zc212_43 : List zN := [(810, .aload_n 0, 1, .null, 0, 0, 0, [], []), (811, .iload_n 3, 1, .null, 0, 0, 0, [], []), (812, .iconst 2, 1, .int 2, 0, 0, 0, [], []), (813, .iadd, 1, .null, 0, 0, 0, [], []), (814, .iaload, 1, .null, 0, 0, 0, [], []), (815, .invokevirtual 99, 3, .null, 184, 2, 10, [], []), (818, .lcmp, 1, .null, 0, 0, 0, [], []), (819, .ifCond .eq 534, 3, .null, 1353, 0, 0, [], []), (822, .iconst 0, 1, .int 0, 0, 0, 0, [], []), (823, .ireturn, 1, .null, 0, 0, 1, [], []), (824, .aload_n 1, 1, .null, 0, 0, 0, [], []), (825, .aload_n 0, 1, .null, 0, 0, 0, [], [])]
def zc212_44 : List zN := [(826, .iload_n 3, 1, .null, 0, 0, 0, [], []), (827, .iconst 1, 1, .int 1, 0, 0, 0, [], []), (828, .iadd, 1, .null, 0, 0, 0, [], []), (829, .iaload, 1, .null, 0, 0, 0, [], []), (830, .invokevirtual 100, 3, .null, 107, 1, 9, [], []), (833, .aload_n 2, 1, .null, 0, 0, 0, [], []), (834, .aload_n 0, 1, .null, 0, 0, 0, [], []), (835, .iload_n 3, 1, .null, 0, 0, 0, [], []), (836, .iconst 1, 1, .int 1, 0, 0, 0, [], []), (837, .iadd, 1, .null, 0, 0, 0, [], []), (838, .iaload, 1, .null, 0, 0, 0, [], []), (839, .invokevirtual 103, 3, .null, 182, 1, 10, [], [])]
def zc212_45 : List zN := [(842, .if_icmp .eq 511, 3, .null, 1353, 0, 0, [], []), (845, .iconst 0, 1, .int 0, 0, 0, 0, [], []), (846, .ireturn, 1, .null, 0, 0, 1, [], []), (847, .aload_n 1, 1, .null, 0, 0, 0, [], []), (848, .aload_n 0, 1, .null, 0, 0, 0, [], []), (849, .iload_n 3, 1, .null, 0, 0, 0, [], []), (850, .iconst 1, 1, .int 1, 0, 0, 0, [], []), (851, .iadd, 1, .null, 0, 0, 0, [], []), (852, .iaload, 1, .null, 0, 0, 0, [], []), (853, .invokevirtual 104, 3, .null, 108, 1, 9, [], []), (856, .aload_n 2, 1, .null, 0, 0, 0, [], []), (857, .aload_n 0, 1, .null, 0, 0, 0, [], [])]
def zc212_46 : List zN := [(858, .iload_n 3, 1, .null, 0, 0, 0, [], []), (859, .iconst 1, 1, .int 1, 0, 0, 0, [], []), (860, .iadd, 1, .null, 0, 0, 0, [], []), (861, .iaload, 1, .null, 0, 0, 0, [], []), (862, .invokevirtual 107, 3, .null, 185, 1, 10, [], []), (865, .if_icmp .eq 488, 3, .null, 1353, 0, 0, [], []), (868, .iconst 0, 1, .int 0, 0, 0, 0, [], []), (869, .ireturn, 1, .null, 0, 0, 1, [], []), (870, .aload_n 1, 1, .null, 0, 0, 0, [], []), (871, .aload_n 0, 1, .null, 0, 0, 0, [], []), (872, .iload_n 3, 1, .null, 0, 0, 0, [], []), (873, .iconst 1, 1, .int 1, 0, 0, 0, [], [])]
def zc212_47 : List zN := [(874, .iadd, 1, .null, 0, 0, 0, [], []), (875, .iaload, 1, .null, 0, 0, 0, [], []), (876, .aload_n 0, 1, .null, 0, 0, 0, [], []), (877, .iload_n 3, 1, .null, 0, 0, 0, [], []), (878, .iconst 2, 1, .int 2, 0, 0, 0, [], []), (879, .iadd, 1, .null, 0, 0, 0, [], []), (880, .iaload, 1, .null, 0, 0, 0, [], []), (881, .invokevirtual 108, 3, .null, 109, 2, 9, [], []), (884, .aload_n 2, 1, .null, 0, 0, 0, [], []), (885, .aload_n 0, 1, .null, 0, 0, 0, [], []), (886, .iload_n 3, 1, .null, 0, 0, 0, [], []), (887, .iconst 1, 1, .int 1, 0, 0, 0, [], [])]
def zc212_48 : List zN := [(888, .iadd, 1, .null, 0, 0, 0, [], []), (889, .iaload, 1, .null, 0, 0, 0, [], []), (890, .aload_n 0, 1, .null, 0, 0, 0, [], []), (891, .iload_n 3, 1, .null, 0, 0, 0, [], []), (892, .iconst 2, 1, .int 2, 0, 0, 0, [], []), (893, .iadd, 1, .null, 0, 0, 0, [], []), (894, .iaload, 1, .null, 0, 0, 0, [], []), (895, .invokevirtual 111, 3, .null, 186, 2, 10, [], []), (898, .lcmp, 1, .null, 0, 0, 0, [], []), (899, .ifCond .eq 454, 3, .null, 1353, 0, 0, [], []), (902, .iconst 0, 1, .int 0, 0, 0, 0, [], []), (903, .ireturn, 1, .null, 0, 0, 1, [], [])]
def zc212_49 : List zN := [(904, .aload_n 1, 1, .null, 0, 0, 0, [], []), (905, .aload_n 0, 1, .null, 0, 0, 0, [], []), (906, .iload_n 3, 1, .null, 0, 0, 0, [], []), (907, .iconst 1, 1, .int 1, 0, 0, 0, [], []), (908, .iadd, 1, .null, 0, 0, 0, [], []), (909, .iaload, 1, .null, 0, 0, 0, [], []), (910, .invokevirtual 112, 3, .null, 110, 1, 9, [], []), (913, .aload_n 2, 1, .null, 0, 0, 0, [], []), (914, .aload_n 0, 1, .null, 0, 0, 0, [], []), (915, .iload_n 3, 1, .null, 0, 0, 0, [], []), (916, .iconst 1, 1, .int 1, 0, 0, 0, [], []), (917, .iadd, 1, .null, 0, 0, 0, [], [])]
def zc212_50 : List zN := [(918, .iaload, 1, .null, 0, 0, 0, [], []), (919, .invokevirtual 115, 3, .null, 187, 1, 10, [], []), (922, .if_icmp .eq 431, 3, .null, 1353, 0, 0, [], []), (925, .iconst 0, 1, .int 0, 0, 0, 0, [], []), (926, .ireturn, 1, .null, 0, 0, 1, [], []), (927, .aload_n 1, 1, .null, 0, 0, 0, [], []), (928, .aload_n 0, 1, .null, 0, 0, 0, [], []), (929, .iload_n 3, 1, .null, 0, 0, 0, [], []), (930, .iconst 1, 1, .int 1, 0, 0, 0, [], []), (931, .iadd, 1, .null, 0, 0, 0, [], []), (932, .iaload, 1, .null, 0, 0, 0, [], []), (933, .invokevirtual 116, 3, .null, 111, 1, 9, [], [])]
def zc212_51 : List zN := [(936, .aload_n 2, 1, .null, 0, 0, 0, [], []), (937, .aload_n 0, 1, .null, 0, 0, 0, [], []), (938, .iload_n 3, 1, .null, 0, 0, 0, [], []), (939, .iconst 1, 1, .int 1, 0, 0, 0, [], []), (940, .iadd, 1, .null, 0, 0, 0, [], []), (941, .iaload, 1, .null, 0, 0, 0, [], []), (942, .invokevirtual 119, 3, .null, 191, 1, 10, [], []), (945, .if_icmp .eq 408, 3, .null, 1353, 0, 0, [], []), (948, .iconst 0, 1, .int 0, 0, 0, 0, [], []), (949, .ireturn, 1, .null, 0, 0, 1, [], []), (950, .aload_n 1, 1, .null, 0, 0, 0, [], []), (951, .aload_n 0, 1, .null, 0, 0, 0, [], [])]
def zc212_52 : List zN := [(952, .iload_n 3, 1, .null, 0, 0, 0, [], []), (953, .iconst 1, 1, .int 1, 0, 0, 0, [], []), (954, .iadd, 1, .null, 0, 0, 0, [], []), (955, .iaload, 1, .null, 0, 0, 0, [], []), (956, .aload_n 0, 1, .null, 0, 0, 0, [], []), (957, .iload_n 3, 1, .null, 0, 0, 0, [], []), (958, .iconst 2, 1, .int 2, 0, 0, 0, [], []), (959, .iadd, 1, .null, 0, 0, 0, [], []), (960, .iaload, 1, .null, 0, 0, 0, [], []), (961, .invokevirtual 120, 3, .null, 112, 2, 9, [], []), (964, .aload_n 2, 1, .null, 0, 0, 0, [], []), (965, .aload_n 0, 1, .null, 0, 0, 0, [], [])]
def zc212_53 : List zN := [(966, .iload_n 3, 1, .null, 0, 0, 0, [], []), (967, .iconst 1, 1, .int 1, 0, 0, 0, [], []), (968, .iadd, 1, .null, 0, 0, 0, [], []), (969, .iaload, 1, .null, 0, 0, 0, [], []), (970, .aload_n 0, 1, .null, 0, 0, 0, [], []), (971, .iload_n 3, 1, .null, 0, 0, 0, [], []), (972, .iconst 2, 1, .int 2, 0, 0, 0, [], []), (973, .iadd, 1, .null, 0, 0, 0, [], []), (974, .iaload, 1, .null, 0, 0, 0, [], []), (975, .invokevirtual 123, 3, .null, 193, 2, 10, [], []), (978, .if_icmp .eq 375, 3, .null, 1353, 0, 0, [], []), (981, .iconst 0, 1, .int 0, 0, 0, 0, [], [])]
def zc212_54 : List zN := [(982, .ireturn, 1, .null, 0, 0, 1, [], []), (983, .aload_n 1, 1, .null, 0, 0, 0, [], []), (984, .aload_n 0, 1, .null, 0, 0, 0, [], []), (985, .iload_n 3, 1, .null, 0, 0, 0, [], []), (986, .iconst 1, 1, .int 1, 0, 0, 0, [], []), (987, .iadd, 1, .null, 0, 0, 0, [], []), (988, .iaload, 1, .null, 0, 0, 0, [], []), (989, .aload_n 0, 1, .null, 0, 0, 0, [], []), (990, .iload_n 3, 1, .null, 0, 0, 0, [], []), (991, .iconst 2, 1, .int 2, 0, 0, 0, [], []), (992, .iadd, 1, .null, 0, 0, 0, [], []), (993, .iaload, 1, .null, 0, 0, 0, [], [])]
def zc212_55 : List zN := [(994, .invokevirtual 124, 3, .null, 113, 2, 9, [], []), (997, .aload_n 2, 1, .null, 0, 0, 0, [], []), (998, .aload_n 0, 1, .null, 0, 0, 0, [], []), (999, .iload_n 3, 1, .null, 0, 0, 0, [], []), (1000, .iconst 1, 1, .int 1, 0, 0, 0, [], []), (1001, .iadd, 1, .null, 0, 0, 0, [], []), (1002, .iaload, 1, .null, 0, 0, 0, [], []), (1003, .aload_n 0, 1, .null, 0, 0, 0, [], []), (1004, .iload_n 3, 1, .null, 0, 0, 0, [], []), (1005, .iconst 2, 1, .int 2, 0, 0, 0, [], []), (1006, .iadd, 1, .null, 0, 0, 0, [], []), (1007, .iaload, 1, .null, 0, 0, 0, [], [])]
def zc212_56 : List zN := [(1008, .invokevirtual 127, 3, .null, 194, 2, 10, [], []), (1011, .if_icmp .eq 342, 3, .null, 1353, 0, 0, [], []), (1014, .iconst 0, 1, .int 0, 0, 0, 0, [], []), (1015, .ireturn, 1, .null, 0, 0, 1, [], []), (1016, .aload_n 1, 1, .null, 0, 0, 0, [], []), (1017, .aload_n 0, 1, .null, 0, 0, 0, [], []), (1018, .iload_n 3, 1, .null, 0, 0, 0, [], []), (1019, .iconst 1, 1, .int 1, 0, 0, 0, [], []), (1020, .iadd, 1, .null, 0, 0, 0, [], []), (1021, .iaload, 1, .null, 0, 0, 0, [], []), (1022, .aload_n 0, 1, .null, 0, 0, 0, [], []), (1023, .iload_n 3, 1, .null, 0, 0, 0, [], [])]
def zc212_57 : List zN := [(1024, .iconst 2, 1, .int 2, 0, 0, 0, [], []), (1025, .iadd, 1, .null, 0, 0, 0, [], []), (1026, .iaload, 1, .null, 0, 0, 0, [], []), (1027, .invokevirtual 128, 3, .null, 114, 2, 9, [], []), (1030, .aload_n 2, 1, .null, 0, 0, 0, [], []), (1031, .aload_n 0, 1, .null, 0, 0, 0, [], []), (1032, .iload_n 3, 1, .null, 0, 0, 0, [], []), (1033, .iconst 1, 1, .int 1, 0, 0, 0, [], []), (1034, .iadd, 1, .null, 0, 0, 0, [], []), (1035, .iaload, 1, .null, 0, 0, 0, [], []), (1036, .aload_n 0, 1, .null, 0, 0, 0, [], []), (1037, .iload_n 3, 1, .null, 0, 0, 0, [], [])]
def zc212_58 : List zN := [(1038, .iconst 2, 1, .int 2, 0, 0, 0, [], []), (1039, .iadd, 1, .null, 0, 0, 0, [], []), (1040, .iaload, 1, .null, 0, 0, 0, [], []), (1041, .invokevirtual 131, 3, .null, 195, 2, 10, [], []), (1044, .if_icmp .eq 309, 3, .null, 1353, 0, 0, [], []), (1047, .iconst 0, 1, .int 0, 0, 0, 0, [], []), (1048, .ireturn, 1, .null, 0, 0, 1, [], []), (1049, .aload_n 1, 1, .null, 0, 0, 0, [], []), (1050, .invokevirtual 132, 3, .null, 115, 0, 9, [], []), (1053, .aload_n 2, 1, .null, 0, 0, 0, [], []), (1054, .invokevirtual 135, 3, .null, 196, 0, 10, [], []), (1057, .if_icmp .eq 296, 3, .null, 1353, 0, 0, [], [])]
def zc212_59 : List zN := [(1060, .iconst 0, 1, .int 0, 0, 0, 0, [], []), (1061, .ireturn, 1, .null, 0, 0, 1, [], []), (1062, .aload_n 1, 1, .null, 0, 0, 0, [], []), (1063, .aload_n 0, 1, .null, 0, 0, 0, [], []), (1064, .iload_n 3, 1, .null, 0, 0, 0, [], []), (1065, .iconst 1, 1, .int 1, 0, 0, 0, [], []), (1066, .iadd, 1, .null, 0, 0, 0, [], []), (1067, .iaload, 1, .null, 0, 0, 0, [], []), (1068, .aload_n 0, 1, .null, 0, 0, 0, [], []), (1069, .iload_n 3, 1, .null, 0, 0, 0, [], []), (1070, .iconst 2, 1, .int 2, 0, 0, 0, [], []), (1071, .iadd, 1, .null, 0, 0, 0, [], [])]
def zc212_60 : List zN := [(1072, .iaload, 1, .null, 0, 0, 0, [], []), (1073, .aload_n 0, 1, .null, 0, 0, 0, [], []), (1074, .iload_n 3, 1, .null, 0, 0, 0, [], []), (1075, .iconst 3, 1, .int 3, 0, 0, 0, [], []), (1076, .iadd, 1, .null, 0, 0, 0, [], []), (1077, .iaload, 1, .null, 0, 0, 0, [], []), (1078, .aload_n 0, 1, .null, 0, 0, 0, [], []), (1079, .iload_n 3, 1, .null, 0, 0, 0, [], []), (1080, .iconst 4, 1, .int 4, 0, 0, 0, [], []), (1081, .iadd, 1, .null, 0, 0, 0, [], []), (1082, .iaload, 1, .null, 0, 0, 0, [], []), (1083, .aload_n 0, 1, .null, 0, 0, 0, [], [])]
def zc212_61 : List zN := [(1084, .iload_n 3, 1, .null, 0, 0, 0, [], []), (1085, .iconst 5, 1, .int 5, 0, 0, 0, [], []), (1086, .iadd, 1, .null, 0, 0, 0, [], []), (1087, .iaload, 1, .null, 0, 0, 0, [], []), (1088, .aload_n 0, 1, .null, 0, 0, 0, [], []), (1089, .iload_n 3, 1, .null, 0, 0, 0, [], []), (1090, .bipush 6, 2, .int 6, 0, 0, 0, [], []), (1092, .iadd, 1, .null, 0, 0, 0, [], []), (1093, .iaload, 1, .null, 0, 0, 0, [], []), (1094, .invokevirtual 136, 3, .null, 116, 6, 9, [], []), (1097, .aload_n 2, 1, .null, 0, 0, 0, [], []), (1098, .aload_n 0, 1, .null, 0, 0, 0, [], [])]
def zc212_62 : List zN := [(1099, .iload_n 3, 1, .null, 0, 0, 0, [], []), (1100, .iconst 1, 1, .int 1, 0, 0, 0, [], []), (1101, .iadd, 1, .null, 0, 0, 0, [], []), (1102, .iaload, 1, .null, 0, 0, 0, [], []), (1103, .aload_n 0, 1, .null, 0, 0, 0, [], []), (1104, .iload_n 3, 1, .null, 0, 0, 0, [], []), (1105, .iconst 2, 1, .int 2, 0, 0, 0, [], []), (1106, .iadd, 1, .null, 0, 0, 0, [], []), (1107, .iaload, 1, .null, 0, 0, 0, [], []), (1108, .aload_n 0, 1, .null, 0, 0, 0, [], []), (1109, .iload_n 3, 1, .null, 0, 0, 0, [], []), (1110, .iconst 3, 1, .int 3, 0, 0, 0, [], [])]
def zc212_63 : List zN := [(1111, .iadd, 1, .null, 0, 0, 0, [], []), (1112, .iaload, 1, .null, 0, 0, 0, [], []), (1113, .aload_n 0, 1, .null, 0, 0, 0, [], []), (1114, .iload_n 3, 1, .null, 0, 0, 0, [], []), (1115, .iconst 4, 1, .int 4, 0, 0, 0, [], []), (1116, .iadd, 1, .null, 0, 0, 0, [], []), (1117, .iaload, 1, .null, 0, 0, 0, [], []), (1118, .aload_n 0, 1, .null, 0, 0, 0, [], []), (1119, .iload_n 3, 1, .null, 0, 0, 0, [], []), (1120, .iconst 5, 1, .int 5, 0, 0, 0, [], []), (1121, .iadd, 1, .null, 0, 0, 0, [], []), (1122, .iaload, 1, .null, 0, 0, 0, [], [])]
def zc212_64 : List zN := [(1123, .aload_n 0, 1, .null, 0, 0, 0, [], []), (1124, .iload_n 3, 1, .null, 0, 0, 0, [], []), (1125, .bipush 6, 2, .int 6, 0, 0, 0, [], []), (1127, .iadd, 1, .null, 0, 0, 0, [], []), (1128, .iaload, 1, .null, 0, 0, 0, [], []), (1129, .invokevirtual 140, 3, .null, 197, 6, 10, [], []), (1132, .lcmp, 1, .null, 0, 0, 0, [], []), (1133, .ifCond .eq 220, 3, .null, 1353, 0, 0, [], []), (1136, .iconst 0, 1, .int 0, 0, 0, 0, [], []), (1137, .ireturn, 1, .null, 0, 0, 1, [], []), (1138, .aload_n 1, 1, .null, 0, 0, 0, [], []), (1139, .aload_n 0, 1, .null, 0, 0, 0, [], [])]
def zc212_65 : List zN := [(1140, .iload_n 3, 1, .null, 0, 0, 0, [], []), (1141, .iconst 1, 1, .int 1, 0, 0, 0, [], []), (1142, .iadd, 1, .null, 0, 0, 0, [], []), (1143, .iaload, 1, .null, 0, 0, 0, [], []), (1144, .invokevirtual 141, 3, .null, 117, 1, 9, [], []), (1147, .aload_n 2, 1, .null, 0, 0, 0, [], []), (1148, .aload_n 0, 1, .null, 0, 0, 0, [], []), (1149, .iload_n 3, 1, .null, 0, 0, 0, [], []), (1150, .iconst 1, 1, .int 1, 0, 0, 0, [], []), (1151, .iadd, 1, .null, 0, 0, 0, [], []), (1152, .iaload, 1, .null, 0, 0, 0, [], []), (1153, .invokevirtual 144, 3, .null, 198, 1, 10, [], [])]
def zc212_66 : List zN := [(1156, .if_icmp .eq 197, 3, .null, 1353, 0, 0, [], []), (1159, .iconst 0, 1, .int 0, 0, 0, 0, [], []), (1160, .ireturn, 1, .null, 0, 0, 1, [], []), (1161, .aload_n 1, 1, .null, 0, 0, 0, [], []), (1162, .invokevirtual 145, 3, .null, 118, 0, 9, [], []), (1165, .aload_n 2, 1, .null, 0, 0, 0, [], []), (1166, .invokevirtual 148, 3, .null, 199, 0, 10, [], []), (1169, .if_icmp .eq 184, 3, .null, 1353, 0, 0, [], []), (1172, .iconst 0, 1, .int 0, 0, 0, 0, [], []), (1173, .ireturn, 1, .null, 0, 0, 1, [], []), (1174, .aload_n 1, 1, .null, 0, 0, 0, [], []), (1175, .aload_n 0, 1, .null, 0, 0, 0, [], [])]
def zc212_67 : List zN := [(1176, .iload_n 3, 1, .null, 0, 0, 0, [], []), (1177, .iconst 1, 1, .int 1, 0, 0, 0, [], []), (1178, .iadd, 1, .null, 0, 0, 0, [], []), (1179, .iaload, 1, .null, 0, 0, 0, [], []), (1180, .aload_n 0, 1, .null, 0, 0, 0, [], []), (1181, .iload_n 3, 1, .null, 0, 0, 0, [], []), (1182, .iconst 2, 1, .int 2, 0, 0, 0, [], []), (1183, .iadd, 1, .null, 0, 0, 0, [], []), (1184, .iaload, 1, .null, 0, 0, 0, [], []), (1185, .invokevirtual 149, 3, .null, 119, 2, 9, [], []), (1188, .aload_n 2, 1, .null, 0, 0, 0, [], []), (1189, .aload_n 0, 1, .null, 0, 0, 0, [], [])]
def zc212_68 : List zN := [(1190, .iload_n 3, 1, .null, 0, 0, 0, [], []), (1191, .iconst 1, 1, .int 1, 0, 0, 0, [], []), (1192, .iadd, 1, .null, 0, 0, 0, [], []), (1193, .iaload, 1, .null, 0, 0, 0, [], []), (1194, .aload_n 0, 1, .null, 0, 0, 0, [], []), (1195, .iload_n 3, 1, .null, 0, 0, 0, [], []), (1196, .iconst 2, 1, .int 2, 0, 0, 0, [], []), (1197, .iadd, 1, .null, 0, 0, 0, [], []), (1198, .iaload, 1, .null, 0, 0, 0, [], []), (1199, .invokevirtual 152, 3, .null, 201, 2, 10, [], []), (1202, .if_icmp .eq 151, 3, .null, 1353, 0, 0, [], []), (1205, .iconst 0, 1, .int 0, 0, 0, 0, [], [])]
def zc212_69 : List zN := [(1206, .ireturn, 1, .null, 0, 0, 1, [], []), (1207, .aload_n 1, 1, .null, 0, 0, 0, [], []), (1208, .aload_n 0, 1, .null, 0, 0, 0, [], []), (1209, .iload_n 3, 1, .null, 0, 0, 0, [], []), (1210, .iconst 1, 1, .int 1, 0, 0, 0, [], []), (1211, .iadd, 1, .null, 0, 0, 0, [], []), (1212, .iaload, 1, .null, 0, 0, 0, [], []), (1213, .aload_n 0, 1, .null, 0, 0, 0, [], []), (1214, .iload_n 3, 1, .null, 0, 0, 0, [], []), (1215, .iconst 2, 1, .int 2, 0, 0, 0, [], []), (1216, .iadd, 1, .null, 0, 0, 0, [], []), (1217, .iaload, 1, .null, 0, 0, 0, [], [])]
def zc212_70 : List zN := [(1218, .aload_n 0, 1, .null, 0, 0, 0, [], []), (1219, .iload_n 3, 1, .null, 0, 0, 0, [], []), (1220, .iconst 3, 1, .int 3, 0, 0, 0, [], []), (1221, .iadd, 1, .null, 0, 0, 0, [], []), (1222, .iaload, 1, .null, 0, 0, 0, [], []), (1223, .invokevirtual 153, 3, .null, 120, 3, 9, [], []), (1226, .aload_n 2, 1, .null, 0, 0, 0, [], []), (1227, .aload_n 0, 1, .null, 0, 0, 0, [], []), (1228, .iload_n 3, 1, .null, 0, 0, 0, [], []), (1229, .iconst 1, 1, .int 1, 0, 0, 0, [], []), (1230, .iadd, 1, .null, 0, 0, 0, [], []), (1231, .iaload, 1, .null, 0, 0, 0, [], [])]
def zc212_71 : List zN := [(1232, .aload_n 0, 1, .null, 0, 0, 0, [], []), (1233, .iload_n 3, 1, .null, 0, 0, 0, [], []), (1234, .iconst 2, 1, .int 2, 0, 0, 0, [], []), (1235, .iadd, 1, .null, 0, 0, 0, [], []), (1236, .iaload, 1, .null, 0, 0, 0, [], []), (1237, .aload_n 0, 1, .null, 0, 0, 0, [], []), (1238, .iload_n 3, 1, .null, 0, 0, 0, [], []), (1239, .iconst 3, 1, .int 3, 0, 0, 0, [], []), (1240, .iadd, 1, .null, 0, 0, 0, [], []), (1241, .iaload, 1, .null, 0, 0, 0, [], []), (1242, .invokevirtual 157, 3, .null, 203, 3, 10, [], []), (1245, .lcmp, 1, .null, 0, 0, 0, [], [])]
def zc212_72 : List zN := [(1246, .ifCond .eq 107, 3, .null, 1353, 0, 0, [], []), (1249, .iconst 0, 1, .int 0, 0, 0, 0, [], []), (1250, .ireturn, 1, .null, 0, 0, 1, [], []), (1251, .aload_n 1, 1, .null, 0, 0, 0, [], []), (1252, .aload_n 0, 1, .null, 0, 0, 0, [], []), (1253, .iload_n 3, 1, .null, 0, 0, 0, [], []), (1254, .iconst 1, 1, .int 1, 0, 0, 0, [], []), (1255, .iadd, 1, .null, 0, 0, 0, [], []), (1256, .iaload, 1, .null, 0, 0, 0, [], []), (1257, .aload_n 0, 1, .null, 0, 0, 0, [], []), (1258, .iload_n 3, 1, .null, 0, 0, 0, [], []), (1259, .iconst 2, 1, .int 2, 0, 0, 0, [], [])]
def zc212_73 : List zN := [(1260, .iadd, 1, .null, 0, 0, 0, [], []), (1261, .iaload, 1, .null, 0, 0, 0, [], []), (1262, .invokevirtual 158, 3, .null, 121, 2, 9, [], []), (1265, .aload_n 2, 1, .null, 0, 0, 0, [], []), (1266, .aload_n 0, 1, .null, 0, 0, 0, [], []), (1267, .iload_n 3, 1, .null, 0, 0, 0, [], []), (1268, .iconst 1, 1, .int 1, 0, 0, 0, [], []), (1269, .iadd, 1, .null, 0, 0, 0, [], []), (1270, .iaload, 1, .null, 0, 0, 0, [], []), (1271, .aload_n 0, 1, .null, 0, 0, 0, [], []), (1272, .iload_n 3, 1, .null, 0, 0, 0, [], []), (1273, .iconst 2, 1, .int 2, 0, 0, 0, [], [])]
def zc212_74 : List zN := [(1274, .iadd, 1, .null, 0, 0, 0, [], []), (1275, .iaload, 1, .null, 0, 0, 0, [], []), (1276, .invokevirtual 161, 3, .null, 204, 2, 10, [], []), (1279, .if_icmp .eq 74, 3, .null, 1353, 0, 0, [], []), (1282, .iconst 0, 1, .int 0, 0, 0, 0, [], []), (1283, .ireturn, 1, .null, 0, 0, 1, [], []), (1284, .aload_n 1, 1, .null, 0, 0, 0, [], []), (1285, .aload_n 0, 1, .null, 0, 0, 0, [], []), (1286, .iload_n 3, 1, .null, 0, 0, 0, [], []), (1287, .iconst 1, 1, .int 1, 0, 0, 0, [], []), (1288, .iadd, 1, .null, 0, 0, 0, [], []), (1289, .iaload, 1, .null, 0, 0, 0, [], [])]
def zc212_75 : List zN := [(1290, .invokevirtual 162, 3, .null, 122, 1, 9, [], []), (1293, .aload_n 2, 1, .null, 0, 0, 0, [], []), (1294, .aload_n 0, 1, .null, 0, 0, 0, [], []), (1295, .iload_n 3, 1, .null, 0, 0, 0, [], []), (1296, .iconst 1, 1, .int 1, 0, 0, 0, [], []), (1297, .iadd, 1, .null, 0, 0, 0, [], []), (1298, .iaload, 1, .null, 0, 0, 0, [], []), (1299, .invokevirtual 165, 3, .null, 207, 1, 10, [], []), (1302, .if_icmp .eq 51, 3, .null, 1353, 0, 0, [], []), (1305, .iconst 0, 1, .int 0, 0, 0, 0, [], []), (1306, .ireturn, 1, .null, 0, 0, 1, [], []), (1307, .aload_n 1, 1, .null, 0, 0, 0, [], [])]
def zc212_76 : List zN := [(1308, .aload_n 0, 1, .null, 0, 0, 0, [], []), (1309, .iload_n 3, 1, .null, 0, 0, 0, [], []), (1310, .iconst 1, 1, .int 1, 0, 0, 0, [], []), (1311, .iadd, 1, .null, 0, 0, 0, [], []), (1312, .iaload, 1, .null, 0, 0, 0, [], []), (1313, .invokevirtual 166, 3, .null, 123, 1, 9, [], []), (1316, .aload_n 2, 1, .null, 0, 0, 0, [], []), (1317, .aload_n 0, 1, .null, 0, 0, 0, [], []), (1318, .iload_n 3, 1, .null, 0, 0, 0, [], []), (1319, .iconst 1, 1, .int 1, 0, 0, 0, [], []), (1320, .iadd, 1, .null, 0, 0, 0, [], []), (1321, .iaload, 1, .null, 0, 0, 0, [], [])]
def zc212_77 : List zN := [(1322, .invokevirtual 169, 3, .null, 208, 1, 10, [], []), (1325, .if_icmp .eq 28, 3, .null, 1353, 0, 0, [], []), (1328, .iconst 0, 1, .int 0, 0, 0, 0, [], []), (1329, .ireturn, 1, .null, 0, 0, 1, [], []), (1330, .aload_n 1, 1, .null, 0, 0, 0, [], []), (1331, .aload_n 0, 1, .null, 0, 0, 0, [], []), (1332, .iload_n 3, 1, .null, 0, 0, 0, [], []), (1333, .iconst 1, 1, .int 1, 0, 0, 0, [], []), (1334, .iadd, 1, .null, 0, 0, 0, [], []), (1335, .iaload, 1, .null, 0, 0, 0, [], []), (1336, .invokevirtual 170, 3, .null, 124, 1, 9, [], []), (1339, .aload_n 2, 1, .null, 0, 0, 0, [], [])]
def zc212_78 : List zN := [(1340, .aload_n 0, 1, .null, 0, 0, 0, [], []), (1341, .iload_n 3, 1, .null, 0, 0, 0, [], []), (1342, .iconst 1, 1, .int 1, 0, 0, 0, [], []), (1343, .iadd, 1, .null, 0, 0, 0, [], []), (1344, .iaload, 1, .null, 0, 0, 0, [], []), (1345, .invokevirtual 173, 3, .null, 209, 1, 10, [], []), (1348, .if_icmp .eq 5, 3, .null, 1353, 0, 0, [], []), (1351, .iconst 0, 1, .int 0, 0, 0, 0, [], []), (1352, .ireturn, 1, .null, 0, 0, 1, [], []), (1353, .iinc 3 7, 3, .int 7, 3, 0, 0, [0, 1, 2, 3], []), (1356, .goto (-1338), 3, .null, 18, 0, 0, [], []), (1359, .iconst 1, 1, .int 1, 0, 0, 0, [], [])]
def zc212_79 : List zN := [(1360, .ireturn, 1, .null, 0, 0, 1, [], [])]
def zc212 : List (Nat × List zN) := [(19, zc212_0), (201, zc212_1), (213, zc212_2), (227, zc212_3), (243, zc212_4), (257, zc212_5), (271, zc212_6), (285, zc212_7), (297, zc212_8), (311, zc212_9), (327, zc212_10), (339, zc212_11), (353, zc212_12), (369, zc212_13), (381, zc212_14), (395, zc212_15), (407, zc212_16), (423, zc212_17), (437, zc212_18), (449, zc212_19), (467, zc212_20), (485, zc212_21), (507, zc212_22), (521, zc212_23), (537, zc212_24), (551, zc212_25), (563, zc212_26), (579, zc212_27), (597, zc212_28), (611, zc212_29), (625, zc212_30), (641, zc212_31), (657, zc212_32), (669, zc212_33), (683, zc212_34), (699, zc212_35), (715, zc212_36), (731, zc212_37), (747, zc212_38), (765, zc212_39), (779, zc212_40), (795, zc212_41), (809, zc212_42), (825, zc212_43), (839, zc212_44), (857, zc212_45), (873, zc212_46), (887, zc212_47), (903, zc212_48), (917, zc212_49), (933, zc212_50), (951, zc212_51), (965, zc212_52), (981, zc212_53), (993, zc212_54), (1007, zc212_55), (1023, zc212_56), (1037, zc212_57), (1057, zc212_58), (1071, zc212_59), (1083, zc212_60), (1098, zc212_61), (1110, zc212_62), (1122, zc212_63), (1139, zc212_64), (1153, zc212_65), (1175, zc212_66), (1189, zc212_67), (1205, zc212_68), (1217, zc212_69), (1231, zc212_70), (1245, zc212_71), (1259, zc212_72), (1273, zc212_73), (1289, zc212_74), (1307, zc212_75), (1321, zc212_76), (1339, zc212_77), (1359, zc212_78), (1360, zc212_79)]
def zcodes : List (List (Nat × List zN)) := [zc0, zc1, zc2, zc3, zc4, zc5, zc6, zc7, zc8, zc9, zc10, zc11, zc12, zc13, zc14, zc15, zc16, zc17, zc18, zc19, zc20, zc21, zc22, zc23, zc24, zc25, zc26, zc27, zc28, zc29, zc30, zc31, zc32, zc33, zc34, zc35, zc36, zc37, zc38, zc39, zc40, zc41, zc42, zc43, zc44, zc45, zc46, zc47, zc48, zc49, zc50, zc51, zc52, zc53, zc54, zc55, zc56, zc57, zc58, zc59, zc60, zc61, zc62, zc63, zc64, zc65, zc66, zc67, zc68, zc69, zc70, zc71, zc72, zc73, zc74, zc75, zc76, zc77, zc78, zc79, zc80, zc81, zc82, zc83, zc84, zc85, zc86, zc87, zc88, zc89, zc90, zc91, zc92, zc93, zc94, zc95, zc96, zc97, zc98, zc99, zc100, zc101, zc102, zc103, zc104, zc105, zc106, zc107, zc108, zc109, zc110, zc111, zc112, zc113, zc114, zc115, zc116, zc117, zc118, zc119, zc120, zc121, zc122, zc123, zc124, zc125, zc126, zc127, zc128, zc129, zc130, zc131, zc132, zc133, zc134, zc135, zc136, zc137, zc138, zc139, zc140, zc141, zc142, zc143, zc144, zc145, zc146, zc147, zc148, zc149, zc150, zc151, zc152, zc153, zc154, zc155, zc156, zc157, zc158, zc159, zc160, zc161, zc162, zc163, zc164, zc165, zc166, zc167, zc168, zc169, zc170, zc171, zc172, zc173, zc174, zc175, zc176, zc177, zc178, zc179, zc180, zc181, zc182, zc183, zc184, zc185, zc186, zc187, zc188, zc189, zc190, zc191, zc192, zc193, zc194, zc195, zc196, zc197, zc198, zc199, zc200, zc201, zc202, zc203, zc204, zc205, zc206, zc207, zc208, zc209, zc210, zc211, zc212]
def zcode (y : Nat) : List (Nat × List zN) := zcodes.getD y []
def zmx : Nat → Nat := fun y => ([3, 1, 4, 3, 4, 6, 5, 3, 4, 5, 8, 4, 1, 2, 6, 4, 2, 3, 3, 3, 4, 6, 4, 4, 3, 3, 1, 2, 2, 3, 3, 1, 1, 3, 3, 2, 5, 3, 1, 2, 7, 4, 9, 6, 10, 7, 5, 7, 4, 8, 3, 7, 7, 1, 2, 2, 2, 4, 12, 5, 11, 1, 2, 3, 3, 8, 7, 8, 7, 5, 4, 5, 5, 9, 2, 7, 6, 2, 4, 5, 6, 5, 3, 15, 5, 3, 2, 4, 3, 6, 3, 5, 4, 2, 1, 1, 2, 5, 3, 3, 2, 4, 2, 2, 2, 2, 3, 2, 2, 5, 4, 2, 3, 3, 3, 6, 7, 2, 1, 3, 4, 3, 2, 2, 2, 3, 1, 1, 2, 2, 3, 5, 1, 1, 6, 3, 1, 2, 1, 1, 5, 3, 7, 4, 3, 3, 2, 3, 5, 5, 2, 2, 4, 3, 7, 5, 3, 5, 8, 5, 4, 5, 3, 4, 5, 6, 2, 6, 4, 6, 2, 6, 4, 2, 4, 3, 5, 2, 4, 7, 3, 10, 4, 11, 5, 6, 7, 9, 3, 8, 6, 6, 11, 3, 9, 8, 8, 22, 2, 2, 5, 3, 5, 16, 11, 3, 2, 2, 2, 4, 1, 4, 4] : List Nat).getD y 0
def zmc : Nat → Nat := fun y => ([6, 0, 0, 0, 0, 0, 0, 0, 0, 0, 0, 0, 6, 0, 0, 0, 0, 0, 0, 0, 0, 0, 0, 0, 0, 0, 4, 0, 0, 0, 0, 0, 0, 0, 0, 0, 0, 0, 7, 0, 0, 1, 0, 0, 0, 0, 0, 0, 0, 0, 0, 0, 0, 1, 0, 0, 0, 0, 0, 0, 0, 17, 0, 5, 0, 0, 0, 0, 0, 0, 0, 0, 0, 0, 0, 0, 0, 0, 0, 0, 0, 0, 0, 0, 0, 0, 84, 0, 0, 0, 0, 0, 0, 0, 0, 0, 0, 0, 0, 0, 0, 0, 0, 0, 0, 0, 0, 0, 0, 0, 0, 0, 0, 0, 0, 0, 0, 0, 0, 0, 0, 0, 0, 0, 0, 0, 0, 0, 0, 0, 0, 0, 0, 21, 0, 0, 0, 0, 0, 0, 0, 0, 0, 0, 0, 0, 0, 0, 0, 0, 0, 0, 0, 0, 0, 0, 0, 0, 0, 0, 0, 0, 0, 0, 0, 0, 0, 0, 0, 0, 0, 0, 0, 0, 0, 0, 0, 0, 0, 0, 0, 0, 0, 0, 0, 0, 0, 0, 0, 0, 0, 0, 0, 0, 0, 0, 0, 0, 0, 0, 0, 0, 0, 0, 0, 0, 0, 0, 0, 0, 0, 0, 89] : List Nat).getD y 0
def zms : Nat → Nat := fun y => ([26570, 0, 0, 0, 0, 0, 0, 0, 0, 0, 0, 0, 42, 0, 0, 0, 0, 0, 0, 0, 0, 0, 0, 0, 0, 0, 52, 0, 0, 0, 0, 0, 0, 0, 0, 0, 0, 0, 85, 0, 0, 5, 0, 0, 0, 0, 0, 0, 0, 0, 0, 0, 0, 30, 0, 0, 0, 0, 0, 0, 0, 174, 0, 254, 0, 0, 0, 0, 0, 0, 0, 0, 0, 0, 0, 0, 0, 0, 0, 0, 0, 0, 0, 0, 0, 0, 27503, 0, 0, 0, 0, 0, 0, 0, 0, 0, 0, 0, 0, 0, 0, 0, 0, 0, 0, 0, 0, 0, 0, 0, 0, 0, 0, 0, 0, 0, 0, 0, 0, 0, 0, 0, 0, 0, 0, 0, 0, 0, 0, 0, 0, 0, 0, 27167, 0, 0, 0, 0, 0, 0, 0, 0, 0, 0, 0, 0, 0, 0, 0, 0, 0, 0, 0, 0, 0, 0, 0, 0, 0, 0, 0, 0, 0, 0, 0, 0, 0, 0, 0, 0, 0, 0, 0, 0, 0, 0, 0, 0, 0, 0, 0, 0, 0, 0, 0, 0, 0, 0, 0, 0, 0, 0, 0, 0, 0, 0, 0, 0, 0, 0, 0, 0, 0, 0, 0, 0, 0, 0, 0, 0, 0, 0, 54535] : List Nat).getD y 0
def zfr : Nat → Nat := fun y => ([1, 0, 4, 3, 0, 1, 1, 2, 3, 3, 3, 2, 1, 1, 0, 0, 0, 0, 0, 0, 0, 1, 0, 1, 2, 1, 1, 0, 0, 2, 1, 0, 0, 1, 0, 0, 0, 0, 1, 1, 0, 1, 3, 4, 3, 3, 2, 4, 3, 5, 4, 5, 4, 1, 1, 0, 0, 0, 1, 0, 0, 2, 2, 1, 3, 2, 0, 0, 1, 1, 3, 2, 0, 0, 0, 1, 0, 2, 2, 2, 1, 2, 1, 2, 0, 1, 3, 1, 2, 2, 2, 1, 2, 1, 1, 3, 3, 2, 1, 5, 5, 5, 5, 5, 2, 5, 5, 5, 5, 5, 5, 5, 5, 5, 6, 5, 3, 1, 1, 2, 2, 6, 3, 3, 1, 0, 1, 1, 1, 1, 2, 1, 4, 1, 0, 0, 1, 1, 1, 1, 2, 2, 2, 2, 0, 1, 1, 0, 2, 2, 1, 0, 1, 2, 3, 2, 1, 1, 0, 1, 2, 3, 3, 4, 5, 5, 6, 4, 6, 6, 7, 6, 7, 8, 0, 0, 0, 2, 2, 8, 9, 8, 9, 7, 9, 9, 8, 6, 0, 8, 1, 9, 9, 10, 8, 8, 9, 2, 1, 0, 0, 2, 0, 2, 9, 0, 1, 2, 2, 2, 0, 0, 11] : List Nat).getD y 0
def zlo : Nat → Nat := fun y => ([20, 0, 97, 75, 0, 23, 23, 47, 69, 69, 70, 47, 20, 26, 0, 0, 0, 0, 0, 0, 0, 26, 0, 23, 46, 21, 20, 0, 0, 46, 26, 0, 0, 24, 0, 0, 0, 0, 20, 26, 0, 20, 77, 106, 77, 78, 54, 103, 80, 124, 102, 131, 105, 20, 26, 0, 0, 0, 30, 0, 0, 40, 47, 20, 80, 53, 0, 0, 27, 24, 77, 53, 0, 0, 0, 28, 0, 54, 54, 54, 22, 54, 20, 48, 0, 26, 60, 25, 43, 46, 46, 26, 46, 22, 21, 68, 68, 43, 22, 122, 122, 122, 122, 122, 42, 122, 131, 131, 122, 122, 122, 122, 122, 129, 151, 122, 82, 22, 21, 42, 61, 157, 68, 68, 22, 0, 22, 22, 22, 22, 43, 22, 102, 20, 0, 0, 25, 25, 25, 25, 45, 46, 46, 45, 0, 22, 25, 0, 45, 46, 25, 0, 25, 48, 70, 46, 25, 22, 0, 27, 51, 74, 74, 96, 119, 119, 144, 96, 144, 144, 169, 144, 169, 192, 0, 0, 0, 45, 44, 192, 218, 192, 221, 169, 221, 218, 192, 144, 0, 192, 22, 219, 218, 248, 192, 192, 218, 46, 25, 0, 0, 45, 0, 45, 218, 0, 22, 43, 43, 46, 0, 0, 270] : List Nat).getD y 0
end
section
def lw_g : List Cond := lw_tbl.filter goodWord
theorem zg {w : Cond} (h : w ∈ lw_tbl) (hg : goodWord w = true) : w ∈ lw_g := List.mem_filter.mpr ⟨h, hg⟩
theorem zgG : GoodIn lw_g lw_g := fun w h => ⟨h, good_of_word (List.mem_filter.mp h).2⟩
def zown (o : Nat) : String := zowns.getD o ""
def zmns : List MethodName := [⟨"SugarBelow$Duel", "<init>", "(LSugarBelow$Goods;LSugarBelow$Walks;)V"⟩, ⟨"SugarBelow$Duel", "forget", "()V"⟩, ⟨"SugarBelow$Duel", "prepare", "(I)V"⟩, ⟨"SugarBelow$Duel", "fillTables", "()V"⟩, ⟨"SugarBelow$Duel", "leftBy", "(III)I"⟩, ⟨"SugarBelow$Duel", "bestAgainst", "(II)I"⟩, ⟨"SugarBelow$Duel", "couldHaveMore", "(III)Z"⟩, ⟨"SugarBelow$Duel", "isRest", "(II)Z"⟩, ⟨"SugarBelow$Duel", "countRests", "()I"⟩, ⟨"SugarBelow$Duel", "findRest", "(I)I"⟩, ⟨"SugarBelow$Duel", "fight", "(III)V"⟩, ⟨"SugarBelow$Duel", "takesTurn", "(I)Z"⟩, ⟨"SugarBelow$Goods", "<init>", "()V"⟩, ⟨"SugarBelow$Goods", "copy", "(LSugarBelow$Goods;)V"⟩, ⟨"SugarBelow$Goods", "addThing", "(III)I"⟩, ⟨"SugarBelow$Goods", "addStep", "(II)I"⟩, ⟨"SugarBelow$Goods", "lastPrice", "(I)I"⟩, ⟨"SugarBelow$Goods", "priceNow", "(II)I"⟩, ⟨"SugarBelow$Goods", "priceOrNone", "(I)I"⟩, ⟨"SugarBelow$Goods", "rowCount", "()I"⟩, ⟨"SugarBelow$Goods", "rowOf", "(I)I"⟩, ⟨"SugarBelow$Goods", "putRow", "(II)V"⟩, ⟨"SugarBelow$Goods", "isBelow", "(II)Z"⟩, ⟨"SugarBelow$Goods", "belowCost", "(I)I"⟩, ⟨"SugarBelow$Goods", "isLawful", "(II)Z"⟩, ⟨"SugarBelow$Goods", "hasLawfulRow", "(I)Z"⟩, ⟨"SugarBelow$Pad", "<init>", "()V"⟩, ⟨"SugarBelow$Pad", "put", "(I)I"⟩, ⟨"SugarBelow$Pad", "clear", "()I"⟩, ⟨"SugarBelow$Pad", "read", "()I"⟩, ⟨"SugarBelow$Pad", "writeTo", "(LSugarBelow$People;I)V"⟩, ⟨"SugarBelow$Pad", "mayEnd", "(I)Z"⟩, ⟨"SugarBelow$Pad", "isDigit", "(I)Z"⟩, ⟨"SugarBelow$Pad", "take", "(II)I"⟩, ⟨"SugarBelow$Pad", "takeLetter", "(I)I"⟩, ⟨"SugarBelow$Pad", "takeMany", "(I)I"⟩, ⟨"SugarBelow$Pad", "addDigit", "([IIII)I"⟩, ⟨"SugarBelow$Pad", "takeMark", "(IZ)I"⟩, ⟨"SugarBelow$People", "<init>", "()V"⟩, ⟨"SugarBelow$People", "copy", "(LSugarBelow$People;)V"⟩, ⟨"SugarBelow$People", "addSort", "(IIII)I"⟩, ⟨"SugarBelow$Prices", "<init>", "(LSugarBelow$Goods;LSugarBelow$People;LSugarBelow$Walks;)V"⟩, ⟨"SugarBelow$Prices", "bestRow", "(II)I"⟩, ⟨"SugarBelow$Prices", "climbedRow", "(II)I"⟩, ⟨"SugarBelow$Prices", "moveThing", "(III)Z"⟩, ⟨"SugarBelow$Prices", "boundOf", "(II)I"⟩, ⟨"SugarBelow$Prices", "raiseAlone", "(IZ)V"⟩, ⟨"SugarBelow$Prices", "headFor", "(II)I"⟩, ⟨"SugarBelow$Prices", "leftWithHead", "(III)I"⟩, ⟨"SugarBelow$Prices", "windowFor", "(II)I"⟩, ⟨"SugarBelow$Prices", "leftWithWindow", "(II)I"⟩, ⟨"SugarBelow$Prices", "edgeOf", "(III)I"⟩, ⟨"SugarBelow$Prices", "turnsBest", "(IIIII)Z"⟩, ⟨"SugarBelow$Till", "<init>", "()V"⟩, ⟨"SugarBelow$Till", "copy", "(LSugarBelow$Till;)V"⟩, ⟨"SugarBelow$Till", "put", "(I)I"⟩, ⟨"SugarBelow$Till", "clear", "()I"⟩, ⟨"SugarBelow$Till", "countWith", "(I)I"⟩, ⟨"SugarBelow$Till", "odds", "(III)J"⟩, ⟨"SugarBelow$Till", "choose", "(II)J"⟩, ⟨"SugarBelow$Till", "commonDivisor", "(JJ)J"⟩, ⟨"SugarBelow$Town", "<init>", "()V"⟩, ⟨"SugarBelow$Town", "copy", "(LSugarBelow$Town;)V"⟩, ⟨"SugarBelow$Walks", "<init>", "(LSugarBelow$Goods;LSugarBelow$People;)V"⟩, ⟨"SugarBelow$Walks", "learn", "()V"⟩, ⟨"SugarBelow$Walks", "learnThing", "(II)V"⟩, ⟨"SugarBelow$Walks", "takenFor", "(IIII)I"⟩, ⟨"SugarBelow$Walks", "wantedAt", "(IIIII)I"⟩, ⟨"SugarBelow$Walks", "gainAt", "(IIIII)I"⟩, ⟨"SugarBelow$Walks", "thoughtOf", "(II)I"⟩, ⟨"SugarBelow$Walks", "thoughtOfBoth", "(I)I"⟩, ⟨"SugarBelow$Walks", "freeGain", "(III)I"⟩, ⟨"SugarBelow$Walks", "cell", "(III)I"⟩, ⟨"SugarBelow$Walks", "placeOf", "(I)I"⟩, ⟨"SugarBelow$Walks", "visits", "(II)Z"⟩, ⟨"SugarBelow$Walks", "send", "(I)I"⟩, ⟨"SugarBelow$Walks", "brought", "(II)I"⟩, ⟨"SugarBelow$Walks", "tally", "()V"⟩, ⟨"SugarBelow$Walks", "leftOf", "(I)I"⟩, ⟨"SugarBelow$Walks", "savedBy", "(I)I"⟩, ⟨"SugarBelow$Walks", "gained", "(II)I"⟩, ⟨"SugarBelow$Walks", "buysBelowAlone", "(II)Z"⟩, ⟨"SugarBelow$Weeks", "<init>", "(LSugarBelow$Goods;LSugarBelow$People;)V"⟩, ⟨"SugarBelow$Weeks", "live", "(IIIII)V"⟩, ⟨"SugarBelow$Weeks", "needCheaply", "(IIZ)I"⟩, ⟨"SugarBelow$Weeks", "needDearly", "(I)I"⟩, ⟨"SugarBelow", "<init>", "()V"⟩, ⟨"SugarBelow", "thing", "(III)I"⟩, ⟨"SugarBelow", "step", "(II)I"⟩, ⟨"SugarBelow", "set", "(IIII)I"⟩, ⟨"SugarBelow", "show", "(II)I"⟩, ⟨"SugarBelow", "sort", "(IIII)I"⟩, ⟨"SugarBelow", "change", "(III)I"⟩, ⟨"SugarBelow", "say", "(I)I"⟩, ⟨"SugarBelow", "wipe", "()I"⟩, ⟨"SugarBelow", "fault", "()I"⟩, ⟨"SugarBelow", "list", "(I)I"⟩, ⟨"SugarBelow", "item", "(III)I"⟩, ⟨"SugarBelow", "law", "(I)I"⟩, ⟨"SugarBelow", "thinks", "(II)J"⟩, ⟨"SugarBelow", "goes", "(I)I"⟩, ⟨"SugarBelow", "buys", "(III)I"⟩, ⟨"SugarBelow", "saves", "(I)J"⟩, ⟨"SugarBelow", "left", "(I)J"⟩, ⟨"SugarBelow", "row", "(I)I"⟩, ⟨"SugarBelow", "best", "(I)I"⟩, ⟨"SugarBelow", "most", "(II)J"⟩, ⟨"SugarBelow", "climb", "(I)I"⟩, ⟨"SugarBelow", "lures", "(I)I"⟩, ⟨"SugarBelow", "brings", "(II)J"⟩, ⟨"SugarBelow", "only", "(I)I"⟩, ⟨"SugarBelow", "rest", "(I)I"⟩, ⟨"SugarBelow", "ring", "(II)I"⟩, ⟨"SugarBelow", "heads", "(II)I"⟩, ⟨"SugarBelow", "shown", "(II)I"⟩, ⟨"SugarBelow", "hurt", "()I"⟩, ⟨"SugarBelow", "home", "(IIIIII)J"⟩, ⟨"SugarBelow", "slip", "(I)I"⟩, ⟨"SugarBelow", "burn", "()I"⟩, ⟨"SugarBelow", "with", "(II)I"⟩, ⟨"SugarBelow", "chance", "(III)J"⟩, ⟨"SugarBelow", "edge", "(II)I"⟩, ⟨"SugarBelow", "image", "(I)I"⟩, ⟨"SugarBelow", "restore", "(I)I"⟩, ⟨"SugarBelow", "told", "(I)I"⟩, ⟨"SugarBelow", "isOut", "(III)Z"⟩, ⟨"SugarBelow", "noShop", "(I)Z"⟩, ⟨"SugarBelow", "noLetter", "(I)Z"⟩, ⟨"SugarBelow", "noThing", "(I)Z"⟩, ⟨"SugarBelow", "noSort", "(I)Z"⟩, ⟨"SugarBelow", "forbidsAll", "(II)Z"⟩, ⟨"SugarBelow", "exchange", "([III)I"⟩, ⟨"SugarBelow", "lookAsItIs", "()V"⟩, ⟨"SugarBelowModel", "<init>", "()V"⟩, ⟨"SugarBelowModel", "in", "(JJJ)Z"⟩, ⟨"SugarBelowModel", "ones", "(I)I"⟩, ⟨"SugarBelowModel", "isShop", "(I)Z"⟩, ⟨"SugarBelowModel", "isThing", "(I)Z"⟩, ⟨"SugarBelowModel", "isLetter", "(I)Z"⟩, ⟨"SugarBelowModel", "isPrice", "(I)Z"⟩, ⟨"SugarBelowModel", "thing", "(III)I"⟩, ⟨"SugarBelowModel", "step", "(II)I"⟩, ⟨"SugarBelowModel", "set", "(IIII)I"⟩, ⟨"SugarBelowModel", "show", "(II)I"⟩, ⟨"SugarBelowModel", "priceOf", "(II)I"⟩, ⟨"SugarBelowModel", "isBelow", "(II)Z"⟩, ⟨"SugarBelowModel", "isSort", "(I)Z"⟩, ⟨"SugarBelowModel", "clearList", "(I)V"⟩, ⟨"SugarBelowModel", "sort", "(IIII)I"⟩, ⟨"SugarBelowModel", "change", "(III)I"⟩, ⟨"SugarBelowModel", "say", "(I)I"⟩, ⟨"SugarBelowModel", "wipe", "()I"⟩, ⟨"SugarBelowModel", "stepOf", "(II)I"⟩, ⟨"SugarBelowModel", "fault", "()I"⟩, ⟨"SugarBelowModel", "list", "(I)I"⟩, ⟨"SugarBelowModel", "item", "(III)I"⟩, ⟨"SugarBelowModel", "law", "(I)I"⟩, ⟨"SugarBelowModel", "takenFor", "(III)I"⟩, ⟨"SugarBelowModel", "wanted", "(IIII)I"⟩, ⟨"SugarBelowModel", "gain", "(IIII)I"⟩, ⟨"SugarBelowModel", "thoughtGain", "(III)I"⟩, ⟨"SugarBelowModel", "thinksOf", "(II)I"⟩, ⟨"SugarBelowModel", "shopOf", "(II)I"⟩, ⟨"SugarBelowModel", "thinksBoth", "(I)I"⟩, ⟨"SugarBelowModel", "thinks", "(II)J"⟩, ⟨"SugarBelowModel", "goesTo", "(I)I"⟩, ⟨"SugarBelowModel", "goes", "(I)I"⟩, ⟨"SugarBelowModel", "bought", "(IIII)I"⟩, ⟨"SugarBelowModel", "buys", "(III)I"⟩, ⟨"SugarBelowModel", "savesOf", "(I)I"⟩, ⟨"SugarBelowModel", "saves", "(I)J"⟩, ⟨"SugarBelowModel", "broughtBy", "(II)I"⟩, ⟨"SugarBelowModel", "leftOf", "(I)I"⟩, ⟨"SugarBelowModel", "left", "(I)J"⟩, ⟨"SugarBelowModel", "rowOf", "(I)I"⟩, ⟨"SugarBelowModel", "rows", "()I"⟩, ⟨"SugarBelowModel", "lay", "(II)V"⟩, ⟨"SugarBelowModel", "row", "(I)I"⟩, ⟨"SugarBelowModel", "isAllowed", "(I)Z"⟩, ⟨"SugarBelowModel", "bestOf", "(I)I"⟩, ⟨"SugarBelowModel", "best", "(I)I"⟩, ⟨"SugarBelowModel", "climbUp", "(I)V"⟩, ⟨"SugarBelowModel", "climb", "(I)I"⟩, ⟨"SugarBelowModel", "boundOf", "(I)J"⟩, ⟨"SugarBelowModel", "most", "(II)J"⟩, ⟨"SugarBelowModel", "lures", "(I)I"⟩, ⟨"SugarBelowModel", "brings", "(II)J"⟩, ⟨"SugarBelowModel", "only", "(I)I"⟩, ⟨"SugarBelowModel", "at", "(III)I"⟩, ⟨"SugarBelowModel", "findBoth", "()Z"⟩, ⟨"SugarBelowModel", "isRest", "(III)Z"⟩, ⟨"SugarBelowModel", "rest", "(I)I"⟩, ⟨"SugarBelowModel", "goRound", "(I)Z"⟩, ⟨"SugarBelowModel", "ring", "(II)I"⟩, ⟨"SugarBelowModel", "heads", "(II)I"⟩, ⟨"SugarBelowModel", "shown", "(II)I"⟩, ⟨"SugarBelowModel", "hurt", "()I"⟩, ⟨"SugarBelowModel", "home", "(IIIIII)J"⟩, ⟨"SugarBelowModel", "slip", "(I)I"⟩, ⟨"SugarBelowModel", "burn", "()I"⟩, ⟨"SugarBelowModel", "withBoth", "(II)I"⟩, ⟨"SugarBelowModel", "with", "(II)I"⟩, ⟨"SugarBelowModel", "choose", "(II)J"⟩, ⟨"SugarBelowModel", "chance", "(III)J"⟩, ⟨"SugarBelowModel", "edge", "(II)I"⟩, ⟨"SugarBelowModel", "pass", "(I)I"⟩, ⟨"SugarBelowModel", "passAll", "()V"⟩, ⟨"SugarBelowModel", "image", "(I)I"⟩, ⟨"SugarBelowModel", "restore", "(I)I"⟩, ⟨"SugarBelowModel", "told", "(I)I"⟩, ⟨"java/lang/Integer", "bitCount", "(I)I"⟩, ⟨"java/util/Arrays", "fill", "([II)V"⟩, ⟨"SugarBelowLaw", "law", "([I)Z"⟩]
def zmn (y : Nat) : MethodName := zmns.getD y ⟨"", "", ""⟩
def zmbs : List ByteArray := [prog_2_method_1_code, prog_2_method_2_code, prog_2_method_3_code, prog_2_method_4_code, prog_2_method_5_code, prog_2_method_6_code, prog_2_method_7_code, prog_2_method_8_code, prog_2_method_9_code, prog_2_method_10_code, prog_2_method_11_code, prog_2_method_12_code, prog_3_method_1_code, prog_3_method_2_code, prog_3_method_3_code, prog_3_method_4_code, prog_3_method_5_code, prog_3_method_6_code, prog_3_method_7_code, prog_3_method_8_code, prog_3_method_9_code, prog_3_method_10_code, prog_3_method_11_code, prog_3_method_12_code, prog_3_method_13_code, prog_3_method_14_code, prog_4_method_1_code, prog_4_method_2_code, prog_4_method_3_code, prog_4_method_4_code, prog_4_method_5_code, prog_4_method_6_code, prog_4_method_7_code, prog_4_method_8_code, prog_4_method_9_code, prog_4_method_10_code, prog_4_method_11_code, prog_4_method_12_code, prog_5_method_1_code, prog_5_method_2_code, prog_5_method_3_code, prog_6_method_1_code, prog_6_method_2_code, prog_6_method_3_code, prog_6_method_4_code, prog_6_method_5_code, prog_6_method_6_code, prog_6_method_7_code, prog_6_method_8_code, prog_6_method_9_code, prog_6_method_10_code, prog_6_method_11_code, prog_6_method_12_code, prog_7_method_1_code, prog_7_method_2_code, prog_7_method_3_code, prog_7_method_4_code, prog_7_method_5_code, prog_7_method_6_code, prog_7_method_7_code, prog_7_method_8_code, prog_8_method_1_code, prog_8_method_2_code, prog_9_method_1_code, prog_9_method_2_code, prog_9_method_3_code, prog_9_method_4_code, prog_9_method_5_code, prog_9_method_6_code, prog_9_method_7_code, prog_9_method_8_code, prog_9_method_9_code, prog_9_method_10_code, prog_9_method_11_code, prog_9_method_12_code, prog_9_method_13_code, prog_9_method_14_code, prog_9_method_15_code, prog_9_method_16_code, prog_9_method_17_code, prog_9_method_18_code, prog_9_method_19_code, prog_10_method_1_code, prog_10_method_2_code, prog_10_method_3_code, prog_10_method_4_code, prog_1_method_1_code, prog_1_method_2_code, prog_1_method_3_code, prog_1_method_4_code, prog_1_method_5_code, prog_1_method_6_code, prog_1_method_7_code, prog_1_method_8_code, prog_1_method_9_code, prog_1_method_10_code, prog_1_method_11_code, prog_1_method_12_code, prog_1_method_13_code, prog_1_method_14_code, prog_1_method_15_code, prog_1_method_16_code, prog_1_method_17_code, prog_1_method_18_code, prog_1_method_19_code, prog_1_method_20_code, prog_1_method_21_code, prog_1_method_22_code, prog_1_method_23_code, prog_1_method_24_code, prog_1_method_25_code, prog_1_method_26_code, prog_1_method_27_code, prog_1_method_28_code, prog_1_method_29_code, prog_1_method_30_code, prog_1_method_31_code, prog_1_method_32_code, prog_1_method_33_code, prog_1_method_34_code, prog_1_method_35_code, prog_1_method_36_code, prog_1_method_37_code, prog_1_method_38_code, prog_1_method_39_code, prog_1_method_40_code, prog_1_method_41_code, prog_1_method_42_code, prog_1_method_43_code, prog_1_method_44_code, prog_1_method_45_code, prog_1_method_46_code, prog_1_method_47_code, prog_12_method_1_code, prog_12_method_3_code, prog_12_method_4_code, prog_12_method_5_code, prog_12_method_6_code, prog_12_method_7_code, prog_12_method_8_code, prog_12_method_9_code, prog_12_method_10_code, prog_12_method_11_code, prog_12_method_12_code, prog_12_method_13_code, prog_12_method_14_code, prog_12_method_15_code, prog_12_method_16_code, prog_12_method_17_code, prog_12_method_18_code, prog_12_method_19_code, prog_12_method_20_code, prog_12_method_21_code, prog_12_method_22_code, prog_12_method_23_code, prog_12_method_24_code, prog_12_method_25_code, prog_12_method_26_code, prog_12_method_27_code, prog_12_method_28_code, prog_12_method_29_code, prog_12_method_30_code, prog_12_method_31_code, prog_12_method_32_code, prog_12_method_33_code, prog_12_method_34_code, prog_12_method_35_code, prog_12_method_36_code, prog_12_method_37_code, prog_12_method_38_code, prog_12_method_39_code, prog_12_method_40_code, prog_12_method_41_code, prog_12_method_42_code, prog_12_method_43_code, prog_12_method_44_code, prog_12_method_45_code, prog_12_method_46_code, prog_12_method_47_code, prog_12_method_48_code, prog_12_method_49_code, prog_12_method_50_code, prog_12_method_51_code, prog_12_method_52_code, prog_12_method_53_code, prog_12_method_54_code, prog_12_method_55_code, prog_12_method_56_code, prog_12_method_57_code, prog_12_method_58_code, prog_12_method_59_code, prog_12_method_60_code, prog_12_method_61_code, prog_12_method_62_code, prog_12_method_63_code, prog_12_method_64_code, prog_12_method_65_code, prog_12_method_66_code, prog_12_method_67_code, prog_12_method_68_code, prog_12_method_69_code, prog_12_method_70_code, prog_12_method_71_code, prog_12_method_72_code, prog_12_method_73_code, prog_12_method_74_code, prog_12_method_75_code, prog_12_method_76_code, prog_12_method_77_code, prog_12_method_78_code, prog_13_method_49_code, prog_16_method_103_code, code]
def zmb (y : Nat) : ByteArray := zmbs.getD y ⟨#[]⟩
def zmrs : List (Option FieldType) := [none, none, none, none, some .int, some .int, some .boolean, some .boolean, some .int, some .int, none, some .boolean, none, none, some .int, some .int, some .int, some .int, some .int, some .int, some .int, none, some .boolean, some .int, some .boolean, some .boolean, none, some .int, some .int, some .int, none, some .boolean, some .boolean, some .int, some .int, some .int, some .int, some .int, none, none, some .int, none, some .int, some .int, some .boolean, some .int, none, some .int, some .int, some .int, some .int, some .int, some .boolean, none, none, some .int, some .int, some .int, some .long, some .long, some .long, none, none, none, none, none, some .int, some .int, some .int, some .int, some .int, some .int, some .int, some .int, some .boolean, some .int, some .int, none, some .int, some .int, some .int, some .boolean, none, none, some .int, some .int, none, some .int, some .int, some .int, some .int, some .int, some .int, some .int, some .int, some .int, some .int, some .int, some .int, some .long, some .int, some .int, some .long, some .long, some .int, some .int, some .long, some .int, some .int, some .long, some .int, some .int, some .int, some .int, some .int, some .int, some .long, some .int, some .int, some .int, some .long, some .int, some .int, some .int, some .int, some .boolean, some .boolean, some .boolean, some .boolean, some .boolean, some .boolean, some .int, none, none, some .boolean, some .int, some .boolean, some .boolean, some .boolean, some .boolean, some .int, some .int, some .int, some .int, some .int, some .boolean, some .boolean, none, some .int, some .int, some .int, some .int, some .int, some .int, some .int, some .int, some .int, some .int, some .int, some .int, some .int, some .int, some .int, some .int, some .long, some .int, some .int, some .int, some .int, some .int, some .long, some .int, some .int, some .long, some .int, some .int, none, some .int, some .boolean, some .int, some .int, none, some .int, some .long, some .long, some .int, some .long, some .int, some .int, some .boolean, some .boolean, some .int, some .boolean, some .int, some .int, some .int, some .int, some .long, some .int, some .int, some .int, some .int, some .long, some .long, some .int, some .int, none, some .int, some .int, some .int, some .int, none, some .boolean]
def zmr (y : Nat) : Option FieldType := zmrs.getD y none
def zmos : List Nat := [0, 0, 0, 0, 0, 0, 0, 0, 0, 0, 0, 0, 1, 1, 1, 1, 1, 1, 1, 1, 1, 1, 1, 1, 1, 1, 2, 2, 2, 2, 2, 2, 2, 2, 2, 2, 2, 2, 3, 3, 3, 4, 4, 4, 4, 4, 4, 4, 4, 4, 4, 4, 4, 5, 5, 5, 5, 5, 5, 5, 5, 6, 6, 7, 7, 7, 7, 7, 7, 7, 7, 7, 7, 7, 7, 7, 7, 7, 7, 7, 7, 7, 8, 8, 8, 8, 9, 9, 9, 9, 9, 9, 9, 9, 9, 9, 9, 9, 9, 9, 9, 9, 9, 9, 9, 9, 9, 9, 9, 9, 9, 9, 9, 9, 9, 9, 9, 9, 9, 9, 9, 9, 9, 9, 9, 9, 9, 9, 9, 9, 9, 9, 9, 10, 10, 10, 10, 10, 10, 10, 10, 10, 10, 10, 10, 10, 10, 10, 10, 10, 10, 10, 10, 10, 10, 10, 10, 10, 10, 10, 10, 10, 10, 10, 10, 10, 10, 10, 10, 10, 10, 10, 10, 10, 10, 10, 10, 10, 10, 10, 10, 10, 10, 10, 10, 10, 10, 10, 10, 10, 10, 10, 10, 10, 10, 10, 10, 10, 10, 10, 10, 10, 10, 10, 10, 10, 10, 10, 10, 10, 12, 13, 11]
def zmo (y : Nat) : Nat := zmos.getD y 0
def zini (y : Nat) : Bool := (zmn y).name == "<init>"
def zmps : List Nat := [311, 416, 746, 751, 768, 764, 780, 776, 772, 784, 792, 797, 94, 553, 420, 436, 432, 586, 941, 672, 650, 676, 689, 685, 681, 662, 229, 475, 483, 491, 525, 517, 506, 495, 499, 503, 510, 514, 144, 922, 459, 292, 667, 710, 714, 699, 703, 805, 809, 818, 822, 904, 909, 197, 927, 861, 869, 877, 886, 890, 893, 88, 917, 262, 558, 562, 566, 574, 570, 593, 578, 582, 597, 605, 617, 613, 642, 756, 638, 625, 630, 737, 357, 841, 846, 850, 80, 409, 424, 440, 451, 455, 463, 471, 479, 487, 521, 532, 539, 543, 601, 609, 621, 634, 646, 654, 694, 720, 724, 729, 733, 742, 788, 801, 814, 833, 837, 857, 865, 873, 881, 900, 913, 932, 936, 412, 443, 535, 428, 467, 658, 447, 549, 946, 1061, 1310, 1076, 1069, 1137, 1057, 1054, 1065, 1073, 1082, 1163, 1247, 1099, 1091, 1087, 1095, 1105, 1111, 1119, 1115, 1129, 1134, 1141, 1159, 1171, 1167, 1155, 1151, 1179, 1175, 1145, 1187, 1183, 1195, 1191, 1203, 1199, 1215, 1211, 1207, 1223, 1235, 1239, 1219, 1243, 1231, 1227, 1255, 1251, 1264, 1259, 1268, 1272, 1276, 1287, 1284, 1291, 1280, 1299, 1295, 1303, 1307, 1314, 1318, 1324, 1328, 1336, 1332, 1344, 1340, 1348, 1360, 1356, 1352, 1364, 1368, 826, 759, 0]
/-- a word at its place -/
def zat (i : Nat) (w : Cond) : Bool := decide (lw_tbl[i]? = some w)
theorem zat_mem {i : Nat} {w : Cond} (h : zat i w = true) : w ∈ lw_tbl := List.mem_of_getElem? (of_decide_eq_true h)
def zFL_0 : List (Nat × Nat × Nat × Nat × Nat) := [(0, 9, 0, 2, 317), (0, 15, 0, 7, 323), (0, 18, 0, 8, 324), (0, 21, 0, 9, 325), (0, 25, 0, 10, 326), (0, 28, 0, 11, 327), (0, 31, 0, 3, 319), (0, 35, 0, 4, 320), (0, 39, 0, 6, 322), (0, 49, 0, 5, 321), (0, 72, 7, 6, 272), (0, 92, 0, 0, 313), (0, 95, 0, 1, 315), (1, 9, 1, 1, 100), (1, 15, 1, 2, 104), (1, 18, 1, 3, 107), (1, 21, 1, 4, 112), (1, 24, 1, 5, 116), (1, 27, 1, 6, 120), (1, 30, 1, 0, 96), (2, 9, 2, 3, 236), (2, 15, 2, 4, 237), (2, 18, 2, 5, 238), (2, 21, 2, 6, 239)]
def zFL_1 : List (Nat × Nat × Nat × Nat × Nat) := [(2, 24, 2, 0, 231), (2, 28, 2, 1, 233), (2, 31, 2, 2, 235), (2, 42, 3, 5, 164), (2, 51, 3, 6, 169), (2, 52, 3, 7, 174), (3, 9, 3, 1, 150), (3, 15, 3, 2, 153), (3, 18, 3, 3, 156), (3, 21, 3, 4, 159), (3, 24, 3, 5, 162), (3, 27, 3, 6, 167), (3, 30, 3, 7, 172), (3, 33, 3, 0, 146), (4, 9, 4, 3, 297), (4, 15, 4, 0, 294), (4, 19, 4, 1, 295), (4, 23, 4, 2, 296), (4, 50, 1, 0, 99), (4, 58, 1, 5, 117), (4, 61, 1, 1, 103), (4, 71, 3, 0, 148), (4, 92, 1, 4, 115), (4, 106, 1, 6, 123)]
def zFL_2 : List (Nat × Nat × Nat × Nat × Nat) := [(4, 112, 1, 3, 111), (5, 9, 5, 1, 201), (5, 15, 5, 0, 199), (6, 10, 6, 0, 207), (6, 19, 6, 1, 209), (6, 26, 6, 2, 211), (6, 40, 6, 3, 213), (7, 9, 7, 2, 266), (7, 15, 7, 3, 267), (7, 18, 7, 4, 268), (7, 21, 7, 5, 269), (7, 24, 7, 6, 271), (7, 27, 7, 0, 264), (7, 31, 7, 1, 265), (7, 35, 1, 0, 97), (7, 45, 3, 0, 147), (7, 50, 3, 3, 157), (7, 53, 1, 1, 102), (7, 56, 1, 2, 106), (7, 70, 3, 7, 173), (7, 73, 1, 6, 121), (7, 76, 3, 5, 165), (7, 79, 3, 6, 170), (7, 82, 1, 3, 110)]
def zFL_3 : List (Nat × Nat × Nat × Nat × Nat) := [(7, 85, 1, 4, 114), (7, 88, 3, 2, 154), (7, 107, 1, 5, 119), (7, 118, 3, 1, 152), (8, 9, 8, 3, 365), (8, 15, 8, 4, 366), (8, 19, 8, 0, 359), (8, 23, 8, 1, 361), (8, 26, 8, 2, 363), (8, 29, 1, 2, 105), (8, 39, 3, 6, 168), (8, 44, 3, 5, 163), (8, 47, 1, 3, 108), (8, 50, 3, 4, 160), (9, 12, 9, 0, 378), (9, 16, 9, 1, 379), (9, 20, 9, 2, 380), (9, 27, 9, 3, 381), (9, 34, 9, 4, 382), (9, 40, 6, 1, 210), (9, 47, 9, 5, 383), (9, 56, 9, 6, 384), (9, 65, 9, 7, 385), (9, 71, 6, 0, 208)]
def zFL_4 : List (Nat × Nat × Nat × Nat × Nat) := [(9, 75, 9, 8, 386), (9, 83, 1, 0, 98), (9, 102, 1, 1, 101), (9, 113, 1, 3, 109), (9, 120, 1, 4, 113), (9, 123, 1, 5, 118), (9, 126, 1, 6, 122), (9, 129, 3, 0, 149), (9, 141, 3, 1, 151), (9, 144, 3, 2, 155), (9, 147, 3, 3, 158), (9, 150, 3, 4, 161), (9, 153, 2, 0, 232), (9, 170, 2, 1, 234), (9, 176, 3, 5, 166), (9, 179, 3, 6, 171), (9, 182, 3, 7, 175), (9, 185, 6, 3, 214), (9, 207, 7, 5, 270), (9, 258, 0, 0, 314), (9, 261, 0, 1, 316), (9, 264, 0, 2, 318), (9, 277, 8, 0, 360), (9, 278, 8, 1, 362)]
def zFL_5 : List (Nat × Nat × Nat × Nat × Nat) := [(9, 281, 8, 2, 364), (9, 284, 6, 2, 212), (9, 288, 5, 0, 200), (10, 7, 10, 0, 948), (10, 13, 10, 1, 949), (10, 16, 10, 2, 950), (10, 19, 10, 3, 951), (10, 22, 10, 4, 952), (10, 25, 10, 5, 953), (10, 28, 10, 7, 955), (10, 31, 10, 8, 956), (10, 34, 10, 9, 957), (10, 37, 10, 10, 958), (10, 40, 10, 11, 959), (10, 43, 10, 12, 960), (10, 46, 10, 13, 961), (10, 49, 10, 15, 963), (10, 52, 10, 20, 968), (10, 55, 10, 21, 969), (10, 58, 10, 22, 970), (10, 62, 10, 23, 971), (10, 65, 10, 28, 976), (10, 68, 10, 30, 978), (10, 71, 10, 31, 979)]
def zFL_6 : List (Nat × Nat × Nat × Nat × Nat) := [(10, 78, 10, 6, 954), (10, 104, 10, 14, 962), (10, 122, 10, 16, 964), (10, 133, 10, 17, 965), (10, 150, 10, 18, 966), (10, 213, 10, 19, 967), (10, 239, 10, 24, 972), (10, 242, 10, 25, 973), (10, 245, 10, 26, 974), (10, 248, 10, 27, 975), (10, 261, 10, 29, 977), (10, 273, 10, 33, 981), (10, 277, 10, 32, 980)]
def zFL : List (Nat × Nat × Nat × Nat × Nat) := zFL_0 ++ (zFL_1 ++ (zFL_2 ++ (zFL_3 ++ (zFL_4 ++ (zFL_5 ++ (zFL_6))))))
def zflb (q : Nat × Nat × Nat × Nat × Nat) : Bool := match q with
  | (o, i, a, b, p) => match zcl[a]? with
    | some r => Nat.blt b r.2.2 && zat p (.fieldLink (zown o) i (r.2.1 b).1 (r.2.1 b).2.1 (r.2.1 b).2.2.1) && decide ((r.2.1 b).1 = r.1)
    | none => false
set_option maxRecDepth 100000 in
theorem zFL_k0 : zFL_0.all zflb = true := by decide +kernel
set_option maxRecDepth 100000 in
theorem zFL_k1 : zFL_1.all zflb = true := by decide +kernel
set_option maxRecDepth 100000 in
theorem zFL_k2 : zFL_2.all zflb = true := by decide +kernel
set_option maxRecDepth 100000 in
theorem zFL_k3 : zFL_3.all zflb = true := by decide +kernel
set_option maxRecDepth 100000 in
theorem zFL_k4 : zFL_4.all zflb = true := by decide +kernel
set_option maxRecDepth 100000 in
theorem zFL_k5 : zFL_5.all zflb = true := by decide +kernel
set_option maxRecDepth 100000 in
theorem zFL_k6 : zFL_6.all zflb = true := by decide +kernel
theorem zFL_ok : zFL.all zflb = true := by
  simp only [zFL, List.all_append, zFL_k0, zFL_k1, zFL_k2, zFL_k3, zFL_k4, zFL_k5, zFL_k6, Bool.and_self]
def zML_0 : List (Nat × Nat × Nat × Nat × Nat × Nat × Nat × Nat × Nat × Nat) := [(0, 3, 3, 0, 0, 0, 312, 82, 83, 0), (0, 43, 0, 19, 0, 1, 747, 670, 671, 63), (0, 52, 0, 3, 0, 0, 748, 750, 18, 69), (0, 55, 0, 21, 2, 1, 752, 674, 675, 63), (0, 59, 0, 24, 2, 1, 760, 679, 680, 63), (0, 63, 0, 5, 2, 0, 761, 763, 19, 69), (0, 67, 0, 77, 0, 7, 753, 754, 755, 67), (0, 75, 0, 4, 3, 0, 765, 767, 20, 69), (0, 79, 0, 6, 3, 0, 777, 779, 22, 69), (0, 83, 0, 7, 2, 0, 773, 775, 21, 69), (0, 86, 1, 211, 2, 0, 793, 758, 0, 74), (0, 98, 0, 11, 1, 0, 794, 796, 23, 69), (1, 3, 3, 0, 0, 0, 95, 82, 83, 0), (1, 34, 4, 0, 5, 1, 554, 528, 527, 72), (1, 40, 5, 0, 2, 2, 677, 588, 589, 73), (1, 46, 0, 22, 2, 1, 686, 687, 688, 63), (1, 50, 0, 23, 1, 1, 682, 683, 684, 63), (1, 54, 0, 16, 1, 1, 663, 430, 431, 63), (2, 3, 3, 0, 0, 0, 230, 82, 83, 0), (2, 34, 0, 33, 2, 2, 492, 494, 3, 66), (2, 38, 1, 31, 1, 0, 515, 516, 0, 66), (2, 45, 4, 0, 5, 1, 526, 528, 527, 72), (2, 53, 0, 34, 1, 2, 496, 498, 4, 66), (2, 57, 0, 35, 1, 2, 500, 502, 5, 66)]
def zML_1 : List (Nat × Nat × Nat × Nat × Nat × Nat × Nat × Nat × Nat × Nat) := [(2, 60, 1, 32, 1, 0, 504, 505, 0, 66), (2, 63, 0, 36, 4, 2, 507, 509, 6, 66), (2, 67, 0, 37, 2, 2, 511, 513, 7, 66), (3, 3, 3, 0, 0, 0, 145, 82, 83, 0), (3, 37, 4, 0, 5, 1, 923, 528, 527, 72), (4, 3, 3, 0, 0, 0, 293, 82, 83, 0), (4, 27, 0, 20, 1, 1, 668, 648, 649, 63), (4, 33, 0, 19, 0, 1, 669, 670, 671, 63), (4, 37, 0, 21, 2, 1, 673, 674, 675, 63), (4, 41, 0, 24, 2, 1, 678, 679, 680, 63), (4, 45, 0, 78, 1, 7, 690, 636, 637, 67), (4, 54, 0, 44, 3, 4, 711, 713, 17, 68), (4, 64, 0, 22, 2, 1, 715, 687, 688, 63), (4, 67, 0, 46, 2, 4, 700, 702, 16, 68), (4, 76, 0, 75, 1, 7, 704, 611, 612, 67), (4, 79, 0, 76, 2, 7, 705, 640, 641, 67), (4, 83, 5, 0, 2, 2, 706, 588, 589, 73), (4, 88, 0, 48, 3, 4, 806, 808, 24, 68), (4, 95, 0, 65, 2, 7, 810, 560, 561, 67), (4, 98, 0, 50, 2, 4, 819, 821, 25, 68), (4, 101, 1, 210, 1, 0, 824, 825, 0, 75), (4, 109, 0, 64, 0, 7, 823, 556, 557, 67), (4, 115, 0, 42, 2, 4, 905, 665, 666, 68), (4, 118, 0, 52, 5, 4, 906, 908, 28, 68)]
def zML_2 : List (Nat × Nat × Nat × Nat × Nat × Nat × Nat × Nat × Nat × Nat) := [(5, 3, 3, 0, 0, 0, 198, 82, 83, 0), (5, 19, 4, 0, 5, 1, 928, 528, 527, 72), (5, 25, 0, 57, 1, 5, 887, 875, 876, 65), (5, 29, 1, 59, 2, 0, 888, 889, 0, 65), (5, 33, 1, 60, 2, 0, 891, 892, 0, 65), (5, 37, 6, 0, 2, 3, 894, 895, 896, 73), (6, 1, 3, 0, 0, 0, 89, 82, 83, 0), (6, 9, 2, 12, 0, 2, 92, 93, 0, 63), (6, 18, 2, 38, 0, 2, 142, 143, 0, 64), (6, 25, 2, 53, 0, 2, 195, 196, 0, 65), (6, 30, 0, 13, 1, 1, 918, 551, 552, 63), (6, 34, 0, 39, 1, 3, 919, 920, 921, 64), (6, 37, 0, 54, 1, 5, 924, 925, 926, 65), (7, 3, 3, 0, 0, 0, 263, 82, 83, 0), (7, 41, 0, 65, 2, 7, 559, 560, 561, 67), (7, 59, 0, 66, 4, 7, 563, 565, 9, 67), (7, 63, 0, 68, 5, 7, 567, 569, 10, 67), (7, 67, 0, 67, 5, 7, 571, 573, 11, 67), (7, 91, 0, 72, 3, 7, 594, 596, 13, 67), (7, 95, 0, 71, 3, 7, 579, 581, 12, 67), (7, 98, 5, 0, 2, 2, 587, 588, 589, 73), (7, 104, 0, 17, 2, 1, 583, 584, 585, 63), (7, 110, 0, 73, 1, 7, 614, 603, 604, 67), (7, 114, 1, 74, 2, 0, 615, 616, 0, 67)]
def zML_3 : List (Nat × Nat × Nat × Nat × Nat × Nat × Nat × Nat × Nat × Nat) := [(7, 121, 1, 211, 2, 0, 757, 758, 0, 74), (7, 127, 0, 75, 1, 7, 626, 611, 612, 67), (7, 130, 0, 76, 2, 7, 639, 640, 641, 67), (7, 133, 0, 80, 2, 7, 627, 629, 14, 67), (7, 136, 0, 22, 2, 1, 738, 687, 688, 63), (8, 3, 3, 0, 0, 0, 358, 82, 83, 0), (8, 35, 0, 16, 1, 1, 842, 430, 431, 63), (8, 53, 0, 84, 3, 8, 843, 845, 26, 70), (8, 57, 0, 85, 1, 8, 847, 849, 27, 70), (8, 60, 7, 0, 2, 4, 851, 852, 853, 73), (9, 3, 3, 0, 0, 0, 81, 82, 83, 0), (9, 11, 2, 61, 0, 2, 86, 87, 0, 62), (9, 26, 2, 26, 0, 2, 227, 228, 0, 66), (9, 33, 2, 12, 0, 2, 257, 93, 0, 63), (9, 44, 2, 63, 2, 1, 260, 261, 0, 67), (9, 53, 2, 41, 3, 1, 290, 291, 0, 68), (9, 62, 2, 0, 2, 1, 309, 310, 0, 69), (9, 74, 2, 82, 2, 1, 355, 356, 0, 70), (9, 79, 1, 125, 3, 0, 410, 411, 0, 61), (9, 87, 0, 1, 0, 0, 413, 414, 415, 69), (9, 90, 0, 14, 3, 1, 417, 418, 419, 63), (9, 94, 0, 128, 1, 9, 425, 427, 0, 61), (9, 98, 0, 16, 1, 1, 429, 430, 431, 63), (9, 106, 0, 15, 2, 1, 433, 434, 435, 63)]
def zML_4 : List (Nat × Nat × Nat × Nat × Nat × Nat × Nat × Nat × Nat × Nat) := [(9, 110, 1, 126, 1, 0, 441, 442, 0, 61), (9, 116, 0, 131, 3, 9, 444, 446, 1, 61), (9, 134, 0, 40, 4, 3, 456, 457, 458, 64), (9, 138, 0, 129, 1, 9, 464, 466, 2, 61), (9, 156, 0, 27, 1, 2, 472, 473, 474, 66), (9, 159, 0, 28, 0, 2, 480, 481, 482, 66), (9, 163, 0, 29, 0, 2, 488, 489, 490, 66), (9, 166, 0, 30, 2, 2, 522, 523, 524, 66), (9, 173, 1, 127, 1, 0, 533, 534, 0, 61), (9, 192, 0, 132, 0, 9, 546, 548, 8, 61), (9, 195, 0, 70, 1, 7, 575, 576, 577, 67), (9, 198, 0, 69, 2, 7, 590, 591, 592, 67), (9, 201, 0, 73, 1, 7, 602, 603, 604, 67), (9, 204, 0, 75, 1, 7, 610, 611, 612, 67), (9, 210, 0, 79, 1, 7, 622, 623, 624, 67), (9, 213, 0, 78, 1, 7, 635, 636, 637, 67), (9, 216, 0, 20, 1, 1, 647, 648, 649, 63), (9, 219, 0, 130, 2, 9, 655, 657, 15, 61), (9, 223, 0, 42, 2, 4, 664, 665, 666, 68), (9, 228, 0, 45, 2, 4, 696, 697, 698, 68), (9, 231, 0, 43, 2, 4, 707, 708, 709, 68), (9, 234, 0, 21, 2, 1, 716, 674, 675, 63), (9, 238, 0, 23, 1, 1, 725, 683, 684, 63), (9, 241, 0, 81, 2, 7, 734, 735, 736, 67)]
def zML_5 : List (Nat × Nat × Nat × Nat × Nat × Nat × Nat × Nat × Nat × Nat) := [(9, 244, 0, 2, 1, 0, 743, 744, 745, 69), (9, 248, 0, 8, 0, 0, 769, 770, 771, 69), (9, 251, 0, 9, 1, 0, 781, 782, 783, 69), (9, 254, 0, 10, 3, 0, 789, 790, 791, 69), (9, 267, 0, 47, 2, 4, 802, 803, 804, 68), (9, 270, 0, 49, 2, 4, 815, 816, 817, 68), (9, 273, 0, 83, 5, 8, 838, 839, 840, 70), (9, 293, 0, 55, 1, 5, 858, 859, 860, 65), (9, 294, 0, 56, 0, 5, 866, 867, 868, 65), (9, 295, 0, 57, 1, 5, 874, 875, 876, 65), (9, 300, 0, 58, 3, 5, 883, 884, 885, 65), (9, 304, 0, 51, 3, 4, 901, 902, 903, 68), (9, 307, 0, 62, 1, 6, 914, 915, 916, 62), (9, 311, 0, 19, 0, 1, 937, 670, 671, 63), (9, 314, 0, 18, 1, 1, 938, 939, 940, 63), (9, 317, 0, 25, 1, 1, 659, 660, 661, 63), (9, 320, 0, 13, 1, 1, 550, 551, 552, 63), (9, 323, 0, 64, 0, 7, 555, 556, 557, 67), (10, 1, 3, 0, 0, 0, 947, 82, 83, 0), (10, 74, 1, 134, 3, 0, 1059, 1060, 0, 71), (10, 86, 1, 139, 1, 0, 1055, 1056, 0, 71), (10, 90, 0, 137, 1, 10, 1066, 1068, 29, 71), (10, 93, 1, 136, 1, 0, 1074, 1075, 0, 71), (10, 100, 0, 144, 2, 10, 1160, 1162, 36, 71)]
def zML_6 : List (Nat × Nat × Nat × Nat × Nat × Nat × Nat × Nat × Nat × Nat) := [(10, 107, 0, 147, 1, 10, 1088, 1090, 30, 71), (10, 111, 0, 146, 1, 10, 1096, 1098, 31, 71), (10, 140, 0, 152, 2, 10, 1116, 1118, 32, 71), (10, 143, 0, 153, 0, 10, 1130, 1113, 1114, 71), (10, 147, 1, 138, 1, 0, 1135, 1136, 0, 71), (10, 153, 0, 158, 4, 10, 1168, 1170, 38, 71), (10, 157, 0, 157, 3, 10, 1156, 1158, 35, 71), (10, 161, 0, 159, 4, 10, 1164, 1166, 37, 71), (10, 164, 0, 160, 3, 10, 1152, 1154, 34, 71), (10, 167, 0, 162, 2, 10, 1176, 1178, 40, 71), (10, 174, 0, 161, 2, 10, 1148, 1150, 33, 71), (10, 177, 0, 163, 1, 10, 1172, 1174, 39, 71), (10, 181, 0, 165, 1, 10, 1184, 1186, 41, 71), (10, 184, 0, 167, 4, 10, 1192, 1194, 42, 71), (10, 187, 0, 169, 1, 10, 1200, 1202, 43, 71), (10, 190, 0, 171, 2, 10, 1212, 1214, 45, 71), (10, 193, 0, 172, 1, 10, 1208, 1210, 44, 71), (10, 196, 0, 174, 1, 10, 1220, 1222, 46, 71), (10, 199, 0, 145, 2, 10, 1244, 1246, 51, 71), (10, 203, 0, 175, 0, 10, 1232, 1234, 48, 71), (10, 206, 0, 176, 2, 10, 1236, 1238, 49, 71), (10, 210, 0, 178, 1, 10, 1240, 1242, 50, 71), (10, 216, 0, 179, 1, 10, 1228, 1230, 47, 71), (10, 219, 0, 181, 1, 10, 1252, 1254, 52, 71)]
def zML_7 : List (Nat × Nat × Nat × Nat × Nat × Nat × Nat × Nat × Nat × Nat) := [(10, 224, 0, 183, 1, 10, 1261, 1263, 53, 71), (10, 228, 1, 188, 3, 0, 1285, 1286, 0, 71), (10, 231, 0, 189, 0, 10, 1281, 1283, 54, 71), (10, 235, 0, 190, 3, 10, 1288, 1290, 55, 71), (10, 251, 0, 192, 1, 10, 1296, 1298, 56, 71), (10, 254, 1, 135, 1, 0, 1308, 1309, 0, 71), (10, 264, 0, 200, 2, 10, 1333, 1335, 57, 71), (10, 269, 1, 202, 2, 0, 1342, 1343, 0, 71), (10, 280, 0, 205, 1, 10, 1357, 1359, 59, 71), (10, 283, 0, 206, 0, 10, 1353, 1355, 58, 71), (11, 9, 2, 86, 0, 1, 78, 79, 0, 61), (11, 12, 2, 133, 0, 1, 944, 945, 0, 71), (11, 13, 0, 87, 3, 9, 406, 407, 408, 61), (11, 17, 0, 140, 3, 10, 1051, 1052, 1053, 71), (11, 18, 0, 88, 2, 9, 421, 422, 423, 61), (11, 22, 0, 141, 2, 10, 1062, 1063, 1064, 71), (11, 23, 0, 89, 4, 9, 437, 438, 439, 61), (11, 27, 0, 142, 4, 10, 1070, 1071, 1072, 71), (11, 28, 0, 90, 2, 9, 448, 449, 450, 61), (11, 31, 0, 143, 2, 10, 1079, 1080, 1081, 71), (11, 32, 0, 91, 4, 9, 452, 453, 454, 61), (11, 35, 0, 148, 4, 10, 1084, 1085, 1086, 71), (11, 36, 0, 92, 3, 9, 460, 461, 462, 61), (11, 39, 0, 149, 3, 10, 1092, 1093, 1094, 71)]
def zML_8 : List (Nat × Nat × Nat × Nat × Nat × Nat × Nat × Nat × Nat × Nat) := [(11, 40, 0, 93, 1, 9, 468, 469, 470, 61), (11, 44, 0, 150, 1, 10, 1102, 1103, 1104, 71), (11, 45, 0, 94, 0, 9, 476, 477, 478, 61), (11, 49, 0, 151, 0, 10, 1108, 1109, 1110, 71), (11, 50, 0, 95, 0, 9, 484, 485, 486, 61), (11, 53, 0, 153, 0, 10, 1112, 1113, 1114, 71), (11, 54, 0, 96, 1, 9, 518, 519, 520, 61), (11, 57, 0, 154, 1, 10, 1126, 1127, 1128, 71), (11, 58, 0, 97, 3, 9, 529, 530, 531, 61), (11, 61, 0, 155, 3, 10, 1131, 1132, 1133, 71), (11, 62, 0, 98, 1, 9, 536, 537, 538, 61), (11, 65, 0, 156, 1, 10, 1138, 1139, 1140, 71), (11, 66, 0, 99, 2, 9, 540, 541, 542, 61), (11, 70, 0, 164, 2, 10, 1142, 1143, 1144, 71), (11, 71, 0, 100, 1, 9, 598, 599, 600, 61), (11, 74, 0, 166, 1, 10, 1180, 1181, 1182, 71), (11, 75, 0, 101, 3, 9, 606, 607, 608, 61), (11, 78, 0, 168, 3, 10, 1188, 1189, 1190, 71), (11, 79, 0, 102, 1, 9, 618, 619, 620, 61), (11, 83, 0, 170, 1, 10, 1196, 1197, 1198, 71), (11, 84, 0, 103, 1, 9, 631, 632, 633, 61), (11, 87, 0, 173, 1, 10, 1204, 1205, 1206, 71), (11, 88, 0, 104, 1, 9, 643, 644, 645, 61), (11, 91, 0, 177, 1, 10, 1216, 1217, 1218, 71)]
def zML_9 : List (Nat × Nat × Nat × Nat × Nat × Nat × Nat × Nat × Nat × Nat) := [(11, 92, 0, 105, 1, 9, 651, 652, 653, 61), (11, 95, 0, 180, 1, 10, 1224, 1225, 1226, 71), (11, 96, 0, 106, 2, 9, 691, 692, 693, 61), (11, 99, 0, 184, 2, 10, 1256, 1257, 1258, 71), (11, 100, 0, 107, 1, 9, 717, 718, 719, 61), (11, 103, 0, 182, 1, 10, 1248, 1249, 1250, 71), (11, 104, 0, 108, 1, 9, 721, 722, 723, 61), (11, 107, 0, 185, 1, 10, 1265, 1266, 1267, 71), (11, 108, 0, 109, 2, 9, 726, 727, 728, 61), (11, 111, 0, 186, 2, 10, 1269, 1270, 1271, 71), (11, 112, 0, 110, 1, 9, 730, 731, 732, 61), (11, 115, 0, 187, 1, 10, 1273, 1274, 1275, 71), (11, 116, 0, 111, 1, 9, 739, 740, 741, 61), (11, 119, 0, 191, 1, 10, 1277, 1278, 1279, 71), (11, 120, 0, 112, 2, 9, 785, 786, 787, 61), (11, 123, 0, 193, 2, 10, 1292, 1293, 1294, 71), (11, 124, 0, 113, 2, 9, 798, 799, 800, 61), (11, 127, 0, 194, 2, 10, 1300, 1301, 1302, 71), (11, 128, 0, 114, 2, 9, 811, 812, 813, 61), (11, 131, 0, 195, 2, 10, 1304, 1305, 1306, 71), (11, 132, 0, 115, 0, 9, 830, 831, 832, 61), (11, 135, 0, 196, 0, 10, 1311, 1312, 1313, 71), (11, 136, 0, 116, 6, 9, 834, 835, 836, 61), (11, 140, 0, 197, 6, 10, 1315, 1316, 1317, 71)]
def zML_10 : List (Nat × Nat × Nat × Nat × Nat × Nat × Nat × Nat × Nat × Nat) := [(11, 141, 0, 117, 1, 9, 854, 855, 856, 61), (11, 144, 0, 198, 1, 10, 1321, 1322, 1323, 71), (11, 145, 0, 118, 0, 9, 862, 863, 864, 61), (11, 148, 0, 199, 0, 10, 1325, 1326, 1327, 71), (11, 149, 0, 119, 2, 9, 870, 871, 872, 61), (11, 152, 0, 201, 2, 10, 1329, 1330, 1331, 71), (11, 153, 0, 120, 3, 9, 878, 879, 880, 61), (11, 157, 0, 203, 3, 10, 1337, 1338, 1339, 71), (11, 158, 0, 121, 2, 9, 897, 898, 899, 61), (11, 161, 0, 204, 2, 10, 1345, 1346, 1347, 71), (11, 162, 0, 122, 1, 9, 910, 911, 912, 61), (11, 165, 0, 207, 1, 10, 1349, 1350, 1351, 71), (11, 166, 0, 123, 1, 9, 929, 930, 931, 61), (11, 169, 0, 208, 1, 10, 1361, 1362, 1363, 71), (11, 170, 0, 124, 1, 9, 933, 934, 935, 61), (11, 173, 0, 209, 1, 10, 1365, 1366, 1367, 71)]
def zML : List (Nat × Nat × Nat × Nat × Nat × Nat × Nat × Nat × Nat × Nat) := zML_0 ++ (zML_1 ++ (zML_2 ++ (zML_3 ++ (zML_4 ++ (zML_5 ++ (zML_6 ++ (zML_7 ++ (zML_8 ++ (zML_9 ++ (zML_10))))))))))
def zpar (y : MethodName) (n : Nat) : Bool := decide (y.cls ≠ "java/lang/invoke/MethodHandle") && decide (y.cls ≠ "java/lang/invoke/VarHandle") && decide ((parseMethodDescriptor y.desc).map (fun d => d.parameters.length) = some n)
def zmlb (q : Nat × Nat × Nat × Nat × Nat × Nat × Nat × Nat × Nat × Nat) : Bool := match q with
  | (o, i, 0, a, b, c, p1, p2, p3, p4) => Nat.blt a 212 && zat p1 (.methodLink (zown o) i (zmn a)) && zat p2 (.instanceMethod (zmn a)) && zat p3 (.selects (zmn a).cls (zmn a) (zmn a)) && zat p4 (.initialized (zmn a).cls) && zpar (zmn a) b && (match zcl[c]? with | some r => decide (r.1 = (zmn a).cls) | none => false)
  | (o, i, 1, a, b, _, p1, p2, _, p4) => Nat.blt a 212 && zat p1 (.methodLink (zown o) i (zmn a)) && zat p2 (.static (zmn a)) && zat p4 (.initialized (zmn a).cls) && zpar (zmn a) b
  | (o, i, 2, a, b, 1, p1, p2, _, p4) => Nat.blt a 212 && zat p1 (.methodLink (zown o) i (zmn a)) && zat p2 (.instanceMethod (zmn a)) && zat p4 (.initialized (zmn a).cls) && zpar (zmn a) b && zini a && decide (zmr a = none)
  | (o, i, 2, a, b, 2, p1, p2, _, p4) => Nat.blt a 212 && zat p1 (.methodLinkNest (zown o) i (zmn a) "SugarBelow") && zat p2 (.instanceMethod (zmn a)) && zat p4 (.initialized (zmn a).cls) && zpar (zmn a) b && zini a && decide (zmr a = none)
  | (o, i, 3, _, _, _, p1, p2, p3, _) => zat p1 (.methodLink (zown o) i objectInit) && zat p2 (.instanceMethod objectInit) && zat p3 (.code objectInit ⟨#[0xb1]⟩ 1 none)
  | (o, i, 4, _, _, _, p1, p2, p3, p4) => zat p1 (.methodLink (zown o) i arraycopyName) && zat p2 (.native arraycopyName) && zat p3 (.static arraycopyName) && zat p4 (.initialized "java/lang/System")
  | (o, i, 5, _, _, _, p1, p2, p3, p4) => zat p1 (.methodLink (zown o) i Lib.Math.max.name) && zat p2 (.static Lib.Math.max.name) && zat p3 (.code Lib.Math.max.name Lib.Math.max.code 2 (some .int)) && zat p4 (.initialized "java/lang/Math")
  | (o, i, 6, _, _, _, p1, p2, p3, p4) => zat p1 (.methodLink (zown o) i Lib.MathLoose.max_long.x) && zat p2 (.static Lib.MathLoose.max_long.x) && zat p3 (.code Lib.MathLoose.max_long.x Lib.MathLoose.max_long.code 4 (some .long)) && zat p4 (.initialized "java/lang/Math")
  | (o, i, 7, _, _, _, p1, p2, p3, p4) => zat p1 (.methodLink (zown o) i Lib.Math.min.name) && zat p2 (.static Lib.Math.min.name) && zat p3 (.code Lib.Math.min.name Lib.Math.min.code 2 (some .int)) && zat p4 (.initialized "java/lang/Math")
  | _ => false
set_option maxRecDepth 100000 in
theorem zML_k0 : zML_0.all zmlb = true := by decide +kernel
set_option maxRecDepth 100000 in
theorem zML_k1 : zML_1.all zmlb = true := by decide +kernel
set_option maxRecDepth 100000 in
theorem zML_k2 : zML_2.all zmlb = true := by decide +kernel
set_option maxRecDepth 100000 in
theorem zML_k3 : zML_3.all zmlb = true := by decide +kernel
set_option maxRecDepth 100000 in
theorem zML_k4 : zML_4.all zmlb = true := by decide +kernel
set_option maxRecDepth 100000 in
theorem zML_k5 : zML_5.all zmlb = true := by decide +kernel
set_option maxRecDepth 100000 in
theorem zML_k6 : zML_6.all zmlb = true := by decide +kernel
set_option maxRecDepth 100000 in
theorem zML_k7 : zML_7.all zmlb = true := by decide +kernel
set_option maxRecDepth 100000 in
theorem zML_k8 : zML_8.all zmlb = true := by decide +kernel
set_option maxRecDepth 100000 in
theorem zML_k9 : zML_9.all zmlb = true := by decide +kernel
set_option maxRecDepth 100000 in
theorem zML_k10 : zML_10.all zmlb = true := by decide +kernel
theorem zML_ok : zML.all zmlb = true := by
  simp only [zML, List.all_append, zML_k0, zML_k1, zML_k2, zML_k3, zML_k4, zML_k5, zML_k6, zML_k7, zML_k8, zML_k9, zML_k10, Bool.and_self]
def zCL : List (Nat × Nat × Nat × Nat) := [(6, 7, 1, 90), (6, 16, 3, 140), (6, 23, 5, 193), (9, 9, 6, 84), (9, 24, 2, 225), (9, 31, 1, 256), (9, 38, 7, 258), (9, 51, 4, 288), (9, 60, 0, 307), (9, 69, 8, 353), (11, 7, 9, 76), (11, 10, 10, 942)]
def zclb (q : Nat × Nat × Nat × Nat) : Bool := match q with
  | (o, i, a, p) => match zcl[a]? with
    | some r => zat p (.classLink (zown o) i r.1)
    | none => false
set_option maxRecDepth 100000 in
theorem zCL_ok : zCL.all zclb = true := by decide +kernel
def zKI : List (Nat × Nat × Int32 × Nat) := [(12, 265, 1431655765, 827), (12, 266, 858993459, 828), (12, 267, 252645135, 829)]
def zKL : List (Nat × Nat × Int64 × Nat) := [(9, 188, -1000000000000000001, 544), (9, 190, -1000000000000000002, 545), (9, 226, -1000000000000000005, 695), (9, 298, -1000000000000000003, 882), (10, 82, 3, 1078), (10, 84, 99, 1058), (10, 96, 2, 1077), (10, 98, 15, 1083), (10, 114, 4, 1100), (10, 116, 6, 1101), (10, 118, 33, 1106), (10, 120, 126, 1107), (10, 125, 48, 1120), (10, 127, 57, 1121), (10, 129, 97, 1122), (10, 131, 100, 1123), (10, 136, 49, 1124), (10, 138, 51, 1125), (10, 170, -1000000000000000001, 1146), (10, 172, -1000000000000000002, 1147), (10, 222, -1000000000000000005, 1260), (10, 257, 4095, 1319), (10, 259, 12, 1320), (10, 267, -1000000000000000003, 1341), (10, 286, 10, 1369), (10, 288, 21, 1370)]
set_option maxRecDepth 100000 in
theorem zKI_ok : zKI.all (fun q => zat q.2.2.2 (.constant (zown q.1) q.2.1 q.2.2.1)) = true := by decide +kernel
set_option maxRecDepth 100000 in
theorem zKL_ok : zKL.all (fun q => zat q.2.2.2 (.constantLong (zown q.1) q.2.1 q.2.2.1)) = true := by decide +kernel
def zlays : List (List Nat) := [[328, 330, 332, 334, 336, 338, 340, 342, 344, 346, 348, 350], [124, 126, 128, 130, 132, 134, 136], [240, 242, 244, 246, 248, 250, 252], [176, 178, 180, 182, 184, 186, 188, 190], [298, 300, 302, 304], [202, 204], [215, 217, 219, 221], [273, 275, 277, 279, 281, 283, 285], [367, 369, 371, 373, 375], [387, 389, 391, 393, 395, 397, 399, 401, 403], [982, 984, 986, 988, 990, 992, 994, 996, 998, 1000, 1002, 1004, 1006, 1008, 1010, 1012, 1014, 1016, 1018, 1020, 1022, 1024, 1026, 1028, 1030, 1032, 1034, 1036, 1038, 1040, 1042, 1044, 1046, 1048]]
def zinst : List (Nat × Nat) := [(308, 69), (91, 63), (226, 66), (141, 64), (289, 68), (194, 65), (85, 62), (259, 67), (354, 70), (77, 61), (943, 71)]
def zty (r : vw_C) (k : Nat) : FieldType := (parseFieldDescriptor (r.2.1 k).2.2.1).getD .int
def zclsb (a : Nat) : Bool := match zcl[a]? with
  | some r => (List.range r.2.2).all (fun k => zat ((zlays.getD a []).getD k 0) (u_lay r.1 r.2.1 k) && decide (parseFieldDescriptor (r.2.1 k).2.2.1 = some (zty r k)) && decide ((r.2.1 k).1 = r.1) && decide (defaultValue (zty r k) = vp_V (zdf a) k)) && (List.range r.2.2).all (fun x => (List.range r.2.2).all (fun y => Nat.beq x y || decide ((r.2.1 x).2.1 ≠ (r.2.1 y).2.1))) && zat (zinst.getD a (0, 0)).1 (.instantiable r.1 r.2.2) && zat (zinst.getD a (0, 0)).2 (.initialized r.1) && Nat.beq (zdf a).length r.2.2
  | none => false
set_option maxRecDepth 100000 in
theorem zcls_ok : (List.range 11).all zclsb = true := by decide +kernel
theorem zarrI : Cond.arrayClass .int ∈ lw_tbl := List.mem_of_getElem? (i := 139) (by decide +kernel)
theorem zarrZ : Cond.arrayClass .boolean ∈ lw_tbl := List.mem_of_getElem? (i := 255) (by decide +kernel)
theorem zarrT : Cond.arrayOver (.object "SugarBelow$Town") ∈ lw_tbl := List.mem_of_getElem? (i := 224) (by decide +kernel)
def znest : List Cond := [.methodLinkNest "SugarBelow" 11 ⟨"SugarBelow$Town", "<init>", "()V"⟩ "SugarBelow", .methodLinkNest "SugarBelow$Town" 9 ⟨"SugarBelow$Goods", "<init>", "()V"⟩ "SugarBelow", .methodLinkNest "SugarBelow$Town" 18 ⟨"SugarBelow$People", "<init>", "()V"⟩ "SugarBelow", .methodLinkNest "SugarBelow$Town" 25 ⟨"SugarBelow$Till", "<init>", "()V"⟩ "SugarBelow", .methodLinkNest "SugarBelow" 26 ⟨"SugarBelow$Pad", "<init>", "()V"⟩ "SugarBelow", .methodLinkNest "SugarBelow" 33 ⟨"SugarBelow$Goods", "<init>", "()V"⟩ "SugarBelow"]
theorem znest_in : ∀ w ∈ znest, w ∈ lw_tbl := by
  have h : ([86, 92, 142, 195, 227, 257] : List Nat).map (fun i => lw_tbl[i]?) = znest.map some := by decide +kernel
  intro w hw
  have h1 : some w ∈ znest.map some := List.mem_map.mpr ⟨w, hw, rfl⟩
  rw [← h] at h1
  obtain ⟨i, -, hi⟩ := List.mem_map.mp h1
  exact List.mem_of_getElem? hi
/-- the length of an instruction -/
def zlen (i : Instr) (n : Nat) : Bool := match i with
  | .iload _ => Nat.beq n 2
  | .istore _ => Nat.beq n 2
  | .lload _ => Nat.beq n 2
  | .lstore _ => Nat.beq n 2
  | .bipush _ => Nat.beq n 2
  | .newarray _ => Nat.beq n 2
  | .iinc _ _ => Nat.beq n 3
  | .sipush _ => Nat.beq n 3
  | .goto _ => Nat.beq n 3
  | .ifCond _ _ => Nat.beq n 3
  | .if_icmp _ _ => Nat.beq n 3
  | .getfield _ => Nat.beq n 3
  | .putfield _ => Nat.beq n 3
  | .invokevirtual _ => Nat.beq n 3
  | .invokestatic _ => Nat.beq n 3
  | .invokespecial _ => Nat.beq n 3
  | .ldc_w _ => Nat.beq n 3
  | .ldc2_w _ => Nat.beq n 3
  | .new _ => Nat.beq n 3
  | .anewarray _ => Nat.beq n 3
  | .tableswitch _ _ _ _ => true
  | .lookupswitch _ _ => true
  | _ => Nat.beq n 1
def zoff (pc : Nat) (off : Int) (t : Nat) : Bool := decide ((pc : Int) + off = (t : Int))
def zroom (y a : Nat) : Bool := Nat.ble (zfr a + 1) (zfr y) && Nat.ble (8 + (zmx a + 11) + zlo a) (zlo y)
def zvi (v : Value) (x : Int32) : Bool := decide (v = .int x)
def zvl (v : Value) (x : Int64) : Bool := decide (v = .long x)
def zhasM (y i k a b c : Nat) : Bool := zML.any (fun q => Nat.beq q.1 (zmo y) && Nat.beq q.2.1 i && Nat.beq q.2.2.1 k && Nat.beq q.2.2.2.1 a && Nat.beq q.2.2.2.2.1 b && Nat.beq q.2.2.2.2.2.1 c)
def zhasF (y i a b : Nat) : Bool := zFL.any (fun q => Nat.beq q.1 (zmo y) && Nat.beq q.2.1 i && Nat.beq q.2.2.1 a && Nat.beq q.2.2.2.1 b)
def zhasC (y i a : Nat) : Bool := zCL.any (fun q => Nat.beq q.1 (zmo y) && Nat.beq q.2.1 i && Nat.beq q.2.2.1 a)
/-- what an entry must say of its instruction -/
def zspec (y : Nat) (e : zN) : Bool := match e with
  | (pc, ins, len, v, a, b, c, _, ts) => match ins with
    | .iconst n => zvi v (Int32.ofInt n)
    | .bipush n => zvi v (Int8.ofInt n).toInt32
    | .sipush n => zvi v (Int16.ofInt n).toInt32
    | .lconst n => zvl v (Int64.ofNat n.val)
    | .iinc _ n => zvi v (Int32.ofInt n)
    | .ldc_w i => zKI.any (fun q => Nat.beq q.1 (zmo y) && Nat.beq q.2.1 i && zvi v q.2.2.1)
    | .ldc2_w i => zKL.any (fun q => Nat.beq q.1 (zmo y) && Nat.beq q.2.1 i && zvl v q.2.2.1)
    | .istore_n i => Nat.blt i.val (zmx y)
    | .istore i => Nat.blt i (zmx y)
    | .lstore_n i => Nat.blt (i.val + 1) (zmx y)
    | .lstore i => Nat.blt (i + 1) (zmx y)
    | .astore_n i => Nat.blt i.val (zmx y)
    | .goto off => zoff pc off a
    | .ifCond _ off => zoff pc off a
    | .if_icmp _ off => zoff pc off a
    | .tableswitch d lo hi offs => zoff pc d a && decide (offs.toList.map (fun o => (pc : Int) + o) = ts.map (fun t : Nat => (t : Int))) && decide (hi - lo + 1 = (offs.size : Int))
    | .lookupswitch d ps => zoff pc d a && decide (ps.toList.map (fun o => (pc : Int) + o.2) = ts.map (fun t : Nat => (t : Int))) && (ps.toList.zip (ps.toList.drop 1)).all (fun (a, next) => a.1 < next.1)
    | .getfield i => zhasF y i a b
    | .putfield i => zhasF y i a b && (match zcl[a]? with
      | some r => (!(r.2.1 b).2.2.2 || (zini y && decide (r.1 = zown (zmo y)))) && (match c, zty r b with
        | 0, .int => true
        | 1, .boolean => true
        | 2, .object _ => true
        | 2, .array _ => true
        | _, _ => false)
      | none => false)
    | .new i => zhasC y i a && (match zcl[a]? with
      | some r => Nat.beq r.2.2 b
      | none => false)
    | .newarray t => (match t, a with
      | .int, 0 => true
      | .boolean, 1 => true
      | _, _ => false)
    | .anewarray i => zhasC y i a && Nat.beq a 6
    | .invokevirtual i => zhasM y i 0 a b c && zroom y a
    | .invokestatic i => (match c with
      | 0 => zhasM y i 1 a b c && zroom y a
      | k + 1 => zhasM y i (k + 4) a b c && Nat.ble 1 (zfr y) && Nat.ble 26 (zlo y))
    | .invokespecial i => (match c with
      | 0 => zhasM y i 3 a b c && Nat.ble 1 (zfr y) && Nat.ble 20 (zlo y)
      | _ => zhasM y i 2 a b c && zroom y a)
    | .ireturn => (match c with
      | 0 => decide (zmr y = some .int)
      | _ => decide (zmr y = some .boolean))
    | .lreturn => decide (zmr y = some .long)
    | .return_ => decide (zmr y = none)
    | _ => true
def zchk (y : Nat) (e : zN) : Bool := decide (decode (zmb y) e.1 = .ok (e.2.1, e.2.2.1)) && zlen e.2.1 e.2.2.1 && zspec y e
def zmchk (y : Nat) : Bool := (zcode y).all (fun q => q.2.all (zchk y)) && decide ((zmn y).cls = zown (zmo y))
/-- a method that may be called: its code is a word of the tables -/
def zmcode (y : Nat) : Bool := zat (zmps.getD y 0) (.code (zmn y) (zmb y) (zmx y) (zmr y)) && plainName (zmn y).cls
end
section
set_option maxRecDepth 100000 in
theorem zck_0 : (List.range' 0 12).all zmchk = true := by decide +kernel
set_option maxRecDepth 100000 in
theorem zco_0 : (List.range' 0 12).all zmcode = true := by decide +kernel
set_option maxRecDepth 100000 in
theorem zck_12 : (List.range' 12 12).all zmchk = true := by decide +kernel
set_option maxRecDepth 100000 in
theorem zco_12 : (List.range' 12 12).all zmcode = true := by decide +kernel
set_option maxRecDepth 100000 in
theorem zck_24 : (List.range' 24 12).all zmchk = true := by decide +kernel
set_option maxRecDepth 100000 in
theorem zco_24 : (List.range' 24 12).all zmcode = true := by decide +kernel
set_option maxRecDepth 100000 in
theorem zck_36 : (List.range' 36 12).all zmchk = true := by decide +kernel
set_option maxRecDepth 100000 in
theorem zco_36 : (List.range' 36 12).all zmcode = true := by decide +kernel
set_option maxRecDepth 100000 in
theorem zck_48 : (List.range' 48 12).all zmchk = true := by decide +kernel
set_option maxRecDepth 100000 in
theorem zco_48 : (List.range' 48 12).all zmcode = true := by decide +kernel
set_option maxRecDepth 100000 in
theorem zck_60 : (List.range' 60 12).all zmchk = true := by decide +kernel
set_option maxRecDepth 100000 in
theorem zco_60 : (List.range' 60 12).all zmcode = true := by decide +kernel
set_option maxRecDepth 100000 in
theorem zck_72 : (List.range' 72 12).all zmchk = true := by decide +kernel
set_option maxRecDepth 100000 in
theorem zco_72 : (List.range' 72 12).all zmcode = true := by decide +kernel
set_option maxRecDepth 100000 in
theorem zck_84 : (List.range' 84 12).all zmchk = true := by decide +kernel
set_option maxRecDepth 100000 in
theorem zco_84 : (List.range' 84 12).all zmcode = true := by decide +kernel
set_option maxRecDepth 100000 in
theorem zck_96 : (List.range' 96 12).all zmchk = true := by decide +kernel
set_option maxRecDepth 100000 in
theorem zco_96 : (List.range' 96 12).all zmcode = true := by decide +kernel
set_option maxRecDepth 100000 in
theorem zck_108 : (List.range' 108 12).all zmchk = true := by decide +kernel
set_option maxRecDepth 100000 in
theorem zco_108 : (List.range' 108 12).all zmcode = true := by decide +kernel
set_option maxRecDepth 100000 in
theorem zck_120 : (List.range' 120 12).all zmchk = true := by decide +kernel
set_option maxRecDepth 100000 in
theorem zco_120 : (List.range' 120 12).all zmcode = true := by decide +kernel
set_option maxRecDepth 100000 in
theorem zck_132 : (List.range' 132 12).all zmchk = true := by decide +kernel
set_option maxRecDepth 100000 in
theorem zco_132 : (List.range' 132 12).all zmcode = true := by decide +kernel
set_option maxRecDepth 100000 in
theorem zck_144 : (List.range' 144 12).all zmchk = true := by decide +kernel
set_option maxRecDepth 100000 in
theorem zco_144 : (List.range' 144 12).all zmcode = true := by decide +kernel
set_option maxRecDepth 100000 in
theorem zck_156 : (List.range' 156 12).all zmchk = true := by decide +kernel
set_option maxRecDepth 100000 in
theorem zco_156 : (List.range' 156 12).all zmcode = true := by decide +kernel
set_option maxRecDepth 100000 in
theorem zck_168 : (List.range' 168 12).all zmchk = true := by decide +kernel
set_option maxRecDepth 100000 in
theorem zco_168 : (List.range' 168 12).all zmcode = true := by decide +kernel
set_option maxRecDepth 100000 in
theorem zck_180 : (List.range' 180 12).all zmchk = true := by decide +kernel
set_option maxRecDepth 100000 in
theorem zco_180 : (List.range' 180 12).all zmcode = true := by decide +kernel
set_option maxRecDepth 100000 in
theorem zck_192 : (List.range' 192 12).all zmchk = true := by decide +kernel
set_option maxRecDepth 100000 in
theorem zco_192 : (List.range' 192 12).all zmcode = true := by decide +kernel
set_option maxRecDepth 100000 in
theorem zck_204 : (List.range' 204 8).all zmchk = true := by decide +kernel
set_option maxRecDepth 100000 in
theorem zco_204 : (List.range' 204 8).all zmcode = true := by decide +kernel
end
section
set_option maxRecDepth 100000 in
theorem zlw_0 : zc212_0.all (zchk 212) = true := by decide +kernel
set_option maxRecDepth 100000 in
theorem zlw_1 : zc212_1.all (zchk 212) = true := by decide +kernel
set_option maxRecDepth 100000 in
theorem zlw_2 : zc212_2.all (zchk 212) = true := by decide +kernel
set_option maxRecDepth 100000 in
theorem zlw_3 : zc212_3.all (zchk 212) = true := by decide +kernel
set_option maxRecDepth 100000 in
theorem zlw_4 : zc212_4.all (zchk 212) = true := by decide +kernel
set_option maxRecDepth 100000 in
theorem zlw_5 : zc212_5.all (zchk 212) = true := by decide +kernel
set_option maxRecDepth 100000 in
theorem zlw_6 : zc212_6.all (zchk 212) = true := by decide +kernel
set_option maxRecDepth 100000 in
theorem zlw_7 : zc212_7.all (zchk 212) = true := by decide +kernel
set_option maxRecDepth 100000 in
theorem zlw_8 : zc212_8.all (zchk 212) = true := by decide +kernel
set_option maxRecDepth 100000 in
theorem zlw_9 : zc212_9.all (zchk 212) = true := by decide +kernel
set_option maxRecDepth 100000 in
theorem zlw_10 : zc212_10.all (zchk 212) = true := by decide +kernel
set_option maxRecDepth 100000 in
theorem zlw_11 : zc212_11.all (zchk 212) = true := by decide +kernel
set_option maxRecDepth 100000 in
theorem zlw_12 : zc212_12.all (zchk 212) = true := by decide +kernel
set_option maxRecDepth 100000 in
theorem zlw_13 : zc212_13.all (zchk 212) = true := by decide +kernel
set_option maxRecDepth 100000 in
theorem zlw_14 : zc212_14.all (zchk 212) = true := by decide +kernel
set_option maxRecDepth 100000 in
theorem zlw_15 : zc212_15.all (zchk 212) = true := by decide +kernel
set_option maxRecDepth 100000 in
theorem zlw_16 : zc212_16.all (zchk 212) = true := by decide +kernel
set_option maxRecDepth 100000 in
theorem zlw_17 : zc212_17.all (zchk 212) = true := by decide +kernel
set_option maxRecDepth 100000 in
theorem zlw_18 : zc212_18.all (zchk 212) = true := by decide +kernel
set_option maxRecDepth 100000 in
theorem zlw_19 : zc212_19.all (zchk 212) = true := by decide +kernel
set_option maxRecDepth 100000 in
theorem zlw_20 : zc212_20.all (zchk 212) = true := by decide +kernel
set_option maxRecDepth 100000 in
theorem zlw_21 : zc212_21.all (zchk 212) = true := by decide +kernel
set_option maxRecDepth 100000 in
theorem zlw_22 : zc212_22.all (zchk 212) = true := by decide +kernel
set_option maxRecDepth 100000 in
theorem zlw_23 : zc212_23.all (zchk 212) = true := by decide +kernel
set_option maxRecDepth 100000 in
theorem zlw_24 : zc212_24.all (zchk 212) = true := by decide +kernel
set_option maxRecDepth 100000 in
theorem zlw_25 : zc212_25.all (zchk 212) = true := by decide +kernel
set_option maxRecDepth 100000 in
theorem zlw_26 : zc212_26.all (zchk 212) = true := by decide +kernel
set_option maxRecDepth 100000 in
theorem zlw_27 : zc212_27.all (zchk 212) = true := by decide +kernel
set_option maxRecDepth 100000 in
theorem zlw_28 : zc212_28.all (zchk 212) = true := by decide +kernel
set_option maxRecDepth 100000 in
theorem zlw_29 : zc212_29.all (zchk 212) = true := by decide +kernel
set_option maxRecDepth 100000 in
theorem zlw_30 : zc212_30.all (zchk 212) = true := by decide +kernel
set_option maxRecDepth 100000 in
theorem zlw_31 : zc212_31.all (zchk 212) = true := by decide +kernel
set_option maxRecDepth 100000 in
theorem zlw_32 : zc212_32.all (zchk 212) = true := by decide +kernel
set_option maxRecDepth 100000 in
theorem zlw_33 : zc212_33.all (zchk 212) = true := by decide +kernel
set_option maxRecDepth 100000 in
theorem zlw_34 : zc212_34.all (zchk 212) = true := by decide +kernel
set_option maxRecDepth 100000 in
theorem zlw_35 : zc212_35.all (zchk 212) = true := by decide +kernel
set_option maxRecDepth 100000 in
theorem zlw_36 : zc212_36.all (zchk 212) = true := by decide +kernel
set_option maxRecDepth 100000 in
theorem zlw_37 : zc212_37.all (zchk 212) = true := by decide +kernel
set_option maxRecDepth 100000 in
theorem zlw_38 : zc212_38.all (zchk 212) = true := by decide +kernel
set_option maxRecDepth 100000 in
theorem zlw_39 : zc212_39.all (zchk 212) = true := by decide +kernel
set_option maxRecDepth 100000 in
theorem zlw_40 : zc212_40.all (zchk 212) = true := by decide +kernel
set_option maxRecDepth 100000 in
theorem zlw_41 : zc212_41.all (zchk 212) = true := by decide +kernel
set_option maxRecDepth 100000 in
theorem zlw_42 : zc212_42.all (zchk 212) = true := by decide +kernel
set_option maxRecDepth 100000 in
theorem zlw_43 : zc212_43.all (zchk 212) = true := by decide +kernel
set_option maxRecDepth 100000 in
theorem zlw_44 : zc212_44.all (zchk 212) = true := by decide +kernel
set_option maxRecDepth 100000 in
theorem zlw_45 : zc212_45.all (zchk 212) = true := by decide +kernel
set_option maxRecDepth 100000 in
theorem zlw_46 : zc212_46.all (zchk 212) = true := by decide +kernel
set_option maxRecDepth 100000 in
theorem zlw_47 : zc212_47.all (zchk 212) = true := by decide +kernel
set_option maxRecDepth 100000 in
theorem zlw_48 : zc212_48.all (zchk 212) = true := by decide +kernel
set_option maxRecDepth 100000 in
theorem zlw_49 : zc212_49.all (zchk 212) = true := by decide +kernel
set_option maxRecDepth 100000 in
theorem zlw_50 : zc212_50.all (zchk 212) = true := by decide +kernel
set_option maxRecDepth 100000 in
theorem zlw_51 : zc212_51.all (zchk 212) = true := by decide +kernel
set_option maxRecDepth 100000 in
theorem zlw_52 : zc212_52.all (zchk 212) = true := by decide +kernel
set_option maxRecDepth 100000 in
theorem zlw_53 : zc212_53.all (zchk 212) = true := by decide +kernel
set_option maxRecDepth 100000 in
theorem zlw_54 : zc212_54.all (zchk 212) = true := by decide +kernel
set_option maxRecDepth 100000 in
theorem zlw_55 : zc212_55.all (zchk 212) = true := by decide +kernel
set_option maxRecDepth 100000 in
theorem zlw_56 : zc212_56.all (zchk 212) = true := by decide +kernel
set_option maxRecDepth 100000 in
theorem zlw_57 : zc212_57.all (zchk 212) = true := by decide +kernel
set_option maxRecDepth 100000 in
theorem zlw_58 : zc212_58.all (zchk 212) = true := by decide +kernel
set_option maxRecDepth 100000 in
theorem zlw_59 : zc212_59.all (zchk 212) = true := by decide +kernel
set_option maxRecDepth 100000 in
theorem zlw_60 : zc212_60.all (zchk 212) = true := by decide +kernel
set_option maxRecDepth 100000 in
theorem zlw_61 : zc212_61.all (zchk 212) = true := by decide +kernel
set_option maxRecDepth 100000 in
theorem zlw_62 : zc212_62.all (zchk 212) = true := by decide +kernel
set_option maxRecDepth 100000 in
theorem zlw_63 : zc212_63.all (zchk 212) = true := by decide +kernel
set_option maxRecDepth 100000 in
theorem zlw_64 : zc212_64.all (zchk 212) = true := by decide +kernel
set_option maxRecDepth 100000 in
theorem zlw_65 : zc212_65.all (zchk 212) = true := by decide +kernel
set_option maxRecDepth 100000 in
theorem zlw_66 : zc212_66.all (zchk 212) = true := by decide +kernel
set_option maxRecDepth 100000 in
theorem zlw_67 : zc212_67.all (zchk 212) = true := by decide +kernel
set_option maxRecDepth 100000 in
theorem zlw_68 : zc212_68.all (zchk 212) = true := by decide +kernel
set_option maxRecDepth 100000 in
theorem zlw_69 : zc212_69.all (zchk 212) = true := by decide +kernel
set_option maxRecDepth 100000 in
theorem zlw_70 : zc212_70.all (zchk 212) = true := by decide +kernel
set_option maxRecDepth 100000 in
theorem zlw_71 : zc212_71.all (zchk 212) = true := by decide +kernel
set_option maxRecDepth 100000 in
theorem zlw_72 : zc212_72.all (zchk 212) = true := by decide +kernel
set_option maxRecDepth 100000 in
theorem zlw_73 : zc212_73.all (zchk 212) = true := by decide +kernel
set_option maxRecDepth 100000 in
theorem zlw_74 : zc212_74.all (zchk 212) = true := by decide +kernel
set_option maxRecDepth 100000 in
theorem zlw_75 : zc212_75.all (zchk 212) = true := by decide +kernel
set_option maxRecDepth 100000 in
theorem zlw_76 : zc212_76.all (zchk 212) = true := by decide +kernel
set_option maxRecDepth 100000 in
theorem zlw_77 : zc212_77.all (zchk 212) = true := by decide +kernel
set_option maxRecDepth 100000 in
theorem zlw_78 : zc212_78.all (zchk 212) = true := by decide +kernel
set_option maxRecDepth 100000 in
theorem zlw_79 : zc212_79.all (zchk 212) = true := by decide +kernel
end
section
set_option maxRecDepth 100000 in
theorem zlw_all : zc212.all (fun q => q.2.all (zchk 212)) = true := List.all_eq_true.mpr (List.forall_mem_cons.mpr ⟨zlw_0, List.forall_mem_cons.mpr ⟨zlw_1, List.forall_mem_cons.mpr ⟨zlw_2, List.forall_mem_cons.mpr ⟨zlw_3, List.forall_mem_cons.mpr ⟨zlw_4, List.forall_mem_cons.mpr ⟨zlw_5, List.forall_mem_cons.mpr ⟨zlw_6, List.forall_mem_cons.mpr ⟨zlw_7, List.forall_mem_cons.mpr ⟨zlw_8, List.forall_mem_cons.mpr ⟨zlw_9, List.forall_mem_cons.mpr ⟨zlw_10, List.forall_mem_cons.mpr ⟨zlw_11, List.forall_mem_cons.mpr ⟨zlw_12, List.forall_mem_cons.mpr ⟨zlw_13, List.forall_mem_cons.mpr ⟨zlw_14, List.forall_mem_cons.mpr ⟨zlw_15, List.forall_mem_cons.mpr ⟨zlw_16, List.forall_mem_cons.mpr ⟨zlw_17, List.forall_mem_cons.mpr ⟨zlw_18, List.forall_mem_cons.mpr ⟨zlw_19, List.forall_mem_cons.mpr ⟨zlw_20, List.forall_mem_cons.mpr ⟨zlw_21, List.forall_mem_cons.mpr ⟨zlw_22, List.forall_mem_cons.mpr ⟨zlw_23, List.forall_mem_cons.mpr ⟨zlw_24, List.forall_mem_cons.mpr ⟨zlw_25, List.forall_mem_cons.mpr ⟨zlw_26, List.forall_mem_cons.mpr ⟨zlw_27, List.forall_mem_cons.mpr ⟨zlw_28, List.forall_mem_cons.mpr ⟨zlw_29, List.forall_mem_cons.mpr ⟨zlw_30, List.forall_mem_cons.mpr ⟨zlw_31, List.forall_mem_cons.mpr ⟨zlw_32, List.forall_mem_cons.mpr ⟨zlw_33, List.forall_mem_cons.mpr ⟨zlw_34, List.forall_mem_cons.mpr ⟨zlw_35, List.forall_mem_cons.mpr ⟨zlw_36, List.forall_mem_cons.mpr ⟨zlw_37, List.forall_mem_cons.mpr ⟨zlw_38, List.forall_mem_cons.mpr ⟨zlw_39, List.forall_mem_cons.mpr ⟨zlw_40, List.forall_mem_cons.mpr ⟨zlw_41, List.forall_mem_cons.mpr ⟨zlw_42, List.forall_mem_cons.mpr ⟨zlw_43, List.forall_mem_cons.mpr ⟨zlw_44, List.forall_mem_cons.mpr ⟨zlw_45, List.forall_mem_cons.mpr ⟨zlw_46, List.forall_mem_cons.mpr ⟨zlw_47, List.forall_mem_cons.mpr ⟨zlw_48, List.forall_mem_cons.mpr ⟨zlw_49, List.forall_mem_cons.mpr ⟨zlw_50, List.forall_mem_cons.mpr ⟨zlw_51, List.forall_mem_cons.mpr ⟨zlw_52, List.forall_mem_cons.mpr ⟨zlw_53, List.forall_mem_cons.mpr ⟨zlw_54, List.forall_mem_cons.mpr ⟨zlw_55, List.forall_mem_cons.mpr ⟨zlw_56, List.forall_mem_cons.mpr ⟨zlw_57, List.forall_mem_cons.mpr ⟨zlw_58, List.forall_mem_cons.mpr ⟨zlw_59, List.forall_mem_cons.mpr ⟨zlw_60, List.forall_mem_cons.mpr ⟨zlw_61, List.forall_mem_cons.mpr ⟨zlw_62, List.forall_mem_cons.mpr ⟨zlw_63, List.forall_mem_cons.mpr ⟨zlw_64, List.forall_mem_cons.mpr ⟨zlw_65, List.forall_mem_cons.mpr ⟨zlw_66, List.forall_mem_cons.mpr ⟨zlw_67, List.forall_mem_cons.mpr ⟨zlw_68, List.forall_mem_cons.mpr ⟨zlw_69, List.forall_mem_cons.mpr ⟨zlw_70, List.forall_mem_cons.mpr ⟨zlw_71, List.forall_mem_cons.mpr ⟨zlw_72, List.forall_mem_cons.mpr ⟨zlw_73, List.forall_mem_cons.mpr ⟨zlw_74, List.forall_mem_cons.mpr ⟨zlw_75, List.forall_mem_cons.mpr ⟨zlw_76, List.forall_mem_cons.mpr ⟨zlw_77, List.forall_mem_cons.mpr ⟨zlw_78, List.forall_mem_cons.mpr ⟨zlw_79, fun _ h => absurd h List.not_mem_nil⟩⟩⟩⟩⟩⟩⟩⟩⟩⟩⟩⟩⟩⟩⟩⟩⟩⟩⟩⟩⟩⟩⟩⟩⟩⟩⟩⟩⟩⟩⟩⟩⟩⟩⟩⟩⟩⟩⟩⟩⟩⟩⟩⟩⟩⟩⟩⟩⟩⟩⟩⟩⟩⟩⟩⟩⟩⟩⟩⟩⟩⟩⟩⟩⟩⟩⟩⟩⟩⟩⟩⟩⟩⟩⟩⟩⟩⟩⟩⟩)
theorem zck_law : zmchk 212 = true := by
  have h : decide ((zmn 212).cls = zown (zmo 212)) = true := by decide +kernel
  have h2 : zcode 212 = zc212 := rfl
  rw [zmchk, h2, zlw_all, h]; rfl
theorem zmchk_ok (y : Nat) (h : y < 213) : zmchk y = true := by
  by_cases h0 : y < 12
  · exact List.all_eq_true.mp zck_0 y (List.mem_range'_1.mpr ⟨by omega, by omega⟩)
  by_cases h12 : y < 24
  · exact List.all_eq_true.mp zck_12 y (List.mem_range'_1.mpr ⟨by omega, by omega⟩)
  by_cases h24 : y < 36
  · exact List.all_eq_true.mp zck_24 y (List.mem_range'_1.mpr ⟨by omega, by omega⟩)
  by_cases h36 : y < 48
  · exact List.all_eq_true.mp zck_36 y (List.mem_range'_1.mpr ⟨by omega, by omega⟩)
  by_cases h48 : y < 60
  · exact List.all_eq_true.mp zck_48 y (List.mem_range'_1.mpr ⟨by omega, by omega⟩)
  by_cases h60 : y < 72
  · exact List.all_eq_true.mp zck_60 y (List.mem_range'_1.mpr ⟨by omega, by omega⟩)
  by_cases h72 : y < 84
  · exact List.all_eq_true.mp zck_72 y (List.mem_range'_1.mpr ⟨by omega, by omega⟩)
  by_cases h84 : y < 96
  · exact List.all_eq_true.mp zck_84 y (List.mem_range'_1.mpr ⟨by omega, by omega⟩)
  by_cases h96 : y < 108
  · exact List.all_eq_true.mp zck_96 y (List.mem_range'_1.mpr ⟨by omega, by omega⟩)
  by_cases h108 : y < 120
  · exact List.all_eq_true.mp zck_108 y (List.mem_range'_1.mpr ⟨by omega, by omega⟩)
  by_cases h120 : y < 132
  · exact List.all_eq_true.mp zck_120 y (List.mem_range'_1.mpr ⟨by omega, by omega⟩)
  by_cases h132 : y < 144
  · exact List.all_eq_true.mp zck_132 y (List.mem_range'_1.mpr ⟨by omega, by omega⟩)
  by_cases h144 : y < 156
  · exact List.all_eq_true.mp zck_144 y (List.mem_range'_1.mpr ⟨by omega, by omega⟩)
  by_cases h156 : y < 168
  · exact List.all_eq_true.mp zck_156 y (List.mem_range'_1.mpr ⟨by omega, by omega⟩)
  by_cases h168 : y < 180
  · exact List.all_eq_true.mp zck_168 y (List.mem_range'_1.mpr ⟨by omega, by omega⟩)
  by_cases h180 : y < 192
  · exact List.all_eq_true.mp zck_180 y (List.mem_range'_1.mpr ⟨by omega, by omega⟩)
  by_cases h192 : y < 204
  · exact List.all_eq_true.mp zck_192 y (List.mem_range'_1.mpr ⟨by omega, by omega⟩)
  by_cases h204 : y < 212
  · exact List.all_eq_true.mp zck_204 y (List.mem_range'_1.mpr ⟨by omega, by omega⟩)
  have : y = 212 := by omega
  rw [this]; exact zck_law
theorem zmcode_ok (y : Nat) (h : y < 212) : zmcode y = true := by
  by_cases h0 : y < 12
  · exact List.all_eq_true.mp zco_0 y (List.mem_range'_1.mpr ⟨by omega, by omega⟩)
  by_cases h12 : y < 24
  · exact List.all_eq_true.mp zco_12 y (List.mem_range'_1.mpr ⟨by omega, by omega⟩)
  by_cases h24 : y < 36
  · exact List.all_eq_true.mp zco_24 y (List.mem_range'_1.mpr ⟨by omega, by omega⟩)
  by_cases h36 : y < 48
  · exact List.all_eq_true.mp zco_36 y (List.mem_range'_1.mpr ⟨by omega, by omega⟩)
  by_cases h48 : y < 60
  · exact List.all_eq_true.mp zco_48 y (List.mem_range'_1.mpr ⟨by omega, by omega⟩)
  by_cases h60 : y < 72
  · exact List.all_eq_true.mp zco_60 y (List.mem_range'_1.mpr ⟨by omega, by omega⟩)
  by_cases h72 : y < 84
  · exact List.all_eq_true.mp zco_72 y (List.mem_range'_1.mpr ⟨by omega, by omega⟩)
  by_cases h84 : y < 96
  · exact List.all_eq_true.mp zco_84 y (List.mem_range'_1.mpr ⟨by omega, by omega⟩)
  by_cases h96 : y < 108
  · exact List.all_eq_true.mp zco_96 y (List.mem_range'_1.mpr ⟨by omega, by omega⟩)
  by_cases h108 : y < 120
  · exact List.all_eq_true.mp zco_108 y (List.mem_range'_1.mpr ⟨by omega, by omega⟩)
  by_cases h120 : y < 132
  · exact List.all_eq_true.mp zco_120 y (List.mem_range'_1.mpr ⟨by omega, by omega⟩)
  by_cases h132 : y < 144
  · exact List.all_eq_true.mp zco_132 y (List.mem_range'_1.mpr ⟨by omega, by omega⟩)
  by_cases h144 : y < 156
  · exact List.all_eq_true.mp zco_144 y (List.mem_range'_1.mpr ⟨by omega, by omega⟩)
  by_cases h156 : y < 168
  · exact List.all_eq_true.mp zco_156 y (List.mem_range'_1.mpr ⟨by omega, by omega⟩)
  by_cases h168 : y < 180
  · exact List.all_eq_true.mp zco_168 y (List.mem_range'_1.mpr ⟨by omega, by omega⟩)
  by_cases h180 : y < 192
  · exact List.all_eq_true.mp zco_180 y (List.mem_range'_1.mpr ⟨by omega, by omega⟩)
  by_cases h192 : y < 204
  · exact List.all_eq_true.mp zco_192 y (List.mem_range'_1.mpr ⟨by omega, by omega⟩)
  by_cases h204 : y < 212
  · exact List.all_eq_true.mp zco_204 y (List.mem_range'_1.mpr ⟨by omega, by omega⟩)
  omega
end
section
/-! The plain machine: values, locals as a list, shapes of the cells, numbers of the cells. -/
def zA (M : zM) (r : Nat) (f : Nat → Int32) : zM := fun q => if q = r then f else M q
def zw (M : zM) (r j : Nat) (x : Int32) : zM := zA M r (upd (M r) j x)
def zget (i : Nat) : zL → Option Value
  | [] => none
  | q :: l => match Nat.beq q.1 i with
    | true => some q.2
    | false => zget i l
def zput1 (i : Nat) (v : Value) (lv : zL) : zL := (i, v) :: lv.filter (fun q => !(q.1 == i) && !(q.1 + 1 == i && q.2.category == 2))
def zput2 (i : Nat) (v : Value) (lv : zL) : zL := (i, v) :: lv.filter (fun q => !(q.1 == i) && (!(q.1 == i + 1) && !(q.1 + 1 == i && q.2.category == 2)))
def zpk : List Nat → zL → zL
  | [], _ => []
  | k :: ks, lv => match zget k lv with
    | some v => (k, v) :: zpk ks lv
    | none => zpk ks lv
def zpick (ks : List Nat) (lv : zL) : zL := match ks with
  | [] => lv
  | k :: l => zpk (k :: l) lv
def zall : List Prop → Prop
  | [] => True
  | p :: l => p ∧ zall l
def zlk1 (pc : Nat) : List zN → Option zN
  | [] => none
  | e :: l => match Nat.beq e.1 pc with
    | true => some e
    | false => zlk1 pc l
def zlk (pc : Nat) : List (Nat × List zN) → Option zN
  | [] => none
  | q :: l => match Nat.ble pc q.1 with
    | true => zlk1 pc q.2
    | false => zlk pc l
/-- kind and length of an array -/
def zar (sh : List zS) (k : Nat) : Option (Nat × Nat) := match sh[k]? with
  | some s => some (s.1, s.2.1)
  | none => none
/-- the script: how many ints, which; its cell is 0 -/
abbrev zSc : Type := Nat × (Nat → Int32)
def zcz (c : ClassFile.Cond) (x : Int32) : Prop := match c with
  | .eq => x = 0
  | .ne => ¬ x = 0
  | .lt => x < 0
  | .ge => 0 ≤ x
  | .gt => 0 < x
  | .le => x ≤ 0
def zcc (c : ClassFile.Cond) (x y : Int32) : Prop := match c with
  | .eq => x = y
  | .ne => ¬ x = y
  | .lt => x < y
  | .ge => y ≤ x
  | .gt => y < x
  | .le => x ≤ y
def zcats (st : List Value) : Nat := (st.map fun v => v.category).sum
def zN1 (v : Value) : Bool := match v with
  | .int _ => true
  | .ref _ => true
  | _ => false
def ztab (lo hi : Int) (d : Nat) (ts : List Nat) (x : Int32) : Nat := if x.toInt < lo ∨ hi < x.toInt then d else ts.getD (x.toInt - lo).toNat d
def zlup : List (Int × Int) → List Nat → Nat → Int → Nat
  | (k, _) :: ps, t :: ts, d, x => if x = k then t else zlup ps ts d x
  | _, _, d, _ => d
def zkind (sh : List zS) (k : Nat) : Option Nat := match sh[k]? with
  | some s => some s.1
  | none => none
abbrev zRr : Type := Option (List Prop × zO)
abbrev znx (pc : Nat) (lv : zL) (st : List Value) (sh : List zS) (M : zM) : zRr := some ([], .inl (pc, lv, st, sh, M))
abbrev znp (ps : List Prop) (pc : Nat) (lv : zL) (st : List Value) (sh : List zS) (M : zM) : zRr := some (ps, .inl (pc, lv, st, sh, M))
def zld (i pc : Nat) (lv : zL) (st : List Value) (sh : List zS) (M : zM) (k : Nat) : zRr := match zget i lv with
  | some (.int x) => match k with
    | 0 => znx pc lv (.int x :: st) sh M
    | _ => none
  | some (.long x) => match k with
    | 1 => znx pc lv (.long x :: st) sh M
    | _ => none
  | some (.ref x) => match k with
    | 2 => znx pc lv (.ref x :: st) sh M
    | _ => none
  | _ => none
def zgf (ci k : Nat) (r pc : Nat) (lv : zL) (st : List Value) (sh : List zS) (M : zM) : zRr := match r with
  | 0 => none
  | q + 1 => match sh[q]? with
    | none => none
    | some s => match Nat.beq s.1 (ci + 3) with
      | false => none
      | true => match s.2.2[k]? with
        | some (.int _) => znx pc lv (.int (M (q + 1) k) :: st) sh M
        | some (.ref a) => znx pc lv (.ref a :: st) sh M
        | _ => none
def zpf (ci k c : Nat) (v : Value) (r pc : Nat) (lv : zL) (st : List Value) (sh : List zS) (M : zM) : zRr := match r with
  | 0 => none
  | q + 1 => match sh[q]? with
    | none => none
    | some s => match Nat.beq s.1 (ci + 3) with
      | false => none
      | true => match s.2.2[k]?, v, c with
        | some (.int _), .int x, 0 => znx pc lv st sh (zw M (q + 1) k x)
        | some (.int _), .int x, 1 => znp [x = 0 ∨ x = 1] pc lv st sh (zw M (q + 1) k x)
        | some .null, .ref a, 2 => znx pc lv st (sh.set q (s.1, s.2.1, s.2.2.set k (.ref a))) M
        | _, _, _ => none
/-- a call's frame: the values taken, the rest's words few, the locals enough -/
def zcall (y n : Nat) (as rest : List Value) (pc : Nat) (lv : zL) (sh : List zS) (M : zM) : zRr := match Nat.ble (zcats rest) 8, Nat.ble (zcats as) (zmx y) with
  | true, true => some ([], .inr (.inr (.inl (y, as, (pc, lv, rest, sh, M)))))
  | _, _ => none
def zcpy (as : List Value) (rest : List Value) (pc : Nat) (lv : zL) (sh : List zS) (M : zM) : zRr := match as with
  | [.ref r0, .int sp, .ref r1, .int dp, .int n] => match r0, r1 with
    | k0 + 1, k1 + 1 => match sh[k0]?, sh[k1]? with
      | some s0, some s1 => match s0.1, s1.1, Nat.ble (zcats rest) 8 with
        | 0, 0, true => znp [¬ sp < 0, ¬ dp < 0, ¬ n < 0, sp.toNatClampNeg + n.toNatClampNeg ≤ s0.2.1, dp.toNatClampNeg + n.toNatClampNeg ≤ s1.2.1] pc lv rest sh (zA M (k1 + 1) (va_cpy (M (k0 + 1)) (M (k1 + 1)) sp.toNatClampNeg dp.toNatClampNeg n.toNatClampNeg))
        | _, _, _ => none
      | _, _ => none
    | _, _ => none
  | _ => none
/-- Math.max, Math.max of longs, Math.min -/
def zmath (k : Nat) (st : List Value) (pc : Nat) (lv : zL) (sh : List zS) (M : zM) : zRr := match Nat.ble (zcats (st.drop 2)) 8 with
  | false => none
  | true => match k, st with
    | 0, .int y :: .int x :: rest => znx pc lv (.int (if x < y then y else x) :: rest) sh M
    | 1, .long y :: .long x :: rest => znx pc lv (.long (if y < x then x else y) :: rest) sh M
    | 2, .int y :: .int x :: rest => znx pc lv (.int (if y < x then y else x) :: rest) sh M
    | _, _ => none
def zstep (S : zSc) (e : zN) (lv0 : zL) (st : List Value) (sh : List zS) (M : zM) : zRr := match e with
  | (pc, ins, len, v, a, b, c, nrm, ts) => match ins, zpick nrm lv0, st with
    | .iconst _, lv, st => znx (pc + len) lv (v :: st) sh M
    | .bipush _, lv, st => znx (pc + len) lv (v :: st) sh M
    | .sipush _, lv, st => znx (pc + len) lv (v :: st) sh M
    | .lconst _, lv, st => znx (pc + len) lv (v :: st) sh M
    | .ldc_w _, lv, st => znx (pc + len) lv (v :: st) sh M
    | .ldc2_w _, lv, st => znx (pc + len) lv (v :: st) sh M
    | .iload_n i, lv, st => zld i.val (pc + len) lv st sh M 0
    | .iload i, lv, st => zld i (pc + len) lv st sh M 0
    | .lload_n i, lv, st => zld i.val (pc + len) lv st sh M 1
    | .lload i, lv, st => zld i (pc + len) lv st sh M 1
    | .aload_n i, lv, st => zld i.val (pc + len) lv st sh M 2
    | .istore_n i, lv, .int x :: st => znx (pc + len) (zput1 i.val (.int x) lv) st sh M
    | .istore i, lv, .int x :: st => znx (pc + len) (zput1 i (.int x) lv) st sh M
    | .lstore_n i, lv, .long x :: st => znx (pc + len) (zput2 i.val (.long x) lv) st sh M
    | .lstore i, lv, .long x :: st => znx (pc + len) (zput2 i (.long x) lv) st sh M
    | .astore_n i, lv, .ref x :: st => znx (pc + len) (zput1 i.val (.ref x) lv) st sh M
    | .iinc i _, lv, st => match zget i lv, v with
      | some (.int x), .int d => znx (pc + len) (zput1 i (.int (x + d)) lv) st sh M
      | _, _ => none
    | .iadd, lv, .int y :: .int x :: st => znx (pc + len) lv (.int (x + y) :: st) sh M
    | .isub, lv, .int y :: .int x :: st => znx (pc + len) lv (.int (x - y) :: st) sh M
    | .imul, lv, .int y :: .int x :: st => znx (pc + len) lv (.int (x * y) :: st) sh M
    | .iand, lv, .int y :: .int x :: st => znx (pc + len) lv (.int (x &&& y) :: st) sh M
    | .ior, lv, .int y :: .int x :: st => znx (pc + len) lv (.int (x ||| y) :: st) sh M
    | .ishl, lv, .int y :: .int x :: st => znx (pc + len) lv (.int (x <<< (y &&& 31)) :: st) sh M
    | .ishr, lv, .int y :: .int x :: st => znx (pc + len) lv (.int (x >>> (y &&& 31)) :: st) sh M
    | .iushr, lv, .int y :: .int x :: st => znx (pc + len) lv (.int ((x.toUInt32 >>> (y.toUInt32 &&& Int32.toUInt32 31)).toInt32) :: st) sh M
    | .idiv, lv, .int y :: .int x :: st => znp [¬ y = 0] (pc + len) lv (.int (x / y) :: st) sh M
    | .irem, lv, .int y :: .int x :: st => znp [¬ y = 0] (pc + len) lv (.int (x - x / y * y) :: st) sh M
    | .ineg, lv, .int x :: st => znx (pc + len) lv (.int (-x) :: st) sh M
    | .ladd, lv, .long y :: .long x :: st => znx (pc + len) lv (.long (x + y) :: st) sh M
    | .lsub, lv, .long y :: .long x :: st => znx (pc + len) lv (.long (x - y) :: st) sh M
    | .lmul, lv, .long y :: .long x :: st => znx (pc + len) lv (.long (x * y) :: st) sh M
    | .ldiv, lv, .long y :: .long x :: st => znp [¬ y = 0] (pc + len) lv (.long (x / y) :: st) sh M
    | .lrem, lv, .long y :: .long x :: st => znp [¬ y = 0] (pc + len) lv (.long (x - x / y * y) :: st) sh M
    | .lcmp, lv, .long y :: .long x :: st => znx (pc + len) lv (.int (lg_cmp x y) :: st) sh M
    | .i2l, lv, .int x :: st => znx (pc + len) lv (.long x.toInt64 :: st) sh M
    | .dup, lv, va :: st => match zN1 va with
      | true => znx (pc + len) lv (va :: va :: st) sh M
      | false => none
    | .dup2, lv, va :: vb :: st => match zN1 va, zN1 vb with
      | true, true => znx (pc + len) lv (va :: vb :: va :: vb :: st) sh M
      | _, _ => none
    | .pop, lv, va :: st => match zN1 va with
      | true => znx (pc + len) lv st sh M
      | false => none
    | .goto _, lv, st => znx a lv st sh M
    | .ifCond c0 _, lv, .int x :: st => some ([], .inr (.inl (zcz c0 x, a, (pc + len, lv, st, sh, M))))
    | .if_icmp c0 _, lv, .int y :: .int x :: st => some ([], .inr (.inl (zcc c0 x y, a, (pc + len, lv, st, sh, M))))
    | .tableswitch _ lo hi _, lv, .int x :: st => znx (ztab lo hi a ts x) lv st sh M
    | .lookupswitch _ ps, lv, .int x :: st => znx (zlup ps.toList ts a x.toInt) lv st sh M
    | .iaload, lv, .int i :: .ref 0 :: st => znp [vp_in i S.1] (pc + len) lv (.int (S.2 i.toNatClampNeg) :: st) sh M
    | .iaload, lv, .int i :: .ref (k + 1) :: st => match zar sh k with
      | some (0, n) => znp [vp_in i n] (pc + len) lv (.int (M (k + 1) i.toNatClampNeg) :: st) sh M
      | _ => none
    | .baload, lv, .int i :: .ref (k + 1) :: st => match zar sh k with
      | some (1, n) => znp [vp_in i n] (pc + len) lv (.int (M (k + 1) i.toNatClampNeg) :: st) sh M
      | _ => none
    | .iastore, lv, .int x :: .int i :: .ref (k + 1) :: st => match zar sh k with
      | some (0, n) => znp [vp_in i n] (pc + len) lv st sh (zw M (k + 1) i.toNatClampNeg x)
      | _ => none
    | .bastore, lv, .int x :: .int i :: .ref (k + 1) :: st => match zar sh k with
      | some (1, n) => znp [vp_in i n, x = 0 ∨ x = 1] (pc + len) lv st sh (zw M (k + 1) i.toNatClampNeg x)
      | _ => none
    | .arraylength, lv, .ref 0 :: st => znx (pc + len) lv (.int (Int32.ofNat S.1) :: st) sh M
    | .arraylength, lv, .ref (k + 1) :: st => match zar sh k with
      | some (0, n) => znx (pc + len) lv (.int (Int32.ofNat n) :: st) sh M
      | some (1, n) => znx (pc + len) lv (.int (Int32.ofNat n) :: st) sh M
      | _ => none
    | .aaload, lv, .int i :: .ref (k + 1) :: st => match sh[k]? with
      | some (2, n, fs) => match fs.getD i.toNatClampNeg .null with
        | .ref q => znp [vp_in i n] (pc + len) lv (.ref q :: st) sh M
        | _ => none
      | _ => none
    | .aastore, lv, .ref (q + 1) :: .int i :: .ref (k + 1) :: st => match sh[k]?, zkind sh q with
      | some (2, n, fs), some 9 => znp [vp_in i n, i.toNatClampNeg < fs.length] (pc + len) lv st (sh.set k (2, n, fs.set i.toNatClampNeg (.ref (q + 1)))) M
      | _, _ => none
    | .getfield _, lv, .ref r :: st => zgf a b r (pc + len) lv st sh M
    | .putfield _, lv, x :: .ref r :: st => zpf a b c x r (pc + len) lv st sh M
    | .new _, lv, st => znp [∀ j, M (sh.length + 1) j = 0] (pc + len) lv (.ref (sh.length + 1) :: st) (sh ++ [(a + 3, b, zdf a)]) M
    | .newarray _, lv, .int n :: st => znp [¬ n < 0, n.toNatClampNeg ≤ 100000, ∀ j, M (sh.length + 1) j = 0] (pc + len) lv (.ref (sh.length + 1) :: st) (sh ++ [(a, n.toNatClampNeg, [])]) M
    | .anewarray _, lv, .int n :: st => znp [¬ n < 0, n.toNatClampNeg ≤ 100000] (pc + len) lv (.ref (sh.length + 1) :: st) (sh ++ [(2, n.toNatClampNeg, List.replicate n.toNatClampNeg .null)]) M
    | .invokevirtual _, lv, st => match st.drop b with
      | .ref (k + 1) :: rest => match zkind sh k with
        | some kd => match Nat.beq kd (c + 3) with
          | true => zcall a b (.ref (k + 1) :: (st.take b).reverse) rest (pc + len) lv sh M
          | false => none
        | none => none
      | _ => none
    | .invokestatic _, lv, st => match c with
      | 0 => match Nat.ble b st.length with
        | true => zcall a b (st.take b).reverse (st.drop b) (pc + len) lv sh M
        | false => none
      | 1 => zcpy (st.take 5).reverse (st.drop 5) (pc + len) lv sh M
      | k + 2 => zmath k st (pc + len) lv sh M
    | .invokespecial _, lv, st => match c with
      | 0 => match st with
        | .ref _ :: rest => match Nat.ble (zcats rest) 8 with
          | true => znx (pc + len) lv rest sh M
          | false => none
        | _ => none
      | _ => match st.drop b with
        | .ref (k + 1) :: rest => zcall a b (.ref (k + 1) :: (st.take b).reverse) rest (pc + len) lv sh M
        | _ => none
    | .ireturn, _, [.int x] => match c with
      | 0 => some ([], .inr (.inr (.inr (some (.int x), sh, M))))
      | _ => some ([x = 0 ∨ x = 1], .inr (.inr (.inr (some (.int x), sh, M))))
    | .lreturn, _, [.long x] => some ([], .inr (.inr (.inr (some (.long x), sh, M))))
    | .return_, _, [] => some ([], .inr (.inr (.inr (none, sh, M))))
    | _, _, _ => none
def zgo1 (S : zSc) (y : Nat) (s : zC) : zRr := match s with
  | (pc, lv, st, sh, M) => match zlk pc (zcode y) with
    | none => none
    | some e => zstep S e lv st sh M
def zsl (sh : List zS) : Nat := (sh.map fun s => s.2.1).sum
/-- within f steps the method returns, with Q -/
def zX (S : zSc) : Nat → Nat → zC → (Option Value → List zS → zM → Prop) → Prop
  | 0, _, _, _ => False
  | f + 1, y, s, Q => match zgo1 S y s with
    | none => False
    | some (ps, .inl s') => zall ps ∧ zX S f y s' Q
    | some (ps, .inr (.inl (P, t, (pc, lv, st, sh, M)))) => zall ps ∧ (P → zX S f y (t, lv, st, sh, M) Q) ∧ (¬ P → zX S f y (pc, lv, st, sh, M) Q)
    | some (ps, .inr (.inr (.inl (y', as, (pc, lv, st, sh, M))))) => zall ps ∧ zX S f y' (0, lv_args 0 as, [], sh, M) (fun r sh' M' => (sh'.length = sh.length + zmc y' ∧ zsl sh' = zsl sh + zms y') ∧ zX S f y (pc, lv, r.toList ++ st, sh', M') Q)
    | some (ps, .inr (.inr (.inr (r, sh, M)))) => zall ps ∧ Q r sh M
end
section
/-! The plain machine's cells as the machine's heap. b: the script's cell; base: where the cells begin. -/
abbrev zG : Type := Nat × Nat × va_G × ClassId × ClassId × ClassId
def zad (G : zG) (r : Nat) : Nat := match r with
  | 0 => G.1
  | k + 1 => G.2.1 + k
def ztr (G : zG) (v : Value) : Value := match v with
  | .ref r => .ref (zad G r)
  | .int x => .int x
  | .long x => .long x
  | .float x => .float x
  | .double x => .double x
  | .null => .null
  | .retAddr x => .retAddr x
theorem ztr_cat (G : zG) (v : Value) : (ztr G v).category = v.category := by cases v <;> rfl
def zfv (G : zG) (x : Int32) (v : Value) : Value := match v with
  | .int _ => .int x
  | v => ztr G v
def zrf (G : zG) (v : Value) : Option Nat := match v with
  | .ref r => some (zad G r)
  | _ => none
def zcell (G : zG) (k : Nat) (s : zS) (f : Nat → Int32) : va_E := match s with
  | (0, n, _) => .inl (G.2.2.2.1, n, .inl f)
  | (1, n, _) => .inl (G.2.2.2.2.1, n, .inl f)
  | (2, n, fs) => .inl (G.2.2.2.2.2, n, .inr (.inr (.inr (.inr (fun j => zrf G (fs.getD j .null))))))
  | (c + 3, _, fs) => .inr (c, fs.mapIdx (fun j v => zfv G (f j) v))
def zws (G : zG) (sh : List zS) (M : zM) : va_W := sh.mapIdx (fun k s => (G.2.1 + k, zcell G k s (M (k + 1))))
theorem zcell_k {G : zG} {k j : Nat} {s : zS} {f : Nat → Int32} : zcell G k s f = zcell G j s f := by
  obtain ⟨a, n, fs⟩ := s
  match a with
  | 0 => rfl
  | 1 => rfl
  | 2 => rfl
  | c + 3 => rfl
theorem zws_get {G : zG} {sh : List zS} {M : zM} {k : Nat} {s : zS} (h : sh[k]? = some s) : (zws G sh M)[k]? = some (G.2.1 + k, zcell G k s (M (k + 1))) := by
  simp [zws, List.getElem?_mapIdx, h]
theorem zws_at {G : zG} {sh : List zS} {M : zM} {k : Nat} {p : Nat × va_E} (h : (zws G sh M)[k]? = some p) : p.1 = G.2.1 + k ∧ k < sh.length := by
  rw [zws, List.getElem?_mapIdx] at h
  cases hs : sh[k]? with
  | none => rw [hs] at h; cases h
  | some s =>
    rw [hs] at h
    cases h
    exact ⟨rfl, (List.getElem?_eq_some_iff.mp hs).1⟩
theorem zws_D (G : zG) (sh : List zS) (M : zM) : va_D (fun q => G.2.1 ≤ q) (zws G sh M) := by
  refine ⟨fun i j p q hi hj hpq => ?_, fun k q h => ?_⟩
  · have h1 := (zws_at hi).1
    have h2 := (zws_at hj).1
    omega
  · have := (zws_at h).1
    show G.2.1 ≤ q.1
    omega
theorem zws_set {G : zG} {sh : List zS} {M M' : zM} {k : Nat} {s0 s : zS} (h : sh[k]? = some s0) (hM : ∀ q, q ≠ k + 1 → M' q = M q) : (zws G sh M).set k (G.2.1 + k, zcell G k s (M' (k + 1))) = zws G (sh.set k s) M' := by
  apply List.ext_getElem?
  intro i
  have hk : k < sh.length := (List.getElem?_eq_some_iff.mp h).1
  by_cases hi : k = i
  · subst hi
    rw [List.getElem?_set_self (by simp [zws, hk]), zws_get (s := s) (by rw [List.getElem?_set_self hk])]
  · rw [List.getElem?_set_ne hi, zws, zws, List.getElem?_mapIdx, List.getElem?_mapIdx, List.getElem?_set_ne hi]
    rw [hM (i + 1) (by omega)]
theorem zset_self {sh : List zS} {k : Nat} {s : zS} (h : sh[k]? = some s) : sh.set k s = sh := by
  apply List.ext_getElem?
  intro i
  have hk : k < sh.length := (List.getElem?_eq_some_iff.mp h).1
  by_cases hi : k = i
  · subst hi
    rw [List.getElem?_set_self hk, h]
  · rw [List.getElem?_set_ne hi]
theorem zA_self (M : zM) (r : Nat) (f : Nat → Int32) : zA M r f r = f := by simp [zA]
theorem zA_ne {M : zM} {r q : Nat} {f : Nat → Int32} (h : q ≠ r) : zA M r f q = M q := by simp [zA, h]
/-- numbers of one cell written -/
theorem zws_write {G : zG} {sh : List zS} {M : zM} {k : Nat} {s : zS} (f : Nat → Int32) (h : sh[k]? = some s) : (zws G sh M).set k (G.2.1 + k, zcell G k s f) = zws G sh (zA M (k + 1) f) := by
  have h1 := zws_set (G := G) (M := M) (M' := zA M (k + 1) f) (s := s) h (fun q hq => zA_ne hq)
  rw [zA_self, zset_self h] at h1
  exact h1
theorem zws_push (G : zG) (sh : List zS) (M : zM) (s : zS) : zws G (sh ++ [s]) M = zws G sh M ++ [(G.2.1 + sh.length, zcell G sh.length s (M (sh.length + 1)))] := by
  simp [zws, List.mapIdx_concat]
/-- the heap holds the cells, and nothing lies behind them -/
def zH (G : zG) (sh : List zS) (M : zM) (H : Heap) : Prop := H.size = G.2.1 + sh.length ∧ va_P G.2.2.1 zcl (zws G sh M) H
abbrev ztys (G : zG) : List (ClassId × FieldType) := [(G.2.2.2.1, .int), (G.2.2.2.2.1, .boolean), (G.2.2.2.2.2, .object "SugarBelow$Town")]
def zK (G : zG) (U : State) : Prop := va_K G.2.2.1 zcl (ztys G) U ∧ (∀ w ∈ znest, va_Nw w U) ∧ va_AO "SugarBelow$Town" U
theorem zK.warm {G : zG} {s U : State} (hW : s.WarmedH U.vm) (h : zK G s) : zK G U := by
  refine ⟨va_K.moved hW.alike h.1, fun w hw => ?_, h.2.2.moved hW.alike⟩
  have h1 := h.2.1 w hw
  simp only [znest, List.mem_cons, List.not_mem_nil, or_false] at hw
  rcases hw with rfl | rfl | rfl | rfl | rfl | rfl <;> exact va_Nw.warmM hW h1
theorem zK.call {G : zG} {U : State} {g : JFrame} {mk : MethodId} {a : Array Value} (h : zK G U) : zK G (U.calling g mk a) := by
  refine ⟨va_K.moved (u := U) (U := U.calling g mk a) (Vm.Alike.refl U.vm) h.1, fun w hw => ?_, h.2.2.moved (U := U.calling g mk a) (Vm.Alike.refl U.vm)⟩
  have h1 := h.2.1 w hw
  simp only [znest, List.mem_cons, List.not_mem_nil, or_false] at hw
  rcases hw with rfl | rfl | rfl | rfl | rfl | rfl <;> exact va_Nw.same rfl (U := U.calling g mk a) rfl h1
/-! locals -/
def zlm (G : zG) (lv : zL) : List (Nat × Value) := lv.map (fun q => (q.1, ztr G q.2))
theorem zget_mem {i : Nat} : ∀ {lv : zL} {v : Value}, zget i lv = some v → (i, v) ∈ lv
  | [], _, h => by cases h
  | q :: l, v, h => by
    unfold zget at h
    cases hb : Nat.beq q.1 i with
    | true =>
      rw [hb] at h
      cases h
      have : q.1 = i := Nat.eq_of_beq_eq_true hb
      subst this
      exact List.mem_cons_self
    | false =>
      rw [hb] at h
      exact List.mem_cons_of_mem _ (zget_mem h)
theorem zget_lm {G : zG} {i : Nat} {lv : zL} {v : Value} (h : zget i lv = some v) : (i, ztr G v) ∈ zlm G lv := List.mem_map.mpr ⟨(i, v), zget_mem h, rfl⟩
theorem zlv_at {G : zG} {ls : Array Slot} {n i : Nat} {lv : zL} {v : Value} (hl : lv_has ls n (zlm G lv)) (h : zget i lv = some v) : ls[i]? = some (.val (ztr G v)) := hl.2.2 _ (zget_lm h)
theorem zpk_mem {q : Nat × Value} : ∀ {ks : List Nat} {lv : zL}, q ∈ zpk ks lv → q ∈ lv
  | [], _, h => by simp [zpk] at h
  | k :: ks, lv, h => by
    unfold zpk at h
    cases hk : zget k lv with
    | none => rw [hk] at h; exact zpk_mem h
    | some v =>
      rw [hk] at h
      rcases List.mem_cons.mp h with rfl | h
      · exact zget_mem hk
      · exact zpk_mem h
theorem zpick_mem {q : Nat × Value} {ks : List Nat} {lv : zL} (h : q ∈ zpick ks lv) : q ∈ lv := by
  cases ks with
  | nil => exact h
  | cons k l => exact zpk_mem h
theorem zpick_has {G : zG} {ls : Array Slot} {n : Nat} {lv : zL} (ks : List Nat) (hl : lv_has ls n (zlm G lv)) : lv_has ls n (zlm G (zpick ks lv)) := by
  refine ⟨hl.1, hl.2.1, fun q hq => ?_⟩
  obtain ⟨p, hp, rfl⟩ := List.mem_map.mp hq
  exact hl.2.2 _ (List.mem_map.mpr ⟨p, zpick_mem hp, rfl⟩)
theorem zput1_lm (G : zG) (i : Nat) (v : Value) (lv : zL) : (i, ztr G v) :: (zlm G lv).filter (fun q => !(q.1 == i) && !(q.1 + 1 == i && q.2.category == 2)) = zlm G (zput1 i v lv) := by
  simp only [zlm, zput1, List.map_cons, List.filter_map]
  congr 2
  apply List.filter_congr
  intro q _
  simp [ztr_cat]
theorem zput2_lm (G : zG) (i : Nat) (v : Value) (lv : zL) : (i, ztr G v) :: (zlm G lv).filter (fun q => !(q.1 == i) && (!(q.1 == i + 1) && !(q.1 + 1 == i && q.2.category == 2))) = zlm G (zput2 i v lv) := by
  simp only [zlm, zput2, List.map_cons, List.filter_map]
  congr 2
  apply List.filter_congr
  intro q _
  simp [ztr_cat]
theorem zlv_args (G : zG) : ∀ (i : Nat) (as : List Value), lv_args i (as.map (ztr G)) = zlm G (lv_args i as)
  | _, [] => rfl
  | i, v :: vs => by
    simp only [List.map_cons, lv_args, zlm, ztr_cat]
    rw [zlv_args G _ vs]
    rfl
theorem zcats_map (G : zG) (st : List Value) : ((st.map (ztr G)).map fun v => v.category).sum = zcats st := by
  rw [zcats, List.map_map]
  congr 1
  apply List.map_congr_left
  intro v _
  exact ztr_cat G v
theorem zlg_sl (G : zG) (as : List Value) : (lg_sl (as.map (ztr G))).length = zcats as := by
  induction as with
  | nil => rfl
  | cons v vs ih =>
    have e : lg_sl ((v :: vs).map (ztr G)) = (if (ztr G v).category = 2 then [.val (ztr G v), .second] else [.val (ztr G v)]) ++ lg_sl (vs.map (ztr G)) := rfl
    rw [e, List.length_append, ih, ztr_cat]
    have e2 : zcats (v :: vs) = v.category + zcats vs := by simp [zcats]
    rw [e2]
    rcases lv_cat v with h | h <;> simp [h]
/-! the words of a link -/
theorem zbeq {a b : Nat} : Nat.beq a b = true ↔ a = b := ⟨Nat.eq_of_beq_eq_true, fun h => by subst h; exact Nat.beq_refl a⟩
theorem zble {a b : Nat} : Nat.ble a b = true ↔ a ≤ b := ⟨Nat.le_of_ble_eq_true, Nat.ble_eq_true_of_le⟩
theorem zblt {a b : Nat} : Nat.blt a b = true ↔ a < b := zble
theorem zF_of {y i a b : Nat} (h : zhasF y i a b = true) : ∃ r : vw_C, zcl[a]? = some r ∧ b < r.2.2 ∧ Cond.fieldLink (zown (zmo y)) i (r.2.1 b).1 (r.2.1 b).2.1 (r.2.1 b).2.2.1 ∈ lw_tbl ∧ (r.2.1 b).1 = r.1 := by
  obtain ⟨⟨o, i', a', b', p⟩, hq, hb⟩ := List.any_eq_true.mp h
  simp only [Bool.and_eq_true, zbeq] at hb
  obtain ⟨⟨⟨h1, h2⟩, h3⟩, h4⟩ := hb
  subst h1; subst h2; subst h3; subst h4
  have hk := List.all_eq_true.mp zFL_ok _ hq
  unfold zflb at hk
  cases hc : zcl[a']? with
  | none => simp [hc] at hk
  | some r =>
    simp only [hc, Bool.and_eq_true] at hk
    exact ⟨r, rfl, zblt.mp hk.1.1, zat_mem hk.1.2, of_decide_eq_true hk.2⟩
theorem zC_of {y i a : Nat} (h : zhasC y i a = true) : ∃ r : vw_C, zcl[a]? = some r ∧ Cond.classLink (zown (zmo y)) i r.1 ∈ lw_tbl := by
  obtain ⟨⟨o, i', a', p⟩, hq, hb⟩ := List.any_eq_true.mp h
  simp only [Bool.and_eq_true, zbeq] at hb
  obtain ⟨⟨h1, h2⟩, h3⟩ := hb
  subst h1; subst h2; subst h3
  have hk := List.all_eq_true.mp zCL_ok _ hq
  unfold zclb at hk
  cases hc : zcl[a']? with
  | none => simp [hc] at hk
  | some r =>
    simp only [hc] at hk
    exact ⟨r, rfl, zat_mem hk⟩
theorem zM_of {y i k a b c : Nat} (h : zhasM y i k a b c = true) : ∃ p1 p2 p3 p4 : Nat, zmlb (zmo y, i, k, a, b, c, p1, p2, p3, p4) = true := by
  obtain ⟨⟨o, i', k', a', b', c', p1, p2, p3, p4⟩, hq, hb⟩ := List.any_eq_true.mp h
  simp only [Bool.and_eq_true, zbeq] at hb
  obtain ⟨⟨⟨⟨⟨h1, h2⟩, h3⟩, h4⟩, h5⟩, h6⟩ := hb
  subst h1; subst h2; subst h3; subst h4; subst h5; subst h6
  exact ⟨p1, p2, p3, p4, List.all_eq_true.mp zML_ok _ hq⟩
/-- what the tables say of a class of objects -/
theorem zcls_of {a : Nat} {r : vw_C} (h : zcl[a]? = some r) : (∀ w ∈ u_ws r.1 r.2.1 r.2.2, w ∈ lw_g) ∧ (∀ k, k < r.2.2 → parseFieldDescriptor (r.2.1 k).2.2.1 = some (zty r k)) ∧ (∀ x, x < r.2.2 → ∀ y, y < r.2.2 → x ≠ y → (r.2.1 x).2.1 ≠ (r.2.1 y).2.1) ∧ Cond.instantiable r.1 r.2.2 ∈ lw_g ∧ Cond.initialized r.1 ∈ lw_g ∧ (∀ k, k < r.2.2 → defaultValue (zty r k) = vp_V (zdf a) k) ∧ (zdf a).length = r.2.2 := by
  have ha : a < 11 := (List.getElem?_eq_some_iff.mp h).1
  have hk := List.all_eq_true.mp zcls_ok a (List.mem_range.mpr ha)
  unfold zclsb at hk
  simp only [h, Bool.and_eq_true, List.all_eq_true, List.mem_range, decide_eq_true_eq, zbeq, Bool.or_eq_true] at hk
  obtain ⟨⟨⟨⟨h1, h2⟩, h3⟩, h4⟩, h5⟩ := hk
  refine ⟨fun w hw => ?_, fun k hk => (h1 k hk).1.1.2, fun x hx y hy hne => ?_, zg (zat_mem h3) rfl, zg (zat_mem h4) rfl, fun k hk => (h1 k hk).2, h5⟩
  · obtain ⟨k, hk, rfl⟩ := List.mem_map.mp hw
    refine zg (zat_mem (h1 k (List.mem_range.mp hk)).1.1.1) ?_
    unfold u_lay
    split <;> rfl
  · rcases h2 x hx y hy with q | q
    · exact absurd q hne
    · exact q
end
section
section ZRows
variable {p : Program} {l : Launch} {e : Env} {R : Room} {s : State} {m : MethodId} {args : Array Value} {below : List Frame} {meth : Method} {c : Code} {H : Heap} {locs : List Loc} {cells slots : Nat} {Q : State → Prop}
variable {cc : ByteArray} {pc : Nat} {ls : Array Slot} {rest : List Value} {D : va_G} {A : Nat → Prop} {a : Nat} {tys : List (ClassId × FieldType)} {ws : va_W} {H0 : Heap}
theorem zr_put (hexec : p.tables.exec = Jvm.exec) (hb : c.code = cc) {own : String} {r : vw_C} {ci index k q0 : Nat} (hts : ∀ w ∈ lw_g, w.before args s = true) (hown : s.vm.findClass own = some m.cls) (hK : va_K D zcl tys s) (hP : va_P D zcl ws H) (hD : va_D A ws) (hS0 : va_S A H0 H locs) {fs : List Value} (he : ws[q0]? = some (a, .inr (ci, fs))) (hc : zcl[ci]? = some r) (hk : k < r.2.2) (hlink : (Cond.fieldLink own index (r.2.1 k).1 (r.2.1 k).2.1 (r.2.1 k).2.2.1).before args s = true) (hfin : (r.2.1 k).2.2.2 = false ∨ (meth.name = "<init>" ∧ (r.2.1 k).1 = own)) {v : Value} (hn : narrow (zty r k) v = v) (hfit : fits (zty r k) v = true) (hl : k < fs.length) (hdg : decode cc pc = .ok (.putfield index, 3))
    (kk : ∀ (H1 : Heap) (locs1 : List Loc), va_P D zcl (ws.set q0 (a, .inr (ci, fs.set k v))) H1 → H1.size = H.size → va_S A H0 H1 locs1 → W p l e R s m args below meth c H1 locs1 cells slots Q (F0 m (pc + 3) ls rest)) : W p l e R s m args below meth c H locs cells slots Q (F0 m pc ls (v :: .ref a :: rest)) := by
  obtain ⟨hin, hty, hnm, -⟩ := zcls_of hc
  have hap := va_apart (own := own) hts hin (zty r) hty hnm hK hc
  obtain ⟨r', h1, cell, q1, q2, q3, q4⟩ := hP q0 _ he
  have hr : r' = r := Option.some.inj (h1.symm.trans hc)
  subst hr
  obtain ⟨hS, hfc, kC, hkC, hkind⟩ := hK.1 ci _ hc
  obtain ⟨cf, kf, fi, f, hi, hsl⟩ := hS k hk
  have hlay := hts _ (hin _ (u_in_lay hk))
  have hst := (u_facts hfc hkC (u_lays hts hin hk) hi).1
  have last : ∀ H' : Heap, H'[a]? = some (cell.setSlot f.slot v) → H'.size = H.size → (∀ q, q ≠ a → H'[q]? = H[q]?) → W p l e R s m args below meth c H' (locs ++ [⟨a, f.slot⟩]) cells slots Q (F0 m (pc + 3) ls rest) := by
    intro H' e1 e2 e3
    rw [hsl] at e1 ⊢
    exact kk H' _ (hP.set hD he ⟨_, hc, t_OB.to (V := updV (vp_V fs) k v) ⟨_, e1, q2, q3, t_set q4 hap hk v⟩ (fun j _ => vp_updV_set hl v j)⟩ e3) e2 (hS0.put e2 e3 (hD.2 q0 _ he))
  by_cases hf : (r'.2.1 k).2.2.2 = true
  · rcases hfin with h | ⟨hin2, hdecl⟩
    · rw [hf] at h; cases h
    unfold u_lay at hlay
    rw [if_pos hf] at hlay
    have hcf : m.cls = cf := by
      obtain ⟨_, _, c', _, _, _, -, -, hf', -, -, -, hown2, -⟩ := Cond.laysFinal_spec hlay
      have e1 : c' = cf := by have := hi.symm.trans hf'; simp at this; exact this.1.symm
      rw [hdecl] at hown2
      rw [← e1]; exact Option.some.inj (hown.symm.trans hown2)
    have h6 := u_fits hfc hkC hkind (Or.inr hlay) hi (hty k hk) hn hfit
    exact W.putFinK hexec hb hown hlink hi hst hcf hin2 (by rw [q2]; exact h6) q1 q3 (by rw [hsl]; exact k2_hasslot (q4 k hk)) rfl rfl hdg last
  · unfold u_lay at hlay
    rw [if_neg hf] at hlay
    have h6 := u_store hfc hkC hkind hlay hi (hty k hk) hn hfit
    exact W.putK hexec hb (f := f) ⟨hown, hlink, ⟨_, _, _, hi⟩, hst⟩ (by rw [q2]; exact h6) q1 q3 (by rw [hsl]; exact k2_hasslot (q4 k hk)) rfl rfl hdg last
theorem zr_store {ty : FieldType} {cA : ClassId} {n q0 : Nat} {f : Nat → Int32} {i x : Int32} {H1 : Heap} (hP : va_P D zcl ws H) (hD : va_D A ws) (ha : ws[q0]? = some (a, .inl (cA, n, .inl f))) (e1 : H1[a]? = some ((vp_cell cA (n, .inl f)).setSlot i.toNatClampNeg (.int x))) (oq : ∀ q, q ≠ a → H1[q]? = H[q]?) : va_P D zcl (ws.set q0 (a, .inl (cA, n, .inl (upd f i.toNatClampNeg x)))) H1 := by
  refine hP.set hD ha ?_ oq
  show H1[a]? = some (vp_cell _ _)
  rw [e1, vp_cell_i, vp_cell_i, arrV_store]
  congr 2
  funext q
  by_cases hq : q = i.toNatClampNeg
  · subst hq
    simp [updV, upd]
  · simp [updV, upd, hq]
theorem zr_iast (hexec : p.tables.exec = Jvm.exec) (hb : c.code = cc) (hK : va_K D zcl tys s) (hP : va_P D zcl ws H) (hD : va_D A ws) (hS : va_S A H0 H locs) {q0 : Nat} (t0 : Nat) {cA : ClassId} {n : Nat} {f : Nat → Int32} (ha : ws[q0]? = some (a, .inl (cA, n, .inl f))) (ht : tys[t0]? = some (cA, .int)) {i x : Int32} (hin : vp_in i n) (hdg : decode cc pc = .ok (.iastore, 1))
    (kk : ∀ (H1 : Heap) (locs1 : List Loc), va_P D zcl (ws.set q0 (a, .inl (cA, n, .inl (upd f i.toNatClampNeg x)))) H1 → H1.size = H.size → va_S A H0 H1 locs1 → W p l e R s m args below meth c H1 locs1 cells slots Q (F0 m (pc + 1) ls rest)) : W p l e R s m args below meth c H locs cells slots Q (F0 m pc ls (.int x :: .int i :: .ref a :: rest)) := by
  refine W.iast hexec hb (hP q0 _ ha) ((hK.2 t0 _ ht).1 n (fun j => .int (f j))) (fun q => by cases q) (by show ¬ (i < 0 ∨ (arrV _ _ _).slots.size ≤ _); rw [arrV_size]; exact hin) rfl rfl hdg fun H1 e1 z oq => ?_
  exact kk H1 _ (zr_store (ty := .int) hP hD ha e1 oq) z (hS.put z oq (hD.2 q0 _ ha))
theorem zr_zast (hexec : p.tables.exec = Jvm.exec) (hb : c.code = cc) (hK : va_K D zcl tys s) (hP : va_P D zcl ws H) (hD : va_D A ws) (hS : va_S A H0 H locs) {q0 : Nat} (t0 : Nat) {cA : ClassId} {n : Nat} {f : Nat → Int32} (ha : ws[q0]? = some (a, .inl (cA, n, .inl f))) (ht : tys[t0]? = some (cA, .boolean)) {i x : Int32} (hin : vp_in i n) (hx : x = 0 ∨ x = 1) (hdg : decode cc pc = .ok (.bastore, 1))
    (kk : ∀ (H1 : Heap) (locs1 : List Loc), va_P D zcl (ws.set q0 (a, .inl (cA, n, .inl (upd f i.toNatClampNeg x)))) H1 → H1.size = H.size → va_S A H0 H1 locs1 → W p l e R s m args below meth c H1 locs1 cells slots Q (F0 m (pc + 1) ls rest)) : W p l e R s m args below meth c H locs cells slots Q (F0 m pc ls (.int x :: .int i :: .ref a :: rest)) := by
  have hn : narrow .boolean (.int x) = .int x := by rcases hx with rfl | rfl <;> decide
  refine W.zast hexec hb (hP q0 _ ha) ((hK.2 t0 _ ht).1 n (fun j => .int (f j))) (fun q => by cases q) (by show ¬ (i < 0 ∨ (arrV _ _ _).slots.size ≤ _); rw [arrV_size]; exact hin) rfl rfl hdg fun H1 e1 z oq => ?_
  rw [hn] at e1
  exact kk H1 _ (zr_store (ty := .boolean) hP hD ha e1 oq) z (hS.put z oq (hD.2 q0 _ ha))
theorem zr_kept {H1 : Heap} {h : Nat} (hh : H.size = h) (hP : va_P D zcl ws H) (o1 : ∀ q, q < h → H1[q]? = H[q]?) : va_P D zcl ws H1 := hP.kept (fun k x hx => o1 x.1 (by rw [← hh]; exact (hP k x hx).lt))
theorem zr_S {H1 : Heap} {h : Nat} (hh : H.size = h) (z1 : H1.size = h + 1) (hS : va_S A H0 H locs) (o1 : ∀ q, q < h → H1[q]? = H[q]?) : va_S A H0 H1 locs := by
  subst hh
  exact ⟨Nat.le_trans hS.1 (by omega), fun x h1 h2 => (o1 x (Nat.lt_of_lt_of_le h1 hS.1)).trans (hS.2.1 x h1 h2), hS.2.2⟩
theorem zr_one {H1 : Heap} {q : Nat × va_E} (h : va_at D zcl q H1) : va_P D zcl [q] H1 := by
  intro k x hx
  have hz : k < 1 := (List.getElem?_eq_some_iff.mp hx).1
  rw [show k = 0 by omega] at hx
  cases hx
  exact h
theorem zr_new (hexec : p.tables.exec = Jvm.exec) (hb : c.code = cc) {own : String} {r : vw_C} {ci index : Nat} (hts : ∀ w ∈ lw_g, w.before args s = true) (hown : s.vm.findClass own = some m.cls) (hcl : (Cond.classLink own index r.1).before args s = true) (hK : va_K D zcl tys s) (hP : va_P D zcl ws H) (hS : va_S A H0 H locs) (hc : zcl[ci]? = some r) (hcells : cells + 1 ≤ R.cells) (hslots : slots + r.2.2 ≤ R.slots) {h : Nat} (hh : H.size = h) (hdg : decode cc pc = .ok (.new index, 3))
    (kk : ∀ (H1 : Heap), va_P D zcl (ws ++ [(h, .inr (ci, zdf ci))]) H1 → H1.size = h + 1 → va_S A H0 H1 locs → W p l e R s m args below meth c H1 locs (cells + 1) (slots + r.2.2) Q (F0 m (pc + 3) ls (.ref h :: rest))) : W p l e R s m args below meth c H locs cells slots Q (F0 m pc ls rest) := by
  obtain ⟨hin, hty, -, hinst, hini, hfs, -⟩ := zcls_of hc
  have hKn := hK.1 ci _ hc
  refine W.newcK hexec hb hown hcl (hts _ hinst) (hts _ hini) rfl hdg hcells hslots hKn.2.1 hh fun H1 kC hkC e1 z1 o1 => ?_
  exact kk H1 ((zr_kept hh hP o1).app (zr_one ⟨_, hc, (u_born (zty r) hts hin hKn hkC e1 hty).to hfs⟩)) z1 (zr_S hh z1 hS o1)
theorem zr_newa (hexec : p.tables.exec = Jvm.exec) (hb : c.code = cc) {atype : ArrayType} {ty : FieldType} (hty : newarray.typeOf atype = ty) (harr : (Cond.arrayClass ty).before args s = true) {cA : ClassId} (hA : s.vm.findClass ("[" ++ ty.toString) = some cA) (hd : defaultValue ty = .int 0) (hby : componentBytes ty ≤ 4) (hP : va_P D zcl ws H) (hS : va_S A H0 H locs) {n : Int32} (hn : ¬ n < 0) (hN : n.toNatClampNeg ≤ 100000) (hcells : cells + 1 ≤ R.cells) (hslots : slots + n.toNatClampNeg ≤ R.slots) {h : Nat} (hh : H.size = h) (hdg : decode cc pc = .ok (.newarray atype, 2))
    (kk : ∀ (H1 : Heap), va_P D zcl (ws ++ [(h, .inl (cA, n.toNatClampNeg, .inl (fun _ => 0)))]) H1 → H1.size = h + 1 → va_S A H0 H1 locs → W p l e R s m args below meth c H1 locs (cells + 1) (slots + n.toNatClampNeg) Q (F0 m (pc + 2) ls (.ref h :: rest))) : W p l e R s m args below meth c H locs cells slots Q (F0 m pc ls (.int n :: rest)) := by
  subst hty
  have hb2 : n.toNatClampNeg * componentBytes (newarray.typeOf atype) ≤ 536870912 := Nat.le_trans (Nat.mul_le_mul hN hby) (Nat.le_of_ble_eq_true rfl)
  refine va_newaK hexec hb harr rfl hdg rfl hn rfl hb2 hcells hslots hh fun H1 cA' e1 z1 o1 hAr hNm => ?_
  have : cA' = cA := Option.some.inj (hNm.symm.trans hA)
  subst this
  rw [hd] at e1
  exact kk H1 ((zr_kept hh hP o1).app (zr_one e1)) z1 (zr_S hh z1 hS o1)
theorem zr_anew (hexec : p.tables.exec = Jvm.exec) (hb : c.code = cc) {own C : String} {index : Nat} (hown : s.vm.findClass own = some m.cls) (hcl : (Cond.classLink own index C).before args s = true) (hover : va_AO C s) {cA : ClassId} (hA : s.vm.findClass ("[" ++ (FieldType.object C).toString) = some cA) (hP : va_P D zcl ws H) (hS : va_S A H0 H locs) {n : Int32} (hn : ¬ n < 0) (hN : n.toNatClampNeg ≤ 100000) (hcells : cells + 1 ≤ R.cells) (hslots : slots + n.toNatClampNeg ≤ R.slots) {h : Nat} (hh : H.size = h) (hdg : decode cc pc = .ok (.anewarray index, 3))
    (kk : ∀ (H1 : Heap), va_P D zcl (ws ++ [(h, .inl (cA, n.toNatClampNeg, .inr (.inr (.inr (.inr (fun _ => none))))))]) H1 → H1.size = h + 1 → va_S A H0 H1 locs → W p l e R s m args below meth c H1 locs (cells + 1) (slots + n.toNatClampNeg) Q (F0 m (pc + 3) ls (.ref h :: rest))) : W p l e R s m args below meth c H locs cells slots Q (F0 m pc ls (.int n :: rest)) := by
  have hb2 : n.toNatClampNeg * 4 ≤ 536870912 := Nat.le_trans (Nat.mul_le_mul hN (Nat.le_refl 4)) (Nat.le_of_ble_eq_true rfl)
  refine W.anew hexec hb hown hcl (va_AO.use hover) rfl hdg rfl hn hb2 hcells hslots fun cA' kA comp f1 f2 f3 f4 => ?_
  have : cA' = cA := Option.some.inj (f1.symm.trans hA)
  subst this
  subst hh
  generalize hH1 : H.push ({ cls := cA', slots := Array.replicate n.toNatClampNeg .null, vm := .none } : Cell) = H1
  have z1 : H1.size = H.size + 1 := by rw [← hH1, Array.size_push]
  have e1 : H1[H.size]? = some (arrV cA' n.toNatClampNeg (fun _ => .null)) := by rw [← hH1, Array.getElem?_push_size, ← arrV_new]
  have o1 : ∀ q : Nat, q < H.size → H1[q]? = H[q]? := fun q hq => by rw [← hH1, Array.getElem?_push, if_neg (Nat.ne_of_lt hq)]
  exact kk H1 ((zr_kept rfl hP o1).app (zr_one e1)) z1 (zr_S rfl z1 hS o1)
theorem zr_aast (hexec : p.tables.exec = Jvm.exec) (hb : c.code = cc) (hK : va_K D zcl tys s) (hP : va_P D zcl ws H) (hD : va_D A ws) (hS : va_S A H0 H locs) {q0 t0 qk ci : Nat} {cA : ClassId} {r : vw_C} {n v : Nat} {vs : List Value} {f : Nat → Option Nat} (ha : ws[q0]? = some (a, .inl (cA, n, .inr (.inr (.inr (.inr f)))))) (ht : tys[t0]? = some (cA, .object r.1)) (hv : ws[qk]? = some (v, .inr (ci, vs))) (hc : zcl[ci]? = some r) {i : Int32} (hin : vp_in i n) (hdg : decode cc pc = .ok (.aastore, 1))
    (kk : ∀ (H1 : Heap) (locs1 : List Loc), va_P D zcl (ws.set q0 (a, .inl (cA, n, .inr (.inr (.inr (.inr (va_up f i.toNatClampNeg (some v)))))))) H1 → H1.size = H.size → va_S A H0 H1 locs1 → W p l e R s m args below meth c H1 locs1 cells slots Q (F0 m (pc + 1) ls rest)) : W p l e R s m args below meth c H locs cells slots Q (F0 m pc ls (.ref v :: .int i :: .ref a :: rest)) := by
  have hlt : i.toNatClampNeg < n := Nat.not_le.mp fun q => hin (Or.inr q)
  have h0 : ¬ i < 0 := fun q => hin (Or.inl q)
  obtain ⟨r', hr', cellV, g1, g2, g3, -⟩ := hP qk _ hv
  have hcls := (hK.1 ci r hc).2
  obtain ⟨kA, comp, k1, k2, k3, -⟩ := (hK.2 t0 _ ht).2
  have hcomp : comp = D.1 ci := Option.some.inj (k3.symm.trans hcls.1)
  subst hcomp
  obtain ⟨kC, hkC, -⟩ := hcls.2
  refine W.aast hexec hb (hP q0 _ ha) (fun q h => by cases h) (fun h => by cases h) k1 k2 rfl hkC ⟨h0, by show _ < (arrV _ _ _).slots.size; rw [arrV_size]; exact hlt⟩ g1 (fun q h => by rw [g3] at h; cases h) (by rw [g2]; exact hkC) (by rw [g2]; exact va_assign hcls) rfl rfl hdg fun H1 e1 z oq => ?_
  refine kk H1 _ (hP.set hD ha ?_ oq) z (hS.put z oq (hD.2 q0 _ ha))
  show H1[a]? = some (vp_cell _ _)
  rw [e1, vp_cell_q, vp_cell_q, arrV_store]
  congr 2
  funext q
  by_cases hq : q = i.toNatClampNeg
  · subst hq
    simp [updV, va_up, va_rf]
  · simp [updV, va_up, hq]
theorem zr_copy (hexec : p.tables.exec = Jvm.exec) (hb : c.code = cc) (hml : c.maxLocals = ls.size) {own : String} {index : Nat} (hown : s.vm.findClass own = some m.cls) (hlink : (Cond.methodLink own index arraycopyName).before args s = true) (hnat : (Cond.native arraycopyName).before args s = true) (hstat : (Cond.static arraycopyName).before args s = true) (hini : (Cond.initialized "java/lang/System").before args s = true)
    (hK : va_K D zcl tys s) (hP : va_P D zcl ws H) (hD : va_D A ws) (hS : va_S A H0 H locs) {q0 q1 : Nat} (t0 : Nat) {a0 : Nat} {c0 : ClassId} {n0 n1 : Nat} {f g : Nat → Int32} (ha0 : ws[q0]? = some (a0, .inl (c0, n0, .inl f))) (ha1 : ws[q1]? = some (a, .inl (c0, n1, .inl g))) (ht0 : tys[t0]? = some (c0, .int))
    {sp dp n : Int32} (h1 : ¬ sp < 0) (h2 : ¬ dp < 0) (h3 : ¬ n < 0) (h4 : sp.toNatClampNeg + n.toNatClampNeg ≤ n0) (h5 : dp.toNatClampNeg + n.toNatClampNeg ≤ n1)
    (hframes : 1 ≤ R.frames) (hlocals : (rest.map fun v => v.category).sum + 18 ≤ R.locals) (hdg : decode cc pc = .ok (.invokestatic index, 3))
    (kk : ∀ (H1 : Heap) (locs1 : List Loc), va_P D zcl (ws.set q1 (a, .inl (c0, n1, .inl (va_cpy f g sp.toNatClampNeg dp.toNatClampNeg n.toNatClampNeg)))) H1 → H1.size = H.size → va_S A H0 H1 locs1 → W p l e R s m args below meth c H1 locs1 cells slots Q (F0 m (pc + 3) ls rest)) : W p l e R s m args below meth c H locs cells slots Q (F0 m pc ls (.int n :: .int dp :: .ref a :: .int sp :: .ref a0 :: rest)) := by
  have nn : ∀ z : Int32, ¬ z < 0 → z.toInt = (z.toNatClampNeg : Int) := by
    intro z hz
    have hz0 : (0 : Int) ≤ z.toInt := by
      have := Int32.not_lt.mp hz
      simpa using Int32.le_iff_toInt_le.mp this
    show z.toInt = ((z.toInt.toNat : Nat) : Int)
    omega
  intro T hT X
  have hc0 : H[a0]? = some (vp_cell c0 (n0, .inl f)) := hP q0 _ ha0
  have hc1 : H[a]? = some (vp_cell c0 (n1, .inl g)) := hP q1 _ ha1
  obtain ⟨-, k0, hk0, cm0, hkk0⟩ := (hK.2 t0 _ ht0).1 n0 (fun j => .int (f j))
  obtain ⟨vm', X', step⟩ := X.arraycopy hexec hown hlink hnat hstat hini (src := a0) (dst := a) (cs := vp_cell c0 (n0, .inl f)) (cd := vp_cell c0 (n1, .inl g)) (srcPos := sp) (destPos := dp) (n := n) (by rw [hT]; exact hc0) (by rw [hT]; exact hc1)
    (fun _ h => by cases h) (fun _ h => by cases h) (fun h => by cases h) (fun h => by cases h) hk0 hk0 hkk0 hkk0 (by simp [show refKind (.int : FieldType) = false from rfl]) h1 h2 h3
    (by rw [nn sp h1, nn n h3]; show ¬ _ > ((arrV c0 n0 (fun j => .int (f j))).slots.size : Int); rw [arrV_size]; omega)
    (by rw [nn dp h2, nn n h3]; show ¬ _ > ((arrV c0 n1 (fun j => .int (g j))).slots.size : Int); rw [arrV_size]; omega)
    (fun vm₁ _ i hi => by
      have e2 : (vp_cell c0 (n0, .inl f)).slots.getD (sp.toNatClampNeg + i) .null = .int (f (sp.toNatClampNeg + i)) := by
        show (arrV c0 n0 (fun j => .int (f j))).slots.getD _ _ = _
        rw [Array.getD_eq_getD_getElem?, arrV_read _ _ (by omega)]
        rfl
      refine ⟨?_, ?_⟩
      · rw [e2]; rfl
      · rw [e2]; exact trivial)
    (g := F0 m pc ls (.int n :: .int dp :: .ref a :: .int sp :: .ref a0 :: rest)) rfl (by rw [hml]) (rest := rest) rfl (by rw [hb]; exact hdg) hframes (by show 2 * 0 + _ + (7 + 11) ≤ _; omega)
  have e1 : copied (vp_cell c0 (n0, .inl f)) (vp_cell c0 (n1, .inl g)) sp dp n = vp_cell c0 (n1, .inl (va_cpy f g sp.toNatClampNeg dp.toNatClampNeg n.toNatClampNeg)) := va_copied (fun z => .int z) c0 c0 f g h4
  rw [e1] at X' step
  generalize vp_cell c0 (n1, .inl (va_cpy f g sp.toNatClampNeg dp.toNatClampNeg n.toNatClampNeg)) = new at X' step e1
  have hl : a < H.size := (Array.getElem?_eq_some_iff.mp hc1).1
  have hheap : ((T.setVm vm').setCell a new).heap = H.setIfInBounds a new := by rw [← hT]; rfl
  have oq : ∀ q : Nat, q ≠ a → (H.setIfInBounds a new)[q]? = H[q]? := fun q hq => by simp [Array.getElem?_setIfInBounds, Ne.symm hq]
  have e3 : copied (vp_cell c0 (n0, .inl f)) (vp_cell c0 (n1, .inl g)) sp dp n = vp_cell c0 (n1, .inl (va_cpy f g sp.toNatClampNeg dp.toNatClampNeg n.toNatClampNeg)) := va_copied (fun z => .int z) c0 c0 f g h4
  obtain ⟨t, a1, b1⟩ := kk _ _ (hP.set hD ha1 (show (H.setIfInBounds a new)[a]? = some (vp_cell c0 (n1, .inl (va_cpy f g sp.toNatClampNeg dp.toNatClampNeg n.toNatClampNeg))) by rw [← e3, e1]; simp [Array.getElem?_setIfInBounds, hl]) oq) (by simp) ⟨by simp; exact hS.1, fun q g1 g2 => by
      rw [oq q (fun e => g2 (by rw [e]; exact hD.2 q1 _ ha1))]
      exact hS.2.1 q g1 g2, fun q hq => by
      rcases List.mem_append.mp hq with h | h
      · exact hS.2.2 q h
      · obtain ⟨z, -, hz⟩ := List.mem_map.mp h
        rw [← hz]
        exact hD.2 q1 _ ha1⟩ _ hheap X'
  exact ⟨t, step t a1, b1⟩
end ZRows
end
section
/-- what a frame of method y stands on -/
def zFr (p : Program) (R : Room) (s : State) (m : MethodId) (args : Array Value) (meth : Method) (c : Code) (S : zSc) (G : zG) (y : Nat) : Prop :=
  p.tables.exec = Jvm.exec ∧ c.code = zmb y ∧ c.maxLocals = zmx y ∧ s.vm.findClass (zown (zmo y)) = some m.cls ∧ (∀ w ∈ lw_g, w.before args s = true) ∧ zK G s ∧ va_X G.1 S.1 S.2 s s.heap ∧ G.1 < G.2.1 ∧ G.2.1 ≤ s.heap.size ∧ (zini y = true → meth.name = "<init>") ∧ zfr y ≤ R.frames ∧ zlo y ≤ R.locals
/-- a continuation behind a step -/
def zKk (p : Program) (l : Launch) (e : Env) (R : Room) (s : State) (m : MethodId) (args : Array Value) (below : List Frame) (meth : Method) (c : Code) (cells slots : Nat) (Q : State → Prop) (G : zG) (y : Nat) (sh : List zS) (t : zC) : Prop := match t with
  | (pc', lv', st', sh', M') => ∀ (H' : Heap) (locs' : List Loc) (ls' : Array Slot) (cells' slots' : Nat), cells' + sh.length = cells + sh'.length → slots' + zsl sh = slots + zsl sh' → zH G sh' M' H' → va_S (fun q => G.2.1 ≤ q) s.heap H' locs' → lv_has ls' (zmx y) (zlm G lv') → W p l e R s m args below meth c H' locs' cells' slots' Q (F0 m pc' ls' (st'.map (ztr G)))

section ZOne
variable {p : Program} {l : Launch} {e : Env} {R : Room} {s : State} {m : MethodId} {args : Array Value} {below : List Frame} {meth : Method} {c : Code} {H : Heap} {locs : List Loc} {cells slots : Nat} {Q : State → Prop}
variable {S : zSc} {G : zG} {y : Nat} {ls : Array Slot} {pc pc' len a b k : Nat} {v : Value} {ts : List Nat} {lv lv' : zL} {st st' : List Value} {sh sh' : List zS} {M M' : zM} {ps : List Prop}

set_option maxHeartbeats 2000000 in
theorem zo_iconst {n : Int} (F : zFr p R s m args meth c S G y) (hd : decode (zmb y) pc = .ok (.iconst n, len)) (hlen : zlen (.iconst n) len = true) (hsp : zspec y (pc, .iconst n, len, v, a, b, k, [], ts) = true) (hs : zstep S (pc, .iconst n, len, v, a, b, k, [], ts) lv st sh M = some (ps, .inl (pc', lv', st', sh', M'))) (hps : zall ps) (hH : zH G sh M H) (hS : va_S (fun q => G.2.1 ≤ q) s.heap H locs) (hl : lv_has ls (zmx y) (zlm G lv)) (hcap : cells + sh'.length ≤ R.cells + sh.length) (hcap2 : slots + zsl sh' ≤ R.slots + zsl sh) (K : zKk p l e R s m args below meth c cells slots Q G y sh (pc', lv', st', sh', M')) : W p l e R s m args below meth c H locs cells slots Q (F0 m pc ls (st.map (ztr G))) := by
  obtain ⟨hx, hb, hml, hown, hts, hK, hX, hbb, hbs, hini, hfr, hlo⟩ := F
  have hlen : len = 1 := zbeq.mp hlen
  subst hlen
  have hv := of_decide_eq_true hsp
  subst hv
  change some (([] : List Prop), (Sum.inl (pc + 1, lv, _ :: st, sh, M) : zO)) = _ at hs
  cases hs
  exact lv_iconst hx hb hd rfl (K H locs ls cells slots rfl rfl hH hS hl)
set_option maxHeartbeats 2000000 in
theorem zo_bipush {n : Int} (F : zFr p R s m args meth c S G y) (hd : decode (zmb y) pc = .ok (.bipush n, len)) (hlen : zlen (.bipush n) len = true) (hsp : zspec y (pc, .bipush n, len, v, a, b, k, [], ts) = true) (hs : zstep S (pc, .bipush n, len, v, a, b, k, [], ts) lv st sh M = some (ps, .inl (pc', lv', st', sh', M'))) (hps : zall ps) (hH : zH G sh M H) (hS : va_S (fun q => G.2.1 ≤ q) s.heap H locs) (hl : lv_has ls (zmx y) (zlm G lv)) (hcap : cells + sh'.length ≤ R.cells + sh.length) (hcap2 : slots + zsl sh' ≤ R.slots + zsl sh) (K : zKk p l e R s m args below meth c cells slots Q G y sh (pc', lv', st', sh', M')) : W p l e R s m args below meth c H locs cells slots Q (F0 m pc ls (st.map (ztr G))) := by
  obtain ⟨hx, hb, hml, hown, hts, hK, hX, hbb, hbs, hini, hfr, hlo⟩ := F
  have hlen : len = 2 := zbeq.mp hlen
  subst hlen
  have hv := of_decide_eq_true hsp
  subst hv
  change some (([] : List Prop), (Sum.inl (pc + 2, lv, _ :: st, sh, M) : zO)) = _ at hs
  cases hs
  exact lv_bipush hx hb hd rfl (K H locs ls cells slots rfl rfl hH hS hl)
set_option maxHeartbeats 2000000 in
theorem zo_sipush {n : Int} (F : zFr p R s m args meth c S G y) (hd : decode (zmb y) pc = .ok (.sipush n, len)) (hlen : zlen (.sipush n) len = true) (hsp : zspec y (pc, .sipush n, len, v, a, b, k, [], ts) = true) (hs : zstep S (pc, .sipush n, len, v, a, b, k, [], ts) lv st sh M = some (ps, .inl (pc', lv', st', sh', M'))) (hps : zall ps) (hH : zH G sh M H) (hS : va_S (fun q => G.2.1 ≤ q) s.heap H locs) (hl : lv_has ls (zmx y) (zlm G lv)) (hcap : cells + sh'.length ≤ R.cells + sh.length) (hcap2 : slots + zsl sh' ≤ R.slots + zsl sh) (K : zKk p l e R s m args below meth c cells slots Q G y sh (pc', lv', st', sh', M')) : W p l e R s m args below meth c H locs cells slots Q (F0 m pc ls (st.map (ztr G))) := by
  obtain ⟨hx, hb, hml, hown, hts, hK, hX, hbb, hbs, hini, hfr, hlo⟩ := F
  have hlen : len = 3 := zbeq.mp hlen
  subst hlen
  have hv := of_decide_eq_true hsp
  subst hv
  change some (([] : List Prop), (Sum.inl (pc + 3, lv, _ :: st, sh, M) : zO)) = _ at hs
  cases hs
  exact lv_sipush hx hb hd rfl (K H locs ls cells slots rfl rfl hH hS hl)
set_option maxHeartbeats 2000000 in
theorem zo_lconst {n : Fin 2} (F : zFr p R s m args meth c S G y) (hd : decode (zmb y) pc = .ok (.lconst n, len)) (hlen : zlen (.lconst n) len = true) (hsp : zspec y (pc, .lconst n, len, v, a, b, k, [], ts) = true) (hs : zstep S (pc, .lconst n, len, v, a, b, k, [], ts) lv st sh M = some (ps, .inl (pc', lv', st', sh', M'))) (hps : zall ps) (hH : zH G sh M H) (hS : va_S (fun q => G.2.1 ≤ q) s.heap H locs) (hl : lv_has ls (zmx y) (zlm G lv)) (hcap : cells + sh'.length ≤ R.cells + sh.length) (hcap2 : slots + zsl sh' ≤ R.slots + zsl sh) (K : zKk p l e R s m args below meth c cells slots Q G y sh (pc', lv', st', sh', M')) : W p l e R s m args below meth c H locs cells slots Q (F0 m pc ls (st.map (ztr G))) := by
  obtain ⟨hx, hb, hml, hown, hts, hK, hX, hbb, hbs, hini, hfr, hlo⟩ := F
  have hlen : len = 1 := zbeq.mp hlen
  subst hlen
  have hv := of_decide_eq_true hsp
  subst hv
  change some (([] : List Prop), (Sum.inl (pc + 1, lv, _ :: st, sh, M) : zO)) = _ at hs
  cases hs
  exact lv_lconst hx hb hd rfl (K H locs ls cells slots rfl rfl hH hS hl)
set_option maxHeartbeats 2000000 in
theorem zo_ldc_w {n : Nat} (F : zFr p R s m args meth c S G y) (hd : decode (zmb y) pc = .ok (.ldc_w n, len)) (hlen : zlen (.ldc_w n) len = true) (hsp : zspec y (pc, .ldc_w n, len, v, a, b, k, [], ts) = true) (hs : zstep S (pc, .ldc_w n, len, v, a, b, k, [], ts) lv st sh M = some (ps, .inl (pc', lv', st', sh', M'))) (hps : zall ps) (hH : zH G sh M H) (hS : va_S (fun q => G.2.1 ≤ q) s.heap H locs) (hl : lv_has ls (zmx y) (zlm G lv)) (hcap : cells + sh'.length ≤ R.cells + sh.length) (hcap2 : slots + zsl sh' ≤ R.slots + zsl sh) (K : zKk p l e R s m args below meth c cells slots Q G y sh (pc', lv', st', sh', M')) : W p l e R s m args below meth c H locs cells slots Q (F0 m pc ls (st.map (ztr G))) := by
  obtain ⟨hx, hb, hml, hown, hts, hK, hX, hbb, hbs, hini, hfr, hlo⟩ := F
  have hlen : len = 3 := zbeq.mp hlen
  subst hlen
  obtain ⟨q, hq, hb2⟩ := List.any_eq_true.mp hsp
  simp only [Bool.and_eq_true, zbeq] at hb2
  obtain ⟨⟨h1, h2⟩, h3⟩ := hb2
  have hv := of_decide_eq_true h3
  subst hv
  have hw := zg (zat_mem (List.all_eq_true.mp zKI_ok q hq)) rfl
  rw [h1, h2] at hw
  change some (([] : List Prop), (Sum.inl (pc + 3, lv, _ :: st, sh, M) : zO)) = _ at hs
  cases hs
  exact lv_ldcw hx hb hown (hts _ hw) hd (K H locs ls cells slots rfl rfl hH hS hl)
set_option maxHeartbeats 2000000 in
theorem zo_ldc2_w {n : Nat} (F : zFr p R s m args meth c S G y) (hd : decode (zmb y) pc = .ok (.ldc2_w n, len)) (hlen : zlen (.ldc2_w n) len = true) (hsp : zspec y (pc, .ldc2_w n, len, v, a, b, k, [], ts) = true) (hs : zstep S (pc, .ldc2_w n, len, v, a, b, k, [], ts) lv st sh M = some (ps, .inl (pc', lv', st', sh', M'))) (hps : zall ps) (hH : zH G sh M H) (hS : va_S (fun q => G.2.1 ≤ q) s.heap H locs) (hl : lv_has ls (zmx y) (zlm G lv)) (hcap : cells + sh'.length ≤ R.cells + sh.length) (hcap2 : slots + zsl sh' ≤ R.slots + zsl sh) (K : zKk p l e R s m args below meth c cells slots Q G y sh (pc', lv', st', sh', M')) : W p l e R s m args below meth c H locs cells slots Q (F0 m pc ls (st.map (ztr G))) := by
  obtain ⟨hx, hb, hml, hown, hts, hK, hX, hbb, hbs, hini, hfr, hlo⟩ := F
  have hlen : len = 3 := zbeq.mp hlen
  subst hlen
  obtain ⟨q, hq, hb2⟩ := List.any_eq_true.mp hsp
  simp only [Bool.and_eq_true, zbeq] at hb2
  obtain ⟨⟨h1, h2⟩, h3⟩ := hb2
  have hv := of_decide_eq_true h3
  subst hv
  have hw := zg (zat_mem (List.all_eq_true.mp zKL_ok q hq)) rfl
  rw [h1, h2] at hw
  change some (([] : List Prop), (Sum.inl (pc + 3, lv, _ :: st, sh, M) : zO)) = _ at hs
  cases hs
  exact lv_ldc2 hx hb hown (hts _ hw) hd (K H locs ls cells slots rfl rfl hH hS hl)
set_option maxHeartbeats 2000000 in
theorem zo_iload_n {i : Fin 4} (F : zFr p R s m args meth c S G y) (hd : decode (zmb y) pc = .ok (.iload_n i, len)) (hlen : zlen (.iload_n i) len = true) (hsp : zspec y (pc, .iload_n i, len, v, a, b, k, [], ts) = true) (hs : zstep S (pc, .iload_n i, len, v, a, b, k, [], ts) lv st sh M = some (ps, .inl (pc', lv', st', sh', M'))) (hps : zall ps) (hH : zH G sh M H) (hS : va_S (fun q => G.2.1 ≤ q) s.heap H locs) (hl : lv_has ls (zmx y) (zlm G lv)) (hcap : cells + sh'.length ≤ R.cells + sh.length) (hcap2 : slots + zsl sh' ≤ R.slots + zsl sh) (K : zKk p l e R s m args below meth c cells slots Q G y sh (pc', lv', st', sh', M')) : W p l e R s m args below meth c H locs cells slots Q (F0 m pc ls (st.map (ztr G))) := by
  obtain ⟨hx, hb, hml, hown, hts, hK, hX, hbb, hbs, hini, hfr, hlo⟩ := F
  have hlen : len = 1 := zbeq.mp hlen
  subst hlen
  change zld i.val (pc + 1) lv st sh M 0 = _ at hs
  unfold zld at hs
  cases hg : zget i.val lv with
  | none => rw [hg] at hs; exact absurd (show (none : zRr) = some _ from hs) nofun
  | some x0 =>
    rw [hg] at hs
    rcases x0 with x | x | x | x | _ | x | x
    all_goals first | exact absurd (show (none : zRr) = some _ from hs) nofun | skip
    change some (([] : List Prop), (Sum.inl (pc + 1, lv, .int x :: st, sh, M) : zO)) = _ at hs
    cases hs
    exact lv_iload_n hx hb hd rfl (zlv_at hl hg) (K H locs ls cells slots rfl rfl hH hS hl)
set_option maxHeartbeats 2000000 in
theorem zo_iload {i : Nat} (F : zFr p R s m args meth c S G y) (hd : decode (zmb y) pc = .ok (.iload i, len)) (hlen : zlen (.iload i) len = true) (hsp : zspec y (pc, .iload i, len, v, a, b, k, [], ts) = true) (hs : zstep S (pc, .iload i, len, v, a, b, k, [], ts) lv st sh M = some (ps, .inl (pc', lv', st', sh', M'))) (hps : zall ps) (hH : zH G sh M H) (hS : va_S (fun q => G.2.1 ≤ q) s.heap H locs) (hl : lv_has ls (zmx y) (zlm G lv)) (hcap : cells + sh'.length ≤ R.cells + sh.length) (hcap2 : slots + zsl sh' ≤ R.slots + zsl sh) (K : zKk p l e R s m args below meth c cells slots Q G y sh (pc', lv', st', sh', M')) : W p l e R s m args below meth c H locs cells slots Q (F0 m pc ls (st.map (ztr G))) := by
  obtain ⟨hx, hb, hml, hown, hts, hK, hX, hbb, hbs, hini, hfr, hlo⟩ := F
  have hlen : len = 2 := zbeq.mp hlen
  subst hlen
  change zld i (pc + 2) lv st sh M 0 = _ at hs
  unfold zld at hs
  cases hg : zget i lv with
  | none => rw [hg] at hs; exact absurd (show (none : zRr) = some _ from hs) nofun
  | some x0 =>
    rw [hg] at hs
    rcases x0 with x | x | x | x | _ | x | x
    all_goals first | exact absurd (show (none : zRr) = some _ from hs) nofun | skip
    change some (([] : List Prop), (Sum.inl (pc + 2, lv, .int x :: st, sh, M) : zO)) = _ at hs
    cases hs
    exact lv_iload hx hb hd (zlv_at hl hg) (K H locs ls cells slots rfl rfl hH hS hl)
set_option maxHeartbeats 2000000 in
theorem zo_lload_n {i : Fin 4} (F : zFr p R s m args meth c S G y) (hd : decode (zmb y) pc = .ok (.lload_n i, len)) (hlen : zlen (.lload_n i) len = true) (hsp : zspec y (pc, .lload_n i, len, v, a, b, k, [], ts) = true) (hs : zstep S (pc, .lload_n i, len, v, a, b, k, [], ts) lv st sh M = some (ps, .inl (pc', lv', st', sh', M'))) (hps : zall ps) (hH : zH G sh M H) (hS : va_S (fun q => G.2.1 ≤ q) s.heap H locs) (hl : lv_has ls (zmx y) (zlm G lv)) (hcap : cells + sh'.length ≤ R.cells + sh.length) (hcap2 : slots + zsl sh' ≤ R.slots + zsl sh) (K : zKk p l e R s m args below meth c cells slots Q G y sh (pc', lv', st', sh', M')) : W p l e R s m args below meth c H locs cells slots Q (F0 m pc ls (st.map (ztr G))) := by
  obtain ⟨hx, hb, hml, hown, hts, hK, hX, hbb, hbs, hini, hfr, hlo⟩ := F
  have hlen : len = 1 := zbeq.mp hlen
  subst hlen
  change zld i.val (pc + 1) lv st sh M 1 = _ at hs
  unfold zld at hs
  cases hg : zget i.val lv with
  | none => rw [hg] at hs; exact absurd (show (none : zRr) = some _ from hs) nofun
  | some x0 =>
    rw [hg] at hs
    rcases x0 with x | x | x | x | _ | x | x
    all_goals first | exact absurd (show (none : zRr) = some _ from hs) nofun | skip
    change some (([] : List Prop), (Sum.inl (pc + 1, lv, .long x :: st, sh, M) : zO)) = _ at hs
    cases hs
    exact lv_lload_n hx hb hd rfl (zlv_at hl hg) (K H locs ls cells slots rfl rfl hH hS hl)
set_option maxHeartbeats 2000000 in
theorem zo_lload {i : Nat} (F : zFr p R s m args meth c S G y) (hd : decode (zmb y) pc = .ok (.lload i, len)) (hlen : zlen (.lload i) len = true) (hsp : zspec y (pc, .lload i, len, v, a, b, k, [], ts) = true) (hs : zstep S (pc, .lload i, len, v, a, b, k, [], ts) lv st sh M = some (ps, .inl (pc', lv', st', sh', M'))) (hps : zall ps) (hH : zH G sh M H) (hS : va_S (fun q => G.2.1 ≤ q) s.heap H locs) (hl : lv_has ls (zmx y) (zlm G lv)) (hcap : cells + sh'.length ≤ R.cells + sh.length) (hcap2 : slots + zsl sh' ≤ R.slots + zsl sh) (K : zKk p l e R s m args below meth c cells slots Q G y sh (pc', lv', st', sh', M')) : W p l e R s m args below meth c H locs cells slots Q (F0 m pc ls (st.map (ztr G))) := by
  obtain ⟨hx, hb, hml, hown, hts, hK, hX, hbb, hbs, hini, hfr, hlo⟩ := F
  have hlen : len = 2 := zbeq.mp hlen
  subst hlen
  change zld i (pc + 2) lv st sh M 1 = _ at hs
  unfold zld at hs
  cases hg : zget i lv with
  | none => rw [hg] at hs; exact absurd (show (none : zRr) = some _ from hs) nofun
  | some x0 =>
    rw [hg] at hs
    rcases x0 with x | x | x | x | _ | x | x
    all_goals first | exact absurd (show (none : zRr) = some _ from hs) nofun | skip
    change some (([] : List Prop), (Sum.inl (pc + 2, lv, .long x :: st, sh, M) : zO)) = _ at hs
    cases hs
    exact lv_lload hx hb hd (zlv_at hl hg) (K H locs ls cells slots rfl rfl hH hS hl)
set_option maxHeartbeats 2000000 in
theorem zo_aload_n {i : Fin 4} (F : zFr p R s m args meth c S G y) (hd : decode (zmb y) pc = .ok (.aload_n i, len)) (hlen : zlen (.aload_n i) len = true) (hsp : zspec y (pc, .aload_n i, len, v, a, b, k, [], ts) = true) (hs : zstep S (pc, .aload_n i, len, v, a, b, k, [], ts) lv st sh M = some (ps, .inl (pc', lv', st', sh', M'))) (hps : zall ps) (hH : zH G sh M H) (hS : va_S (fun q => G.2.1 ≤ q) s.heap H locs) (hl : lv_has ls (zmx y) (zlm G lv)) (hcap : cells + sh'.length ≤ R.cells + sh.length) (hcap2 : slots + zsl sh' ≤ R.slots + zsl sh) (K : zKk p l e R s m args below meth c cells slots Q G y sh (pc', lv', st', sh', M')) : W p l e R s m args below meth c H locs cells slots Q (F0 m pc ls (st.map (ztr G))) := by
  obtain ⟨hx, hb, hml, hown, hts, hK, hX, hbb, hbs, hini, hfr, hlo⟩ := F
  have hlen : len = 1 := zbeq.mp hlen
  subst hlen
  change zld i.val (pc + 1) lv st sh M 2 = _ at hs
  unfold zld at hs
  cases hg : zget i.val lv with
  | none => rw [hg] at hs; exact absurd (show (none : zRr) = some _ from hs) nofun
  | some x0 =>
    rw [hg] at hs
    rcases x0 with x | x | x | x | _ | x | x
    all_goals first | exact absurd (show (none : zRr) = some _ from hs) nofun | skip
    change some (([] : List Prop), (Sum.inl (pc + 1, lv, .ref x :: st, sh, M) : zO)) = _ at hs
    cases hs
    exact lv_aload_n hx hb hd rfl (zlv_at hl hg) (K H locs ls cells slots rfl rfl hH hS hl)
set_option maxHeartbeats 2000000 in
theorem zo_istore_n {i : Fin 4} (F : zFr p R s m args meth c S G y) (hd : decode (zmb y) pc = .ok (.istore_n i, len)) (hlen : zlen (.istore_n i) len = true) (hsp : zspec y (pc, .istore_n i, len, v, a, b, k, [], ts) = true) (hs : zstep S (pc, .istore_n i, len, v, a, b, k, [], ts) lv st sh M = some (ps, .inl (pc', lv', st', sh', M'))) (hps : zall ps) (hH : zH G sh M H) (hS : va_S (fun q => G.2.1 ≤ q) s.heap H locs) (hl : lv_has ls (zmx y) (zlm G lv)) (hcap : cells + sh'.length ≤ R.cells + sh.length) (hcap2 : slots + zsl sh' ≤ R.slots + zsl sh) (K : zKk p l e R s m args below meth c cells slots Q G y sh (pc', lv', st', sh', M')) : W p l e R s m args below meth c H locs cells slots Q (F0 m pc ls (st.map (ztr G))) := by
  obtain ⟨hx, hb, hml, hown, hts, hK, hX, hbb, hbs, hini, hfr, hlo⟩ := F
  have hlen : len = 1 := zbeq.mp hlen
  subst hlen
  have hi := zblt.mp hsp
  rcases st with _ | ⟨x | x | x | x | _ | x | x, st⟩
  all_goals first | exact absurd (show (none : zRr) = some _ from hs) nofun | skip
  change some (([] : List Prop), (Sum.inl (pc + 1, zput1 i.val (.int x) lv, st, sh, M) : zO)) = _ at hs
  cases hs
  refine lv_istore_n hx hb hd rfl hl hi (zput1_lm G i.val (.int x) lv) (fun ls' hl' => ?_)
  exact K H locs ls' cells slots rfl rfl hH hS hl'
set_option maxHeartbeats 2000000 in
theorem zo_istore {i : Nat} (F : zFr p R s m args meth c S G y) (hd : decode (zmb y) pc = .ok (.istore i, len)) (hlen : zlen (.istore i) len = true) (hsp : zspec y (pc, .istore i, len, v, a, b, k, [], ts) = true) (hs : zstep S (pc, .istore i, len, v, a, b, k, [], ts) lv st sh M = some (ps, .inl (pc', lv', st', sh', M'))) (hps : zall ps) (hH : zH G sh M H) (hS : va_S (fun q => G.2.1 ≤ q) s.heap H locs) (hl : lv_has ls (zmx y) (zlm G lv)) (hcap : cells + sh'.length ≤ R.cells + sh.length) (hcap2 : slots + zsl sh' ≤ R.slots + zsl sh) (K : zKk p l e R s m args below meth c cells slots Q G y sh (pc', lv', st', sh', M')) : W p l e R s m args below meth c H locs cells slots Q (F0 m pc ls (st.map (ztr G))) := by
  obtain ⟨hx, hb, hml, hown, hts, hK, hX, hbb, hbs, hini, hfr, hlo⟩ := F
  have hlen : len = 2 := zbeq.mp hlen
  subst hlen
  have hi := zblt.mp hsp
  rcases st with _ | ⟨x | x | x | x | _ | x | x, st⟩
  all_goals first | exact absurd (show (none : zRr) = some _ from hs) nofun | skip
  change some (([] : List Prop), (Sum.inl (pc + 2, zput1 i (.int x) lv, st, sh, M) : zO)) = _ at hs
  cases hs
  refine lv_istore hx hb hd hl hi (zput1_lm G i (.int x) lv) (fun ls' hl' => ?_)
  exact K H locs ls' cells slots rfl rfl hH hS hl'
set_option maxHeartbeats 2000000 in
theorem zo_lstore_n {i : Fin 4} (F : zFr p R s m args meth c S G y) (hd : decode (zmb y) pc = .ok (.lstore_n i, len)) (hlen : zlen (.lstore_n i) len = true) (hsp : zspec y (pc, .lstore_n i, len, v, a, b, k, [], ts) = true) (hs : zstep S (pc, .lstore_n i, len, v, a, b, k, [], ts) lv st sh M = some (ps, .inl (pc', lv', st', sh', M'))) (hps : zall ps) (hH : zH G sh M H) (hS : va_S (fun q => G.2.1 ≤ q) s.heap H locs) (hl : lv_has ls (zmx y) (zlm G lv)) (hcap : cells + sh'.length ≤ R.cells + sh.length) (hcap2 : slots + zsl sh' ≤ R.slots + zsl sh) (K : zKk p l e R s m args below meth c cells slots Q G y sh (pc', lv', st', sh', M')) : W p l e R s m args below meth c H locs cells slots Q (F0 m pc ls (st.map (ztr G))) := by
  obtain ⟨hx, hb, hml, hown, hts, hK, hX, hbb, hbs, hini, hfr, hlo⟩ := F
  have hlen : len = 1 := zbeq.mp hlen
  subst hlen
  have hi := zblt.mp hsp
  rcases st with _ | ⟨x | x | x | x | _ | x | x, st⟩
  all_goals first | exact absurd (show (none : zRr) = some _ from hs) nofun | skip
  change some (([] : List Prop), (Sum.inl (pc + 1, zput2 i.val (.long x) lv, st, sh, M) : zO)) = _ at hs
  cases hs
  refine lv_lstore_n hx hb hd rfl hl hi (zput2_lm G i.val (.long x) lv) (fun ls' hl' => ?_)
  exact K H locs ls' cells slots rfl rfl hH hS hl'
set_option maxHeartbeats 2000000 in
theorem zo_lstore {i : Nat} (F : zFr p R s m args meth c S G y) (hd : decode (zmb y) pc = .ok (.lstore i, len)) (hlen : zlen (.lstore i) len = true) (hsp : zspec y (pc, .lstore i, len, v, a, b, k, [], ts) = true) (hs : zstep S (pc, .lstore i, len, v, a, b, k, [], ts) lv st sh M = some (ps, .inl (pc', lv', st', sh', M'))) (hps : zall ps) (hH : zH G sh M H) (hS : va_S (fun q => G.2.1 ≤ q) s.heap H locs) (hl : lv_has ls (zmx y) (zlm G lv)) (hcap : cells + sh'.length ≤ R.cells + sh.length) (hcap2 : slots + zsl sh' ≤ R.slots + zsl sh) (K : zKk p l e R s m args below meth c cells slots Q G y sh (pc', lv', st', sh', M')) : W p l e R s m args below meth c H locs cells slots Q (F0 m pc ls (st.map (ztr G))) := by
  obtain ⟨hx, hb, hml, hown, hts, hK, hX, hbb, hbs, hini, hfr, hlo⟩ := F
  have hlen : len = 2 := zbeq.mp hlen
  subst hlen
  have hi := zblt.mp hsp
  rcases st with _ | ⟨x | x | x | x | _ | x | x, st⟩
  all_goals first | exact absurd (show (none : zRr) = some _ from hs) nofun | skip
  change some (([] : List Prop), (Sum.inl (pc + 2, zput2 i (.long x) lv, st, sh, M) : zO)) = _ at hs
  cases hs
  refine lv_lstore hx hb hd hl hi (zput2_lm G i (.long x) lv) (fun ls' hl' => ?_)
  exact K H locs ls' cells slots rfl rfl hH hS hl'
set_option maxHeartbeats 2000000 in
theorem zo_astore_n {i : Fin 4} (F : zFr p R s m args meth c S G y) (hd : decode (zmb y) pc = .ok (.astore_n i, len)) (hlen : zlen (.astore_n i) len = true) (hsp : zspec y (pc, .astore_n i, len, v, a, b, k, [], ts) = true) (hs : zstep S (pc, .astore_n i, len, v, a, b, k, [], ts) lv st sh M = some (ps, .inl (pc', lv', st', sh', M'))) (hps : zall ps) (hH : zH G sh M H) (hS : va_S (fun q => G.2.1 ≤ q) s.heap H locs) (hl : lv_has ls (zmx y) (zlm G lv)) (hcap : cells + sh'.length ≤ R.cells + sh.length) (hcap2 : slots + zsl sh' ≤ R.slots + zsl sh) (K : zKk p l e R s m args below meth c cells slots Q G y sh (pc', lv', st', sh', M')) : W p l e R s m args below meth c H locs cells slots Q (F0 m pc ls (st.map (ztr G))) := by
  obtain ⟨hx, hb, hml, hown, hts, hK, hX, hbb, hbs, hini, hfr, hlo⟩ := F
  have hlen : len = 1 := zbeq.mp hlen
  subst hlen
  have hi := zblt.mp hsp
  rcases st with _ | ⟨x | x | x | x | _ | x | x, st⟩
  all_goals first | exact absurd (show (none : zRr) = some _ from hs) nofun | skip
  change some (([] : List Prop), (Sum.inl (pc + 1, zput1 i.val (.ref x) lv, st, sh, M) : zO)) = _ at hs
  cases hs
  refine lv_astore_n hx hb hd rfl hl hi (zput1_lm G i.val (.ref x) lv) (fun ls' hl' => ?_)
  exact K H locs ls' cells slots rfl rfl hH hS hl'
set_option maxHeartbeats 2000000 in
theorem zo_iinc {i : Nat} {n : Int} (F : zFr p R s m args meth c S G y) (hd : decode (zmb y) pc = .ok (.iinc i n, len)) (hlen : zlen (.iinc i n) len = true) (hsp : zspec y (pc, .iinc i n, len, v, a, b, k, [], ts) = true) (hs : zstep S (pc, .iinc i n, len, v, a, b, k, [], ts) lv st sh M = some (ps, .inl (pc', lv', st', sh', M'))) (hps : zall ps) (hH : zH G sh M H) (hS : va_S (fun q => G.2.1 ≤ q) s.heap H locs) (hl : lv_has ls (zmx y) (zlm G lv)) (hcap : cells + sh'.length ≤ R.cells + sh.length) (hcap2 : slots + zsl sh' ≤ R.slots + zsl sh) (K : zKk p l e R s m args below meth c cells slots Q G y sh (pc', lv', st', sh', M')) : W p l e R s m args below meth c H locs cells slots Q (F0 m pc ls (st.map (ztr G))) := by
  obtain ⟨hx, hb, hml, hown, hts, hK, hX, hbb, hbs, hini, hfr, hlo⟩ := F
  have hlen : len = 3 := zbeq.mp hlen
  subst hlen
  have hv := of_decide_eq_true hsp
  subst hv
  cases hg : zget i lv with
  | none => simp [zstep, zpick, hg] at hs
  | some x0 =>
    have hs2 : (match (some x0 : Option Value), (Value.int (Int32.ofInt n)) with
        | some (.int x), .int d => znx (pc + 3) (zput1 i (.int (x + d)) lv) st sh M
        | _, _ => none) = some (ps, .inl (pc', lv', st', sh', M')) := by rw [← hg]; exact hs
    replace hs := hs2
    rcases x0 with x | x | x | x | _ | x | x
    all_goals first | exact absurd (show (none : zRr) = some _ from hs) nofun | skip
    change some (([] : List Prop), (Sum.inl (pc + 3, zput1 i (.int (x + Int32.ofInt n)) lv, st, sh, M) : zO)) = _ at hs
    cases hs
    have hm := zget_lm (G := G) hg
    obtain ⟨kk, hkk⟩ := List.getElem?_of_mem hm
    have hi : i < zmx y := by
      have := zlv_at hl hg
      have h2 := lv_lt this
      rw [hl.1] at h2
      exact h2
    refine lv_iinc hx hb hd hl hkk rfl hi (zput1_lm G i (.int (x + Int32.ofInt n)) lv) (fun ls' hl' => ?_)
    exact K H locs ls' cells slots rfl rfl hH hS hl'
set_option maxHeartbeats 2000000 in
theorem zo_iadd (F : zFr p R s m args meth c S G y) (hd : decode (zmb y) pc = .ok (.iadd, len)) (hlen : zlen (.iadd) len = true) (hsp : zspec y (pc, .iadd, len, v, a, b, k, [], ts) = true) (hs : zstep S (pc, .iadd, len, v, a, b, k, [], ts) lv st sh M = some (ps, .inl (pc', lv', st', sh', M'))) (hps : zall ps) (hH : zH G sh M H) (hS : va_S (fun q => G.2.1 ≤ q) s.heap H locs) (hl : lv_has ls (zmx y) (zlm G lv)) (hcap : cells + sh'.length ≤ R.cells + sh.length) (hcap2 : slots + zsl sh' ≤ R.slots + zsl sh) (K : zKk p l e R s m args below meth c cells slots Q G y sh (pc', lv', st', sh', M')) : W p l e R s m args below meth c H locs cells slots Q (F0 m pc ls (st.map (ztr G))) := by
  obtain ⟨hx, hb, hml, hown, hts, hK, hX, hbb, hbs, hini, hfr, hlo⟩ := F
  have hlen : len = 1 := zbeq.mp hlen
  subst hlen
  rcases st with _ | ⟨w | w | w | w | _ | w | w, _ | ⟨x | x | x | x | _ | x | x, st⟩⟩
  all_goals first | exact absurd (show (none : zRr) = some _ from hs) nofun | skip
  change some (([] : List Prop), (Sum.inl (pc + 1, lv, .int (x + w) :: st, sh, M) : zO)) = _ at hs
  cases hs
  exact lv_iadd hx hb hd (K H locs ls cells slots rfl rfl hH hS hl)
set_option maxHeartbeats 2000000 in
theorem zo_isub (F : zFr p R s m args meth c S G y) (hd : decode (zmb y) pc = .ok (.isub, len)) (hlen : zlen (.isub) len = true) (hsp : zspec y (pc, .isub, len, v, a, b, k, [], ts) = true) (hs : zstep S (pc, .isub, len, v, a, b, k, [], ts) lv st sh M = some (ps, .inl (pc', lv', st', sh', M'))) (hps : zall ps) (hH : zH G sh M H) (hS : va_S (fun q => G.2.1 ≤ q) s.heap H locs) (hl : lv_has ls (zmx y) (zlm G lv)) (hcap : cells + sh'.length ≤ R.cells + sh.length) (hcap2 : slots + zsl sh' ≤ R.slots + zsl sh) (K : zKk p l e R s m args below meth c cells slots Q G y sh (pc', lv', st', sh', M')) : W p l e R s m args below meth c H locs cells slots Q (F0 m pc ls (st.map (ztr G))) := by
  obtain ⟨hx, hb, hml, hown, hts, hK, hX, hbb, hbs, hini, hfr, hlo⟩ := F
  have hlen : len = 1 := zbeq.mp hlen
  subst hlen
  rcases st with _ | ⟨w | w | w | w | _ | w | w, _ | ⟨x | x | x | x | _ | x | x, st⟩⟩
  all_goals first | exact absurd (show (none : zRr) = some _ from hs) nofun | skip
  change some (([] : List Prop), (Sum.inl (pc + 1, lv, .int (x - w) :: st, sh, M) : zO)) = _ at hs
  cases hs
  exact lv_isub hx hb hd (K H locs ls cells slots rfl rfl hH hS hl)
set_option maxHeartbeats 2000000 in
theorem zo_imul (F : zFr p R s m args meth c S G y) (hd : decode (zmb y) pc = .ok (.imul, len)) (hlen : zlen (.imul) len = true) (hsp : zspec y (pc, .imul, len, v, a, b, k, [], ts) = true) (hs : zstep S (pc, .imul, len, v, a, b, k, [], ts) lv st sh M = some (ps, .inl (pc', lv', st', sh', M'))) (hps : zall ps) (hH : zH G sh M H) (hS : va_S (fun q => G.2.1 ≤ q) s.heap H locs) (hl : lv_has ls (zmx y) (zlm G lv)) (hcap : cells + sh'.length ≤ R.cells + sh.length) (hcap2 : slots + zsl sh' ≤ R.slots + zsl sh) (K : zKk p l e R s m args below meth c cells slots Q G y sh (pc', lv', st', sh', M')) : W p l e R s m args below meth c H locs cells slots Q (F0 m pc ls (st.map (ztr G))) := by
  obtain ⟨hx, hb, hml, hown, hts, hK, hX, hbb, hbs, hini, hfr, hlo⟩ := F
  have hlen : len = 1 := zbeq.mp hlen
  subst hlen
  rcases st with _ | ⟨w | w | w | w | _ | w | w, _ | ⟨x | x | x | x | _ | x | x, st⟩⟩
  all_goals first | exact absurd (show (none : zRr) = some _ from hs) nofun | skip
  change some (([] : List Prop), (Sum.inl (pc + 1, lv, .int (x * w) :: st, sh, M) : zO)) = _ at hs
  cases hs
  exact lv_imul hx hb hd (K H locs ls cells slots rfl rfl hH hS hl)
set_option maxHeartbeats 2000000 in
theorem zo_iand (F : zFr p R s m args meth c S G y) (hd : decode (zmb y) pc = .ok (.iand, len)) (hlen : zlen (.iand) len = true) (hsp : zspec y (pc, .iand, len, v, a, b, k, [], ts) = true) (hs : zstep S (pc, .iand, len, v, a, b, k, [], ts) lv st sh M = some (ps, .inl (pc', lv', st', sh', M'))) (hps : zall ps) (hH : zH G sh M H) (hS : va_S (fun q => G.2.1 ≤ q) s.heap H locs) (hl : lv_has ls (zmx y) (zlm G lv)) (hcap : cells + sh'.length ≤ R.cells + sh.length) (hcap2 : slots + zsl sh' ≤ R.slots + zsl sh) (K : zKk p l e R s m args below meth c cells slots Q G y sh (pc', lv', st', sh', M')) : W p l e R s m args below meth c H locs cells slots Q (F0 m pc ls (st.map (ztr G))) := by
  obtain ⟨hx, hb, hml, hown, hts, hK, hX, hbb, hbs, hini, hfr, hlo⟩ := F
  have hlen : len = 1 := zbeq.mp hlen
  subst hlen
  rcases st with _ | ⟨w | w | w | w | _ | w | w, _ | ⟨x | x | x | x | _ | x | x, st⟩⟩
  all_goals first | exact absurd (show (none : zRr) = some _ from hs) nofun | skip
  change some (([] : List Prop), (Sum.inl (pc + 1, lv, .int (x &&& w) :: st, sh, M) : zO)) = _ at hs
  cases hs
  exact lv_iand hx hb hd (K H locs ls cells slots rfl rfl hH hS hl)
set_option maxHeartbeats 2000000 in
theorem zo_ior (F : zFr p R s m args meth c S G y) (hd : decode (zmb y) pc = .ok (.ior, len)) (hlen : zlen (.ior) len = true) (hsp : zspec y (pc, .ior, len, v, a, b, k, [], ts) = true) (hs : zstep S (pc, .ior, len, v, a, b, k, [], ts) lv st sh M = some (ps, .inl (pc', lv', st', sh', M'))) (hps : zall ps) (hH : zH G sh M H) (hS : va_S (fun q => G.2.1 ≤ q) s.heap H locs) (hl : lv_has ls (zmx y) (zlm G lv)) (hcap : cells + sh'.length ≤ R.cells + sh.length) (hcap2 : slots + zsl sh' ≤ R.slots + zsl sh) (K : zKk p l e R s m args below meth c cells slots Q G y sh (pc', lv', st', sh', M')) : W p l e R s m args below meth c H locs cells slots Q (F0 m pc ls (st.map (ztr G))) := by
  obtain ⟨hx, hb, hml, hown, hts, hK, hX, hbb, hbs, hini, hfr, hlo⟩ := F
  have hlen : len = 1 := zbeq.mp hlen
  subst hlen
  rcases st with _ | ⟨w | w | w | w | _ | w | w, _ | ⟨x | x | x | x | _ | x | x, st⟩⟩
  all_goals first | exact absurd (show (none : zRr) = some _ from hs) nofun | skip
  change some (([] : List Prop), (Sum.inl (pc + 1, lv, .int (x ||| w) :: st, sh, M) : zO)) = _ at hs
  cases hs
  exact lv_ior hx hb hd (K H locs ls cells slots rfl rfl hH hS hl)
set_option maxHeartbeats 2000000 in
theorem zo_ishl (F : zFr p R s m args meth c S G y) (hd : decode (zmb y) pc = .ok (.ishl, len)) (hlen : zlen (.ishl) len = true) (hsp : zspec y (pc, .ishl, len, v, a, b, k, [], ts) = true) (hs : zstep S (pc, .ishl, len, v, a, b, k, [], ts) lv st sh M = some (ps, .inl (pc', lv', st', sh', M'))) (hps : zall ps) (hH : zH G sh M H) (hS : va_S (fun q => G.2.1 ≤ q) s.heap H locs) (hl : lv_has ls (zmx y) (zlm G lv)) (hcap : cells + sh'.length ≤ R.cells + sh.length) (hcap2 : slots + zsl sh' ≤ R.slots + zsl sh) (K : zKk p l e R s m args below meth c cells slots Q G y sh (pc', lv', st', sh', M')) : W p l e R s m args below meth c H locs cells slots Q (F0 m pc ls (st.map (ztr G))) := by
  obtain ⟨hx, hb, hml, hown, hts, hK, hX, hbb, hbs, hini, hfr, hlo⟩ := F
  have hlen : len = 1 := zbeq.mp hlen
  subst hlen
  rcases st with _ | ⟨w | w | w | w | _ | w | w, _ | ⟨x | x | x | x | _ | x | x, st⟩⟩
  all_goals first | exact absurd (show (none : zRr) = some _ from hs) nofun | skip
  change some (([] : List Prop), (Sum.inl (pc + 1, lv, .int (x <<< (w &&& 31)) :: st, sh, M) : zO)) = _ at hs
  cases hs
  exact lv_ishl hx hb hd (K H locs ls cells slots rfl rfl hH hS hl)
set_option maxHeartbeats 2000000 in
theorem zo_ishr (F : zFr p R s m args meth c S G y) (hd : decode (zmb y) pc = .ok (.ishr, len)) (hlen : zlen (.ishr) len = true) (hsp : zspec y (pc, .ishr, len, v, a, b, k, [], ts) = true) (hs : zstep S (pc, .ishr, len, v, a, b, k, [], ts) lv st sh M = some (ps, .inl (pc', lv', st', sh', M'))) (hps : zall ps) (hH : zH G sh M H) (hS : va_S (fun q => G.2.1 ≤ q) s.heap H locs) (hl : lv_has ls (zmx y) (zlm G lv)) (hcap : cells + sh'.length ≤ R.cells + sh.length) (hcap2 : slots + zsl sh' ≤ R.slots + zsl sh) (K : zKk p l e R s m args below meth c cells slots Q G y sh (pc', lv', st', sh', M')) : W p l e R s m args below meth c H locs cells slots Q (F0 m pc ls (st.map (ztr G))) := by
  obtain ⟨hx, hb, hml, hown, hts, hK, hX, hbb, hbs, hini, hfr, hlo⟩ := F
  have hlen : len = 1 := zbeq.mp hlen
  subst hlen
  rcases st with _ | ⟨w | w | w | w | _ | w | w, _ | ⟨x | x | x | x | _ | x | x, st⟩⟩
  all_goals first | exact absurd (show (none : zRr) = some _ from hs) nofun | skip
  change some (([] : List Prop), (Sum.inl (pc + 1, lv, .int (x >>> (w &&& 31)) :: st, sh, M) : zO)) = _ at hs
  cases hs
  exact lv_ishr hx hb hd (K H locs ls cells slots rfl rfl hH hS hl)
set_option maxHeartbeats 2000000 in
theorem zo_iushr (F : zFr p R s m args meth c S G y) (hd : decode (zmb y) pc = .ok (.iushr, len)) (hlen : zlen (.iushr) len = true) (hsp : zspec y (pc, .iushr, len, v, a, b, k, [], ts) = true) (hs : zstep S (pc, .iushr, len, v, a, b, k, [], ts) lv st sh M = some (ps, .inl (pc', lv', st', sh', M'))) (hps : zall ps) (hH : zH G sh M H) (hS : va_S (fun q => G.2.1 ≤ q) s.heap H locs) (hl : lv_has ls (zmx y) (zlm G lv)) (hcap : cells + sh'.length ≤ R.cells + sh.length) (hcap2 : slots + zsl sh' ≤ R.slots + zsl sh) (K : zKk p l e R s m args below meth c cells slots Q G y sh (pc', lv', st', sh', M')) : W p l e R s m args below meth c H locs cells slots Q (F0 m pc ls (st.map (ztr G))) := by
  obtain ⟨hx, hb, hml, hown, hts, hK, hX, hbb, hbs, hini, hfr, hlo⟩ := F
  have hlen : len = 1 := zbeq.mp hlen
  subst hlen
  rcases st with _ | ⟨w | w | w | w | _ | w | w, _ | ⟨x | x | x | x | _ | x | x, st⟩⟩
  all_goals first | exact absurd (show (none : zRr) = some _ from hs) nofun | skip
  change some (([] : List Prop), (Sum.inl (pc + 1, lv, .int ((x.toUInt32 >>> (w.toUInt32 &&& Int32.toUInt32 31)).toInt32) :: st, sh, M) : zO)) = _ at hs
  cases hs
  exact lv_iushr hx hb hd rfl (K H locs ls cells slots rfl rfl hH hS hl)
set_option maxHeartbeats 2000000 in
theorem zo_idiv (F : zFr p R s m args meth c S G y) (hd : decode (zmb y) pc = .ok (.idiv, len)) (hlen : zlen (.idiv) len = true) (hsp : zspec y (pc, .idiv, len, v, a, b, k, [], ts) = true) (hs : zstep S (pc, .idiv, len, v, a, b, k, [], ts) lv st sh M = some (ps, .inl (pc', lv', st', sh', M'))) (hps : zall ps) (hH : zH G sh M H) (hS : va_S (fun q => G.2.1 ≤ q) s.heap H locs) (hl : lv_has ls (zmx y) (zlm G lv)) (hcap : cells + sh'.length ≤ R.cells + sh.length) (hcap2 : slots + zsl sh' ≤ R.slots + zsl sh) (K : zKk p l e R s m args below meth c cells slots Q G y sh (pc', lv', st', sh', M')) : W p l e R s m args below meth c H locs cells slots Q (F0 m pc ls (st.map (ztr G))) := by
  obtain ⟨hx, hb, hml, hown, hts, hK, hX, hbb, hbs, hini, hfr, hlo⟩ := F
  have hlen : len = 1 := zbeq.mp hlen
  subst hlen
  rcases st with _ | ⟨w | w | w | w | _ | w | w, _ | ⟨x | x | x | x | _ | x | x, st⟩⟩
  all_goals first | exact absurd (show (none : zRr) = some _ from hs) nofun | skip
  change some (([¬ w = 0] : List Prop), (Sum.inl (pc + 1, lv, .int (x / w) :: st, sh, M) : zO)) = _ at hs
  cases hs
  exact lv_idiv hx hb hd hps.1 (K H locs ls cells slots rfl rfl hH hS hl)
set_option maxHeartbeats 2000000 in
theorem zo_irem (F : zFr p R s m args meth c S G y) (hd : decode (zmb y) pc = .ok (.irem, len)) (hlen : zlen (.irem) len = true) (hsp : zspec y (pc, .irem, len, v, a, b, k, [], ts) = true) (hs : zstep S (pc, .irem, len, v, a, b, k, [], ts) lv st sh M = some (ps, .inl (pc', lv', st', sh', M'))) (hps : zall ps) (hH : zH G sh M H) (hS : va_S (fun q => G.2.1 ≤ q) s.heap H locs) (hl : lv_has ls (zmx y) (zlm G lv)) (hcap : cells + sh'.length ≤ R.cells + sh.length) (hcap2 : slots + zsl sh' ≤ R.slots + zsl sh) (K : zKk p l e R s m args below meth c cells slots Q G y sh (pc', lv', st', sh', M')) : W p l e R s m args below meth c H locs cells slots Q (F0 m pc ls (st.map (ztr G))) := by
  obtain ⟨hx, hb, hml, hown, hts, hK, hX, hbb, hbs, hini, hfr, hlo⟩ := F
  have hlen : len = 1 := zbeq.mp hlen
  subst hlen
  rcases st with _ | ⟨w | w | w | w | _ | w | w, _ | ⟨x | x | x | x | _ | x | x, st⟩⟩
  all_goals first | exact absurd (show (none : zRr) = some _ from hs) nofun | skip
  change some (([¬ w = 0] : List Prop), (Sum.inl (pc + 1, lv, .int (x - x / w * w) :: st, sh, M) : zO)) = _ at hs
  cases hs
  exact lv_irem hx hb hd hps.1 (K H locs ls cells slots rfl rfl hH hS hl)
set_option maxHeartbeats 2000000 in
theorem zo_ladd (F : zFr p R s m args meth c S G y) (hd : decode (zmb y) pc = .ok (.ladd, len)) (hlen : zlen (.ladd) len = true) (hsp : zspec y (pc, .ladd, len, v, a, b, k, [], ts) = true) (hs : zstep S (pc, .ladd, len, v, a, b, k, [], ts) lv st sh M = some (ps, .inl (pc', lv', st', sh', M'))) (hps : zall ps) (hH : zH G sh M H) (hS : va_S (fun q => G.2.1 ≤ q) s.heap H locs) (hl : lv_has ls (zmx y) (zlm G lv)) (hcap : cells + sh'.length ≤ R.cells + sh.length) (hcap2 : slots + zsl sh' ≤ R.slots + zsl sh) (K : zKk p l e R s m args below meth c cells slots Q G y sh (pc', lv', st', sh', M')) : W p l e R s m args below meth c H locs cells slots Q (F0 m pc ls (st.map (ztr G))) := by
  obtain ⟨hx, hb, hml, hown, hts, hK, hX, hbb, hbs, hini, hfr, hlo⟩ := F
  have hlen : len = 1 := zbeq.mp hlen
  subst hlen
  rcases st with _ | ⟨w | w | w | w | _ | w | w, _ | ⟨x | x | x | x | _ | x | x, st⟩⟩
  all_goals first | exact absurd (show (none : zRr) = some _ from hs) nofun | skip
  change some (([] : List Prop), (Sum.inl (pc + 1, lv, .long (x + w) :: st, sh, M) : zO)) = _ at hs
  cases hs
  exact lv_ladd hx hb hd (K H locs ls cells slots rfl rfl hH hS hl)
set_option maxHeartbeats 2000000 in
theorem zo_lsub (F : zFr p R s m args meth c S G y) (hd : decode (zmb y) pc = .ok (.lsub, len)) (hlen : zlen (.lsub) len = true) (hsp : zspec y (pc, .lsub, len, v, a, b, k, [], ts) = true) (hs : zstep S (pc, .lsub, len, v, a, b, k, [], ts) lv st sh M = some (ps, .inl (pc', lv', st', sh', M'))) (hps : zall ps) (hH : zH G sh M H) (hS : va_S (fun q => G.2.1 ≤ q) s.heap H locs) (hl : lv_has ls (zmx y) (zlm G lv)) (hcap : cells + sh'.length ≤ R.cells + sh.length) (hcap2 : slots + zsl sh' ≤ R.slots + zsl sh) (K : zKk p l e R s m args below meth c cells slots Q G y sh (pc', lv', st', sh', M')) : W p l e R s m args below meth c H locs cells slots Q (F0 m pc ls (st.map (ztr G))) := by
  obtain ⟨hx, hb, hml, hown, hts, hK, hX, hbb, hbs, hini, hfr, hlo⟩ := F
  have hlen : len = 1 := zbeq.mp hlen
  subst hlen
  rcases st with _ | ⟨w | w | w | w | _ | w | w, _ | ⟨x | x | x | x | _ | x | x, st⟩⟩
  all_goals first | exact absurd (show (none : zRr) = some _ from hs) nofun | skip
  change some (([] : List Prop), (Sum.inl (pc + 1, lv, .long (x - w) :: st, sh, M) : zO)) = _ at hs
  cases hs
  exact lv_lsub hx hb hd (K H locs ls cells slots rfl rfl hH hS hl)
set_option maxHeartbeats 2000000 in
theorem zo_lmul (F : zFr p R s m args meth c S G y) (hd : decode (zmb y) pc = .ok (.lmul, len)) (hlen : zlen (.lmul) len = true) (hsp : zspec y (pc, .lmul, len, v, a, b, k, [], ts) = true) (hs : zstep S (pc, .lmul, len, v, a, b, k, [], ts) lv st sh M = some (ps, .inl (pc', lv', st', sh', M'))) (hps : zall ps) (hH : zH G sh M H) (hS : va_S (fun q => G.2.1 ≤ q) s.heap H locs) (hl : lv_has ls (zmx y) (zlm G lv)) (hcap : cells + sh'.length ≤ R.cells + sh.length) (hcap2 : slots + zsl sh' ≤ R.slots + zsl sh) (K : zKk p l e R s m args below meth c cells slots Q G y sh (pc', lv', st', sh', M')) : W p l e R s m args below meth c H locs cells slots Q (F0 m pc ls (st.map (ztr G))) := by
  obtain ⟨hx, hb, hml, hown, hts, hK, hX, hbb, hbs, hini, hfr, hlo⟩ := F
  have hlen : len = 1 := zbeq.mp hlen
  subst hlen
  rcases st with _ | ⟨w | w | w | w | _ | w | w, _ | ⟨x | x | x | x | _ | x | x, st⟩⟩
  all_goals first | exact absurd (show (none : zRr) = some _ from hs) nofun | skip
  change some (([] : List Prop), (Sum.inl (pc + 1, lv, .long (x * w) :: st, sh, M) : zO)) = _ at hs
  cases hs
  exact lv_lmul hx hb hd (K H locs ls cells slots rfl rfl hH hS hl)
set_option maxHeartbeats 2000000 in
theorem zo_ldiv (F : zFr p R s m args meth c S G y) (hd : decode (zmb y) pc = .ok (.ldiv, len)) (hlen : zlen (.ldiv) len = true) (hsp : zspec y (pc, .ldiv, len, v, a, b, k, [], ts) = true) (hs : zstep S (pc, .ldiv, len, v, a, b, k, [], ts) lv st sh M = some (ps, .inl (pc', lv', st', sh', M'))) (hps : zall ps) (hH : zH G sh M H) (hS : va_S (fun q => G.2.1 ≤ q) s.heap H locs) (hl : lv_has ls (zmx y) (zlm G lv)) (hcap : cells + sh'.length ≤ R.cells + sh.length) (hcap2 : slots + zsl sh' ≤ R.slots + zsl sh) (K : zKk p l e R s m args below meth c cells slots Q G y sh (pc', lv', st', sh', M')) : W p l e R s m args below meth c H locs cells slots Q (F0 m pc ls (st.map (ztr G))) := by
  obtain ⟨hx, hb, hml, hown, hts, hK, hX, hbb, hbs, hini, hfr, hlo⟩ := F
  have hlen : len = 1 := zbeq.mp hlen
  subst hlen
  rcases st with _ | ⟨w | w | w | w | _ | w | w, _ | ⟨x | x | x | x | _ | x | x, st⟩⟩
  all_goals first | exact absurd (show (none : zRr) = some _ from hs) nofun | skip
  change some (([¬ w = 0] : List Prop), (Sum.inl (pc + 1, lv, .long (x / w) :: st, sh, M) : zO)) = _ at hs
  cases hs
  exact lv_ldiv hx hb hd hps.1 (K H locs ls cells slots rfl rfl hH hS hl)
set_option maxHeartbeats 2000000 in
theorem zo_lrem (F : zFr p R s m args meth c S G y) (hd : decode (zmb y) pc = .ok (.lrem, len)) (hlen : zlen (.lrem) len = true) (hsp : zspec y (pc, .lrem, len, v, a, b, k, [], ts) = true) (hs : zstep S (pc, .lrem, len, v, a, b, k, [], ts) lv st sh M = some (ps, .inl (pc', lv', st', sh', M'))) (hps : zall ps) (hH : zH G sh M H) (hS : va_S (fun q => G.2.1 ≤ q) s.heap H locs) (hl : lv_has ls (zmx y) (zlm G lv)) (hcap : cells + sh'.length ≤ R.cells + sh.length) (hcap2 : slots + zsl sh' ≤ R.slots + zsl sh) (K : zKk p l e R s m args below meth c cells slots Q G y sh (pc', lv', st', sh', M')) : W p l e R s m args below meth c H locs cells slots Q (F0 m pc ls (st.map (ztr G))) := by
  obtain ⟨hx, hb, hml, hown, hts, hK, hX, hbb, hbs, hini, hfr, hlo⟩ := F
  have hlen : len = 1 := zbeq.mp hlen
  subst hlen
  rcases st with _ | ⟨w | w | w | w | _ | w | w, _ | ⟨x | x | x | x | _ | x | x, st⟩⟩
  all_goals first | exact absurd (show (none : zRr) = some _ from hs) nofun | skip
  change some (([¬ w = 0] : List Prop), (Sum.inl (pc + 1, lv, .long (x - x / w * w) :: st, sh, M) : zO)) = _ at hs
  cases hs
  exact lv_lrem hx hb hd hps.1 (K H locs ls cells slots rfl rfl hH hS hl)
set_option maxHeartbeats 2000000 in
theorem zo_lcmp (F : zFr p R s m args meth c S G y) (hd : decode (zmb y) pc = .ok (.lcmp, len)) (hlen : zlen (.lcmp) len = true) (hsp : zspec y (pc, .lcmp, len, v, a, b, k, [], ts) = true) (hs : zstep S (pc, .lcmp, len, v, a, b, k, [], ts) lv st sh M = some (ps, .inl (pc', lv', st', sh', M'))) (hps : zall ps) (hH : zH G sh M H) (hS : va_S (fun q => G.2.1 ≤ q) s.heap H locs) (hl : lv_has ls (zmx y) (zlm G lv)) (hcap : cells + sh'.length ≤ R.cells + sh.length) (hcap2 : slots + zsl sh' ≤ R.slots + zsl sh) (K : zKk p l e R s m args below meth c cells slots Q G y sh (pc', lv', st', sh', M')) : W p l e R s m args below meth c H locs cells slots Q (F0 m pc ls (st.map (ztr G))) := by
  obtain ⟨hx, hb, hml, hown, hts, hK, hX, hbb, hbs, hini, hfr, hlo⟩ := F
  have hlen : len = 1 := zbeq.mp hlen
  subst hlen
  rcases st with _ | ⟨w | w | w | w | _ | w | w, _ | ⟨x | x | x | x | _ | x | x, st⟩⟩
  all_goals first | exact absurd (show (none : zRr) = some _ from hs) nofun | skip
  change some (([] : List Prop), (Sum.inl (pc + 1, lv, .int (lg_cmp x w) :: st, sh, M) : zO)) = _ at hs
  cases hs
  exact W.lcmp hx hb hd (K H locs ls cells slots rfl rfl hH hS hl)
set_option maxHeartbeats 2000000 in
theorem zo_ineg (F : zFr p R s m args meth c S G y) (hd : decode (zmb y) pc = .ok (.ineg, len)) (hlen : zlen (.ineg) len = true) (hsp : zspec y (pc, .ineg, len, v, a, b, k, [], ts) = true) (hs : zstep S (pc, .ineg, len, v, a, b, k, [], ts) lv st sh M = some (ps, .inl (pc', lv', st', sh', M'))) (hps : zall ps) (hH : zH G sh M H) (hS : va_S (fun q => G.2.1 ≤ q) s.heap H locs) (hl : lv_has ls (zmx y) (zlm G lv)) (hcap : cells + sh'.length ≤ R.cells + sh.length) (hcap2 : slots + zsl sh' ≤ R.slots + zsl sh) (K : zKk p l e R s m args below meth c cells slots Q G y sh (pc', lv', st', sh', M')) : W p l e R s m args below meth c H locs cells slots Q (F0 m pc ls (st.map (ztr G))) := by
  obtain ⟨hx, hb, hml, hown, hts, hK, hX, hbb, hbs, hini, hfr, hlo⟩ := F
  have hlen : len = 1 := zbeq.mp hlen
  subst hlen
  rcases st with _ | ⟨x | x | x | x | _ | x | x, st⟩
  all_goals first | exact absurd (show (none : zRr) = some _ from hs) nofun | skip
  change some (([] : List Prop), (Sum.inl (pc + 1, lv, .int (-x) :: st, sh, M) : zO)) = _ at hs
  cases hs
  exact lv_ineg hx hb hd (K H locs ls cells slots rfl rfl hH hS hl)
set_option maxHeartbeats 2000000 in
theorem zo_i2l (F : zFr p R s m args meth c S G y) (hd : decode (zmb y) pc = .ok (.i2l, len)) (hlen : zlen (.i2l) len = true) (hsp : zspec y (pc, .i2l, len, v, a, b, k, [], ts) = true) (hs : zstep S (pc, .i2l, len, v, a, b, k, [], ts) lv st sh M = some (ps, .inl (pc', lv', st', sh', M'))) (hps : zall ps) (hH : zH G sh M H) (hS : va_S (fun q => G.2.1 ≤ q) s.heap H locs) (hl : lv_has ls (zmx y) (zlm G lv)) (hcap : cells + sh'.length ≤ R.cells + sh.length) (hcap2 : slots + zsl sh' ≤ R.slots + zsl sh) (K : zKk p l e R s m args below meth c cells slots Q G y sh (pc', lv', st', sh', M')) : W p l e R s m args below meth c H locs cells slots Q (F0 m pc ls (st.map (ztr G))) := by
  obtain ⟨hx, hb, hml, hown, hts, hK, hX, hbb, hbs, hini, hfr, hlo⟩ := F
  have hlen : len = 1 := zbeq.mp hlen
  subst hlen
  rcases st with _ | ⟨x | x | x | x | _ | x | x, st⟩
  all_goals first | exact absurd (show (none : zRr) = some _ from hs) nofun | skip
  change some (([] : List Prop), (Sum.inl (pc + 1, lv, .long x.toInt64 :: st, sh, M) : zO)) = _ at hs
  cases hs
  exact lv_i2l hx hb hd rfl (K H locs ls cells slots rfl rfl hH hS hl)
set_option maxHeartbeats 2000000 in
theorem zo_dup (F : zFr p R s m args meth c S G y) (hd : decode (zmb y) pc = .ok (.dup, len)) (hlen : zlen (.dup) len = true) (hsp : zspec y (pc, .dup, len, v, a, b, k, [], ts) = true) (hs : zstep S (pc, .dup, len, v, a, b, k, [], ts) lv st sh M = some (ps, .inl (pc', lv', st', sh', M'))) (hps : zall ps) (hH : zH G sh M H) (hS : va_S (fun q => G.2.1 ≤ q) s.heap H locs) (hl : lv_has ls (zmx y) (zlm G lv)) (hcap : cells + sh'.length ≤ R.cells + sh.length) (hcap2 : slots + zsl sh' ≤ R.slots + zsl sh) (K : zKk p l e R s m args below meth c cells slots Q G y sh (pc', lv', st', sh', M')) : W p l e R s m args below meth c H locs cells slots Q (F0 m pc ls (st.map (ztr G))) := by
  obtain ⟨hx, hb, hml, hown, hts, hK, hX, hbb, hbs, hini, hfr, hlo⟩ := F
  have hlen : len = 1 := zbeq.mp hlen
  subst hlen
  rcases st with _ | ⟨x, st⟩
  all_goals first | exact absurd (show (none : zRr) = some _ from hs) nofun | skip
  have hx1 : zN1 x = true := by
    cases hz : zN1 x with
    | true => rfl
    | false => simp [zstep, hz] at hs
  have hc1 : (ztr G x).category = 1 := by
    rw [ztr_cat]
    rcases x with q | q | q | q | _ | q | q
    all_goals first | rfl | (exact absurd (show false = true from hx1) nofun)
  have hs2 : some (([] : List Prop), (Sum.inl (pc + 1, lv, x :: x :: st, sh, M) : zO)) = some (ps, .inl (pc', lv', st', sh', M')) := by
    rw [← hs]
    show _ = (match zN1 x with | true => _ | false => _)
    rw [hx1]
    rfl
  cases hs2
  exact lv_dup hx hb hd hc1 (K H locs ls cells slots rfl rfl hH hS hl)
set_option maxHeartbeats 2000000 in
theorem zo_pop (F : zFr p R s m args meth c S G y) (hd : decode (zmb y) pc = .ok (.pop, len)) (hlen : zlen (.pop) len = true) (hsp : zspec y (pc, .pop, len, v, a, b, k, [], ts) = true) (hs : zstep S (pc, .pop, len, v, a, b, k, [], ts) lv st sh M = some (ps, .inl (pc', lv', st', sh', M'))) (hps : zall ps) (hH : zH G sh M H) (hS : va_S (fun q => G.2.1 ≤ q) s.heap H locs) (hl : lv_has ls (zmx y) (zlm G lv)) (hcap : cells + sh'.length ≤ R.cells + sh.length) (hcap2 : slots + zsl sh' ≤ R.slots + zsl sh) (K : zKk p l e R s m args below meth c cells slots Q G y sh (pc', lv', st', sh', M')) : W p l e R s m args below meth c H locs cells slots Q (F0 m pc ls (st.map (ztr G))) := by
  obtain ⟨hx, hb, hml, hown, hts, hK, hX, hbb, hbs, hini, hfr, hlo⟩ := F
  have hlen : len = 1 := zbeq.mp hlen
  subst hlen
  rcases st with _ | ⟨x, st⟩
  all_goals first | exact absurd (show (none : zRr) = some _ from hs) nofun | skip
  have hx1 : zN1 x = true := by
    cases hz : zN1 x with
    | true => rfl
    | false => simp [zstep, hz] at hs
  have hc1 : (ztr G x).category = 1 := by
    rw [ztr_cat]
    rcases x with q | q | q | q | _ | q | q
    all_goals first | rfl | (exact absurd (show false = true from hx1) nofun)
  have hs2 : some (([] : List Prop), (Sum.inl (pc + 1, lv, st, sh, M) : zO)) = some (ps, .inl (pc', lv', st', sh', M')) := by
    rw [← hs]
    show _ = (match zN1 x with | true => _ | false => _)
    rw [hx1]
    rfl
  cases hs2
  exact lv_pop hx hb hd hc1 (K H locs ls cells slots rfl rfl hH hS hl)
set_option maxHeartbeats 2000000 in
theorem zo_dup2 (F : zFr p R s m args meth c S G y) (hd : decode (zmb y) pc = .ok (.dup2, len)) (hlen : zlen (.dup2) len = true) (hsp : zspec y (pc, .dup2, len, v, a, b, k, [], ts) = true) (hs : zstep S (pc, .dup2, len, v, a, b, k, [], ts) lv st sh M = some (ps, .inl (pc', lv', st', sh', M'))) (hps : zall ps) (hH : zH G sh M H) (hS : va_S (fun q => G.2.1 ≤ q) s.heap H locs) (hl : lv_has ls (zmx y) (zlm G lv)) (hcap : cells + sh'.length ≤ R.cells + sh.length) (hcap2 : slots + zsl sh' ≤ R.slots + zsl sh) (K : zKk p l e R s m args below meth c cells slots Q G y sh (pc', lv', st', sh', M')) : W p l e R s m args below meth c H locs cells slots Q (F0 m pc ls (st.map (ztr G))) := by
  obtain ⟨hx, hb, hml, hown, hts, hK, hX, hbb, hbs, hini, hfr, hlo⟩ := F
  have hlen : len = 1 := zbeq.mp hlen
  subst hlen
  rcases st with _ | ⟨w | w | w | w | _ | w | w, _ | ⟨x | x | x | x | _ | x | x, st⟩⟩
  all_goals first | exact absurd (show (none : zRr) = some _ from hs) nofun | skip
  all_goals first | (change some (([] : List Prop), (Sum.inl (pc + 1, lv, _ :: _ :: _ :: _ :: st, sh, M) : zO)) = _ at hs; cases hs; exact lv_dup2_11 hx hb hd rfl rfl (K H locs ls cells slots rfl rfl hH hS hl)) | skip
set_option maxHeartbeats 2000000 in
theorem zo_goto {n : Int} (F : zFr p R s m args meth c S G y) (hd : decode (zmb y) pc = .ok (.goto n, len)) (hlen : zlen (.goto n) len = true) (hsp : zspec y (pc, .goto n, len, v, a, b, k, [], ts) = true) (hs : zstep S (pc, .goto n, len, v, a, b, k, [], ts) lv st sh M = some (ps, .inl (pc', lv', st', sh', M'))) (hps : zall ps) (hH : zH G sh M H) (hS : va_S (fun q => G.2.1 ≤ q) s.heap H locs) (hl : lv_has ls (zmx y) (zlm G lv)) (hcap : cells + sh'.length ≤ R.cells + sh.length) (hcap2 : slots + zsl sh' ≤ R.slots + zsl sh) (K : zKk p l e R s m args below meth c cells slots Q G y sh (pc', lv', st', sh', M')) : W p l e R s m args below meth c H locs cells slots Q (F0 m pc ls (st.map (ztr G))) := by
  obtain ⟨hx, hb, hml, hown, hts, hK, hX, hbb, hbs, hini, hfr, hlo⟩ := F
  have hlen : len = 3 := zbeq.mp hlen
  subst hlen
  change some (([] : List Prop), (Sum.inl (a, lv, st, sh, M) : zO)) = _ at hs
  cases hs
  exact lv_goto hx hb hd (of_decide_eq_true hsp) (K H locs ls cells slots rfl rfl hH hS hl)
set_option maxHeartbeats 2000000 in
theorem zo_tableswitch {d lo hi : Int} {offs : Array Int} (F : zFr p R s m args meth c S G y) (hd : decode (zmb y) pc = .ok (.tableswitch d lo hi offs, len)) (hlen : zlen (.tableswitch d lo hi offs) len = true) (hsp : zspec y (pc, .tableswitch d lo hi offs, len, v, a, b, k, [], ts) = true) (hs : zstep S (pc, .tableswitch d lo hi offs, len, v, a, b, k, [], ts) lv st sh M = some (ps, .inl (pc', lv', st', sh', M'))) (hps : zall ps) (hH : zH G sh M H) (hS : va_S (fun q => G.2.1 ≤ q) s.heap H locs) (hl : lv_has ls (zmx y) (zlm G lv)) (hcap : cells + sh'.length ≤ R.cells + sh.length) (hcap2 : slots + zsl sh' ≤ R.slots + zsl sh) (K : zKk p l e R s m args below meth c cells slots Q G y sh (pc', lv', st', sh', M')) : W p l e R s m args below meth c H locs cells slots Q (F0 m pc ls (st.map (ztr G))) := by
  obtain ⟨hx, hb, hml, hown, hts, hK, hX, hbb, hbs, hini, hfr, hlo⟩ := F
  rcases st with _ | ⟨x | x | x | x | _ | x | x, st⟩
  all_goals first | exact absurd (show (none : zRr) = some _ from hs) nofun | skip
  change some (([] : List Prop), (Sum.inl (ztab lo hi a ts x, lv, st, sh, M) : zO)) = _ at hs
  cases hs
  simp only [zspec, Bool.and_eq_true, decide_eq_true_eq] at hsp
  obtain ⟨⟨h1, h2⟩, h3⟩ := hsp
  by_cases ho : x.toInt < lo ∨ hi < x.toInt
  · have e1 : ztab lo hi a ts x = a := by rw [ztab, if_pos ho]
    rw [e1] at K
    exact lv_tableOut hx hb hd ho (of_decide_eq_true h1) (K H locs ls cells slots rfl rfl hH hS hl)
  · have e1 : ztab lo hi a ts x = ts.getD (x.toInt - lo).toNat a := by rw [ztab, if_neg ho]
    rw [e1] at K
    have hj : (x.toInt - lo).toNat < offs.size := by omega
    have h4 := congrArg (fun q : List Int => q[(x.toInt - lo).toNat]?) h2
    simp only [List.getElem?_map] at h4
    have h5 : offs.toList[(x.toInt - lo).toNat]? = some offs[(x.toInt - lo).toNat] := by
      rw [Array.getElem?_toList, Array.getElem?_eq_getElem hj]
    rw [h5] at h4
    cases h6 : ts[(x.toInt - lo).toNat]? with
    | none => rw [h6] at h4; cases h4
    | some t =>
      rw [h6] at h4
      have h7 : (pc : Int) + offs[(x.toInt - lo).toNat] = (t : Int) := Option.some.inj h4
      have e2 : ts.getD (x.toInt - lo).toNat a = t := by rw [List.getD_eq_getElem?_getD, h6]; rfl
      rw [e2] at K
      exact lv_tableIn hx hb hd (fun q => ho (Or.inl q)) (fun q => ho (Or.inr q)) (Array.getElem?_eq_getElem hj) h7 (K H locs ls cells slots rfl rfl hH hS hl)
theorem zlup_ok {pc a : Nat} {d x : Int} (ha : (pc : Int) + d = (a : Int)) : ∀ (ps : List (Int × Int)) (ts : List Nat), ps.map (fun o => (pc : Int) + o.2) = ts.map (fun t : Nat => (t : Int)) → (pc : Int) + Op.lookupswitch.offset ps d x = (zlup ps ts a x : Int)
  | [], [], _ => by simpa [Op.lookupswitch.offset, zlup] using ha
  | [], _ :: _, h => by simp at h
  | _ :: _, [], h => by simp at h
  | (k, o) :: ps, t :: ts, h => by
    simp only [List.map_cons, List.cons.injEq] at h
    have ih := zlup_ok (x := x) ha ps ts h.2
    by_cases hx : x = k
    · subst hx
      simp [Op.lookupswitch.offset, zlup, h.1]
    · simp only [zlup, if_neg hx]
      rw [← ih]
      congr 1
      simp [Op.lookupswitch.offset, hx, Ne.symm hx]
set_option maxHeartbeats 2000000 in
theorem zo_lookupswitch {d : Int} {qs : Array (Int × Int)} (F : zFr p R s m args meth c S G y) (hd : decode (zmb y) pc = .ok (.lookupswitch d qs, len)) (hlen : zlen (.lookupswitch d qs) len = true) (hsp : zspec y (pc, .lookupswitch d qs, len, v, a, b, k, [], ts) = true) (hs : zstep S (pc, .lookupswitch d qs, len, v, a, b, k, [], ts) lv st sh M = some (ps, .inl (pc', lv', st', sh', M'))) (hps : zall ps) (hH : zH G sh M H) (hS : va_S (fun q => G.2.1 ≤ q) s.heap H locs) (hl : lv_has ls (zmx y) (zlm G lv)) (hcap : cells + sh'.length ≤ R.cells + sh.length) (hcap2 : slots + zsl sh' ≤ R.slots + zsl sh) (K : zKk p l e R s m args below meth c cells slots Q G y sh (pc', lv', st', sh', M')) : W p l e R s m args below meth c H locs cells slots Q (F0 m pc ls (st.map (ztr G))) := by
  obtain ⟨hx, hb, hml, hown, hts, hK, hX, hbb, hbs, hini, hfr, hlo⟩ := F
  rcases st with _ | ⟨x | x | x | x | _ | x | x, st⟩
  all_goals first | exact absurd (show (none : zRr) = some _ from hs) nofun | skip
  change some (([] : List Prop), (Sum.inl (zlup qs.toList ts a x.toInt, lv, st, sh, M) : zO)) = _ at hs
  cases hs
  simp only [zspec, Bool.and_eq_true, decide_eq_true_eq] at hsp
  obtain ⟨⟨h1, h2⟩, h3⟩ := hsp
  exact lv_lookup hx hb hd h3 rfl (zlup_ok (of_decide_eq_true h1) _ _ h2) (K H locs ls cells slots rfl rfl hH hS hl)
end ZOne
end
section
section ZTwo
variable {p : Program} {l : Launch} {e : Env} {R : Room} {s : State} {m : MethodId} {args : Array Value} {below : List Frame} {meth : Method} {c : Code} {H : Heap} {locs : List Loc} {cells slots : Nat} {Q : State → Prop}
variable {S : zSc} {G : zG} {y : Nat} {ls : Array Slot} {pc pc' len a b k : Nat} {v : Value} {ts : List Nat} {lv lv' : zL} {st st' : List Value} {sh sh' : List zS} {M M' : zM} {ps : List Prop}

theorem zdf_v {a j : Nat} {v : Value} (h : (zdf a)[j]? = some v) : v = .int 0 ∨ v = .null := by
  have hk : zdfs.all (fun l => l.all (fun v => decide (v = .int 0 ∨ v = .null))) = true := by decide +kernel
  have hm := List.mem_of_getElem? h
  unfold zdf at hm
  rw [List.getD_eq_getElem?_getD] at hm
  cases hz : zdfs[a]? with
  | none => rw [hz] at hm; simp at hm
  | some l =>
    rw [hz] at hm
    exact of_decide_eq_true (List.all_eq_true.mp (List.all_eq_true.mp hk l (List.mem_of_getElem? hz)) v hm)
theorem zar_some {sh : List zS} {k kd n : Nat} (h : zar sh k = some (kd, n)) : ∃ fs, sh[k]? = some (kd, n, fs) := by
  unfold zar at h
  cases hs : sh[k]? with
  | none => rw [hs] at h; cases h
  | some s =>
    rw [hs] at h
    obtain ⟨a, b, fs⟩ := s
    cases h
    exact ⟨fs, rfl⟩
set_option maxHeartbeats 2000000 in
theorem zo_iaload (F : zFr p R s m args meth c S G y) (hd : decode (zmb y) pc = .ok (.iaload, len)) (hlen : zlen (.iaload) len = true) (hsp : zspec y (pc, .iaload, len, v, a, b, k, [], ts) = true) (hs : zstep S (pc, .iaload, len, v, a, b, k, [], ts) lv st sh M = some (ps, .inl (pc', lv', st', sh', M'))) (hps : zall ps) (hH : zH G sh M H) (hS : va_S (fun q => G.2.1 ≤ q) s.heap H locs) (hl : lv_has ls (zmx y) (zlm G lv)) (hcap : cells + sh'.length ≤ R.cells + sh.length) (hcap2 : slots + zsl sh' ≤ R.slots + zsl sh) (K : zKk p l e R s m args below meth c cells slots Q G y sh (pc', lv', st', sh', M')) : W p l e R s m args below meth c H locs cells slots Q (F0 m pc ls (st.map (ztr G))) := by
  obtain ⟨hx, hb, hml, hown, hts, hK, hX, hbb, hbs, hini, hfr, hlo⟩ := F
  have hlen : len = 1 := zbeq.mp hlen
  subst hlen
  rcases st with _ | ⟨i | i | i | i | _ | i | i, _ | ⟨r | r | r | r | _ | r | r, st⟩⟩
  all_goals first | exact absurd (show (none : zRr) = some _ from hs) nofun | skip
  rcases r with _ | r
  · change some (([vp_in i S.1] : List Prop), (Sum.inl (pc + 1, lv, .int (S.2 i.toNatClampNeg) :: st, sh, M) : zO)) = _ at hs
    cases hs
    exact va_sld hx hb hX (Nat.lt_of_lt_of_le hbb hbs) (Nat.not_le.mpr hbb) hS hps.1 hd (K H locs ls cells slots rfl rfl hH hS hl)
  · change (match zar sh r with
      | some (0, n) => znp [vp_in i n] (pc + 1) lv (.int (M (r + 1) i.toNatClampNeg) :: st) sh M
      | _ => none) = _ at hs
    rcases hz : zar sh r with _ | ⟨_ | kd, n⟩
    · rw [hz] at hs; exact absurd (show (none : zRr) = some _ from hs) nofun
    · rw [hz] at hs
      change some (([vp_in i n] : List Prop), (Sum.inl (pc + 1, lv, .int (M (r + 1) i.toNatClampNeg) :: st, sh, M) : zO)) = _ at hs
      cases hs
      obtain ⟨fs, hf⟩ := zar_some hz
      exact va_iald hx hb hK.1 hH.2 r 0 (zws_get hf) rfl hps.1 hd (K H locs ls cells slots rfl rfl hH hS hl)
    · rw [hz] at hs; exact absurd (show (none : zRr) = some _ from hs) nofun
set_option maxHeartbeats 2000000 in
theorem zo_baload (F : zFr p R s m args meth c S G y) (hd : decode (zmb y) pc = .ok (.baload, len)) (hlen : zlen (.baload) len = true) (hsp : zspec y (pc, .baload, len, v, a, b, k, [], ts) = true) (hs : zstep S (pc, .baload, len, v, a, b, k, [], ts) lv st sh M = some (ps, .inl (pc', lv', st', sh', M'))) (hps : zall ps) (hH : zH G sh M H) (hS : va_S (fun q => G.2.1 ≤ q) s.heap H locs) (hl : lv_has ls (zmx y) (zlm G lv)) (hcap : cells + sh'.length ≤ R.cells + sh.length) (hcap2 : slots + zsl sh' ≤ R.slots + zsl sh) (K : zKk p l e R s m args below meth c cells slots Q G y sh (pc', lv', st', sh', M')) : W p l e R s m args below meth c H locs cells slots Q (F0 m pc ls (st.map (ztr G))) := by
  obtain ⟨hx, hb, hml, hown, hts, hK, hX, hbb, hbs, hini, hfr, hlo⟩ := F
  have hlen : len = 1 := zbeq.mp hlen
  subst hlen
  rcases st with _ | ⟨i | i | i | i | _ | i | i, _ | ⟨_ | _ | _ | _ | _ | (_ | r) | _, st⟩⟩
  all_goals first | exact absurd (show (none : zRr) = some _ from hs) nofun | skip
  change (match zar sh r with
    | some (1, n) => znp [vp_in i n] (pc + 1) lv (.int (M (r + 1) i.toNatClampNeg) :: st) sh M
    | _ => none) = _ at hs
  rcases hz : zar sh r with _ | ⟨_ | _ | kd, n⟩
  · rw [hz] at hs; exact absurd (show (none : zRr) = some _ from hs) nofun
  · rw [hz] at hs; exact absurd (show (none : zRr) = some _ from hs) nofun
  · rw [hz] at hs
    change some (([vp_in i n] : List Prop), (Sum.inl (pc + 1, lv, .int (M (r + 1) i.toNatClampNeg) :: st, sh, M) : zO)) = _ at hs
    cases hs
    obtain ⟨fs, hf⟩ := zar_some hz
    exact va_zald hx hb hK.1 hH.2 r 1 (zws_get hf) rfl hps.1 hd (K H locs ls cells slots rfl rfl hH hS hl)
  · rw [hz] at hs; exact absurd (show (none : zRr) = some _ from hs) nofun
set_option maxHeartbeats 2000000 in
theorem zo_iastore (F : zFr p R s m args meth c S G y) (hd : decode (zmb y) pc = .ok (.iastore, len)) (hlen : zlen (.iastore) len = true) (hsp : zspec y (pc, .iastore, len, v, a, b, k, [], ts) = true) (hs : zstep S (pc, .iastore, len, v, a, b, k, [], ts) lv st sh M = some (ps, .inl (pc', lv', st', sh', M'))) (hps : zall ps) (hH : zH G sh M H) (hS : va_S (fun q => G.2.1 ≤ q) s.heap H locs) (hl : lv_has ls (zmx y) (zlm G lv)) (hcap : cells + sh'.length ≤ R.cells + sh.length) (hcap2 : slots + zsl sh' ≤ R.slots + zsl sh) (K : zKk p l e R s m args below meth c cells slots Q G y sh (pc', lv', st', sh', M')) : W p l e R s m args below meth c H locs cells slots Q (F0 m pc ls (st.map (ztr G))) := by
  obtain ⟨hx, hb, hml, hown, hts, hK, hX, hbb, hbs, hini, hfr, hlo⟩ := F
  have hlen : len = 1 := zbeq.mp hlen
  subst hlen
  rcases st with _ | ⟨x | x | x | x | _ | x | x, _ | ⟨i | i | i | i | _ | i | i, _ | ⟨_ | _ | _ | _ | _ | (_ | r) | _, st⟩⟩⟩
  all_goals first | exact absurd (show (none : zRr) = some _ from hs) nofun | skip
  change (match zar sh r with
    | some (0, n) => znp [vp_in i n] (pc + 1) lv st sh (zw M (r + 1) i.toNatClampNeg x)
    | _ => none) = _ at hs
  rcases hz : zar sh r with _ | ⟨_ | kd, n⟩
  · rw [hz] at hs; exact absurd (show (none : zRr) = some _ from hs) nofun
  · rw [hz] at hs
    change some (([vp_in i n] : List Prop), (Sum.inl (pc + 1, lv, st, sh, zw M (r + 1) i.toNatClampNeg x) : zO)) = _ at hs
    cases hs
    obtain ⟨fs, hf⟩ := zar_some hz
    refine zr_iast hx hb hK.1 hH.2 (zws_D G sh M) hS 0 (zws_get hf) rfl hps.1 hd fun H1 locs1 hP1 z1 hS1 => ?_
    refine K H1 locs1 ls cells slots rfl rfl ⟨z1.trans hH.1, ?_⟩ hS1 hl
    rw [zw, ← zws_write _ hf]
    exact hP1
  · rw [hz] at hs; exact absurd (show (none : zRr) = some _ from hs) nofun
set_option maxHeartbeats 2000000 in
theorem zo_bastore (F : zFr p R s m args meth c S G y) (hd : decode (zmb y) pc = .ok (.bastore, len)) (hlen : zlen (.bastore) len = true) (hsp : zspec y (pc, .bastore, len, v, a, b, k, [], ts) = true) (hs : zstep S (pc, .bastore, len, v, a, b, k, [], ts) lv st sh M = some (ps, .inl (pc', lv', st', sh', M'))) (hps : zall ps) (hH : zH G sh M H) (hS : va_S (fun q => G.2.1 ≤ q) s.heap H locs) (hl : lv_has ls (zmx y) (zlm G lv)) (hcap : cells + sh'.length ≤ R.cells + sh.length) (hcap2 : slots + zsl sh' ≤ R.slots + zsl sh) (K : zKk p l e R s m args below meth c cells slots Q G y sh (pc', lv', st', sh', M')) : W p l e R s m args below meth c H locs cells slots Q (F0 m pc ls (st.map (ztr G))) := by
  obtain ⟨hx, hb, hml, hown, hts, hK, hX, hbb, hbs, hini, hfr, hlo⟩ := F
  have hlen : len = 1 := zbeq.mp hlen
  subst hlen
  rcases st with _ | ⟨x | x | x | x | _ | x | x, _ | ⟨i | i | i | i | _ | i | i, _ | ⟨_ | _ | _ | _ | _ | (_ | r) | _, st⟩⟩⟩
  all_goals first | exact absurd (show (none : zRr) = some _ from hs) nofun | skip
  change (match zar sh r with
    | some (1, n) => znp [vp_in i n, x = 0 ∨ x = 1] (pc + 1) lv st sh (zw M (r + 1) i.toNatClampNeg x)
    | _ => none) = _ at hs
  rcases hz : zar sh r with _ | ⟨_ | _ | kd, n⟩
  · rw [hz] at hs; exact absurd (show (none : zRr) = some _ from hs) nofun
  · rw [hz] at hs; exact absurd (show (none : zRr) = some _ from hs) nofun
  · rw [hz] at hs
    change some (([vp_in i n, x = 0 ∨ x = 1] : List Prop), (Sum.inl (pc + 1, lv, st, sh, zw M (r + 1) i.toNatClampNeg x) : zO)) = _ at hs
    cases hs
    obtain ⟨fs, hf⟩ := zar_some hz
    refine zr_zast hx hb hK.1 hH.2 (zws_D G sh M) hS 1 (zws_get hf) rfl hps.1 hps.2.1 hd fun H1 locs1 hP1 z1 hS1 => ?_
    refine K H1 locs1 ls cells slots rfl rfl ⟨z1.trans hH.1, ?_⟩ hS1 hl
    rw [zw, ← zws_write _ hf]
    exact hP1
  · rw [hz] at hs; exact absurd (show (none : zRr) = some _ from hs) nofun
set_option maxHeartbeats 2000000 in
theorem zo_arraylength (F : zFr p R s m args meth c S G y) (hd : decode (zmb y) pc = .ok (.arraylength, len)) (hlen : zlen (.arraylength) len = true) (hsp : zspec y (pc, .arraylength, len, v, a, b, k, [], ts) = true) (hs : zstep S (pc, .arraylength, len, v, a, b, k, [], ts) lv st sh M = some (ps, .inl (pc', lv', st', sh', M'))) (hps : zall ps) (hH : zH G sh M H) (hS : va_S (fun q => G.2.1 ≤ q) s.heap H locs) (hl : lv_has ls (zmx y) (zlm G lv)) (hcap : cells + sh'.length ≤ R.cells + sh.length) (hcap2 : slots + zsl sh' ≤ R.slots + zsl sh) (K : zKk p l e R s m args below meth c cells slots Q G y sh (pc', lv', st', sh', M')) : W p l e R s m args below meth c H locs cells slots Q (F0 m pc ls (st.map (ztr G))) := by
  obtain ⟨hx, hb, hml, hown, hts, hK, hX, hbb, hbs, hini, hfr, hlo⟩ := F
  have hlen : len = 1 := zbeq.mp hlen
  subst hlen
  rcases st with _ | ⟨_ | _ | _ | _ | _ | (_ | r) | _, st⟩
  all_goals first | exact absurd (show (none : zRr) = some _ from hs) nofun | skip
  · change some (([] : List Prop), (Sum.inl (pc + 1, lv, .int (Int32.ofNat S.1) :: st, sh, M) : zO)) = _ at hs
    cases hs
    exact va_slen hx hb hX (Nat.lt_of_lt_of_le hbb hbs) (Nat.not_le.mpr hbb) hS hd (K H locs ls cells slots rfl rfl hH hS hl)
  · change (match zar sh r with
      | some (0, n) => znx (pc + 1) lv (.int (Int32.ofNat n) :: st) sh M
      | some (1, n) => znx (pc + 1) lv (.int (Int32.ofNat n) :: st) sh M
      | _ => none) = _ at hs
    rcases hz : zar sh r with _ | ⟨_ | _ | kd, n⟩
    · rw [hz] at hs; exact absurd (show (none : zRr) = some _ from hs) nofun
    · rw [hz] at hs
      change some (([] : List Prop), (Sum.inl (pc + 1, lv, .int (Int32.ofNat n) :: st, sh, M) : zO)) = _ at hs
      cases hs
      obtain ⟨fs, hf⟩ := zar_some hz
      exact va_alen hx hb hK.1 hH.2 r 0 (zws_get hf) rfl rfl hd (K H locs ls cells slots rfl rfl hH hS hl)
    · rw [hz] at hs
      change some (([] : List Prop), (Sum.inl (pc + 1, lv, .int (Int32.ofNat n) :: st, sh, M) : zO)) = _ at hs
      cases hs
      obtain ⟨fs, hf⟩ := zar_some hz
      exact va_alen hx hb hK.1 hH.2 r 1 (zws_get hf) rfl rfl hd (K H locs ls cells slots rfl rfl hH hS hl)
    · rw [hz] at hs; exact absurd (show (none : zRr) = some _ from hs) nofun
set_option maxHeartbeats 2000000 in
theorem zo_aaload (F : zFr p R s m args meth c S G y) (hd : decode (zmb y) pc = .ok (.aaload, len)) (hlen : zlen (.aaload) len = true) (hsp : zspec y (pc, .aaload, len, v, a, b, k, [], ts) = true) (hs : zstep S (pc, .aaload, len, v, a, b, k, [], ts) lv st sh M = some (ps, .inl (pc', lv', st', sh', M'))) (hps : zall ps) (hH : zH G sh M H) (hS : va_S (fun q => G.2.1 ≤ q) s.heap H locs) (hl : lv_has ls (zmx y) (zlm G lv)) (hcap : cells + sh'.length ≤ R.cells + sh.length) (hcap2 : slots + zsl sh' ≤ R.slots + zsl sh) (K : zKk p l e R s m args below meth c cells slots Q G y sh (pc', lv', st', sh', M')) : W p l e R s m args below meth c H locs cells slots Q (F0 m pc ls (st.map (ztr G))) := by
  obtain ⟨hx, hb, hml, hown, hts, hK, hX, hbb, hbs, hini, hfr, hlo⟩ := F
  have hlen : len = 1 := zbeq.mp hlen
  subst hlen
  rcases st with _ | ⟨i | i | i | i | _ | i | i, _ | ⟨_ | _ | _ | _ | _ | (_ | r) | _, st⟩⟩
  all_goals first | exact absurd (show (none : zRr) = some _ from hs) nofun | skip
  change (match sh[r]? with
    | some (2, n, fs) => match fs.getD i.toNatClampNeg .null with
      | .ref q => znp [vp_in i n] (pc + 1) lv (.ref q :: st) sh M
      | _ => none
    | _ => none) = _ at hs
  rcases hz : sh[r]? with _ | ⟨_ | _ | _ | kd, n, fs⟩
  · rw [hz] at hs; exact absurd (show (none : zRr) = some _ from hs) nofun
  · rw [hz] at hs; exact absurd (show (none : zRr) = some _ from hs) nofun
  · rw [hz] at hs; exact absurd (show (none : zRr) = some _ from hs) nofun
  · rw [hz] at hs
    change (match fs.getD i.toNatClampNeg .null with
      | .ref q => znp [vp_in i n] (pc + 1) lv (.ref q :: st) sh M
      | _ => none) = _ at hs
    rcases hq : fs.getD i.toNatClampNeg .null with q | q | q | q | _ | q | q
    all_goals rw [hq] at hs
    all_goals first | exact absurd (show (none : zRr) = some _ from hs) nofun | skip
    change some (([vp_in i n] : List Prop), (Sum.inl (pc + 1, lv, .ref q :: st, sh, M) : zO)) = _ at hs
    cases hs
    refine va_aldq hx hb hK.1 hH.2 r 2 (zws_get hz) rfl hps.1 hd ?_
    have e1 : va_rf (zrf G (fs.getD i.toNatClampNeg .null)) = ztr G (.ref q) := by rw [hq]; rfl
    rw [e1]
    exact K H locs ls cells slots rfl rfl hH hS hl
  · rw [hz] at hs; exact absurd (show (none : zRr) = some _ from hs) nofun
set_option maxHeartbeats 2000000 in
theorem zo_aastore (F : zFr p R s m args meth c S G y) (hd : decode (zmb y) pc = .ok (.aastore, len)) (hlen : zlen (.aastore) len = true) (hsp : zspec y (pc, .aastore, len, v, a, b, k, [], ts) = true) (hs : zstep S (pc, .aastore, len, v, a, b, k, [], ts) lv st sh M = some (ps, .inl (pc', lv', st', sh', M'))) (hps : zall ps) (hH : zH G sh M H) (hS : va_S (fun q => G.2.1 ≤ q) s.heap H locs) (hl : lv_has ls (zmx y) (zlm G lv)) (hcap : cells + sh'.length ≤ R.cells + sh.length) (hcap2 : slots + zsl sh' ≤ R.slots + zsl sh) (K : zKk p l e R s m args below meth c cells slots Q G y sh (pc', lv', st', sh', M')) : W p l e R s m args below meth c H locs cells slots Q (F0 m pc ls (st.map (ztr G))) := by
  obtain ⟨hx, hb, hml, hown, hts, hK, hX, hbb, hbs, hini, hfr, hlo⟩ := F
  have hlen : len = 1 := zbeq.mp hlen
  subst hlen
  rcases st with _ | ⟨_ | _ | _ | _ | _ | (_ | q) | _, _ | ⟨i | i | i | i | _ | i | i, _ | ⟨_ | _ | _ | _ | _ | (_ | r) | _, st⟩⟩⟩
  all_goals first | exact absurd (show (none : zRr) = some _ from hs) nofun | skip
  change (match sh[r]?, zkind sh q with
    | some (2, n, fs), some 9 => znp [vp_in i n, i.toNatClampNeg < fs.length] (pc + 1) lv st (sh.set r (2, n, fs.set i.toNatClampNeg (.ref (q + 1)))) M
    | _, _ => none) = _ at hs
  rcases hz : sh[r]? with _ | ⟨_ | _ | _ | kd, n, fs⟩
  · rw [hz] at hs; exact absurd (show (none : zRr) = some _ from hs) nofun
  · rw [hz] at hs; exact absurd (show (none : zRr) = some _ from hs) nofun
  · rw [hz] at hs; exact absurd (show (none : zRr) = some _ from hs) nofun
  · rw [hz] at hs
    rcases hkd : zkind sh q with _ | kd
    · rw [hkd] at hs; exact absurd (show (none : zRr) = some _ from hs) nofun
    · rw [hkd] at hs
      by_cases h9 : kd = 9
      · subst h9
        change some (([vp_in i n, i.toNatClampNeg < fs.length] : List Prop), (Sum.inl (pc + 1, lv, st, sh.set r (2, n, fs.set i.toNatClampNeg (.ref (q + 1))), M) : zO)) = _ at hs
        cases hs
        obtain ⟨n2, fs2, hq2⟩ : ∃ n2 fs2, sh[q]? = some (9, n2, fs2) := by
          unfold zkind at hkd
          cases hs2 : sh[q]? with
          | none => rw [hs2] at hkd; cases hkd
          | some s2 =>
            rw [hs2] at hkd
            obtain ⟨a2, b2, c2⟩ := s2
            cases hkd
            exact ⟨_, _, rfl⟩
        refine zr_aast hx hb hK.1 hH.2 (zws_D G sh M) hS (q0 := r) (t0 := 2) (qk := q) (ci := 6) (r := (zR6, zT6, 4)) (zws_get hz) rfl (zws_get hq2) rfl hps.1 hd fun H1 locs1 hP1 z1 hS1 => ?_
        refine K H1 locs1 ls cells slots (by simp) ?_ ⟨by simp; exact z1.trans hH.1, ?_⟩ hS1 hl
        · congr 1
          rw [zsl, zsl, List.map_set]
          have e3 : (sh.map fun s : zS => s.2.1).set r n = sh.map fun s : zS => s.2.1 := by
            apply List.ext_getElem?
            intro j
            have hr : r < sh.length := (List.getElem?_eq_some_iff.mp hz).1
            by_cases hj : r = j
            · subst hj
              rw [List.getElem?_set_self (by simpa using hr), List.getElem?_map, hz]
              rfl
            · rw [List.getElem?_set_ne hj]
          rw [e3]
        · rw [← zws_set (M := M) hz (fun _ _ => rfl)]
          have e2 : (fun j => zrf G ((fs.set i.toNatClampNeg (.ref (q + 1))).getD j .null)) = va_up (fun j => zrf G (fs.getD j .null)) i.toNatClampNeg (some (G.2.1 + q)) := by
            funext j
            have hlt : i.toNatClampNeg < fs.length := hps.2.1
            by_cases hj : i.toNatClampNeg = j
            · subst hj
              rw [List.getD_eq_getElem?_getD, List.getElem?_set_self hlt]
              simp [va_up, zrf, zad]
            · rw [List.getD_eq_getElem?_getD, List.getElem?_set_ne hj]
              simp [va_up, Ne.symm hj]
          show va_P _ _ ((zws G sh M).set r (G.2.1 + r, .inl (G.2.2.2.2.2, n, .inr (.inr (.inr (.inr (fun j => zrf G ((fs.set i.toNatClampNeg (.ref (q + 1))).getD j .null)))))))) H1
          rw [e2]
          exact hP1
      · exfalso
        revert hs
        show ¬ ((match (some (2, n, fs) : Option zS), (some kd : Option Nat) with
          | some (2, n, fs), some 9 => znp [vp_in i n, i.toNatClampNeg < fs.length] (pc + 1) lv st (sh.set r (2, n, fs.set i.toNatClampNeg (.ref (q + 1)))) M
          | _, _ => none) = _)
        split
        · rename_i h1 h2
          exact absurd (Option.some.inj h2) h9
        · intro h; cases h
  · rw [hz] at hs; exact absurd (show (none : zRr) = some _ from hs) nofun
set_option maxHeartbeats 2000000 in
theorem zo_getfield {n : Nat} (F : zFr p R s m args meth c S G y) (hd : decode (zmb y) pc = .ok (.getfield n, len)) (hlen : zlen (.getfield n) len = true) (hsp : zspec y (pc, .getfield n, len, v, a, b, k, [], ts) = true) (hs : zstep S (pc, .getfield n, len, v, a, b, k, [], ts) lv st sh M = some (ps, .inl (pc', lv', st', sh', M'))) (hps : zall ps) (hH : zH G sh M H) (hS : va_S (fun q => G.2.1 ≤ q) s.heap H locs) (hl : lv_has ls (zmx y) (zlm G lv)) (hcap : cells + sh'.length ≤ R.cells + sh.length) (hcap2 : slots + zsl sh' ≤ R.slots + zsl sh) (K : zKk p l e R s m args below meth c cells slots Q G y sh (pc', lv', st', sh', M')) : W p l e R s m args below meth c H locs cells slots Q (F0 m pc ls (st.map (ztr G))) := by
  obtain ⟨hx, hb, hml, hown, hts, hK, hX, hbb, hbs, hini, hfr, hlo⟩ := F
  have hlen : len = 3 := zbeq.mp hlen
  subst hlen
  obtain ⟨r0, hc0, hb0, hlk, hdecl⟩ := zF_of hsp
  obtain ⟨hin, hty, hnm, hinst, hini0, hfs, hlen0⟩ := zcls_of hc0
  rcases st with _ | ⟨_ | _ | _ | _ | _ | (_ | r) | _, st⟩
  all_goals first | exact absurd (show (none : zRr) = some _ from hs) nofun | skip
  change zgf a b (r + 1) (pc + 3) lv st sh M = _ at hs
  unfold zgf at hs
  rcases hz : sh[r]? with _ | ⟨kd, N, fs⟩
  · simp [hz] at hs
  · simp only [hz] at hs
    cases hkd : Nat.beq kd (a + 3) with
    | false => simp [hkd] at hs
    | true =>
      have hk2 := zbeq.mp hkd
      subst hk2
      simp only [hkd] at hs
      have he := zws_get (G := G) (M := M) hz
      rcases hf : fs[b]? with _ | (q | q | q | q | _ | q | q)
      all_goals simp only [hf] at hs
      all_goals first | exact absurd (show (none : zRr) = some _ from hs) nofun | skip
      · cases hs
        exact va_get hx hb hts hin hown hK.1 hH.2 r he hc0 b hb0 (hts _ (zg hlk rfl)) (fun _ h => h) (v := .int (M (r + 1) b)) (by rw [List.getElem?_mapIdx, hf]; rfl) hd (K H locs ls cells slots rfl rfl hH hS hl)
      · cases hs
        exact va_get hx hb hts hin hown hK.1 hH.2 r he hc0 b hb0 (hts _ (zg hlk rfl)) (fun _ h => h) (v := .ref (zad G q)) (by rw [List.getElem?_mapIdx, hf]; rfl) hd (K H locs ls cells slots rfl rfl hH hS hl)
set_option maxHeartbeats 2000000 in
theorem zo_new {n : Nat} (F : zFr p R s m args meth c S G y) (hd : decode (zmb y) pc = .ok (.new n, len)) (hlen : zlen (.new n) len = true) (hsp : zspec y (pc, .new n, len, v, a, b, k, [], ts) = true) (hs : zstep S (pc, .new n, len, v, a, b, k, [], ts) lv st sh M = some (ps, .inl (pc', lv', st', sh', M'))) (hps : zall ps) (hH : zH G sh M H) (hS : va_S (fun q => G.2.1 ≤ q) s.heap H locs) (hl : lv_has ls (zmx y) (zlm G lv)) (hcap : cells + sh'.length ≤ R.cells + sh.length) (hcap2 : slots + zsl sh' ≤ R.slots + zsl sh) (K : zKk p l e R s m args below meth c cells slots Q G y sh (pc', lv', st', sh', M')) : W p l e R s m args below meth c H locs cells slots Q (F0 m pc ls (st.map (ztr G))) := by
  obtain ⟨hx, hb, hml, hown, hts, hK, hX, hbb, hbs, hini, hfr, hlo⟩ := F
  have hlen : len = 3 := zbeq.mp hlen
  subst hlen
  simp only [zspec, Bool.and_eq_true] at hsp
  obtain ⟨hc, hN⟩ := hsp
  obtain ⟨r0, hc0, hlk⟩ := zC_of hc
  rw [hc0] at hN
  have hN := zbeq.mp hN
  subst hN
  change some (([∀ j, M (sh.length + 1) j = 0] : List Prop), (Sum.inl (pc + 3, lv, .ref (sh.length + 1) :: st, sh ++ [(a + 3, r0.2.2, zdf a)], M) : zO)) = _ at hs
  cases hs
  have hz : zsl (sh ++ [(a + 3, r0.2.2, zdf a)]) = zsl sh + r0.2.2 := by simp [zsl]
  have hz2 : (sh ++ [(a + 3, r0.2.2, zdf a)]).length = sh.length + 1 := by simp
  refine zr_new hx hb hts hown (hts _ (zg hlk rfl)) hK.1 hH.2 hS hc0 (by rw [hz2] at hcap; omega) (by rw [hz] at hcap2; omega) hH.1 hd fun H1 hP1 z1 hS1 => ?_
  refine K H1 locs ls (cells + 1) (slots + r0.2.2) (by rw [hz2]; omega) (by rw [hz]; omega) ⟨by rw [hz2, z1]; omega, ?_⟩ hS1 hl
  rw [zws_push]
  have e1 : zcell G sh.length (a + 3, r0.2.2, zdf a) (M (sh.length + 1)) = .inr (a, zdf a) := by
    show Sum.inr (a, (zdf a).mapIdx (fun j v => zfv G (M (sh.length + 1) j) v)) = _
    congr 2
    have h0 := hps.1
    apply List.ext_getElem?
    intro j
    rw [List.getElem?_mapIdx]
    cases hj : (zdf a)[j]? with
    | none => rfl
    | some v =>
      have hv : v = .int 0 ∨ v = .null := zdf_v hj
      rcases hv with rfl | rfl
      · show some (Value.int (M (sh.length + 1) j)) = _
        rw [h0 j]
      · rfl
  rw [e1]
  exact hP1
set_option maxHeartbeats 2000000 in
theorem zo_newarray {n : ArrayType} (F : zFr p R s m args meth c S G y) (hd : decode (zmb y) pc = .ok (.newarray n, len)) (hlen : zlen (.newarray n) len = true) (hsp : zspec y (pc, .newarray n, len, v, a, b, k, [], ts) = true) (hs : zstep S (pc, .newarray n, len, v, a, b, k, [], ts) lv st sh M = some (ps, .inl (pc', lv', st', sh', M'))) (hps : zall ps) (hH : zH G sh M H) (hS : va_S (fun q => G.2.1 ≤ q) s.heap H locs) (hl : lv_has ls (zmx y) (zlm G lv)) (hcap : cells + sh'.length ≤ R.cells + sh.length) (hcap2 : slots + zsl sh' ≤ R.slots + zsl sh) (K : zKk p l e R s m args below meth c cells slots Q G y sh (pc', lv', st', sh', M')) : W p l e R s m args below meth c H locs cells slots Q (F0 m pc ls (st.map (ztr G))) := by
  obtain ⟨hx, hb, hml, hown, hts, hK, hX, hbb, hbs, hini, hfr, hlo⟩ := F
  have hlen : len = 2 := zbeq.mp hlen
  subst hlen
  rcases st with _ | ⟨x | x | x | x | _ | x | x, st⟩
  all_goals first | exact absurd (show (none : zRr) = some _ from hs) nofun | skip
  change some (([¬ x < 0, x.toNatClampNeg ≤ 100000, ∀ j, M (sh.length + 1) j = 0] : List Prop), (Sum.inl (pc + 2, lv, .ref (sh.length + 1) :: st, sh ++ [(a, x.toNatClampNeg, [])], M) : zO)) = _ at hs
  cases hs
  have hz : zsl (sh ++ [(a, x.toNatClampNeg, [])]) = zsl sh + x.toNatClampNeg := by simp [zsl]
  have hz2 : (sh ++ [(a, x.toNatClampNeg, ([] : List Value))]).length = sh.length + 1 := by simp
  have h0 : M (sh.length + 1) = fun _ => 0 := funext hps.2.2.1
  rcases n with _ | _ | _ | _ | _ | _ | _ | _ <;> rcases a with _ | _ | a
  all_goals first | exact absurd (show false = true from hsp) nofun | skip
  · refine zr_newa hx hb (ty := .boolean) rfl (hts _ (zg zarrZ rfl)) (hK.1.2 1 _ rfl).2 rfl (by decide) hH.2 hS hps.1 hps.2.1 (by rw [hz2] at hcap; omega) (by rw [hz] at hcap2; omega) hH.1 hd fun H1 hP1 z1 hS1 => ?_
    refine K H1 locs ls (cells + 1) (slots + x.toNatClampNeg) (by rw [hz2]; omega) (by rw [hz]; omega) ⟨by rw [hz2, z1]; omega, ?_⟩ hS1 hl
    rw [zws_push, h0]
    exact hP1
  · refine zr_newa hx hb (ty := .int) rfl (hts _ (zg zarrI rfl)) (hK.1.2 0 _ rfl).2 rfl (by decide) hH.2 hS hps.1 hps.2.1 (by rw [hz2] at hcap; omega) (by rw [hz] at hcap2; omega) hH.1 hd fun H1 hP1 z1 hS1 => ?_
    refine K H1 locs ls (cells + 1) (slots + x.toNatClampNeg) (by rw [hz2]; omega) (by rw [hz]; omega) ⟨by rw [hz2, z1]; omega, ?_⟩ hS1 hl
    rw [zws_push, h0]
    exact hP1
set_option maxHeartbeats 2000000 in
theorem zo_anewarray {n : Nat} (F : zFr p R s m args meth c S G y) (hd : decode (zmb y) pc = .ok (.anewarray n, len)) (hlen : zlen (.anewarray n) len = true) (hsp : zspec y (pc, .anewarray n, len, v, a, b, k, [], ts) = true) (hs : zstep S (pc, .anewarray n, len, v, a, b, k, [], ts) lv st sh M = some (ps, .inl (pc', lv', st', sh', M'))) (hps : zall ps) (hH : zH G sh M H) (hS : va_S (fun q => G.2.1 ≤ q) s.heap H locs) (hl : lv_has ls (zmx y) (zlm G lv)) (hcap : cells + sh'.length ≤ R.cells + sh.length) (hcap2 : slots + zsl sh' ≤ R.slots + zsl sh) (K : zKk p l e R s m args below meth c cells slots Q G y sh (pc', lv', st', sh', M')) : W p l e R s m args below meth c H locs cells slots Q (F0 m pc ls (st.map (ztr G))) := by
  obtain ⟨hx, hb, hml, hown, hts, hK, hX, hbb, hbs, hini, hfr, hlo⟩ := F
  have hlen : len = 3 := zbeq.mp hlen
  subst hlen
  simp only [zspec, Bool.and_eq_true] at hsp
  obtain ⟨hc, hN⟩ := hsp
  have hN := zbeq.mp hN
  subst hN
  obtain ⟨r0, hc0, hlk⟩ := zC_of hc
  have : r0 = (zR6, zT6, 4) := (Option.some.inj hc0).symm
  subst this
  rcases st with _ | ⟨x | x | x | x | _ | x | x, st⟩
  all_goals first | exact absurd (show (none : zRr) = some _ from hs) nofun | skip
  change some (([¬ x < 0, x.toNatClampNeg ≤ 100000] : List Prop), (Sum.inl (pc + 3, lv, .ref (sh.length + 1) :: st, sh ++ [(2, x.toNatClampNeg, List.replicate x.toNatClampNeg .null)], M) : zO)) = _ at hs
  cases hs
  have hz : zsl (sh ++ [(2, x.toNatClampNeg, List.replicate x.toNatClampNeg .null)]) = zsl sh + x.toNatClampNeg := by simp [zsl]
  have hz2 : (sh ++ [(2, x.toNatClampNeg, List.replicate x.toNatClampNeg Value.null)]).length = sh.length + 1 := by simp
  obtain ⟨kA, comp, k1, k2, k3, k4⟩ := (hK.1.2 2 _ rfl).2
  refine zr_anew hx hb hown (hts _ (zg hlk rfl)) hK.2.2 k4 hH.2 hS hps.1 hps.2.1 (by rw [hz2] at hcap; omega) (by rw [hz] at hcap2; omega) hH.1 hd fun H1 hP1 z1 hS1 => ?_
  refine K H1 locs ls (cells + 1) (slots + x.toNatClampNeg) (by rw [hz2]; omega) (by rw [hz]; omega) ⟨by rw [hz2, z1]; omega, ?_⟩ hS1 hl
  rw [zws_push]
  have e1 : (fun j => zrf G ((List.replicate x.toNatClampNeg Value.null).getD j .null)) = fun _ => none := by
    funext j
    have : (List.replicate x.toNatClampNeg Value.null).getD j .null = .null := by
      rw [List.getD_eq_getElem?_getD, List.getElem?_replicate]
      split <;> rfl
    rw [this]
    rfl
  show va_P _ _ (zws G sh M ++ [(G.2.1 + sh.length, .inl (G.2.2.2.2.2, x.toNatClampNeg, .inr (.inr (.inr (.inr (fun j => zrf G ((List.replicate x.toNatClampNeg Value.null).getD j .null)))))))]) H1
  rw [e1]
  exact hP1
end ZTwo
end
section
section ZThree
variable {p : Program} {l : Launch} {e : Env} {R : Room} {s : State} {m : MethodId} {args : Array Value} {below : List Frame} {meth : Method} {c : Code} {H : Heap} {locs : List Loc} {cells slots : Nat} {Q : State → Prop}
variable {S : zSc} {G : zG} {y : Nat} {ls : Array Slot} {pc pc' len a b k : Nat} {v : Value} {ts : List Nat} {lv lv' : zL} {st st' : List Value} {sh sh' : List zS} {M M' : zM} {ps : List Prop}

theorem zsl_set {sh : List zS} {r a a' n : Nat} {fs fs' : List Value} (hz : sh[r]? = some (a, n, fs)) : zsl (sh.set r (a', n, fs')) = zsl sh := by
  rw [zsl, zsl, List.map_set]
  have e3 : (sh.map fun s : zS => s.2.1).set r n = sh.map fun s : zS => s.2.1 := by
    apply List.ext_getElem?
    intro j
    have hr : r < sh.length := (List.getElem?_eq_some_iff.mp hz).1
    by_cases hj : r = j
    · subst hj
      rw [List.getElem?_set_self (by simpa using hr), List.getElem?_map, hz]
      rfl
    · rw [List.getElem?_set_ne hj]
  show ((sh.map fun s : zS => s.2.1).set r n).sum = _
  rw [e3]
theorem zfs_int {G : zG} {fs : List Value} {f : Nat → Int32} {b : Nat} {q x : Int32} (hf : fs[b]? = some (.int q)) : (fs.mapIdx (fun j v => zfv G (f j) v)).set b (.int x) = fs.mapIdx (fun j v => zfv G (upd f b x j) v) := by
  apply List.ext_getElem?
  intro j
  have hb : b < fs.length := (List.getElem?_eq_some_iff.mp hf).1
  by_cases hj : b = j
  · subst hj
    rw [List.getElem?_set_self (by simpa using hb), List.getElem?_mapIdx, hf]
    simp [zfv, upd]
  · rw [List.getElem?_set_ne hj, List.getElem?_mapIdx, List.getElem?_mapIdx]
    simp [upd, Ne.symm hj]
theorem zfs_ref {G : zG} {fs : List Value} {f : Nat → Int32} {b q : Nat} {v0 : Value} (hf : fs[b]? = some v0) : (fs.mapIdx (fun j v => zfv G (f j) v)).set b (.ref (zad G q)) = (fs.set b (.ref q)).mapIdx (fun j v => zfv G (f j) v) := by
  apply List.ext_getElem?
  intro j
  have hb : b < fs.length := (List.getElem?_eq_some_iff.mp hf).1
  by_cases hj : b = j
  · subst hj
    rw [List.getElem?_set_self (by simpa using hb), List.getElem?_mapIdx, List.getElem?_set_self hb]
    rfl
  · rw [List.getElem?_set_ne hj, List.getElem?_mapIdx, List.getElem?_mapIdx, List.getElem?_set_ne hj]
set_option maxHeartbeats 2000000 in
theorem zo_putfield {n : Nat} (F : zFr p R s m args meth c S G y) (hd : decode (zmb y) pc = .ok (.putfield n, len)) (hlen : zlen (.putfield n) len = true) (hsp : zspec y (pc, .putfield n, len, v, a, b, k, [], ts) = true) (hs : zstep S (pc, .putfield n, len, v, a, b, k, [], ts) lv st sh M = some (ps, .inl (pc', lv', st', sh', M'))) (hps : zall ps) (hH : zH G sh M H) (hS : va_S (fun q => G.2.1 ≤ q) s.heap H locs) (hl : lv_has ls (zmx y) (zlm G lv)) (hcap : cells + sh'.length ≤ R.cells + sh.length) (hcap2 : slots + zsl sh' ≤ R.slots + zsl sh) (K : zKk p l e R s m args below meth c cells slots Q G y sh (pc', lv', st', sh', M')) : W p l e R s m args below meth c H locs cells slots Q (F0 m pc ls (st.map (ztr G))) := by
  obtain ⟨hx, hb, hml, hown, hts, hK, hX, hbb, hbs, hini, hfr, hlo⟩ := F
  have hlen : len = 3 := zbeq.mp hlen
  subst hlen
  simp only [zspec, Bool.and_eq_true] at hsp
  obtain ⟨hF, hT⟩ := hsp
  obtain ⟨r0, hc0, hb0, hlk, hdecl⟩ := zF_of hF
  simp only [hc0, Bool.and_eq_true] at hT
  obtain ⟨h1, h2⟩ := hT
  have hfin : (r0.2.1 b).2.2.2 = false ∨ (meth.name = "<init>" ∧ (r0.2.1 b).1 = zown (zmo y)) := by
    cases hf : (r0.2.1 b).2.2.2 with
    | false => exact Or.inl rfl
    | true =>
      simp only [hf, Bool.not_true, Bool.false_or, Bool.and_eq_true, decide_eq_true_eq] at h1
      exact Or.inr ⟨hini h1.1, hdecl.trans h1.2⟩
  rcases st with _ | ⟨x0, _ | ⟨_ | _ | _ | _ | _ | (_ | r) | _, st⟩⟩
  all_goals first | exact absurd (show (none : zRr) = some _ from hs) nofun | skip
  change zpf a b k x0 (r + 1) (pc + 3) lv st sh M = _ at hs
  unfold zpf at hs
  rcases hz : sh[r]? with _ | ⟨kd, N, fs⟩
  · simp [hz] at hs
  simp only [hz] at hs
  cases hkd : Nat.beq kd (a + 3) with
  | false => simp [hkd] at hs
  | true =>
  have hk2 := zbeq.mp hkd
  subst hk2
  simp only [hkd] at hs
  have he := zws_get (G := G) (M := M) hz
  split at hs
  · cases hs
    rename_i hf
    rename_i q x
    have hlb : b < fs.length := (List.getElem?_eq_some_iff.mp hf).1
    have ht : zty r0 b = .int := by
      cases hq : zty r0 b <;> simp only [hq] at h2 <;> first | rfl | exact absurd h2 (by simp)
    refine zr_put hx hb hts hown hK.1 hH.2 (zws_D G sh M) hS he hc0 hb0 (hts _ (zg hlk rfl)) hfin (v := .int x) (by rw [ht]; rfl) (by rw [ht]; rfl) (by simpa using hlb) hd fun H1 locs1 hP1 z1 hS1 => ?_
    refine K H1 locs1 ls cells slots rfl rfl ⟨z1.trans hH.1, ?_⟩ hS1 hl
    rw [zfs_int hf] at hP1
    rw [zw, ← zws_write _ hz]
    exact hP1
  · cases hs
    rename_i hf
    rename_i q x
    have hlb : b < fs.length := (List.getElem?_eq_some_iff.mp hf).1
    have ht : zty r0 b = .boolean := by
      cases hq : zty r0 b <;> simp only [hq] at h2 <;> first | rfl | exact absurd h2 (by simp)
    refine zr_put hx hb hts hown hK.1 hH.2 (zws_D G sh M) hS he hc0 hb0 (hts _ (zg hlk rfl)) hfin (v := .int x) (by rw [ht]; rcases hps.1 with h | h <;> subst h <;> decide) (by rw [ht]; rcases hps.1 with h | h <;> subst h <;> decide) (by simpa using hlb) hd fun H1 locs1 hP1 z1 hS1 => ?_
    refine K H1 locs1 ls cells slots rfl rfl ⟨z1.trans hH.1, ?_⟩ hS1 hl
    rw [zfs_int hf] at hP1
    rw [zw, ← zws_write _ hz]
    exact hP1
  · cases hs
    rename_i hf
    have hlb : b < fs.length := (List.getElem?_eq_some_iff.mp hf).1
    rename_i q
    have ht : (∃ C, zty r0 b = .object C) ∨ ∃ t, zty r0 b = .array t := by
      cases hq : zty r0 b <;> simp only [hq] at h2 <;> first | exact Or.inl ⟨_, rfl⟩ | exact Or.inr ⟨_, rfl⟩ | exact absurd h2 (by simp)
    refine zr_put hx hb hts hown hK.1 hH.2 (zws_D G sh M) hS he hc0 hb0 (hts _ (zg hlk rfl)) hfin (v := .ref (zad G q)) (by rcases ht with ⟨C, ht⟩ | ⟨C, ht⟩ <;> rw [ht] <;> rfl) (by rcases ht with ⟨C, ht⟩ | ⟨C, ht⟩ <;> rw [ht] <;> rfl) (by simpa using hlb) hd fun H1 locs1 hP1 z1 hS1 => ?_
    refine K H1 locs1 ls cells slots (by simp) (by rw [zsl_set hz]) ⟨by simp; exact z1.trans hH.1, ?_⟩ hS1 hl
    rw [zfs_ref hf] at hP1
    rw [← zws_set (M := M) hz (fun _ _ => rfl)]
    exact hP1
  · exact absurd hs nofun
theorem zcall_next {y n pc : Nat} {as rest : List Value} {lv : zL} {sh : List zS} {M : zM} {ps : List Prop} {t : zC} (h : zcall y n as rest pc lv sh M = some (ps, .inl t)) : False := by
  unfold zcall at h
  split at h
  · cases h
  · cases h
set_option maxHeartbeats 2000000 in
theorem zo_invokespecial {n : Nat} (F : zFr p R s m args meth c S G y) (hd : decode (zmb y) pc = .ok (.invokespecial n, len)) (hlen : zlen (.invokespecial n) len = true) (hsp : zspec y (pc, .invokespecial n, len, v, a, b, k, [], ts) = true) (hs : zstep S (pc, .invokespecial n, len, v, a, b, k, [], ts) lv st sh M = some (ps, .inl (pc', lv', st', sh', M'))) (hps : zall ps) (hH : zH G sh M H) (hS : va_S (fun q => G.2.1 ≤ q) s.heap H locs) (hl : lv_has ls (zmx y) (zlm G lv)) (hcap : cells + sh'.length ≤ R.cells + sh.length) (hcap2 : slots + zsl sh' ≤ R.slots + zsl sh) (K : zKk p l e R s m args below meth c cells slots Q G y sh (pc', lv', st', sh', M')) : W p l e R s m args below meth c H locs cells slots Q (F0 m pc ls (st.map (ztr G))) := by
  obtain ⟨hx, hb, hml, hown, hts, hK, hX, hbb, hbs, hini, hfr, hlo⟩ := F
  have hlen : len = 3 := zbeq.mp hlen
  subst hlen
  rcases k with _ | k
  · simp only [zspec, Bool.and_eq_true, zble] at hsp
    obtain ⟨⟨hm, h1⟩, h2⟩ := hsp
    obtain ⟨p1, p2, p3, p4, hm⟩ := zM_of hm
    simp only [zmlb, Bool.and_eq_true] at hm
    rcases st with _ | ⟨q | q | q | q | _ | q | q, st⟩
    all_goals first | exact absurd (show (none : zRr) = some _ from hs) nofun | skip
    change (match Nat.ble (zcats st) 8 with
      | true => znx (pc + 3) lv st sh M
      | false => none) = _ at hs
    cases hb8 : Nat.ble (zcats st) 8 with
    | false => rw [hb8] at hs; exact absurd (show (none : zRr) = some _ from hs) nofun
    | true =>
      rw [hb8] at hs
      have h8 := zble.mp hb8
      have e8 := zcats_map G st
      change some (([] : List Prop), (Sum.inl (pc + 3, lv, st, sh, M) : zO)) = _ at hs
      cases hs
      refine W.objInit hx hb hown (hts _ (zg (zat_mem hm.1.1) rfl)) (hts _ (zg (zat_mem hm.1.2) rfl)) (hts _ (zg (zat_mem hm.2) rfl)) rfl (by rw [hml]; exact hl.1) rfl hd (by omega) ?_ (K H locs ls cells slots rfl rfl hH hS hl)
      show 2 * 0 + _ + 12 ≤ _
      omega
  · exfalso
    change (match st.drop b with
      | .ref (k0 + 1) :: rest => zcall a b (.ref (k0 + 1) :: (st.take b).reverse) rest (pc + 3) lv sh M
      | _ => none) = _ at hs
    split at hs
    · exact zcall_next hs
    · cases hs
set_option maxHeartbeats 2000000 in
theorem zo_invokevirtual {n : Nat} (F : zFr p R s m args meth c S G y) (hd : decode (zmb y) pc = .ok (.invokevirtual n, len)) (hlen : zlen (.invokevirtual n) len = true) (hsp : zspec y (pc, .invokevirtual n, len, v, a, b, k, [], ts) = true) (hs : zstep S (pc, .invokevirtual n, len, v, a, b, k, [], ts) lv st sh M = some (ps, .inl (pc', lv', st', sh', M'))) (hps : zall ps) (hH : zH G sh M H) (hS : va_S (fun q => G.2.1 ≤ q) s.heap H locs) (hl : lv_has ls (zmx y) (zlm G lv)) (hcap : cells + sh'.length ≤ R.cells + sh.length) (hcap2 : slots + zsl sh' ≤ R.slots + zsl sh) (K : zKk p l e R s m args below meth c cells slots Q G y sh (pc', lv', st', sh', M')) : W p l e R s m args below meth c H locs cells slots Q (F0 m pc ls (st.map (ztr G))) := by
  obtain ⟨hx, hb, hml, hown, hts, hK, hX, hbb, hbs, hini, hfr, hlo⟩ := F
  exfalso
  change (match st.drop b with
    | .ref (k0 + 1) :: rest => match zkind sh k0 with
      | some kd => match Nat.beq kd (k + 3) with
        | true => zcall a b (.ref (k0 + 1) :: (st.take b).reverse) rest (pc + len) lv sh M
        | false => none
      | none => none
    | _ => none) = _ at hs
  split at hs
  · split at hs
    · split at hs
      · exact zcall_next hs
      · cases hs
    · cases hs
  · cases hs
set_option maxHeartbeats 2000000 in
theorem zo_invokestatic {n : Nat} (F : zFr p R s m args meth c S G y) (hd : decode (zmb y) pc = .ok (.invokestatic n, len)) (hlen : zlen (.invokestatic n) len = true) (hsp : zspec y (pc, .invokestatic n, len, v, a, b, k, [], ts) = true) (hs : zstep S (pc, .invokestatic n, len, v, a, b, k, [], ts) lv st sh M = some (ps, .inl (pc', lv', st', sh', M'))) (hps : zall ps) (hH : zH G sh M H) (hS : va_S (fun q => G.2.1 ≤ q) s.heap H locs) (hl : lv_has ls (zmx y) (zlm G lv)) (hcap : cells + sh'.length ≤ R.cells + sh.length) (hcap2 : slots + zsl sh' ≤ R.slots + zsl sh) (K : zKk p l e R s m args below meth c cells slots Q G y sh (pc', lv', st', sh', M')) : W p l e R s m args below meth c H locs cells slots Q (F0 m pc ls (st.map (ztr G))) := by
  obtain ⟨hx, hb, hml, hown, hts, hK, hX, hbb, hbs, hini, hfr, hlo⟩ := F
  have hlen : len = 3 := zbeq.mp hlen
  subst hlen
  rcases k with _ | _ | k
  · change (match Nat.ble b st.length with
      | true => zcall a b (st.take b).reverse (st.drop b) (pc + 3) lv sh M
      | false => none) = _ at hs
    exfalso
    split at hs
    · exact zcall_next hs
    · cases hs
  · simp only [zspec, Bool.and_eq_true, zble] at hsp
    obtain ⟨⟨hm, h1⟩, h2⟩ := hsp
    obtain ⟨p1, p2, p3, p4, hm⟩ := zM_of hm
    simp only [zmlb, Bool.and_eq_true] at hm
    change zcpy (st.take 5).reverse (st.drop 5) (pc + 3) lv sh M = _ at hs
    unfold zcpy at hs
    split at hs
    · rename_i r0 sp r1 dp nn has
      split at hs
      · rename_i k0 k1
        split at hs
        · rename_i s0 s1 hs0 hs1
          obtain ⟨kd0, n0, fs0⟩ := s0
          obtain ⟨kd1, n1, fs1⟩ := s1
          split at hs
          · rename_i e0 e1 e8
            dsimp only at e0 e1
            subst e0
            subst e1
            cases hs
            obtain ⟨g1, g2, g3, g4, g5, -⟩ := hps
            have hst : st = .int nn :: .int dp :: .ref (k1 + 1) :: .int sp :: .ref (k0 + 1) :: st.drop 5 := by
              have h3 := congrArg List.reverse has
              rw [List.reverse_reverse] at h3
              conv => lhs; rw [← List.take_append_drop 5 st, h3]
              rfl
            generalize st.drop 5 = rest at hst K e8
            subst hst
            have h8 := zble.mp e8
            have e9 := zcats_map G rest
            refine zr_copy hx hb (by rw [hml]; exact hl.1.symm) hown (hts _ (zg (zat_mem hm.1.1.1) rfl)) (hts _ (zg (zat_mem hm.1.1.2) rfl)) (hts _ (zg (zat_mem hm.1.2) rfl)) (hts _ (zg (zat_mem hm.2) rfl)) hK.1 hH.2 (zws_D G sh M) hS 0 (zws_get hs0) (zws_get hs1) rfl g1 g2 g3 g4 g5 (by omega) (by omega) hd fun H1 locs1 hP1 z1 hS1 => ?_
            refine K H1 locs1 ls cells slots rfl rfl ⟨z1.trans hH.1, ?_⟩ hS1 hl
            rw [← zws_write _ hs1]
            exact hP1
          · cases hs
        · cases hs
      · cases hs
    · cases hs
  · simp only [zspec, Bool.and_eq_true, zble] at hsp
    obtain ⟨⟨hm, h1⟩, h2⟩ := hsp
    obtain ⟨p1, p2, p3, p4, hm⟩ := zM_of hm
    change zmath k st (pc + 3) lv sh M = _ at hs
    unfold zmath at hs
    split at hs
    · cases hs
    · rename_i h8
      have h8 := zble.mp h8
      split at hs
      · cases hs
        rename_i w x rest hold hold2
        simp only [zmlb, Bool.and_eq_true] at hm
        have e9 := zcats_map G rest
        change zcats rest ≤ 8 at h8
        exact va_mmax hx hb (by rw [hml]; exact hl.1.symm) hown (hts _ (zg (zat_mem hm.1.1.1) rfl)) (hts _ (zg (zat_mem hm.1.1.2) rfl)) (hts _ (zg (zat_mem hm.2) rfl)) (hts _ (zg (zat_mem hm.1.2) rfl)) (by omega) (by omega) (by omega) (by omega) hd (K H locs ls cells slots rfl rfl hH hS hl)
      · cases hs
        rename_i w x rest hold hold2
        simp only [zmlb, Bool.and_eq_true] at hm
        have e9 := zcats_map G rest
        change zcats rest ≤ 8 at h8
        exact va_mmax_long hx hb (by rw [hml]; exact hl.1.symm) hown (hts _ (zg (zat_mem hm.1.1.1) rfl)) (hts _ (zg (zat_mem hm.1.1.2) rfl)) (hts _ (zg (zat_mem hm.2) rfl)) (hts _ (zg (zat_mem hm.1.2) rfl)) (by omega) (by omega) (by omega) (by omega) hd (K H locs ls cells slots rfl rfl hH hS hl)
      · cases hs
        rename_i w x rest hold hold2
        simp only [zmlb, Bool.and_eq_true] at hm
        have e9 := zcats_map G rest
        change zcats rest ≤ 8 at h8
        exact va_mmin hx hb (by rw [hml]; exact hl.1.symm) hown (hts _ (zg (zat_mem hm.1.1.1) rfl)) (hts _ (zg (zat_mem hm.1.1.2) rfl)) (hts _ (zg (zat_mem hm.2) rfl)) (hts _ (zg (zat_mem hm.1.2) rfl)) (by omega) (by omega) (by omega) (by omega) hd (K H locs ls cells slots rfl rfl hH hS hl)
      · cases hs
set_option maxHeartbeats 2000000 in
theorem zo_ifCond {cd : ClassFile.Cond} {n : Int} {P : Prop} {t : Nat} (F : zFr p R s m args meth c S G y) (hd : decode (zmb y) pc = .ok (.ifCond cd n, len)) (hlen : zlen (.ifCond cd n) len = true) (hsp : zspec y (pc, .ifCond cd n, len, v, a, b, k, [], ts) = true) (hs : zstep S (pc, .ifCond cd n, len, v, a, b, k, [], ts) lv st sh M = some (ps, .inr (.inl (P, t, (pc', lv', st', sh', M'))))) (hH : zH G sh M H) (hS : va_S (fun q => G.2.1 ≤ q) s.heap H locs) (hl : lv_has ls (zmx y) (zlm G lv)) (K1 : P → zKk p l e R s m args below meth c cells slots Q G y sh (t, lv', st', sh', M')) (K2 : ¬ P → zKk p l e R s m args below meth c cells slots Q G y sh (pc', lv', st', sh', M')) : W p l e R s m args below meth c H locs cells slots Q (F0 m pc ls (st.map (ztr G))) := by
  obtain ⟨hx, hb, hml, hown, hts, hK, hX, hbb, hbs, hini, hfr, hlo⟩ := F
  have hlen : len = 3 := zbeq.mp hlen
  subst hlen
  rcases st with _ | ⟨x | x | x | x | _ | x | x, st⟩
  all_goals first | exact absurd (show (none : zRr) = some _ from hs) nofun | skip
  cases cd

  · change some (([] : List Prop), (Sum.inr (Sum.inl (_, a, (pc + 3, lv, st, sh, M))) : zO)) = _ at hs
    cases hs
    exact lv_if_eq hx hb hd (of_decide_eq_true hsp) (fun h => K1 h H locs ls cells slots rfl rfl hH hS hl) (fun h => K2 h H locs ls cells slots rfl rfl hH hS hl)
  · change some (([] : List Prop), (Sum.inr (Sum.inl (_, a, (pc + 3, lv, st, sh, M))) : zO)) = _ at hs
    cases hs
    exact lv_if_ne hx hb hd (of_decide_eq_true hsp) (fun h => K1 h H locs ls cells slots rfl rfl hH hS hl) (fun h => K2 (not_not_intro h) H locs ls cells slots rfl rfl hH hS hl)
  · change some (([] : List Prop), (Sum.inr (Sum.inl (_, a, (pc + 3, lv, st, sh, M))) : zO)) = _ at hs
    cases hs
    exact lv_if_lt hx hb hd (of_decide_eq_true hsp) (fun h => K1 h H locs ls cells slots rfl rfl hH hS hl) (fun h => K2 h H locs ls cells slots rfl rfl hH hS hl)
  · change some (([] : List Prop), (Sum.inr (Sum.inl (_, a, (pc + 3, lv, st, sh, M))) : zO)) = _ at hs
    cases hs
    exact lv_if_ge hx hb hd (of_decide_eq_true hsp) (fun h => K1 h H locs ls cells slots rfl rfl hH hS hl) (fun h => K2 h H locs ls cells slots rfl rfl hH hS hl)
  · change some (([] : List Prop), (Sum.inr (Sum.inl (_, a, (pc + 3, lv, st, sh, M))) : zO)) = _ at hs
    cases hs
    exact lv_if_gt hx hb hd (of_decide_eq_true hsp) (fun h => K1 h H locs ls cells slots rfl rfl hH hS hl) (fun h => K2 h H locs ls cells slots rfl rfl hH hS hl)
  · change some (([] : List Prop), (Sum.inr (Sum.inl (_, a, (pc + 3, lv, st, sh, M))) : zO)) = _ at hs
    cases hs
    exact lv_if_le hx hb hd (of_decide_eq_true hsp) (fun h => K1 h H locs ls cells slots rfl rfl hH hS hl) (fun h => K2 h H locs ls cells slots rfl rfl hH hS hl)
set_option maxHeartbeats 2000000 in
theorem zo_if_icmp {cd : ClassFile.Cond} {n : Int} {P : Prop} {t : Nat} (F : zFr p R s m args meth c S G y) (hd : decode (zmb y) pc = .ok (.if_icmp cd n, len)) (hlen : zlen (.if_icmp cd n) len = true) (hsp : zspec y (pc, .if_icmp cd n, len, v, a, b, k, [], ts) = true) (hs : zstep S (pc, .if_icmp cd n, len, v, a, b, k, [], ts) lv st sh M = some (ps, .inr (.inl (P, t, (pc', lv', st', sh', M'))))) (hH : zH G sh M H) (hS : va_S (fun q => G.2.1 ≤ q) s.heap H locs) (hl : lv_has ls (zmx y) (zlm G lv)) (K1 : P → zKk p l e R s m args below meth c cells slots Q G y sh (t, lv', st', sh', M')) (K2 : ¬ P → zKk p l e R s m args below meth c cells slots Q G y sh (pc', lv', st', sh', M')) : W p l e R s m args below meth c H locs cells slots Q (F0 m pc ls (st.map (ztr G))) := by
  obtain ⟨hx, hb, hml, hown, hts, hK, hX, hbb, hbs, hini, hfr, hlo⟩ := F
  have hlen : len = 3 := zbeq.mp hlen
  subst hlen
  rcases st with _ | ⟨w | w | w | w | _ | w | w, _ | ⟨x | x | x | x | _ | x | x, st⟩⟩
  all_goals first | exact absurd (show (none : zRr) = some _ from hs) nofun | skip
  cases cd

  · change some (([] : List Prop), (Sum.inr (Sum.inl (_, a, (pc + 3, lv, st, sh, M))) : zO)) = _ at hs
    cases hs
    exact lv_icmp_eq hx hb hd (of_decide_eq_true hsp) (fun h => K1 h H locs ls cells slots rfl rfl hH hS hl) (fun h => K2 h H locs ls cells slots rfl rfl hH hS hl)
  · change some (([] : List Prop), (Sum.inr (Sum.inl (_, a, (pc + 3, lv, st, sh, M))) : zO)) = _ at hs
    cases hs
    exact lv_icmp_ne hx hb hd (of_decide_eq_true hsp) (fun h => K1 h H locs ls cells slots rfl rfl hH hS hl) (fun h => K2 (not_not_intro h) H locs ls cells slots rfl rfl hH hS hl)
  · change some (([] : List Prop), (Sum.inr (Sum.inl (_, a, (pc + 3, lv, st, sh, M))) : zO)) = _ at hs
    cases hs
    exact lv_icmp_lt hx hb hd (of_decide_eq_true hsp) (fun h => K1 h H locs ls cells slots rfl rfl hH hS hl) (fun h => K2 h H locs ls cells slots rfl rfl hH hS hl)
  · change some (([] : List Prop), (Sum.inr (Sum.inl (_, a, (pc + 3, lv, st, sh, M))) : zO)) = _ at hs
    cases hs
    exact lv_icmp_ge hx hb hd (of_decide_eq_true hsp) (fun h => K1 h H locs ls cells slots rfl rfl hH hS hl) (fun h => K2 h H locs ls cells slots rfl rfl hH hS hl)
  · change some (([] : List Prop), (Sum.inr (Sum.inl (_, a, (pc + 3, lv, st, sh, M))) : zO)) = _ at hs
    cases hs
    exact lv_icmp_gt hx hb hd (of_decide_eq_true hsp) (fun h => K1 h H locs ls cells slots rfl rfl hH hS hl) (fun h => K2 h H locs ls cells slots rfl rfl hH hS hl)
  · change some (([] : List Prop), (Sum.inr (Sum.inl (_, a, (pc + 3, lv, st, sh, M))) : zO)) = _ at hs
    cases hs
    exact lv_icmp_le hx hb hd (of_decide_eq_true hsp) (fun h => K1 h H locs ls cells slots rfl rfl hH hS hl) (fun h => K2 h H locs ls cells slots rfl rfl hH hS hl)
end ZThree
end
section
section ZSound
variable {p : Program} {l : Launch} {e : Env} {R : Room} {s : State} {m : MethodId} {args : Array Value} {below : List Frame} {meth : Method} {c : Code} {H : Heap} {locs : List Loc} {cells slots : Nat} {Q : State → Prop}
variable {S : zSc} {G : zG} {y : Nat} {ls : Array Slot} {pc pc' len a b k : Nat} {v : Value} {ts : List Nat} {lv lv' : zL} {st st' : List Value} {sh sh' : List zS} {M M' : zM} {ps : List Prop}

set_option maxHeartbeats 4000000 in
theorem zone {ins : Instr} (F : zFr p R s m args meth c S G y) (hd : decode (zmb y) pc = .ok (ins, len)) (hlen : zlen ins len = true) (hsp : zspec y (pc, ins, len, v, a, b, k, [], ts) = true) (hs : zstep S (pc, ins, len, v, a, b, k, [], ts) lv st sh M = some (ps, .inl (pc', lv', st', sh', M'))) (hps : zall ps) (hH : zH G sh M H) (hS : va_S (fun q => G.2.1 ≤ q) s.heap H locs) (hl : lv_has ls (zmx y) (zlm G lv)) (hcap : cells + sh'.length ≤ R.cells + sh.length) (hcap2 : slots + zsl sh' ≤ R.slots + zsl sh) (K : zKk p l e R s m args below meth c cells slots Q G y sh (pc', lv', st', sh', M')) : W p l e R s m args below meth c H locs cells slots Q (F0 m pc ls (st.map (ztr G))) := by
  cases ins with
  | iconst n => exact zo_iconst F hd hlen hsp hs hps hH hS hl hcap hcap2 K
  | bipush n => exact zo_bipush F hd hlen hsp hs hps hH hS hl hcap hcap2 K
  | sipush n => exact zo_sipush F hd hlen hsp hs hps hH hS hl hcap hcap2 K
  | lconst n => exact zo_lconst F hd hlen hsp hs hps hH hS hl hcap hcap2 K
  | ldc_w n => exact zo_ldc_w F hd hlen hsp hs hps hH hS hl hcap hcap2 K
  | ldc2_w n => exact zo_ldc2_w F hd hlen hsp hs hps hH hS hl hcap hcap2 K
  | iload_n n => exact zo_iload_n F hd hlen hsp hs hps hH hS hl hcap hcap2 K
  | iload n => exact zo_iload F hd hlen hsp hs hps hH hS hl hcap hcap2 K
  | lload_n n => exact zo_lload_n F hd hlen hsp hs hps hH hS hl hcap hcap2 K
  | lload n => exact zo_lload F hd hlen hsp hs hps hH hS hl hcap hcap2 K
  | aload_n n => exact zo_aload_n F hd hlen hsp hs hps hH hS hl hcap hcap2 K
  | istore_n n => exact zo_istore_n F hd hlen hsp hs hps hH hS hl hcap hcap2 K
  | istore n => exact zo_istore F hd hlen hsp hs hps hH hS hl hcap hcap2 K
  | lstore_n n => exact zo_lstore_n F hd hlen hsp hs hps hH hS hl hcap hcap2 K
  | lstore n => exact zo_lstore F hd hlen hsp hs hps hH hS hl hcap hcap2 K
  | astore_n n => exact zo_astore_n F hd hlen hsp hs hps hH hS hl hcap hcap2 K
  | iinc i n => exact zo_iinc F hd hlen hsp hs hps hH hS hl hcap hcap2 K
  | iadd => exact zo_iadd F hd hlen hsp hs hps hH hS hl hcap hcap2 K
  | isub => exact zo_isub F hd hlen hsp hs hps hH hS hl hcap hcap2 K
  | imul => exact zo_imul F hd hlen hsp hs hps hH hS hl hcap hcap2 K
  | iand => exact zo_iand F hd hlen hsp hs hps hH hS hl hcap hcap2 K
  | ior => exact zo_ior F hd hlen hsp hs hps hH hS hl hcap hcap2 K
  | ishl => exact zo_ishl F hd hlen hsp hs hps hH hS hl hcap hcap2 K
  | ishr => exact zo_ishr F hd hlen hsp hs hps hH hS hl hcap hcap2 K
  | iushr => exact zo_iushr F hd hlen hsp hs hps hH hS hl hcap hcap2 K
  | idiv => exact zo_idiv F hd hlen hsp hs hps hH hS hl hcap hcap2 K
  | irem => exact zo_irem F hd hlen hsp hs hps hH hS hl hcap hcap2 K
  | ineg => exact zo_ineg F hd hlen hsp hs hps hH hS hl hcap hcap2 K
  | ladd => exact zo_ladd F hd hlen hsp hs hps hH hS hl hcap hcap2 K
  | lsub => exact zo_lsub F hd hlen hsp hs hps hH hS hl hcap hcap2 K
  | lmul => exact zo_lmul F hd hlen hsp hs hps hH hS hl hcap hcap2 K
  | ldiv => exact zo_ldiv F hd hlen hsp hs hps hH hS hl hcap hcap2 K
  | lrem => exact zo_lrem F hd hlen hsp hs hps hH hS hl hcap hcap2 K
  | lcmp => exact zo_lcmp F hd hlen hsp hs hps hH hS hl hcap hcap2 K
  | i2l => exact zo_i2l F hd hlen hsp hs hps hH hS hl hcap hcap2 K
  | dup => exact zo_dup F hd hlen hsp hs hps hH hS hl hcap hcap2 K
  | dup2 => exact zo_dup2 F hd hlen hsp hs hps hH hS hl hcap hcap2 K
  | pop => exact zo_pop F hd hlen hsp hs hps hH hS hl hcap hcap2 K
  | goto n => exact zo_goto F hd hlen hsp hs hps hH hS hl hcap hcap2 K
  | tableswitch a1 a2 a3 a4 => exact zo_tableswitch F hd hlen hsp hs hps hH hS hl hcap hcap2 K
  | lookupswitch a1 a2 => exact zo_lookupswitch F hd hlen hsp hs hps hH hS hl hcap hcap2 K
  | iaload => exact zo_iaload F hd hlen hsp hs hps hH hS hl hcap hcap2 K
  | baload => exact zo_baload F hd hlen hsp hs hps hH hS hl hcap hcap2 K
  | iastore => exact zo_iastore F hd hlen hsp hs hps hH hS hl hcap hcap2 K
  | bastore => exact zo_bastore F hd hlen hsp hs hps hH hS hl hcap hcap2 K
  | arraylength => exact zo_arraylength F hd hlen hsp hs hps hH hS hl hcap hcap2 K
  | aaload => exact zo_aaload F hd hlen hsp hs hps hH hS hl hcap hcap2 K
  | aastore => exact zo_aastore F hd hlen hsp hs hps hH hS hl hcap hcap2 K
  | getfield n => exact zo_getfield F hd hlen hsp hs hps hH hS hl hcap hcap2 K
  | putfield n => exact zo_putfield F hd hlen hsp hs hps hH hS hl hcap hcap2 K
  | new n => exact zo_new F hd hlen hsp hs hps hH hS hl hcap hcap2 K
  | newarray n => exact zo_newarray F hd hlen hsp hs hps hH hS hl hcap hcap2 K
  | anewarray n => exact zo_anewarray F hd hlen hsp hs hps hH hS hl hcap hcap2 K
  | invokevirtual n => exact zo_invokevirtual F hd hlen hsp hs hps hH hS hl hcap hcap2 K
  | invokestatic n => exact zo_invokestatic F hd hlen hsp hs hps hH hS hl hcap hcap2 K
  | invokespecial n => exact zo_invokespecial F hd hlen hsp hs hps hH hS hl hcap hcap2 K
  | ireturn =>
    exfalso
    rcases st with _ | ⟨x | x | x | x | _ | x | x, _ | ⟨x2, st⟩⟩
    all_goals first | exact absurd (show (none : zRr) = some _ from hs) nofun | skip
    rcases k with _ | k <;> exact absurd (show some (_, (Sum.inr (Sum.inr (Sum.inr _)) : zO)) = some _ from hs) nofun
  | lreturn =>
    exfalso
    rcases st with _ | ⟨x | x | x | x | _ | x | x, _ | ⟨x2, st⟩⟩
    all_goals first | exact absurd (show (none : zRr) = some _ from hs) nofun | skip
    exact absurd (show some (_, (Sum.inr (Sum.inr (Sum.inr _)) : zO)) = some _ from hs) nofun
  | return_ =>
    exfalso
    rcases st with _ | ⟨x, st⟩
    · exact absurd (show some (_, (Sum.inr (Sum.inr (Sum.inr _)) : zO)) = some _ from hs) nofun
    · exact absurd (show (none : zRr) = some _ from hs) nofun
  | ifCond cd n =>
    exfalso
    rcases st with _ | ⟨x | x | x | x | _ | x | x, st⟩
    all_goals first | exact absurd (show (none : zRr) = some _ from hs) nofun | skip
    exact absurd (show some (_, (Sum.inr (Sum.inl _) : zO)) = some _ from hs) nofun
  | if_icmp cd n =>
    exfalso
    rcases st with _ | ⟨w | w | w | w | _ | w | w, _ | ⟨x | x | x | x | _ | x | x, st⟩⟩
    all_goals first | exact absurd (show (none : zRr) = some _ from hs) nofun | skip
    exact absurd (show some (_, (Sum.inr (Sum.inl _) : zO)) = some _ from hs) nofun
  | _ => exact absurd (show (none : zRr) = some _ from hs) nofun
theorem zlk1_mem {pc : Nat} {e : zN} : ∀ {l : List zN}, zlk1 pc l = some e → e ∈ l ∧ e.1 = pc
  | [], h => by cases h
  | q :: l, h => by
    unfold zlk1 at h
    cases hb : Nat.beq q.1 pc with
    | true =>
      rw [hb] at h
      cases h
      exact ⟨List.mem_cons_self, zbeq.mp hb⟩
    | false =>
      rw [hb] at h
      exact ⟨List.mem_cons_of_mem _ (zlk1_mem h).1, (zlk1_mem h).2⟩
theorem zlk_mem {pc : Nat} {e : zN} : ∀ {l : List (Nat × List zN)}, zlk pc l = some e → (∃ q ∈ l, e ∈ q.2) ∧ e.1 = pc
  | [], h => by cases h
  | q :: l, h => by
    unfold zlk at h
    cases hb : Nat.ble pc q.1 with
    | true =>
      rw [hb] at h
      exact ⟨⟨q, List.mem_cons_self, (zlk1_mem h).1⟩, (zlk1_mem h).2⟩
    | false =>
      rw [hb] at h
      obtain ⟨⟨q', h1, h2⟩, h3⟩ := zlk_mem h
      exact ⟨⟨q', List.mem_cons_of_mem _ h1, h2⟩, h3⟩
def zle (sh sh' : List zS) : Prop := sh.length ≤ sh'.length ∧ zsl sh ≤ zsl sh'
theorem zle.rf (sh : List zS) : zle sh sh := ⟨Nat.le_refl _, Nat.le_refl _⟩
theorem zle.tr {a b c : List zS} (h : zle a b) (h2 : zle b c) : zle a c := ⟨Nat.le_trans h.1 h2.1, Nat.le_trans h.2 h2.2⟩
theorem zle.push (sh : List zS) (x : zS) : zle sh (sh ++ [x]) := ⟨by simp, by simp [zsl]⟩
theorem zle.set {sh : List zS} {r a a' n : Nat} {fs fs' : List Value} (hz : sh[r]? = some (a, n, fs)) : zle sh (sh.set r (a', n, fs')) := ⟨by simp, by rw [zsl_set hz]; exact Nat.le_refl _⟩
def zosh (o : zO) : List zS := match o with
  | .inl t => t.2.2.2.1
  | .inr (.inl (_, _, t)) => t.2.2.2.1
  | .inr (.inr (.inl (_, _, t))) => t.2.2.2.1
  | .inr (.inr (.inr (_, sh, _))) => sh
theorem zld_le {i pc k : Nat} {lv : zL} {st : List Value} {sh : List zS} {M : zM} {ps : List Prop} {o : zO} (h : zld i pc lv st sh M k = some (ps, o)) : zle sh (zosh o) := by
  unfold zld at h
  repeat' (split at h)
  all_goals first | (cases h; exact zle.rf _) | cases h
theorem zgf_le {ci k r pc : Nat} {lv : zL} {st : List Value} {sh : List zS} {M : zM} {ps : List Prop} {o : zO} (h : zgf ci k r pc lv st sh M = some (ps, o)) : zle sh (zosh o) := by
  unfold zgf at h
  repeat' (split at h)
  all_goals first | (cases h; exact zle.rf _) | cases h
theorem zpf_le {ci k c r pc : Nat} {v : Value} {lv : zL} {st : List Value} {sh : List zS} {M : zM} {ps : List Prop} {o : zO} (h : zpf ci k c v r pc lv st sh M = some (ps, o)) : zle sh (zosh o) := by
  unfold zpf at h
  rcases r with _ | q
  · cases h
  · dsimp only at h
    rcases hz : sh[q]? with _ | ⟨kd, n, fs⟩
    · simp [hz] at h
    · simp only [hz] at h
      repeat' (split at h)
      all_goals first | (cases h; exact zle.rf _) | (cases h; exact zle.set hz) | cases h
theorem zcall_le {y n pc : Nat} {as rest : List Value} {lv : zL} {sh : List zS} {M : zM} {ps : List Prop} {o : zO} (h : zcall y n as rest pc lv sh M = some (ps, o)) : zle sh (zosh o) := by
  unfold zcall at h
  repeat' (split at h)
  all_goals first | (cases h; exact zle.rf _) | cases h
theorem zcpy_le {pc : Nat} {as rest : List Value} {lv : zL} {sh : List zS} {M : zM} {ps : List Prop} {o : zO} (h : zcpy as rest pc lv sh M = some (ps, o)) : zle sh (zosh o) := by
  unfold zcpy at h
  repeat' (split at h)
  all_goals first | (cases h; exact zle.rf _) | cases h
theorem zmath_le {k pc : Nat} {st : List Value} {lv : zL} {sh : List zS} {M : zM} {ps : List Prop} {o : zO} (h : zmath k st pc lv sh M = some (ps, o)) : zle sh (zosh o) := by
  unfold zmath at h
  repeat' (split at h)
  all_goals first | (cases h; exact zle.rf _) | cases h
set_option maxHeartbeats 8000000 in
theorem zstep_le {e : zN} {lv : zL} {st : List Value} {sh : List zS} {M : zM} {ps : List Prop} {o : zO} (h : zstep S e lv st sh M = some (ps, o)) : zle sh (zosh o) := by
  unfold zstep at h
  split at h
  split at h
  all_goals first
    | exact zld_le h
    | exact zgf_le h
    | exact zpf_le h
    | (cases h; exact zle.rf _)
    | (cases h; exact zle.push _ _)
    | cases h
    | skip
  all_goals (repeat' (split at h))
  all_goals first
    | exact zcall_le h
    | exact zcpy_le h
    | exact zmath_le h
    | (cases h; exact zle.rf _)
    | (cases h; exact zle.push _ _)
    | (cases h; exact zle.set (by assumption))
    | cases h
/-- what is left with Q is somewhere, and no less is made -/
theorem zX_ex : ∀ (f y : Nat) (t : zC) (Qa : Option Value → List zS → zM → Prop), zX S f y t Qa → ∃ (r : Option Value) (sh' : List zS) (M' : zM), Qa r sh' M' ∧ zle t.2.2.2.1 sh' := by
  intro f
  induction f with
  | zero => intro y t Qa h; exact absurd h (by simp [zX])
  | succ f ih =>
    intro y t Qa h
    rw [zX] at h
    obtain ⟨pc, lv, st, sh, M⟩ := t
    cases hg : zgo1 S y (pc, lv, st, sh, M) with
    | none => rw [hg] at h; exact h.elim
    | some x =>
      rw [hg] at h
      have hle : zle sh (zosh x.2) := by
        have hg2 := hg
        unfold zgo1 at hg2
        dsimp only at hg2
        split at hg2
        · cases hg2
        · exact zstep_le hg2
      obtain ⟨ps, t' | ⟨P, tg, pc', lv', st', sh', M'⟩ | ⟨y', as, pc', lv', st', sh', M'⟩ | ⟨r, sh', M'⟩⟩ := x
      · obtain ⟨r, sh', M', h1, h2⟩ := ih y t' Qa h.2
        exact ⟨r, sh', M', h1, hle.tr h2⟩
      · by_cases hP : P
        · obtain ⟨r, sh2, M2, h1, h2⟩ := ih y _ Qa (h.2.1 hP)
          exact ⟨r, sh2, M2, h1, hle.tr h2⟩
        · obtain ⟨r, sh2, M2, h1, h2⟩ := ih y _ Qa (h.2.2 hP)
          exact ⟨r, sh2, M2, h1, hle.tr h2⟩
      · obtain ⟨r, sh2, M2, h1, h2⟩ := ih y' _ _ h.2
        obtain ⟨r3, sh3, M3, h3, h4⟩ := ih y _ Qa h1.2
        exact ⟨r3, sh3, M3, h3, hle.tr (h2.tr h4)⟩
      · exact ⟨r, sh', M', h.2, hle⟩
/-- a return instruction of y with the answer r -/
def zRet (y pc : Nat) (r : Option Value) : Prop := match r with
  | some (.int x) => decode (zmb y) pc = .ok (.ireturn, 1) ∧ (zmr y = some .int ∨ (zmr y = some .boolean ∧ (x = 0 ∨ x = 1)))
  | some (.long _) => decode (zmb y) pc = .ok (.lreturn, 1) ∧ zmr y = some .long
  | none => decode (zmb y) pc = .ok (.return_, 1) ∧ zmr y = none
  | _ => False
set_option maxHeartbeats 4000000 in
theorem zret {ins : Instr} {r : Option Value} (hd : decode (zmb y) pc = .ok (ins, len)) (hlen : zlen ins len = true) (hsp : zspec y (pc, ins, len, v, a, b, k, [], ts) = true) (hs : zstep S (pc, ins, len, v, a, b, k, [], ts) lv st sh M = some (ps, .inr (.inr (.inr (r, sh', M'))))) (hps : zall ps) : sh' = sh ∧ M' = M ∧ st = r.toList ∧ zRet y pc r := by
  unfold zstep at hs
  dsimp only at hs
  split at hs
  all_goals first
    | (cases hs; done)
    | skip
  all_goals (try (exfalso; first | (unfold zld at hs; (repeat' split at hs) <;> (cases hs; done)) | (unfold zgf at hs; (repeat' split at hs) <;> (cases hs; done)) | (unfold zpf at hs; (repeat' split at hs) <;> (cases hs; done))))
  all_goals (try (exfalso; (repeat' split at hs) <;> first | (cases hs; done) | (unfold zcall at hs; (repeat' split at hs) <;> (cases hs; done)) | (unfold zcpy at hs; (repeat' split at hs) <;> (cases hs; done)) | (unfold zmath at hs; (repeat' split at hs) <;> (cases hs; done))))
  · have hl1 : len = 1 := zbeq.mp hlen
    subst hl1
    split at hs
    · cases hs
      exact ⟨rfl, rfl, rfl, hd, Or.inl (of_decide_eq_true hsp)⟩
    · cases hs
      rename_i hk
      refine ⟨rfl, rfl, rfl, hd, Or.inr ⟨?_, hps.1⟩⟩
      rcases k with _ | k
      · exact absurd rfl hk
      · exact of_decide_eq_true hsp
  · have hl1 : len = 1 := zbeq.mp hlen
    subst hl1
    cases hs
    exact ⟨rfl, rfl, rfl, hd, of_decide_eq_true hsp⟩
  · have hl1 : len = 1 := zbeq.mp hlen
    subst hl1
    cases hs
    exact ⟨rfl, rfl, rfl, hd, of_decide_eq_true hsp⟩
end ZSound
end
section
section ZWhole
/-- a method's contract, out of a run of the plain machine -/
def zMt (l : Launch) (S : zSc) (G : zG) (y : Nat) (as : List Value) (sh : List zS) (M : zM) (Qa : Option Value → List zS → zM → Prop) : Prop :=
  Met l (zmn y) (Cond.code (zmn y) (zmb y) (zmx y) (zmr y) :: lw_g) { frames := zfr y, cells := zmc y, slots := zms y, locals := zlo y } (va_Pc (as.map (ztr G)) (fun U => zH G sh M U.heap ∧ zK G U ∧ va_X G.1 S.1 S.2 U U.heap ∧ G.1 < G.2.1))
    (fun _ st oc t => (∃ (r : Option Value) (sh' : List zS) (M' : zM), oc = .returned (r.map (ztr G)) ∧ Qa r sh' M' ∧ zH G sh' M' t.heap) ∧ va_F (fun q => G.2.1 ≤ q) st t) (zmc y) (zms y) (fun q => G.2.1 ≤ q)
def zFin (p : Program) (l : Launch) (e : Env) (R : Room) (s : State) (m : MethodId) (args : Array Value) (below : List Frame) (meth : Method) (c : Code) (Q : State → Prop) (G : zG) (y n0 s0 : Nat) (Qa : Option Value → List zS → zM → Prop) : Prop :=
  ∀ (r : Option Value) (sh' : List zS) (M' : zM) (H' : Heap) (locs' : List Loc) (cells' slots' : Nat) (ls' : Array Slot) (pc' : Nat), Qa r sh' M' → zH G sh' M' H' → va_S (fun q => G.2.1 ≤ q) s.heap H' locs' → cells' + n0 = sh'.length → slots' + s0 = zsl sh' → zRet y pc' r → W p l e R s m args below meth c H' locs' cells' slots' Q (F0 m pc' ls' (r.map (ztr G)).toList)
def zSnd (l : Launch) (f : Nat) : Prop := ∀ (p : Program) (e : Env) (R : Room) (s : State) (m : MethodId) (args : Array Value) (below : List Frame) (meth : Method) (c : Code) (Q : State → Prop) (S : zSc) (G : zG) (y : Nat) (n0 s0 : Nat) (Qa : Option Value → List zS → zM → Prop), y < 213 → zFr p R s m args meth c S G y → (∀ r sh' M', Qa r sh' M' → sh'.length ≤ n0 + R.cells ∧ zsl sh' ≤ s0 + R.slots) → zFin p l e R s m args below meth c Q G y n0 s0 Qa →
  ∀ (H : Heap) (locs : List Loc) (cells slots : Nat) (ls : Array Slot) (pc : Nat) (lv : zL) (st : List Value) (sh : List zS) (M : zM), zX S f y (pc, lv, st, sh, M) Qa → zH G sh M H → va_S (fun q => G.2.1 ≤ q) s.heap H locs → lv_has ls (zmx y) (zlm G lv) → cells + n0 = sh.length → slots + s0 = zsl sh → W p l e R s m args below meth c H locs cells slots Q (F0 m pc ls (st.map (ztr G)))
theorem zwords (y : Nat) (hy : y < 212) : Cond.code (zmn y) (zmb y) (zmx y) (zmr y) ∈ lw_g ∧ plainName (zmn y).cls = true := by
  have h := zmcode_ok y hy
  unfold zmcode at h
  rw [Bool.and_eq_true] at h
  exact ⟨zg (zat_mem h.1) rfl, h.2⟩
theorem zGood (y : Nat) (hy : y < 212) : GoodIn lw_g (Cond.code (zmn y) (zmb y) (zmx y) (zmr y) :: lw_g) := by
  intro w hw
  rcases List.mem_cons.mp hw with rfl | hw
  · exact zgG _ (zwords y hy).1
  · exact zgG _ hw
theorem zcls_own (y : Nat) (hy : y < 213) : (zmn y).cls = zown (zmo y) := by
  have h := zmchk_ok y hy
  unfold zmchk at h
  rw [Bool.and_eq_true] at h
  exact of_decide_eq_true h.2
set_option maxHeartbeats 4000000 in
/-- the contract of a method, if the frames of f steps are sound -/
theorem zmet {l : Launch} {f : Nat} (ih : zSnd l f) {S : zSc} {G : zG} {y : Nat} (hy : y < 212) {as : List Value} {sh : List zS} {M : zM} {Qa : Option Value → List zS → zM → Prop} (hX : zX S f y (0, lv_args 0 as, [], sh, M) Qa) (hc : zcats as ≤ zmx y) (hQ : ∀ r sh' M', Qa r sh' M' → sh'.length = sh.length + zmc y ∧ zsl sh' = zsl sh + zms y) : zMt l S G y as sh M Qa := by
  have hw := zwords y hy
  refine Met.ofW (cc := zmb y) (maxL := zmx y) (ret := zmr y) hw.2 rfl ?_
  intro p e s m args below meth c s₁ B hml hv
  obtain ⟨rfl, hH, hK, hXx, hbb⟩ := hv
  have hx := B.exec
  have hb := B.bytes
  have hr := B.returns
  have hts := atoms_spec (ws := Cond.code (zmn y) (zmb y) (zmx y) (zmr y) :: lw_g) B.pre
  have hown : s.vm.findClass (zmn y).cls = some m.cls := findClass_of_methodNamed B.named
  have hlocks := B.notSynchronized
  have hin : meth.name = (zmn y).name := (name_of_methodNamed B.named B.method).1
  have hl := lv_entry (as.map (ztr G)) (n := zmx y) (by rw [zlg_sl]; exact hc)
  rw [lg_entry_eq]
  generalize (lg_sl (as.map (ztr G)) ++ List.replicate (zmx y - (lg_sl (as.map (ztr G))).length) Slot.unset).toArray = ls at hl ⊢
  rw [zlv_args] at hl
  have hbs : G.2.1 ≤ s.heap.size := by rw [hH.1]; omega
  refine ih p e _ s m _ below meth c _ S G y sh.length (zsl sh) Qa (by omega) ⟨hx, hb, hml, by rw [← zcls_own y (by omega)]; exact hown, fun w h => hts w (List.mem_cons_of_mem _ h), hK, hXx, hbb, hbs, fun h => by rw [hin]; exact beq_iff_eq.mp h, Nat.le_refl _, Nat.le_refl _⟩ (fun r sh' M' h => ?_) ?_ s.heap [] 0 0 ls 0 _ [] sh M hX hH va_S.rf hl (by omega) (by omega)
  · have := hQ r sh' M' h
    exact ⟨Nat.le_of_eq this.1, Nat.le_of_eq this.2⟩
  · intro r sh' M' H' locs' cells' slots' ls' pc' hq hH' hS' hc' hs' hret
    have hg := hQ r sh' M' hq
    have e1 : cells' = zmc y := by omega
    have e2 : slots' = zms y := by omega
    subst e1
    subst e2
    have post : ∀ t : State, t.heap = H' → s.WarmedH t.vm → (∃ (r' : Option Value) (sh' : List zS) (M' : zM), Outcome.returned (r.map (ztr G)) = .returned (r'.map (ztr G)) ∧ Qa r' sh' M' ∧ zH G sh' M' t.heap) ∧ va_F (fun q => G.2.1 ≤ q) s t := fun t ht _ => ⟨⟨r, sh', M', rfl, hq, by rw [ht]; exact hH'⟩, hS'.F ht⟩
    rcases r with _ | (x | x | x | x | _ | x | x)
    · exact W.vret hx hb (hr.trans hret.2) post hS'.2.2 hret.1
    · rcases hret.2 with h | ⟨h, hb01⟩
      · exact W.iret hx hb (hr.trans h) post hS'.2.2 hret.1
      · exact W.zret hx hb (hr.trans h) (by rcases hb01 with rfl | rfl <;> decide) post hS'.2.2 hret.1
    · exact W.lret hx hb (hr.trans hret.2) post hS'.2.2 hret.1
    · exact hret.elim
    · exact hret.elim
    · exact hret.elim
    · exact hret.elim
    · exact hret.elim
theorem zMt_blind {S : zSc} {G : zG} {as : List Value} {sh : List zS} {M : zM} : FrameBlind (va_Pc (as.map (ztr G)) (fun U => zH G sh M U.heap ∧ zK G U ∧ va_X G.1 S.1 S.2 U U.heap ∧ G.1 < G.2.1)) := by
  intro a U g mk h
  obtain ⟨h1, h2, h3, h4, h5⟩ := h
  exact ⟨h1, h2, h3.call, va_X.moved (u := U) (U := U.calling g mk a) (Vm.Alike.refl U.vm) h4, h5⟩
set_option maxHeartbeats 4000000 in
theorem zcall_go {p : Program} {l : Launch} {e : Env} {R : Room} {s : State} {m : MethodId} {args : Array Value} {below : List Frame} {meth : Method} {c : Code} {H : Heap} {locs : List Loc} {cells slots : Nat} {Q : State → Prop} {G : zG} {mc ms pc : Nat} {ls : Array Slot} {st0 : List Value} {rest : List Value} {Qa : Option Value → List zS → zM → Prop}
    (hr : va_Run p l e R s m args below meth c H locs cells slots mc ms (F0 m pc ls st0) (rest.map (ztr G)) (fun st oc t => (∃ (r : Option Value) (sh' : List zS) (M' : zM), oc = .returned (r.map (ztr G)) ∧ Qa r sh' M' ∧ zH G sh' M' t.heap) ∧ va_F (fun q => G.2.1 ≤ q) st t) (fun q => G.2.1 ≤ q)) (hS : va_S (fun q => G.2.1 ≤ q) s.heap H locs)
    (kk : ∀ (r : Option Value) (sh' : List zS) (M' : zM) (H1 : Heap) (locs1 : List Loc), Qa r sh' M' → zH G sh' M' H1 → va_S (fun q => G.2.1 ≤ q) s.heap H1 locs1 → W p l e R s m args below meth c H1 locs1 (cells + mc) (slots + ms) Q (F0 m (pc + 3) ls ((r.toList ++ rest).map (ztr G)))) : W p l e R s m args below meth c H locs cells slots Q (F0 m pc ls st0) := by
  intro T hT X
  obtain ⟨v, st₀, t, T', L, h0, X', hL, e1, e2, ⟨⟨r, sh', M', hv, hq, hH'⟩, hz, hk⟩, st⟩ := hr T hT X
  have hv : v = r.map (ztr G) := Outcome.returned.inj hv
  subst hv
  rw [h0] at hz hk
  rw [← e1] at hz hk hH'
  have e3 : (r.toList ++ rest).map (ztr G) = (r.map (ztr G)).toList ++ rest.map (ztr G) := by cases r <;> rfl
  have hk2 := kk r sh' M' T'.heap (locs ++ L) hq hH' ⟨Nat.le_trans hS.1 hz, fun q h1 h2 => by rw [hk q (Nat.lt_of_lt_of_le h1 hS.1) h2]; exact hS.2.1 q h1 h2, fun q hq => by
      rcases List.mem_append.mp hq with h | h
      · exact hS.2.2 q h
      · exact hL q h⟩
  rw [e3] at hk2
  obtain ⟨t2, a1, b1⟩ := hk2 T' rfl X'
  exact ⟨t2, st t2 a1, b1⟩
end ZWhole
end
section
section ZCalls
variable {p : Program} {l : Launch} {e : Env} {R : Room} {s : State} {m : MethodId} {args : Array Value} {below : List Frame} {meth : Method} {c : Code} {H : Heap} {locs : List Loc} {cells slots : Nat} {Q : State → Prop}
variable {S : zSc} {G : zG} {y : Nat} {ls : Array Slot} {pc pc' len a b k : Nat} {v : Value} {ts : List Nat} {lv lv' : zL} {st st' : List Value} {sh sh' : List zS} {M M' : zM} {ps : List Prop} {ins : Instr}
set_option maxHeartbeats 4000000 in
theorem zbr_ins {P : Prop} {tg : Nat} {t : zC} (hs : zstep S (pc, ins, len, v, a, b, k, [], ts) lv st sh M = some (ps, .inr (.inl (P, tg, t)))) : (∃ cd n, ins = .ifCond cd n) ∨ (∃ cd n, ins = .if_icmp cd n) := by
  unfold zstep at hs
  dsimp only at hs
  split at hs
  all_goals first
    | exact Or.inl ⟨_, _, rfl⟩
    | exact Or.inr ⟨_, _, rfl⟩
    | (cases hs; done)
    | (exfalso; unfold zld at hs; (repeat' split at hs) <;> (cases hs; done))
    | (exfalso; unfold zgf at hs; (repeat' split at hs) <;> (cases hs; done))
    | (exfalso; unfold zpf at hs; (repeat' split at hs) <;> (cases hs; done))
    | (exfalso; (repeat' split at hs) <;> first | (cases hs; done) | (unfold zcall at hs; (repeat' split at hs) <;> (cases hs; done)) | (unfold zcpy at hs; (repeat' split at hs) <;> (cases hs; done)) | (unfold zmath at hs; (repeat' split at hs) <;> (cases hs; done)))
theorem zbr_sh {P : Prop} {tg : Nat} (hs : zstep S (pc, ins, len, v, a, b, k, [], ts) lv st sh M = some (ps, .inr (.inl (P, tg, (pc', lv', st', sh', M'))))) : sh' = sh ∧ True := by
  rcases zbr_ins hs with ⟨cd, n, rfl⟩ | ⟨cd, n, rfl⟩
  · unfold zstep at hs
    dsimp only at hs
    split at hs <;> first | (cases hs; exact ⟨rfl, trivial⟩) | (cases hs; done) | simp_all
  · unfold zstep at hs
    dsimp only at hs
    split at hs <;> first | (cases hs; exact ⟨rfl, trivial⟩) | (cases hs; done) | simp_all
/-- what a call's step says -/
theorem zcall_inv {n : Nat} {as0 rest : List Value} {y' : Nat} {as : List Value} {a0 pc0 : Nat} (h : zcall a0 n as0 rest pc0 lv sh M = some (ps, .inr (.inr (.inl (y', as, (pc', lv', st', sh', M')))))) : y' = a0 ∧ as = as0 ∧ pc' = pc0 ∧ lv' = lv ∧ st' = rest ∧ sh' = sh ∧ M' = M ∧ zcats rest ≤ 8 ∧ zcats as0 ≤ zmx a0 := by
  unfold zcall at h
  split at h
  · rename_i h1 h2
    cases h
    exact ⟨rfl, rfl, rfl, rfl, rfl, rfl, rfl, zble.mp h1, zble.mp h2⟩
  · cases h
theorem zmap_call (G : zG) (st : List Value) (b : Nat) : st.map (ztr G) = (((st.take b).reverse).map (ztr G)).reverse ++ (st.drop b).map (ztr G) := by
  rw [← List.map_reverse, List.reverse_reverse, ← List.map_append, List.take_append_drop]
theorem zpar_ok {x : MethodName} {n : Nat} (h : zpar x n = true) : x.cls ≠ "java/lang/invoke/MethodHandle" ∧ x.cls ≠ "java/lang/invoke/VarHandle" ∧ (parseMethodDescriptor x.desc).map (fun d => d.parameters.length) = some n := by
  unfold zpar at h
  simp only [Bool.and_eq_true, decide_eq_true_eq] at h
  exact ⟨h.1.1, h.1.2, h.2⟩
theorem zroom_ok {a0 : Nat} (h : zroom y a0 = true) (h1 : zfr y ≤ R.frames) (h2 : zlo y ≤ R.locals) : zfr a0 + 1 ≤ R.frames ∧ 8 + (zmx a0 + 11) + zlo a0 ≤ R.locals := by
  unfold zroom at h
  simp only [Bool.and_eq_true, zble] at h
  exact ⟨by omega, by omega⟩
theorem zM_mem {i kd a0 b0 c0 : Nat} (h : zhasM y i kd a0 b0 c0 = true) : ∃ p1 p2 p3 p4 : Nat, (zmo y, i, kd, a0, b0, c0, p1, p2, p3, p4) ∈ zML := by
  obtain ⟨⟨o, i', k', a', b', c', p1, p2, p3, p4⟩, hq, hb⟩ := List.any_eq_true.mp h
  simp only [Bool.and_eq_true, zbeq] at hb
  obtain ⟨⟨⟨⟨⟨h1, h2⟩, h3⟩, h4⟩, h5⟩, h6⟩ := hb
  subst h1; subst h2; subst h3; subst h4; subst h5; subst h6
  exact ⟨p1, p2, p3, p4, hq⟩
def znb (q : Nat × Nat × Nat × Nat × Nat × Nat × Nat × Nat × Nat × Nat) : Bool := match q with
  | (o, i, 2, a, _, 2, _, _, _, _) => decide (Cond.methodLinkNest (zown o) i (zmn a) "SugarBelow" ∈ znest)
  | _ => true
set_option maxRecDepth 100000 in
theorem znb_ok : zML.all znb = true := by decide +kernel
/-- what a callee's frame begins with -/
theorem zpre (F : zFr p R s m args meth c S G y) {as : List Value} (hH : zH G sh M H) (hS : va_S (fun q => G.2.1 ≤ q) s.heap H locs) : ∀ U : State, U.heap = H → s.WarmedH U.vm → va_Pc (as.map (ztr G)) (fun U => zH G sh M U.heap ∧ zK G U ∧ va_X G.1 S.1 S.2 U U.heap ∧ G.1 < G.2.1) (as.map (ztr G)).toArray U := by
  obtain ⟨hx, hb, hml, hown, hts, hK, hX, hbb, hbs, hini, hfr, hlo⟩ := F
  intro U hU hW
  refine ⟨rfl, by rw [hU]; exact hH, hK.warm hW, ?_, hbb⟩
  rw [hU]
  exact (hX.kept (hS.2.1 G.1 (by omega) (by show ¬ _ ≤ _; omega))).moved hW.alike
abbrev zRun (p : Program) (l : Launch) (e : Env) (R : Room) (s : State) (m : MethodId) (args : Array Value) (below : List Frame) (meth : Method) (c : Code) (H : Heap) (locs : List Loc) (cells slots : Nat) (S : zSc) (G : zG) (y pc : Nat) (ls : Array Slot) (lv : zL) (st : List Value) (sh : List zS) (M : zM) (y' : Nat) (as rest : List Value) : Prop :=
  ∀ {Qa : Option Value → List zS → zM → Prop}, zMt l S G y' as sh M Qa → zH G sh M H → va_S (fun q => G.2.1 ≤ q) s.heap H locs → lv_has ls (zmx y) (zlm G lv) → cells + zmc y' ≤ R.cells → slots + zms y' ≤ R.slots →
    va_Run p l e R s m args below meth c H locs cells slots (zmc y') (zms y') (F0 m pc ls (st.map (ztr G))) (rest.map (ztr G)) (fun st oc t => (∃ (r : Option Value) (sh' : List zS) (M' : zM), oc = .returned (r.map (ztr G)) ∧ Qa r sh' M' ∧ zH G sh' M' t.heap) ∧ va_F (fun q => G.2.1 ≤ q) st t) (fun q => G.2.1 ≤ q)
set_option maxHeartbeats 4000000 in
theorem zcall_run {y' : Nat} {as : List Value} (F : zFr p R s m args meth c S G y) (hd : decode (zmb y) pc = .ok (ins, len)) (hlen : zlen ins len = true) (hsp : zspec y (pc, ins, len, v, a, b, k, [], ts) = true) (hs : zstep S (pc, ins, len, v, a, b, k, [], ts) lv st sh M = some (ps, .inr (.inr (.inl (y', as, (pc', lv', st', sh', M')))))) : pc' = pc + 3 ∧ lv' = lv ∧ sh' = sh ∧ M' = M ∧ y' < 212 ∧ zcats as ≤ zmx y' ∧ zRun p l e R s m args below meth c H locs cells slots S G y pc ls lv st sh M y' as st' := by
  have F0 := F
  obtain ⟨hx, hb, hml, hown, hts, hK, hX, hbb, hbs, hini, hfr, hlo⟩ := F
  have hins : (∃ n, ins = .invokevirtual n) ∨ (∃ n, ins = .invokestatic n) ∨ (∃ n, ins = .invokespecial n) := by
    have hs2 := hs
    unfold zstep at hs2
    dsimp only at hs2
    split at hs2
    all_goals first
      | exact Or.inl ⟨_, rfl⟩
      | exact Or.inr (Or.inl ⟨_, rfl⟩)
      | exact Or.inr (Or.inr ⟨_, rfl⟩)
      | (cases hs2; done)
      | (exfalso; unfold zld at hs2; (repeat' split at hs2) <;> (cases hs2; done))
      | (exfalso; unfold zgf at hs2; (repeat' split at hs2) <;> (cases hs2; done))
      | (exfalso; unfold zpf at hs2; (repeat' split at hs2) <;> (cases hs2; done))
      | (exfalso; (repeat' split at hs2) <;> (cases hs2; done))
  rcases hins with ⟨n, rfl⟩ | ⟨n, rfl⟩ | ⟨n, rfl⟩
  · have hlen : len = 3 := zbeq.mp hlen
    subst hlen
    simp only [zspec, Bool.and_eq_true] at hsp
    obtain ⟨hm, hroom⟩ := hsp
    obtain ⟨p1, p2, p3, p4, hm⟩ := zM_of hm
    simp only [zmlb, Bool.and_eq_true, zblt] at hm
    obtain ⟨⟨⟨⟨⟨⟨hlt, w1⟩, w2⟩, w3⟩, w4⟩, hpar⟩, hcl⟩ := hm
    change (match st.drop b with
      | .ref (k0 + 1) :: rest => match zkind sh k0 with
        | some kd => match Nat.beq kd (k + 3) with
          | true => zcall a b (.ref (k0 + 1) :: (st.take b).reverse) rest (pc + 3) lv sh M
          | false => none
        | none => none
      | _ => none) = _ at hs
    split at hs
    · rename_i k0 rest hdrop
      split at hs
      · rename_i kd hkd
        split at hs
        · rename_i hb3
          have hb3 := zbeq.mp hb3
          subst hb3
          obtain ⟨rfl, rfl, rfl, rfl, rfl, rfl, rfl, h8, hmx⟩ := zcall_inv hs
          obtain ⟨N, fs, hsk⟩ : ∃ N fs, sh'[k0]? = some (k + 3, N, fs) := by
            unfold zkind at hkd
            cases hs2 : sh'[k0]? with
            | none => rw [hs2] at hkd; cases hkd
            | some s2 =>
              rw [hs2] at hkd
              obtain ⟨a2, b2, c2⟩ := s2
              cases hkd
              exact ⟨_, _, rfl⟩
          cases hck : zcl[k]? with
          | none => rw [hck] at hcl; cases hcl
          | some r0 =>
            rw [hck] at hcl
            have hcl := of_decide_eq_true hcl
            refine ⟨rfl, rfl, rfl, rfl, hlt, hmx, fun {Qa} hM hH hS hl hc1 hc2 => ?_⟩
            have hrecv := va_recv hK.1 hH.2 hck (zws_get hsk)
            rw [hcl] at hrecv
            have hlenst : b ≤ st.length := by
              rcases Nat.lt_or_ge st.length b with h | h
              · rw [List.drop_eq_nil_of_le (Nat.le_of_lt h)] at hdrop; cases hdrop
              · exact h
            refine va_runV (As := ((st.take b).reverse).map (ztr G)) (b := zad G (k0 + 1)) ⟨hx, hb, hml, hown, hts⟩ hM ⟨callB_of b hts (zGood y' hlt) rfl rfl rfl (hts _ (zg (zat_mem w4) rfl)) (hts _ (zg (zat_mem w1) rfl)) (zpar_ok hpar) (zroom_ok hroom hfr hlo), hts _ (zg (zat_mem w2) rfl), hts _ (zg (zat_mem w3) rfl)⟩ ⟨zMt_blind, hrecv, zpre F0 hH hS⟩ rfl (by simp; omega) hl.1 ?_ (lv_room (by rw [zcats_map]; exact h8)) hd ⟨hc1, hc2⟩
            show st.map (ztr G) = _
            rw [zmap_call G st b, hdrop]
            rfl
        · cases hs
      · cases hs
    · cases hs
  · have hlen : len = 3 := zbeq.mp hlen
    subst hlen
    rcases k with _ | _ | k
    · change (zhasM y n 1 a b 0 && zroom y a) = true at hsp
      simp only [Bool.and_eq_true] at hsp
      obtain ⟨hm, hroom⟩ := hsp
      obtain ⟨p1, p2, p3, p4, hm⟩ := zM_of hm
      simp only [zmlb, Bool.and_eq_true, zblt] at hm
      obtain ⟨⟨⟨⟨hlt, w1⟩, w2⟩, w4⟩, hpar⟩ := hm
      change (match Nat.ble b st.length with
        | true => zcall a b (st.take b).reverse (st.drop b) (pc + 3) lv sh M
        | false => none) = _ at hs
      split at hs
      · rename_i hbl
        have hbl := zble.mp hbl
        obtain ⟨rfl, rfl, rfl, rfl, rfl, rfl, rfl, h8, hmx⟩ := zcall_inv hs
        refine ⟨rfl, rfl, rfl, rfl, hlt, hmx, fun {Qa} hM hH hS hl hc1 hc2 => ?_⟩
        refine va_runS (As := ((st.take b).reverse).map (ztr G)) ⟨hx, hb, hml, hown, hts⟩ hM ⟨callB_of b hts (zGood y' hlt) rfl rfl rfl (hts _ (zg (zat_mem w4) rfl)) (hts _ (zg (zat_mem w1) rfl)) (zpar_ok hpar) (zroom_ok hroom hfr hlo), hts _ (zg (zat_mem w2) rfl)⟩ ⟨zMt_blind, zpre F0 hH hS⟩ rfl (by simp; omega) hl.1 (zmap_call G st b) (lv_room (by rw [zcats_map]; exact h8)) hd ⟨hc1, hc2⟩
      · cases hs
    · exfalso
      change zcpy (st.take 5).reverse (st.drop 5) (pc + 3) lv sh M = _ at hs
      unfold zcpy at hs
      (repeat' split at hs) <;> (cases hs; done)
    · exfalso
      change zmath k st (pc + 3) lv sh M = _ at hs
      unfold zmath at hs
      (repeat' split at hs) <;> (cases hs; done)
  · have hlen : len = 3 := zbeq.mp hlen
    subst hlen
    rcases k with _ | k
    · exfalso
      change (match st with
        | .ref _ :: rest => match Nat.ble (zcats rest) 8 with
          | true => znx (pc + 3) lv rest sh M
          | false => none
        | _ => none) = _ at hs
      (repeat' split at hs) <;> (cases hs; done)
    · change (zhasM y n 2 a b (k + 1) && zroom y a) = true at hsp
      simp only [Bool.and_eq_true] at hsp
      obtain ⟨hm, hroom⟩ := hsp
      obtain ⟨q1, q2, q3, q4, hmem⟩ := zM_mem hm
      have hnb := List.all_eq_true.mp znb_ok _ hmem
      have hm := List.all_eq_true.mp zML_ok _ hmem
      change (match st.drop b with
        | .ref (k0 + 1) :: rest => zcall a b (.ref (k0 + 1) :: (st.take b).reverse) rest (pc + 3) lv sh M
        | _ => none) = _ at hs
      split at hs
      · rename_i k0 rest hdrop
        obtain ⟨rfl, rfl, rfl, rfl, rfl, rfl, rfl, h8, hmx⟩ := zcall_inv hs
        have hlenst : b ≤ st.length := by
          rcases Nat.lt_or_ge st.length b with h | h
          · rw [List.drop_eq_nil_of_le (Nat.le_of_lt h)] at hdrop; cases hdrop
          · exact h
        have hstk : st.map (ztr G) = ((((st.take b).reverse).map (ztr G)).reverse) ++ .ref (zad G (k0 + 1)) :: st'.map (ztr G) := by
          rw [zmap_call G st b, hdrop]
          rfl
        rcases k with _ | _ | k
        · simp only [zmlb, Bool.and_eq_true, zblt, decide_eq_true_eq] at hm
          obtain ⟨⟨⟨⟨⟨⟨hlt, w1⟩, w2⟩, w4⟩, hpar⟩, hin⟩, hret⟩ := hm
          refine ⟨rfl, rfl, rfl, rfl, hlt, hmx, fun {Qa} hM hH hS hl hc1 hc2 => ?_⟩
          unfold zMt at hM
          rw [hret] at hM
          have hGd := zGood y' hlt
          rw [hret] at hGd
          exact va_runI (As := ((st.take b).reverse).map (ztr G)) (b := zad G (k0 + 1)) ⟨hx, hb, hml, hown, hts⟩ hM ⟨callB_of b hts hGd rfl rfl rfl (hts _ (zg (zat_mem w4) rfl)) (hts _ (zg (zat_mem w1) rfl)) (zpar_ok hpar) (zroom_ok hroom hfr hlo), beq_iff_eq.mp hin, hts _ (zg (zat_mem w2) rfl)⟩ ⟨zMt_blind, zpre F0 hH hS⟩ rfl (by simp; omega) hl.1 hstk (lv_room (by rw [zcats_map]; exact h8)) hd ⟨hc1, hc2⟩
        · simp only [zmlb, Bool.and_eq_true, zblt, decide_eq_true_eq] at hm
          obtain ⟨⟨⟨⟨⟨⟨hlt, w1⟩, w2⟩, w4⟩, hpar⟩, hin⟩, hret⟩ := hm
          have hnest := hK.2.1 _ (of_decide_eq_true hnb)
          refine ⟨rfl, rfl, rfl, rfl, hlt, hmx, fun {Qa} hM hH hS hl hc1 hc2 => ?_⟩
          unfold zMt at hM
          rw [hret] at hM
          have hGd := zGood y' hlt
          rw [hret] at hGd
          exact va_runIN (As := ((st.take b).reverse).map (ztr G)) (b := zad G (k0 + 1)) ⟨hx, hb, hml, hown, hts⟩ hM ⟨va_cnB b hts hGd rfl rfl rfl hnest (hts _ (zg (zat_mem w4) rfl)) (zpar_ok hpar) (zroom_ok hroom hfr hlo), beq_iff_eq.mp hin, hts _ (zg (zat_mem w2) rfl)⟩ ⟨zMt_blind, zpre F0 hH hS⟩ rfl (by simp; omega) hl.1 hstk (lv_room (by rw [zcats_map]; exact h8)) hd ⟨hc1, hc2⟩
        · exact absurd (show false = true from hm) nofun
      · cases hs
end ZCalls
end
section
section ZSound2
set_option maxHeartbeats 8000000 in
/-- f steps of the plain machine are steps of the machine -/
theorem zsound (l : Launch) : ∀ f : Nat, zSnd l f := by
  intro f
  induction f with
  | zero =>
    intro p e R s m args below meth c Q S G y n0 s0 Qa hy F hcap hfin H locs cells slots ls pc lv st sh M hX
    exact absurd hX (by simp [zX])
  | succ f ih =>
    intro p e R s m args below meth c Q S G y n0 s0 Qa hy F hcap hfin H locs cells slots ls pc lv st sh M hX hH hS hl hc0 hs0
    rw [zX] at hX
    cases hg : zgo1 S y (pc, lv, st, sh, M) with
    | none => rw [hg] at hX; exact hX.elim
    | some x =>
      rw [hg] at hX
      obtain ⟨en, hlk, hst⟩ : ∃ en : zN, zlk pc (zcode y) = some en ∧ zstep S en lv st sh M = some x := by
        unfold zgo1 at hg
        dsimp only at hg
        split at hg
        · cases hg
        · rename_i en hen
          exact ⟨en, hen, hg⟩
      obtain ⟨⟨q, hq, hmem⟩, hpc⟩ := zlk_mem hlk
      have hchk : zchk y en = true := by
        have h := zmchk_ok y hy
        unfold zmchk at h
        rw [Bool.and_eq_true] at h
        exact List.all_eq_true.mp (List.all_eq_true.mp h.1 q hq) en hmem
      obtain ⟨pc1, ins, len, v, a, b, k, nrm, ts⟩ := en
      dsimp only at hpc
      subst hpc
      unfold zchk at hchk
      simp only [Bool.and_eq_true, decide_eq_true_eq] at hchk
      obtain ⟨⟨hd, hlen⟩, hsp⟩ := hchk
      have hsp : zspec y (pc1, ins, len, v, a, b, k, [], ts) = true := hsp
      have hst : zstep S (pc1, ins, len, v, a, b, k, [], ts) (zpick nrm lv) st sh M = some x := hst
      have hl := zpick_has nrm hl
      generalize zpick nrm lv = lv1 at hst hl
      have key : ∀ (t : zC) (cells1 slots1 : Nat), zX S f y t Qa → zKk p l e R s m args below meth c cells slots Q G y sh t := by
        intro t cells1 slots1 ht
        obtain ⟨pc2, lv2, st2, sh2, M2⟩ := t
        intro H' locs' ls' cells' slots' hc' hs' hH' hS' hl'
        exact ih p e R s m args below meth c Q S G y n0 s0 Qa hy F hcap hfin H' locs' cells' slots' ls' pc2 lv2 st2 sh2 M2 ht hH' hS' hl' (by omega) (by omega)
      obtain ⟨ps, t' | ⟨P, tg, pc', lv', st', sh', M'⟩ | ⟨y', as, pc', lv', st', sh', M'⟩ | ⟨r, sh', M'⟩⟩ := x
      · obtain ⟨pc', lv', st', sh', M'⟩ := t'
        obtain ⟨r, sh2, M2, h1, h2⟩ := zX_ex f y _ Qa hX.2
        have hcc := hcap r sh2 M2 h1
        have h3 : sh'.length ≤ sh2.length := h2.1
        have h4 : zsl sh' ≤ zsl sh2 := h2.2
        exact zone F hd hlen hsp hst hX.1 hH hS hl (by omega) (by omega) (key _ 0 0 hX.2)
      · have hbr : (∃ cd n, ins = .ifCond cd n) ∨ (∃ cd n, ins = .if_icmp cd n) := zbr_ins hst
        have e1 : sh' = sh := (zbr_sh hst).1
        rcases hbr with ⟨cd, n, rfl⟩ | ⟨cd, n, rfl⟩
        · exact zo_ifCond F hd hlen hsp hst hH hS hl (fun h => key _ 0 0 (hX.2.1 h)) (fun h => key _ 0 0 (hX.2.2 h))
        · exact zo_if_icmp F hd hlen hsp hst hH hS hl (fun h => key _ 0 0 (hX.2.1 h)) (fun h => key _ 0 0 (hX.2.2 h))
      · obtain ⟨r, sh2, M2, h1, h2⟩ := zX_ex f y' _ _ hX.2
        obtain ⟨r3, sh3, M3, h3, h4⟩ := zX_ex f y _ Qa h1.2
        have hcc := hcap r3 sh3 M3 h3
        have h5 : sh2.length ≤ sh3.length := h4.1
        have h6 : zsl sh2 ≤ zsl sh3 := h4.2
        have h7 := h1.1
        obtain ⟨rfl, rfl, rfl, rfl, hlt, hc9, hrun⟩ := zcall_run (l := l) (e := e) (below := below) (H := H) (locs := locs) (cells := cells) (slots := slots) (ls := ls) F hd hlen hsp hst
        have hM := zmet ih (G := G) hlt hX.2 hc9 (fun r sh' M' h => h.1)
        refine zcall_go (hrun hM hH hS hl (by omega) (by omega)) hS fun r sh4 M4 H1 locs1 hq4 hH4 hS4 => ?_
        exact ih p e R s m args below meth c Q S G y n0 s0 Qa hy F hcap hfin H1 locs1 _ _ ls _ _ _ sh4 M4 hq4.2 hH4 hS4 hl (by have := hq4.1.1; omega) (by have := hq4.1.2; omega)
      · obtain ⟨e1, e2, e3, hr⟩ := zret hd hlen hsp hst hX.1
        subst e1
        subst e2
        subst e3
        have e4 : (r.toList).map (ztr G) = (r.map (ztr G)).toList := by cases r <;> rfl
        rw [e4]
        exact hfin r sh' M' H locs cells slots ls pc1 hX.2 hH hS hc0 hs0 hr
end ZSound2
end
section
section ZRules
def zh : List zS := [(12, 9, [.ref 2, .ref 20, .ref 57, .ref 58, .ref 63, .ref 70, .ref 76, .ref 78, .ref 85]), (9, 4, [.ref 3, .ref 10, .ref 18, .int 0]), (4, 7, [.int 0, .ref 4, .ref 5, .ref 6, .ref 7, .ref 8, .ref 9]), (0, 4, []), (0, 12, []), (0, 8, []), (0, 8, []), (0, 8, []), (0, 2, []), (6, 8, [.int 0, .ref 11, .ref 12, .ref 13, .ref 14, .ref 15, .ref 16, .ref 17]), (0, 5, []), (0, 10, []), (0, 5, []), (0, 5, []), (0, 20, []), (0, 20, []), (0, 20, []), (8, 2, [.int 0, .ref 19]), (0, 30, []), (2, 2, [.ref 21, .ref 39]), (9, 4, [.ref 22, .ref 29, .ref 37, .int 0]), (4, 7, [.int 0, .ref 23, .ref 24, .ref 25, .ref 26, .ref 27, .ref 28]), (0, 4, []), (0, 12, []), (0, 8, []), (0, 8, []), (0, 8, []), (0, 2, []), (6, 8, [.int 0, .ref 30, .ref 31, .ref 32, .ref 33, .ref 34, .ref 35, .ref 36]), (0, 5, []), (0, 10, []), (0, 5, []), (0, 5, []), (0, 20, []), (0, 20, []), (0, 20, []), (8, 2, [.int 0, .ref 38]), (0, 30, []), (9, 4, [.ref 40, .ref 47, .ref 55, .int 0]), (4, 7, [.int 0, .ref 41, .ref 42, .ref 43, .ref 44, .ref 45, .ref 46]), (0, 4, []), (0, 12, []), (0, 8, []), (0, 8, []), (0, 8, []), (0, 2, []), (6, 8, [.int 0, .ref 48, .ref 49, .ref 50, .ref 51, .ref 52, .ref 53, .ref 54]), (0, 5, []), (0, 10, []), (0, 5, []), (0, 5, []), (0, 20, []), (0, 20, []), (0, 20, []), (8, 2, [.int 0, .ref 56]), (0, 30, []), (1, 2, []), (5, 7, [.int 0, .int 0, .int 0, .ref 59, .ref 60, .ref 61, .ref 62]), (0, 40, []), (0, 4, []), (0, 4, []), (0, 4, []), (4, 7, [.int 0, .ref 64, .ref 65, .ref 66, .ref 67, .ref 68, .ref 69]), (0, 4, []), (0, 12, []), (0, 8, []), (0, 8, []), (0, 8, []), (0, 2, []), (10, 7, [.ref 63, .ref 10, .ref 71, .ref 72, .ref 73, .ref 74, .ref 75]), (0, 120, []), (0, 120, []), (0, 4, []), (0, 8, []), (0, 2, []), (7, 4, [.ref 63, .ref 10, .ref 70, .ref 77]), (0, 5, []), (3, 12, [.int 0, .int 0, .ref 79, .ref 63, .ref 70, .int 0, .int 0, .ref 80, .ref 81, .ref 82, .ref 83, .ref 84]), (0, 2, []), (0, 6561, []), (0, 6561, []), (1, 162, []), (0, 162, []), (0, 13122, []), (11, 5, [.int 0, .int 0, .int 0, .ref 3, .ref 10]), (13, 34, [.ref 87, .ref 88, .ref 89, .ref 90, .ref 91, .ref 92, .int 0, .ref 93, .ref 94, .ref 95, .ref 96, .ref 97, .ref 98, .ref 99, .int 0, .ref 100, .int 0, .int 0, .int 0, .int 0, .ref 101, .ref 102, .ref 103, .ref 104, .int 0, .int 0, .int 0, .int 0, .ref 105, .int 0, .ref 106, .ref 107, .int 0, .int 0]), (0, 8, []), (0, 8, []), (0, 8, []), (0, 2, []), (0, 12, []), (0, 4, []), (0, 5, []), (0, 10, []), (0, 5, []), (0, 5, []), (0, 20, []), (0, 20, []), (0, 20, []), (0, 40, []), (0, 13122, []), (0, 162, []), (1, 162, []), (0, 13122, []), (0, 30, []), (0, 400, []), (1, 2, [])]
def zgo (S : zSc) (y : Nat) : Nat → zC → Option (List Prop × zC)
  | 0, s => some ([], s)
  | n + 1, s => match zgo1 S y s with
    | some (ps, .inl s') => match zgo S y n s' with
      | some (qs, t) => some (ps ++ qs, t)
      | none => none
    | _ => none
/-- the method y, from s on, ends with the answer rv and the numbers M' -/
def zF (S : zSc) (y : Nat) (s : zC) (rv : Option Value) (M' : zM) : Prop := ∃ f, zX S f y s (fun r sh M => r = rv ∧ sh = zh ∧ M = M')
theorem zX_mono {S : zSc} : ∀ (f y : Nat) (s : zC) (Q Q' : Option Value → List zS → zM → Prop), (∀ r sh M, Q r sh M → Q' r sh M) → zX S f y s Q → zX S f y s Q' := by
  intro f
  induction f with
  | zero => intro y s Q Q' _ h; exact absurd h (by simp [zX])
  | succ f ih =>
    intro y s Q Q' hQ h
    rw [zX] at h ⊢
    cases hg : zgo1 S y s with
    | none => rw [hg] at h; exact h.elim
    | some x =>
      rw [hg] at h
      obtain ⟨ps, t' | ⟨P, tg, pc', lv', st', sh', M'⟩ | ⟨y', as, pc', lv', st', sh', M'⟩ | ⟨r, sh', M'⟩⟩ := x
      · exact ⟨h.1, ih _ _ _ _ hQ h.2⟩
      · exact ⟨h.1, fun hp => ih _ _ _ _ hQ (h.2.1 hp), fun hp => ih _ _ _ _ hQ (h.2.2 hp)⟩
      · exact ⟨h.1, ih _ _ _ _ (fun r sh M hq => ⟨hq.1, ih _ _ _ _ hQ hq.2⟩) h.2⟩
      · exact ⟨h.1, hQ _ _ _ h.2⟩
theorem zX_up1 {S : zSc} : ∀ (f y : Nat) (s : zC) (Q : Option Value → List zS → zM → Prop), zX S f y s Q → zX S (f + 1) y s Q := by
  intro f
  induction f with
  | zero => intro y s Q h; exact absurd h (by simp [zX])
  | succ f ih =>
    intro y s Q h
    rw [zX] at h ⊢
    cases hg : zgo1 S y s with
    | none => rw [hg] at h; exact h.elim
    | some x =>
      rw [hg] at h
      obtain ⟨ps, t' | ⟨P, tg, pc', lv', st', sh', M'⟩ | ⟨y', as, pc', lv', st', sh', M'⟩ | ⟨r, sh', M'⟩⟩ := x
      · exact ⟨h.1, ih _ _ _ h.2⟩
      · exact ⟨h.1, fun hp => ih _ _ _ (h.2.1 hp), fun hp => ih _ _ _ (h.2.2 hp)⟩
      · exact ⟨h.1, zX_mono _ _ _ _ _ (fun r sh M hq => ⟨hq.1, ih _ _ _ hq.2⟩) (ih _ _ _ h.2)⟩
      · exact h
theorem zX_up {S : zSc} {f g y : Nat} {s : zC} {Q : Option Value → List zS → zM → Prop} (hfg : f ≤ g) (h : zX S f y s Q) : zX S g y s Q := by
  induction hfg with
  | refl => exact h
  | step _ ih => exact zX_up1 _ _ _ _ ih
theorem zF_same {S : zSc} {y : Nat} {s s' : zC} {rv : Option Value} {M' : zM} (hs : zgo1 S y s = zgo1 S y s') (h : zF S y s' rv M') : zF S y s rv M' := by
  obtain ⟨f, h⟩ := h
  cases f with
  | zero => exact absurd h (by simp [zX])
  | succ f =>
    refine ⟨f + 1, ?_⟩
    rw [zX] at h ⊢
    rw [hs]
    exact h
theorem zF_as {S : zSc} {y : Nat} {s s' : zC} {rv : Option Value} {M' : zM} (h : zF S y s' rv M') (hs : zgo1 S y s = zgo1 S y s') : zF S y s rv M' := zF_same hs h
theorem zF_one {S : zSc} {y : Nat} {s s' : zC} {ps : List Prop} {rv : Option Value} {M' : zM} (hs : zgo1 S y s = some (ps, .inl s')) (hps : zall ps) (h : zF S y s' rv M') : zF S y s rv M' := by
  obtain ⟨f, h⟩ := h
  refine ⟨f + 1, ?_⟩
  rw [zX, hs]
  exact ⟨hps, h⟩
theorem zall_app : ∀ {a b : List Prop}, zall (a ++ b) → zall a ∧ zall b
  | [], _, h => ⟨trivial, h⟩
  | _ :: a, _, h => ⟨⟨h.1, (zall_app (a := a) h.2).1⟩, (zall_app (a := a) h.2).2⟩
theorem zF_go {S : zSc} {y n : Nat} {s s' : zC} {ps : List Prop} {rv : Option Value} {M' : zM} (hs : zgo S y n s = some (ps, s')) (hps : zall ps) (h : zF S y s' rv M') : zF S y s rv M' := by
  induction n generalizing s ps with
  | zero =>
    cases hs
    exact h
  | succ n ih =>
    unfold zgo at hs
    cases hg : zgo1 S y s with
    | none => rw [hg] at hs; cases hs
    | some x =>
      rw [hg] at hs
      obtain ⟨qs, t' | x⟩ := x
      · dsimp only at hs
        cases hg2 : zgo S y n t' with
        | none => rw [hg2] at hs; cases hs
        | some x2 =>
          rw [hg2] at hs
          obtain ⟨qs2, t2⟩ := x2
          cases hs
          obtain ⟨h1, h2⟩ := zall_app hps
          exact zF_one hg h1 (ih hg2 h2)
      · cases hs
theorem zF_br {S : zSc} {y t : Nat} {s : zC} {P : Prop} {u : zC} {rv : Option Value} {M' : zM} (hs : zgo1 S y s = some ([], .inr (.inl (P, t, u)))) (h1 : P → zF S y (t, u.2) rv M') (h2 : ¬ P → zF S y u rv M') : zF S y s rv M' := by
  obtain ⟨pc, lv, st, sh, M⟩ := u
  by_cases hP : P
  · obtain ⟨f, h⟩ := h1 hP
    refine ⟨f + 1, ?_⟩
    rw [zX, hs]
    exact ⟨trivial, fun _ => h, fun q => absurd hP q⟩
  · obtain ⟨f, h⟩ := h2 hP
    refine ⟨f + 1, ?_⟩
    rw [zX, hs]
    exact ⟨trivial, fun q => absurd q hP, fun _ => h⟩
section ZBr
variable {S : zSc} {y t : Nat} {s : zC} {x w : Int32} {u : zC} {rv : Option Value} {M' : zM}
theorem zF_eq (hs : zgo1 S y s = some ([], .inr (.inl (x = w, t, u)))) (h1 : x = w → zF S y (t, u.2) rv M') (h2 : ¬ x = w → zF S y u rv M') : zF S y s rv M' := zF_br hs h1 h2
theorem zF_ne (hs : zgo1 S y s = some ([], .inr (.inl (¬ x = w, t, u)))) (h1 : ¬ x = w → zF S y (t, u.2) rv M') (h2 : x = w → zF S y u rv M') : zF S y s rv M' := zF_br hs h1 (fun h => h2 (Classical.not_not.mp h))
theorem zF_lt (hs : zgo1 S y s = some ([], .inr (.inl (x < w, t, u)))) (h1 : x < w → zF S y (t, u.2) rv M') (h2 : ¬ x < w → zF S y u rv M') : zF S y s rv M' := zF_br hs h1 h2
theorem zF_ge (hs : zgo1 S y s = some ([], .inr (.inl (w ≤ x, t, u)))) (h1 : ¬ x < w → zF S y (t, u.2) rv M') (h2 : x < w → zF S y u rv M') : zF S y s rv M' := zF_br hs (fun h => h1 (Int32.not_lt.mpr h)) (fun h => h2 (Int32.not_le.mp h))
theorem zF_gt (hs : zgo1 S y s = some ([], .inr (.inl (w < x, t, u)))) (h1 : w < x → zF S y (t, u.2) rv M') (h2 : ¬ w < x → zF S y u rv M') : zF S y s rv M' := zF_br hs h1 h2
theorem zF_le (hs : zgo1 S y s = some ([], .inr (.inl (x ≤ w, t, u)))) (h1 : ¬ w < x → zF S y (t, u.2) rv M') (h2 : w < x → zF S y u rv M') : zF S y s rv M' := zF_br hs (fun h => h1 (Int32.not_lt.mpr h)) (fun h => h2 (Int32.not_le.mp h))
end ZBr
theorem zF_ret {S : zSc} {y : Nat} {s : zC} {ps : List Prop} {rv : Option Value} {M' : zM} (hs : zgo1 S y s = some (ps, .inr (.inr (.inr (rv, zh, M'))))) (hps : zall ps) : zF S y s rv M' := by
  refine ⟨1, ?_⟩
  rw [zX, hs]
  exact ⟨hps, rfl, rfl, rfl⟩
theorem zF_call {S : zSc} {y y' : Nat} {s : zC} {as : List Value} {u : zC} {r1 rv : Option Value} {M1 M' : zM} (hs : zgo1 S y s = some ([], .inr (.inr (.inl (y', as, u))))) (hm : zmc y' = 0 ∧ zms y' = 0) {pc : Nat} {lv : zL} {st : List Value} {M : zM} (hu : u = (pc, lv, st, zh, M)) (h1 : zF S y' (0, lv_args 0 as, [], zh, M) r1 M1) (h2 : zF S y (pc, lv, r1.toList ++ st, zh, M1) rv M') : zF S y s rv M' := by
  subst hu
  obtain ⟨f1, h1⟩ := h1
  obtain ⟨f2, h2⟩ := h2
  refine ⟨max f1 f2 + 1, ?_⟩
  rw [zX, hs]
  refine ⟨trivial, zX_up (Nat.le_max_left f1 f2) (zX_mono _ _ _ _ _ (fun r sh M hq => ?_) h1)⟩
  obtain ⟨rfl, rfl, rfl⟩ := hq
  exact ⟨⟨by rw [hm.1]; rfl, by rw [hm.2]; rfl⟩, zX_up (Nat.le_max_right f1 f2) h2⟩
theorem zF_sw {S : zSc} {y t T : Nat} {s : zC} {lv : zL} {st : List Value} {M : zM} {rv : Option Value} {M' : zM} (hs : zgo1 S y s = some ([], .inl (T, lv, st, zh, M))) (ht : T = t) (h : zF S y (t, lv, st, zh, M) rv M') : zF S y s rv M' := by
  subst ht
  exact zF_one hs trivial h
theorem ztab_d {lo hi : Int} {d : Nat} {ts : List Nat} {x : Int32} (h : ∀ j, j < ts.length → ts.getD j d = d ∨ ¬ x.toInt = lo + (j : Int)) : ztab lo hi d ts x = d := by
  unfold ztab
  split
  · rfl
  · rename_i hn
    by_cases hj : (x.toInt - lo).toNat < ts.length
    · rcases h _ hj with q | q
      · exact q
      · exact absurd (by omega) q
    · rw [List.getD_eq_getElem?_getD, List.getElem?_eq_none (by omega)]
      rfl
/-! the plain functions -/
def zb {α β : Type} (o : Option α) (f : α → Option β) : Option β := match o with
  | some a => f a
  | none => none
def zb2 {α β γ : Type} (o : Option (α × β)) (f : α → β → Option γ) : Option γ := match o with
  | some (a, b) => f a b
  | none => none
def zb3 {α β γ δ : Type} (o : Option (α × β × γ)) (f : α → β → γ → Option δ) : Option δ := match o with
  | some (a, b, c) => f a b c
  | none => none
def zb4 {α β γ δ ε : Type} (o : Option (α × β × γ × δ)) (f : α → β → γ → δ → Option ε) : Option ε := match o with
  | some (a, b, c, d) => f a b c d
  | none => none
theorem zb_some {α β : Type} {o : Option α} {f : α → Option β} {r : β} (h : zb o f = some r) : ∃ a, o = some a ∧ f a = some r := by
  cases o with
  | none => cases h
  | some a => exact ⟨a, rfl, h⟩
theorem zb2_some {α β γ : Type} {o : Option (α × β)} {f : α → β → Option γ} {r : γ} (h : zb2 o f = some r) : ∃ a b, o = some (a, b) ∧ f a b = some r := by
  cases o with
  | none => cases h
  | some a => exact ⟨a.1, a.2, rfl, h⟩
theorem zb3_some {α β γ δ : Type} {o : Option (α × β × γ)} {f : α → β → γ → Option δ} {r : δ} (h : zb3 o f = some r) : ∃ a b c, o = some (a, b, c) ∧ f a b c = some r := by
  cases o with
  | none => cases h
  | some a => exact ⟨a.1, a.2.1, a.2.2, rfl, h⟩
theorem zb4_some {α β γ δ ε : Type} {o : Option (α × β × γ × δ)} {f : α → β → γ → δ → Option ε} {r : ε} (h : zb4 o f = some r) : ∃ a b c d, o = some (a, b, c, d) ∧ f a b c d = some r := by
  cases o with
  | none => cases h
  | some a => exact ⟨a.1, a.2.1, a.2.2.1, a.2.2.2, rfl, h⟩
noncomputable def zq {α : Type} (P : Prop) (k : Option α) : Option α := @ite _ P (Classical.propDecidable P) k none
theorem zq_pos {α : Type} {P : Prop} {k : Option α} (h : P) : zq P k = k := by unfold zq; exact if_pos h
theorem zq_some {α : Type} {P : Prop} {k : Option α} {r : α} (h : zq P k = some r) : P ∧ k = some r := by
  unfold zq at h
  by_cases hP : P
  · rw [if_pos hP] at h
    exact ⟨hP, h⟩
  · rw [if_neg hP] at h
    cases h
def zlj {α β : Type} (j : α) (f : α → β) : β := f j
theorem zlj_e {α β : Type} {j : α} {f : α → Option β} {r : β} {g : Prop} (h : zlj j f = some r) (p : α → Prop) (hj : p j) (hf : ∀ k, p k → f k = some r → g) : g := hf j hj h
def zfu : Nat := 100000
def zlp {σ ρ : Type} (b : (σ → Option ρ) → σ → Option ρ) : Nat → σ → Option ρ
  | 0, _ => none
  | n + 1, s => b (zlp b n) s
theorem zlp_ind {σ ρ : Type} {b : (σ → Option ρ) → σ → Option ρ} {P : σ → ρ → Prop} (hb : ∀ rc : σ → Option ρ, (∀ a r, rc a = some r → P a r) → ∀ a r, b rc a = some r → P a r) : ∀ (n : Nat) (a : σ) (r : ρ), zlp b n a = some r → P a r
  | 0, _, _, h => by cases h
  | n + 1, a, r, h => hb (zlp b n) (zlp_ind hb n) a r h
end ZRules
end
section
section ZT
noncomputable def qS_isOut (p_v : Int32) (p_low : Int32) (p_high : Int32) : Option (Int32) :=
  zlj (fun (_ : Unit) =>
    some 1) fun k1 =>
  if p_v < p_low then
    (k1 ())
  else
    (if p_high < p_v then
      (k1 ())
    else
      (some 0))
set_option maxRecDepth 20000 in
set_option maxHeartbeats 4000000 in
theorem qS_isOut_ok {S : zSc} {M : zM} {p_v : Int32} {p_low : Int32} {p_high : Int32} {r : Int32} (h : qS_isOut p_v p_low p_high = some r) : zF S 125 (0, [(0, .int p_v), (1, .int p_low), (2, .int p_high)], [], zh, M) (some (.int r)) (M) := by
  unfold qS_isOut at h
  refine zF_go (n := 2) (ps := []) (s' := (2, [(0, .int p_v), (1, .int p_low), (2, .int p_high)], [.int p_low, .int p_v], zh, M)) rfl trivial ?_
  refine zlj_e h (fun k => ∀ (_ : Unit) r, k () = some r → zF S 125 (10, [], [], zh, M) (some (.int r)) (M)) ?_ ?_
  · intro _ r h
    try dsimp only at h
    refine zF_go (n := 2) (ps := []) (s' := (15, [], [.int 1], zh, M)) rfl trivial ?_
    cases h
    exact zF_ret rfl ⟨(Or.inr rfl), trivial⟩
  · intro k1 hk1 h
    try dsimp only at h
    refine zF_lt (t := 10) (u := (5, [(0, .int p_v), (1, .int p_low), (2, .int p_high)], [], zh, M)) rfl (fun c2 => ?_) (fun c2 => ?_)
    · rw [if_pos c2] at h
      exact zF_as (hk1 () _ h) rfl
    · rw [if_neg c2] at h
      refine zF_go (n := 2) (ps := []) (s' := (7, [(0, .int p_v), (1, .int p_low), (2, .int p_high)], [.int p_high, .int p_v], zh, M)) rfl trivial ?_
      refine zF_le (t := 14) (u := (10, [(0, .int p_v), (1, .int p_low), (2, .int p_high)], [], zh, M)) rfl (fun c3 => ?_) (fun c3 => ?_)
      · rw [if_neg c3] at h
        refine zF_go (n := 1) (ps := []) (s' := (15, [(0, .int p_v), (1, .int p_low), (2, .int p_high)], [.int 0], zh, M)) rfl trivial ?_
        cases h
        exact zF_ret rfl ⟨(Or.inl rfl), trivial⟩
      · rw [if_pos c3] at h
        exact zF_as (hk1 () _ h) rfl
noncomputable def qW_cell (M : zM) (p_sort : Int32) (p_shop : Int32) (p_thing : Int32) : Option (Int32) :=
  zq (vp_in ((p_shop * 4) + p_thing) 8) <| some (((((p_sort * 2) * 4) + ((p_shop * 4) + p_thing)) * 3) + (M 68 ((p_shop * 4) + p_thing).toNatClampNeg))
set_option maxRecDepth 20000 in
set_option maxHeartbeats 4000000 in
theorem qW_cell_ok {S : zSc} {M : zM} {p_sort : Int32} {p_shop : Int32} {p_thing : Int32} {r : Int32} (h : qW_cell M p_sort p_shop p_thing = some r) : zF S 72 (0, [(0, .ref 70), (1, .int p_sort), (2, .int p_shop), (3, .int p_thing)], [], zh, M) (some (.int r)) (M) := by
  unfold qW_cell at h
  obtain ⟨g1, h⟩ := zq_some h
  refine zF_go (n := 21) (ps := [vp_in ((p_shop * 4) + p_thing) 8]) (s' := (28, [(4, .int ((p_shop * 4) + p_thing)), (0, .ref 70), (1, .int p_sort), (2, .int p_shop), (3, .int p_thing)], [.int (((((p_sort * 2) * 4) + ((p_shop * 4) + p_thing)) * 3) + (M 68 ((p_shop * 4) + p_thing).toNatClampNeg))], zh, M)) rfl ⟨g1, trivial⟩ ?_
  cases h
  exact zF_ret rfl trivial
noncomputable def qG_priceNow (M : zM) (p_shop : Int32) (p_thing : Int32) : Option (Int32) :=
  zq (vp_in ((p_shop * 4) + p_thing) 8) <| zq (vp_in ((p_thing * 3) + (M 68 ((p_shop * 4) + p_thing).toNatClampNeg)) 12) <| some (M 65 ((p_thing * 3) + (M 68 ((p_shop * 4) + p_thing).toNatClampNeg)).toNatClampNeg)
set_option maxRecDepth 20000 in
set_option maxHeartbeats 4000000 in
theorem qG_priceNow_ok {S : zSc} {M : zM} {p_shop : Int32} {p_thing : Int32} {r : Int32} (h : qG_priceNow M p_shop p_thing = some r) : zF S 17 (0, [(0, .ref 63), (1, .int p_shop), (2, .int p_thing)], [], zh, M) (some (.int r)) (M) := by
  unfold qG_priceNow at h
  obtain ⟨g1, h⟩ := zq_some h
  obtain ⟨g2, h⟩ := zq_some h
  refine zF_go (n := 15) (ps := [vp_in ((p_shop * 4) + p_thing) 8, vp_in ((p_thing * 3) + (M 68 ((p_shop * 4) + p_thing).toNatClampNeg)) 12]) (s' := (19, [(0, .ref 63), (1, .int p_shop), (2, .int p_thing)], [.int (M 65 ((p_thing * 3) + (M 68 ((p_shop * 4) + p_thing).toNatClampNeg)).toNatClampNeg)], zh, M)) rfl ⟨g1, g2, trivial⟩ ?_
  cases h
  exact zF_ret rfl trivial
noncomputable def qW_placeOf_L43 (p_sort : Int32) (rec6 : (Int32 × Int32 × Int32 × Int32 × zM) → Option (Int32 × zM)) (v : Int32 × Int32 × Int32 × Int32 × zM) : Option (Int32 × zM) := match v with
  | (v2_1, v3_2, v4_3, v6_4, M5) =>
    if v6_4 < (M5 63 0) then
      (zq (vp_in v6_4 8) <| zq (vp_in (((((p_sort * 2) * 4) + v6_4) * 3) + (M5 68 v6_4.toNatClampNeg)) 120) <| zq (vp_in (4 + v6_4) 8) <| zq (vp_in ((((((p_sort * 2) * 4) + 4) + v6_4) * 3) + (M5 68 (4 + v6_4).toNatClampNeg)) 120) <| zq (vp_in v6_4 4) <| zq (vp_in v6_4 4) <| if ((zw M5 73 v6_4.toNatClampNeg (if (M5 71 (((((p_sort * 2) * 4) + v6_4) * 3) + (M5 68 v6_4.toNatClampNeg)).toNatClampNeg) < (M5 71 ((((((p_sort * 2) * 4) + 4) + v6_4) * 3) + (M5 68 (4 + v6_4).toNatClampNeg)).toNatClampNeg) then 1 else 0)) 73 v6_4.toNatClampNeg) = 1 then
        (rec6 ((v2_1 + (M5 71 (((((p_sort * 2) * 4) + v6_4) * 3) + (M5 68 v6_4.toNatClampNeg)).toNatClampNeg)), (v3_2 + (M5 71 ((((((p_sort * 2) * 4) + 4) + v6_4) * 3) + (M5 68 (4 + v6_4).toNatClampNeg)).toNatClampNeg)), (v4_3 + (M5 71 ((((((p_sort * 2) * 4) + 4) + v6_4) * 3) + (M5 68 (4 + v6_4).toNatClampNeg)).toNatClampNeg)), (v6_4 + 1), (zw M5 73 v6_4.toNatClampNeg (if (M5 71 (((((p_sort * 2) * 4) + v6_4) * 3) + (M5 68 v6_4.toNatClampNeg)).toNatClampNeg) < (M5 71 ((((((p_sort * 2) * 4) + 4) + v6_4) * 3) + (M5 68 (4 + v6_4).toNatClampNeg)).toNatClampNeg) then 1 else 0))))
      else
        (rec6 ((v2_1 + (M5 71 (((((p_sort * 2) * 4) + v6_4) * 3) + (M5 68 v6_4.toNatClampNeg)).toNatClampNeg)), (v3_2 + (M5 71 ((((((p_sort * 2) * 4) + 4) + v6_4) * 3) + (M5 68 (4 + v6_4).toNatClampNeg)).toNatClampNeg)), (v4_3 + (M5 71 (((((p_sort * 2) * 4) + v6_4) * 3) + (M5 68 v6_4.toNatClampNeg)).toNatClampNeg)), (v6_4 + 1), (zw M5 73 v6_4.toNatClampNeg (if (M5 71 (((((p_sort * 2) * 4) + v6_4) * 3) + (M5 68 v6_4.toNatClampNeg)).toNatClampNeg) < (M5 71 ((((((p_sort * 2) * 4) + 4) + v6_4) * 3) + (M5 68 (4 + v6_4).toNatClampNeg)).toNatClampNeg) then 1 else 0)))))
    else
      (zq (vp_in p_sort 5) <| zlj (fun (_ : Unit) =>
        some ((if (if (0 : Int32) < v2_1 then v2_1 else 0) < v3_2 then 2 else (if (0 : Int32) < v2_1 then 1 else 0)), M5)) fun k11 =>
      if (M5 13 p_sort.toNatClampNeg) = 1 then
        (if (if (if (0 : Int32) < v2_1 then v2_1 else 0) < v3_2 then v3_2 else (if (0 : Int32) < v2_1 then v2_1 else 0)) < v4_3 then
          (some (3, M5))
        else
          (k11 ()))
      else
        (k11 ()))
noncomputable def qW_placeOf (M : zM) (p_sort : Int32) : Option (Int32 × zM) :=
  zq (vp_in (p_sort * 2) 10) <| zq (vp_in ((p_sort * 2) + 1) 10) <| zlp (qW_placeOf_L43 p_sort) zfu ((-(M 12 (p_sort * 2).toNatClampNeg)), (-(M 12 ((p_sort * 2) + 1).toNatClampNeg)), ((-(M 12 (p_sort * 2).toNatClampNeg)) + (-(M 12 ((p_sort * 2) + 1).toNatClampNeg))), 0, M)
set_option maxRecDepth 20000 in
set_option maxHeartbeats 4000000 in
theorem qW_placeOf_ok {S : zSc} {M : zM} {p_sort : Int32} {r : Int32 × zM} (h : qW_placeOf M p_sort = some r) : zF S 73 (0, [(0, .ref 70), (1, .int p_sort)], [], zh, M) (some (.int r.1)) (r.2) := by
  unfold qW_placeOf at h
  obtain ⟨g13, h⟩ := zq_some h
  obtain ⟨g14, h⟩ := zq_some h
  refine zF_go (n := 32) (ps := [vp_in (p_sort * 2) 10, vp_in ((p_sort * 2) + 1) 10]) (s' := (43, [(6, .int 0), (5, .int ((p_sort * 2) * 4)), (4, .int ((-(M 12 (p_sort * 2).toNatClampNeg)) + (-(M 12 ((p_sort * 2) + 1).toNatClampNeg)))), (3, .int (-(M 12 ((p_sort * 2) + 1).toNatClampNeg))), (2, .int (-(M 12 (p_sort * 2).toNatClampNeg))), (0, .ref 70), (1, .int p_sort)], [], zh, M)) rfl ⟨g13, g14, trivial⟩ ?_
  refine zF_same (s' := (43, [(0, .ref 70), (1, .int p_sort), (2, .int (-(M 12 (p_sort * 2).toNatClampNeg))), (3, .int (-(M 12 ((p_sort * 2) + 1).toNatClampNeg))), (4, .int ((-(M 12 (p_sort * 2).toNatClampNeg)) + (-(M 12 ((p_sort * 2) + 1).toNatClampNeg)))), (5, .int ((p_sort * 2) * 4)), (6, .int 0)], [], zh, M)) rfl ?_
  refine zlp_ind (P := fun (v : Int32 × Int32 × Int32 × Int32 × zM) r => zF S 73 (43, [(0, .ref 70), (1, .int p_sort), (2, .int v.1), (3, .int v.2.1), (4, .int v.2.2.1), (5, .int ((p_sort * 2) * 4)), (6, .int v.2.2.2.1)], [], zh, v.2.2.2.2) (some (.int r.1)) (r.2)) ?_ _ _ _ h
  intro rec6 hrec6 v r h
  obtain ⟨v2_1, v3_2, v4_3, v6_4, M5⟩ := v
  unfold qW_placeOf_L43 at h
  dsimp only at h
  show zF S 73 (43, [(0, .ref 70), (1, .int p_sort), (2, .int v2_1), (3, .int v3_2), (4, .int v4_3), (5, .int ((p_sort * 2) * 4)), (6, .int v6_4)], [], zh, M5) _ _
  refine zF_go (n := 4) (ps := []) (s' := (52, [(0, .ref 70), (1, .int p_sort), (2, .int v2_1), (3, .int v3_2), (4, .int v4_3), (5, .int ((p_sort * 2) * 4)), (6, .int v6_4)], [.int (M5 63 0), .int v6_4], zh, M5)) rfl trivial ?_
  refine zF_ge (t := 167) (u := (55, [(0, .ref 70), (1, .int p_sort), (2, .int v2_1), (3, .int v3_2), (4, .int v4_3), (5, .int ((p_sort * 2) * 4)), (6, .int v6_4)], [], zh, M5)) rfl (fun c15 => ?_) (fun c15 => ?_)
  · rw [if_neg c15] at h
    refine zF_go (n := 1) (ps := []) (s' := (168, [(0, .ref 70), (1, .int p_sort), (2, .int v2_1), (3, .int v3_2), (4, .int v4_3), (5, .int ((p_sort * 2) * 4)), (6, .int v6_4)], [.int v2_1], zh, M5)) rfl trivial ?_
    have hk16 : zF S 73 (176, [(0, .ref 70), (1, .int p_sort), (2, .int v2_1), (3, .int v3_2), (4, .int v4_3)], [.int (if (0 : Int32) < v2_1 then 1 else 0)], zh, M5) (some (.int r.1)) (r.2) := by
      refine zF_go (n := 2) (ps := []) (s' := (179, [(6, .int (if (0 : Int32) < v2_1 then 1 else 0)), (0, .ref 70), (1, .int p_sort), (2, .int v2_1), (3, .int v3_2), (4, .int v4_3)], [.int v2_1], zh, M5)) rfl trivial ?_
      have hk17 : zF S 73 (187, [(0, .ref 70), (1, .int p_sort), (3, .int v3_2), (4, .int v4_3), (6, .int (if (0 : Int32) < v2_1 then 1 else 0))], [.int (if (0 : Int32) < v2_1 then v2_1 else 0)], zh, M5) (some (.int r.1)) (r.2) := by
        refine zF_go (n := 3) (ps := []) (s' := (192, [(7, .int (if (0 : Int32) < v2_1 then v2_1 else 0)), (0, .ref 70), (1, .int p_sort), (3, .int v3_2), (4, .int v4_3), (6, .int (if (0 : Int32) < v2_1 then 1 else 0))], [.int (if (0 : Int32) < v2_1 then v2_1 else 0), .int v3_2], zh, M5)) rfl trivial ?_
        have hk18 : zF S 73 (201, [(0, .ref 70), (1, .int p_sort), (4, .int v4_3), (6, .int (if (if (0 : Int32) < v2_1 then v2_1 else 0) < v3_2 then 2 else (if (0 : Int32) < v2_1 then 1 else 0))), (7, .int (if (if (0 : Int32) < v2_1 then v2_1 else 0) < v3_2 then v3_2 else (if (0 : Int32) < v2_1 then v2_1 else 0)))], [], zh, M5) (some (.int r.1)) (r.2) := by
          obtain ⟨g19, h⟩ := zq_some h
          refine zF_go (n := 6) (ps := [vp_in p_sort 5]) (s' := (211, [(0, .ref 70), (1, .int p_sort), (4, .int v4_3), (6, .int (if (if (0 : Int32) < v2_1 then v2_1 else 0) < v3_2 then 2 else (if (0 : Int32) < v2_1 then 1 else 0))), (7, .int (if (if (0 : Int32) < v2_1 then v2_1 else 0) < v3_2 then v3_2 else (if (0 : Int32) < v2_1 then v2_1 else 0)))], [.int 1, .int (M5 13 p_sort.toNatClampNeg)], zh, M5)) rfl ⟨g19, trivial⟩ ?_
          refine zlj_e h (fun k => ∀ (_ : Unit) r, k () = some r → zF S 73 (225, [(6, .int (if (if (0 : Int32) < v2_1 then v2_1 else 0) < v3_2 then 2 else (if (0 : Int32) < v2_1 then 1 else 0)))], [], zh, M5) (some (.int r.1)) (r.2)) ?_ ?_
          · intro _ r h
            try dsimp only at h
            refine zF_go (n := 1) (ps := []) (s' := (227, [(6, .int (if (if (0 : Int32) < v2_1 then v2_1 else 0) < v3_2 then 2 else (if (0 : Int32) < v2_1 then 1 else 0)))], [.int (if (if (0 : Int32) < v2_1 then v2_1 else 0) < v3_2 then 2 else (if (0 : Int32) < v2_1 then 1 else 0))], zh, M5)) rfl trivial ?_
            cases h
            exact zF_ret rfl trivial
          · intro k11 hk11 h
            try dsimp only at h
            refine zF_ne (t := 225) (u := (214, [(0, .ref 70), (1, .int p_sort), (4, .int v4_3), (6, .int (if (if (0 : Int32) < v2_1 then v2_1 else 0) < v3_2 then 2 else (if (0 : Int32) < v2_1 then 1 else 0))), (7, .int (if (if (0 : Int32) < v2_1 then v2_1 else 0) < v3_2 then v3_2 else (if (0 : Int32) < v2_1 then v2_1 else 0)))], [], zh, M5)) rfl (fun c20 => ?_) (fun c20 => ?_)
            · rw [if_neg c20] at h
              exact zF_as (hk11 () _ h) rfl
            · rw [if_pos c20] at h
              refine zF_go (n := 2) (ps := []) (s' := (218, [(0, .ref 70), (1, .int p_sort), (4, .int v4_3), (6, .int (if (if (0 : Int32) < v2_1 then v2_1 else 0) < v3_2 then 2 else (if (0 : Int32) < v2_1 then 1 else 0))), (7, .int (if (if (0 : Int32) < v2_1 then v2_1 else 0) < v3_2 then v3_2 else (if (0 : Int32) < v2_1 then v2_1 else 0)))], [.int (if (if (0 : Int32) < v2_1 then v2_1 else 0) < v3_2 then v3_2 else (if (0 : Int32) < v2_1 then v2_1 else 0)), .int v4_3], zh, M5)) rfl trivial ?_
              refine zF_le (t := 225) (u := (221, [(0, .ref 70), (1, .int p_sort), (4, .int v4_3), (6, .int (if (if (0 : Int32) < v2_1 then v2_1 else 0) < v3_2 then 2 else (if (0 : Int32) < v2_1 then 1 else 0))), (7, .int (if (if (0 : Int32) < v2_1 then v2_1 else 0) < v3_2 then v3_2 else (if (0 : Int32) < v2_1 then v2_1 else 0)))], [], zh, M5)) rfl (fun c21 => ?_) (fun c21 => ?_)
              · rw [if_neg c21] at h
                exact zF_as (hk11 () _ h) rfl
              · rw [if_pos c21] at h
                refine zF_go (n := 2) (ps := []) (s' := (227, [(0, .ref 70), (1, .int p_sort), (4, .int v4_3), (6, .int (if (if (0 : Int32) < v2_1 then v2_1 else 0) < v3_2 then 2 else (if (0 : Int32) < v2_1 then 1 else 0))), (7, .int (if (if (0 : Int32) < v2_1 then v2_1 else 0) < v3_2 then v3_2 else (if (0 : Int32) < v2_1 then v2_1 else 0)))], [.int 3], zh, M5)) rfl trivial ?_
                cases h
                exact zF_ret rfl trivial
        refine zF_le (t := 201) (u := (195, [(7, .int (if (0 : Int32) < v2_1 then v2_1 else 0)), (0, .ref 70), (1, .int p_sort), (3, .int v3_2), (4, .int v4_3), (6, .int (if (0 : Int32) < v2_1 then 1 else 0))], [], zh, M5)) rfl (fun c22 => ?_) (fun c22 => ?_)
        · skip
          simp only [if_neg c22] at hk18
          try simp only [if_neg c22]
          exact zF_as hk18 rfl
        · skip
          refine zF_go (n := 4) (ps := []) (s' := (201, [(7, .int v3_2), (6, .int 2), (0, .ref 70), (1, .int p_sort), (3, .int v3_2), (4, .int v4_3)], [], zh, M5)) rfl trivial ?_
          simp only [if_pos c22] at hk18
          try simp only [if_pos c22]
          exact zF_as hk18 rfl
      refine zF_le (t := 186) (u := (182, [(6, .int (if (0 : Int32) < v2_1 then 1 else 0)), (0, .ref 70), (1, .int p_sort), (2, .int v2_1), (3, .int v3_2), (4, .int v4_3)], [], zh, M5)) rfl (fun c23 => ?_) (fun c23 => ?_)
      · skip
        refine zF_go (n := 1) (ps := []) (s' := (187, [(6, .int (if (0 : Int32) < v2_1 then 1 else 0)), (0, .ref 70), (1, .int p_sort), (2, .int v2_1), (3, .int v3_2), (4, .int v4_3)], [.int 0], zh, M5)) rfl trivial ?_
        simp only [if_neg c23] at hk17
        try simp only [if_neg c23]
        exact zF_as hk17 rfl
      · skip
        refine zF_go (n := 2) (ps := []) (s' := (187, [(6, .int (if (0 : Int32) < v2_1 then 1 else 0)), (0, .ref 70), (1, .int p_sort), (2, .int v2_1), (3, .int v3_2), (4, .int v4_3)], [.int v2_1], zh, M5)) rfl trivial ?_
        simp only [if_pos c23] at hk17
        try simp only [if_pos c23]
        exact zF_as hk17 rfl
    refine zF_le (t := 175) (u := (171, [(0, .ref 70), (1, .int p_sort), (2, .int v2_1), (3, .int v3_2), (4, .int v4_3), (5, .int ((p_sort * 2) * 4)), (6, .int v6_4)], [], zh, M5)) rfl (fun c24 => ?_) (fun c24 => ?_)
    · skip
      refine zF_go (n := 1) (ps := []) (s' := (176, [(0, .ref 70), (1, .int p_sort), (2, .int v2_1), (3, .int v3_2), (4, .int v4_3), (5, .int ((p_sort * 2) * 4)), (6, .int v6_4)], [.int 0], zh, M5)) rfl trivial ?_
      simp only [if_neg c24] at hk16
      try simp only [if_neg c24]
      exact zF_as hk16 rfl
    · skip
      refine zF_go (n := 2) (ps := []) (s' := (176, [(0, .ref 70), (1, .int p_sort), (2, .int v2_1), (3, .int v3_2), (4, .int v4_3), (5, .int ((p_sort * 2) * 4)), (6, .int v6_4)], [.int 1], zh, M5)) rfl trivial ?_
      simp only [if_pos c24] at hk16
      try simp only [if_pos c24]
      exact zF_as hk16 rfl
  · rw [if_pos c15] at h
    obtain ⟨g25, h⟩ := zq_some h
    obtain ⟨g26, h⟩ := zq_some h
    obtain ⟨g27, h⟩ := zq_some h
    obtain ⟨g28, h⟩ := zq_some h
    refine zF_go (n := 39) (ps := [vp_in v6_4 8, vp_in (((((p_sort * 2) * 4) + v6_4) * 3) + (M5 68 v6_4.toNatClampNeg)) 120, vp_in (4 + v6_4) 8, vp_in ((((((p_sort * 2) * 4) + 4) + v6_4) * 3) + (M5 68 (4 + v6_4).toNatClampNeg)) 120]) (s' := (119, [(8, .int (M5 71 ((((((p_sort * 2) * 4) + 4) + v6_4) * 3) + (M5 68 (4 + v6_4).toNatClampNeg)).toNatClampNeg)), (7, .int (M5 71 (((((p_sort * 2) * 4) + v6_4) * 3) + (M5 68 v6_4.toNatClampNeg)).toNatClampNeg)), (0, .ref 70), (1, .int p_sort), (2, .int v2_1), (3, .int v3_2), (4, .int v4_3), (5, .int ((p_sort * 2) * 4)), (6, .int v6_4)], [.int (M5 71 (((((p_sort * 2) * 4) + v6_4) * 3) + (M5 68 v6_4.toNatClampNeg)).toNatClampNeg), .int (M5 71 ((((((p_sort * 2) * 4) + 4) + v6_4) * 3) + (M5 68 (4 + v6_4).toNatClampNeg)).toNatClampNeg), .int v6_4, .ref 73], zh, M5)) rfl ⟨g25, g26, g27, g28, trivial⟩ ?_
    have hk29 : zF S 73 (127, [(0, .ref 70), (1, .int p_sort), (2, .int v2_1), (3, .int v3_2), (4, .int v4_3), (5, .int ((p_sort * 2) * 4)), (6, .int v6_4), (7, .int (M5 71 (((((p_sort * 2) * 4) + v6_4) * 3) + (M5 68 v6_4.toNatClampNeg)).toNatClampNeg)), (8, .int (M5 71 ((((((p_sort * 2) * 4) + 4) + v6_4) * 3) + (M5 68 (4 + v6_4).toNatClampNeg)).toNatClampNeg))], [.int (if (M5 71 (((((p_sort * 2) * 4) + v6_4) * 3) + (M5 68 v6_4.toNatClampNeg)).toNatClampNeg) < (M5 71 ((((((p_sort * 2) * 4) + 4) + v6_4) * 3) + (M5 68 (4 + v6_4).toNatClampNeg)).toNatClampNeg) then 1 else 0), .int v6_4, .ref 73], zh, M5) (some (.int r.1)) (r.2) := by
      obtain ⟨g30, h⟩ := zq_some h
      obtain ⟨g31, h⟩ := zq_some h
      refine zF_go (n := 15) (ps := [vp_in v6_4 4, vp_in v6_4 4]) (s' := (148, [(3, .int (v3_2 + (M5 71 ((((((p_sort * 2) * 4) + 4) + v6_4) * 3) + (M5 68 (4 + v6_4).toNatClampNeg)).toNatClampNeg))), (2, .int (v2_1 + (M5 71 (((((p_sort * 2) * 4) + v6_4) * 3) + (M5 68 v6_4.toNatClampNeg)).toNatClampNeg))), (0, .ref 70), (1, .int p_sort), (4, .int v4_3), (5, .int ((p_sort * 2) * 4)), (6, .int v6_4), (7, .int (M5 71 (((((p_sort * 2) * 4) + v6_4) * 3) + (M5 68 v6_4.toNatClampNeg)).toNatClampNeg)), (8, .int (M5 71 ((((((p_sort * 2) * 4) + 4) + v6_4) * 3) + (M5 68 (4 + v6_4).toNatClampNeg)).toNatClampNeg))], [.int 1, .int ((zw M5 73 v6_4.toNatClampNeg (if (M5 71 (((((p_sort * 2) * 4) + v6_4) * 3) + (M5 68 v6_4.toNatClampNeg)).toNatClampNeg) < (M5 71 ((((((p_sort * 2) * 4) + 4) + v6_4) * 3) + (M5 68 (4 + v6_4).toNatClampNeg)).toNatClampNeg) then 1 else 0)) 73 v6_4.toNatClampNeg), .int v4_3], zh, (zw M5 73 v6_4.toNatClampNeg (if (M5 71 (((((p_sort * 2) * 4) + v6_4) * 3) + (M5 68 v6_4.toNatClampNeg)).toNatClampNeg) < (M5 71 ((((((p_sort * 2) * 4) + 4) + v6_4) * 3) + (M5 68 (4 + v6_4).toNatClampNeg)).toNatClampNeg) then 1 else 0)))) rfl ⟨g30, g31, trivial⟩ ?_
      refine zF_ne (t := 156) (u := (151, [(3, .int (v3_2 + (M5 71 ((((((p_sort * 2) * 4) + 4) + v6_4) * 3) + (M5 68 (4 + v6_4).toNatClampNeg)).toNatClampNeg))), (2, .int (v2_1 + (M5 71 (((((p_sort * 2) * 4) + v6_4) * 3) + (M5 68 v6_4.toNatClampNeg)).toNatClampNeg))), (0, .ref 70), (1, .int p_sort), (4, .int v4_3), (5, .int ((p_sort * 2) * 4)), (6, .int v6_4), (7, .int (M5 71 (((((p_sort * 2) * 4) + v6_4) * 3) + (M5 68 v6_4.toNatClampNeg)).toNatClampNeg)), (8, .int (M5 71 ((((((p_sort * 2) * 4) + 4) + v6_4) * 3) + (M5 68 (4 + v6_4).toNatClampNeg)).toNatClampNeg))], [.int v4_3], zh, (zw M5 73 v6_4.toNatClampNeg (if (M5 71 (((((p_sort * 2) * 4) + v6_4) * 3) + (M5 68 v6_4.toNatClampNeg)).toNatClampNeg) < (M5 71 ((((((p_sort * 2) * 4) + 4) + v6_4) * 3) + (M5 68 (4 + v6_4).toNatClampNeg)).toNatClampNeg) then 1 else 0)))) rfl (fun c32 => ?_) (fun c32 => ?_)
      · rw [if_neg c32] at h
        refine zF_go (n := 1) (ps := []) (s' := (158, [(3, .int (v3_2 + (M5 71 ((((((p_sort * 2) * 4) + 4) + v6_4) * 3) + (M5 68 (4 + v6_4).toNatClampNeg)).toNatClampNeg))), (2, .int (v2_1 + (M5 71 (((((p_sort * 2) * 4) + v6_4) * 3) + (M5 68 v6_4.toNatClampNeg)).toNatClampNeg))), (0, .ref 70), (1, .int p_sort), (4, .int v4_3), (5, .int ((p_sort * 2) * 4)), (6, .int v6_4), (7, .int (M5 71 (((((p_sort * 2) * 4) + v6_4) * 3) + (M5 68 v6_4.toNatClampNeg)).toNatClampNeg)), (8, .int (M5 71 ((((((p_sort * 2) * 4) + 4) + v6_4) * 3) + (M5 68 (4 + v6_4).toNatClampNeg)).toNatClampNeg))], [.int (M5 71 (((((p_sort * 2) * 4) + v6_4) * 3) + (M5 68 v6_4.toNatClampNeg)).toNatClampNeg), .int v4_3], zh, (zw M5 73 v6_4.toNatClampNeg (if (M5 71 (((((p_sort * 2) * 4) + v6_4) * 3) + (M5 68 v6_4.toNatClampNeg)).toNatClampNeg) < (M5 71 ((((((p_sort * 2) * 4) + 4) + v6_4) * 3) + (M5 68 (4 + v6_4).toNatClampNeg)).toNatClampNeg) then 1 else 0)))) rfl trivial ?_
        refine zF_go (n := 4) (ps := []) (s' := (43, [(6, .int (v6_4 + 1)), (4, .int (v4_3 + (M5 71 (((((p_sort * 2) * 4) + v6_4) * 3) + (M5 68 v6_4.toNatClampNeg)).toNatClampNeg))), (0, .ref 70), (1, .int p_sort), (2, .int (v2_1 + (M5 71 (((((p_sort * 2) * 4) + v6_4) * 3) + (M5 68 v6_4.toNatClampNeg)).toNatClampNeg))), (3, .int (v3_2 + (M5 71 ((((((p_sort * 2) * 4) + 4) + v6_4) * 3) + (M5 68 (4 + v6_4).toNatClampNeg)).toNatClampNeg))), (5, .int ((p_sort * 2) * 4))], [], zh, (zw M5 73 v6_4.toNatClampNeg (if (M5 71 (((((p_sort * 2) * 4) + v6_4) * 3) + (M5 68 v6_4.toNatClampNeg)).toNatClampNeg) < (M5 71 ((((((p_sort * 2) * 4) + 4) + v6_4) * 3) + (M5 68 (4 + v6_4).toNatClampNeg)).toNatClampNeg) then 1 else 0)))) rfl trivial ?_
        exact zF_as (hrec6 _ _ h) rfl
      · rw [if_pos c32] at h
        refine zF_go (n := 2) (ps := []) (s' := (158, [(3, .int (v3_2 + (M5 71 ((((((p_sort * 2) * 4) + 4) + v6_4) * 3) + (M5 68 (4 + v6_4).toNatClampNeg)).toNatClampNeg))), (2, .int (v2_1 + (M5 71 (((((p_sort * 2) * 4) + v6_4) * 3) + (M5 68 v6_4.toNatClampNeg)).toNatClampNeg))), (0, .ref 70), (1, .int p_sort), (4, .int v4_3), (5, .int ((p_sort * 2) * 4)), (6, .int v6_4), (7, .int (M5 71 (((((p_sort * 2) * 4) + v6_4) * 3) + (M5 68 v6_4.toNatClampNeg)).toNatClampNeg)), (8, .int (M5 71 ((((((p_sort * 2) * 4) + 4) + v6_4) * 3) + (M5 68 (4 + v6_4).toNatClampNeg)).toNatClampNeg))], [.int (M5 71 ((((((p_sort * 2) * 4) + 4) + v6_4) * 3) + (M5 68 (4 + v6_4).toNatClampNeg)).toNatClampNeg), .int v4_3], zh, (zw M5 73 v6_4.toNatClampNeg (if (M5 71 (((((p_sort * 2) * 4) + v6_4) * 3) + (M5 68 v6_4.toNatClampNeg)).toNatClampNeg) < (M5 71 ((((((p_sort * 2) * 4) + 4) + v6_4) * 3) + (M5 68 (4 + v6_4).toNatClampNeg)).toNatClampNeg) then 1 else 0)))) rfl trivial ?_
        refine zF_go (n := 4) (ps := []) (s' := (43, [(6, .int (v6_4 + 1)), (4, .int (v4_3 + (M5 71 ((((((p_sort * 2) * 4) + 4) + v6_4) * 3) + (M5 68 (4 + v6_4).toNatClampNeg)).toNatClampNeg))), (0, .ref 70), (1, .int p_sort), (2, .int (v2_1 + (M5 71 (((((p_sort * 2) * 4) + v6_4) * 3) + (M5 68 v6_4.toNatClampNeg)).toNatClampNeg))), (3, .int (v3_2 + (M5 71 ((((((p_sort * 2) * 4) + 4) + v6_4) * 3) + (M5 68 (4 + v6_4).toNatClampNeg)).toNatClampNeg))), (5, .int ((p_sort * 2) * 4))], [], zh, (zw M5 73 v6_4.toNatClampNeg (if (M5 71 (((((p_sort * 2) * 4) + v6_4) * 3) + (M5 68 v6_4.toNatClampNeg)).toNatClampNeg) < (M5 71 ((((((p_sort * 2) * 4) + 4) + v6_4) * 3) + (M5 68 (4 + v6_4).toNatClampNeg)).toNatClampNeg) then 1 else 0)))) rfl trivial ?_
        exact zF_as (hrec6 _ _ h) rfl
    refine zF_le (t := 126) (u := (122, [(8, .int (M5 71 ((((((p_sort * 2) * 4) + 4) + v6_4) * 3) + (M5 68 (4 + v6_4).toNatClampNeg)).toNatClampNeg)), (7, .int (M5 71 (((((p_sort * 2) * 4) + v6_4) * 3) + (M5 68 v6_4.toNatClampNeg)).toNatClampNeg)), (0, .ref 70), (1, .int p_sort), (2, .int v2_1), (3, .int v3_2), (4, .int v4_3), (5, .int ((p_sort * 2) * 4)), (6, .int v6_4)], [.int v6_4, .ref 73], zh, M5)) rfl (fun c33 => ?_) (fun c33 => ?_)
    · skip
      refine zF_go (n := 1) (ps := []) (s' := (127, [(8, .int (M5 71 ((((((p_sort * 2) * 4) + 4) + v6_4) * 3) + (M5 68 (4 + v6_4).toNatClampNeg)).toNatClampNeg)), (7, .int (M5 71 (((((p_sort * 2) * 4) + v6_4) * 3) + (M5 68 v6_4.toNatClampNeg)).toNatClampNeg)), (0, .ref 70), (1, .int p_sort), (2, .int v2_1), (3, .int v3_2), (4, .int v4_3), (5, .int ((p_sort * 2) * 4)), (6, .int v6_4)], [.int 0, .int v6_4, .ref 73], zh, M5)) rfl trivial ?_
      simp only [if_neg c33] at hk29
      try simp only [if_neg c33]
      exact zF_as hk29 rfl
    · skip
      refine zF_go (n := 2) (ps := []) (s' := (127, [(8, .int (M5 71 ((((((p_sort * 2) * 4) + 4) + v6_4) * 3) + (M5 68 (4 + v6_4).toNatClampNeg)).toNatClampNeg)), (7, .int (M5 71 (((((p_sort * 2) * 4) + v6_4) * 3) + (M5 68 v6_4.toNatClampNeg)).toNatClampNeg)), (0, .ref 70), (1, .int p_sort), (2, .int v2_1), (3, .int v3_2), (4, .int v4_3), (5, .int ((p_sort * 2) * 4)), (6, .int v6_4)], [.int 1, .int v6_4, .ref 73], zh, M5)) rfl trivial ?_
      simp only [if_pos c33] at hk29
      try simp only [if_pos c33]
      exact zF_as hk29 rfl
noncomputable def qW_visits (p_place : Int32) (p_shop : Int32) : Option (Int32) :=
  if ((p_place >>> (p_shop &&& 31)) &&& 1) = 1 then
    (some 1)
  else
    (some 0)
set_option maxRecDepth 20000 in
set_option maxHeartbeats 4000000 in
theorem qW_visits_ok {S : zSc} {M : zM} {p_place : Int32} {p_shop : Int32} {r : Int32} (h : qW_visits p_place p_shop = some r) : zF S 74 (0, [(0, .int p_place), (1, .int p_shop)], [], zh, M) (some (.int r)) (M) := by
  unfold qW_visits at h
  refine zF_go (n := 6) (ps := []) (s' := (6, [(0, .int p_place), (1, .int p_shop)], [.int 1, .int ((p_place >>> (p_shop &&& 31)) &&& 1)], zh, M)) rfl trivial ?_
  refine zF_ne (t := 13) (u := (9, [(0, .int p_place), (1, .int p_shop)], [], zh, M)) rfl (fun c1 => ?_) (fun c1 => ?_)
  · rw [if_neg c1] at h
    refine zF_go (n := 1) (ps := []) (s' := (14, [(0, .int p_place), (1, .int p_shop)], [.int 0], zh, M)) rfl trivial ?_
    cases h
    exact zF_ret rfl ⟨(Or.inl rfl), trivial⟩
  · rw [if_pos c1] at h
    refine zF_go (n := 2) (ps := []) (s' := (14, [(0, .int p_place), (1, .int p_shop)], [.int 1], zh, M)) rfl trivial ?_
    cases h
    exact zF_ret rfl ⟨(Or.inr rfl), trivial⟩
noncomputable def qW_send_L23 (x6 : Int32) (x1 : Int32) (v3_3 : Int32) (p_sort : Int32) (rec5 : (Int32 × zM) → Option (Int32 × zM)) (rec9 : (Int32 × zM) → Option (Int32 × zM)) (v : Int32 × zM) : Option (Int32 × zM) := match v with
  | (v5_7, M8) =>
    if v5_7 < (M8 63 0) then
      (zb (zlj (fun (_ : Unit) =>
          some 0) fun k15 =>
        if x6 = 0 then
          (k15 ())
        else
          (zlj (fun (_ : Unit) =>
            some 1) fun k16 =>
          if x1 = 3 then
            (zq (vp_in v5_7 4) <| if (M8 73 v5_7.toNatClampNeg) = v3_3 then
              (k16 ())
            else
              (k15 ()))
          else
            (k16 ()))) fun (w13 : Int32) =>
      if w13 = 0 then
        (zq (vp_in ((v3_3 * 4) + v5_7) 8) <| rec9 ((v5_7 + 1), (zw M8 74 ((v3_3 * 4) + v5_7).toNatClampNeg 0)))
      else
        (zb (qW_cell M8 p_sort v3_3 v5_7) fun x17 =>
        zq (vp_in x17 120) <| zq (vp_in ((v3_3 * 4) + v5_7) 8) <| rec9 ((v5_7 + 1), (zw M8 74 ((v3_3 * 4) + v5_7).toNatClampNeg (M8 72 x17.toNatClampNeg)))))
    else
      (rec5 ((v3_3 + 1), M8))
noncomputable def qW_send_L8 (x1 : Int32) (p_sort : Int32) (rec5 : (Int32 × zM) → Option (Int32 × zM)) (v : Int32 × zM) : Option (Int32 × zM) := match v with
  | (v3_3, M4) =>
    if v3_3 < 2 then
      (zb (qW_visits x1 v3_3) fun x6 =>
      zlp (qW_send_L23 x6 x1 v3_3 p_sort rec5) zfu (0, M4))
    else
      (some (x1, M4))
noncomputable def qW_send (M : zM) (p_sort : Int32) : Option (Int32 × zM) :=
  zb2 (qW_placeOf M p_sort) fun x1 M2 =>
  zlp (qW_send_L8 x1 p_sort) zfu (0, M2)
set_option maxRecDepth 20000 in
set_option maxHeartbeats 4000000 in
theorem qW_send_ok {S : zSc} {M : zM} {p_sort : Int32} {r : Int32 × zM} (h : qW_send M p_sort = some r) : zF S 75 (0, [(0, .ref 70), (1, .int p_sort)], [], zh, M) (some (.int r.1)) (r.2) := by
  unfold qW_send at h
  refine zF_go (n := 2) (ps := []) (s' := (2, [(0, .ref 70), (1, .int p_sort)], [.int p_sort, .ref 70], zh, M)) rfl trivial ?_
  obtain ⟨x1, M2, e18, h⟩ := zb2_some h
  refine zF_call (y' := 73) (as := [.ref 70, .int p_sort]) (u := (5, [(0, .ref 70), (1, .int p_sort)], [], zh, M)) rfl ⟨rfl, rfl⟩ rfl (qW_placeOf_ok (S := S) (M := M) e18) ?_
  show zF S 75 (5, [(0, .ref 70), (1, .int p_sort)], [.int x1], zh, M2) _ _
  refine zF_go (n := 3) (ps := []) (s' := (8, [(3, .int 0), (2, .int x1), (0, .ref 70), (1, .int p_sort)], [], zh, M2)) rfl trivial ?_
  refine zF_same (s' := (8, [(0, .ref 70), (1, .int p_sort), (2, .int x1), (3, .int 0)], [], zh, M2)) rfl ?_
  refine zlp_ind (P := fun (v : Int32 × zM) r => zF S 75 (8, [(0, .ref 70), (1, .int p_sort), (2, .int x1), (3, .int v.1)], [], zh, v.2) (some (.int r.1)) (r.2)) ?_ _ _ _ h
  intro rec5 hrec5 v r h
  obtain ⟨v3_3, M4⟩ := v
  unfold qW_send_L8 at h
  dsimp only at h
  show zF S 75 (8, [(0, .ref 70), (1, .int p_sort), (2, .int x1), (3, .int v3_3)], [], zh, M4) _ _
  refine zF_go (n := 2) (ps := []) (s' := (10, [(0, .ref 70), (1, .int p_sort), (2, .int x1), (3, .int v3_3)], [.int 2, .int v3_3], zh, M4)) rfl trivial ?_
  refine zF_ge (t := 108) (u := (13, [(0, .ref 70), (1, .int p_sort), (2, .int x1), (3, .int v3_3)], [], zh, M4)) rfl (fun c19 => ?_) (fun c19 => ?_)
  · rw [if_neg c19] at h
    refine zF_go (n := 1) (ps := []) (s' := (109, [(0, .ref 70), (1, .int p_sort), (2, .int x1), (3, .int v3_3)], [.int x1], zh, M4)) rfl trivial ?_
    cases h
    exact zF_ret rfl trivial
  · rw [if_pos c19] at h
    refine zF_go (n := 2) (ps := []) (s' := (15, [(0, .ref 70), (1, .int p_sort), (2, .int x1), (3, .int v3_3)], [.int v3_3, .int x1], zh, M4)) rfl trivial ?_
    obtain ⟨x6, e20, h⟩ := zb_some h
    refine zF_call (y' := 74) (as := [.int x1, .int v3_3]) (u := (18, [(0, .ref 70), (1, .int p_sort), (2, .int x1), (3, .int v3_3)], [], zh, M4)) rfl ⟨rfl, rfl⟩ rfl (qW_visits_ok (S := S) (M := M4) e20) ?_
    show zF S 75 (18, [(0, .ref 70), (1, .int p_sort), (2, .int x1), (3, .int v3_3)], [.int x6], zh, M4) _ _
    refine zF_go (n := 3) (ps := []) (s' := (23, [(5, .int 0), (4, .int x6), (0, .ref 70), (1, .int p_sort), (2, .int x1), (3, .int v3_3)], [], zh, M4)) rfl trivial ?_
    refine zF_same (s' := (23, [(0, .ref 70), (1, .int p_sort), (2, .int x1), (3, .int v3_3), (4, .int x6), (5, .int 0)], [], zh, M4)) rfl ?_
    refine zlp_ind (P := fun (v : Int32 × zM) r => zF S 75 (23, [(0, .ref 70), (1, .int p_sort), (2, .int x1), (3, .int v3_3), (4, .int x6), (5, .int v.1)], [], zh, v.2) (some (.int r.1)) (r.2)) ?_ _ _ _ h
    intro rec9 hrec9 v r h
    obtain ⟨v5_7, M8⟩ := v
    unfold qW_send_L23 at h
    dsimp only at h
    show zF S 75 (23, [(0, .ref 70), (1, .int p_sort), (2, .int x1), (3, .int v3_3), (4, .int x6), (5, .int v5_7)], [], zh, M8) _ _
    refine zF_go (n := 4) (ps := []) (s' := (32, [(0, .ref 70), (1, .int p_sort), (2, .int x1), (3, .int v3_3), (4, .int x6), (5, .int v5_7)], [.int (M8 63 0), .int v5_7], zh, M8)) rfl trivial ?_
    refine zF_ge (t := 102) (u := (35, [(0, .ref 70), (1, .int p_sort), (2, .int x1), (3, .int v3_3), (4, .int x6), (5, .int v5_7)], [], zh, M8)) rfl (fun c21 => ?_) (fun c21 => ?_)
    · rw [if_neg c21] at h
      refine zF_go (n := 2) (ps := []) (s' := (8, [(3, .int (v3_3 + 1)), (0, .ref 70), (1, .int p_sort), (2, .int x1), (4, .int x6), (5, .int v5_7)], [], zh, M8)) rfl trivial ?_
      exact zF_as (hrec5 _ _ h) rfl
    · rw [if_pos c21] at h
      refine zF_go (n := 1) (ps := []) (s' := (37, [(0, .ref 70), (1, .int p_sort), (2, .int x1), (3, .int v3_3), (4, .int x6), (5, .int v5_7)], [.int x6], zh, M8)) rfl trivial ?_
      obtain ⟨w13, g22, h⟩ := zb_some h
      have hk23 : zF S 75 (61, [(0, .ref 70), (1, .int p_sort), (2, .int x1), (3, .int v3_3), (4, .int x6), (5, .int v5_7)], [.int w13], zh, M8) (some (.int r.1)) (r.2) := by
        refine zF_go (n := 9) (ps := []) (s' := (75, [(6, .int w13), (0, .ref 70), (1, .int p_sort), (2, .int x1), (3, .int v3_3), (4, .int x6), (5, .int v5_7)], [.int w13, .int ((v3_3 * 4) + v5_7), .ref 74], zh, M8)) rfl trivial ?_
        refine zF_eq (t := 94) (u := (78, [(6, .int w13), (0, .ref 70), (1, .int p_sort), (2, .int x1), (3, .int v3_3), (4, .int x6), (5, .int v5_7)], [.int ((v3_3 * 4) + v5_7), .ref 74], zh, M8)) rfl (fun c24 => ?_) (fun c24 => ?_)
        · rw [if_pos c24] at h
          refine zF_go (n := 1) (ps := []) (s' := (95, [(6, .int w13), (0, .ref 70), (1, .int p_sort), (2, .int x1), (3, .int v3_3), (4, .int x6), (5, .int v5_7)], [.int 0, .int ((v3_3 * 4) + v5_7), .ref 74], zh, M8)) rfl trivial ?_
          obtain ⟨g25, h⟩ := zq_some h
          refine zF_go (n := 3) (ps := [vp_in ((v3_3 * 4) + v5_7) 8]) (s' := (23, [(5, .int (v5_7 + 1)), (0, .ref 70), (1, .int p_sort), (2, .int x1), (3, .int v3_3), (4, .int x6)], [], zh, (zw M8 74 ((v3_3 * 4) + v5_7).toNatClampNeg 0))) rfl ⟨g25, trivial⟩ ?_
          exact zF_as (hrec9 _ _ h) rfl
        · rw [if_neg c24] at h
          refine zF_go (n := 6) (ps := []) (s' := (87, [(6, .int w13), (0, .ref 70), (1, .int p_sort), (2, .int x1), (3, .int v3_3), (4, .int x6), (5, .int v5_7)], [.int v5_7, .int v3_3, .int p_sort, .ref 70, .ref 72, .int ((v3_3 * 4) + v5_7), .ref 74], zh, M8)) rfl trivial ?_
          obtain ⟨x17, e26, h⟩ := zb_some h
          refine zF_call (y' := 72) (as := [.ref 70, .int p_sort, .int v3_3, .int v5_7]) (u := (90, [(6, .int w13), (0, .ref 70), (1, .int p_sort), (2, .int x1), (3, .int v3_3), (4, .int x6), (5, .int v5_7)], [.ref 72, .int ((v3_3 * 4) + v5_7), .ref 74], zh, M8)) rfl ⟨rfl, rfl⟩ rfl (qW_cell_ok (S := S) (M := M8) e26) ?_
          show zF S 75 (90, [(6, .int w13), (0, .ref 70), (1, .int p_sort), (2, .int x1), (3, .int v3_3), (4, .int x6), (5, .int v5_7)], [.int x17, .ref 72, .int ((v3_3 * 4) + v5_7), .ref 74], zh, M8) _ _
          obtain ⟨g27, h⟩ := zq_some h
          refine zF_go (n := 2) (ps := [vp_in x17 120]) (s' := (95, [(6, .int w13), (0, .ref 70), (1, .int p_sort), (2, .int x1), (3, .int v3_3), (4, .int x6), (5, .int v5_7)], [.int (M8 72 x17.toNatClampNeg), .int ((v3_3 * 4) + v5_7), .ref 74], zh, M8)) rfl ⟨g27, trivial⟩ ?_
          obtain ⟨g28, h⟩ := zq_some h
          refine zF_go (n := 3) (ps := [vp_in ((v3_3 * 4) + v5_7) 8]) (s' := (23, [(5, .int (v5_7 + 1)), (0, .ref 70), (1, .int p_sort), (2, .int x1), (3, .int v3_3), (4, .int x6)], [], zh, (zw M8 74 ((v3_3 * 4) + v5_7).toNatClampNeg (M8 72 x17.toNatClampNeg)))) rfl ⟨g28, trivial⟩ ?_
          exact zF_as (hrec9 _ _ h) rfl
      refine zlj_e g22 (fun k => ∀ (_ : Unit), k () = some w13 → zF S 75 (60, [(0, .ref 70), (1, .int p_sort), (2, .int x1), (3, .int v3_3), (4, .int x6), (5, .int v5_7)], [], zh, M8) (some (.int r.1)) (r.2)) ?_ ?_
      · intro _ g22
        try dsimp only at g22
        refine zF_go (n := 1) (ps := []) (s' := (61, [(0, .ref 70), (1, .int p_sort), (2, .int x1), (3, .int v3_3), (4, .int x6), (5, .int v5_7)], [.int 0], zh, M8)) rfl trivial ?_
        cases g22
        exact zF_as hk23 rfl
      · intro k15 hk15 g22
        try dsimp only at g22
        refine zF_eq (t := 60) (u := (40, [(0, .ref 70), (1, .int p_sort), (2, .int x1), (3, .int v3_3), (4, .int x6), (5, .int v5_7)], [], zh, M8)) rfl (fun c29 => ?_) (fun c29 => ?_)
        · rw [if_pos c29] at g22
          exact zF_as (hk15 () g22) rfl
        · rw [if_neg c29] at g22
          refine zF_go (n := 2) (ps := []) (s' := (42, [(0, .ref 70), (1, .int p_sort), (2, .int x1), (3, .int v3_3), (4, .int x6), (5, .int v5_7)], [.int 3, .int x1], zh, M8)) rfl trivial ?_
          refine zlj_e g22 (fun k => ∀ (_ : Unit), k () = some w13 → zF S 75 (56, [(0, .ref 70), (1, .int p_sort), (2, .int x1), (3, .int v3_3), (4, .int x6), (5, .int v5_7)], [], zh, M8) (some (.int r.1)) (r.2)) ?_ ?_
          · intro _ g22
            try dsimp only at g22
            refine zF_go (n := 2) (ps := []) (s' := (61, [(0, .ref 70), (1, .int p_sort), (2, .int x1), (3, .int v3_3), (4, .int x6), (5, .int v5_7)], [.int 1], zh, M8)) rfl trivial ?_
            cases g22
            exact zF_as hk23 rfl
          · intro k16 hk16 g22
            try dsimp only at g22
            refine zF_ne (t := 56) (u := (45, [(0, .ref 70), (1, .int p_sort), (2, .int x1), (3, .int v3_3), (4, .int x6), (5, .int v5_7)], [], zh, M8)) rfl (fun c30 => ?_) (fun c30 => ?_)
            · rw [if_neg c30] at g22
              exact zF_as (hk16 () g22) rfl
            · rw [if_pos c30] at g22
              obtain ⟨g31, g22⟩ := zq_some g22
              refine zF_go (n := 5) (ps := [vp_in v5_7 4]) (s' := (53, [(0, .ref 70), (1, .int p_sort), (2, .int x1), (3, .int v3_3), (4, .int x6), (5, .int v5_7)], [.int v3_3, .int (M8 73 v5_7.toNatClampNeg)], zh, M8)) rfl ⟨g31, trivial⟩ ?_
              refine zF_ne (t := 60) (u := (56, [(0, .ref 70), (1, .int p_sort), (2, .int x1), (3, .int v3_3), (4, .int x6), (5, .int v5_7)], [], zh, M8)) rfl (fun c32 => ?_) (fun c32 => ?_)
              · rw [if_neg c32] at g22
                exact zF_as (hk15 () g22) rfl
              · rw [if_pos c32] at g22
                exact zF_as (hk16 () g22) rfl
noncomputable def qG_rowOf_63_L4 (M : zM) (p_shop : Int32) (rec3 : (Int32 × Int32) → Option (Int32)) (v : Int32 × Int32) : Option (Int32) := match v with
  | (v2_1, v3_2) =>
    if v3_2 < (M 63 0) then
      (zq (vp_in v3_2 4) <| zq (vp_in ((p_shop * 4) + v3_2) 8) <| rec3 (((v2_1 * (M 64 v3_2.toNatClampNeg)) + (M 68 ((p_shop * 4) + v3_2).toNatClampNeg)), (v3_2 + 1)))
    else
      (some v2_1)
noncomputable def qG_rowOf_63 (M : zM) (p_shop : Int32) : Option (Int32) :=
  zlp (qG_rowOf_63_L4 M p_shop) zfu (0, 0)
set_option maxRecDepth 20000 in
set_option maxHeartbeats 4000000 in
theorem qG_rowOf_63_ok {S : zSc} {M : zM} {p_shop : Int32} {r : Int32} (h : qG_rowOf_63 M p_shop = some r) : zF S 20 (0, [(0, .ref 63), (1, .int p_shop)], [], zh, M) (some (.int r)) (M) := by
  unfold qG_rowOf_63 at h
  refine zF_go (n := 4) (ps := []) (s' := (4, [(3, .int 0), (2, .int 0), (0, .ref 63), (1, .int p_shop)], [], zh, M)) rfl trivial ?_
  refine zF_same (s' := (4, [(0, .ref 63), (1, .int p_shop), (2, .int 0), (3, .int 0)], [], zh, M)) rfl ?_
  refine zlp_ind (P := fun (v : Int32 × Int32) r => zF S 20 (4, [(0, .ref 63), (1, .int p_shop), (2, .int v.1), (3, .int v.2)], [], zh, M) (some (.int r)) (M)) ?_ _ _ _ h
  intro rec3 hrec3 v r h
  obtain ⟨v2_1, v3_2⟩ := v
  unfold qG_rowOf_63_L4 at h
  dsimp only at h
  show zF S 20 (4, [(0, .ref 63), (1, .int p_shop), (2, .int v2_1), (3, .int v3_2)], [], zh, M) _ _
  refine zF_go (n := 3) (ps := []) (s' := (9, [(0, .ref 63), (1, .int p_shop), (2, .int v2_1), (3, .int v3_2)], [.int (M 63 0), .int v3_2], zh, M)) rfl trivial ?_
  refine zF_ge (t := 38) (u := (12, [(0, .ref 63), (1, .int p_shop), (2, .int v2_1), (3, .int v3_2)], [], zh, M)) rfl (fun c4 => ?_) (fun c4 => ?_)
  · rw [if_neg c4] at h
    refine zF_go (n := 1) (ps := []) (s' := (39, [(0, .ref 63), (1, .int p_shop), (2, .int v2_1), (3, .int v3_2)], [.int v2_1], zh, M)) rfl trivial ?_
    cases h
    exact zF_ret rfl trivial
  · rw [if_pos c4] at h
    obtain ⟨g5, h⟩ := zq_some h
    obtain ⟨g6, h⟩ := zq_some h
    refine zF_go (n := 18) (ps := [vp_in v3_2 4, vp_in ((p_shop * 4) + v3_2) 8]) (s' := (4, [(3, .int (v3_2 + 1)), (2, .int ((v2_1 * (M 64 v3_2.toNatClampNeg)) + (M 68 ((p_shop * 4) + v3_2).toNatClampNeg))), (0, .ref 63), (1, .int p_shop)], [], zh, M)) rfl ⟨g5, g6, trivial⟩ ?_
    exact zF_as (hrec3 _ _ h) rfl
noncomputable def qG_rowCount_63_L4 (M : zM) (rec3 : (Int32 × Int32) → Option (Int32)) (v : Int32 × Int32) : Option (Int32) := match v with
  | (v1_1, v2_2) =>
    if v2_2 < (M 63 0) then
      (zq (vp_in v2_2 4) <| rec3 ((v1_1 * (M 64 v2_2.toNatClampNeg)), (v2_2 + 1)))
    else
      (some v1_1)
noncomputable def qG_rowCount_63 (M : zM) : Option (Int32) :=
  zlp (qG_rowCount_63_L4 M) zfu (1, 0)
set_option maxRecDepth 20000 in
set_option maxHeartbeats 4000000 in
theorem qG_rowCount_63_ok {S : zSc} {M : zM} {r : Int32} (h : qG_rowCount_63 M = some r) : zF S 19 (0, [(0, .ref 63)], [], zh, M) (some (.int r)) (M) := by
  unfold qG_rowCount_63 at h
  refine zF_go (n := 4) (ps := []) (s' := (4, [(2, .int 0), (1, .int 1), (0, .ref 63)], [], zh, M)) rfl trivial ?_
  refine zF_same (s' := (4, [(0, .ref 63), (1, .int 1), (2, .int 0)], [], zh, M)) rfl ?_
  refine zlp_ind (P := fun (v : Int32 × Int32) r => zF S 19 (4, [(0, .ref 63), (1, .int v.1), (2, .int v.2)], [], zh, M) (some (.int r)) (M)) ?_ _ _ _ h
  intro rec3 hrec3 v r h
  obtain ⟨v1_1, v2_2⟩ := v
  unfold qG_rowCount_63_L4 at h
  dsimp only at h
  show zF S 19 (4, [(0, .ref 63), (1, .int v1_1), (2, .int v2_2)], [], zh, M) _ _
  refine zF_go (n := 3) (ps := []) (s' := (9, [(0, .ref 63), (1, .int v1_1), (2, .int v2_2)], [.int (M 63 0), .int v2_2], zh, M)) rfl trivial ?_
  refine zF_ge (t := 27) (u := (12, [(0, .ref 63), (1, .int v1_1), (2, .int v2_2)], [], zh, M)) rfl (fun c4 => ?_) (fun c4 => ?_)
  · rw [if_neg c4] at h
    refine zF_go (n := 1) (ps := []) (s' := (28, [(0, .ref 63), (1, .int v1_1), (2, .int v2_2)], [.int v1_1], zh, M)) rfl trivial ?_
    cases h
    exact zF_ret rfl trivial
  · rw [if_pos c4] at h
    obtain ⟨g5, h⟩ := zq_some h
    refine zF_go (n := 9) (ps := [vp_in v2_2 4]) (s' := (4, [(2, .int (v2_2 + 1)), (1, .int (v1_1 * (M 64 v2_2.toNatClampNeg))), (0, .ref 63)], [], zh, M)) rfl ⟨g5, trivial⟩ ?_
    exact zF_as (hrec3 _ _ h) rfl
noncomputable def qG_putRow_L14 (p_shop : Int32) (rec4 : (Int32 × Int32 × zM) → Option (zM)) (v : Int32 × Int32 × zM) : Option (zM) := match v with
  | (v3_1, v4_2, M3) =>
    if v4_2 < 0 then
      (some M3)
    else
      (zq (vp_in v4_2 4) <| zq (¬ (if (1 : Int32) < (M3 64 v4_2.toNatClampNeg) then (M3 64 v4_2.toNatClampNeg) else 1) = 0) <| zq (vp_in ((p_shop * 4) + v4_2) 8) <| zq (¬ (if (1 : Int32) < (M3 64 v4_2.toNatClampNeg) then (M3 64 v4_2.toNatClampNeg) else 1) = 0) <| rec4 ((v3_1 / (if (1 : Int32) < (M3 64 v4_2.toNatClampNeg) then (M3 64 v4_2.toNatClampNeg) else 1)), (v4_2 + (-1)), (zw M3 68 ((p_shop * 4) + v4_2).toNatClampNeg (v3_1 - v3_1 / (if (1 : Int32) < (M3 64 v4_2.toNatClampNeg) then (M3 64 v4_2.toNatClampNeg) else 1) * (if (1 : Int32) < (M3 64 v4_2.toNatClampNeg) then (M3 64 v4_2.toNatClampNeg) else 1)))))
noncomputable def qG_putRow (M : zM) (p_shop : Int32) (p_number : Int32) : Option (zM) :=
  zlp (qG_putRow_L14 p_shop) zfu ((if (0 : Int32) < p_number then p_number else 0), ((M 63 0) - 1), M)
set_option maxRecDepth 20000 in
set_option maxHeartbeats 4000000 in
theorem qG_putRow_ok {S : zSc} {M : zM} {p_shop : Int32} {p_number : Int32} {r : zM} (h : qG_putRow M p_shop p_number = some r) : zF S 21 (0, [(0, .ref 63), (1, .int p_shop), (2, .int p_number)], [], zh, M) (none) (r) := by
  unfold qG_putRow at h
  refine zF_go (n := 9) (ps := []) (s' := (14, [(4, .int ((M 63 0) - 1)), (3, .int (if (0 : Int32) < p_number then p_number else 0)), (0, .ref 63), (1, .int p_shop), (2, .int p_number)], [], zh, M)) rfl trivial ?_
  refine zF_same (s' := (14, [(0, .ref 63), (1, .int p_shop), (3, .int (if (0 : Int32) < p_number then p_number else 0)), (4, .int ((M 63 0) - 1))], [], zh, M)) rfl ?_
  refine zlp_ind (P := fun (v : Int32 × Int32 × zM) r => zF S 21 (14, [(0, .ref 63), (1, .int p_shop), (3, .int v.1), (4, .int v.2.1)], [], zh, v.2.2) (none) (r)) ?_ _ _ _ h
  intro rec4 hrec4 v r h
  obtain ⟨v3_1, v4_2, M3⟩ := v
  unfold qG_putRow_L14 at h
  dsimp only at h
  show zF S 21 (14, [(0, .ref 63), (1, .int p_shop), (3, .int v3_1), (4, .int v4_2)], [], zh, M3) _ _
  refine zF_go (n := 1) (ps := []) (s' := (16, [(0, .ref 63), (1, .int p_shop), (3, .int v3_1), (4, .int v4_2)], [.int v4_2], zh, M3)) rfl trivial ?_
  refine zF_lt (t := 58) (u := (19, [(0, .ref 63), (1, .int p_shop), (3, .int v3_1), (4, .int v4_2)], [], zh, M3)) rfl (fun c5 => ?_) (fun c5 => ?_)
  · rw [if_pos c5] at h
    cases h
    exact zF_ret rfl trivial
  · rw [if_neg c5] at h
    obtain ⟨g6, h⟩ := zq_some h
    obtain ⟨g7, h⟩ := zq_some h
    obtain ⟨g8, h⟩ := zq_some h
    obtain ⟨g9, h⟩ := zq_some h
    refine zF_go (n := 24) (ps := [vp_in v4_2 4, ¬ (if (1 : Int32) < (M3 64 v4_2.toNatClampNeg) then (M3 64 v4_2.toNatClampNeg) else 1) = 0, vp_in ((p_shop * 4) + v4_2) 8, ¬ (if (1 : Int32) < (M3 64 v4_2.toNatClampNeg) then (M3 64 v4_2.toNatClampNeg) else 1) = 0]) (s' := (14, [(4, .int (v4_2 + (-1))), (3, .int (v3_1 / (if (1 : Int32) < (M3 64 v4_2.toNatClampNeg) then (M3 64 v4_2.toNatClampNeg) else 1))), (5, .int (if (1 : Int32) < (M3 64 v4_2.toNatClampNeg) then (M3 64 v4_2.toNatClampNeg) else 1)), (0, .ref 63), (1, .int p_shop)], [], zh, (zw M3 68 ((p_shop * 4) + v4_2).toNatClampNeg (v3_1 - v3_1 / (if (1 : Int32) < (M3 64 v4_2.toNatClampNeg) then (M3 64 v4_2.toNatClampNeg) else 1) * (if (1 : Int32) < (M3 64 v4_2.toNatClampNeg) then (M3 64 v4_2.toNatClampNeg) else 1))))) rfl ⟨g6, g7, g8, g9, trivial⟩ ?_
    exact zF_as (hrec4 _ _ h) rfl
noncomputable def qG_isBelow (M : zM) (p_shop : Int32) (p_thing : Int32) : Option (Int32) :=
  zq (vp_in ((p_shop * 4) + p_thing) 8) <| zq (vp_in ((p_thing * 3) + (M 68 ((p_shop * 4) + p_thing).toNatClampNeg)) 12) <| zq (vp_in ((p_shop * 4) + p_thing) 8) <| if (M 65 ((p_thing * 3) + (M 68 ((p_shop * 4) + p_thing).toNatClampNeg)).toNatClampNeg) < (M 66 ((p_shop * 4) + p_thing).toNatClampNeg) then
    (some 1)
  else
    (some 0)
set_option maxRecDepth 20000 in
set_option maxHeartbeats 4000000 in
theorem qG_isBelow_ok {S : zSc} {M : zM} {p_shop : Int32} {p_thing : Int32} {r : Int32} (h : qG_isBelow M p_shop p_thing = some r) : zF S 22 (0, [(0, .ref 63), (1, .int p_shop), (2, .int p_thing)], [], zh, M) (some (.int r)) (M) := by
  unfold qG_isBelow at h
  obtain ⟨g1, h⟩ := zq_some h
  obtain ⟨g2, h⟩ := zq_some h
  obtain ⟨g3, h⟩ := zq_some h
  refine zF_go (n := 21) (ps := [vp_in ((p_shop * 4) + p_thing) 8, vp_in ((p_thing * 3) + (M 68 ((p_shop * 4) + p_thing).toNatClampNeg)) 12, vp_in ((p_shop * 4) + p_thing) 8]) (s' := (27, [(3, .int ((p_shop * 4) + p_thing)), (0, .ref 63), (1, .int p_shop), (2, .int p_thing)], [.int (M 66 ((p_shop * 4) + p_thing).toNatClampNeg), .int (M 65 ((p_thing * 3) + (M 68 ((p_shop * 4) + p_thing).toNatClampNeg)).toNatClampNeg)], zh, M)) rfl ⟨g1, g2, g3, trivial⟩ ?_
  refine zF_ge (t := 34) (u := (30, [(3, .int ((p_shop * 4) + p_thing)), (0, .ref 63), (1, .int p_shop), (2, .int p_thing)], [], zh, M)) rfl (fun c4 => ?_) (fun c4 => ?_)
  · rw [if_neg c4] at h
    refine zF_go (n := 1) (ps := []) (s' := (35, [(3, .int ((p_shop * 4) + p_thing)), (0, .ref 63), (1, .int p_shop), (2, .int p_thing)], [.int 0], zh, M)) rfl trivial ?_
    cases h
    exact zF_ret rfl ⟨(Or.inl rfl), trivial⟩
  · rw [if_pos c4] at h
    refine zF_go (n := 2) (ps := []) (s' := (35, [(3, .int ((p_shop * 4) + p_thing)), (0, .ref 63), (1, .int p_shop), (2, .int p_thing)], [.int 1], zh, M)) rfl trivial ?_
    cases h
    exact zF_ret rfl ⟨(Or.inr rfl), trivial⟩
noncomputable def qG_belowCost_L4 (M : zM) (p_shop : Int32) (rec3 : (Int32 × Int32) → Option (Int32)) (v : Int32 × Int32) : Option (Int32) := match v with
  | (v2_1, v3_2) =>
    if v3_2 < (M 63 0) then
      (zb (qG_isBelow M p_shop v3_2) fun x4 =>
      if x4 = 0 then
        (rec3 (v2_1, (v3_2 + 1)))
      else
        (rec3 ((v2_1 ||| (1 <<< (v3_2 &&& 31))), (v3_2 + 1))))
    else
      (some v2_1)
noncomputable def qG_belowCost (M : zM) (p_shop : Int32) : Option (Int32) :=
  zlp (qG_belowCost_L4 M p_shop) zfu (0, 0)
set_option maxRecDepth 20000 in
set_option maxHeartbeats 4000000 in
theorem qG_belowCost_ok {S : zSc} {M : zM} {p_shop : Int32} {r : Int32} (h : qG_belowCost M p_shop = some r) : zF S 23 (0, [(0, .ref 63), (1, .int p_shop)], [], zh, M) (some (.int r)) (M) := by
  unfold qG_belowCost at h
  refine zF_go (n := 4) (ps := []) (s' := (4, [(3, .int 0), (2, .int 0), (0, .ref 63), (1, .int p_shop)], [], zh, M)) rfl trivial ?_
  refine zF_same (s' := (4, [(0, .ref 63), (1, .int p_shop), (2, .int 0), (3, .int 0)], [], zh, M)) rfl ?_
  refine zlp_ind (P := fun (v : Int32 × Int32) r => zF S 23 (4, [(0, .ref 63), (1, .int p_shop), (2, .int v.1), (3, .int v.2)], [], zh, M) (some (.int r)) (M)) ?_ _ _ _ h
  intro rec3 hrec3 v r h
  obtain ⟨v2_1, v3_2⟩ := v
  unfold qG_belowCost_L4 at h
  dsimp only at h
  show zF S 23 (4, [(0, .ref 63), (1, .int p_shop), (2, .int v2_1), (3, .int v3_2)], [], zh, M) _ _
  refine zF_go (n := 3) (ps := []) (s' := (9, [(0, .ref 63), (1, .int p_shop), (2, .int v2_1), (3, .int v3_2)], [.int (M 63 0), .int v3_2], zh, M)) rfl trivial ?_
  refine zF_ge (t := 33) (u := (12, [(0, .ref 63), (1, .int p_shop), (2, .int v2_1), (3, .int v3_2)], [], zh, M)) rfl (fun c5 => ?_) (fun c5 => ?_)
  · rw [if_neg c5] at h
    refine zF_go (n := 1) (ps := []) (s' := (34, [(0, .ref 63), (1, .int p_shop), (2, .int v2_1), (3, .int v3_2)], [.int v2_1], zh, M)) rfl trivial ?_
    cases h
    exact zF_ret rfl trivial
  · rw [if_pos c5] at h
    refine zF_go (n := 3) (ps := []) (s' := (15, [(0, .ref 63), (1, .int p_shop), (2, .int v2_1), (3, .int v3_2)], [.int v3_2, .int p_shop, .ref 63], zh, M)) rfl trivial ?_
    obtain ⟨x4, e6, h⟩ := zb_some h
    refine zF_call (y' := 22) (as := [.ref 63, .int p_shop, .int v3_2]) (u := (18, [(0, .ref 63), (1, .int p_shop), (2, .int v2_1), (3, .int v3_2)], [], zh, M)) rfl ⟨rfl, rfl⟩ rfl (qG_isBelow_ok (S := S) (M := M) e6) ?_
    show zF S 23 (18, [(0, .ref 63), (1, .int p_shop), (2, .int v2_1), (3, .int v3_2)], [.int x4], zh, M) _ _
    refine zF_eq (t := 27) (u := (21, [(0, .ref 63), (1, .int p_shop), (2, .int v2_1), (3, .int v3_2)], [], zh, M)) rfl (fun c7 => ?_) (fun c7 => ?_)
    · rw [if_pos c7] at h
      refine zF_go (n := 2) (ps := []) (s' := (4, [(3, .int (v3_2 + 1)), (0, .ref 63), (1, .int p_shop), (2, .int v2_1)], [], zh, M)) rfl trivial ?_
      exact zF_as (hrec3 _ _ h) rfl
    · rw [if_neg c7] at h
      refine zF_go (n := 6) (ps := []) (s' := (27, [(2, .int (v2_1 ||| (1 <<< (v3_2 &&& 31)))), (0, .ref 63), (1, .int p_shop), (3, .int v3_2)], [], zh, M)) rfl trivial ?_
      refine zF_go (n := 2) (ps := []) (s' := (4, [(3, .int (v3_2 + 1)), (0, .ref 63), (1, .int p_shop), (2, .int (v2_1 ||| (1 <<< (v3_2 &&& 31))))], [], zh, M)) rfl trivial ?_
      exact zF_as (hrec3 _ _ h) rfl
noncomputable def qE_copy_10_29 (M : zM) : Option (zM) :=
  some (zA (zA (zA (zA (zA (zA (zA (zw M 10 0 (M 29 0)) 11 (va_cpy (M 30) (M 11) ((0 : Int32).toNatClampNeg) ((0 : Int32).toNatClampNeg) ((5 : Int32).toNatClampNeg))) 12 (va_cpy (M 31) (M 12) ((0 : Int32).toNatClampNeg) ((0 : Int32).toNatClampNeg) ((10 : Int32).toNatClampNeg))) 13 (va_cpy (M 32) (M 13) ((0 : Int32).toNatClampNeg) ((0 : Int32).toNatClampNeg) ((5 : Int32).toNatClampNeg))) 14 (va_cpy (M 33) (M 14) ((0 : Int32).toNatClampNeg) ((0 : Int32).toNatClampNeg) ((5 : Int32).toNatClampNeg))) 15 (va_cpy (M 34) (M 15) ((0 : Int32).toNatClampNeg) ((0 : Int32).toNatClampNeg) ((20 : Int32).toNatClampNeg))) 16 (va_cpy (M 35) (M 16) ((0 : Int32).toNatClampNeg) ((0 : Int32).toNatClampNeg) ((20 : Int32).toNatClampNeg))) 17 (va_cpy (M 36) (M 17) ((0 : Int32).toNatClampNeg) ((0 : Int32).toNatClampNeg) ((20 : Int32).toNatClampNeg)))
set_option maxRecDepth 20000 in
set_option maxHeartbeats 4000000 in
theorem qE_copy_10_29_ok {S : zSc} {M : zM} {r : zM} (h : qE_copy_10_29 M = some r) : zF S 39 (0, [(0, .ref 10), (1, .ref 29)], [], zh, M) (none) (r) := by
  unfold qE_copy_10_29 at h
  refine zF_go (n := 60) (ps := [¬ (0 : Int32) < 0, ¬ (0 : Int32) < 0, ¬ (5 : Int32) < 0, (0 : Int32).toNatClampNeg + (5 : Int32).toNatClampNeg ≤ 5, (0 : Int32).toNatClampNeg + (5 : Int32).toNatClampNeg ≤ 5, ¬ (0 : Int32) < 0, ¬ (0 : Int32) < 0, ¬ (10 : Int32) < 0, (0 : Int32).toNatClampNeg + (10 : Int32).toNatClampNeg ≤ 10, (0 : Int32).toNatClampNeg + (10 : Int32).toNatClampNeg ≤ 10, ¬ (0 : Int32) < 0, ¬ (0 : Int32) < 0, ¬ (5 : Int32) < 0, (0 : Int32).toNatClampNeg + (5 : Int32).toNatClampNeg ≤ 5, (0 : Int32).toNatClampNeg + (5 : Int32).toNatClampNeg ≤ 5, ¬ (0 : Int32) < 0, ¬ (0 : Int32) < 0, ¬ (5 : Int32) < 0, (0 : Int32).toNatClampNeg + (5 : Int32).toNatClampNeg ≤ 5, (0 : Int32).toNatClampNeg + (5 : Int32).toNatClampNeg ≤ 5, ¬ (0 : Int32) < 0, ¬ (0 : Int32) < 0, ¬ (20 : Int32) < 0, (0 : Int32).toNatClampNeg + (20 : Int32).toNatClampNeg ≤ 20, (0 : Int32).toNatClampNeg + (20 : Int32).toNatClampNeg ≤ 20, ¬ (0 : Int32) < 0, ¬ (0 : Int32) < 0, ¬ (20 : Int32) < 0, (0 : Int32).toNatClampNeg + (20 : Int32).toNatClampNeg ≤ 20, (0 : Int32).toNatClampNeg + (20 : Int32).toNatClampNeg ≤ 20, ¬ (0 : Int32) < 0, ¬ (0 : Int32) < 0, ¬ (20 : Int32) < 0, (0 : Int32).toNatClampNeg + (20 : Int32).toNatClampNeg ≤ 20, (0 : Int32).toNatClampNeg + (20 : Int32).toNatClampNeg ≤ 20]) (s' := (110, [(0, .ref 10), (1, .ref 29)], [], zh, (zA (zA (zA (zA (zA (zA (zA (zw M 10 0 (M 29 0)) 11 (va_cpy (M 30) (M 11) ((0 : Int32).toNatClampNeg) ((0 : Int32).toNatClampNeg) ((5 : Int32).toNatClampNeg))) 12 (va_cpy (M 31) (M 12) ((0 : Int32).toNatClampNeg) ((0 : Int32).toNatClampNeg) ((10 : Int32).toNatClampNeg))) 13 (va_cpy (M 32) (M 13) ((0 : Int32).toNatClampNeg) ((0 : Int32).toNatClampNeg) ((5 : Int32).toNatClampNeg))) 14 (va_cpy (M 33) (M 14) ((0 : Int32).toNatClampNeg) ((0 : Int32).toNatClampNeg) ((5 : Int32).toNatClampNeg))) 15 (va_cpy (M 34) (M 15) ((0 : Int32).toNatClampNeg) ((0 : Int32).toNatClampNeg) ((20 : Int32).toNatClampNeg))) 16 (va_cpy (M 35) (M 16) ((0 : Int32).toNatClampNeg) ((0 : Int32).toNatClampNeg) ((20 : Int32).toNatClampNeg))) 17 (va_cpy (M 36) (M 17) ((0 : Int32).toNatClampNeg) ((0 : Int32).toNatClampNeg) ((20 : Int32).toNatClampNeg))))) rfl ⟨(by decide), (by decide), (by decide), (by decide), (by decide), (by decide), (by decide), (by decide), (by decide), (by decide), (by decide), (by decide), (by decide), (by decide), (by decide), (by decide), (by decide), (by decide), (by decide), (by decide), (by decide), (by decide), (by decide), (by decide), (by decide), (by decide), (by decide), (by decide), (by decide), (by decide), (by decide), (by decide), (by decide), (by decide), (by decide), trivial⟩ ?_
  cases h
  exact zF_ret rfl trivial
end ZT
end
