-- ===== PART A: goes FIRST, ahead of the names: the tables' words, and 'selects' of the private methods out of them =====
/-- a private method of a class that the tables say can be made, by its rows of tables_1 -/
def lw_okq (q : MethodName × Nat) : Prop := (q.1.cls ≠ "java/lang/invoke/MethodHandle" ∧ q.1.cls ≠ "java/lang/invoke/VarHandle") ∧ Cond.instantiable q.1.cls q.2 ∈ tables_1 ∧ Cond.privateMethod q.1 ∈ tables_1 ∧ Cond.instanceMethod q.1 ∈ tables_1
theorem lw_p0 : lw_okq (⟨"LabelHouse$Setter", "follow", "()I"⟩, 17) := ⟨⟨by decide +kernel, by decide +kernel⟩, List.mem_of_getElem? (i := 128) (by decide +kernel), List.mem_of_getElem? (i := 592) (by decide +kernel), List.mem_of_getElem? (i := 593) (by decide +kernel)⟩
theorem lw_p1 : lw_okq (⟨"LabelHouse$Setter", "canStand", "(I)Z"⟩, 17) := ⟨⟨by decide +kernel, by decide +kernel⟩, List.mem_of_getElem? (i := 128) (by decide +kernel), List.mem_of_getElem? (i := 683) (by decide +kernel), List.mem_of_getElem? (i := 684) (by decide +kernel)⟩
theorem lw_p2 : lw_okq (⟨"LabelHouse$Setter", "leaveOut", "(I)V"⟩, 17) := ⟨⟨by decide +kernel, by decide +kernel⟩, List.mem_of_getElem? (i := 128) (by decide +kernel), List.mem_of_getElem? (i := 687) (by decide +kernel), List.mem_of_getElem? (i := 688) (by decide +kernel)⟩
theorem lw_p3 : lw_okq (⟨"LabelHouse$Tape", "takeNumber", "(I)Z"⟩, 12) := ⟨⟨by decide +kernel, by decide +kernel⟩, List.mem_of_getElem? (i := 47) (by decide +kernel), List.mem_of_getElem? (i := 697) (by decide +kernel), List.mem_of_getElem? (i := 698) (by decide +kernel)⟩
theorem lw_p4 : lw_okq (⟨"LabelHouse$Setter", "inRanges", "(I)Z"⟩, 17) := ⟨⟨by decide +kernel, by decide +kernel⟩, List.mem_of_getElem? (i := 128) (by decide +kernel), List.mem_of_getElem? (i := 710) (by decide +kernel), List.mem_of_getElem? (i := 711) (by decide +kernel)⟩
theorem lw_p5 : lw_okq (⟨"LabelHouse$Tape", "takeHexPair", "()I"⟩, 12) := ⟨⟨by decide +kernel, by decide +kernel⟩, List.mem_of_getElem? (i := 47) (by decide +kernel), List.mem_of_getElem? (i := 718) (by decide +kernel), List.mem_of_getElem? (i := 719) (by decide +kernel)⟩
theorem lw_p6 : lw_okq (⟨"LabelHouse$Setter", "laterFault", "(I)I"⟩, 17) := ⟨⟨by decide +kernel, by decide +kernel⟩, List.mem_of_getElem? (i := 128) (by decide +kernel), List.mem_of_getElem? (i := 725) (by decide +kernel), List.mem_of_getElem? (i := 726) (by decide +kernel)⟩
theorem lw_p7 : lw_okq (⟨"LabelHouse$Field", "endOfPiece", "(I)I"⟩, 12) := ⟨⟨by decide +kernel, by decide +kernel⟩, List.mem_of_getElem? (i := 136) (by decide +kernel), List.mem_of_getElem? (i := 737) (by decide +kernel), List.mem_of_getElem? (i := 738) (by decide +kernel)⟩
theorem lw_p8 : lw_okq (⟨"LabelHouse$Field", "lastBlank", "(II)I"⟩, 12) := ⟨⟨by decide +kernel, by decide +kernel⟩, List.mem_of_getElem? (i := 136) (by decide +kernel), List.mem_of_getElem? (i := 741) (by decide +kernel), List.mem_of_getElem? (i := 742) (by decide +kernel)⟩
theorem lw_p9 : lw_okq (⟨"LabelHouse$Field", "addLine", "(II)V"⟩, 12) := ⟨⟨by decide +kernel, by decide +kernel⟩, List.mem_of_getElem? (i := 136) (by decide +kernel), List.mem_of_getElem? (i := 745) (by decide +kernel), List.mem_of_getElem? (i := 746) (by decide +kernel)⟩
theorem lw_p10 : lw_okq (⟨"LabelHouse$Field", "allDigits", "()Z"⟩, 12) := ⟨⟨by decide +kernel, by decide +kernel⟩, List.mem_of_getElem? (i := 136) (by decide +kernel), List.mem_of_getElem? (i := 754) (by decide +kernel), List.mem_of_getElem? (i := 755) (by decide +kernel)⟩
theorem lw_p11 : lw_okq (⟨"LabelHouse$Field", "isPicture", "()Z"⟩, 12) := ⟨⟨by decide +kernel, by decide +kernel⟩, List.mem_of_getElem? (i := 136) (by decide +kernel), List.mem_of_getElem? (i := 758) (by decide +kernel), List.mem_of_getElem? (i := 759) (by decide +kernel)⟩
theorem lw_p12 : lw_okq (⟨"LabelHouse$Field", "layLines", "(LLabelHouse$Orders;II[I)I"⟩, 12) := ⟨⟨by decide +kernel, by decide +kernel⟩, List.mem_of_getElem? (i := 136) (by decide +kernel), List.mem_of_getElem? (i := 767) (by decide +kernel), List.mem_of_getElem? (i := 768) (by decide +kernel)⟩
theorem lw_p13 : lw_okq (⟨"java/lang/Throwable", "fillInStackTrace", "(I)Ljava/lang/Throwable;"⟩, 6) := ⟨⟨by decide +kernel, by decide +kernel⟩, List.mem_of_getElem? (i := 819) (by decide +kernel), List.mem_of_getElem? (i := 817) (by decide +kernel), List.mem_of_getElem? (i := 818) (by decide +kernel)⟩
theorem lw_p14 : lw_okq (⟨"LabelHouse$Field", "layOthers", "(LLabelHouse$Orders;II[I)I"⟩, 12) := ⟨⟨by decide +kernel, by decide +kernel⟩, List.mem_of_getElem? (i := 136) (by decide +kernel), List.mem_of_getElem? (i := 1085) (by decide +kernel), List.mem_of_getElem? (i := 1086) (by decide +kernel)⟩
theorem lw_p15 : lw_okq (⟨"LabelHouse$Setter", "isTooMuch", "(I)Z"⟩, 17) := ⟨⟨by decide +kernel, by decide +kernel⟩, List.mem_of_getElem? (i := 128) (by decide +kernel), List.mem_of_getElem? (i := 1093) (by decide +kernel), List.mem_of_getElem? (i := 1094) (by decide +kernel)⟩
def lw_privs_1 : List (MethodName × Nat) := [(⟨"LabelHouse$Setter", "follow", "()I"⟩, 17), (⟨"LabelHouse$Setter", "canStand", "(I)Z"⟩, 17), (⟨"LabelHouse$Setter", "leaveOut", "(I)V"⟩, 17), (⟨"LabelHouse$Tape", "takeNumber", "(I)Z"⟩, 12), (⟨"LabelHouse$Setter", "inRanges", "(I)Z"⟩, 17), (⟨"LabelHouse$Tape", "takeHexPair", "()I"⟩, 12), (⟨"LabelHouse$Setter", "laterFault", "(I)I"⟩, 17), (⟨"LabelHouse$Field", "endOfPiece", "(I)I"⟩, 12), (⟨"LabelHouse$Field", "lastBlank", "(II)I"⟩, 12), (⟨"LabelHouse$Field", "addLine", "(II)V"⟩, 12), (⟨"LabelHouse$Field", "allDigits", "()Z"⟩, 12), (⟨"LabelHouse$Field", "isPicture", "()Z"⟩, 12), (⟨"LabelHouse$Field", "layLines", "(LLabelHouse$Orders;II[I)I"⟩, 12), (⟨"java/lang/Throwable", "fillInStackTrace", "(I)Ljava/lang/Throwable;"⟩, 6), (⟨"LabelHouse$Field", "layOthers", "(LLabelHouse$Orders;II[I)I"⟩, 12), (⟨"LabelHouse$Setter", "isTooMuch", "(I)Z"⟩, 17)]
theorem lw_r1 : ∀ q ∈ lw_privs_1, lw_okq q := List.forall_mem_cons.mpr ⟨lw_p0, List.forall_mem_cons.mpr ⟨lw_p1, List.forall_mem_cons.mpr ⟨lw_p2, List.forall_mem_cons.mpr ⟨lw_p3, List.forall_mem_cons.mpr ⟨lw_p4, List.forall_mem_cons.mpr ⟨lw_p5, List.forall_mem_cons.mpr ⟨lw_p6, List.forall_mem_cons.mpr ⟨lw_p7, List.forall_mem_cons.mpr ⟨lw_p8, List.forall_mem_cons.mpr ⟨lw_p9, List.forall_mem_cons.mpr ⟨lw_p10, List.forall_mem_cons.mpr ⟨lw_p11, List.forall_mem_cons.mpr ⟨lw_p12, List.forall_mem_cons.mpr ⟨lw_p13, List.forall_mem_cons.mpr ⟨lw_p14, List.forall_mem_cons.mpr ⟨lw_p15, fun _ h => absurd h List.not_mem_nil⟩⟩⟩⟩⟩⟩⟩⟩⟩⟩⟩⟩⟩⟩⟩⟩
theorem lw_p16 : lw_okq (⟨"LabelHouse$Setter", "perform", "(I)V"⟩, 17) := ⟨⟨by decide +kernel, by decide +kernel⟩, List.mem_of_getElem? (i := 128) (by decide +kernel), List.mem_of_getElem? (i := 1097) (by decide +kernel), List.mem_of_getElem? (i := 1098) (by decide +kernel)⟩
theorem lw_p17 : lw_okq (⟨"LabelHouse$Setter", "beginLabel", "()V"⟩, 17) := ⟨⟨by decide +kernel, by decide +kernel⟩, List.mem_of_getElem? (i := 128) (by decide +kernel), List.mem_of_getElem? (i := 1106) (by decide +kernel), List.mem_of_getElem? (i := 1107) (by decide +kernel)⟩
theorem lw_p18 : lw_okq (⟨"LabelHouse$Setter", "endLabel", "()V"⟩, 17) := ⟨⟨by decide +kernel, by decide +kernel⟩, List.mem_of_getElem? (i := 128) (by decide +kernel), List.mem_of_getElem? (i := 1118) (by decide +kernel), List.mem_of_getElem? (i := 1119) (by decide +kernel)⟩
theorem lw_p19 : lw_okq (⟨"LabelHouse$Orders", "countOn", "(IJ)V"⟩, 4) := ⟨⟨by decide +kernel, by decide +kernel⟩, List.mem_of_getElem? (i := 102) (by decide +kernel), List.mem_of_getElem? (i := 1131) (by decide +kernel), List.mem_of_getElem? (i := 1132) (by decide +kernel)⟩
theorem lw_p20 : lw_okq (⟨"LabelHouse$Setter", "performOfField", "(II)V"⟩, 17) := ⟨⟨by decide +kernel, by decide +kernel⟩, List.mem_of_getElem? (i := 128) (by decide +kernel), List.mem_of_getElem? (i := 1146) (by decide +kernel), List.mem_of_getElem? (i := 1147) (by decide +kernel)⟩
theorem lw_p21 : lw_okq (⟨"LabelHouse$Sheet", "word", "(II)J"⟩, 6) := ⟨⟨by decide +kernel, by decide +kernel⟩, List.mem_of_getElem? (i := 241) (by decide +kernel), List.mem_of_getElem? (i := 1193) (by decide +kernel), List.mem_of_getElem? (i := 1194) (by decide +kernel)⟩
theorem lw_p22 : lw_okq (⟨"LabelHouse$Pen", "drawText", "(LLabelHouse$Orders;I)V"⟩, 8) := ⟨⟨by decide +kernel, by decide +kernel⟩, List.mem_of_getElem? (i := 445) (by decide +kernel), List.mem_of_getElem? (i := 1311) (by decide +kernel), List.mem_of_getElem? (i := 1312) (by decide +kernel)⟩
theorem lw_p23 : lw_okq (⟨"LabelHouse$Pen", "drawCellRow", "(IIIIII)V"⟩, 8) := ⟨⟨by decide +kernel, by decide +kernel⟩, List.mem_of_getElem? (i := 445) (by decide +kernel), List.mem_of_getElem? (i := 1319) (by decide +kernel), List.mem_of_getElem? (i := 1320) (by decide +kernel)⟩
theorem lw_p24 : lw_okq (⟨"LabelHouse$Pen", "strike", "(IIII)V"⟩, 8) := ⟨⟨by decide +kernel, by decide +kernel⟩, List.mem_of_getElem? (i := 445) (by decide +kernel), List.mem_of_getElem? (i := 1323) (by decide +kernel), List.mem_of_getElem? (i := 1324) (by decide +kernel)⟩
theorem lw_p25 : lw_okq (⟨"LabelHouse$Sheet", "strikeColumn", "(IIIJ)V"⟩, 6) := ⟨⟨by decide +kernel, by decide +kernel⟩, List.mem_of_getElem? (i := 241) (by decide +kernel), List.mem_of_getElem? (i := 1334) (by decide +kernel), List.mem_of_getElem? (i := 1335) (by decide +kernel)⟩
theorem lw_p26 : lw_okq (⟨"LabelHouse$Bars", "countFewest", "()V"⟩, 13) := ⟨⟨by decide +kernel, by decide +kernel⟩, List.mem_of_getElem? (i := 274) (by decide +kernel), List.mem_of_getElem? (i := 1342) (by decide +kernel), List.mem_of_getElem? (i := 1343) (by decide +kernel)⟩
theorem lw_p27 : lw_okq (⟨"LabelHouse$Bars", "fewestBySign", "(II)I"⟩, 13) := ⟨⟨by decide +kernel, by decide +kernel⟩, List.mem_of_getElem? (i := 274) (by decide +kernel), List.mem_of_getElem? (i := 1347) (by decide +kernel), List.mem_of_getElem? (i := 1348) (by decide +kernel)⟩
theorem lw_p28 : lw_okq (⟨"LabelHouse$Bars", "straight", "(II)I"⟩, 13) := ⟨⟨by decide +kernel, by decide +kernel⟩, List.mem_of_getElem? (i := 274) (by decide +kernel), List.mem_of_getElem? (i := 1351) (by decide +kernel), List.mem_of_getElem? (i := 1352) (by decide +kernel)⟩
theorem lw_p29 : lw_okq (⟨"LabelHouse$Bars", "symbolFor", "(II)I"⟩, 13) := ⟨⟨by decide +kernel, by decide +kernel⟩, List.mem_of_getElem? (i := 274) (by decide +kernel), List.mem_of_getElem? (i := 1355) (by decide +kernel), List.mem_of_getElem? (i := 1356) (by decide +kernel)⟩
theorem lw_p30 : lw_okq (⟨"LabelHouse$Bars", "shifted", "(II)I"⟩, 13) := ⟨⟨by decide +kernel, by decide +kernel⟩, List.mem_of_getElem? (i := 274) (by decide +kernel), List.mem_of_getElem? (i := 1362) (by decide +kernel), List.mem_of_getElem? (i := 1363) (by decide +kernel)⟩
theorem lw_p31 : lw_okq (⟨"LabelHouse$Bars", "chooseSymbols", "()V"⟩, 13) := ⟨⟨by decide +kernel, by decide +kernel⟩, List.mem_of_getElem? (i := 274) (by decide +kernel), List.mem_of_getElem? (i := 1367) (by decide +kernel), List.mem_of_getElem? (i := 1368) (by decide +kernel)⟩
def lw_privs_2 : List (MethodName × Nat) := [(⟨"LabelHouse$Setter", "perform", "(I)V"⟩, 17), (⟨"LabelHouse$Setter", "beginLabel", "()V"⟩, 17), (⟨"LabelHouse$Setter", "endLabel", "()V"⟩, 17), (⟨"LabelHouse$Orders", "countOn", "(IJ)V"⟩, 4), (⟨"LabelHouse$Setter", "performOfField", "(II)V"⟩, 17), (⟨"LabelHouse$Sheet", "word", "(II)J"⟩, 6), (⟨"LabelHouse$Pen", "drawText", "(LLabelHouse$Orders;I)V"⟩, 8), (⟨"LabelHouse$Pen", "drawCellRow", "(IIIIII)V"⟩, 8), (⟨"LabelHouse$Pen", "strike", "(IIII)V"⟩, 8), (⟨"LabelHouse$Sheet", "strikeColumn", "(IIIJ)V"⟩, 6), (⟨"LabelHouse$Bars", "countFewest", "()V"⟩, 13), (⟨"LabelHouse$Bars", "fewestBySign", "(II)I"⟩, 13), (⟨"LabelHouse$Bars", "straight", "(II)I"⟩, 13), (⟨"LabelHouse$Bars", "symbolFor", "(II)I"⟩, 13), (⟨"LabelHouse$Bars", "shifted", "(II)I"⟩, 13), (⟨"LabelHouse$Bars", "chooseSymbols", "()V"⟩, 13)]
theorem lw_r2 : ∀ q ∈ lw_privs_2, lw_okq q := List.forall_mem_cons.mpr ⟨lw_p16, List.forall_mem_cons.mpr ⟨lw_p17, List.forall_mem_cons.mpr ⟨lw_p18, List.forall_mem_cons.mpr ⟨lw_p19, List.forall_mem_cons.mpr ⟨lw_p20, List.forall_mem_cons.mpr ⟨lw_p21, List.forall_mem_cons.mpr ⟨lw_p22, List.forall_mem_cons.mpr ⟨lw_p23, List.forall_mem_cons.mpr ⟨lw_p24, List.forall_mem_cons.mpr ⟨lw_p25, List.forall_mem_cons.mpr ⟨lw_p26, List.forall_mem_cons.mpr ⟨lw_p27, List.forall_mem_cons.mpr ⟨lw_p28, List.forall_mem_cons.mpr ⟨lw_p29, List.forall_mem_cons.mpr ⟨lw_p30, List.forall_mem_cons.mpr ⟨lw_p31, fun _ h => absurd h List.not_mem_nil⟩⟩⟩⟩⟩⟩⟩⟩⟩⟩⟩⟩⟩⟩⟩⟩
theorem lw_p32 : lw_okq (⟨"LabelHouse$Bars", "leastSymbol", "(II)I"⟩, 13) := ⟨⟨by decide +kernel, by decide +kernel⟩, List.mem_of_getElem? (i := 274) (by decide +kernel), List.mem_of_getElem? (i := 1371) (by decide +kernel), List.mem_of_getElem? (i := 1372) (by decide +kernel)⟩
theorem lw_p33 : lw_okq (⟨"LabelHouse$Bars", "addSymbol", "(I)V"⟩, 13) := ⟨⟨by decide +kernel, by decide +kernel⟩, List.mem_of_getElem? (i := 274) (by decide +kernel), List.mem_of_getElem? (i := 1375) (by decide +kernel), List.mem_of_getElem? (i := 1376) (by decide +kernel)⟩
theorem lw_p34 : lw_okq (⟨"LabelHouse$Bars", "checkSymbol", "(I)I"⟩, 13) := ⟨⟨by decide +kernel, by decide +kernel⟩, List.mem_of_getElem? (i := 274) (by decide +kernel), List.mem_of_getElem? (i := 1379) (by decide +kernel), List.mem_of_getElem? (i := 1380) (by decide +kernel)⟩
theorem lw_p35 : lw_okq (⟨"LabelHouse$Bars", "layWidths", "()V"⟩, 13) := ⟨⟨by decide +kernel, by decide +kernel⟩, List.mem_of_getElem? (i := 274) (by decide +kernel), List.mem_of_getElem? (i := 1383) (by decide +kernel), List.mem_of_getElem? (i := 1384) (by decide +kernel)⟩
theorem lw_p36 : lw_okq (⟨"LabelHouse$Bars", "addWidths", "(II)V"⟩, 13) := ⟨⟨by decide +kernel, by decide +kernel⟩, List.mem_of_getElem? (i := 274) (by decide +kernel), List.mem_of_getElem? (i := 1390) (by decide +kernel), List.mem_of_getElem? (i := 1391) (by decide +kernel)⟩
theorem lw_p37 : lw_okq (⟨"LabelHouse$Pen", "drawBars", "(ZII)V"⟩, 8) := ⟨⟨by decide +kernel, by decide +kernel⟩, List.mem_of_getElem? (i := 445) (by decide +kernel), List.mem_of_getElem? (i := 1396) (by decide +kernel), List.mem_of_getElem? (i := 1397) (by decide +kernel)⟩
theorem lw_p38 : lw_okq (⟨"LabelHouse$Bars", "checkFigure", "()I"⟩, 13) := ⟨⟨by decide +kernel, by decide +kernel⟩, List.mem_of_getElem? (i := 274) (by decide +kernel), List.mem_of_getElem? (i := 1407) (by decide +kernel), List.mem_of_getElem? (i := 1408) (by decide +kernel)⟩
theorem lw_p39 : lw_okq (⟨"LabelHouse$Segments", "plan", "([BIII)I"⟩, 7) := ⟨⟨by decide +kernel, by decide +kernel⟩, List.mem_of_getElem? (i := 331) (by decide +kernel), List.mem_of_getElem? (i := 1428) (by decide +kernel), List.mem_of_getElem? (i := 1429) (by decide +kernel)⟩
theorem lw_p40 : lw_okq (⟨"LabelHouse$Segments", "leastMode", "(IIII)I"⟩, 7) := ⟨⟨by decide +kernel, by decide +kernel⟩, List.mem_of_getElem? (i := 331) (by decide +kernel), List.mem_of_getElem? (i := 1433) (by decide +kernel), List.mem_of_getElem? (i := 1434) (by decide +kernel)⟩
theorem lw_p41 : lw_okq (⟨"LabelHouse$Segments", "bitsBy", "(IIII)I"⟩, 7) := ⟨⟨by decide +kernel, by decide +kernel⟩, List.mem_of_getElem? (i := 331) (by decide +kernel), List.mem_of_getElem? (i := 1442) (by decide +kernel), List.mem_of_getElem? (i := 1443) (by decide +kernel)⟩
theorem lw_p42 : lw_okq (⟨"LabelHouse$Segments", "write", "([BIIII)V"⟩, 7) := ⟨⟨by decide +kernel, by decide +kernel⟩, List.mem_of_getElem? (i := 331) (by decide +kernel), List.mem_of_getElem? (i := 1464) (by decide +kernel), List.mem_of_getElem? (i := 1465) (by decide +kernel)⟩
theorem lw_p43 : lw_okq (⟨"LabelHouse$Segments", "put", "(II)V"⟩, 7) := ⟨⟨by decide +kernel, by decide +kernel⟩, List.mem_of_getElem? (i := 331) (by decide +kernel), List.mem_of_getElem? (i := 1471) (by decide +kernel), List.mem_of_getElem? (i := 1472) (by decide +kernel)⟩
theorem lw_p44 : lw_okq (⟨"LabelHouse$Segments", "writeBytes", "([BIII)V"⟩, 7) := ⟨⟨by decide +kernel, by decide +kernel⟩, List.mem_of_getElem? (i := 331) (by decide +kernel), List.mem_of_getElem? (i := 1475) (by decide +kernel), List.mem_of_getElem? (i := 1476) (by decide +kernel)⟩
theorem lw_p45 : lw_okq (⟨"LabelHouse$Blocks", "begin", "(II)V"⟩, 14) := ⟨⟨by decide +kernel, by decide +kernel⟩, List.mem_of_getElem? (i := 362) (by decide +kernel), List.mem_of_getElem? (i := 1490) (by decide +kernel), List.mem_of_getElem? (i := 1491) (by decide +kernel)⟩
theorem lw_p46 : lw_okq (⟨"LabelHouse$Blocks", "makeGenerator", "()V"⟩, 14) := ⟨⟨by decide +kernel, by decide +kernel⟩, List.mem_of_getElem? (i := 362) (by decide +kernel), List.mem_of_getElem? (i := 1495) (by decide +kernel), List.mem_of_getElem? (i := 1496) (by decide +kernel)⟩
theorem lw_p47 : lw_okq (⟨"LabelHouse$Blocks", "times", "(II)I"⟩, 14) := ⟨⟨by decide +kernel, by decide +kernel⟩, List.mem_of_getElem? (i := 362) (by decide +kernel), List.mem_of_getElem? (i := 1502) (by decide +kernel), List.mem_of_getElem? (i := 1503) (by decide +kernel)⟩
def lw_privs_3 : List (MethodName × Nat) := [(⟨"LabelHouse$Bars", "leastSymbol", "(II)I"⟩, 13), (⟨"LabelHouse$Bars", "addSymbol", "(I)V"⟩, 13), (⟨"LabelHouse$Bars", "checkSymbol", "(I)I"⟩, 13), (⟨"LabelHouse$Bars", "layWidths", "()V"⟩, 13), (⟨"LabelHouse$Bars", "addWidths", "(II)V"⟩, 13), (⟨"LabelHouse$Pen", "drawBars", "(ZII)V"⟩, 8), (⟨"LabelHouse$Bars", "checkFigure", "()I"⟩, 13), (⟨"LabelHouse$Segments", "plan", "([BIII)I"⟩, 7), (⟨"LabelHouse$Segments", "leastMode", "(IIII)I"⟩, 7), (⟨"LabelHouse$Segments", "bitsBy", "(IIII)I"⟩, 7), (⟨"LabelHouse$Segments", "write", "([BIIII)V"⟩, 7), (⟨"LabelHouse$Segments", "put", "(II)V"⟩, 7), (⟨"LabelHouse$Segments", "writeBytes", "([BIII)V"⟩, 7), (⟨"LabelHouse$Blocks", "begin", "(II)V"⟩, 14), (⟨"LabelHouse$Blocks", "makeGenerator", "()V"⟩, 14), (⟨"LabelHouse$Blocks", "times", "(II)I"⟩, 14)]
theorem lw_r3 : ∀ q ∈ lw_privs_3, lw_okq q := List.forall_mem_cons.mpr ⟨lw_p32, List.forall_mem_cons.mpr ⟨lw_p33, List.forall_mem_cons.mpr ⟨lw_p34, List.forall_mem_cons.mpr ⟨lw_p35, List.forall_mem_cons.mpr ⟨lw_p36, List.forall_mem_cons.mpr ⟨lw_p37, List.forall_mem_cons.mpr ⟨lw_p38, List.forall_mem_cons.mpr ⟨lw_p39, List.forall_mem_cons.mpr ⟨lw_p40, List.forall_mem_cons.mpr ⟨lw_p41, List.forall_mem_cons.mpr ⟨lw_p42, List.forall_mem_cons.mpr ⟨lw_p43, List.forall_mem_cons.mpr ⟨lw_p44, List.forall_mem_cons.mpr ⟨lw_p45, List.forall_mem_cons.mpr ⟨lw_p46, List.forall_mem_cons.mpr ⟨lw_p47, fun _ h => absurd h List.not_mem_nil⟩⟩⟩⟩⟩⟩⟩⟩⟩⟩⟩⟩⟩⟩⟩⟩
theorem lw_p48 : lw_okq (⟨"LabelHouse$Blocks", "sizeOf", "(I)I"⟩, 14) := ⟨⟨by decide +kernel, by decide +kernel⟩, List.mem_of_getElem? (i := 362) (by decide +kernel), List.mem_of_getElem? (i := 1506) (by decide +kernel), List.mem_of_getElem? (i := 1507) (by decide +kernel)⟩
theorem lw_p49 : lw_okq (⟨"LabelHouse$Blocks", "placeOf", "(II)I"⟩, 14) := ⟨⟨by decide +kernel, by decide +kernel⟩, List.mem_of_getElem? (i := 362) (by decide +kernel), List.mem_of_getElem? (i := 1510) (by decide +kernel), List.mem_of_getElem? (i := 1511) (by decide +kernel)⟩
theorem lw_p50 : lw_okq (⟨"LabelHouse$Blocks", "divide", "(I)V"⟩, 14) := ⟨⟨by decide +kernel, by decide +kernel⟩, List.mem_of_getElem? (i := 362) (by decide +kernel), List.mem_of_getElem? (i := 1514) (by decide +kernel), List.mem_of_getElem? (i := 1515) (by decide +kernel)⟩
theorem lw_p51 : lw_okq (⟨"LabelHouse$Grid", "fix", "(IIZ)V"⟩, 9) := ⟨⟨by decide +kernel, by decide +kernel⟩, List.mem_of_getElem? (i := 325) (by decide +kernel), List.mem_of_getElem? (i := 1524) (by decide +kernel), List.mem_of_getElem? (i := 1525) (by decide +kernel)⟩
theorem lw_p52 : lw_okq (⟨"LabelHouse$Grid", "fixSquares", "(IIII)V"⟩, 9) := ⟨⟨by decide +kernel, by decide +kernel⟩, List.mem_of_getElem? (i := 325) (by decide +kernel), List.mem_of_getElem? (i := 1528) (by decide +kernel), List.mem_of_getElem? (i := 1529) (by decide +kernel)⟩
theorem lw_p53 : lw_okq (⟨"LabelHouse$Grid", "fixSmallSquares", "()V"⟩, 9) := ⟨⟨by decide +kernel, by decide +kernel⟩, List.mem_of_getElem? (i := 325) (by decide +kernel), List.mem_of_getElem? (i := 1536) (by decide +kernel), List.mem_of_getElem? (i := 1537) (by decide +kernel)⟩
theorem lw_p54 : lw_okq (⟨"LabelHouse$Grid", "smallPlace", "(II)I"⟩, 9) := ⟨⟨by decide +kernel, by decide +kernel⟩, List.mem_of_getElem? (i := 325) (by decide +kernel), List.mem_of_getElem? (i := 1540) (by decide +kernel), List.mem_of_getElem? (i := 1541) (by decide +kernel)⟩
theorem lw_p55 : lw_okq (⟨"LabelHouse$Grid", "fixForm", "(II)V"⟩, 9) := ⟨⟨by decide +kernel, by decide +kernel⟩, List.mem_of_getElem? (i := 325) (by decide +kernel), List.mem_of_getElem? (i := 1544) (by decide +kernel), List.mem_of_getElem? (i := 1545) (by decide +kernel)⟩
theorem lw_p56 : lw_okq (⟨"LabelHouse$Grid", "formX", "(II)I"⟩, 9) := ⟨⟨by decide +kernel, by decide +kernel⟩, List.mem_of_getElem? (i := 325) (by decide +kernel), List.mem_of_getElem? (i := 1554) (by decide +kernel), List.mem_of_getElem? (i := 1555) (by decide +kernel)⟩
theorem lw_p57 : lw_okq (⟨"LabelHouse$Grid", "formY", "(II)I"⟩, 9) := ⟨⟨by decide +kernel, by decide +kernel⟩, List.mem_of_getElem? (i := 325) (by decide +kernel), List.mem_of_getElem? (i := 1558) (by decide +kernel), List.mem_of_getElem? (i := 1559) (by decide +kernel)⟩
theorem lw_p58 : lw_okq (⟨"LabelHouse$Grid", "fixVersion", "()V"⟩, 9) := ⟨⟨by decide +kernel, by decide +kernel⟩, List.mem_of_getElem? (i := 325) (by decide +kernel), List.mem_of_getElem? (i := 1562) (by decide +kernel), List.mem_of_getElem? (i := 1563) (by decide +kernel)⟩
theorem lw_p59 : lw_okq (⟨"LabelHouse$Grid", "carry", "(Z)V"⟩, 9) := ⟨⟨by decide +kernel, by decide +kernel⟩, List.mem_of_getElem? (i := 325) (by decide +kernel), List.mem_of_getElem? (i := 1566) (by decide +kernel), List.mem_of_getElem? (i := 1567) (by decide +kernel)⟩
theorem lw_p60 : lw_okq (⟨"LabelHouse$Grid", "carryBit", "(ZIII)I"⟩, 9) := ⟨⟨by decide +kernel, by decide +kernel⟩, List.mem_of_getElem? (i := 325) (by decide +kernel), List.mem_of_getElem? (i := 1570) (by decide +kernel), List.mem_of_getElem? (i := 1571) (by decide +kernel)⟩
theorem lw_p61 : lw_okq (⟨"LabelHouse$Grid", "bestMask", "(I)I"⟩, 9) := ⟨⟨by decide +kernel, by decide +kernel⟩, List.mem_of_getElem? (i := 325) (by decide +kernel), List.mem_of_getElem? (i := 1590) (by decide +kernel), List.mem_of_getElem? (i := 1591) (by decide +kernel)⟩
theorem lw_p62 : lw_okq (⟨"LabelHouse$Grid", "turnMask", "(I)V"⟩, 9) := ⟨⟨by decide +kernel, by decide +kernel⟩, List.mem_of_getElem? (i := 325) (by decide +kernel), List.mem_of_getElem? (i := 1595) (by decide +kernel), List.mem_of_getElem? (i := 1596) (by decide +kernel)⟩
theorem lw_p63 : lw_okq (⟨"LabelHouse$Grid", "penalty", "()I"⟩, 9) := ⟨⟨by decide +kernel, by decide +kernel⟩, List.mem_of_getElem? (i := 325) (by decide +kernel), List.mem_of_getElem? (i := 1602) (by decide +kernel), List.mem_of_getElem? (i := 1603) (by decide +kernel)⟩
def lw_privs_4 : List (MethodName × Nat) := [(⟨"LabelHouse$Blocks", "sizeOf", "(I)I"⟩, 14), (⟨"LabelHouse$Blocks", "placeOf", "(II)I"⟩, 14), (⟨"LabelHouse$Blocks", "divide", "(I)V"⟩, 14), (⟨"LabelHouse$Grid", "fix", "(IIZ)V"⟩, 9), (⟨"LabelHouse$Grid", "fixSquares", "(IIII)V"⟩, 9), (⟨"LabelHouse$Grid", "fixSmallSquares", "()V"⟩, 9), (⟨"LabelHouse$Grid", "smallPlace", "(II)I"⟩, 9), (⟨"LabelHouse$Grid", "fixForm", "(II)V"⟩, 9), (⟨"LabelHouse$Grid", "formX", "(II)I"⟩, 9), (⟨"LabelHouse$Grid", "formY", "(II)I"⟩, 9), (⟨"LabelHouse$Grid", "fixVersion", "()V"⟩, 9), (⟨"LabelHouse$Grid", "carry", "(Z)V"⟩, 9), (⟨"LabelHouse$Grid", "carryBit", "(ZIII)I"⟩, 9), (⟨"LabelHouse$Grid", "bestMask", "(I)I"⟩, 9), (⟨"LabelHouse$Grid", "turnMask", "(I)V"⟩, 9), (⟨"LabelHouse$Grid", "penalty", "()I"⟩, 9)]
theorem lw_r4 : ∀ q ∈ lw_privs_4, lw_okq q := List.forall_mem_cons.mpr ⟨lw_p48, List.forall_mem_cons.mpr ⟨lw_p49, List.forall_mem_cons.mpr ⟨lw_p50, List.forall_mem_cons.mpr ⟨lw_p51, List.forall_mem_cons.mpr ⟨lw_p52, List.forall_mem_cons.mpr ⟨lw_p53, List.forall_mem_cons.mpr ⟨lw_p54, List.forall_mem_cons.mpr ⟨lw_p55, List.forall_mem_cons.mpr ⟨lw_p56, List.forall_mem_cons.mpr ⟨lw_p57, List.forall_mem_cons.mpr ⟨lw_p58, List.forall_mem_cons.mpr ⟨lw_p59, List.forall_mem_cons.mpr ⟨lw_p60, List.forall_mem_cons.mpr ⟨lw_p61, List.forall_mem_cons.mpr ⟨lw_p62, List.forall_mem_cons.mpr ⟨lw_p63, fun _ h => absurd h List.not_mem_nil⟩⟩⟩⟩⟩⟩⟩⟩⟩⟩⟩⟩⟩⟩⟩⟩
theorem lw_p64 : lw_okq (⟨"LabelHouse$Grid", "linePenalty", "(II)I"⟩, 9) := ⟨⟨by decide +kernel, by decide +kernel⟩, List.mem_of_getElem? (i := 325) (by decide +kernel), List.mem_of_getElem? (i := 1606) (by decide +kernel), List.mem_of_getElem? (i := 1607) (by decide +kernel)⟩
theorem lw_p65 : lw_okq (⟨"LabelHouse$Grid", "isSquareAlike", "(I)Z"⟩, 9) := ⟨⟨by decide +kernel, by decide +kernel⟩, List.mem_of_getElem? (i := 325) (by decide +kernel), List.mem_of_getElem? (i := 1610) (by decide +kernel), List.mem_of_getElem? (i := 1611) (by decide +kernel)⟩
theorem lw_p66 : lw_okq (⟨"LabelHouse$Pen", "drawSquare", "(ZI)V"⟩, 8) := ⟨⟨by decide +kernel, by decide +kernel⟩, List.mem_of_getElem? (i := 445) (by decide +kernel), List.mem_of_getElem? (i := 1614) (by decide +kernel), List.mem_of_getElem? (i := 1615) (by decide +kernel)⟩
theorem lw_p67 : lw_okq (⟨"LabelHouse$Pen", "drawFrame", "(III)V"⟩, 8) := ⟨⟨by decide +kernel, by decide +kernel⟩, List.mem_of_getElem? (i := 445) (by decide +kernel), List.mem_of_getElem? (i := 1619) (by decide +kernel), List.mem_of_getElem? (i := 1620) (by decide +kernel)⟩
theorem lw_p68 : lw_okq (⟨"LabelHouse$Pen", "drawEllipse", "(III)V"⟩, 8) := ⟨⟨by decide +kernel, by decide +kernel⟩, List.mem_of_getElem? (i := 445) (by decide +kernel), List.mem_of_getElem? (i := 1623) (by decide +kernel), List.mem_of_getElem? (i := 1624) (by decide +kernel)⟩
theorem lw_p69 : lw_okq (⟨"LabelHouse$Pen", "drawLine", "(III)V"⟩, 8) := ⟨⟨by decide +kernel, by decide +kernel⟩, List.mem_of_getElem? (i := 445) (by decide +kernel), List.mem_of_getElem? (i := 1631) (by decide +kernel), List.mem_of_getElem? (i := 1632) (by decide +kernel)⟩
theorem lw_p70 : lw_okq (⟨"LabelHouse$Pen", "drawPicture", "(LLabelHouse$Orders;I)V"⟩, 8) := ⟨⟨by decide +kernel, by decide +kernel⟩, List.mem_of_getElem? (i := 445) (by decide +kernel), List.mem_of_getElem? (i := 1648) (by decide +kernel), List.mem_of_getElem? (i := 1649) (by decide +kernel)⟩
theorem lw_p71 : lw_okq (⟨"LabelHouse$Sheet", "rotateWord", "(III)V"⟩, 6) := ⟨⟨by decide +kernel, by decide +kernel⟩, List.mem_of_getElem? (i := 241) (by decide +kernel), List.mem_of_getElem? (i := 1663) (by decide +kernel), List.mem_of_getElem? (i := 1664) (by decide +kernel)⟩
theorem lw_p72 : lw_okq (⟨"LabelHouse$Finder", "addUp", "()V"⟩, 11) := ⟨⟨by decide +kernel, by decide +kernel⟩, List.mem_of_getElem? (i := 477) (by decide +kernel), List.mem_of_getElem? (i := 1725) (by decide +kernel), List.mem_of_getElem? (i := 1726) (by decide +kernel)⟩
theorem lw_p73 : lw_okq (⟨"LabelHouse$Finder", "lookAtCorners", "()V"⟩, 11) := ⟨⟨by decide +kernel, by decide +kernel⟩, List.mem_of_getElem? (i := 477) (by decide +kernel), List.mem_of_getElem? (i := 1731) (by decide +kernel), List.mem_of_getElem? (i := 1732) (by decide +kernel)⟩
theorem lw_p74 : lw_okq (⟨"LabelHouse$Finder", "darkIn", "(III)I"⟩, 11) := ⟨⟨by decide +kernel, by decide +kernel⟩, List.mem_of_getElem? (i := 477) (by decide +kernel), List.mem_of_getElem? (i := 1735) (by decide +kernel), List.mem_of_getElem? (i := 1736) (by decide +kernel)⟩
theorem lw_p75 : lw_okq (⟨"LabelHouse$Finder", "ringsWrong", "(II)I"⟩, 11) := ⟨⟨by decide +kernel, by decide +kernel⟩, List.mem_of_getElem? (i := 477) (by decide +kernel), List.mem_of_getElem? (i := 1739) (by decide +kernel), List.mem_of_getElem? (i := 1740) (by decide +kernel)⟩
theorem lw_p76 : lw_okq (⟨"LabelHouse$Finder", "lookAtAll", "(I)Z"⟩, 11) := ⟨⟨by decide +kernel, by decide +kernel⟩, List.mem_of_getElem? (i := 477) (by decide +kernel), List.mem_of_getElem? (i := 1743) (by decide +kernel), List.mem_of_getElem? (i := 1744) (by decide +kernel)⟩
theorem lw_p77 : lw_okq (⟨"LabelHouse$Finder", "lookFrom", "(III)Z"⟩, 11) := ⟨⟨by decide +kernel, by decide +kernel⟩, List.mem_of_getElem? (i := 477) (by decide +kernel), List.mem_of_getElem? (i := 1747) (by decide +kernel), List.mem_of_getElem? (i := 1748) (by decide +kernel)⟩
theorem lw_p78 : lw_okq (⟨"LabelHouse$Finder", "lookAt", "(IIII)Z"⟩, 11) := ⟨⟨by decide +kernel, by decide +kernel⟩, List.mem_of_getElem? (i := 477) (by decide +kernel), List.mem_of_getElem? (i := 1755) (by decide +kernel), List.mem_of_getElem? (i := 1756) (by decide +kernel)⟩
theorem lw_p79 : lw_okq (⟨"LabelHouse$Finder", "wrongAt", "(IIIII)I"⟩, 11) := ⟨⟨by decide +kernel, by decide +kernel⟩, List.mem_of_getElem? (i := 477) (by decide +kernel), List.mem_of_getElem? (i := 1759) (by decide +kernel), List.mem_of_getElem? (i := 1760) (by decide +kernel)⟩
def lw_privs_5 : List (MethodName × Nat) := [(⟨"LabelHouse$Grid", "linePenalty", "(II)I"⟩, 9), (⟨"LabelHouse$Grid", "isSquareAlike", "(I)Z"⟩, 9), (⟨"LabelHouse$Pen", "drawSquare", "(ZI)V"⟩, 8), (⟨"LabelHouse$Pen", "drawFrame", "(III)V"⟩, 8), (⟨"LabelHouse$Pen", "drawEllipse", "(III)V"⟩, 8), (⟨"LabelHouse$Pen", "drawLine", "(III)V"⟩, 8), (⟨"LabelHouse$Pen", "drawPicture", "(LLabelHouse$Orders;I)V"⟩, 8), (⟨"LabelHouse$Sheet", "rotateWord", "(III)V"⟩, 6), (⟨"LabelHouse$Finder", "addUp", "()V"⟩, 11), (⟨"LabelHouse$Finder", "lookAtCorners", "()V"⟩, 11), (⟨"LabelHouse$Finder", "darkIn", "(III)I"⟩, 11), (⟨"LabelHouse$Finder", "ringsWrong", "(II)I"⟩, 11), (⟨"LabelHouse$Finder", "lookAtAll", "(I)Z"⟩, 11), (⟨"LabelHouse$Finder", "lookFrom", "(III)Z"⟩, 11), (⟨"LabelHouse$Finder", "lookAt", "(IIII)Z"⟩, 11), (⟨"LabelHouse$Finder", "wrongAt", "(IIIII)I"⟩, 11)]
theorem lw_r5 : ∀ q ∈ lw_privs_5, lw_okq q := List.forall_mem_cons.mpr ⟨lw_p64, List.forall_mem_cons.mpr ⟨lw_p65, List.forall_mem_cons.mpr ⟨lw_p66, List.forall_mem_cons.mpr ⟨lw_p67, List.forall_mem_cons.mpr ⟨lw_p68, List.forall_mem_cons.mpr ⟨lw_p69, List.forall_mem_cons.mpr ⟨lw_p70, List.forall_mem_cons.mpr ⟨lw_p71, List.forall_mem_cons.mpr ⟨lw_p72, List.forall_mem_cons.mpr ⟨lw_p73, List.forall_mem_cons.mpr ⟨lw_p74, List.forall_mem_cons.mpr ⟨lw_p75, List.forall_mem_cons.mpr ⟨lw_p76, List.forall_mem_cons.mpr ⟨lw_p77, List.forall_mem_cons.mpr ⟨lw_p78, List.forall_mem_cons.mpr ⟨lw_p79, fun _ h => absurd h List.not_mem_nil⟩⟩⟩⟩⟩⟩⟩⟩⟩⟩⟩⟩⟩⟩⟩⟩
theorem lw_p80 : lw_okq (⟨"LabelHouse$Finder", "add", "(IIIII)Z"⟩, 11) := ⟨⟨by decide +kernel, by decide +kernel⟩, List.mem_of_getElem? (i := 477) (by decide +kernel), List.mem_of_getElem? (i := 1769) (by decide +kernel), List.mem_of_getElem? (i := 1770) (by decide +kernel)⟩
theorem lw_p81 : lw_okq (⟨"LabelHouse$Finder", "keepLeaders", "()V"⟩, 11) := ⟨⟨by decide +kernel, by decide +kernel⟩, List.mem_of_getElem? (i := 477) (by decide +kernel), List.mem_of_getElem? (i := 1777) (by decide +kernel), List.mem_of_getElem? (i := 1778) (by decide +kernel)⟩
theorem lw_p82 : lw_okq (⟨"LabelHouse$Finder", "haveCommonDot", "(II)Z"⟩, 11) := ⟨⟨by decide +kernel, by decide +kernel⟩, List.mem_of_getElem? (i := 477) (by decide +kernel), List.mem_of_getElem? (i := 1781) (by decide +kernel), List.mem_of_getElem? (i := 1782) (by decide +kernel)⟩
theorem lw_p83 : lw_okq (⟨"LabelHouse", "forgetReading", "()V"⟩, 13) := ⟨⟨by decide +kernel, by decide +kernel⟩, List.mem_of_getElem? (i := 39) (by decide +kernel), List.mem_of_getElem? (i := 1804) (by decide +kernel), List.mem_of_getElem? (i := 1805) (by decide +kernel)⟩
theorem lw_p84 : lw_okq (⟨"LabelHouse$Finder", "darkNow", "(III)I"⟩, 11) := ⟨⟨by decide +kernel, by decide +kernel⟩, List.mem_of_getElem? (i := 477) (by decide +kernel), List.mem_of_getElem? (i := 1814) (by decide +kernel), List.mem_of_getElem? (i := 1815) (by decide +kernel)⟩
theorem lw_p85 : lw_okq (⟨"LabelHouse$Grid", "formNumber", "()I"⟩, 9) := ⟨⟨by decide +kernel, by decide +kernel⟩, List.mem_of_getElem? (i := 325) (by decide +kernel), List.mem_of_getElem? (i := 1825) (by decide +kernel), List.mem_of_getElem? (i := 1826) (by decide +kernel)⟩
theorem lw_p86 : lw_okq (⟨"LabelHouse$Blocks", "mendWord", "(II)I"⟩, 14) := ⟨⟨by decide +kernel, by decide +kernel⟩, List.mem_of_getElem? (i := 362) (by decide +kernel), List.mem_of_getElem? (i := 1842) (by decide +kernel), List.mem_of_getElem? (i := 1843) (by decide +kernel)⟩
theorem lw_p87 : lw_okq (⟨"LabelHouse$Blocks", "isCodeword", "(I)Z"⟩, 14) := ⟨⟨by decide +kernel, by decide +kernel⟩, List.mem_of_getElem? (i := 362) (by decide +kernel), List.mem_of_getElem? (i := 1846) (by decide +kernel), List.mem_of_getElem? (i := 1847) (by decide +kernel)⟩
theorem lw_p88 : lw_okq (⟨"LabelHouse$Blocks", "findLocator", "()I"⟩, 14) := ⟨⟨by decide +kernel, by decide +kernel⟩, List.mem_of_getElem? (i := 362) (by decide +kernel), List.mem_of_getElem? (i := 1850) (by decide +kernel), List.mem_of_getElem? (i := 1851) (by decide +kernel)⟩
theorem lw_p89 : lw_okq (⟨"LabelHouse$Blocks", "over", "(II)I"⟩, 14) := ⟨⟨by decide +kernel, by decide +kernel⟩, List.mem_of_getElem? (i := 362) (by decide +kernel), List.mem_of_getElem? (i := 1855) (by decide +kernel), List.mem_of_getElem? (i := 1856) (by decide +kernel)⟩
theorem lw_p90 : lw_okq (⟨"LabelHouse$Blocks", "makeEvaluator", "()V"⟩, 14) := ⟨⟨by decide +kernel, by decide +kernel⟩, List.mem_of_getElem? (i := 362) (by decide +kernel), List.mem_of_getElem? (i := 1859) (by decide +kernel), List.mem_of_getElem? (i := 1860) (by decide +kernel)⟩
theorem lw_p91 : lw_okq (⟨"LabelHouse$Blocks", "valueAt", "([II)I"⟩, 14) := ⟨⟨by decide +kernel, by decide +kernel⟩, List.mem_of_getElem? (i := 362) (by decide +kernel), List.mem_of_getElem? (i := 1863) (by decide +kernel), List.mem_of_getElem? (i := 1864) (by decide +kernel)⟩
theorem lw_p92 : lw_okq (⟨"LabelHouse$Blocks", "slopeAt", "(I)I"⟩, 14) := ⟨⟨by decide +kernel, by decide +kernel⟩, List.mem_of_getElem? (i := 362) (by decide +kernel), List.mem_of_getElem? (i := 1867) (by decide +kernel), List.mem_of_getElem? (i := 1868) (by decide +kernel)⟩
theorem lw_p93 : lw_okq (⟨"LabelHouse$Segments", "take", "(I)I"⟩, 7) := ⟨⟨by decide +kernel, by decide +kernel⟩, List.mem_of_getElem? (i := 331) (by decide +kernel), List.mem_of_getElem? (i := 1875) (by decide +kernel), List.mem_of_getElem? (i := 1876) (by decide +kernel)⟩
theorem lw_p94 : lw_okq (⟨"LabelHouse$Segments", "unpackOne", "(II[B)I"⟩, 7) := ⟨⟨by decide +kernel, by decide +kernel⟩, List.mem_of_getElem? (i := 331) (by decide +kernel), List.mem_of_getElem? (i := 1882) (by decide +kernel), List.mem_of_getElem? (i := 1883) (by decide +kernel)⟩
theorem lw_p95 : lw_okq (⟨"LabelHouse$Segments", "unpackPart", "(III[B)Z"⟩, 7) := ⟨⟨by decide +kernel, by decide +kernel⟩, List.mem_of_getElem? (i := 331) (by decide +kernel), List.mem_of_getElem? (i := 1886) (by decide +kernel), List.mem_of_getElem? (i := 1887) (by decide +kernel)⟩
def lw_privs_6 : List (MethodName × Nat) := [(⟨"LabelHouse$Finder", "add", "(IIIII)Z"⟩, 11), (⟨"LabelHouse$Finder", "keepLeaders", "()V"⟩, 11), (⟨"LabelHouse$Finder", "haveCommonDot", "(II)Z"⟩, 11), (⟨"LabelHouse", "forgetReading", "()V"⟩, 13), (⟨"LabelHouse$Finder", "darkNow", "(III)I"⟩, 11), (⟨"LabelHouse$Grid", "formNumber", "()I"⟩, 9), (⟨"LabelHouse$Blocks", "mendWord", "(II)I"⟩, 14), (⟨"LabelHouse$Blocks", "isCodeword", "(I)Z"⟩, 14), (⟨"LabelHouse$Blocks", "findLocator", "()I"⟩, 14), (⟨"LabelHouse$Blocks", "over", "(II)I"⟩, 14), (⟨"LabelHouse$Blocks", "makeEvaluator", "()V"⟩, 14), (⟨"LabelHouse$Blocks", "valueAt", "([II)I"⟩, 14), (⟨"LabelHouse$Blocks", "slopeAt", "(I)I"⟩, 14), (⟨"LabelHouse$Segments", "take", "(I)I"⟩, 7), (⟨"LabelHouse$Segments", "unpackOne", "(II[B)I"⟩, 7), (⟨"LabelHouse$Segments", "unpackPart", "(III[B)Z"⟩, 7)]
theorem lw_r6 : ∀ q ∈ lw_privs_6, lw_okq q := List.forall_mem_cons.mpr ⟨lw_p80, List.forall_mem_cons.mpr ⟨lw_p81, List.forall_mem_cons.mpr ⟨lw_p82, List.forall_mem_cons.mpr ⟨lw_p83, List.forall_mem_cons.mpr ⟨lw_p84, List.forall_mem_cons.mpr ⟨lw_p85, List.forall_mem_cons.mpr ⟨lw_p86, List.forall_mem_cons.mpr ⟨lw_p87, List.forall_mem_cons.mpr ⟨lw_p88, List.forall_mem_cons.mpr ⟨lw_p89, List.forall_mem_cons.mpr ⟨lw_p90, List.forall_mem_cons.mpr ⟨lw_p91, List.forall_mem_cons.mpr ⟨lw_p92, List.forall_mem_cons.mpr ⟨lw_p93, List.forall_mem_cons.mpr ⟨lw_p94, List.forall_mem_cons.mpr ⟨lw_p95, fun _ h => absurd h List.not_mem_nil⟩⟩⟩⟩⟩⟩⟩⟩⟩⟩⟩⟩⟩⟩⟩⟩
theorem lw_p96 : lw_okq (⟨"LabelHouse$Bars", "readFigures", "([B)Z"⟩, 13) := ⟨⟨by decide +kernel, by decide +kernel⟩, List.mem_of_getElem? (i := 274) (by decide +kernel), List.mem_of_getElem? (i := 1922) (by decide +kernel), List.mem_of_getElem? (i := 1923) (by decide +kernel)⟩
theorem lw_p97 : lw_okq (⟨"LabelHouse$Bars", "hasGuards", "()Z"⟩, 13) := ⟨⟨by decide +kernel, by decide +kernel⟩, List.mem_of_getElem? (i := 274) (by decide +kernel), List.mem_of_getElem? (i := 1926) (by decide +kernel), List.mem_of_getElem? (i := 1927) (by decide +kernel)⟩
theorem lw_p98 : lw_okq (⟨"LabelHouse$Bars", "sumOf", "(II)I"⟩, 13) := ⟨⟨by decide +kernel, by decide +kernel⟩, List.mem_of_getElem? (i := 274) (by decide +kernel), List.mem_of_getElem? (i := 1930) (by decide +kernel), List.mem_of_getElem? (i := 1931) (by decide +kernel)⟩
theorem lw_p99 : lw_okq (⟨"LabelHouse$Bars", "widthAt", "(I)I"⟩, 13) := ⟨⟨by decide +kernel, by decide +kernel⟩, List.mem_of_getElem? (i := 274) (by decide +kernel), List.mem_of_getElem? (i := 1934) (by decide +kernel), List.mem_of_getElem? (i := 1935) (by decide +kernel)⟩
theorem lw_p100 : lw_okq (⟨"LabelHouse$Bars", "patternAt", "(III)I"⟩, 13) := ⟨⟨by decide +kernel, by decide +kernel⟩, List.mem_of_getElem? (i := 274) (by decide +kernel), List.mem_of_getElem? (i := 1941) (by decide +kernel), List.mem_of_getElem? (i := 1942) (by decide +kernel)⟩
theorem lw_p101 : lw_okq (⟨"LabelHouse$Bars", "readSymbols", "([B)Z"⟩, 13) := ⟨⟨by decide +kernel, by decide +kernel⟩, List.mem_of_getElem? (i := 274) (by decide +kernel), List.mem_of_getElem? (i := 1948) (by decide +kernel), List.mem_of_getElem? (i := 1949) (by decide +kernel)⟩
theorem lw_p102 : lw_okq (⟨"LabelHouse$Bars", "tell", "(I[B)Z"⟩, 13) := ⟨⟨by decide +kernel, by decide +kernel⟩, List.mem_of_getElem? (i := 274) (by decide +kernel), List.mem_of_getElem? (i := 1952) (by decide +kernel), List.mem_of_getElem? (i := 1953) (by decide +kernel)⟩
theorem lw_p103 : lw_okq (⟨"LabelHouse$Bars", "write", "(I[B)V"⟩, 13) := ⟨⟨by decide +kernel, by decide +kernel⟩, List.mem_of_getElem? (i := 274) (by decide +kernel), List.mem_of_getElem? (i := 1956) (by decide +kernel), List.mem_of_getElem? (i := 1957) (by decide +kernel)⟩
theorem lw_p104 : lw_okq (⟨"LabelHouseModel$ScriptRows", "step", "()Z"⟩, 40) := ⟨⟨by decide +kernel, by decide +kernel⟩, List.mem_of_getElem? (i := 1976) (by decide +kernel), List.mem_of_getElem? (i := 2576) (by decide +kernel), List.mem_of_getElem? (i := 2577) (by decide +kernel)⟩
theorem lw_p105 : lw_okq (⟨"LabelHouseModel$ScriptRows", "peek", "()I"⟩, 40) := ⟨⟨by decide +kernel, by decide +kernel⟩, List.mem_of_getElem? (i := 1976) (by decide +kernel), List.mem_of_getElem? (i := 2580) (by decide +kernel), List.mem_of_getElem? (i := 2581) (by decide +kernel)⟩
theorem lw_p106 : lw_okq (⟨"LabelHouseModel$ScriptRows", "next", "()I"⟩, 40) := ⟨⟨by decide +kernel, by decide +kernel⟩, List.mem_of_getElem? (i := 1976) (by decide +kernel), List.mem_of_getElem? (i := 2584) (by decide +kernel), List.mem_of_getElem? (i := 2585) (by decide +kernel)⟩
theorem lw_p107 : lw_okq (⟨"LabelHouseModel$ScriptRows", "test", "(I)I"⟩, 40) := ⟨⟨by decide +kernel, by decide +kernel⟩, List.mem_of_getElem? (i := 1976) (by decide +kernel), List.mem_of_getElem? (i := 2588) (by decide +kernel), List.mem_of_getElem? (i := 2589) (by decide +kernel)⟩
theorem lw_p108 : lw_okq (⟨"LabelHouseModel$ScriptRows", "mayStand", "(I)Z"⟩, 40) := ⟨⟨by decide +kernel, by decide +kernel⟩, List.mem_of_getElem? (i := 1976) (by decide +kernel), List.mem_of_getElem? (i := 2595) (by decide +kernel), List.mem_of_getElem? (i := 2596) (by decide +kernel)⟩
theorem lw_p109 : lw_okq (⟨"LabelHouseModel$ScriptRows", "takeNumbers", "(I)I"⟩, 40) := ⟨⟨by decide +kernel, by decide +kernel⟩, List.mem_of_getElem? (i := 1976) (by decide +kernel), List.mem_of_getElem? (i := 2599) (by decide +kernel), List.mem_of_getElem? (i := 2600) (by decide +kernel)⟩
theorem lw_p110 : lw_okq (⟨"LabelHouseModel$ScriptRows", "preset", "(II)I"⟩, 40) := ⟨⟨by decide +kernel, by decide +kernel⟩, List.mem_of_getElem? (i := 1976) (by decide +kernel), List.mem_of_getElem? (i := 2603) (by decide +kernel), List.mem_of_getElem? (i := 2604) (by decide +kernel)⟩
theorem lw_p111 : lw_okq (⟨"LabelHouseModel$ScriptRows", "testRanges", "(I)I"⟩, 40) := ⟨⟨by decide +kernel, by decide +kernel⟩, List.mem_of_getElem? (i := 1976) (by decide +kernel), List.mem_of_getElem? (i := 2610) (by decide +kernel), List.mem_of_getElem? (i := 2611) (by decide +kernel)⟩
def lw_privs_7 : List (MethodName × Nat) := [(⟨"LabelHouse$Bars", "readFigures", "([B)Z"⟩, 13), (⟨"LabelHouse$Bars", "hasGuards", "()Z"⟩, 13), (⟨"LabelHouse$Bars", "sumOf", "(II)I"⟩, 13), (⟨"LabelHouse$Bars", "widthAt", "(I)I"⟩, 13), (⟨"LabelHouse$Bars", "patternAt", "(III)I"⟩, 13), (⟨"LabelHouse$Bars", "readSymbols", "([B)Z"⟩, 13), (⟨"LabelHouse$Bars", "tell", "(I[B)Z"⟩, 13), (⟨"LabelHouse$Bars", "write", "(I[B)V"⟩, 13), (⟨"LabelHouseModel$ScriptRows", "step", "()Z"⟩, 40), (⟨"LabelHouseModel$ScriptRows", "peek", "()I"⟩, 40), (⟨"LabelHouseModel$ScriptRows", "next", "()I"⟩, 40), (⟨"LabelHouseModel$ScriptRows", "test", "(I)I"⟩, 40), (⟨"LabelHouseModel$ScriptRows", "mayStand", "(I)Z"⟩, 40), (⟨"LabelHouseModel$ScriptRows", "takeNumbers", "(I)I"⟩, 40), (⟨"LabelHouseModel$ScriptRows", "preset", "(II)I"⟩, 40), (⟨"LabelHouseModel$ScriptRows", "testRanges", "(I)I"⟩, 40)]
theorem lw_r7 : ∀ q ∈ lw_privs_7, lw_okq q := List.forall_mem_cons.mpr ⟨lw_p96, List.forall_mem_cons.mpr ⟨lw_p97, List.forall_mem_cons.mpr ⟨lw_p98, List.forall_mem_cons.mpr ⟨lw_p99, List.forall_mem_cons.mpr ⟨lw_p100, List.forall_mem_cons.mpr ⟨lw_p101, List.forall_mem_cons.mpr ⟨lw_p102, List.forall_mem_cons.mpr ⟨lw_p103, List.forall_mem_cons.mpr ⟨lw_p104, List.forall_mem_cons.mpr ⟨lw_p105, List.forall_mem_cons.mpr ⟨lw_p106, List.forall_mem_cons.mpr ⟨lw_p107, List.forall_mem_cons.mpr ⟨lw_p108, List.forall_mem_cons.mpr ⟨lw_p109, List.forall_mem_cons.mpr ⟨lw_p110, List.forall_mem_cons.mpr ⟨lw_p111, fun _ h => absurd h List.not_mem_nil⟩⟩⟩⟩⟩⟩⟩⟩⟩⟩⟩⟩⟩⟩⟩⟩
theorem lw_p112 : lw_okq (⟨"LabelHouseModel$ScriptRows", "takeData", "()I"⟩, 40) := ⟨⟨by decide +kernel, by decide +kernel⟩, List.mem_of_getElem? (i := 1976) (by decide +kernel), List.mem_of_getElem? (i := 2620) (by decide +kernel), List.mem_of_getElem? (i := 2621) (by decide +kernel)⟩
theorem lw_p113 : lw_okq (⟨"LabelHouseModel$ScriptRows", "formSize", "()I"⟩, 40) := ⟨⟨by decide +kernel, by decide +kernel⟩, List.mem_of_getElem? (i := 1976) (by decide +kernel), List.mem_of_getElem? (i := 2627) (by decide +kernel), List.mem_of_getElem? (i := 2628) (by decide +kernel)⟩
theorem lw_p114 : lw_okq (⟨"LabelHouseModel$ScriptRows", "tryField", "()I"⟩, 40) := ⟨⟨by decide +kernel, by decide +kernel⟩, List.mem_of_getElem? (i := 1976) (by decide +kernel), List.mem_of_getElem? (i := 2631) (by decide +kernel), List.mem_of_getElem? (i := 2632) (by decide +kernel)⟩
theorem lw_p115 : lw_okq (⟨"LabelHouseModel$ScriptRows", "fits", "()Z"⟩, 40) := ⟨⟨by decide +kernel, by decide +kernel⟩, List.mem_of_getElem? (i := 1976) (by decide +kernel), List.mem_of_getElem? (i := 2635) (by decide +kernel), List.mem_of_getElem? (i := 2636) (by decide +kernel)⟩
theorem lw_p116 : lw_okq (⟨"LabelHouseModel$ScriptRows", "isPlaced", "(I)Z"⟩, 40) := ⟨⟨by decide +kernel, by decide +kernel⟩, List.mem_of_getElem? (i := 1976) (by decide +kernel), List.mem_of_getElem? (i := 2639) (by decide +kernel), List.mem_of_getElem? (i := 2640) (by decide +kernel)⟩
theorem lw_p117 : lw_okq (⟨"LabelHouseModel$ScriptRows", "lay", "()V"⟩, 40) := ⟨⟨by decide +kernel, by decide +kernel⟩, List.mem_of_getElem? (i := 1976) (by decide +kernel), List.mem_of_getElem? (i := 2643) (by decide +kernel), List.mem_of_getElem? (i := 2644) (by decide +kernel)⟩
theorem lw_p118 : lw_okq (⟨"LabelHouseModel$ScriptRows", "makeField", "(II)V"⟩, 40) := ⟨⟨by decide +kernel, by decide +kernel⟩, List.mem_of_getElem? (i := 1976) (by decide +kernel), List.mem_of_getElem? (i := 2647) (by decide +kernel), List.mem_of_getElem? (i := 2648) (by decide +kernel)⟩
theorem lw_p119 : lw_okq (⟨"LabelHouseModel$ScriptRows", "takeCopy", "(II)V"⟩, 40) := ⟨⟨by decide +kernel, by decide +kernel⟩, List.mem_of_getElem? (i := 1976) (by decide +kernel), List.mem_of_getElem? (i := 2651) (by decide +kernel), List.mem_of_getElem? (i := 2652) (by decide +kernel)⟩
theorem lw_p120 : lw_okq (⟨"LabelHouseModel$ScriptRows", "give", "(IIIIIII)V"⟩, 40) := ⟨⟨by decide +kernel, by decide +kernel⟩, List.mem_of_getElem? (i := 1976) (by decide +kernel), List.mem_of_getElem? (i := 2656) (by decide +kernel), List.mem_of_getElem? (i := 2657) (by decide +kernel)⟩
theorem lw_p121 : lw_okq (⟨"LabelHouseModel$ScriptRows", "have", "(III)V"⟩, 40) := ⟨⟨by decide +kernel, by decide +kernel⟩, List.mem_of_getElem? (i := 1976) (by decide +kernel), List.mem_of_getElem? (i := 2669) (by decide +kernel), List.mem_of_getElem? (i := 2670) (by decide +kernel)⟩
theorem lw_p122 : lw_okq (⟨"LabelHouseModel$ScriptRows", "makeLines", "(I)V"⟩, 40) := ⟨⟨by decide +kernel, by decide +kernel⟩, List.mem_of_getElem? (i := 1976) (by decide +kernel), List.mem_of_getElem? (i := 2673) (by decide +kernel), List.mem_of_getElem? (i := 2674) (by decide +kernel)⟩
theorem lw_p123 : lw_okq (⟨"LabelHouseModel$ScriptRows", "pieceEnd", "(II)I"⟩, 40) := ⟨⟨by decide +kernel, by decide +kernel⟩, List.mem_of_getElem? (i := 1976) (by decide +kernel), List.mem_of_getElem? (i := 2677) (by decide +kernel), List.mem_of_getElem? (i := 2678) (by decide +kernel)⟩
theorem lw_p124 : lw_okq (⟨"LabelHouseModel$ScriptRows", "giveLine", "(IIII)V"⟩, 40) := ⟨⟨by decide +kernel, by decide +kernel⟩, List.mem_of_getElem? (i := 1976) (by decide +kernel), List.mem_of_getElem? (i := 2681) (by decide +kernel), List.mem_of_getElem? (i := 2682) (by decide +kernel)⟩
theorem lw_p125 : lw_okq (⟨"LabelHouseModel$ScriptRows", "obey", "(I)V"⟩, 40) := ⟨⟨by decide +kernel, by decide +kernel⟩, List.mem_of_getElem? (i := 1976) (by decide +kernel), List.mem_of_getElem? (i := 2685) (by decide +kernel), List.mem_of_getElem? (i := 2686) (by decide +kernel)⟩
theorem lw_p126 : lw_okq (⟨"LabelHouseModel$ScriptRows", "storeForm", "()V"⟩, 40) := ⟨⟨by decide +kernel, by decide +kernel⟩, List.mem_of_getElem? (i := 1976) (by decide +kernel), List.mem_of_getElem? (i := 2689) (by decide +kernel), List.mem_of_getElem? (i := 2690) (by decide +kernel)⟩
theorem lw_p127 : lw_okq (⟨"LabelHouseModel$ScriptRows", "storeData", "(I)V"⟩, 40) := ⟨⟨by decide +kernel, by decide +kernel⟩, List.mem_of_getElem? (i := 1976) (by decide +kernel), List.mem_of_getElem? (i := 2693) (by decide +kernel), List.mem_of_getElem? (i := 2694) (by decide +kernel)⟩
def lw_privs_8 : List (MethodName × Nat) := [(⟨"LabelHouseModel$ScriptRows", "takeData", "()I"⟩, 40), (⟨"LabelHouseModel$ScriptRows", "formSize", "()I"⟩, 40), (⟨"LabelHouseModel$ScriptRows", "tryField", "()I"⟩, 40), (⟨"LabelHouseModel$ScriptRows", "fits", "()Z"⟩, 40), (⟨"LabelHouseModel$ScriptRows", "isPlaced", "(I)Z"⟩, 40), (⟨"LabelHouseModel$ScriptRows", "lay", "()V"⟩, 40), (⟨"LabelHouseModel$ScriptRows", "makeField", "(II)V"⟩, 40), (⟨"LabelHouseModel$ScriptRows", "takeCopy", "(II)V"⟩, 40), (⟨"LabelHouseModel$ScriptRows", "give", "(IIIIIII)V"⟩, 40), (⟨"LabelHouseModel$ScriptRows", "have", "(III)V"⟩, 40), (⟨"LabelHouseModel$ScriptRows", "makeLines", "(I)V"⟩, 40), (⟨"LabelHouseModel$ScriptRows", "pieceEnd", "(II)I"⟩, 40), (⟨"LabelHouseModel$ScriptRows", "giveLine", "(IIII)V"⟩, 40), (⟨"LabelHouseModel$ScriptRows", "obey", "(I)V"⟩, 40), (⟨"LabelHouseModel$ScriptRows", "storeForm", "()V"⟩, 40), (⟨"LabelHouseModel$ScriptRows", "storeData", "(I)V"⟩, 40)]
theorem lw_r8 : ∀ q ∈ lw_privs_8, lw_okq q := List.forall_mem_cons.mpr ⟨lw_p112, List.forall_mem_cons.mpr ⟨lw_p113, List.forall_mem_cons.mpr ⟨lw_p114, List.forall_mem_cons.mpr ⟨lw_p115, List.forall_mem_cons.mpr ⟨lw_p116, List.forall_mem_cons.mpr ⟨lw_p117, List.forall_mem_cons.mpr ⟨lw_p118, List.forall_mem_cons.mpr ⟨lw_p119, List.forall_mem_cons.mpr ⟨lw_p120, List.forall_mem_cons.mpr ⟨lw_p121, List.forall_mem_cons.mpr ⟨lw_p122, List.forall_mem_cons.mpr ⟨lw_p123, List.forall_mem_cons.mpr ⟨lw_p124, List.forall_mem_cons.mpr ⟨lw_p125, List.forall_mem_cons.mpr ⟨lw_p126, List.forall_mem_cons.mpr ⟨lw_p127, fun _ h => absurd h List.not_mem_nil⟩⟩⟩⟩⟩⟩⟩⟩⟩⟩⟩⟩⟩⟩⟩⟩
theorem lw_p128 : lw_okq (⟨"LabelHouseModel$ScriptRows", "beginLabel", "()V"⟩, 40) := ⟨⟨by decide +kernel, by decide +kernel⟩, List.mem_of_getElem? (i := 1976) (by decide +kernel), List.mem_of_getElem? (i := 2697) (by decide +kernel), List.mem_of_getElem? (i := 2698) (by decide +kernel)⟩
theorem lw_p129 : lw_okq (⟨"LabelHouseModel$ScriptRows", "newField", "()V"⟩, 40) := ⟨⟨by decide +kernel, by decide +kernel⟩, List.mem_of_getElem? (i := 1976) (by decide +kernel), List.mem_of_getElem? (i := 2701) (by decide +kernel), List.mem_of_getElem? (i := 2702) (by decide +kernel)⟩
theorem lw_p130 : lw_okq (⟨"LabelHouseModel$ScriptRows", "endLabel", "()V"⟩, 40) := ⟨⟨by decide +kernel, by decide +kernel⟩, List.mem_of_getElem? (i := 1976) (by decide +kernel), List.mem_of_getElem? (i := 2705) (by decide +kernel), List.mem_of_getElem? (i := 2706) (by decide +kernel)⟩
theorem lw_p131 : lw_okq (⟨"LabelHouseModel$ScriptRows", "layForm", "()V"⟩, 40) := ⟨⟨by decide +kernel, by decide +kernel⟩, List.mem_of_getElem? (i := 1976) (by decide +kernel), List.mem_of_getElem? (i := 2709) (by decide +kernel), List.mem_of_getElem? (i := 2710) (by decide +kernel)⟩
theorem lw_p132 : lw_okq (⟨"LabelHouseModel$ScriptRows", "set", "(I)V"⟩, 40) := ⟨⟨by decide +kernel, by decide +kernel⟩, List.mem_of_getElem? (i := 1976) (by decide +kernel), List.mem_of_getElem? (i := 2713) (by decide +kernel), List.mem_of_getElem? (i := 2714) (by decide +kernel)⟩
theorem lw_p133 : lw_okq (⟨"LabelHouseModel", "draw", "(I)I"⟩, 13) := ⟨⟨by decide +kernel, by decide +kernel⟩, List.mem_of_getElem? (i := 1970) (by decide +kernel), List.mem_of_getElem? (i := 2772) (by decide +kernel), List.mem_of_getElem? (i := 2773) (by decide +kernel)⟩
theorem lw_p134 : lw_okq (⟨"LabelHouseModel", "draftData", "(I)V"⟩, 13) := ⟨⟨by decide +kernel, by decide +kernel⟩, List.mem_of_getElem? (i := 1970) (by decide +kernel), List.mem_of_getElem? (i := 2784) (by decide +kernel), List.mem_of_getElem? (i := 2785) (by decide +kernel)⟩
theorem lw_p135 : lw_okq (⟨"LabelHouseModel", "byteOf", "(II)I"⟩, 13) := ⟨⟨by decide +kernel, by decide +kernel⟩, List.mem_of_getElem? (i := 1970) (by decide +kernel), List.mem_of_getElem? (i := 2788) (by decide +kernel), List.mem_of_getElem? (i := 2789) (by decide +kernel)⟩
theorem lw_p136 : lw_okq (⟨"LabelHouseModel", "draft", "(I)V"⟩, 13) := ⟨⟨by decide +kernel, by decide +kernel⟩, List.mem_of_getElem? (i := 1970) (by decide +kernel), List.mem_of_getElem? (i := 2792) (by decide +kernel), List.mem_of_getElem? (i := 2793) (by decide +kernel)⟩
theorem lw_p137 : lw_okq (⟨"LabelHouseModel$DotRows", "at", "(IIIII)V"⟩, 18) := ⟨⟨by decide +kernel, by decide +kernel⟩, List.mem_of_getElem? (i := 2103) (by decide +kernel), List.mem_of_getElem? (i := 2808) (by decide +kernel), List.mem_of_getElem? (i := 2809) (by decide +kernel)⟩
theorem lw_p138 : lw_okq (⟨"LabelHouseModel$DotRows", "draw", "(I)I"⟩, 18) := ⟨⟨by decide +kernel, by decide +kernel⟩, List.mem_of_getElem? (i := 2103) (by decide +kernel), List.mem_of_getElem? (i := 2812) (by decide +kernel), List.mem_of_getElem? (i := 2813) (by decide +kernel)⟩
theorem lw_p139 : lw_okq (⟨"LabelHouseModel$DotRows", "belongs", "(III)Z"⟩, 18) := ⟨⟨by decide +kernel, by decide +kernel⟩, List.mem_of_getElem? (i := 2103) (by decide +kernel), List.mem_of_getElem? (i := 2816) (by decide +kernel), List.mem_of_getElem? (i := 2817) (by decide +kernel)⟩
theorem lw_p140 : lw_okq (⟨"LabelHouseModel$DotRows", "inFrame", "(II)Z"⟩, 18) := ⟨⟨by decide +kernel, by decide +kernel⟩, List.mem_of_getElem? (i := 2103) (by decide +kernel), List.mem_of_getElem? (i := 2820) (by decide +kernel), List.mem_of_getElem? (i := 2821) (by decide +kernel)⟩
theorem lw_p141 : lw_okq (⟨"LabelHouseModel$DotRows", "inLine", "(II)Z"⟩, 18) := ⟨⟨by decide +kernel, by decide +kernel⟩, List.mem_of_getElem? (i := 2103) (by decide +kernel), List.mem_of_getElem? (i := 2824) (by decide +kernel), List.mem_of_getElem? (i := 2825) (by decide +kernel)⟩
theorem lw_p142 : lw_okq (⟨"LabelHouseModel$DotRows", "inEllipse", "(II)Z"⟩, 18) := ⟨⟨by decide +kernel, by decide +kernel⟩, List.mem_of_getElem? (i := 2103) (by decide +kernel), List.mem_of_getElem? (i := 2829) (by decide +kernel), List.mem_of_getElem? (i := 2830) (by decide +kernel)⟩
theorem lw_p143 : lw_okq (⟨"LabelHouseModel$DotRows", "inPicture", "(II)Z"⟩, 18) := ⟨⟨by decide +kernel, by decide +kernel⟩, List.mem_of_getElem? (i := 2103) (by decide +kernel), List.mem_of_getElem? (i := 2837) (by decide +kernel), List.mem_of_getElem? (i := 2838) (by decide +kernel)⟩
def lw_privs_9 : List (MethodName × Nat) := [(⟨"LabelHouseModel$ScriptRows", "beginLabel", "()V"⟩, 40), (⟨"LabelHouseModel$ScriptRows", "newField", "()V"⟩, 40), (⟨"LabelHouseModel$ScriptRows", "endLabel", "()V"⟩, 40), (⟨"LabelHouseModel$ScriptRows", "layForm", "()V"⟩, 40), (⟨"LabelHouseModel$ScriptRows", "set", "(I)V"⟩, 40), (⟨"LabelHouseModel", "draw", "(I)I"⟩, 13), (⟨"LabelHouseModel", "draftData", "(I)V"⟩, 13), (⟨"LabelHouseModel", "byteOf", "(II)I"⟩, 13), (⟨"LabelHouseModel", "draft", "(I)V"⟩, 13), (⟨"LabelHouseModel$DotRows", "at", "(IIIII)V"⟩, 18), (⟨"LabelHouseModel$DotRows", "draw", "(I)I"⟩, 18), (⟨"LabelHouseModel$DotRows", "belongs", "(III)Z"⟩, 18), (⟨"LabelHouseModel$DotRows", "inFrame", "(II)Z"⟩, 18), (⟨"LabelHouseModel$DotRows", "inLine", "(II)Z"⟩, 18), (⟨"LabelHouseModel$DotRows", "inEllipse", "(II)Z"⟩, 18), (⟨"LabelHouseModel$DotRows", "inPicture", "(II)Z"⟩, 18)]
theorem lw_r9 : ∀ q ∈ lw_privs_9, lw_okq q := List.forall_mem_cons.mpr ⟨lw_p128, List.forall_mem_cons.mpr ⟨lw_p129, List.forall_mem_cons.mpr ⟨lw_p130, List.forall_mem_cons.mpr ⟨lw_p131, List.forall_mem_cons.mpr ⟨lw_p132, List.forall_mem_cons.mpr ⟨lw_p133, List.forall_mem_cons.mpr ⟨lw_p134, List.forall_mem_cons.mpr ⟨lw_p135, List.forall_mem_cons.mpr ⟨lw_p136, List.forall_mem_cons.mpr ⟨lw_p137, List.forall_mem_cons.mpr ⟨lw_p138, List.forall_mem_cons.mpr ⟨lw_p139, List.forall_mem_cons.mpr ⟨lw_p140, List.forall_mem_cons.mpr ⟨lw_p141, List.forall_mem_cons.mpr ⟨lw_p142, List.forall_mem_cons.mpr ⟨lw_p143, fun _ h => absurd h List.not_mem_nil⟩⟩⟩⟩⟩⟩⟩⟩⟩⟩⟩⟩⟩⟩⟩⟩
theorem lw_p144 : lw_okq (⟨"LabelHouseModel$DotRows", "bit", "(I)Z"⟩, 18) := ⟨⟨by decide +kernel, by decide +kernel⟩, List.mem_of_getElem? (i := 2103) (by decide +kernel), List.mem_of_getElem? (i := 2841) (by decide +kernel), List.mem_of_getElem? (i := 2842) (by decide +kernel)⟩
theorem lw_p145 : lw_okq (⟨"LabelHouseModel$DotRows", "along", "(II)I"⟩, 18) := ⟨⟨by decide +kernel, by decide +kernel⟩, List.mem_of_getElem? (i := 2103) (by decide +kernel), List.mem_of_getElem? (i := 2845) (by decide +kernel), List.mem_of_getElem? (i := 2846) (by decide +kernel)⟩
theorem lw_p146 : lw_okq (⟨"LabelHouseModel$DotRows", "across", "(II)I"⟩, 18) := ⟨⟨by decide +kernel, by decide +kernel⟩, List.mem_of_getElem? (i := 2103) (by decide +kernel), List.mem_of_getElem? (i := 2849) (by decide +kernel), List.mem_of_getElem? (i := 2850) (by decide +kernel)⟩
theorem lw_p147 : lw_okq (⟨"LabelHouseModel$DotRows", "inText", "(II)Z"⟩, 18) := ⟨⟨by decide +kernel, by decide +kernel⟩, List.mem_of_getElem? (i := 2103) (by decide +kernel), List.mem_of_getElem? (i := 2853) (by decide +kernel), List.mem_of_getElem? (i := 2854) (by decide +kernel)⟩
theorem lw_p148 : lw_okq (⟨"LabelHouseModel$DotRows", "inSquare", "(II)Z"⟩, 18) := ⟨⟨by decide +kernel, by decide +kernel⟩, List.mem_of_getElem? (i := 2103) (by decide +kernel), List.mem_of_getElem? (i := 2857) (by decide +kernel), List.mem_of_getElem? (i := 2858) (by decide +kernel)⟩
theorem lw_p149 : lw_okq (⟨"LabelHouseModel$DotRows", "isDark", "(II)Z"⟩, 18) := ⟨⟨by decide +kernel, by decide +kernel⟩, List.mem_of_getElem? (i := 2103) (by decide +kernel), List.mem_of_getElem? (i := 2861) (by decide +kernel), List.mem_of_getElem? (i := 2862) (by decide +kernel)⟩
theorem lw_p150 : lw_okq (⟨"LabelHouseModel$DotRows", "isOn", "(II)Z"⟩, 18) := ⟨⟨by decide +kernel, by decide +kernel⟩, List.mem_of_getElem? (i := 2103) (by decide +kernel), List.mem_of_getElem? (i := 2865) (by decide +kernel), List.mem_of_getElem? (i := 2866) (by decide +kernel)⟩
theorem lw_p151 : lw_okq (⟨"LabelHouseModel$DotRows", "other", "(II)V"⟩, 18) := ⟨⟨by decide +kernel, by decide +kernel⟩, List.mem_of_getElem? (i := 2103) (by decide +kernel), List.mem_of_getElem? (i := 2869) (by decide +kernel), List.mem_of_getElem? (i := 2870) (by decide +kernel)⟩
theorem lw_p152 : lw_okq (⟨"LabelHouseModel", "draftRow", "(I)Z"⟩, 13) := ⟨⟨by decide +kernel, by decide +kernel⟩, List.mem_of_getElem? (i := 1970) (by decide +kernel), List.mem_of_getElem? (i := 2873) (by decide +kernel), List.mem_of_getElem? (i := 2874) (by decide +kernel)⟩
theorem lw_p153 : lw_okq (⟨"LabelHouseModel$LineRows", "relax", "()V"⟩, 18) := ⟨⟨by decide +kernel, by decide +kernel⟩, List.mem_of_getElem? (i := 2165) (by decide +kernel), List.mem_of_getElem? (i := 2891) (by decide +kernel), List.mem_of_getElem? (i := 2892) (by decide +kernel)⟩
theorem lw_p154 : lw_okq (⟨"LabelHouseModel$LineRows", "with", "(III)I"⟩, 18) := ⟨⟨by decide +kernel, by decide +kernel⟩, List.mem_of_getElem? (i := 2165) (by decide +kernel), List.mem_of_getElem? (i := 2895) (by decide +kernel), List.mem_of_getElem? (i := 2896) (by decide +kernel)⟩
theorem lw_p155 : lw_okq (⟨"LabelHouseModel$LineRows", "tells", "(III)I"⟩, 18) := ⟨⟨by decide +kernel, by decide +kernel⟩, List.mem_of_getElem? (i := 2165) (by decide +kernel), List.mem_of_getElem? (i := 2899) (by decide +kernel), List.mem_of_getElem? (i := 2900) (by decide +kernel)⟩
theorem lw_p156 : lw_okq (⟨"LabelHouseModel$LineRows", "at", "(I)I"⟩, 18) := ⟨⟨by decide +kernel, by decide +kernel⟩, List.mem_of_getElem? (i := 2165) (by decide +kernel), List.mem_of_getElem? (i := 2903) (by decide +kernel), List.mem_of_getElem? (i := 2904) (by decide +kernel)⟩
theorem lw_p157 : lw_okq (⟨"LabelHouseModel$LineRows", "isPair", "(II)Z"⟩, 18) := ⟨⟨by decide +kernel, by decide +kernel⟩, List.mem_of_getElem? (i := 2165) (by decide +kernel), List.mem_of_getElem? (i := 2907) (by decide +kernel), List.mem_of_getElem? (i := 2908) (by decide +kernel)⟩
theorem lw_p158 : lw_okq (⟨"LabelHouseModel$LineRows", "leastAt", "(II)I"⟩, 18) := ⟨⟨by decide +kernel, by decide +kernel⟩, List.mem_of_getElem? (i := 2165) (by decide +kernel), List.mem_of_getElem? (i := 2914) (by decide +kernel), List.mem_of_getElem? (i := 2915) (by decide +kernel)⟩
theorem lw_p159 : lw_okq (⟨"LabelHouseModel$LineRows", "isOther", "(II)Z"⟩, 18) := ⟨⟨by decide +kernel, by decide +kernel⟩, List.mem_of_getElem? (i := 2165) (by decide +kernel), List.mem_of_getElem? (i := 2921) (by decide +kernel), List.mem_of_getElem? (i := 2922) (by decide +kernel)⟩
def lw_privs_10 : List (MethodName × Nat) := [(⟨"LabelHouseModel$DotRows", "bit", "(I)Z"⟩, 18), (⟨"LabelHouseModel$DotRows", "along", "(II)I"⟩, 18), (⟨"LabelHouseModel$DotRows", "across", "(II)I"⟩, 18), (⟨"LabelHouseModel$DotRows", "inText", "(II)Z"⟩, 18), (⟨"LabelHouseModel$DotRows", "inSquare", "(II)Z"⟩, 18), (⟨"LabelHouseModel$DotRows", "isDark", "(II)Z"⟩, 18), (⟨"LabelHouseModel$DotRows", "isOn", "(II)Z"⟩, 18), (⟨"LabelHouseModel$DotRows", "other", "(II)V"⟩, 18), (⟨"LabelHouseModel", "draftRow", "(I)Z"⟩, 13), (⟨"LabelHouseModel$LineRows", "relax", "()V"⟩, 18), (⟨"LabelHouseModel$LineRows", "with", "(III)I"⟩, 18), (⟨"LabelHouseModel$LineRows", "tells", "(III)I"⟩, 18), (⟨"LabelHouseModel$LineRows", "at", "(I)I"⟩, 18), (⟨"LabelHouseModel$LineRows", "isPair", "(II)Z"⟩, 18), (⟨"LabelHouseModel$LineRows", "leastAt", "(II)I"⟩, 18), (⟨"LabelHouseModel$LineRows", "isOther", "(II)Z"⟩, 18)]
theorem lw_r10 : ∀ q ∈ lw_privs_10, lw_okq q := List.forall_mem_cons.mpr ⟨lw_p144, List.forall_mem_cons.mpr ⟨lw_p145, List.forall_mem_cons.mpr ⟨lw_p146, List.forall_mem_cons.mpr ⟨lw_p147, List.forall_mem_cons.mpr ⟨lw_p148, List.forall_mem_cons.mpr ⟨lw_p149, List.forall_mem_cons.mpr ⟨lw_p150, List.forall_mem_cons.mpr ⟨lw_p151, List.forall_mem_cons.mpr ⟨lw_p152, List.forall_mem_cons.mpr ⟨lw_p153, List.forall_mem_cons.mpr ⟨lw_p154, List.forall_mem_cons.mpr ⟨lw_p155, List.forall_mem_cons.mpr ⟨lw_p156, List.forall_mem_cons.mpr ⟨lw_p157, List.forall_mem_cons.mpr ⟨lw_p158, List.forall_mem_cons.mpr ⟨lw_p159, fun _ h => absurd h List.not_mem_nil⟩⟩⟩⟩⟩⟩⟩⟩⟩⟩⟩⟩⟩⟩⟩⟩
theorem lw_p160 : lw_okq (⟨"LabelHouseModel$LineRows", "add", "(I)V"⟩, 18) := ⟨⟨by decide +kernel, by decide +kernel⟩, List.mem_of_getElem? (i := 2165) (by decide +kernel), List.mem_of_getElem? (i := 2925) (by decide +kernel), List.mem_of_getElem? (i := 2926) (by decide +kernel)⟩
theorem lw_p161 : lw_okq (⟨"LabelHouseModel$LineRows", "lay", "(III)V"⟩, 18) := ⟨⟨by decide +kernel, by decide +kernel⟩, List.mem_of_getElem? (i := 2165) (by decide +kernel), List.mem_of_getElem? (i := 2939) (by decide +kernel), List.mem_of_getElem? (i := 2940) (by decide +kernel)⟩
theorem lw_p162 : lw_okq (⟨"LabelHouseModel", "draftWidths", "()V"⟩, 13) := ⟨⟨by decide +kernel, by decide +kernel⟩, List.mem_of_getElem? (i := 1970) (by decide +kernel), List.mem_of_getElem? (i := 2944) (by decide +kernel), List.mem_of_getElem? (i := 2945) (by decide +kernel)⟩
theorem lw_p163 : lw_okq (⟨"LabelHouseModel", "draftThirteen", "(I)V"⟩, 13) := ⟨⟨by decide +kernel, by decide +kernel⟩, List.mem_of_getElem? (i := 1970) (by decide +kernel), List.mem_of_getElem? (i := 2956) (by decide +kernel), List.mem_of_getElem? (i := 2957) (by decide +kernel)⟩
theorem lw_p164 : lw_okq (⟨"LabelHouseModel$LineRows", "isTurned", "(II)Z"⟩, 18) := ⟨⟨by decide +kernel, by decide +kernel⟩, List.mem_of_getElem? (i := 2165) (by decide +kernel), List.mem_of_getElem? (i := 2978) (by decide +kernel), List.mem_of_getElem? (i := 2979) (by decide +kernel)⟩
theorem lw_p165 : lw_okq (⟨"LabelHouseModel", "draftSymbol", "(I)I"⟩, 13) := ⟨⟨by decide +kernel, by decide +kernel⟩, List.mem_of_getElem? (i := 1970) (by decide +kernel), List.mem_of_getElem? (i := 2985) (by decide +kernel), List.mem_of_getElem? (i := 2986) (by decide +kernel)⟩
theorem lw_p166 : lw_okq (⟨"LabelHouseModel$SquareRows", "versionFor", "(II)I"⟩, 34) := ⟨⟨by decide +kernel, by decide +kernel⟩, List.mem_of_getElem? (i := 2332) (by decide +kernel), List.mem_of_getElem? (i := 3002) (by decide +kernel), List.mem_of_getElem? (i := 3003) (by decide +kernel)⟩
theorem lw_p167 : lw_okq (⟨"LabelHouseModel$SquareRows", "fits", "(II)Z"⟩, 34) := ⟨⟨by decide +kernel, by decide +kernel⟩, List.mem_of_getElem? (i := 2332) (by decide +kernel), List.mem_of_getElem? (i := 3006) (by decide +kernel), List.mem_of_getElem? (i := 3007) (by decide +kernel)⟩
theorem lw_p168 : lw_okq (⟨"LabelHouseModel$SquareRows", "divide", "(I)V"⟩, 34) := ⟨⟨by decide +kernel, by decide +kernel⟩, List.mem_of_getElem? (i := 2332) (by decide +kernel), List.mem_of_getElem? (i := 3013) (by decide +kernel), List.mem_of_getElem? (i := 3014) (by decide +kernel)⟩
theorem lw_p169 : lw_okq (⟨"LabelHouseModel$SquareRows", "least", "(III)I"⟩, 34) := ⟨⟨by decide +kernel, by decide +kernel⟩, List.mem_of_getElem? (i := 2332) (by decide +kernel), List.mem_of_getElem? (i := 3017) (by decide +kernel), List.mem_of_getElem? (i := 3018) (by decide +kernel)⟩
theorem lw_p170 : lw_okq (⟨"LabelHouseModel$SquareRows", "restOf", "(IIII)I"⟩, 34) := ⟨⟨by decide +kernel, by decide +kernel⟩, List.mem_of_getElem? (i := 2332) (by decide +kernel), List.mem_of_getElem? (i := 3022) (by decide +kernel), List.mem_of_getElem? (i := 3023) (by decide +kernel)⟩
theorem lw_p171 : lw_okq (⟨"LabelHouseModel$SquareRows", "holds", "(II)I"⟩, 34) := ⟨⟨by decide +kernel, by decide +kernel⟩, List.mem_of_getElem? (i := 2332) (by decide +kernel), List.mem_of_getElem? (i := 3044) (by decide +kernel), List.mem_of_getElem? (i := 3045) (by decide +kernel)⟩
theorem lw_p172 : lw_okq (⟨"LabelHouseModel$SquareRows", "checkOf", "(II)I"⟩, 34) := ⟨⟨by decide +kernel, by decide +kernel⟩, List.mem_of_getElem? (i := 2332) (by decide +kernel), List.mem_of_getElem? (i := 3051) (by decide +kernel), List.mem_of_getElem? (i := 3052) (by decide +kernel)⟩
theorem lw_p173 : lw_okq (⟨"LabelHouseModel$SquareRows", "blocksOf", "(II)I"⟩, 34) := ⟨⟨by decide +kernel, by decide +kernel⟩, List.mem_of_getElem? (i := 2332) (by decide +kernel), List.mem_of_getElem? (i := 3055) (by decide +kernel), List.mem_of_getElem? (i := 3056) (by decide +kernel)⟩
theorem lw_p174 : lw_okq (⟨"LabelHouseModel$SquareRows", "layAll", "(II)V"⟩, 34) := ⟨⟨by decide +kernel, by decide +kernel⟩, List.mem_of_getElem? (i := 2332) (by decide +kernel), List.mem_of_getElem? (i := 3059) (by decide +kernel), List.mem_of_getElem? (i := 3060) (by decide +kernel)⟩
theorem lw_p175 : lw_okq (⟨"LabelHouseModel$SquareRows", "laySegment", "(III)V"⟩, 34) := ⟨⟨by decide +kernel, by decide +kernel⟩, List.mem_of_getElem? (i := 2332) (by decide +kernel), List.mem_of_getElem? (i := 3063) (by decide +kernel), List.mem_of_getElem? (i := 3064) (by decide +kernel)⟩
def lw_privs_11 : List (MethodName × Nat) := [(⟨"LabelHouseModel$LineRows", "add", "(I)V"⟩, 18), (⟨"LabelHouseModel$LineRows", "lay", "(III)V"⟩, 18), (⟨"LabelHouseModel", "draftWidths", "()V"⟩, 13), (⟨"LabelHouseModel", "draftThirteen", "(I)V"⟩, 13), (⟨"LabelHouseModel$LineRows", "isTurned", "(II)Z"⟩, 18), (⟨"LabelHouseModel", "draftSymbol", "(I)I"⟩, 13), (⟨"LabelHouseModel$SquareRows", "versionFor", "(II)I"⟩, 34), (⟨"LabelHouseModel$SquareRows", "fits", "(II)Z"⟩, 34), (⟨"LabelHouseModel$SquareRows", "divide", "(I)V"⟩, 34), (⟨"LabelHouseModel$SquareRows", "least", "(III)I"⟩, 34), (⟨"LabelHouseModel$SquareRows", "restOf", "(IIII)I"⟩, 34), (⟨"LabelHouseModel$SquareRows", "holds", "(II)I"⟩, 34), (⟨"LabelHouseModel$SquareRows", "checkOf", "(II)I"⟩, 34), (⟨"LabelHouseModel$SquareRows", "blocksOf", "(II)I"⟩, 34), (⟨"LabelHouseModel$SquareRows", "layAll", "(II)V"⟩, 34), (⟨"LabelHouseModel$SquareRows", "laySegment", "(III)V"⟩, 34)]
theorem lw_r11 : ∀ q ∈ lw_privs_11, lw_okq q := List.forall_mem_cons.mpr ⟨lw_p160, List.forall_mem_cons.mpr ⟨lw_p161, List.forall_mem_cons.mpr ⟨lw_p162, List.forall_mem_cons.mpr ⟨lw_p163, List.forall_mem_cons.mpr ⟨lw_p164, List.forall_mem_cons.mpr ⟨lw_p165, List.forall_mem_cons.mpr ⟨lw_p166, List.forall_mem_cons.mpr ⟨lw_p167, List.forall_mem_cons.mpr ⟨lw_p168, List.forall_mem_cons.mpr ⟨lw_p169, List.forall_mem_cons.mpr ⟨lw_p170, List.forall_mem_cons.mpr ⟨lw_p171, List.forall_mem_cons.mpr ⟨lw_p172, List.forall_mem_cons.mpr ⟨lw_p173, List.forall_mem_cons.mpr ⟨lw_p174, List.forall_mem_cons.mpr ⟨lw_p175, fun _ h => absurd h List.not_mem_nil⟩⟩⟩⟩⟩⟩⟩⟩⟩⟩⟩⟩⟩⟩⟩⟩
theorem lw_p176 : lw_okq (⟨"LabelHouseModel$SquareRows", "lay", "(II)V"⟩, 34) := ⟨⟨by decide +kernel, by decide +kernel⟩, List.mem_of_getElem? (i := 2332) (by decide +kernel), List.mem_of_getElem? (i := 3067) (by decide +kernel), List.mem_of_getElem? (i := 3068) (by decide +kernel)⟩
theorem lw_p177 : lw_okq (⟨"LabelHouseModel$SquareRows", "check", "(II)V"⟩, 34) := ⟨⟨by decide +kernel, by decide +kernel⟩, List.mem_of_getElem? (i := 2332) (by decide +kernel), List.mem_of_getElem? (i := 3071) (by decide +kernel), List.mem_of_getElem? (i := 3072) (by decide +kernel)⟩
theorem lw_p178 : lw_okq (⟨"LabelHouseModel$SquareRows", "generate", "(I)V"⟩, 34) := ⟨⟨by decide +kernel, by decide +kernel⟩, List.mem_of_getElem? (i := 2332) (by decide +kernel), List.mem_of_getElem? (i := 3075) (by decide +kernel), List.mem_of_getElem? (i := 3076) (by decide +kernel)⟩
theorem lw_p179 : lw_okq (⟨"LabelHouseModel$SquareRows", "shareOf", "(III)I"⟩, 34) := ⟨⟨by decide +kernel, by decide +kernel⟩, List.mem_of_getElem? (i := 2332) (by decide +kernel), List.mem_of_getElem? (i := 3085) (by decide +kernel), List.mem_of_getElem? (i := 3086) (by decide +kernel)⟩
theorem lw_p180 : lw_okq (⟨"LabelHouseModel$SquareRows", "startOf", "(III)I"⟩, 34) := ⟨⟨by decide +kernel, by decide +kernel⟩, List.mem_of_getElem? (i := 2332) (by decide +kernel), List.mem_of_getElem? (i := 3089) (by decide +kernel), List.mem_of_getElem? (i := 3090) (by decide +kernel)⟩
theorem lw_p181 : lw_okq (⟨"LabelHouseModel$SquareRows", "placeOf", "(IIII)I"⟩, 34) := ⟨⟨by decide +kernel, by decide +kernel⟩, List.mem_of_getElem? (i := 2332) (by decide +kernel), List.mem_of_getElem? (i := 3093) (by decide +kernel), List.mem_of_getElem? (i := 3094) (by decide +kernel)⟩
theorem lw_p182 : lw_okq (⟨"LabelHouseModel$SquareRows", "frame", "(I)V"⟩, 34) := ⟨⟨by decide +kernel, by decide +kernel⟩, List.mem_of_getElem? (i := 2332) (by decide +kernel), List.mem_of_getElem? (i := 3097) (by decide +kernel), List.mem_of_getElem? (i := 3098) (by decide +kernel)⟩
theorem lw_p183 : lw_okq (⟨"LabelHouseModel$SquareRows", "fix", "(IIZ)V"⟩, 34) := ⟨⟨by decide +kernel, by decide +kernel⟩, List.mem_of_getElem? (i := 2332) (by decide +kernel), List.mem_of_getElem? (i := 3104) (by decide +kernel), List.mem_of_getElem? (i := 3105) (by decide +kernel)⟩
theorem lw_p184 : lw_okq (⟨"LabelHouseModel$SquareRows", "moduleAt", "(II)I"⟩, 34) := ⟨⟨by decide +kernel, by decide +kernel⟩, List.mem_of_getElem? (i := 2332) (by decide +kernel), List.mem_of_getElem? (i := 3108) (by decide +kernel), List.mem_of_getElem? (i := 3109) (by decide +kernel)⟩
theorem lw_p185 : lw_okq (⟨"LabelHouseModel$SquareRows", "square", "(IIIZ)V"⟩, 34) := ⟨⟨by decide +kernel, by decide +kernel⟩, List.mem_of_getElem? (i := 2332) (by decide +kernel), List.mem_of_getElem? (i := 3112) (by decide +kernel), List.mem_of_getElem? (i := 3113) (by decide +kernel)⟩
theorem lw_p186 : lw_okq (⟨"LabelHouseModel$SquareRows", "layForm", "(I)V"⟩, 34) := ⟨⟨by decide +kernel, by decide +kernel⟩, List.mem_of_getElem? (i := 2332) (by decide +kernel), List.mem_of_getElem? (i := 3122) (by decide +kernel), List.mem_of_getElem? (i := 3123) (by decide +kernel)⟩
theorem lw_p187 : lw_okq (⟨"LabelHouseModel$SquareRows", "goThrough", "(IZI)V"⟩, 34) := ⟨⟨by decide +kernel, by decide +kernel⟩, List.mem_of_getElem? (i := 2332) (by decide +kernel), List.mem_of_getElem? (i := 3141) (by decide +kernel), List.mem_of_getElem? (i := 3142) (by decide +kernel)⟩
theorem lw_p188 : lw_okq (⟨"LabelHouseModel$SquareRows", "penalty", "()I"⟩, 34) := ⟨⟨by decide +kernel, by decide +kernel⟩, List.mem_of_getElem? (i := 2332) (by decide +kernel), List.mem_of_getElem? (i := 3148) (by decide +kernel), List.mem_of_getElem? (i := 3149) (by decide +kernel)⟩
theorem lw_p189 : lw_okq (⟨"LabelHouseModel$SquareRows", "lines", "(Z)I"⟩, 34) := ⟨⟨by decide +kernel, by decide +kernel⟩, List.mem_of_getElem? (i := 2332) (by decide +kernel), List.mem_of_getElem? (i := 3152) (by decide +kernel), List.mem_of_getElem? (i := 3153) (by decide +kernel)⟩
theorem lw_p190 : lw_okq (⟨"LabelHouseModel$SquareRows", "module", "(IIZ)I"⟩, 34) := ⟨⟨by decide +kernel, by decide +kernel⟩, List.mem_of_getElem? (i := 2332) (by decide +kernel), List.mem_of_getElem? (i := 3156) (by decide +kernel), List.mem_of_getElem? (i := 3157) (by decide +kernel)⟩
theorem lw_p191 : lw_okq (⟨"LabelHouseModel", "follow", "()V"⟩, 13) := ⟨⟨by decide +kernel, by decide +kernel⟩, List.mem_of_getElem? (i := 1970) (by decide +kernel), List.mem_of_getElem? (i := 3187) (by decide +kernel), List.mem_of_getElem? (i := 3188) (by decide +kernel)⟩
def lw_privs_12 : List (MethodName × Nat) := [(⟨"LabelHouseModel$SquareRows", "lay", "(II)V"⟩, 34), (⟨"LabelHouseModel$SquareRows", "check", "(II)V"⟩, 34), (⟨"LabelHouseModel$SquareRows", "generate", "(I)V"⟩, 34), (⟨"LabelHouseModel$SquareRows", "shareOf", "(III)I"⟩, 34), (⟨"LabelHouseModel$SquareRows", "startOf", "(III)I"⟩, 34), (⟨"LabelHouseModel$SquareRows", "placeOf", "(IIII)I"⟩, 34), (⟨"LabelHouseModel$SquareRows", "frame", "(I)V"⟩, 34), (⟨"LabelHouseModel$SquareRows", "fix", "(IIZ)V"⟩, 34), (⟨"LabelHouseModel$SquareRows", "moduleAt", "(II)I"⟩, 34), (⟨"LabelHouseModel$SquareRows", "square", "(IIIZ)V"⟩, 34), (⟨"LabelHouseModel$SquareRows", "layForm", "(I)V"⟩, 34), (⟨"LabelHouseModel$SquareRows", "goThrough", "(IZI)V"⟩, 34), (⟨"LabelHouseModel$SquareRows", "penalty", "()I"⟩, 34), (⟨"LabelHouseModel$SquareRows", "lines", "(Z)I"⟩, 34), (⟨"LabelHouseModel$SquareRows", "module", "(IIZ)I"⟩, 34), (⟨"LabelHouseModel", "follow", "()V"⟩, 13)]
theorem lw_r12 : ∀ q ∈ lw_privs_12, lw_okq q := List.forall_mem_cons.mpr ⟨lw_p176, List.forall_mem_cons.mpr ⟨lw_p177, List.forall_mem_cons.mpr ⟨lw_p178, List.forall_mem_cons.mpr ⟨lw_p179, List.forall_mem_cons.mpr ⟨lw_p180, List.forall_mem_cons.mpr ⟨lw_p181, List.forall_mem_cons.mpr ⟨lw_p182, List.forall_mem_cons.mpr ⟨lw_p183, List.forall_mem_cons.mpr ⟨lw_p184, List.forall_mem_cons.mpr ⟨lw_p185, List.forall_mem_cons.mpr ⟨lw_p186, List.forall_mem_cons.mpr ⟨lw_p187, List.forall_mem_cons.mpr ⟨lw_p188, List.forall_mem_cons.mpr ⟨lw_p189, List.forall_mem_cons.mpr ⟨lw_p190, List.forall_mem_cons.mpr ⟨lw_p191, fun _ h => absurd h List.not_mem_nil⟩⟩⟩⟩⟩⟩⟩⟩⟩⟩⟩⟩⟩⟩⟩⟩
theorem lw_p192 : lw_okq (⟨"LabelHouseModel$PlaceRows", "forget", "()V"⟩, 11) := ⟨⟨by decide +kernel, by decide +kernel⟩, List.mem_of_getElem? (i := 2441) (by decide +kernel), List.mem_of_getElem? (i := 3199) (by decide +kernel), List.mem_of_getElem? (i := 3200) (by decide +kernel)⟩
theorem lw_p193 : lw_okq (⟨"LabelHouseModel", "row", "(II)J"⟩, 13) := ⟨⟨by decide +kernel, by decide +kernel⟩, List.mem_of_getElem? (i := 1970) (by decide +kernel), List.mem_of_getElem? (i := 3203) (by decide +kernel), List.mem_of_getElem? (i := 3204) (by decide +kernel)⟩
theorem lw_p194 : lw_okq (⟨"LabelHouseModel", "isOn", "(JJ)Z"⟩, 13) := ⟨⟨by decide +kernel, by decide +kernel⟩, List.mem_of_getElem? (i := 1970) (by decide +kernel), List.mem_of_getElem? (i := 3207) (by decide +kernel), List.mem_of_getElem? (i := 3208) (by decide +kernel)⟩
theorem lw_p195 : lw_okq (⟨"LabelHouseModel", "isDark", "(II)Z"⟩, 13) := ⟨⟨by decide +kernel, by decide +kernel⟩, List.mem_of_getElem? (i := 1970) (by decide +kernel), List.mem_of_getElem? (i := 3211) (by decide +kernel), List.mem_of_getElem? (i := 3212) (by decide +kernel)⟩
theorem lw_p196 : lw_okq (⟨"LabelHouseModel$PlaceRows", "isOn", "(JJ)Z"⟩, 11) := ⟨⟨by decide +kernel, by decide +kernel⟩, List.mem_of_getElem? (i := 2441) (by decide +kernel), List.mem_of_getElem? (i := 3223) (by decide +kernel), List.mem_of_getElem? (i := 3224) (by decide +kernel)⟩
theorem lw_p197 : lw_okq (⟨"LabelHouseModel$PlaceRows", "isDark", "(II)Z"⟩, 11) := ⟨⟨by decide +kernel, by decide +kernel⟩, List.mem_of_getElem? (i := 2441) (by decide +kernel), List.mem_of_getElem? (i := 3227) (by decide +kernel), List.mem_of_getElem? (i := 3228) (by decide +kernel)⟩
theorem lw_p198 : lw_okq (⟨"LabelHouseModel$DotRows", "turnOnce", "()V"⟩, 18) := ⟨⟨by decide +kernel, by decide +kernel⟩, List.mem_of_getElem? (i := 2103) (by decide +kernel), List.mem_of_getElem? (i := 3247) (by decide +kernel), List.mem_of_getElem? (i := 3248) (by decide +kernel)⟩
theorem lw_p199 : lw_okq (⟨"LabelHouseModel$PlaceRows", "add", "()V"⟩, 11) := ⟨⟨by decide +kernel, by decide +kernel⟩, List.mem_of_getElem? (i := 2441) (by decide +kernel), List.mem_of_getElem? (i := 3275) (by decide +kernel), List.mem_of_getElem? (i := 3276) (by decide +kernel)⟩
theorem lw_p200 : lw_okq (⟨"LabelHouseModel$PlaceRows", "list", "(I)V"⟩, 11) := ⟨⟨by decide +kernel, by decide +kernel⟩, List.mem_of_getElem? (i := 2441) (by decide +kernel), List.mem_of_getElem? (i := 3279) (by decide +kernel), List.mem_of_getElem? (i := 3280) (by decide +kernel)⟩
theorem lw_p201 : lw_okq (⟨"LabelHouseModel$PlaceRows", "look", "(III)Z"⟩, 11) := ⟨⟨by decide +kernel, by decide +kernel⟩, List.mem_of_getElem? (i := 2441) (by decide +kernel), List.mem_of_getElem? (i := 3295) (by decide +kernel), List.mem_of_getElem? (i := 3296) (by decide +kernel)⟩
theorem lw_p202 : lw_okq (⟨"LabelHouseModel$PlaceRows", "isPlace", "(III)Z"⟩, 11) := ⟨⟨by decide +kernel, by decide +kernel⟩, List.mem_of_getElem? (i := 2441) (by decide +kernel), List.mem_of_getElem? (i := 3299) (by decide +kernel), List.mem_of_getElem? (i := 3300) (by decide +kernel)⟩
theorem lw_p203 : lw_okq (⟨"LabelHouseModel$PlaceRows", "wrong", "(IIIIII)I"⟩, 11) := ⟨⟨by decide +kernel, by decide +kernel⟩, List.mem_of_getElem? (i := 2441) (by decide +kernel), List.mem_of_getElem? (i := 3303) (by decide +kernel), List.mem_of_getElem? (i := 3304) (by decide +kernel)⟩
theorem lw_p204 : lw_okq (⟨"LabelHouseModel$PlaceRows", "darkIn", "(IIIIII)I"⟩, 11) := ⟨⟨by decide +kernel, by decide +kernel⟩, List.mem_of_getElem? (i := 2441) (by decide +kernel), List.mem_of_getElem? (i := 3307) (by decide +kernel), List.mem_of_getElem? (i := 3308) (by decide +kernel)⟩
theorem lw_p205 : lw_okq (⟨"LabelHouseModel$PlaceRows", "enter", "(IIIIII)V"⟩, 11) := ⟨⟨by decide +kernel, by decide +kernel⟩, List.mem_of_getElem? (i := 2441) (by decide +kernel), List.mem_of_getElem? (i := 3320) (by decide +kernel), List.mem_of_getElem? (i := 3321) (by decide +kernel)⟩
theorem lw_p206 : lw_okq (⟨"LabelHouseModel$PlaceRows", "order", "()V"⟩, 11) := ⟨⟨by decide +kernel, by decide +kernel⟩, List.mem_of_getElem? (i := 2441) (by decide +kernel), List.mem_of_getElem? (i := 3324) (by decide +kernel), List.mem_of_getElem? (i := 3325) (by decide +kernel)⟩
theorem lw_p207 : lw_okq (⟨"LabelHouseModel$PlaceRows", "isBefore", "(II)Z"⟩, 11) := ⟨⟨by decide +kernel, by decide +kernel⟩, List.mem_of_getElem? (i := 2441) (by decide +kernel), List.mem_of_getElem? (i := 3328) (by decide +kernel), List.mem_of_getElem? (i := 3329) (by decide +kernel)⟩
def lw_privs_13 : List (MethodName × Nat) := [(⟨"LabelHouseModel$PlaceRows", "forget", "()V"⟩, 11), (⟨"LabelHouseModel", "row", "(II)J"⟩, 13), (⟨"LabelHouseModel", "isOn", "(JJ)Z"⟩, 13), (⟨"LabelHouseModel", "isDark", "(II)Z"⟩, 13), (⟨"LabelHouseModel$PlaceRows", "isOn", "(JJ)Z"⟩, 11), (⟨"LabelHouseModel$PlaceRows", "isDark", "(II)Z"⟩, 11), (⟨"LabelHouseModel$DotRows", "turnOnce", "()V"⟩, 18), (⟨"LabelHouseModel$PlaceRows", "add", "()V"⟩, 11), (⟨"LabelHouseModel$PlaceRows", "list", "(I)V"⟩, 11), (⟨"LabelHouseModel$PlaceRows", "look", "(III)Z"⟩, 11), (⟨"LabelHouseModel$PlaceRows", "isPlace", "(III)Z"⟩, 11), (⟨"LabelHouseModel$PlaceRows", "wrong", "(IIIIII)I"⟩, 11), (⟨"LabelHouseModel$PlaceRows", "darkIn", "(IIIIII)I"⟩, 11), (⟨"LabelHouseModel$PlaceRows", "enter", "(IIIIII)V"⟩, 11), (⟨"LabelHouseModel$PlaceRows", "order", "()V"⟩, 11), (⟨"LabelHouseModel$PlaceRows", "isBefore", "(II)Z"⟩, 11)]
theorem lw_r13 : ∀ q ∈ lw_privs_13, lw_okq q := List.forall_mem_cons.mpr ⟨lw_p192, List.forall_mem_cons.mpr ⟨lw_p193, List.forall_mem_cons.mpr ⟨lw_p194, List.forall_mem_cons.mpr ⟨lw_p195, List.forall_mem_cons.mpr ⟨lw_p196, List.forall_mem_cons.mpr ⟨lw_p197, List.forall_mem_cons.mpr ⟨lw_p198, List.forall_mem_cons.mpr ⟨lw_p199, List.forall_mem_cons.mpr ⟨lw_p200, List.forall_mem_cons.mpr ⟨lw_p201, List.forall_mem_cons.mpr ⟨lw_p202, List.forall_mem_cons.mpr ⟨lw_p203, List.forall_mem_cons.mpr ⟨lw_p204, List.forall_mem_cons.mpr ⟨lw_p205, List.forall_mem_cons.mpr ⟨lw_p206, List.forall_mem_cons.mpr ⟨lw_p207, fun _ h => absurd h List.not_mem_nil⟩⟩⟩⟩⟩⟩⟩⟩⟩⟩⟩⟩⟩⟩⟩⟩
theorem lw_p208 : lw_okq (⟨"LabelHouseModel$PlaceRows", "leads", "(I)Z"⟩, 11) := ⟨⟨by decide +kernel, by decide +kernel⟩, List.mem_of_getElem? (i := 2441) (by decide +kernel), List.mem_of_getElem? (i := 3332) (by decide +kernel), List.mem_of_getElem? (i := 3333) (by decide +kernel)⟩
theorem lw_p209 : lw_okq (⟨"LabelHouseModel$PlaceRows", "meet", "(II)Z"⟩, 11) := ⟨⟨by decide +kernel, by decide +kernel⟩, List.mem_of_getElem? (i := 2441) (by decide +kernel), List.mem_of_getElem? (i := 3336) (by decide +kernel), List.mem_of_getElem? (i := 3337) (by decide +kernel)⟩
theorem lw_p210 : lw_okq (⟨"LabelHouseModel$PlaceRows", "differ", "(IIIZZ)I"⟩, 11) := ⟨⟨by decide +kernel, by decide +kernel⟩, List.mem_of_getElem? (i := 2441) (by decide +kernel), List.mem_of_getElem? (i := 3364) (by decide +kernel), List.mem_of_getElem? (i := 3365) (by decide +kernel)⟩
theorem lw_p211 : lw_okq (⟨"LabelHouseModel$SquareRows", "formNumberRead", "()I"⟩, 34) := ⟨⟨by decide +kernel, by decide +kernel⟩, List.mem_of_getElem? (i := 2332) (by decide +kernel), List.mem_of_getElem? (i := 3376) (by decide +kernel), List.mem_of_getElem? (i := 3377) (by decide +kernel)⟩
theorem lw_p212 : lw_okq (⟨"LabelHouseModel$SquareRows", "formBits", "(Z)I"⟩, 34) := ⟨⟨by decide +kernel, by decide +kernel⟩, List.mem_of_getElem? (i := 2332) (by decide +kernel), List.mem_of_getElem? (i := 3380) (by decide +kernel), List.mem_of_getElem? (i := 3381) (by decide +kernel)⟩
theorem lw_p213 : lw_okq (⟨"LabelHouseModel$SquareRows", "allBlocks", "(II)I"⟩, 34) := ⟨⟨by decide +kernel, by decide +kernel⟩, List.mem_of_getElem? (i := 2332) (by decide +kernel), List.mem_of_getElem? (i := 3387) (by decide +kernel), List.mem_of_getElem? (i := 3388) (by decide +kernel)⟩
theorem lw_p214 : lw_okq (⟨"LabelHouseModel$SquareRows", "correct", "(III)I"⟩, 34) := ⟨⟨by decide +kernel, by decide +kernel⟩, List.mem_of_getElem? (i := 2332) (by decide +kernel), List.mem_of_getElem? (i := 3394) (by decide +kernel), List.mem_of_getElem? (i := 3395) (by decide +kernel)⟩
theorem lw_p215 : lw_okq (⟨"LabelHouseModel$SquareRows", "isZero", "([III)Z"⟩, 34) := ⟨⟨by decide +kernel, by decide +kernel⟩, List.mem_of_getElem? (i := 2332) (by decide +kernel), List.mem_of_getElem? (i := 3398) (by decide +kernel), List.mem_of_getElem? (i := 3399) (by decide +kernel)⟩
theorem lw_p216 : lw_okq (⟨"LabelHouseModel$SquareRows", "finds", "(II)Z"⟩, 34) := ⟨⟨by decide +kernel, by decide +kernel⟩, List.mem_of_getElem? (i := 2332) (by decide +kernel), List.mem_of_getElem? (i := 3402) (by decide +kernel), List.mem_of_getElem? (i := 3403) (by decide +kernel)⟩
theorem lw_p217 : lw_okq (⟨"LabelHouseModel$SquareRows", "solves", "(I)Z"⟩, 34) := ⟨⟨by decide +kernel, by decide +kernel⟩, List.mem_of_getElem? (i := 2332) (by decide +kernel), List.mem_of_getElem? (i := 3406) (by decide +kernel), List.mem_of_getElem? (i := 3407) (by decide +kernel)⟩
theorem lw_p218 : lw_okq (⟨"LabelHouseModel$SquareRows", "mends", "(II)Z"⟩, 34) := ⟨⟨by decide +kernel, by decide +kernel⟩, List.mem_of_getElem? (i := 2332) (by decide +kernel), List.mem_of_getElem? (i := 3413) (by decide +kernel), List.mem_of_getElem? (i := 3414) (by decide +kernel)⟩
theorem lw_p219 : lw_okq (⟨"LabelHouseModel$SquareRows", "segments", "(I)V"⟩, 34) := ⟨⟨by decide +kernel, by decide +kernel⟩, List.mem_of_getElem? (i := 2332) (by decide +kernel), List.mem_of_getElem? (i := 3417) (by decide +kernel), List.mem_of_getElem? (i := 3418) (by decide +kernel)⟩
theorem lw_p220 : lw_okq (⟨"LabelHouseModel$SquareRows", "next", "(I)I"⟩, 34) := ⟨⟨by decide +kernel, by decide +kernel⟩, List.mem_of_getElem? (i := 2332) (by decide +kernel), List.mem_of_getElem? (i := 3421) (by decide +kernel), List.mem_of_getElem? (i := 3422) (by decide +kernel)⟩
theorem lw_p221 : lw_okq (⟨"LabelHouseModel$SquareRows", "group", "(II)V"⟩, 34) := ⟨⟨by decide +kernel, by decide +kernel⟩, List.mem_of_getElem? (i := 2332) (by decide +kernel), List.mem_of_getElem? (i := 3425) (by decide +kernel), List.mem_of_getElem? (i := 3426) (by decide +kernel)⟩
theorem lw_p222 : lw_okq (⟨"LabelHouseModel$SquareRows", "take", "(I)V"⟩, 34) := ⟨⟨by decide +kernel, by decide +kernel⟩, List.mem_of_getElem? (i := 2332) (by decide +kernel), List.mem_of_getElem? (i := 3432) (by decide +kernel), List.mem_of_getElem? (i := 3433) (by decide +kernel)⟩
theorem lw_p223 : lw_okq (⟨"LabelHouseModel", "strip", "(IIIZ)V"⟩, 13) := ⟨⟨by decide +kernel, by decide +kernel⟩, List.mem_of_getElem? (i := 1970) (by decide +kernel), List.mem_of_getElem? (i := 3444) (by decide +kernel), List.mem_of_getElem? (i := 3445) (by decide +kernel)⟩
def lw_privs_14 : List (MethodName × Nat) := [(⟨"LabelHouseModel$PlaceRows", "leads", "(I)Z"⟩, 11), (⟨"LabelHouseModel$PlaceRows", "meet", "(II)Z"⟩, 11), (⟨"LabelHouseModel$PlaceRows", "differ", "(IIIZZ)I"⟩, 11), (⟨"LabelHouseModel$SquareRows", "formNumberRead", "()I"⟩, 34), (⟨"LabelHouseModel$SquareRows", "formBits", "(Z)I"⟩, 34), (⟨"LabelHouseModel$SquareRows", "allBlocks", "(II)I"⟩, 34), (⟨"LabelHouseModel$SquareRows", "correct", "(III)I"⟩, 34), (⟨"LabelHouseModel$SquareRows", "isZero", "([III)Z"⟩, 34), (⟨"LabelHouseModel$SquareRows", "finds", "(II)Z"⟩, 34), (⟨"LabelHouseModel$SquareRows", "solves", "(I)Z"⟩, 34), (⟨"LabelHouseModel$SquareRows", "mends", "(II)Z"⟩, 34), (⟨"LabelHouseModel$SquareRows", "segments", "(I)V"⟩, 34), (⟨"LabelHouseModel$SquareRows", "next", "(I)I"⟩, 34), (⟨"LabelHouseModel$SquareRows", "group", "(II)V"⟩, 34), (⟨"LabelHouseModel$SquareRows", "take", "(I)V"⟩, 34), (⟨"LabelHouseModel", "strip", "(IIIZ)V"⟩, 13)]
theorem lw_r14 : ∀ q ∈ lw_privs_14, lw_okq q := List.forall_mem_cons.mpr ⟨lw_p208, List.forall_mem_cons.mpr ⟨lw_p209, List.forall_mem_cons.mpr ⟨lw_p210, List.forall_mem_cons.mpr ⟨lw_p211, List.forall_mem_cons.mpr ⟨lw_p212, List.forall_mem_cons.mpr ⟨lw_p213, List.forall_mem_cons.mpr ⟨lw_p214, List.forall_mem_cons.mpr ⟨lw_p215, List.forall_mem_cons.mpr ⟨lw_p216, List.forall_mem_cons.mpr ⟨lw_p217, List.forall_mem_cons.mpr ⟨lw_p218, List.forall_mem_cons.mpr ⟨lw_p219, List.forall_mem_cons.mpr ⟨lw_p220, List.forall_mem_cons.mpr ⟨lw_p221, List.forall_mem_cons.mpr ⟨lw_p222, List.forall_mem_cons.mpr ⟨lw_p223, fun _ h => absurd h List.not_mem_nil⟩⟩⟩⟩⟩⟩⟩⟩⟩⟩⟩⟩⟩⟩⟩⟩
theorem lw_p224 : lw_okq (⟨"LabelHouseModel$LineRows", "isSome", "()Z"⟩, 18) := ⟨⟨by decide +kernel, by decide +kernel⟩, List.mem_of_getElem? (i := 2165) (by decide +kernel), List.mem_of_getElem? (i := 3464) (by decide +kernel), List.mem_of_getElem? (i := 3465) (by decide +kernel)⟩
theorem lw_p225 : lw_okq (⟨"LabelHouseModel$LineRows", "isThirteen", "()Z"⟩, 18) := ⟨⟨by decide +kernel, by decide +kernel⟩, List.mem_of_getElem? (i := 2165) (by decide +kernel), List.mem_of_getElem? (i := 3468) (by decide +kernel), List.mem_of_getElem? (i := 3469) (by decide +kernel)⟩
theorem lw_p226 : lw_okq (⟨"LabelHouseModel$LineRows", "sumOf", "(II)I"⟩, 18) := ⟨⟨by decide +kernel, by decide +kernel⟩, List.mem_of_getElem? (i := 2165) (by decide +kernel), List.mem_of_getElem? (i := 3472) (by decide +kernel), List.mem_of_getElem? (i := 3473) (by decide +kernel)⟩
theorem lw_p227 : lw_okq (⟨"LabelHouseModel$LineRows", "counts", "(IIII)I"⟩, 18) := ⟨⟨by decide +kernel, by decide +kernel⟩, List.mem_of_getElem? (i := 2165) (by decide +kernel), List.mem_of_getElem? (i := 3476) (by decide +kernel), List.mem_of_getElem? (i := 3477) (by decide +kernel)⟩
theorem lw_p228 : lw_okq (⟨"LabelHouseModel$LineRows", "tell", "(I)V"⟩, 18) := ⟨⟨by decide +kernel, by decide +kernel⟩, List.mem_of_getElem? (i := 2165) (by decide +kernel), List.mem_of_getElem? (i := 3483) (by decide +kernel), List.mem_of_getElem? (i := 3484) (by decide +kernel)⟩
theorem lw_p229 : lw_okq (⟨"LabelHouseModel$LineRows", "isRow", "(I)Z"⟩, 18) := ⟨⟨by decide +kernel, by decide +kernel⟩, List.mem_of_getElem? (i := 2165) (by decide +kernel), List.mem_of_getElem? (i := 3487) (by decide +kernel), List.mem_of_getElem? (i := 3488) (by decide +kernel)⟩
theorem lw_p230 : lw_okq (⟨"LabelHouseModel$LineRows", "reverse", "([I[I)V"⟩, 18) := ⟨⟨by decide +kernel, by decide +kernel⟩, List.mem_of_getElem? (i := 2165) (by decide +kernel), List.mem_of_getElem? (i := 3491) (by decide +kernel), List.mem_of_getElem? (i := 3492) (by decide +kernel)⟩
def lw_privs_15 : List (MethodName × Nat) := [(⟨"LabelHouseModel$LineRows", "isSome", "()Z"⟩, 18), (⟨"LabelHouseModel$LineRows", "isThirteen", "()Z"⟩, 18), (⟨"LabelHouseModel$LineRows", "sumOf", "(II)I"⟩, 18), (⟨"LabelHouseModel$LineRows", "counts", "(IIII)I"⟩, 18), (⟨"LabelHouseModel$LineRows", "tell", "(I)V"⟩, 18), (⟨"LabelHouseModel$LineRows", "isRow", "(I)Z"⟩, 18), (⟨"LabelHouseModel$LineRows", "reverse", "([I[I)V"⟩, 18)]
theorem lw_r15 : ∀ q ∈ lw_privs_15, lw_okq q := List.forall_mem_cons.mpr ⟨lw_p224, List.forall_mem_cons.mpr ⟨lw_p225, List.forall_mem_cons.mpr ⟨lw_p226, List.forall_mem_cons.mpr ⟨lw_p227, List.forall_mem_cons.mpr ⟨lw_p228, List.forall_mem_cons.mpr ⟨lw_p229, List.forall_mem_cons.mpr ⟨lw_p230, fun _ h => absurd h List.not_mem_nil⟩⟩⟩⟩⟩⟩⟩
def lw_privs : List (MethodName × Nat) := lw_privs_1 ++ (lw_privs_2 ++ (lw_privs_3 ++ (lw_privs_4 ++ (lw_privs_5 ++ (lw_privs_6 ++ (lw_privs_7 ++ (lw_privs_8 ++ (lw_privs_9 ++ (lw_privs_10 ++ (lw_privs_11 ++ (lw_privs_12 ++ (lw_privs_13 ++ (lw_privs_14 ++ (lw_privs_15))))))))))))))
def lw_tbl : List Cond := k2_sels lw_privs ++ tables_1
theorem lw_privs_ok : ∀ q ∈ lw_privs, lw_okq q := by
  show ∀ q ∈ lw_privs_1 ++ (lw_privs_2 ++ (lw_privs_3 ++ (lw_privs_4 ++ (lw_privs_5 ++ (lw_privs_6 ++ (lw_privs_7 ++ (lw_privs_8 ++ (lw_privs_9 ++ (lw_privs_10 ++ (lw_privs_11 ++ (lw_privs_12 ++ (lw_privs_13 ++ (lw_privs_14 ++ (lw_privs_15)))))))))))))), lw_okq q
  exact List.forall_mem_append.mpr ⟨lw_r1, List.forall_mem_append.mpr ⟨lw_r2, List.forall_mem_append.mpr ⟨lw_r3, List.forall_mem_append.mpr ⟨lw_r4, List.forall_mem_append.mpr ⟨lw_r5, List.forall_mem_append.mpr ⟨lw_r6, List.forall_mem_append.mpr ⟨lw_r7, List.forall_mem_append.mpr ⟨lw_r8, List.forall_mem_append.mpr ⟨lw_r9, List.forall_mem_append.mpr ⟨lw_r10, List.forall_mem_append.mpr ⟨lw_r11, List.forall_mem_append.mpr ⟨lw_r12, List.forall_mem_append.mpr ⟨lw_r13, List.forall_mem_append.mpr ⟨lw_r14, lw_r15⟩⟩⟩⟩⟩⟩⟩⟩⟩⟩⟩⟩⟩⟩

/-! THE TABLES OF THIS CLAIM -/
def RX0 : String := "LabelHouse$Bars"
def TX0 : u_T := fun k => match k with
  | 0 => ("LabelHouse$Bars", "runs", "[I", true)
  | 1 => ("LabelHouse$Bars", "widths", "[I", true)
  | 2 => ("LabelHouse$Bars", "widthCount", "I", false)
  | 3 => ("LabelHouse$Bars", "ofFigures", "Z", false)
  | 4 => ("LabelHouse$Bars", "fromBack", "Z", false)
  | 5 => ("LabelHouse$Bars", "signs", "[I", true)
  | 6 => ("LabelHouse$Bars", "signCount", "I", false)
  | 7 => ("LabelHouse$Bars", "fewest", "[I", true)
  | 8 => ("LabelHouse$Bars", "symbols", "[I", true)
  | 9 => ("LabelHouse$Bars", "symbolCount", "I", false)
  | 10 => ("LabelHouse$Bars", "figures", "[I", true)
  | 11 => ("LabelHouse$Bars", "length", "I", false)
  | _ => ("LabelHouse$Bars", "written", "I", false)
def tyX0 : Nat → FieldType := fun k => match k with
  | 0 => .array .int
  | 1 => .array .int
  | 2 => .int
  | 3 => .boolean
  | 4 => .boolean
  | 5 => .array .int
  | 6 => .int
  | 7 => .array .int
  | 8 => .array .int
  | 9 => .int
  | 10 => .array .int
  | 11 => .int
  | _ => .int
abbrev wsX00 : List Cond := u_ws RX0 TX0 13
theorem nmX0 : ∀ a, a < 13 → ∀ b, b < 13 → a ≠ b → (TX0 a).2.1 ≠ (TX0 b).2.1 := by decide +kernel
theorem tyX0_ok : ∀ k, k < 13 → parseFieldDescriptor (TX0 k).2.2.1 = some (tyX0 k) := by decide +kernel
def RX1 : String := "LabelHouse$Blocks"
def TX1 : u_T := fun k => match k with
  | 0 => ("LabelHouse$Blocks", "codewords", "[B", true)
  | 1 => ("LabelHouse$Blocks", "powers", "[I", true)
  | 2 => ("LabelHouse$Blocks", "logs", "[I", true)
  | 3 => ("LabelHouse$Blocks", "generator", "[I", true)
  | 4 => ("LabelHouse$Blocks", "word", "[I", true)
  | 5 => ("LabelHouse$Blocks", "syndromes", "[I", true)
  | 6 => ("LabelHouse$Blocks", "locator", "[I", true)
  | 7 => ("LabelHouse$Blocks", "former", "[I", true)
  | 8 => ("LabelHouse$Blocks", "saved", "[I", true)
  | 9 => ("LabelHouse$Blocks", "evaluator", "[I", true)
  | 10 => ("LabelHouse$Blocks", "held", "I", false)
  | 11 => ("LabelHouse$Blocks", "count", "I", false)
  | 12 => ("LabelHouse$Blocks", "checks", "I", false)
  | _ => ("LabelHouse$Blocks", "total", "I", false)
def tyX1 : Nat → FieldType := fun k => match k with
  | 0 => .array .byte
  | 1 => .array .int
  | 2 => .array .int
  | 3 => .array .int
  | 4 => .array .int
  | 5 => .array .int
  | 6 => .array .int
  | 7 => .array .int
  | 8 => .array .int
  | 9 => .array .int
  | 10 => .int
  | 11 => .int
  | 12 => .int
  | _ => .int
abbrev wsX10 : List Cond := u_ws RX1 TX1 14
theorem nmX1 : ∀ a, a < 14 → ∀ b, b < 14 → a ≠ b → (TX1 a).2.1 ≠ (TX1 b).2.1 := by decide +kernel
theorem tyX1_ok : ∀ k, k < 14 → parseFieldDescriptor (TX1 k).2.2.1 = some (tyX1 k) := by decide +kernel
def RX2 : String := "LabelHouse$Field"
def TX2 : u_T := fun k => match k with
  | 0 => ("LabelHouse$Field", "originX", "I", false)
  | 1 => ("LabelHouse$Field", "originY", "I", false)
  | 2 => ("LabelHouse$Field", "kind", "I", false)
  | 3 => ("LabelHouse$Field", "numbers", "[I", true)
  | 4 => ("LabelHouse$Field", "over", "Z", false)
  | 5 => ("LabelHouse$Field", "counts", "Z", false)
  | 6 => ("LabelHouse$Field", "step", "I", false)
  | 7 => ("LabelHouse$Field", "bytes", "[B", true)
  | 8 => ("LabelHouse$Field", "size", "I", false)
  | 9 => ("LabelHouse$Field", "lines", "I", false)
  | 10 => ("LabelHouse$Field", "lineFrom", "[I", true)
  | _ => ("LabelHouse$Field", "lineSize", "[I", true)
def tyX2 : Nat → FieldType := fun k => match k with
  | 0 => .int
  | 1 => .int
  | 2 => .int
  | 3 => .array .int
  | 4 => .boolean
  | 5 => .boolean
  | 6 => .int
  | 7 => .array .byte
  | 8 => .int
  | 9 => .int
  | 10 => .array .int
  | _ => .array .int
abbrev wsX20 : List Cond := u_ws RX2 TX2 12
theorem nmX2 : ∀ a, a < 12 → ∀ b, b < 12 → a ≠ b → (TX2 a).2.1 ≠ (TX2 b).2.1 := by decide +kernel
theorem tyX2_ok : ∀ k, k < 12 → parseFieldDescriptor (TX2 k).2.2.1 = some (tyX2 k) := by decide +kernel
def RX3 : String := "LabelHouse$Finder"
def TX3 : u_T := fun k => match k with
  | 0 => ("LabelHouse$Finder", "leaders", "I", false)
  | 1 => ("LabelHouse$Finder", "sheet", "LLabelHouse$Sheet;", true)
  | 2 => ("LabelHouse$Finder", "sums", "[I", true)
  | 3 => ("LabelHouse$Finder", "cornerWrong", "[S", true)
  | 4 => ("LabelHouse$Finder", "keys", "[J", true)
  | 5 => ("LabelHouse$Finder", "wrongs", "[I", true)
  | 6 => ("LabelHouse$Finder", "leads", "[Z", true)
  | 7 => ("LabelHouse$Finder", "corners", "[I", true)
  | 8 => ("LabelHouse$Finder", "places", "I", false)
  | 9 => ("LabelHouse$Finder", "m", "I", false)
  | _ => ("LabelHouse$Finder", "limit", "I", false)
def tyX3 : Nat → FieldType := fun k => match k with
  | 0 => .int
  | 1 => .object "LabelHouse$Sheet"
  | 2 => .array .int
  | 3 => .array .short
  | 4 => .array .long
  | 5 => .array .int
  | 6 => .array .boolean
  | 7 => .array .int
  | 8 => .int
  | 9 => .int
  | _ => .int
abbrev wsX30 : List Cond := u_ws RX3 TX3 11
theorem nmX3 : ∀ a, a < 11 → ∀ b, b < 11 → a ≠ b → (TX3 a).2.1 ≠ (TX3 b).2.1 := by decide +kernel
theorem tyX3_ok : ∀ k, k < 11 → parseFieldDescriptor (TX3 k).2.2.1 = some (tyX3 k) := by decide +kernel
def RX4 : String := "LabelHouse$Grid"
def TX4 : u_T := fun k => match k with
  | 0 => ("LabelHouse$Grid", "segments", "LLabelHouse$Segments;", true)
  | 1 => ("LabelHouse$Grid", "side", "I", false)
  | 2 => ("LabelHouse$Grid", "level", "I", false)
  | 3 => ("LabelHouse$Grid", "mask", "I", false)
  | 4 => ("LabelHouse$Grid", "mended", "I", false)
  | 5 => ("LabelHouse$Grid", "blocks", "LLabelHouse$Blocks;", true)
  | 6 => ("LabelHouse$Grid", "version", "I", false)
  | 7 => ("LabelHouse$Grid", "modules", "[B", true)
  | _ => ("LabelHouse$Grid", "fixed", "[B", true)
def tyX4 : Nat → FieldType := fun k => match k with
  | 0 => .object "LabelHouse$Segments"
  | 1 => .int
  | 2 => .int
  | 3 => .int
  | 4 => .int
  | 5 => .object "LabelHouse$Blocks"
  | 6 => .int
  | 7 => .array .byte
  | _ => .array .byte
abbrev wsX40 : List Cond := u_ws RX4 TX4 9
theorem nmX4 : ∀ a, a < 9 → ∀ b, b < 9 → a ≠ b → (TX4 a).2.1 ≠ (TX4 b).2.1 := by decide +kernel
theorem tyX4_ok : ∀ k, k < 9 → parseFieldDescriptor (TX4 k).2.2.1 = some (tyX4 k) := by decide +kernel
def RX5 : String := "LabelHouse$Orders"
def TX5 : u_T := fun k => match k with
  | 0 => ("LabelHouse$Orders", "rows", "[I", true)
  | 1 => ("LabelHouse$Orders", "bytes", "[B", true)
  | 2 => ("LabelHouse$Orders", "counted", "[B", true)
  | _ => ("LabelHouse$Orders", "count", "I", false)
def tyX5 : Nat → FieldType := fun k => match k with
  | 0 => .array .int
  | 1 => .array .byte
  | 2 => .array .byte
  | _ => .int
abbrev wsX50 : List Cond := u_ws RX5 TX5 4
theorem nmX5 : ∀ a, a < 4 → ∀ b, b < 4 → a ≠ b → (TX5 a).2.1 ≠ (TX5 b).2.1 := by decide +kernel
theorem tyX5_ok : ∀ k, k < 4 → parseFieldDescriptor (TX5 k).2.2.1 = some (tyX5 k) := by decide +kernel
def RX6 : String := "LabelHouse$Pen"
def TX6 : u_T := fun k => match k with
  | 0 => ("LabelHouse$Pen", "sheet", "LLabelHouse$Sheet;", true)
  | 1 => ("LabelHouse$Pen", "strips", "LLabelHouse$Bars;", true)
  | 2 => ("LabelHouse$Pen", "grid", "LLabelHouse$Grid;", true)
  | 3 => ("LabelHouse$Pen", "sizes", "[I", true)
  | 4 => ("LabelHouse$Pen", "cells", "[I", true)
  | 5 => ("LabelHouse$Pen", "x", "I", false)
  | 6 => ("LabelHouse$Pen", "y", "I", false)
  | _ => ("LabelHouse$Pen", "quarter", "I", false)
def tyX6 : Nat → FieldType := fun k => match k with
  | 0 => .object "LabelHouse$Sheet"
  | 1 => .object "LabelHouse$Bars"
  | 2 => .object "LabelHouse$Grid"
  | 3 => .array .int
  | 4 => .array .int
  | 5 => .int
  | 6 => .int
  | _ => .int
abbrev wsX60 : List Cond := u_ws RX6 TX6 8
theorem nmX6 : ∀ a, a < 8 → ∀ b, b < 8 → a ≠ b → (TX6 a).2.1 ≠ (TX6 b).2.1 := by decide +kernel
theorem tyX6_ok : ∀ k, k < 8 → parseFieldDescriptor (TX6 k).2.2.1 = some (tyX6 k) := by decide +kernel
def RX7 : String := "LabelHouse$Segments"
def TX7 : u_T := fun k => match k with
  | 0 => ("LabelHouse$Segments", "bytes", "[B", true)
  | 1 => ("LabelHouse$Segments", "count", "I", false)
  | 2 => ("LabelHouse$Segments", "size", "I", false)
  | 3 => ("LabelHouse$Segments", "fewest", "[I", true)
  | 4 => ("LabelHouse$Segments", "modes", "[B", true)
  | 5 => ("LabelHouse$Segments", "bit", "I", false)
  | _ => ("LabelHouse$Segments", "bits", "I", false)
def tyX7 : Nat → FieldType := fun k => match k with
  | 0 => .array .byte
  | 1 => .int
  | 2 => .int
  | 3 => .array .int
  | 4 => .array .byte
  | 5 => .int
  | _ => .int
abbrev wsX70 : List Cond := u_ws RX7 TX7 7
theorem nmX7 : ∀ a, a < 7 → ∀ b, b < 7 → a ≠ b → (TX7 a).2.1 ≠ (TX7 b).2.1 := by decide +kernel
theorem tyX7_ok : ∀ k, k < 7 → parseFieldDescriptor (TX7 k).2.2.1 = some (tyX7 k) := by decide +kernel
def RX8 : String := "LabelHouse$Setter"
def TX8 : u_T := fun k => match k with
  | 0 => ("LabelHouse$Setter", "tape", "LLabelHouse$Tape;", true)
  | 1 => ("LabelHouse$Setter", "all", "LLabelHouse$Orders;", true)
  | 2 => ("LabelHouse$Setter", "draft", "LLabelHouse$Orders;", true)
  | 3 => ("LabelHouse$Setter", "field", "LLabelHouse$Field;", true)
  | 4 => ("LabelHouse$Setter", "labels", "I", false)
  | 5 => ("LabelHouse$Setter", "labelRows", "[I", true)
  | 6 => ("LabelHouse$Setter", "metFault", "I", false)
  | 7 => ("LabelHouse$Setter", "metPlace", "I", false)
  | 8 => ("LabelHouse$Setter", "inLabel", "Z", false)
  | 9 => ("LabelHouse$Setter", "commands", "I", false)
  | 10 => ("LabelHouse$Setter", "width", "I", false)
  | 11 => ("LabelHouse$Setter", "height", "I", false)
  | 12 => ("LabelHouse$Setter", "copies", "I", false)
  | 13 => ("LabelHouse$Setter", "home", "[I", true)
  | 14 => ("LabelHouse$Setter", "texts", "[I", true)
  | 15 => ("LabelHouse$Setter", "formEnd", "I", false)
  | _ => ("LabelHouse$Setter", "made", "I", false)
def tyX8 : Nat → FieldType := fun k => match k with
  | 0 => .object "LabelHouse$Tape"
  | 1 => .object "LabelHouse$Orders"
  | 2 => .object "LabelHouse$Orders"
  | 3 => .object "LabelHouse$Field"
  | 4 => .int
  | 5 => .array .int
  | 6 => .int
  | 7 => .int
  | 8 => .boolean
  | 9 => .int
  | 10 => .int
  | 11 => .int
  | 12 => .int
  | 13 => .array .int
  | 14 => .array .int
  | 15 => .int
  | _ => .int
abbrev wsX80 : List Cond := u_ws RX8 TX8 17
theorem nmX8 : ∀ a, a < 17 → ∀ b, b < 17 → a ≠ b → (TX8 a).2.1 ≠ (TX8 b).2.1 := by decide +kernel
theorem tyX8_ok : ∀ k, k < 17 → parseFieldDescriptor (TX8 k).2.2.1 = some (tyX8 k) := by decide +kernel
def RX9 : String := "LabelHouse$Sheet"
def TX9 : u_T := fun k => match k with
  | 0 => ("LabelHouse$Sheet", "width", "I", false)
  | 1 => ("LabelHouse$Sheet", "height", "I", false)
  | 2 => ("LabelHouse$Sheet", "over", "Z", false)
  | 3 => ("LabelHouse$Sheet", "struck", "I", false)
  | 4 => ("LabelHouse$Sheet", "words", "[J", false)
  | _ => ("LabelHouse$Sheet", "spare", "[J", false)
def tyX9 : Nat → FieldType := fun k => match k with
  | 0 => .int
  | 1 => .int
  | 2 => .boolean
  | 3 => .int
  | 4 => .array .long
  | _ => .array .long
abbrev wsX90 : List Cond := u_ws RX9 TX9 6
theorem nmX9 : ∀ a, a < 6 → ∀ b, b < 6 → a ≠ b → (TX9 a).2.1 ≠ (TX9 b).2.1 := by decide +kernel
theorem tyX9_ok : ∀ k, k < 6 → parseFieldDescriptor (TX9 k).2.2.1 = some (tyX9 k) := by decide +kernel
def RX10 : String := "LabelHouse$Tape"
def TX10 : u_T := fun k => match k with
  | 0 => ("LabelHouse$Tape", "bytes", "[B", true)
  | 1 => ("LabelHouse$Tape", "size", "I", false)
  | 2 => ("LabelHouse$Tape", "forms", "[B", true)
  | 3 => ("LabelHouse$Tape", "formSizes", "[I", true)
  | 4 => ("LabelHouse$Tape", "variables", "[B", true)
  | 5 => ("LabelHouse$Tape", "variableSizes", "[I", true)
  | 6 => ("LabelHouse$Tape", "depth", "I", false)
  | 7 => ("LabelHouse$Tape", "open", "[I", true)
  | 8 => ("LabelHouse$Tape", "at", "[I", true)
  | 9 => ("LabelHouse$Tape", "numbers", "[I", true)
  | 10 => ("LabelHouse$Tape", "data", "[B", true)
  | _ => ("LabelHouse$Tape", "dataSize", "I", false)
def tyX10 : Nat → FieldType := fun k => match k with
  | 0 => .array .byte
  | 1 => .int
  | 2 => .array .byte
  | 3 => .array .int
  | 4 => .array .byte
  | 5 => .array .int
  | 6 => .int
  | 7 => .array .int
  | 8 => .array .int
  | 9 => .array .int
  | 10 => .array .byte
  | _ => .int
abbrev wsX100 : List Cond := u_ws RX10 TX10 12
theorem nmX10 : ∀ a, a < 12 → ∀ b, b < 12 → a ≠ b → (TX10 a).2.1 ≠ (TX10 b).2.1 := by decide +kernel
theorem tyX10_ok : ∀ k, k < 12 → parseFieldDescriptor (TX10 k).2.2.1 = some (tyX10 k) := by decide +kernel
def RX11 : String := "LabelHouse"
def TX11 : u_T := fun k => match k with
  | 0 => ("LabelHouse", "tape", "LLabelHouse$Tape;", true)
  | 1 => ("LabelHouse", "orders", "LLabelHouse$Orders;", true)
  | 2 => ("LabelHouse", "setter", "LLabelHouse$Setter;", true)
  | 3 => ("LabelHouse", "sheet", "LLabelHouse$Sheet;", true)
  | 4 => ("LabelHouse", "pen", "LLabelHouse$Pen;", true)
  | 5 => ("LabelHouse", "strips", "LLabelHouse$Bars;", true)
  | 6 => ("LabelHouse", "grid", "LLabelHouse$Grid;", true)
  | 7 => ("LabelHouse", "finder", "LLabelHouse$Finder;", true)
  | 8 => ("LabelHouse", "drawnDots", "[I", true)
  | 9 => ("LabelHouse", "drawnOrders", "I", false)
  | 10 => ("LabelHouse", "lastRead", "[I", true)
  | 11 => ("LabelHouse", "readBytes", "[B", true)
  | _ => ("LabelHouse", "readSize", "I", false)
def tyX11 : Nat → FieldType := fun k => match k with
  | 0 => .object "LabelHouse$Tape"
  | 1 => .object "LabelHouse$Orders"
  | 2 => .object "LabelHouse$Setter"
  | 3 => .object "LabelHouse$Sheet"
  | 4 => .object "LabelHouse$Pen"
  | 5 => .object "LabelHouse$Bars"
  | 6 => .object "LabelHouse$Grid"
  | 7 => .object "LabelHouse$Finder"
  | 8 => .array .int
  | 9 => .int
  | 10 => .array .int
  | 11 => .array .byte
  | _ => .int
abbrev wsX110 : List Cond := u_ws RX11 TX11 13
theorem nmX11 : ∀ a, a < 13 → ∀ b, b < 13 → a ≠ b → (TX11 a).2.1 ≠ (TX11 b).2.1 := by decide +kernel
theorem tyX11_ok : ∀ k, k < 13 → parseFieldDescriptor (TX11 k).2.2.1 = some (tyX11 k) := by decide +kernel
def RX12 : String := "LabelHouseModel$DotRows"
def TX12 : u_T := fun k => match k with
  | 0 => ("LabelHouseModel$DotRows", "thrown", "I", false)
  | 1 => ("LabelHouseModel$DotRows", "width", "I", false)
  | 2 => ("LabelHouseModel$DotRows", "height", "I", false)
  | 3 => ("LabelHouseModel$DotRows", "way", "I", false)
  | 4 => ("LabelHouseModel$DotRows", "dark", "[I", true)
  | 5 => ("LabelHouseModel$DotRows", "before", "[I", true)
  | 6 => ("LabelHouseModel$DotRows", "draft", "[I", true)
  | 7 => ("LabelHouseModel$DotRows", "drafted", "I", false)
  | 8 => ("LabelHouseModel$DotRows", "sizes", "[I", true)
  | 9 => ("LabelHouseModel$DotRows", "cells", "[I", true)
  | 10 => ("LabelHouseModel$DotRows", "fx", "I", false)
  | 11 => ("LabelHouseModel$DotRows", "fy", "I", false)
  | 12 => ("LabelHouseModel$DotRows", "fa", "I", false)
  | 13 => ("LabelHouseModel$DotRows", "fb", "I", false)
  | 14 => ("LabelHouseModel$DotRows", "fc", "I", false)
  | 15 => ("LabelHouseModel$DotRows", "quarter", "I", false)
  | 16 => ("LabelHouseModel$DotRows", "font", "I", false)
  | _ => ("LabelHouseModel$DotRows", "columns", "[Z", true)
def tyX12 : Nat → FieldType := fun k => match k with
  | 0 => .int
  | 1 => .int
  | 2 => .int
  | 3 => .int
  | 4 => .array .int
  | 5 => .array .int
  | 6 => .array .int
  | 7 => .int
  | 8 => .array .int
  | 9 => .array .int
  | 10 => .int
  | 11 => .int
  | 12 => .int
  | 13 => .int
  | 14 => .int
  | 15 => .int
  | 16 => .int
  | _ => .array .boolean
abbrev wsX120 : List Cond := u_ws RX12 TX12 18
theorem nmX12 : ∀ a, a < 18 → ∀ b, b < 18 → a ≠ b → (TX12 a).2.1 ≠ (TX12 b).2.1 := by decide +kernel
theorem tyX12_ok : ∀ k, k < 18 → parseFieldDescriptor (TX12 k).2.2.1 = some (tyX12 k) := by decide +kernel
def RX13 : String := "LabelHouseModel$LineRows"
def TX13 : u_T := fun k => match k with
  | 0 => ("LabelHouseModel$LineRows", "bars", "[I", true)
  | 1 => ("LabelHouseModel$LineRows", "figures", "[I", true)
  | 2 => ("LabelHouseModel$LineRows", "turns", "[I", true)
  | 3 => ("LabelHouseModel$LineRows", "thrown", "I", false)
  | 4 => ("LabelHouseModel$LineRows", "text", "[I", true)
  | 5 => ("LabelHouseModel$LineRows", "length", "I", false)
  | 6 => ("LabelHouseModel$LineRows", "least", "[I", true)
  | 7 => ("LabelHouseModel$LineRows", "row", "[I", true)
  | 8 => ("LabelHouseModel$LineRows", "symbols", "I", false)
  | 9 => ("LabelHouseModel$LineRows", "strip", "[I", true)
  | 10 => ("LabelHouseModel$LineRows", "widths", "I", false)
  | 11 => ("LabelHouseModel$LineRows", "turned", "[I", true)
  | 12 => ("LabelHouseModel$LineRows", "found", "[I", true)
  | 13 => ("LabelHouseModel$LineRows", "signs", "[I", true)
  | 14 => ("LabelHouseModel$LineRows", "told", "I", false)
  | 15 => ("LabelHouseModel$LineRows", "back", "Z", false)
  | 16 => ("LabelHouseModel$LineRows", "draft", "[I", true)
  | _ => ("LabelHouseModel$LineRows", "drafted", "I", false)
def tyX13 : Nat → FieldType := fun k => match k with
  | 0 => .array .int
  | 1 => .array .int
  | 2 => .array .int
  | 3 => .int
  | 4 => .array .int
  | 5 => .int
  | 6 => .array .int
  | 7 => .array .int
  | 8 => .int
  | 9 => .array .int
  | 10 => .int
  | 11 => .array .int
  | 12 => .array .int
  | 13 => .array .int
  | 14 => .int
  | 15 => .boolean
  | 16 => .array .int
  | _ => .int
abbrev wsX130 : List Cond := u_ws RX13 TX13 18
theorem nmX13 : ∀ a, a < 18 → ∀ b, b < 18 → a ≠ b → (TX13 a).2.1 ≠ (TX13 b).2.1 := by decide +kernel
theorem tyX13_ok : ∀ k, k < 18 → parseFieldDescriptor (TX13 k).2.2.1 = some (tyX13 k) := by decide +kernel
def RX14 : String := "LabelHouseModel$PlaceRows"
def TX14 : u_T := fun k => match k with
  | 0 => ("LabelHouseModel$PlaceRows", "thrown", "I", false)
  | 1 => ("LabelHouseModel$PlaceRows", "width", "I", false)
  | 2 => ("LabelHouseModel$PlaceRows", "height", "I", false)
  | 3 => ("LabelHouseModel$PlaceRows", "dark", "[Z", true)
  | 4 => ("LabelHouseModel$PlaceRows", "sums", "[I", true)
  | 5 => ("LabelHouseModel$PlaceRows", "runs", "[I", true)
  | 6 => ("LabelHouseModel$PlaceRows", "runsOf", "I", false)
  | 7 => ("LabelHouseModel$PlaceRows", "stand", "[I", true)
  | 8 => ("LabelHouseModel$PlaceRows", "stood", "I", false)
  | 9 => ("LabelHouseModel$PlaceRows", "found", "[I", true)
  | _ => ("LabelHouseModel$PlaceRows", "many", "I", false)
def tyX14 : Nat → FieldType := fun k => match k with
  | 0 => .int
  | 1 => .int
  | 2 => .int
  | 3 => .array .boolean
  | 4 => .array .int
  | 5 => .array .int
  | 6 => .int
  | 7 => .array .int
  | 8 => .int
  | 9 => .array .int
  | _ => .int
abbrev wsX140 : List Cond := u_ws RX14 TX14 11
theorem nmX14 : ∀ a, a < 11 → ∀ b, b < 11 → a ≠ b → (TX14 a).2.1 ≠ (TX14 b).2.1 := by decide +kernel
theorem tyX14_ok : ∀ k, k < 11 → parseFieldDescriptor (TX14 k).2.2.1 = some (tyX14 k) := by decide +kernel
def RX15 : String := "LabelHouseModel$ScriptRows"
def TX15 : u_T := fun k => match k with
  | 0 => ("LabelHouseModel$ScriptRows", "thrown", "I", false)
  | 1 => ("LabelHouseModel$ScriptRows", "text", "[I", true)
  | 2 => ("LabelHouseModel$ScriptRows", "length", "I", false)
  | 3 => ("LabelHouseModel$ScriptRows", "forms", "[I", true)
  | 4 => ("LabelHouseModel$ScriptRows", "formSizes", "[I", true)
  | 5 => ("LabelHouseModel$ScriptRows", "variables", "[I", true)
  | 6 => ("LabelHouseModel$ScriptRows", "variableSizes", "[I", true)
  | 7 => ("LabelHouseModel$ScriptRows", "pending", "[I", true)
  | 8 => ("LabelHouseModel$ScriptRows", "left", "I", false)
  | 9 => ("LabelHouseModel$ScriptRows", "depth", "I", false)
  | 10 => ("LabelHouseModel$ScriptRows", "outer", "I", false)
  | 11 => ("LabelHouseModel$ScriptRows", "commands", "I", false)
  | 12 => ("LabelHouseModel$ScriptRows", "at", "I", false)
  | 13 => ("LabelHouseModel$ScriptRows", "fault", "I", false)
  | 14 => ("LabelHouseModel$ScriptRows", "place", "I", false)
  | 15 => ("LabelHouseModel$ScriptRows", "number", "[I", true)
  | 16 => ("LabelHouseModel$ScriptRows", "some", "[I", true)
  | 17 => ("LabelHouseModel$ScriptRows", "someSize", "I", false)
  | 18 => ("LabelHouseModel$ScriptRows", "inside", "Z", false)
  | 19 => ("LabelHouseModel$ScriptRows", "wide", "I", false)
  | 20 => ("LabelHouseModel$ScriptRows", "high", "I", false)
  | 21 => ("LabelHouseModel$ScriptRows", "copies", "I", false)
  | 22 => ("LabelHouseModel$ScriptRows", "homeX", "I", false)
  | 23 => ("LabelHouseModel$ScriptRows", "homeY", "I", false)
  | 24 => ("LabelHouseModel$ScriptRows", "texts", "[I", true)
  | 25 => ("LabelHouseModel$ScriptRows", "fields", "I", false)
  | 26 => ("LabelHouseModel$ScriptRows", "made", "I", false)
  | 27 => ("LabelHouseModel$ScriptRows", "field", "[I", true)
  | 28 => ("LabelHouseModel$ScriptRows", "told", "[I", true)
  | 29 => ("LabelHouseModel$ScriptRows", "fieldData", "[I", true)
  | 30 => ("LabelHouseModel$ScriptRows", "toldData", "[I", true)
  | 31 => ("LabelHouseModel$ScriptRows", "copy", "[I", true)
  | 32 => ("LabelHouseModel$ScriptRows", "wrong", "Z", false)
  | 33 => ("LabelHouseModel$ScriptRows", "keeping", "Z", false)
  | 34 => ("LabelHouseModel$ScriptRows", "fresh", "I", false)
  | 35 => ("LabelHouseModel$ScriptRows", "labels", "I", false)
  | 36 => ("LabelHouseModel$ScriptRows", "label", "[I", true)
  | 37 => ("LabelHouseModel$ScriptRows", "orders", "I", false)
  | 38 => ("LabelHouseModel$ScriptRows", "order", "[I", true)
  | _ => ("LabelHouseModel$ScriptRows", "orderData", "[I", true)
def tyX15 : Nat → FieldType := fun k => match k with
  | 0 => .int
  | 1 => .array .int
  | 2 => .int
  | 3 => .array .int
  | 4 => .array .int
  | 5 => .array .int
  | 6 => .array .int
  | 7 => .array .int
  | 8 => .int
  | 9 => .int
  | 10 => .int
  | 11 => .int
  | 12 => .int
  | 13 => .int
  | 14 => .int
  | 15 => .array .int
  | 16 => .array .int
  | 17 => .int
  | 18 => .boolean
  | 19 => .int
  | 20 => .int
  | 21 => .int
  | 22 => .int
  | 23 => .int
  | 24 => .array .int
  | 25 => .int
  | 26 => .int
  | 27 => .array .int
  | 28 => .array .int
  | 29 => .array .int
  | 30 => .array .int
  | 31 => .array .int
  | 32 => .boolean
  | 33 => .boolean
  | 34 => .int
  | 35 => .int
  | 36 => .array .int
  | 37 => .int
  | 38 => .array .int
  | _ => .array .int
abbrev wsX150 : List Cond := u_ws RX15 TX15 40
theorem nmX15 : ∀ a, a < 40 → ∀ b, b < 40 → a ≠ b → (TX15 a).2.1 ≠ (TX15 b).2.1 := by decide +kernel
theorem tyX15_ok : ∀ k, k < 40 → parseFieldDescriptor (TX15 k).2.2.1 = some (tyX15 k) := by decide +kernel
def RX16 : String := "LabelHouseModel$SquareRows"
def TX16 : u_T := fun k => match k with
  | 0 => ("LabelHouseModel$SquareRows", "thrown", "I", false)
  | 1 => ("LabelHouseModel$SquareRows", "checkBytes", "[I", true)
  | 2 => ("LabelHouseModel$SquareRows", "blocks", "[I", true)
  | 3 => ("LabelHouseModel$SquareRows", "data", "[I", true)
  | 4 => ("LabelHouseModel$SquareRows", "length", "I", false)
  | 5 => ("LabelHouseModel$SquareRows", "modules", "[I", true)
  | 6 => ("LabelHouseModel$SquareRows", "fixed", "[I", true)
  | 7 => ("LabelHouseModel$SquareRows", "version", "I", false)
  | 8 => ("LabelHouseModel$SquareRows", "side", "I", false)
  | 9 => ("LabelHouseModel$SquareRows", "made", "Z", false)
  | 10 => ("LabelHouseModel$SquareRows", "tells", "[I", true)
  | 11 => ("LabelHouseModel$SquareRows", "segmentModes", "[I", true)
  | 12 => ("LabelHouseModel$SquareRows", "segmentLengths", "[I", true)
  | 13 => ("LabelHouseModel$SquareRows", "segments", "I", false)
  | 14 => ("LabelHouseModel$SquareRows", "modes", "[I", true)
  | 15 => ("LabelHouseModel$SquareRows", "takes", "[I", true)
  | 16 => ("LabelHouseModel$SquareRows", "bits", "I", false)
  | 17 => ("LabelHouseModel$SquareRows", "bytes", "[I", true)
  | 18 => ("LabelHouseModel$SquareRows", "words", "[I", true)
  | 19 => ("LabelHouseModel$SquareRows", "filled", "I", false)
  | 20 => ("LabelHouseModel$SquareRows", "block", "[I", true)
  | 21 => ("LabelHouseModel$SquareRows", "tried", "[I", true)
  | 22 => ("LabelHouseModel$SquareRows", "values", "[I", true)
  | 23 => ("LabelHouseModel$SquareRows", "system", "[I", true)
  | 24 => ("LabelHouseModel$SquareRows", "solved", "[I", true)
  | 25 => ("LabelHouseModel$SquareRows", "places", "[I", true)
  | 26 => ("LabelHouseModel$SquareRows", "generator", "[I", true)
  | 27 => ("LabelHouseModel$SquareRows", "readBytes", "[I", true)
  | 28 => ("LabelHouseModel$SquareRows", "readLength", "I", false)
  | 29 => ("LabelHouseModel$SquareRows", "at", "I", false)
  | 30 => ("LabelHouseModel$SquareRows", "all", "I", false)
  | 31 => ("LabelHouseModel$SquareRows", "fault", "I", false)
  | 32 => ("LabelHouseModel$SquareRows", "good", "Z", false)
  | _ => ("LabelHouseModel$SquareRows", "readings", "[I", true)
def tyX16 : Nat → FieldType := fun k => match k with
  | 0 => .int
  | 1 => .array .int
  | 2 => .array .int
  | 3 => .array .int
  | 4 => .int
  | 5 => .array .int
  | 6 => .array .int
  | 7 => .int
  | 8 => .int
  | 9 => .boolean
  | 10 => .array .int
  | 11 => .array .int
  | 12 => .array .int
  | 13 => .int
  | 14 => .array .int
  | 15 => .array .int
  | 16 => .int
  | 17 => .array .int
  | 18 => .array .int
  | 19 => .int
  | 20 => .array .int
  | 21 => .array .int
  | 22 => .array .int
  | 23 => .array .int
  | 24 => .array .int
  | 25 => .array .int
  | 26 => .array .int
  | 27 => .array .int
  | 28 => .int
  | 29 => .int
  | 30 => .int
  | 31 => .int
  | 32 => .boolean
  | _ => .array .int
abbrev wsX160 : List Cond := u_ws RX16 TX16 34
theorem nmX16 : ∀ a, a < 34 → ∀ b, b < 34 → a ≠ b → (TX16 a).2.1 ≠ (TX16 b).2.1 := by decide +kernel
theorem tyX16_ok : ∀ k, k < 34 → parseFieldDescriptor (TX16 k).2.2.1 = some (tyX16 k) := by decide +kernel
def RX17 : String := "LabelHouseModel"
def TX17 : u_T := fun k => match k with
  | 0 => ("LabelHouseModel", "thrown", "I", false)
  | 1 => ("LabelHouseModel", "tape", "[I", true)
  | 2 => ("LabelHouseModel", "length", "I", false)
  | 3 => ("LabelHouseModel", "script", "LLabelHouseModel$ScriptRows;", true)
  | 4 => ("LabelHouseModel", "dots", "LLabelHouseModel$DotRows;", true)
  | 5 => ("LabelHouseModel", "lines", "LLabelHouseModel$LineRows;", true)
  | 6 => ("LabelHouseModel", "squares", "LLabelHouseModel$SquareRows;", true)
  | 7 => ("LabelHouseModel", "places", "LLabelHouseModel$PlaceRows;", true)
  | 8 => ("LabelHouseModel", "drawn", "[I", true)
  | 9 => ("LabelHouseModel", "orders", "I", false)
  | 10 => ("LabelHouseModel", "kind", "I", false)
  | 11 => ("LabelHouseModel", "bytes", "[I", true)
  | _ => ("LabelHouseModel", "many", "I", false)
def tyX17 : Nat → FieldType := fun k => match k with
  | 0 => .int
  | 1 => .array .int
  | 2 => .int
  | 3 => .object "LabelHouseModel$ScriptRows"
  | 4 => .object "LabelHouseModel$DotRows"
  | 5 => .object "LabelHouseModel$LineRows"
  | 6 => .object "LabelHouseModel$SquareRows"
  | 7 => .object "LabelHouseModel$PlaceRows"
  | 8 => .array .int
  | 9 => .int
  | 10 => .int
  | 11 => .array .int
  | _ => .int
abbrev wsX170 : List Cond := u_ws RX17 TX17 13
theorem nmX17 : ∀ a, a < 13 → ∀ b, b < 13 → a ≠ b → (TX17 a).2.1 ≠ (TX17 b).2.1 := by decide +kernel
theorem tyX17_ok : ∀ k, k < 13 → parseFieldDescriptor (TX17 k).2.2.1 = some (tyX17 k) := by decide +kernel
def tb_WS : List Cond := lw_tbl.filter goodWord
theorem tb_mem {ws : List Cond} {ix : List Nat} (h : (ws.zip ix).all (fun q => decide (lw_tbl[q.2]? = some q.1) && goodWord q.1) = true) (hl : decide (ws.length ≤ ix.length) = true) : ∀ w ∈ ws, w ∈ tb_WS := by
  intro w hw
  obtain ⟨i, hi⟩ := List.getElem?_of_mem hw
  have hlt : i < ws.length := (List.getElem?_eq_some_iff.mp hi).1
  have hli : i < ix.length := Nat.lt_of_lt_of_le hlt (of_decide_eq_true hl)
  obtain ⟨j, hj⟩ : ∃ j, ix[i]? = some j := ⟨ix[i], List.getElem?_eq_getElem hli⟩
  have hz : (w, j) ∈ ws.zip ix := List.mem_of_getElem? (i := i) (by rw [List.getElem?_zip_eq_some]; exact ⟨hi, hj⟩)
  have h1 := List.all_eq_true.mp h _ hz
  simp only [Bool.and_eq_true, decide_eq_true_eq] at h1
  exact List.mem_filter.mpr ⟨List.mem_of_getElem? h1.1, h1.2⟩
theorem tb_good : ∀ w ∈ tb_WS, goodWord w = true := fun w hw => (List.mem_filter.mp hw).2
def tb_cl : List vw_C := [(RX0, TX0, 13), (RX1, TX1, 14), (RX2, TX2, 12), (RX3, TX3, 11), (RX4, TX4, 9), (RX5, TX5, 4), (RX6, TX6, 8), (RX7, TX7, 7), (RX8, TX8, 17), (RX9, TX9, 6), (RX10, TX10, 12), (RX11, TX11, 13), (RX12, TX12, 18), (RX13, TX13, 18), (RX14, TX14, 11), (RX15, TX15, 40), (RX16, TX16, 34), (RX17, TX17, 13)]
def tb_ty (c : Nat) : Nat → FieldType := match c with
  | 0 => tyX0
  | 1 => tyX1
  | 2 => tyX2
  | 3 => tyX3
  | 4 => tyX4
  | 5 => tyX5
  | 6 => tyX6
  | 7 => tyX7
  | 8 => tyX8
  | 9 => tyX9
  | 10 => tyX10
  | 11 => tyX11
  | 12 => tyX12
  | 13 => tyX13
  | 14 => tyX14
  | 15 => tyX15
  | 16 => tyX16
  | 17 => tyX17
  | _ => fun _ => .int
def tb_nm (c : Nat) : String := match c with
  | 0 => "LabelHouse$Bars"
  | 1 => "LabelHouse$Blocks"
  | 2 => "LabelHouse$Field"
  | 3 => "LabelHouse$Finder"
  | 4 => "LabelHouse$Grid"
  | 5 => "LabelHouse$Orders"
  | 6 => "LabelHouse$Pen"
  | 7 => "LabelHouse$Segments"
  | 8 => "LabelHouse$Setter"
  | 9 => "LabelHouse$Sheet"
  | 10 => "LabelHouse$Tape"
  | 11 => "LabelHouse"
  | 12 => "LabelHouseModel$DotRows"
  | 13 => "LabelHouseModel$LineRows"
  | 14 => "LabelHouseModel$PlaceRows"
  | 15 => "LabelHouseModel$ScriptRows"
  | 16 => "LabelHouseModel$SquareRows"
  | 17 => "LabelHouseModel"
  | 18 => "LabelHouseLaw"
  | 19 => "java/lang/String"
  | 20 => "java/lang/StringLatin1"
  | 21 => "java/lang/Math"
  | 22 => "java/util/Arrays"
  | 23 => "java/lang/Integer"
  | 24 => "java/lang/Long"
  | 25 => "java/lang/System"
  | 26 => "java/lang/Object"
  | _ => ""
theorem tb_lay0 : ∀ w ∈ u_ws RX0 TX0 13, w ∈ tb_WS := tb_mem (ix := [528, 530, 532, 534, 536, 538, 540, 542, 544, 546, 548, 550, 552]) (by decide +kernel) (by decide +kernel)
theorem tb_lay1 : ∀ w ∈ u_ws RX1 TX1 14, w ∈ tb_WS := tb_mem (ix := [612, 614, 616, 618, 620, 622, 624, 626, 628, 630, 632, 634, 636, 638]) (by decide +kernel) (by decide +kernel)
theorem tb_lay2 : ∀ w ∈ u_ws RX2 TX2 12, w ∈ tb_WS := tb_mem (ix := [390, 392, 394, 396, 398, 400, 402, 404, 406, 408, 410, 412]) (by decide +kernel) (by decide +kernel)
theorem tb_lay3 : ∀ w ∈ u_ws RX3 TX3 11, w ∈ tb_WS := tb_mem (ix := [727, 729, 731, 733, 735, 737, 739, 741, 743, 745, 747]) (by decide +kernel) (by decide +kernel)
theorem tb_lay4 : ∀ w ∈ u_ws RX4 TX4 9, w ∈ tb_WS := tb_mem (ix := [656, 658, 660, 662, 664, 666, 668, 670, 672]) (by decide +kernel) (by decide +kernel)
theorem tb_lay5 : ∀ w ∈ u_ws RX5 TX5 4, w ∈ tb_WS := tb_mem (ix := [349, 351, 353, 355]) (by decide +kernel) (by decide +kernel)
theorem tb_lay6 : ∀ w ∈ u_ws RX6 TX6 8, w ∈ tb_WS := tb_mem (ix := [690, 692, 694, 696, 698, 700, 702, 704]) (by decide +kernel) (by decide +kernel)
theorem tb_lay7 : ∀ w ∈ u_ws RX7 TX7 7, w ∈ tb_WS := tb_mem (ix := [577, 579, 581, 583, 585, 587, 589]) (by decide +kernel) (by decide +kernel)
theorem tb_lay8 : ∀ w ∈ u_ws RX8 TX8 17, w ∈ tb_WS := tb_mem (ix := [436, 438, 440, 442, 444, 446, 448, 450, 452, 454, 456, 458, 460, 462, 464, 466, 468]) (by decide +kernel) (by decide +kernel)
theorem tb_lay9 : ∀ w ∈ u_ws RX9 TX9 6, w ∈ tb_WS := tb_mem (ix := [490, 492, 494, 496, 498, 500]) (by decide +kernel) (by decide +kernel)
theorem tb_lay10 : ∀ w ∈ u_ws RX10 TX10 12, w ∈ tb_WS := tb_mem (ix := [305, 307, 309, 311, 313, 315, 317, 319, 321, 323, 325, 327]) (by decide +kernel) (by decide +kernel)
theorem tb_lay11 : ∀ w ∈ u_ws RX11 TX11 13, w ∈ tb_WS := tb_mem (ix := [765, 767, 769, 771, 773, 775, 777, 779, 781, 783, 785, 787, 789]) (by decide +kernel) (by decide +kernel)
theorem tb_lay12 : ∀ w ∈ u_ws RX12 TX12 18, w ∈ tb_WS := tb_mem (ix := [2358, 2360, 2362, 2364, 2366, 2368, 2370, 2372, 2374, 2376, 2378, 2380, 2382, 2384, 2386, 2388, 2390, 2392]) (by decide +kernel) (by decide +kernel)
theorem tb_lay13 : ∀ w ∈ u_ws RX13 TX13 18, w ∈ tb_WS := tb_mem (ix := [2525, 2527, 2529, 2531, 2533, 2535, 2537, 2539, 2541, 2543, 2545, 2547, 2549, 2551, 2553, 2555, 2557, 2559]) (by decide +kernel) (by decide +kernel)
theorem tb_lay14 : ∀ w ∈ u_ws RX14 TX14 11, w ∈ tb_WS := tb_mem (ix := [2690, 2692, 2694, 2696, 2698, 2700, 2702, 2704, 2706, 2708, 2710]) (by decide +kernel) (by decide +kernel)
theorem tb_lay15 : ∀ w ∈ u_ws RX15 TX15 40, w ∈ tb_WS := tb_mem (ix := [2252, 2254, 2256, 2258, 2260, 2262, 2264, 2266, 2268, 2270, 2272, 2274, 2276, 2278, 2280, 2282, 2284, 2286, 2288, 2290, 2292, 2294, 2296, 2298, 2300, 2302, 2304, 2306, 2308, 2310, 2312, 2314, 2316, 2318, 2320, 2322, 2324, 2326, 2328, 2330]) (by decide +kernel) (by decide +kernel)
theorem tb_lay16 : ∀ w ∈ u_ws RX16 TX16 34, w ∈ tb_WS := tb_mem (ix := [2602, 2604, 2606, 2608, 2610, 2612, 2614, 2616, 2618, 2620, 2622, 2624, 2626, 2628, 2630, 2632, 2634, 2636, 2638, 2640, 2642, 2644, 2646, 2648, 2650, 2652, 2654, 2656, 2658, 2660, 2662, 2664, 2666, 2668]) (by decide +kernel) (by decide +kernel)
theorem tb_lay17 : ∀ w ∈ u_ws RX17 TX17 13, w ∈ tb_WS := tb_mem (ix := [2726, 2728, 2730, 2732, 2734, 2736, 2738, 2740, 2742, 2744, 2746, 2748, 2750]) (by decide +kernel) (by decide +kernel)
theorem tb_TC : im_TC tb_cl tb_ty tb_WS := by
  intro ci q hq
  match ci, hq with
  | 0, hq => cases hq; exact ⟨tb_lay0, tyX0_ok, nmX0⟩
  | 1, hq => cases hq; exact ⟨tb_lay1, tyX1_ok, nmX1⟩
  | 2, hq => cases hq; exact ⟨tb_lay2, tyX2_ok, nmX2⟩
  | 3, hq => cases hq; exact ⟨tb_lay3, tyX3_ok, nmX3⟩
  | 4, hq => cases hq; exact ⟨tb_lay4, tyX4_ok, nmX4⟩
  | 5, hq => cases hq; exact ⟨tb_lay5, tyX5_ok, nmX5⟩
  | 6, hq => cases hq; exact ⟨tb_lay6, tyX6_ok, nmX6⟩
  | 7, hq => cases hq; exact ⟨tb_lay7, tyX7_ok, nmX7⟩
  | 8, hq => cases hq; exact ⟨tb_lay8, tyX8_ok, nmX8⟩
  | 9, hq => cases hq; exact ⟨tb_lay9, tyX9_ok, nmX9⟩
  | 10, hq => cases hq; exact ⟨tb_lay10, tyX10_ok, nmX10⟩
  | 11, hq => cases hq; exact ⟨tb_lay11, tyX11_ok, nmX11⟩
  | 12, hq => cases hq; exact ⟨tb_lay12, tyX12_ok, nmX12⟩
  | 13, hq => cases hq; exact ⟨tb_lay13, tyX13_ok, nmX13⟩
  | 14, hq => cases hq; exact ⟨tb_lay14, tyX14_ok, nmX14⟩
  | 15, hq => cases hq; exact ⟨tb_lay15, tyX15_ok, nmX15⟩
  | 16, hq => cases hq; exact ⟨tb_lay16, tyX16_ok, nmX16⟩
  | 17, hq => cases hq; exact ⟨tb_lay17, tyX17_ok, nmX17⟩
  | n + 18, hq => simp [tb_cl] at hq
/-- a table by two numbers -/
def tb_find {α : Type} (l : List (Nat × Nat × α)) (a b : Nat) : Option α := match l with
  | [] => none
  | q :: r => if q.1 = a ∧ q.2.1 = b then some q.2.2 else tb_find r a b
theorem tb_find_mem {α : Type} {l : List (Nat × Nat × α)} {a b : Nat} {x : α} (h : tb_find l a b = some x) : (a, b, x) ∈ l := by
  induction l with
  | nil => cases h
  | cons q r ih =>
    unfold tb_find at h
    split at h
    · rename_i hc
      cases h
      obtain ⟨q1, q2, q3⟩ := q
      obtain ⟨h1, h2⟩ := hc
      simp only at h1 h2
      subst h1
      subst h2
      exact List.mem_cons_self
    · exact List.mem_cons_of_mem _ (ih h)
theorem tb_all {α : Type} {l : List α} {f : α → Cond} (h : ∀ w ∈ l.map f, w ∈ tb_WS) : ∀ x ∈ l, f x ∈ tb_WS := fun x hx => h _ (List.mem_map_of_mem hx)
def tb_fl : List (Nat × Nat × (Nat × Nat)) := [(0, 11, (0, 0)), (0, 17, (0, 1)), (0, 20, (0, 5)), (0, 23, (0, 7)), (0, 26, (0, 8)), (0, 29, (0, 10)), (0, 32, (0, 6)), (0, 73, (0, 9)), (0, 86, (0, 2)), (0, 115, (0, 11)), (0, 118, (0, 4)), (0, 122, (0, 3)), (0, 132, (0, 12)), (1, 11, (1, 0)), (1, 15, (1, 1)), (1, 19, (1, 2)), (1, 22, (1, 3)), (1, 25, (1, 4)), (1, 28, (1, 5)), (1, 31, (1, 6)), (1, 34, (1, 7)), (1, 37, (1, 8)), (1, 40, (1, 9)), (1, 53, (1, 11)), (1, 57, (1, 12)), (1, 64, (1, 10)), (1, 67, (1, 13)), (2, 9, (2, 3)), (2, 17, (2, 7)), (2, 21, (2, 10)), (2, 24, (2, 11)), (2, 27, (2, 0)), (2, 31, (2, 1)), (2, 34, (2, 2)), (2, 37, (2, 4)), (2, 41, (2, 5)), (2, 44, (2, 6)), (2, 47, (2, 8)), (2, 78, (5, 1)), (2, 81, (5, 3)), (2, 84, (5, 0)), (2, 105, (2, 9)), (3, 14, (3, 2)), (3, 19, (3, 3)), (3, 23, (3, 4)), (3, 27, (3, 5)), (3, 30, (3, 6)), (3, 34, (3, 7)), (3, 37, (3, 1)), (3, 41, (3, 0)), (3, 45, (3, 8)), (3, 48, (3, 10)), (3, 54, (9, 0)), (3, 57, (9, 1)), (3, 66, (3, 9)), (3, 132, (4, 1)), (4, 12, (4, 0)), (4, 21, (4, 5)), (4, 25, (4, 7)), (4, 29, (4, 8)), (4, 36, (7, 0)), (4, 55, (4, 3)), (4, 71, (4, 6)), (4, 74, (4, 1)), (4, 154, (4, 2)), (4, 161, (4, 4)), (5, 9, (5, 2)), (5, 13, (5, 0)), (5, 17, (5, 1)), (5, 26, (5, 3)), (6, 9, (6, 3)), (6, 16, (6, 4)), (6, 19, (6, 0)), (6, 23, (6, 1)), (6, 27, (6, 2)), (6, 43, (6, 5)), (6, 47, (6, 6)), (6, 50, (6, 7)), (6, 53, (9, 2)), (6, 59, (9, 3)), (6, 66, (5, 1)), (6, 121, (0, 2)), (6, 124, (0, 1)), (6, 127, (4, 1)), (6, 134, (9, 1)), (7, 11, (7, 0)), (7, 17, (7, 3)), (7, 21, (7, 4)), (7, 81, (7, 5)), (7, 104, (7, 6)), (7, 107, (7, 1)), (7, 110, (7, 2)), (8, 11, (8, 5)), (8, 15, (8, 7)), (8, 19, (8, 13)), (8, 22, (8, 14)), (8, 25, (8, 0)), (8, 29, (8, 1)), (8, 40, (8, 2)), (8, 44, (8, 3)), (8, 48, (8, 6)), (8, 51, (8, 4)), (8, 54, (5, 3)), (8, 57, (10, 1)), (8, 62, (8, 8)), (8, 66, (8, 9)), (8, 79, (10, 6)), (8, 82, (10, 8)), (8, 128, (2, 2)), (8, 131, (10, 9)), (8, 140, (8, 15)), (8, 153, (8, 16)), (8, 156, (10, 3)), (8, 162, (8, 12)), (8, 190, (2, 0)), (8, 193, (2, 1)), (8, 196, (2, 4)), (8, 199, (10, 10)), (8, 203, (10, 11)), (8, 210, (10, 4)), (8, 213, (10, 5)), (8, 216, (2, 5)), (8, 219, (2, 6)), (8, 232, (8, 10)), (8, 235, (8, 11)), (9, 9, (9, 0)), (9, 15, (9, 1)), (9, 18, (9, 4)), (9, 22, (9, 5)), (9, 40, (9, 3)), (9, 49, (9, 2)), (10, 11, (10, 0)), (10, 15, (10, 2)), (10, 18, (10, 3)), (10, 22, (10, 4)), (10, 25, (10, 5)), (10, 28, (10, 7)), (10, 31, (10, 8)), (10, 34, (10, 9)), (10, 37, (10, 10)), (10, 40, (10, 1)), (10, 44, (10, 6)), (10, 61, (10, 11)), (11, 10, (11, 0)), (11, 21, (11, 1)), (11, 30, (11, 2)), (11, 37, (11, 3)), (11, 44, (11, 5)), (11, 51, (11, 6)), (11, 60, (11, 4)), (11, 69, (11, 7)), (11, 73, (11, 8)), (11, 77, (11, 10)), (11, 80, (11, 11)), (11, 91, (10, 1)), (11, 116, (8, 6)), (11, 119, (8, 7)), (11, 122, (8, 4)), (11, 125, (8, 5)), (11, 128, (5, 3)), (11, 135, (5, 1)), (11, 146, (3, 0)), (11, 149, (11, 9)), (11, 163, (9, 0)), (11, 166, (9, 1)), (11, 186, (0, 0)), (11, 214, (4, 2)), (11, 217, (4, 3)), (11, 220, (4, 4)), (11, 223, (4, 0)), (11, 227, (7, 1)), (11, 230, (7, 2)), (11, 231, (11, 12)), (11, 240, (0, 3)), (11, 244, (0, 4)), (12, 7, (12, 1)), (12, 13, (12, 2)), (12, 17, (12, 4)), (12, 21, (12, 5)), (12, 24, (12, 6)), (12, 27, (12, 8)), (12, 30, (12, 9)), (12, 33, (12, 17)), (12, 37, (12, 0)), (12, 44, (12, 3)), (12, 47, (12, 7)), (12, 52, (12, 10)), (12, 55, (12, 12)), (12, 58, (12, 11)), (12, 61, (12, 13)), (12, 64, (12, 14)), (12, 75, (12, 15)), (12, 78, (12, 16)), (13, 113, (13, 0)), (13, 119, (13, 1)), (13, 122, (13, 2)), (13, 125, (13, 4)), (13, 128, (13, 6)), (13, 131, (13, 7)), (13, 134, (13, 9)), (13, 137, (13, 11)), (13, 140, (13, 12)), (13, 143, (13, 13)), (13, 146, (13, 16)), (13, 149, (13, 3)), (13, 157, (13, 5)), (13, 188, (13, 8)), (13, 202, (13, 10)), (13, 250, (13, 17)), (13, 266, (13, 15)), (13, 270, (13, 14)), (14, 7, (14, 1)), (14, 13, (14, 2)), (14, 17, (14, 3)), (14, 22, (14, 4)), (14, 26, (14, 5)), (14, 29, (14, 7)), (14, 32, (14, 9)), (14, 35, (14, 0)), (14, 38, (14, 8)), (14, 41, (14, 10)), (14, 85, (14, 6)), (15, 7, (15, 1)), (15, 13, (15, 3)), (15, 16, (15, 4)), (15, 19, (15, 5)), (15, 22, (15, 6)), (15, 25, (15, 7)), (15, 28, (15, 14)), (15, 32, (15, 15)), (15, 35, (15, 16)), (15, 38, (15, 24)), (15, 41, (15, 27)), (15, 44, (15, 28)), (15, 47, (15, 29)), (15, 50, (15, 30)), (15, 53, (15, 31)), (15, 56, (15, 36)), (15, 59, (15, 38)), (15, 62, (15, 39)), (15, 65, (15, 0)), (15, 68, (15, 2)), (15, 73, (15, 8)), (15, 101, (15, 17)), (15, 107, (15, 22)), (15, 110, (15, 23)), (15, 113, (15, 25)), (15, 123, (15, 26)), (15, 126, (15, 34)), (15, 132, (15, 32)), (15, 136, (15, 33)), (15, 155, (15, 37)), (15, 180, (15, 18)), (15, 183, (15, 9)), (15, 204, (15, 35)), (15, 207, (15, 21)), (15, 210, (15, 11)), (15, 213, (15, 12)), (15, 216, (15, 10)), (15, 219, (15, 19)), (15, 222, (15, 20)), (15, 249, (15, 13)), (16, 7, (16, 1)), (16, 13, (16, 2)), (16, 16, (16, 3)), (16, 19, (16, 5)), (16, 22, (16, 6)), (16, 25, (16, 10)), (16, 28, (16, 11)), (16, 31, (16, 12)), (16, 34, (16, 14)), (16, 37, (16, 15)), (16, 40, (16, 17)), (16, 43, (16, 18)), (16, 46, (16, 20)), (16, 49, (16, 21)), (16, 52, (16, 22)), (16, 55, (16, 23)), (16, 58, (16, 24)), (16, 61, (16, 25)), (16, 64, (16, 26)), (16, 67, (16, 27)), (16, 70, (16, 33)), (16, 73, (16, 0)), (16, 77, (16, 4)), (16, 121, (16, 16)), (16, 124, (16, 19)), (16, 127, (16, 13)), (16, 163, (16, 8)), (16, 229, (16, 7)), (16, 246, (16, 9)), (16, 279, (16, 29)), (16, 282, (16, 30)), (16, 285, (16, 31)), (16, 288, (16, 28)), (16, 303, (16, 32)), (17, 7, (17, 1)), (17, 16, (17, 3)), (17, 23, (17, 4)), (17, 30, (17, 5)), (17, 37, (17, 6)), (17, 44, (17, 7)), (17, 48, (17, 8)), (17, 51, (17, 10)), (17, 55, (17, 11)), (17, 58, (17, 0)), (17, 61, (17, 2)), (17, 197, (17, 9)), (17, 229, (17, 12))]
def tb_fw (e : Nat × Nat × (Nat × Nat)) : Cond := match tb_cl[e.2.2.1]? with
  | some q => .fieldLink (tb_nm e.1) e.2.1 (q.2.1 e.2.2.2).1 (q.2.1 e.2.2.2).2.1 (q.2.1 e.2.2.2).2.2.1
  | none => .tt
theorem tb_fl_ok : ∀ x ∈ tb_fl, tb_fw x ∈ tb_WS := tb_all (tb_mem (ix := [510, 512, 520, 522, 523, 525, 521, 524, 515, 526, 518, 516, 527, 598, 599, 600, 601, 602, 603, 604, 605, 606, 607, 609, 610, 608, 611, 378, 385, 388, 389, 372, 374, 376, 379, 381, 383, 386, 342, 346, 339, 387, 718, 719, 720, 721, 722, 723, 717, 715, 724, 726, 478, 481, 725, 645, 641, 652, 654, 655, 568, 648, 653, 643, 647, 651, 344, 338, 340, 347, 685, 686, 682, 683, 684, 687, 688, 689, 484, 487, 341, 514, 513, 644, 482, 567, 573, 574, 575, 576, 569, 571, 421, 425, 432, 433, 415, 416, 417, 418, 423, 419, 345, 285, 427, 428, 295, 298, 377, 300, 434, 435, 289, 431, 373, 375, 380, 302, 304, 291, 293, 382, 384, 429, 430, 477, 480, 488, 489, 486, 485, 283, 287, 288, 290, 292, 296, 297, 299, 301, 284, 294, 303, 752, 753, 754, 755, 757, 758, 756, 759, 760, 762, 763, 286, 424, 426, 420, 422, 348, 343, 716, 761, 479, 483, 511, 646, 649, 650, 642, 570, 572, 764, 517, 519, 2341, 2342, 2344, 2345, 2346, 2348, 2349, 2357, 2340, 2343, 2347, 2350, 2352, 2351, 2353, 2354, 2355, 2356, 2507, 2508, 2509, 2511, 2513, 2514, 2516, 2518, 2519, 2520, 2523, 2510, 2512, 2515, 2517, 2524, 2522, 2521, 2680, 2681, 2682, 2683, 2684, 2686, 2688, 2679, 2687, 2689, 2685, 2213, 2215, 2216, 2217, 2218, 2219, 2226, 2227, 2228, 2236, 2239, 2240, 2241, 2242, 2243, 2248, 2250, 2251, 2212, 2214, 2220, 2229, 2234, 2235, 2237, 2238, 2246, 2244, 2245, 2249, 2230, 2221, 2247, 2233, 2223, 2224, 2222, 2231, 2232, 2225, 2569, 2570, 2571, 2573, 2574, 2578, 2579, 2580, 2582, 2583, 2585, 2586, 2588, 2589, 2590, 2591, 2592, 2593, 2594, 2595, 2601, 2568, 2572, 2584, 2587, 2581, 2576, 2575, 2577, 2597, 2598, 2599, 2596, 2600, 2714, 2716, 2717, 2718, 2719, 2720, 2721, 2723, 2724, 2713, 2715, 2722, 2725]) (by decide +kernel) (by decide +kernel))
theorem tb_fl_in : tb_fl.all (fun e => decide (e.2.2.1 < 32) && (match tb_cl[e.2.2.1]? with | some q => decide (e.2.2.2 < q.2.2) | none => false)) = true := by decide +kernel
theorem tb_TF : im_TF tb_cl tb_WS tb_nm (tb_find tb_fl) := by
  intro ow idx ci k h
  have hm := tb_find_mem h
  have h1 := List.all_eq_true.mp tb_fl_in _ hm
  have h2 := tb_fl_ok _ hm
  simp only [Bool.and_eq_true, decide_eq_true_eq] at h1
  refine ⟨h1.1, ?_⟩
  cases hq : tb_cl[ci]? with
  | none => simp [hq] at h1
  | some q =>
    simp only [hq, decide_eq_true_eq] at h1
    refine ⟨q, rfl, h1.2, ?_⟩
    simpa [tb_fw, hq] using h2
def tb_cn : List (Nat × Nat × Value) := [(0, 92, .int (100000)), (0, 97, .int (2331112)), (0, 98, .int (1000000)), (3, 13, .int (263169)), (3, 18, .int (262144)), (4, 66, .int (1073741824)), (6, 15, .int (32768)), (12, 16, .int (32768)), (13, 7, .int (212222)), (13, 8, .int (222122)), (13, 9, .int (222221)), (13, 10, .int (121223)), (13, 11, .int (121322)), (13, 12, .int (131222)), (13, 13, .int (122213)), (13, 14, .int (122312)), (13, 15, .int (132212)), (13, 16, .int (221213)), (13, 17, .int (221312)), (13, 18, .int (231212)), (13, 19, .int (112232)), (13, 20, .int (122132)), (13, 21, .int (122231)), (13, 22, .int (113222)), (13, 23, .int (123122)), (13, 24, .int (123221)), (13, 25, .int (223211)), (13, 26, .int (221132)), (13, 27, .int (221231)), (13, 28, .int (213212)), (13, 29, .int (223112)), (13, 30, .int (312131)), (13, 31, .int (311222)), (13, 32, .int (321122)), (13, 33, .int (321221)), (13, 34, .int (312212)), (13, 35, .int (322112)), (13, 36, .int (322211)), (13, 37, .int (212123)), (13, 38, .int (212321)), (13, 39, .int (232121)), (13, 40, .int (111323)), (13, 41, .int (131123)), (13, 42, .int (131321)), (13, 43, .int (112313)), (13, 44, .int (132113)), (13, 45, .int (132311)), (13, 46, .int (211313)), (13, 47, .int (231113)), (13, 48, .int (231311)), (13, 49, .int (112133)), (13, 50, .int (112331)), (13, 51, .int (132131)), (13, 52, .int (113123)), (13, 53, .int (113321)), (13, 54, .int (133121)), (13, 55, .int (313121)), (13, 56, .int (211331)), (13, 57, .int (231131)), (13, 58, .int (213113)), (13, 59, .int (213311)), (13, 60, .int (213131)), (13, 61, .int (311123)), (13, 62, .int (311321)), (13, 63, .int (331121)), (13, 64, .int (312113)), (13, 65, .int (312311)), (13, 66, .int (332111)), (13, 67, .int (314111)), (13, 68, .int (221411)), (13, 69, .int (431111)), (13, 70, .int (111224)), (13, 71, .int (111422)), (13, 72, .int (121124)), (13, 73, .int (121421)), (13, 74, .int (141122)), (13, 75, .int (141221)), (13, 76, .int (112214)), (13, 77, .int (112412)), (13, 78, .int (122114)), (13, 79, .int (122411)), (13, 80, .int (142112)), (13, 81, .int (142211)), (13, 82, .int (241211)), (13, 83, .int (221114)), (13, 84, .int (413111)), (13, 85, .int (241112)), (13, 86, .int (134111)), (13, 87, .int (111242)), (13, 88, .int (121142)), (13, 89, .int (121241)), (13, 90, .int (114212)), (13, 91, .int (124112)), (13, 92, .int (124211)), (13, 93, .int (411212)), (13, 94, .int (421112)), (13, 95, .int (421211)), (13, 96, .int (212141)), (13, 97, .int (214121)), (13, 98, .int (412121)), (13, 99, .int (111143)), (13, 100, .int (111341)), (13, 101, .int (131141)), (13, 102, .int (114113)), (13, 103, .int (114311)), (13, 104, .int (411113)), (13, 105, .int (411311)), (13, 106, .int (113141)), (13, 107, .int (114131)), (13, 108, .int (311141)), (13, 109, .int (411131)), (13, 110, .int (211412)), (13, 111, .int (211214)), (13, 112, .int (211232)), (13, 213, .int (2331112)), (14, 16, .int (262144)), (14, 21, .int (263169)), (16, 113, .int (1000000)), (23, 265, .int (1431655765)), (23, 266, .int (858993459)), (23, 267, .int (252645135)), (3, 118, .long (512)), (3, 120, .long (32)), (3, 122, .long (64)), (3, 124, .long (4)), (5, 50, .long (10)), (5, 58, .long (48)), (6, 137, .long (2)), (6, 166, .long (4)), (9, 43, .long (-1)), (9, 53, .long (63)), (18, 71, .long (4294967295)), (17, 64, .long (255)), (17, 127, .long (10)), (17, 129, .long (48)), (12, 50, .long (255)), (12, 67, .long (4)), (12, 69, .long (2)), (13, 153, .long (255)), (13, 155, .long (128)), (13, 214, .long (999999999999)), (13, 216, .long (10)), (15, 71, .long (255)), (15, 143, .long (10)), (16, 80, .long (255)), (24, 314, .long (6148914691236517205)), (24, 316, .long (3689348814741910323)), (24, 318, .long (1085102592571150095))]
def tb_cw (e : Nat × Nat × Value) : Cond := match e.2.2 with
  | .int v => .constant (tb_nm e.1) e.2.1 v
  | .long v => .constantLong (tb_nm e.1) e.2.1 v
  | _ => .tt
theorem tb_cn_ok : ∀ x ∈ tb_cn, tb_cw x ∈ tb_WS := tb_all (tb_mem (ix := [1619, 1624, 1625, 713, 714, 1824, 681, 2339, 2401, 2402, 2403, 2404, 2405, 2406, 2407, 2408, 2409, 2410, 2411, 2412, 2413, 2414, 2415, 2416, 2417, 2418, 2419, 2420, 2421, 2422, 2423, 2424, 2425, 2426, 2427, 2428, 2429, 2430, 2431, 2432, 2433, 2434, 2435, 2436, 2437, 2438, 2439, 2440, 2441, 2442, 2443, 2444, 2445, 2446, 2447, 2448, 2449, 2450, 2451, 2452, 2453, 2454, 2455, 2456, 2457, 2458, 2459, 2460, 2461, 2462, 2463, 2464, 2465, 2466, 2467, 2468, 2469, 2470, 2471, 2472, 2473, 2474, 2475, 2476, 2477, 2478, 2479, 2480, 2481, 2482, 2483, 2484, 2485, 2486, 2487, 2488, 2489, 2490, 2491, 2492, 2493, 2494, 2495, 2496, 2497, 2498, 2499, 2500, 2501, 2502, 2503, 2504, 2505, 2506, 3173, 2677, 2678, 3251, 2062, 2063, 2064, 2003, 2004, 2005, 2006, 1365, 1369, 1857, 1873, 1563, 1414, 3749, 2761, 3190, 3191, 3030, 3058, 3063, 3115, 3116, 3199, 3207, 2801, 2885, 3227, 1922, 1923, 1924]) (by decide +kernel) (by decide +kernel))
theorem tb_TK : im_TK tb_WS tb_nm (tb_find tb_cn) := ⟨fun ow idx v h => tb_cn_ok _ (tb_find_mem h), fun ow idx v h => tb_cn_ok _ (tb_find_mem h)⟩
