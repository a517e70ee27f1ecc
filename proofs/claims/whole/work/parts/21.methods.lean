/-! METHODS AND LINKS -/
def tb_pick : List Nat → List Cond → List Cond
  | [], _ => []
  | g :: gs, l => match l.drop g with
    | [] => []
    | h :: t => h :: tb_pick gs t
theorem tb_pick_mem : ∀ (gs : List Nat) (l : List Cond), ∀ w ∈ tb_pick gs l, w ∈ l := by
  intro gs
  induction gs with
  | nil => intro l w hw; exact absurd hw List.not_mem_nil
  | cons g gs ih =>
    intro l w hw
    unfold tb_pick at hw
    cases hd : l.drop g with
    | nil => rw [hd] at hw; exact absurd hw List.not_mem_nil
    | cons h t =>
      rw [hd] at hw
      have hs : ∀ x ∈ h :: t, x ∈ l := fun x hx => List.mem_of_mem_drop (i := g) (by rw [hd]; exact hx)
      rcases List.mem_cons.mp hw with e | e
      · rw [e]; exact hs _ List.mem_cons_self
      · exact hs _ (List.mem_cons_of_mem _ (ih t w e))
theorem tb_memR {ws : List Cond} {gs : List Nat} (h : tb_pick gs lw_tbl = ws) (hg : ws.all goodWord = true) : ∀ w ∈ ws, w ∈ tb_WS := fun w hw => List.mem_filter.mpr ⟨tb_pick_mem gs lw_tbl w (by rw [h]; exact hw), List.all_eq_true.mp hg w hw⟩
theorem tb_inis : ∀ w ∈ [18, 11, 10, 5, 8, 2, 9, 0, 4, 7, 1, 6, 3, 17, 15, 12, 13, 16, 14, 22, 19, 21, 25, 27, 20, 23, 24].map (fun c => Cond.initialized (tb_nm c)), w ∈ tb_WS := tb_mem (gs := [235, 0, 0, 0, 0, 0, 0, 0, 0, 0, 0, 0, 0, 0, 0, 0, 0, 0, 0, 4, 2, 2, 0, 0, 0, 0, 3]) (by decide +kernel) (by decide +kernel) (by decide +kernel)
def tb_icl : List Nat := [18, 11, 10, 5, 8, 2, 9, 0, 4, 7, 1, 6, 3, 17, 15, 12, 13, 16, 14, 22, 19, 21, 25, 27, 20, 23, 24]
def J_H_init : im_J := (⟨"LabelHouse", "<init>", "()V"⟩, prog_1_method_1_code, 1, none, 0, 2, 11)
def J_HTape_init : im_J := (⟨"LabelHouse$Tape", "<init>", "()V"⟩, prog_12_method_1_code, 1, none, 0, 3, 10)
def J_HOrders_init : im_J := (⟨"LabelHouse$Orders", "<init>", "(I)V"⟩, prog_7_method_1_code, 2, none, 1, 2, 5)
def J_HSetter_init : im_J := (⟨"LabelHouse$Setter", "<init>", "(LLabelHouse$Tape;LLabelHouse$Orders;)V"⟩, prog_10_method_1_code, 3, none, 2, 2, 8)
def J_HField_init : im_J := (⟨"LabelHouse$Field", "<init>", "()V"⟩, prog_4_method_1_code, 1, none, 0, 3, 2)
def J_HSheet_init : im_J := (⟨"LabelHouse$Sheet", "<init>", "()V"⟩, prog_11_method_1_code, 1, none, 0, 3, 9)
def J_HBars_init : im_J := (⟨"LabelHouse$Bars", "<init>", "()V"⟩, prog_2_method_1_code, 1, none, 0, 3, 0)
def J_HGrid_init : im_J := (⟨"LabelHouse$Grid", "<init>", "()V"⟩, prog_6_method_1_code, 1, none, 0, 3, 4)
def J_HSegments_init : im_J := (⟨"LabelHouse$Segments", "<init>", "()V"⟩, prog_9_method_1_code, 1, none, 0, 3, 7)
def J_HBlocks_init : im_J := (⟨"LabelHouse$Blocks", "<init>", "()V"⟩, prog_3_method_1_code, 3, none, 0, 2, 1)
def J_HPen_init : im_J := (⟨"LabelHouse$Pen", "<init>", "(LLabelHouse$Sheet;LLabelHouse$Bars;LLabelHouse$Grid;)V"⟩, prog_8_method_1_code, 4, none, 3, 2, 6)
def J_HFinder_init : im_J := (⟨"LabelHouse$Finder", "<init>", "(LLabelHouse$Sheet;)V"⟩, prog_5_method_1_code, 2, none, 1, 2, 3)
def J_H_wipe : im_J := (⟨"LabelHouse", "wipe", "()I"⟩, prog_1_method_3_code, 2, (some .int), 0, 0, 11)
def J_H_read : im_J := (⟨"LabelHouse", "read", "()I"⟩, prog_1_method_6_code, 1, (some .int), 0, 0, 11)
def J_HSetter_followAll : im_J := (⟨"LabelHouse$Setter", "followAll", "()I"⟩, prog_10_method_3_code, 4, (some .int), 0, 0, 8)
def J_HTape_rewind : im_J := (⟨"LabelHouse$Tape", "rewind", "()V"⟩, prog_12_method_3_code, 1, none, 0, 0, 10)
def J_HTape_passBlanks : im_J := (⟨"LabelHouse$Tape", "passBlanks", "()V"⟩, prog_12_method_7_code, 2, none, 0, 0, 10)
def J_HTape_next : im_J := (⟨"LabelHouse$Tape", "next", "()I"⟩, prog_12_method_5_code, 3, (some .int), 0, 0, 10)
def J_HTape_pass : im_J := (⟨"LabelHouse$Tape", "pass", "()V"⟩, prog_12_method_6_code, 1, none, 0, 0, 10)
def J_HSetter_follow : im_J := (⟨"LabelHouse$Setter", "follow", "()I"⟩, prog_10_method_4_code, 4, (some .int), 0, 0, 8)
def J_String_indexOf : im_J := (⟨"java/lang/String", "indexOf", "(I)I"⟩, prog_31_method_79_code, 2, (some .int), 1, 0, 19)
def J_String_indexOf2 : im_J := (⟨"java/lang/String", "indexOf", "(II)I"⟩, prog_31_method_80_code, 3, (some .int), 2, 0, 19)
def J_String_isLatin1 : im_J := (⟨"java/lang/String", "isLatin1", "()Z"⟩, prog_31_method_154_code, 1, (some .boolean), 0, 0, 19)
def J_String_length : im_J := (⟨"java/lang/String", "length", "()I"⟩, prog_31_method_54_code, 1, (some .int), 0, 0, 19)
def J_String_coder : im_J := (⟨"java/lang/String", "coder", "()B"⟩, prog_31_method_152_code, 1, (some .byte), 0, 0, 19)
def J_StringLatin1_indexOf : im_J := (⟨"java/lang/StringLatin1", "indexOf", "([BIII)I"⟩, prog_33_method_22_code, 4, (some .int), 4, 1, 20)
def J_StringLatin1_canEncode : im_J := (⟨"java/lang/StringLatin1", "canEncode", "(I)Z"⟩, prog_33_method_4_code, 1, (some .boolean), 1, 1, 20)
def J_Math_max : im_J := (⟨"java/lang/Math", "max", "(II)I"⟩, prog_29_method_65_code, 2, (some .int), 2, 1, 21)
def J_Math_min : im_J := (⟨"java/lang/Math", "min", "(II)I"⟩, prog_29_method_69_code, 2, (some .int), 2, 1, 21)
def J_StringLatin1_indexOfChar : im_J := (⟨"java/lang/StringLatin1", "indexOfChar", "([BIII)I"⟩, prog_33_method_23_code, 6, (some .int), 4, 1, 20)
def J_String_checkBoundsBeginEnd : im_J := (⟨"java/lang/String", "checkBoundsBeginEnd", "(III)V"⟩, prog_31_method_158_code, 3, none, 3, 1, 19)
def J_HSetter_canStand : im_J := (⟨"LabelHouse$Setter", "canStand", "(I)Z"⟩, prog_10_method_5_code, 2, (some .boolean), 1, 0, 8)
def J_HSetter_leaveOut : im_J := (⟨"LabelHouse$Setter", "leaveOut", "(I)V"⟩, prog_10_method_6_code, 3, none, 1, 0, 8)
def J_HTape_takeNumberAndComma : im_J := (⟨"LabelHouse$Tape", "takeNumberAndComma", "()Z"⟩, prog_12_method_9_code, 1, (some .boolean), 0, 0, 10)
def J_HTape_takeNumber : im_J := (⟨"LabelHouse$Tape", "takeNumber", "(I)Z"⟩, prog_12_method_10_code, 5, (some .boolean), 1, 0, 10)
def J_HTape_isDigit : im_J := (⟨"LabelHouse$Tape", "isDigit", "(I)Z"⟩, prog_12_method_16_code, 1, (some .boolean), 1, 1, 10)
def J_HTape_takeNumbers : im_J := (⟨"LabelHouse$Tape", "takeNumbers", "(I)Z"⟩, prog_12_method_8_code, 3, (some .boolean), 1, 0, 10)
def J_HSetter_inRanges : im_J := (⟨"LabelHouse$Setter", "inRanges", "(I)Z"⟩, prog_10_method_7_code, 4, (some .boolean), 1, 0, 8)
def J_HTape_takeData : im_J := (⟨"LabelHouse$Tape", "takeData", "()Z"⟩, prog_12_method_11_code, 3, (some .boolean), 0, 0, 10)
def J_HTape_takeHexPair : im_J := (⟨"LabelHouse$Tape", "takeHexPair", "()I"⟩, prog_12_method_12_code, 3, (some .int), 0, 0, 10)
def J_HTape_hexValue : im_J := (⟨"LabelHouse$Tape", "hexValue", "(I)I"⟩, prog_12_method_17_code, 1, (some .int), 1, 1, 10)
def J_HSetter_laterFault : im_J := (⟨"LabelHouse$Setter", "laterFault", "(I)I"⟩, prog_10_method_8_code, 2, (some .int), 1, 0, 8)
def J_HTape_endOfForm : im_J := (⟨"LabelHouse$Tape", "endOfForm", "()I"⟩, prog_12_method_13_code, 2, (some .int), 0, 0, 10)
def J_HField_cutLines : im_J := (⟨"LabelHouse$Field", "cutLines", "()V"⟩, prog_4_method_11_code, 6, none, 0, 0, 2)
def J_HField_endOfPiece : im_J := (⟨"LabelHouse$Field", "endOfPiece", "(I)I"⟩, prog_4_method_12_code, 3, (some .int), 1, 0, 2)
def J_HField_lastBlank : im_J := (⟨"LabelHouse$Field", "lastBlank", "(II)I"⟩, prog_4_method_13_code, 4, (some .int), 2, 0, 2)
def J_HField_addLine : im_J := (⟨"LabelHouse$Field", "addLine", "(II)V"⟩, prog_4_method_14_code, 3, none, 2, 0, 2)
def J_HField_hasItsData : im_J := (⟨"LabelHouse$Field", "hasItsData", "()Z"⟩, prog_4_method_5_code, 1, (some .boolean), 0, 0, 2)
def J_HField_allDigits : im_J := (⟨"LabelHouse$Field", "allDigits", "()Z"⟩, prog_4_method_6_code, 2, (some .boolean), 0, 0, 2)
def J_HField_isPicture : im_J := (⟨"LabelHouse$Field", "isPicture", "()Z"⟩, prog_4_method_7_code, 2, (some .boolean), 0, 0, 2)
def J_HField_build : im_J := (⟨"LabelHouse$Field", "build", "(LLabelHouse$Orders;[I[I)I"⟩, prog_4_method_8_code, 10, (some .int), 3, 0, 2)
def J_HField_layLines : im_J := (⟨"LabelHouse$Field", "layLines", "(LLabelHouse$Orders;II[I)I"⟩, prog_4_method_10_code, 9, (some .int), 4, 0, 2)
def J_HOrders_lay : im_J := (⟨"LabelHouse$Orders", "lay", "(IIIII)V"⟩, prog_7_method_4_code, 7, none, 5, 0, 5)
def J_Arrays_fill : im_J := (⟨"java/util/Arrays", "fill", "([IIII)V"⟩, prog_37_method_104_code, 5, none, 4, 1, 22)
def J_Arrays_rangeCheck : im_J := (⟨"java/util/Arrays", "rangeCheck", "(III)V"⟩, prog_37_method_30_code, 3, none, 3, 1, 22)
def J_Arrays_copyOf : im_J := (⟨"java/util/Arrays", "copyOf", "([BI)[B"⟩, prog_37_method_121_code, 3, (some (.array .byte)), 2, 1, 22)
def J_StringLatin1_inflate : im_J := (⟨"java/lang/StringLatin1", "inflate", "([BI[BII)V"⟩, prog_33_method_50_code, 5, none, 5, 1, 20)
def J_String_checkBoundsOffCount : im_J := (⟨"java/lang/String", "checkBoundsOffCount", "(III)I"⟩, prog_31_method_157_code, 3, (some .int), 3, 1, 19)
def J_String_getBytes : im_J := (⟨"java/lang/String", "getBytes", "([BIB)V"⟩, prog_31_method_147_code, 4, none, 3, 0, 19)
def J_Integer_stringSize : im_J := (⟨"java/lang/Integer", "stringSize", "(I)I"⟩, prog_27_method_13_code, 4, (some .int), 1, 1, 23)
def J_Integer_getChars : im_J := (⟨"java/lang/Integer", "getChars", "(II[B)I"⟩, prog_27_method_12_code, 7, (some .int), 3, 1, 23)
def J_Arrays_copyOfRange : im_J := (⟨"java/util/Arrays", "copyOfRange", "([BII)[B"⟩, prog_37_method_132_code, 3, (some (.array .byte)), 3, 1, 22)
def J_Arrays_copyOfRangeByte : im_J := (⟨"java/util/Arrays", "copyOfRangeByte", "([BII)[B"⟩, prog_37_method_133_code, 5, (some (.array .byte)), 3, 1, 22)
def J_Arrays_checkLength : im_J := (⟨"java/util/Arrays", "checkLength", "(II)V"⟩, prog_37_method_131_code, 2, none, 2, 1, 22)
def J_HOrders_move : im_J := (⟨"LabelHouse$Orders", "move", "(III)V"⟩, prog_7_method_5_code, 6, none, 3, 0, 5)
def J_HOrders_number : im_J := (⟨"LabelHouse$Orders", "number", "(IIII)V"⟩, prog_7_method_6_code, 5, none, 4, 0, 5)
def J_HOrders_slice : im_J := (⟨"LabelHouse$Orders", "slice", "(IIII)V"⟩, prog_7_method_7_code, 5, none, 4, 0, 5)
def J_HField_layOthers : im_J := (⟨"LabelHouse$Field", "layOthers", "(LLabelHouse$Orders;II[I)I"⟩, prog_4_method_9_code, 8, (some .int), 4, 0, 2)
def J_HOrders_inRange : im_J := (⟨"LabelHouse$Orders", "inRange", "(I)Z"⟩, prog_7_method_8_code, 1, (some .boolean), 1, 1, 5)
def J_HSetter_isTooMuch : im_J := (⟨"LabelHouse$Setter", "isTooMuch", "(I)Z"⟩, prog_10_method_9_code, 2, (some .boolean), 1, 0, 8)
def J_HSetter_perform : im_J := (⟨"LabelHouse$Setter", "perform", "(I)V"⟩, prog_10_method_10_code, 3, none, 1, 0, 8)
def J_HTape_keepForm : im_J := (⟨"LabelHouse$Tape", "keepForm", "(II)V"⟩, prog_12_method_14_code, 4, none, 2, 0, 10)
def J_HSetter_beginLabel : im_J := (⟨"LabelHouse$Setter", "beginLabel", "()V"⟩, prog_10_method_12_code, 1, none, 0, 0, 8)
def J_HField_clear : im_J := (⟨"LabelHouse$Field", "clear", "()V"⟩, prog_4_method_2_code, 1, none, 0, 0, 2)
def J_HTape_keepVariable : im_J := (⟨"LabelHouse$Tape", "keepVariable", "(I)V"⟩, prog_12_method_15_code, 2, none, 1, 0, 10)
def J_HSetter_endLabel : im_J := (⟨"LabelHouse$Setter", "endLabel", "()V"⟩, prog_10_method_13_code, 3, none, 0, 0, 8)
def J_HOrders_addCopy : im_J := (⟨"LabelHouse$Orders", "addCopy", "(LLabelHouse$Orders;II)V"⟩, prog_7_method_9_code, 9, none, 3, 0, 5)
def J_HOrders_value : im_J := (⟨"LabelHouse$Orders", "value", "(II)I"⟩, prog_7_method_2_code, 3, (some .int), 2, 0, 5)
def J_HOrders_countOn : im_J := (⟨"LabelHouse$Orders", "countOn", "(IJ)V"⟩, prog_7_method_10_code, 10, none, 2, 0, 5)
def J_Math_floorMod : im_J := (⟨"java/lang/Math", "floorMod", "(JJ)J"⟩, prog_29_method_52_code, 6, (some .long), 2, 1, 21)
def J_HTape_enterForm : im_J := (⟨"LabelHouse$Tape", "enterForm", "(I)V"⟩, prog_12_method_4_code, 2, none, 1, 0, 10)
def J_HSetter_performOfField : im_J := (⟨"LabelHouse$Setter", "performOfField", "(II)V"⟩, prog_10_method_11_code, 3, none, 2, 0, 8)
def J_HField_hold : im_J := (⟨"LabelHouse$Field", "hold", "([BII)V"⟩, prog_4_method_4_code, 4, none, 3, 0, 2)
def J_HField_become : im_J := (⟨"LabelHouse$Field", "become", "(I[I)V"⟩, prog_4_method_3_code, 3, none, 2, 0, 2)
def J_HSetter_finish : im_J := (⟨"LabelHouse$Setter", "finish", "(I)I"⟩, prog_10_method_2_code, 2, (some .int), 1, 0, 8)
def J_H_fault : im_J := (⟨"LabelHouse", "fault", "()I"⟩, prog_1_method_7_code, 1, (some .int), 0, 0, 11)
def J_H_place : im_J := (⟨"LabelHouse", "place", "()I"⟩, prog_1_method_8_code, 1, (some .int), 0, 0, 11)
def J_H_drawn : im_J := (⟨"LabelHouse", "drawn", "(I)I"⟩, prog_1_method_13_code, 2, (some .int), 1, 0, 11)
def J_H_spoil : im_J := (⟨"LabelHouse", "spoil", "(IIJ)I"⟩, prog_1_method_14_code, 5, (some .int), 3, 0, 11)
def J_HSheet_flip : im_J := (⟨"LabelHouse$Sheet", "flip", "(IIJ)I"⟩, prog_11_method_7_code, 9, (some .int), 3, 0, 9)
def J_H_dots : im_J := (⟨"LabelHouse", "dots", "(II)J"⟩, prog_1_method_17_code, 3, (some .long), 2, 0, 11)
def J_HSheet_wordFrom : im_J := (⟨"LabelHouse$Sheet", "wordFrom", "(II)J"⟩, prog_11_method_8_code, 7, (some .long), 2, 0, 9)
def J_HSheet_word : im_J := (⟨"LabelHouse$Sheet", "word", "(II)J"⟩, prog_11_method_9_code, 3, (some .long), 2, 0, 9)
def J_H_got : im_J := (⟨"LabelHouse", "got", "(I)J"⟩, prog_1_method_24_code, 2, (some .long), 1, 0, 11)
def J_H_eightBytes : im_J := (⟨"LabelHouse", "eightBytes", "([BIII)J"⟩, prog_1_method_26_code, 9, (some .long), 4, 1, 11)
def J_H_feed : im_J := (⟨"LabelHouse", "feed", "(IJ)I"⟩, prog_1_method_2_code, 4, (some .int), 2, 0, 11)
def J_HTape_append : im_J := (⟨"LabelHouse$Tape", "append", "(IJ)I"⟩, prog_12_method_2_code, 5, (some .int), 2, 0, 10)
def J_H_font : im_J := (⟨"LabelHouse", "font", "(IIII)V"⟩, prog_1_method_4_code, 5, none, 4, 0, 11)
def J_HPen_newFont : im_J := (⟨"LabelHouse$Pen", "newFont", "(IIII)V"⟩, prog_8_method_2_code, 5, none, 4, 0, 6)
def J_H_cell : im_J := (⟨"LabelHouse", "cell", "(IIII)V"⟩, prog_1_method_5_code, 5, none, 4, 0, 11)
def J_HPen_rowsOf : im_J := (⟨"LabelHouse$Pen", "rowsOf", "(I)I"⟩, prog_8_method_3_code, 2, (some .int), 1, 0, 6)
def J_HPen_newRow : im_J := (⟨"LabelHouse$Pen", "newRow", "(IIII)V"⟩, prog_8_method_4_code, 5, none, 4, 0, 6)
def J_H_label : im_J := (⟨"LabelHouse", "label", "(II)I"⟩, prog_1_method_9_code, 3, (some .int), 2, 0, 11)
def J_H_order : im_J := (⟨"LabelHouse", "order", "(II)I"⟩, prog_1_method_10_code, 3, (some .int), 2, 0, 11)
def J_H_data : im_J := (⟨"LabelHouse", "data", "(II)J"⟩, prog_1_method_11_code, 3, (some .long), 2, 0, 11)
def J_H_print : im_J := (⟨"LabelHouse", "print", "(I)I"⟩, prog_1_method_12_code, 5, (some .int), 1, 0, 11)
def J_HSheet_renew : im_J := (⟨"LabelHouse$Sheet", "renew", "(II)V"⟩, prog_11_method_2_code, 3, none, 2, 0, 9)
def J_Arrays_fill2 : im_J := (⟨"java/util/Arrays", "fill", "([JJ)V"⟩, prog_37_method_101_code, 5, none, 2, 1, 22)
def J_HPen_follow : im_J := (⟨"LabelHouse$Pen", "follow", "(LLabelHouse$Orders;I)I"⟩, prog_8_method_5_code, 7, (some .int), 2, 0, 6)
def J_HPen_drawText : im_J := (⟨"LabelHouse$Pen", "drawText", "(LLabelHouse$Orders;I)V"⟩, prog_8_method_7_code, 11, none, 2, 0, 6)
def J_HOrders_byteAt : im_J := (⟨"LabelHouse$Orders", "byteAt", "(II)I"⟩, prog_7_method_3_code, 3, (some .int), 2, 0, 5)
def J_HPen_drawCellRow : im_J := (⟨"LabelHouse$Pen", "drawCellRow", "(IIIIII)V"⟩, prog_8_method_8_code, 9, none, 6, 0, 6)
def J_HPen_strike : im_J := (⟨"LabelHouse$Pen", "strike", "(IIII)V"⟩, prog_8_method_6_code, 5, none, 4, 0, 6)
def J_HSheet_box : im_J := (⟨"LabelHouse$Sheet", "box", "(IIII)V"⟩, prog_11_method_5_code, 12, none, 4, 0, 9)
def J_HSheet_strikeColumn : im_J := (⟨"LabelHouse$Sheet", "strikeColumn", "(IIIJ)V"⟩, prog_11_method_6_code, 8, none, 4, 0, 9)
def J_HBars_layText : im_J := (⟨"LabelHouse$Bars", "layText", "([BII)Z"⟩, prog_2_method_2_code, 5, (some .boolean), 3, 0, 0)
def J_HBars_countFewest : im_J := (⟨"LabelHouse$Bars", "countFewest", "()V"⟩, prog_2_method_3_code, 5, none, 0, 0, 0)
def J_HBars_fewestBySign : im_J := (⟨"LabelHouse$Bars", "fewestBySign", "(II)I"⟩, prog_2_method_4_code, 3, (some .int), 2, 0, 0)
def J_HBars_straight : im_J := (⟨"LabelHouse$Bars", "straight", "(II)I"⟩, prog_2_method_5_code, 3, (some .int), 2, 0, 0)
def J_HBars_symbolFor : im_J := (⟨"LabelHouse$Bars", "symbolFor", "(II)I"⟩, prog_2_method_8_code, 6, (some .int), 2, 0, 0)
def J_HBars_signsEach : im_J := (⟨"LabelHouse$Bars", "signsEach", "(I)I"⟩, prog_2_method_7_code, 1, (some .int), 1, 1, 0)
def J_HBars_shifted : im_J := (⟨"LabelHouse$Bars", "shifted", "(II)I"⟩, prog_2_method_6_code, 3, (some .int), 2, 0, 0)
def J_HBars_chooseSymbols : im_J := (⟨"LabelHouse$Bars", "chooseSymbols", "()V"⟩, prog_2_method_9_code, 5, none, 0, 0, 0)
def J_HBars_leastSymbol : im_J := (⟨"LabelHouse$Bars", "leastSymbol", "(II)I"⟩, prog_2_method_10_code, 6, (some .int), 2, 0, 0)
def J_HBars_addSymbol : im_J := (⟨"LabelHouse$Bars", "addSymbol", "(I)V"⟩, prog_2_method_11_code, 2, none, 1, 0, 0)
def J_HBars_checkSymbol : im_J := (⟨"LabelHouse$Bars", "checkSymbol", "(I)I"⟩, prog_2_method_12_code, 4, (some .int), 1, 0, 0)
def J_HBars_layWidths : im_J := (⟨"LabelHouse$Bars", "layWidths", "()V"⟩, prog_2_method_13_code, 2, none, 0, 0, 0)
def J_HBars_addWidths : im_J := (⟨"LabelHouse$Bars", "addWidths", "(II)V"⟩, prog_2_method_14_code, 4, none, 2, 0, 0)
def J_HPen_drawBars : im_J := (⟨"LabelHouse$Pen", "drawBars", "(ZII)V"⟩, prog_8_method_9_code, 7, none, 3, 0, 6)
def J_HBars_layFigures : im_J := (⟨"LabelHouse$Bars", "layFigures", "([BI)V"⟩, prog_2_method_15_code, 5, none, 2, 0, 0)
def J_Math_floorMod2 : im_J := (⟨"java/lang/Math", "floorMod", "(II)I"⟩, prog_29_method_50_code, 3, (some .int), 2, 1, 21)
def J_HBars_checkFigure : im_J := (⟨"LabelHouse$Bars", "checkFigure", "()I"⟩, prog_2_method_16_code, 3, (some .int), 0, 0, 0)
def J_HGrid_make : im_J := (⟨"LabelHouse$Grid", "make", "([BIIII)Z"⟩, prog_6_method_5_code, 7, (some .boolean), 5, 0, 4)
def J_HSegments_pack : im_J := (⟨"LabelHouse$Segments", "pack", "([BIII)I"⟩, prog_9_method_2_code, 7, (some .int), 4, 0, 7)
def J_HSegments_groupOf : im_J := (⟨"LabelHouse$Segments", "groupOf", "(I)I"⟩, prog_9_method_3_code, 1, (some .int), 1, 1, 7)
def J_HSegments_plan : im_J := (⟨"LabelHouse$Segments", "plan", "([BIII)I"⟩, prog_9_method_5_code, 8, (some .int), 4, 0, 7)
def J_HSegments_leastMode : im_J := (⟨"LabelHouse$Segments", "leastMode", "(IIII)I"⟩, prog_9_method_6_code, 7, (some .int), 4, 0, 7)
def J_HSegments_isOf : im_J := (⟨"LabelHouse$Segments", "isOf", "(II)Z"⟩, prog_9_method_4_code, 2, (some .boolean), 2, 1, 7)
def J_HSegments_bitsBy : im_J := (⟨"LabelHouse$Segments", "bitsBy", "(IIII)I"⟩, prog_9_method_7_code, 7, (some .int), 4, 0, 7)
def J_HBlocks_holds : im_J := (⟨"LabelHouse$Blocks", "holds", "(II)I"⟩, prog_3_method_3_code, 3, (some .int), 2, 1, 1)
def J_HBlocks_codewordsOf : im_J := (⟨"LabelHouse$Blocks", "codewordsOf", "(I)I"⟩, prog_3_method_2_code, 3, (some .int), 1, 1, 1)
def J_HSegments_write : im_J := (⟨"LabelHouse$Segments", "write", "([BIIII)V"⟩, prog_9_method_8_code, 9, none, 5, 0, 7)
def J_Arrays_fill3 : im_J := (⟨"java/util/Arrays", "fill", "([BIIB)V"⟩, prog_37_method_110_code, 5, none, 4, 1, 22)
def J_HSegments_put : im_J := (⟨"LabelHouse$Segments", "put", "(II)V"⟩, prog_9_method_12_code, 4, none, 2, 0, 7)
def J_HSegments_writeBytes : im_J := (⟨"LabelHouse$Segments", "writeBytes", "([BIII)V"⟩, prog_9_method_9_code, 11, none, 4, 0, 7)
def J_HSegments_base : im_J := (⟨"LabelHouse$Segments", "base", "(I)I"⟩, prog_9_method_10_code, 1, (some .int), 1, 1, 7)
def J_HSegments_partBits : im_J := (⟨"LabelHouse$Segments", "partBits", "(II)I"⟩, prog_9_method_11_code, 2, (some .int), 2, 1, 7)
def J_HBlocks_spread : im_J := (⟨"LabelHouse$Blocks", "spread", "(II[B)V"⟩, prog_3_method_9_code, 8, none, 3, 0, 1)
def J_HBlocks_begin : im_J := (⟨"LabelHouse$Blocks", "begin", "(II)V"⟩, prog_3_method_4_code, 4, none, 2, 0, 1)
def J_HBlocks_makeGenerator : im_J := (⟨"LabelHouse$Blocks", "makeGenerator", "()V"⟩, prog_3_method_12_code, 3, none, 0, 0, 1)
def J_Arrays_fill4 : im_J := (⟨"java/util/Arrays", "fill", "([II)V"⟩, prog_37_method_103_code, 4, none, 2, 1, 22)
def J_HBlocks_times : im_J := (⟨"LabelHouse$Blocks", "times", "(II)I"⟩, prog_3_method_10_code, 3, (some .int), 2, 0, 1)
def J_HBlocks_sizeOf : im_J := (⟨"LabelHouse$Blocks", "sizeOf", "(I)I"⟩, prog_3_method_7_code, 2, (some .int), 1, 0, 1)
def J_HBlocks_placeOf : im_J := (⟨"LabelHouse$Blocks", "placeOf", "(II)I"⟩, prog_3_method_8_code, 5, (some .int), 2, 0, 1)
def J_HBlocks_divide : im_J := (⟨"LabelHouse$Blocks", "divide", "(I)V"⟩, prog_3_method_13_code, 6, none, 1, 0, 1)
def J_HGrid_begin : im_J := (⟨"LabelHouse$Grid", "begin", "(I)V"⟩, prog_6_method_7_code, 3, none, 1, 0, 4)
def J_HGrid_fix : im_J := (⟨"LabelHouse$Grid", "fix", "(IIZ)V"⟩, prog_6_method_4_code, 4, none, 3, 0, 4)
def J_HGrid_fixSquares : im_J := (⟨"LabelHouse$Grid", "fixSquares", "(IIII)V"⟩, prog_6_method_8_code, 9, none, 4, 0, 4)
def J_Math_abs : im_J := (⟨"java/lang/Math", "abs", "(I)I"⟩, prog_29_method_59_code, 1, (some .int), 1, 1, 21)
def J_HGrid_fixSmallSquares : im_J := (⟨"LabelHouse$Grid", "fixSmallSquares", "()V"⟩, prog_6_method_9_code, 6, none, 0, 0, 4)
def J_HGrid_smallPlace : im_J := (⟨"LabelHouse$Grid", "smallPlace", "(II)I"⟩, prog_6_method_10_code, 4, (some .int), 2, 0, 4)
def J_HGrid_fixForm : im_J := (⟨"LabelHouse$Grid", "fixForm", "(II)V"⟩, prog_6_method_13_code, 6, none, 2, 0, 4)
def J_HGrid_formWord : im_J := (⟨"LabelHouse$Grid", "formWord", "(I)I"⟩, prog_6_method_11_code, 1, (some .int), 1, 1, 4)
def J_HGrid_rest : im_J := (⟨"LabelHouse$Grid", "rest", "(IIII)I"⟩, prog_6_method_12_code, 6, (some .int), 4, 1, 4)
def J_HGrid_formX : im_J := (⟨"LabelHouse$Grid", "formX", "(II)I"⟩, prog_6_method_14_code, 3, (some .int), 2, 0, 4)
def J_HGrid_formY : im_J := (⟨"LabelHouse$Grid", "formY", "(II)I"⟩, prog_6_method_15_code, 3, (some .int), 2, 0, 4)
def J_HGrid_fixVersion : im_J := (⟨"LabelHouse$Grid", "fixVersion", "()V"⟩, prog_6_method_16_code, 4, none, 0, 0, 4)
def J_HGrid_carry : im_J := (⟨"LabelHouse$Grid", "carry", "(Z)V"⟩, prog_6_method_17_code, 7, none, 1, 0, 4)
def J_HGrid_carryBit : im_J := (⟨"LabelHouse$Grid", "carryBit", "(ZIII)I"⟩, prog_6_method_18_code, 5, (some .int), 4, 0, 4)
def J_HBlocks_bitAt : im_J := (⟨"LabelHouse$Blocks", "bitAt", "(I)Z"⟩, prog_3_method_5_code, 2, (some .boolean), 1, 0, 1)
def J_HGrid_set : im_J := (⟨"LabelHouse$Grid", "set", "(IIZ)V"⟩, prog_6_method_3_code, 4, none, 3, 0, 4)
def J_HGrid_isDark : im_J := (⟨"LabelHouse$Grid", "isDark", "(II)Z"⟩, prog_6_method_2_code, 3, (some .boolean), 2, 0, 4)
def J_HBlocks_putBit : im_J := (⟨"LabelHouse$Blocks", "putBit", "(IZ)V"⟩, prog_3_method_6_code, 5, none, 2, 0, 1)
def J_HGrid_bestMask : im_J := (⟨"LabelHouse$Grid", "bestMask", "(I)I"⟩, prog_6_method_6_code, 6, (some .int), 1, 0, 4)
def J_HGrid_turnMask : im_J := (⟨"LabelHouse$Grid", "turnMask", "(I)V"⟩, prog_6_method_19_code, 5, none, 1, 0, 4)
def J_HGrid_isTurned : im_J := (⟨"LabelHouse$Grid", "isTurned", "(III)Z"⟩, prog_6_method_20_code, 3, (some .boolean), 3, 1, 4)
def J_HGrid_penalty : im_J := (⟨"LabelHouse$Grid", "penalty", "()I"⟩, prog_6_method_21_code, 5, (some .int), 0, 0, 4)
def J_HGrid_linePenalty : im_J := (⟨"LabelHouse$Grid", "linePenalty", "(II)I"⟩, prog_6_method_23_code, 9, (some .int), 2, 0, 4)
def J_HGrid_isSquareAlike : im_J := (⟨"LabelHouse$Grid", "isSquareAlike", "(I)Z"⟩, prog_6_method_22_code, 3, (some .boolean), 1, 0, 4)
def J_HPen_drawSquare : im_J := (⟨"LabelHouse$Pen", "drawSquare", "(ZI)V"⟩, prog_8_method_10_code, 5, none, 2, 0, 6)
def J_HPen_drawFrame : im_J := (⟨"LabelHouse$Pen", "drawFrame", "(III)V"⟩, prog_8_method_11_code, 4, none, 3, 0, 6)
def J_HPen_drawEllipse : im_J := (⟨"LabelHouse$Pen", "drawEllipse", "(III)V"⟩, prog_8_method_12_code, 11, none, 3, 0, 6)
def J_HPen_indent : im_J := (⟨"LabelHouse$Pen", "indent", "(IIIJ)I"⟩, prog_8_method_13_code, 11, (some .int), 4, 1, 6)
def J_HPen_drawLine : im_J := (⟨"LabelHouse$Pen", "drawLine", "(III)V"⟩, prog_8_method_14_code, 11, none, 3, 0, 6)
def J_Math_floorDiv : im_J := (⟨"java/lang/Math", "floorDiv", "(II)I"⟩, prog_29_method_47_code, 3, (some .int), 2, 1, 21)
def J_HPen_isNear : im_J := (⟨"LabelHouse$Pen", "isNear", "(JJJJJ)Z"⟩, prog_8_method_16_code, 16, (some .boolean), 5, 1, 6)
def J_HPen_lastNear : im_J := (⟨"LabelHouse$Pen", "lastNear", "(IIIIII)I"⟩, prog_8_method_15_code, 10, (some .int), 6, 1, 6)
def J_HPen_drawPicture : im_J := (⟨"LabelHouse$Pen", "drawPicture", "(LLabelHouse$Orders;I)V"⟩, prog_8_method_17_code, 9, none, 2, 0, 6)
def J_H_turn : im_J := (⟨"LabelHouse", "turn", "(I)V"⟩, prog_1_method_15_code, 2, none, 1, 0, 11)
def J_HSheet_rotate : im_J := (⟨"LabelHouse$Sheet", "rotate", "(I)V"⟩, prog_11_method_10_code, 4, none, 1, 0, 9)
def J_HSheet_rotateWord : im_J := (⟨"LabelHouse$Sheet", "rotateWord", "(III)V"⟩, prog_11_method_11_code, 10, none, 3, 0, 9)
def J_H_told : im_J := (⟨"LabelHouse", "told", "(I)I"⟩, prog_1_method_16_code, 2, (some .int), 1, 0, 11)
def J_HSheet_edgeColumn : im_J := (⟨"LabelHouse$Sheet", "edgeColumn", "(I)I"⟩, prog_11_method_13_code, 7, (some .int), 1, 0, 9)
def J_HSheet_edgeBit : im_J := (⟨"LabelHouse$Sheet", "edgeBit", "(JI)I"⟩, prog_11_method_14_code, 5, (some .int), 2, 1, 9)
def J_HSheet_edgeRow : im_J := (⟨"LabelHouse$Sheet", "edgeRow", "(I)I"⟩, prog_11_method_15_code, 5, (some .int), 1, 0, 9)
def J_HSheet_darkCount : im_J := (⟨"LabelHouse$Sheet", "darkCount", "()I"⟩, prog_11_method_12_code, 3, (some .int), 0, 0, 9)
def J_Long_bitCount : im_J := (⟨"java/lang/Long", "bitCount", "(J)I"⟩, prog_28_method_50_code, 2, (some .int), 1, 1, 24)
def J_H_run : im_J := (⟨"LabelHouse", "run", "(IIIZ)I"⟩, prog_1_method_18_code, 6, (some .int), 4, 0, 11)
def J_HSheet_has : im_J := (⟨"LabelHouse$Sheet", "has", "(II)Z"⟩, prog_11_method_3_code, 3, (some .boolean), 2, 0, 9)
def J_HSheet_takeRuns : im_J := (⟨"LabelHouse$Sheet", "takeRuns", "(IIZ[I)I"⟩, prog_11_method_16_code, 10, (some .int), 4, 0, 9)
def J_HSheet_isDark : im_J := (⟨"LabelHouse$Sheet", "isDark", "(II)Z"⟩, prog_11_method_4_code, 3, (some .boolean), 2, 0, 9)
def J_H_scan : im_J := (⟨"LabelHouse", "scan", "(III)I"⟩, prog_1_method_19_code, 4, (some .int), 3, 0, 11)
def J_HFinder_search : im_J := (⟨"LabelHouse$Finder", "search", "(III)I"⟩, prog_5_method_2_code, 6, (some .int), 3, 0, 3)
def J_HFinder_addUp : im_J := (⟨"LabelHouse$Finder", "addUp", "()V"⟩, prog_5_method_3_code, 5, none, 0, 0, 3)
def J_HFinder_darkMarks : im_J := (⟨"LabelHouse$Finder", "darkMarks", "(I)I"⟩, prog_5_method_7_code, 1, (some .int), 1, 1, 3)
def J_HFinder_lookAtCorners : im_J := (⟨"LabelHouse$Finder", "lookAtCorners", "()V"⟩, prog_5_method_5_code, 4, none, 0, 0, 3)
def J_HFinder_darkIn : im_J := (⟨"LabelHouse$Finder", "darkIn", "(III)I"⟩, prog_5_method_4_code, 6, (some .int), 3, 0, 3)
def J_HFinder_ringsWrong : im_J := (⟨"LabelHouse$Finder", "ringsWrong", "(II)I"⟩, prog_5_method_6_code, 6, (some .int), 2, 0, 3)
def J_HFinder_lookAtAll : im_J := (⟨"LabelHouse$Finder", "lookAtAll", "(I)Z"⟩, prog_5_method_9_code, 5, (some .boolean), 1, 0, 3)
def J_HFinder_leadsOn : im_J := (⟨"LabelHouse$Finder", "leadsOn", "(I)Z"⟩, prog_5_method_10_code, 2, (some .boolean), 1, 0, 3)
def J_HFinder_hasEdges : im_J := (⟨"LabelHouse$Finder", "hasEdges", "(III)Z"⟩, prog_5_method_11_code, 6, (some .boolean), 3, 0, 3)
def J_HFinder_edgedWrong : im_J := (⟨"LabelHouse$Finder", "edgedWrong", "(III)I"⟩, prog_5_method_12_code, 5, (some .int), 3, 0, 3)
def J_HFinder_lookFrom : im_J := (⟨"LabelHouse$Finder", "lookFrom", "(IIII)Z"⟩, prog_5_method_13_code, 7, (some .boolean), 4, 0, 3)
def J_HFinder_lookAt : im_J := (⟨"LabelHouse$Finder", "lookAt", "(IIII)Z"⟩, prog_5_method_14_code, 10, (some .boolean), 4, 0, 3)
def J_HFinder_hasShades : im_J := (⟨"LabelHouse$Finder", "hasShades", "(III)Z"⟩, prog_5_method_15_code, 6, (some .boolean), 3, 0, 3)
def J_HFinder_lightMarks : im_J := (⟨"LabelHouse$Finder", "lightMarks", "(I)I"⟩, prog_5_method_8_code, 1, (some .int), 1, 1, 3)
def J_HFinder_wrongAt : im_J := (⟨"LabelHouse$Finder", "wrongAt", "(IIIII)I"⟩, prog_5_method_16_code, 12, (some .int), 5, 0, 3)
def J_HFinder_loneX : im_J := (⟨"LabelHouse$Finder", "loneX", "(II)I"⟩, prog_5_method_17_code, 2, (some .int), 2, 1, 3)
def J_HFinder_loneY : im_J := (⟨"LabelHouse$Finder", "loneY", "(II)I"⟩, prog_5_method_18_code, 2, (some .int), 2, 1, 3)
def J_HFinder_add : im_J := (⟨"LabelHouse$Finder", "add", "(IIIII)Z"⟩, prog_5_method_19_code, 9, (some .boolean), 5, 0, 3)
def J_HFinder_keepLeaders : im_J := (⟨"LabelHouse$Finder", "keepLeaders", "()V"⟩, prog_5_method_21_code, 4, none, 0, 0, 3)
def J_HFinder_haveCommonDot : im_J := (⟨"LabelHouse$Finder", "haveCommonDot", "(II)Z"⟩, prog_5_method_22_code, 5, (some .boolean), 2, 0, 3)
def J_HFinder_part : im_J := (⟨"LabelHouse$Finder", "part", "(II)I"⟩, prog_5_method_20_code, 5, (some .int), 2, 0, 3)
def J_H_found : im_J := (⟨"LabelHouse", "found", "(II)I"⟩, prog_1_method_20_code, 3, (some .int), 2, 0, 11)
def J_H_decode : im_J := (⟨"LabelHouse", "decode", "(I)I"⟩, prog_1_method_21_code, 3, (some .int), 1, 0, 11)
def J_H_forgetReading : im_J := (⟨"LabelHouse", "forgetReading", "()V"⟩, prog_1_method_25_code, 1, none, 0, 0, 11)
def J_HFinder_fill : im_J := (⟨"LabelHouse$Finder", "fill", "(ILLabelHouse$Grid;)V"⟩, prog_5_method_23_code, 11, none, 2, 0, 3)
def J_HFinder_darkNow : im_J := (⟨"LabelHouse$Finder", "darkNow", "(III)I"⟩, prog_5_method_24_code, 6, (some .int), 3, 0, 3)
def J_HGrid_understand : im_J := (⟨"LabelHouse$Grid", "understand", "([B)I"⟩, prog_6_method_24_code, 3, (some .int), 1, 0, 4)
def J_HGrid_formNumber : im_J := (⟨"LabelHouse$Grid", "formNumber", "()I"⟩, prog_6_method_25_code, 4, (some .int), 0, 0, 4)
def J_Integer_bitCount : im_J := (⟨"java/lang/Integer", "bitCount", "(I)I"⟩, prog_27_method_49_code, 1, (some .int), 1, 1, 23)
def J_HBlocks_mend : im_J := (⟨"LabelHouse$Blocks", "mend", "(II[B)I"⟩, prog_3_method_14_code, 11, (some .int), 3, 0, 1)
def J_HBlocks_kept : im_J := (⟨"LabelHouse$Blocks", "kept", "(II)I"⟩, prog_3_method_15_code, 2, (some .int), 2, 1, 1)
def J_HBlocks_mendWord : im_J := (⟨"LabelHouse$Blocks", "mendWord", "(II)I"⟩, prog_3_method_16_code, 9, (some .int), 2, 0, 1)
def J_HBlocks_isCodeword : im_J := (⟨"LabelHouse$Blocks", "isCodeword", "(I)Z"⟩, prog_3_method_17_code, 6, (some .boolean), 1, 0, 1)
def J_HBlocks_findLocator : im_J := (⟨"LabelHouse$Blocks", "findLocator", "()I"⟩, prog_3_method_18_code, 8, (some .int), 0, 0, 1)
def J_HBlocks_over : im_J := (⟨"LabelHouse$Blocks", "over", "(II)I"⟩, prog_3_method_11_code, 3, (some .int), 2, 0, 1)
def J_HBlocks_makeEvaluator : im_J := (⟨"LabelHouse$Blocks", "makeEvaluator", "()V"⟩, prog_3_method_19_code, 3, none, 0, 0, 1)
def J_HBlocks_valueAt : im_J := (⟨"LabelHouse$Blocks", "valueAt", "([II)I"⟩, prog_3_method_20_code, 5, (some .int), 2, 0, 1)
def J_HBlocks_slopeAt : im_J := (⟨"LabelHouse$Blocks", "slopeAt", "(I)I"⟩, prog_3_method_21_code, 5, (some .int), 1, 0, 1)
def J_HSegments_unpack : im_J := (⟨"LabelHouse$Segments", "unpack", "(II[B)I"⟩, prog_9_method_14_code, 7, (some .int), 3, 0, 7)
def J_HSegments_take : im_J := (⟨"LabelHouse$Segments", "take", "(I)I"⟩, prog_9_method_13_code, 4, (some .int), 1, 0, 7)
def J_HSegments_modeOf : im_J := (⟨"LabelHouse$Segments", "modeOf", "(I)I"⟩, prog_9_method_15_code, 1, (some .int), 1, 1, 7)
def J_HSegments_unpackOne : im_J := (⟨"LabelHouse$Segments", "unpackOne", "(II[B)I"⟩, prog_9_method_16_code, 9, (some .int), 3, 0, 7)
def J_HSegments_unpackPart : im_J := (⟨"LabelHouse$Segments", "unpackPart", "(III[B)Z"⟩, prog_9_method_17_code, 7, (some .boolean), 4, 0, 7)
def J_String_charAt : im_J := (⟨"java/lang/String", "charAt", "(I)C"⟩, prog_31_method_56_code, 2, (some .char), 1, 0, 19)
def J_StringLatin1_charAt : im_J := (⟨"java/lang/StringLatin1", "charAt", "([BI)C"⟩, prog_33_method_2_code, 2, (some .char), 2, 1, 20)
def J_String_checkIndex : im_J := (⟨"java/lang/String", "checkIndex", "(II)V"⟩, prog_31_method_155_code, 2, none, 2, 1, 19)
def J_H_bars : im_J := (⟨"LabelHouse", "bars", "(IIZ)I"⟩, prog_1_method_22_code, 5, (some .int), 3, 0, 11)
def J_HBars_understand : im_J := (⟨"LabelHouse$Bars", "understand", "(I[B)I"⟩, prog_2_method_17_code, 5, (some .int), 2, 0, 0)
def J_HBars_readFigures : im_J := (⟨"LabelHouse$Bars", "readFigures", "([B)Z"⟩, prog_2_method_23_code, 5, (some .boolean), 1, 0, 0)
def J_HBars_hasGuards : im_J := (⟨"LabelHouse$Bars", "hasGuards", "()Z"⟩, prog_2_method_24_code, 4, (some .boolean), 0, 0, 0)
def J_HBars_sumOf : im_J := (⟨"LabelHouse$Bars", "sumOf", "(II)I"⟩, prog_2_method_19_code, 5, (some .int), 2, 0, 0)
def J_HBars_widthAt : im_J := (⟨"LabelHouse$Bars", "widthAt", "(I)I"⟩, prog_2_method_18_code, 2, (some .int), 1, 0, 0)
def J_HBars_nearest : im_J := (⟨"LabelHouse$Bars", "nearest", "(III)I"⟩, prog_2_method_21_code, 3, (some .int), 3, 1, 0)
def J_HBars_patternAt : im_J := (⟨"LabelHouse$Bars", "patternAt", "(III)I"⟩, prog_2_method_20_code, 8, (some .int), 3, 0, 0)
def J_HBars_indexOf : im_J := (⟨"LabelHouse$Bars", "indexOf", "([II)I"⟩, prog_2_method_22_code, 3, (some .int), 2, 1, 0)
def J_HBars_readSymbols : im_J := (⟨"LabelHouse$Bars", "readSymbols", "([B)Z"⟩, prog_2_method_25_code, 4, (some .boolean), 1, 0, 0)
def J_HBars_tell : im_J := (⟨"LabelHouse$Bars", "tell", "(I[B)Z"⟩, prog_2_method_26_code, 7, (some .boolean), 2, 0, 0)
def J_HBars_write : im_J := (⟨"LabelHouse$Bars", "write", "(I[B)V"⟩, prog_2_method_28_code, 3, none, 2, 0, 0)
def J_HBars_signOf : im_J := (⟨"LabelHouse$Bars", "signOf", "(II)I"⟩, prog_2_method_27_code, 2, (some .int), 2, 1, 0)
def J_H_reading : im_J := (⟨"LabelHouse", "reading", "(I)I"⟩, prog_1_method_23_code, 2, (some .int), 1, 0, 11)
def J_M_init : im_J := (⟨"LabelHouseModel", "<init>", "()V"⟩, prog_14_method_1_code, 1, none, 0, 2, 17)
def J_MScriptRows_init : im_J := (⟨"LabelHouseModel$ScriptRows", "<init>", "()V"⟩, prog_18_method_1_code, 1, none, 0, 2, 15)
def J_MDotRows_init : im_J := (⟨"LabelHouseModel$DotRows", "<init>", "()V"⟩, prog_15_method_1_code, 1, none, 0, 2, 12)
def J_MLineRows_init : im_J := (⟨"LabelHouseModel$LineRows", "<init>", "()V"⟩, prog_16_method_1_code, 1, none, 0, 2, 13)
def J_MSquareRows_init : im_J := (⟨"LabelHouseModel$SquareRows", "<init>", "()V"⟩, prog_19_method_1_code, 1, none, 0, 2, 16)
def J_MPlaceRows_init : im_J := (⟨"LabelHouseModel$PlaceRows", "<init>", "()V"⟩, prog_17_method_1_code, 1, none, 0, 2, 14)
def J_M_thrown : im_J := (⟨"LabelHouseModel", "thrown", "()I"⟩, prog_14_method_2_code, 1, (some .int), 0, 0, 17)
def J_M_feed : im_J := (⟨"LabelHouseModel", "feed", "(IJ)I"⟩, prog_14_method_3_code, 5, (some .int), 2, 0, 17)
def J_M_wipe : im_J := (⟨"LabelHouseModel", "wipe", "()I"⟩, prog_14_method_4_code, 2, (some .int), 0, 0, 17)
def J_M_font : im_J := (⟨"LabelHouseModel", "font", "(IIII)V"⟩, prog_14_method_5_code, 5, none, 4, 0, 17)
def J_MDotRows_font : im_J := (⟨"LabelHouseModel$DotRows", "font", "(IIII)V"⟩, prog_15_method_29_code, 6, none, 4, 0, 12)
def J_MDotRows_isNot : im_J := (⟨"LabelHouseModel$DotRows", "isNot", "(III)Z"⟩, prog_15_method_24_code, 3, (some .boolean), 3, 1, 12)
def J_MDotRows_thrown : im_J := (⟨"LabelHouseModel$DotRows", "thrown", "()I"⟩, prog_15_method_2_code, 1, (some .int), 0, 0, 12)
def J_M_cell : im_J := (⟨"LabelHouseModel", "cell", "(IIII)V"⟩, prog_14_method_6_code, 5, none, 4, 0, 17)
def J_MDotRows_cell : im_J := (⟨"LabelHouseModel$DotRows", "cell", "(IIII)V"⟩, prog_15_method_30_code, 5, none, 4, 0, 12)
def J_M_read : im_J := (⟨"LabelHouseModel", "read", "()I"⟩, prog_14_method_7_code, 3, (some .int), 0, 0, 17)
def J_MScriptRows_wipe : im_J := (⟨"LabelHouseModel$ScriptRows", "wipe", "()I"⟩, prog_18_method_4_code, 2, (some .int), 0, 0, 15)
def J_MScriptRows_write : im_J := (⟨"LabelHouseModel$ScriptRows", "write", "(IJ)I"⟩, prog_18_method_3_code, 5, (some .int), 2, 0, 15)
def J_MScriptRows_read : im_J := (⟨"LabelHouseModel$ScriptRows", "read", "()I"⟩, prog_18_method_43_code, 2, (some .int), 0, 0, 15)
def J_MScriptRows_step : im_J := (⟨"LabelHouseModel$ScriptRows", "step", "()Z"⟩, prog_18_method_42_code, 2, (some .boolean), 0, 0, 15)
def J_MScriptRows_peek : im_J := (⟨"LabelHouseModel$ScriptRows", "peek", "()I"⟩, prog_18_method_5_code, 1, (some .int), 0, 0, 15)
def J_MScriptRows_next : im_J := (⟨"LabelHouseModel$ScriptRows", "next", "()I"⟩, prog_18_method_6_code, 2, (some .int), 0, 0, 15)
def J_MScriptRows_test : im_J := (⟨"LabelHouseModel$ScriptRows", "test", "(I)I"⟩, prog_18_method_34_code, 3, (some .int), 1, 0, 15)
def J_MScriptRows_numbers : im_J := (⟨"LabelHouseModel$ScriptRows", "numbers", "(I)I"⟩, prog_18_method_9_code, 1, (some .int), 1, 1, 15)
def J_MScriptRows_mayStand : im_J := (⟨"LabelHouseModel$ScriptRows", "mayStand", "(I)Z"⟩, prog_18_method_33_code, 2, (some .boolean), 1, 0, 15)
def J_MScriptRows_takeNumbers : im_J := (⟨"LabelHouseModel$ScriptRows", "takeNumbers", "(I)I"⟩, prog_18_method_13_code, 7, (some .int), 1, 0, 15)
def J_MScriptRows_preset : im_J := (⟨"LabelHouseModel$ScriptRows", "preset", "(II)I"⟩, prog_18_method_10_code, 3, (some .int), 2, 0, 15)
def J_MScriptRows_isDigit : im_J := (⟨"LabelHouseModel$ScriptRows", "isDigit", "(I)Z"⟩, prog_18_method_7_code, 1, (some .boolean), 1, 1, 15)
def J_MScriptRows_testRanges : im_J := (⟨"LabelHouseModel$ScriptRows", "testRanges", "(I)I"⟩, prog_18_method_14_code, 3, (some .int), 1, 0, 15)
def J_MScriptRows_range : im_J := (⟨"LabelHouseModel$ScriptRows", "range", "(II)I"⟩, prog_18_method_11_code, 2, (some .int), 2, 1, 15)
def J_MScriptRows_picture : im_J := (⟨"LabelHouseModel$ScriptRows", "picture", "(II)I"⟩, prog_18_method_12_code, 2, (some .int), 2, 1, 15)
def J_MScriptRows_takeData : im_J := (⟨"LabelHouseModel$ScriptRows", "takeData", "()I"⟩, prog_18_method_15_code, 4, (some .int), 0, 0, 15)
def J_MScriptRows_hex : im_J := (⟨"LabelHouseModel$ScriptRows", "hex", "(I)I"⟩, prog_18_method_8_code, 1, (some .int), 1, 1, 15)
def J_MScriptRows_formSize : im_J := (⟨"LabelHouseModel$ScriptRows", "formSize", "()I"⟩, prog_18_method_16_code, 2, (some .int), 0, 0, 15)
def J_MScriptRows_tryField : im_J := (⟨"LabelHouseModel$ScriptRows", "tryField", "()I"⟩, prog_18_method_22_code, 1, (some .int), 0, 0, 15)
def J_MScriptRows_fits : im_J := (⟨"LabelHouseModel$ScriptRows", "fits", "()Z"⟩, prog_18_method_21_code, 5, (some .boolean), 0, 0, 15)
def J_MScriptRows_isPlaced : im_J := (⟨"LabelHouseModel$ScriptRows", "isPlaced", "(I)Z"⟩, prog_18_method_23_code, 3, (some .boolean), 1, 0, 15)
def J_MScriptRows_lay : im_J := (⟨"LabelHouseModel$ScriptRows", "lay", "()V"⟩, prog_18_method_19_code, 2, none, 0, 0, 15)
def J_MScriptRows_makeField : im_J := (⟨"LabelHouseModel$ScriptRows", "makeField", "(II)V"⟩, prog_18_method_29_code, 7, none, 2, 0, 15)
def J_MScriptRows_takeCopy : im_J := (⟨"LabelHouseModel$ScriptRows", "takeCopy", "(II)V"⟩, prog_18_method_24_code, 10, none, 2, 0, 15)
def J_MScriptRows_give : im_J := (⟨"LabelHouseModel$ScriptRows", "give", "(IIIIIII)V"⟩, prog_18_method_27_code, 12, none, 7, 0, 15)
def J_MScriptRows_stepX : im_J := (⟨"LabelHouseModel$ScriptRows", "stepX", "(IIII)I"⟩, prog_18_method_25_code, 4, (some .int), 4, 1, 15)
def J_MScriptRows_stepY : im_J := (⟨"LabelHouseModel$ScriptRows", "stepY", "(IIII)I"⟩, prog_18_method_26_code, 4, (some .int), 4, 1, 15)
def J_MScriptRows_isFar : im_J := (⟨"LabelHouseModel$ScriptRows", "isFar", "(I)Z"⟩, prog_18_method_18_code, 1, (some .boolean), 1, 1, 15)
def J_MScriptRows_have : im_J := (⟨"LabelHouseModel$ScriptRows", "have", "(III)V"⟩, prog_18_method_28_code, 4, none, 3, 0, 15)
def J_MScriptRows_makeLines : im_J := (⟨"LabelHouseModel$ScriptRows", "makeLines", "(I)V"⟩, prog_18_method_31_code, 10, none, 1, 0, 15)
def J_MScriptRows_pieceEnd : im_J := (⟨"LabelHouseModel$ScriptRows", "pieceEnd", "(II)I"⟩, prog_18_method_30_code, 4, (some .int), 2, 0, 15)
def J_MScriptRows_giveLine : im_J := (⟨"LabelHouseModel$ScriptRows", "giveLine", "(IIII)V"⟩, prog_18_method_32_code, 8, none, 4, 0, 15)
def J_MScriptRows_obey : im_J := (⟨"LabelHouseModel$ScriptRows", "obey", "(I)V"⟩, prog_18_method_40_code, 2, none, 1, 0, 15)
def J_MScriptRows_storeForm : im_J := (⟨"LabelHouseModel$ScriptRows", "storeForm", "()V"⟩, prog_18_method_35_code, 3, none, 0, 0, 15)
def J_MScriptRows_storeData : im_J := (⟨"LabelHouseModel$ScriptRows", "storeData", "(I)V"⟩, prog_18_method_39_code, 4, none, 1, 0, 15)
def J_MScriptRows_beginLabel : im_J := (⟨"LabelHouseModel$ScriptRows", "beginLabel", "()V"⟩, prog_18_method_37_code, 1, none, 0, 0, 15)
def J_MScriptRows_newField : im_J := (⟨"LabelHouseModel$ScriptRows", "newField", "()V"⟩, prog_18_method_17_code, 2, none, 0, 0, 15)
def J_MScriptRows_endLabel : im_J := (⟨"LabelHouseModel$ScriptRows", "endLabel", "()V"⟩, prog_18_method_38_code, 4, none, 0, 0, 15)
def J_MScriptRows_layForm : im_J := (⟨"LabelHouseModel$ScriptRows", "layForm", "()V"⟩, prog_18_method_36_code, 3, none, 0, 0, 15)
def J_MScriptRows_set : im_J := (⟨"LabelHouseModel$ScriptRows", "set", "(I)V"⟩, prog_18_method_41_code, 3, none, 1, 0, 15)
def J_MScriptRows_kindOf : im_J := (⟨"LabelHouseModel$ScriptRows", "kindOf", "(I)I"⟩, prog_18_method_20_code, 1, (some .int), 1, 1, 15)
def J_M_fault : im_J := (⟨"LabelHouseModel", "fault", "()I"⟩, prog_14_method_8_code, 1, (some .int), 0, 0, 17)
def J_MScriptRows_fault : im_J := (⟨"LabelHouseModel$ScriptRows", "fault", "()I"⟩, prog_18_method_44_code, 1, (some .int), 0, 0, 15)
def J_M_place : im_J := (⟨"LabelHouseModel", "place", "()I"⟩, prog_14_method_9_code, 1, (some .int), 0, 0, 17)
def J_MScriptRows_place : im_J := (⟨"LabelHouseModel$ScriptRows", "place", "()I"⟩, prog_18_method_45_code, 1, (some .int), 0, 0, 15)
def J_M_label : im_J := (⟨"LabelHouseModel", "label", "(II)I"⟩, prog_14_method_10_code, 4, (some .int), 2, 0, 17)
def J_MScriptRows_label : im_J := (⟨"LabelHouseModel$ScriptRows", "label", "(II)I"⟩, prog_18_method_46_code, 3, (some .int), 2, 0, 15)
def J_MScriptRows_thrown : im_J := (⟨"LabelHouseModel$ScriptRows", "thrown", "()I"⟩, prog_18_method_2_code, 1, (some .int), 0, 0, 15)
def J_M_order : im_J := (⟨"LabelHouseModel", "order", "(II)I"⟩, prog_14_method_11_code, 4, (some .int), 2, 0, 17)
def J_MScriptRows_order : im_J := (⟨"LabelHouseModel$ScriptRows", "order", "(II)I"⟩, prog_18_method_47_code, 3, (some .int), 2, 0, 15)
def J_M_data : im_J := (⟨"LabelHouseModel", "data", "(II)J"⟩, prog_14_method_12_code, 5, (some .long), 2, 0, 17)
def J_MScriptRows_data : im_J := (⟨"LabelHouseModel$ScriptRows", "data", "(II)J"⟩, prog_18_method_48_code, 8, (some .long), 2, 0, 15)
def J_M_print : im_J := (⟨"LabelHouseModel", "print", "(I)I"⟩, prog_14_method_22_code, 4, (some .int), 1, 0, 17)
def J_MDotRows_sheet : im_J := (⟨"LabelHouseModel$DotRows", "sheet", "(II)V"⟩, prog_15_method_6_code, 4, none, 2, 0, 12)
def J_M_draw : im_J := (⟨"LabelHouseModel", "draw", "(I)I"⟩, prog_14_method_20_code, 9, (some .int), 1, 0, 17)
def J_MDotRows_way : im_J := (⟨"LabelHouseModel$DotRows", "way", "(I)I"⟩, prog_15_method_7_code, 3, (some .int), 1, 0, 12)
def J_MDotRows_wipe : im_J := (⟨"LabelHouseModel$DotRows", "wipe", "()I"⟩, prog_15_method_9_code, 2, (some .int), 0, 0, 12)
def J_M_draftData : im_J := (⟨"LabelHouseModel", "draftData", "(I)V"⟩, prog_14_method_15_code, 4, none, 1, 0, 17)
def J_M_byteOf : im_J := (⟨"LabelHouseModel", "byteOf", "(II)I"⟩, prog_14_method_13_code, 3, (some .int), 2, 0, 17)
def J_M_draft : im_J := (⟨"LabelHouseModel", "draft", "(I)V"⟩, prog_14_method_14_code, 3, none, 1, 0, 17)
def J_MDotRows_write : im_J := (⟨"LabelHouseModel$DotRows", "write", "(IJ)I"⟩, prog_15_method_8_code, 5, (some .int), 2, 0, 12)
def J_MDotRows_text : im_J := (⟨"LabelHouseModel$DotRows", "text", "(IIIII)I"⟩, prog_15_method_31_code, 6, (some .int), 5, 0, 12)
def J_MDotRows_noPlace : im_J := (⟨"LabelHouseModel$DotRows", "noPlace", "(II)Z"⟩, prog_15_method_23_code, 2, (some .boolean), 2, 1, 12)
def J_MDotRows_at : im_J := (⟨"LabelHouseModel$DotRows", "at", "(IIIII)V"⟩, prog_15_method_22_code, 6, none, 5, 0, 12)
def J_MDotRows_draw : im_J := (⟨"LabelHouseModel$DotRows", "draw", "(I)I"⟩, prog_15_method_21_code, 5, (some .int), 1, 0, 12)
def J_MDotRows_belongs : im_J := (⟨"LabelHouseModel$DotRows", "belongs", "(III)Z"⟩, prog_15_method_20_code, 6, (some .boolean), 3, 0, 12)
def J_MDotRows_inFrame : im_J := (⟨"LabelHouseModel$DotRows", "inFrame", "(II)Z"⟩, prog_15_method_11_code, 6, (some .boolean), 2, 0, 12)
def J_MDotRows_inLine : im_J := (⟨"LabelHouseModel$DotRows", "inLine", "(II)Z"⟩, prog_15_method_12_code, 19, (some .boolean), 2, 0, 12)
def J_MDotRows_inEllipse : im_J := (⟨"LabelHouseModel$DotRows", "inEllipse", "(II)Z"⟩, prog_15_method_14_code, 11, (some .boolean), 2, 0, 12)
def J_MDotRows_inOval : im_J := (⟨"LabelHouseModel$DotRows", "inOval", "(JJJJ)Z"⟩, prog_15_method_13_code, 8, (some .boolean), 4, 1, 12)
def J_MDotRows_inPicture : im_J := (⟨"LabelHouseModel$DotRows", "inPicture", "(II)Z"⟩, prog_15_method_19_code, 6, (some .boolean), 2, 0, 12)
def J_MDotRows_bit : im_J := (⟨"LabelHouseModel$DotRows", "bit", "(I)Z"⟩, prog_15_method_10_code, 2, (some .boolean), 1, 0, 12)
def J_MDotRows_along : im_J := (⟨"LabelHouseModel$DotRows", "along", "(II)I"⟩, prog_15_method_15_code, 3, (some .int), 2, 0, 12)
def J_MDotRows_across : im_J := (⟨"LabelHouseModel$DotRows", "across", "(II)I"⟩, prog_15_method_16_code, 3, (some .int), 2, 0, 12)
def J_MDotRows_inText : im_J := (⟨"LabelHouseModel$DotRows", "inText", "(II)Z"⟩, prog_15_method_17_code, 7, (some .boolean), 2, 0, 12)
def J_MDotRows_inSquare : im_J := (⟨"LabelHouseModel$DotRows", "inSquare", "(II)Z"⟩, prog_15_method_18_code, 5, (some .boolean), 2, 0, 12)
def J_MDotRows_isDark : im_J := (⟨"LabelHouseModel$DotRows", "isDark", "(II)Z"⟩, prog_15_method_4_code, 3, (some .boolean), 2, 0, 12)
def J_MDotRows_isOn : im_J := (⟨"LabelHouseModel$DotRows", "isOn", "(II)Z"⟩, prog_15_method_3_code, 3, (some .boolean), 2, 0, 12)
def J_MDotRows_other : im_J := (⟨"LabelHouseModel$DotRows", "other", "(II)V"⟩, prog_15_method_5_code, 3, none, 2, 0, 12)
def J_M_draftRow : im_J := (⟨"LabelHouseModel", "draftRow", "(I)Z"⟩, prog_14_method_17_code, 6, (some .boolean), 1, 0, 17)
def J_MLineRows_wipe : im_J := (⟨"LabelHouseModel$LineRows", "wipe", "()I"⟩, prog_16_method_4_code, 2, (some .int), 0, 0, 13)
def J_MLineRows_write : im_J := (⟨"LabelHouseModel$LineRows", "write", "(IJ)I"⟩, prog_16_method_3_code, 5, (some .int), 2, 0, 13)
def J_MLineRows_pack : im_J := (⟨"LabelHouseModel$LineRows", "pack", "()I"⟩, prog_16_method_16_code, 5, (some .int), 0, 0, 13)
def J_MLineRows_relax : im_J := (⟨"LabelHouseModel$LineRows", "relax", "()V"⟩, prog_16_method_13_code, 6, none, 0, 0, 13)
def J_MLineRows_with : im_J := (⟨"LabelHouseModel$LineRows", "with", "(III)I"⟩, prog_16_method_11_code, 5, (some .int), 3, 0, 13)
def J_MLineRows_tells : im_J := (⟨"LabelHouseModel$LineRows", "tells", "(III)I"⟩, prog_16_method_8_code, 4, (some .int), 3, 0, 13)
def J_MLineRows_at : im_J := (⟨"LabelHouseModel$LineRows", "at", "(I)I"⟩, prog_16_method_6_code, 2, (some .int), 1, 0, 13)
def J_MLineRows_isPair : im_J := (⟨"LabelHouseModel$LineRows", "isPair", "(II)Z"⟩, prog_16_method_7_code, 3, (some .boolean), 2, 0, 13)
def J_MLineRows_signOf : im_J := (⟨"LabelHouseModel$LineRows", "signOf", "(II)I"⟩, prog_16_method_5_code, 2, (some .int), 2, 1, 13)
def J_MLineRows_leastAt : im_J := (⟨"LabelHouseModel$LineRows", "leastAt", "(II)I"⟩, prog_16_method_10_code, 3, (some .int), 2, 0, 13)
def J_MLineRows_goes : im_J := (⟨"LabelHouseModel$LineRows", "goes", "(II)I"⟩, prog_16_method_9_code, 3, (some .int), 2, 1, 13)
def J_MLineRows_isOther : im_J := (⟨"LabelHouseModel$LineRows", "isOther", "(II)Z"⟩, prog_16_method_12_code, 5, (some .boolean), 2, 0, 13)
def J_MLineRows_add : im_J := (⟨"LabelHouseModel$LineRows", "add", "(I)V"⟩, prog_16_method_14_code, 2, none, 1, 0, 13)
def J_MLineRows_check : im_J := (⟨"LabelHouseModel$LineRows", "check", "([II)I"⟩, prog_16_method_15_code, 4, (some .int), 2, 1, 13)
def J_MLineRows_bars : im_J := (⟨"LabelHouseModel$LineRows", "bars", "(I)I"⟩, prog_16_method_20_code, 3, (some .int), 1, 0, 13)
def J_MLineRows_noModule : im_J := (⟨"LabelHouseModel$LineRows", "noModule", "(I)Z"⟩, prog_16_method_19_code, 1, (some .boolean), 1, 1, 13)
def J_MLineRows_lay : im_J := (⟨"LabelHouseModel$LineRows", "lay", "(III)V"⟩, prog_16_method_18_code, 6, none, 3, 0, 13)
def J_M_draftWidths : im_J := (⟨"LabelHouseModel", "draftWidths", "()V"⟩, prog_14_method_16_code, 2, none, 0, 0, 17)
def J_MLineRows_width : im_J := (⟨"LabelHouseModel$LineRows", "width", "(I)I"⟩, prog_16_method_29_code, 2, (some .int), 1, 0, 13)
def J_MDotRows_bars : im_J := (⟨"LabelHouseModel$DotRows", "bars", "(IIIII)I"⟩, prog_15_method_32_code, 9, (some .int), 5, 0, 12)
def J_M_draftThirteen : im_J := (⟨"LabelHouseModel", "draftThirteen", "(I)V"⟩, prog_14_method_18_code, 5, none, 1, 0, 17)
def J_MLineRows_thirteen : im_J := (⟨"LabelHouseModel$LineRows", "thirteen", "(JI)I"⟩, prog_16_method_26_code, 7, (some .int), 2, 0, 13)
def J_MLineRows_noTwelve : im_J := (⟨"LabelHouseModel$LineRows", "noTwelve", "(J)Z"⟩, prog_16_method_21_code, 2, (some .boolean), 1, 1, 13)
def J_MLineRows_checkFigure : im_J := (⟨"LabelHouseModel$LineRows", "checkFigure", "(J)I"⟩, prog_16_method_23_code, 5, (some .int), 1, 0, 13)
def J_MLineRows_figure : im_J := (⟨"LabelHouseModel$LineRows", "figure", "(JI)I"⟩, prog_16_method_22_code, 6, (some .int), 2, 1, 13)
def J_MLineRows_isTurned : im_J := (⟨"LabelHouseModel$LineRows", "isTurned", "(II)Z"⟩, prog_16_method_25_code, 3, (some .boolean), 2, 0, 13)
def J_MLineRows_reversed : im_J := (⟨"LabelHouseModel$LineRows", "reversed", "(I)I"⟩, prog_16_method_24_code, 1, (some .int), 1, 1, 13)
def J_M_draftSymbol : im_J := (⟨"LabelHouseModel", "draftSymbol", "(I)I"⟩, prog_14_method_19_code, 7, (some .int), 1, 0, 17)
def J_MSquareRows_wipe : im_J := (⟨"LabelHouseModel$SquareRows", "wipe", "()I"⟩, prog_19_method_5_code, 2, (some .int), 0, 0, 16)
def J_MSquareRows_put : im_J := (⟨"LabelHouseModel$SquareRows", "put", "(IJ)I"⟩, prog_19_method_3_code, 5, (some .int), 2, 0, 16)
def J_MSquareRows_make : im_J := (⟨"LabelHouseModel$SquareRows", "make", "(III)I"⟩, prog_19_method_52_code, 10, (some .int), 3, 0, 16)
def J_MSquareRows_versionFor : im_J := (⟨"LabelHouseModel$SquareRows", "versionFor", "(II)I"⟩, prog_19_method_51_code, 7, (some .int), 2, 0, 16)
def J_MSquareRows_fits : im_J := (⟨"LabelHouseModel$SquareRows", "fits", "(II)Z"⟩, prog_19_method_50_code, 6, (some .boolean), 2, 0, 16)
def J_MSquareRows_rank : im_J := (⟨"LabelHouseModel$SquareRows", "rank", "(I)I"⟩, prog_19_method_12_code, 1, (some .int), 1, 1, 16)
def J_MSquareRows_divide : im_J := (⟨"LabelHouseModel$SquareRows", "divide", "(I)V"⟩, prog_19_method_22_code, 6, none, 1, 0, 16)
def J_MSquareRows_least : im_J := (⟨"LabelHouseModel$SquareRows", "least", "(III)I"⟩, prog_19_method_21_code, 7, (some .int), 3, 0, 16)
def J_MSquareRows_restOf : im_J := (⟨"LabelHouseModel$SquareRows", "restOf", "(IIII)I"⟩, prog_19_method_20_code, 5, (some .int), 4, 0, 16)
def J_MSquareRows_may : im_J := (⟨"LabelHouseModel$SquareRows", "may", "(II)Z"⟩, prog_19_method_16_code, 2, (some .boolean), 2, 1, 16)
def J_MSquareRows_signOf : im_J := (⟨"LabelHouseModel$SquareRows", "signOf", "(I)I"⟩, prog_19_method_14_code, 1, (some .int), 1, 1, 16)
def J_MSquareRows_costOf : im_J := (⟨"LabelHouseModel$SquareRows", "costOf", "(III)I"⟩, prog_19_method_19_code, 6, (some .int), 3, 1, 16)
def J_MSquareRows_modeOf : im_J := (⟨"LabelHouseModel$SquareRows", "modeOf", "(I)I"⟩, prog_19_method_17_code, 1, (some .int), 1, 1, 16)
def J_MSquareRows_lengthBits : im_J := (⟨"LabelHouseModel$SquareRows", "lengthBits", "(II)I"⟩, prog_19_method_13_code, 2, (some .int), 2, 1, 16)
def J_MSquareRows_stateAfter : im_J := (⟨"LabelHouseModel$SquareRows", "stateAfter", "(II)I"⟩, prog_19_method_18_code, 3, (some .int), 2, 1, 16)
def J_MSquareRows_holds : im_J := (⟨"LabelHouseModel$SquareRows", "holds", "(II)I"⟩, prog_19_method_11_code, 3, (some .int), 2, 0, 16)
def J_MSquareRows_allCodewords : im_J := (⟨"LabelHouseModel$SquareRows", "allCodewords", "(I)I"⟩, prog_19_method_8_code, 3, (some .int), 1, 1, 16)
def J_MSquareRows_checkOf : im_J := (⟨"LabelHouseModel$SquareRows", "checkOf", "(II)I"⟩, prog_19_method_9_code, 3, (some .int), 2, 0, 16)
def J_MSquareRows_blocksOf : im_J := (⟨"LabelHouseModel$SquareRows", "blocksOf", "(II)I"⟩, prog_19_method_10_code, 3, (some .int), 2, 0, 16)
def J_MSquareRows_layAll : im_J := (⟨"LabelHouseModel$SquareRows", "layAll", "(II)V"⟩, prog_19_method_25_code, 6, none, 2, 0, 16)
def J_MSquareRows_laySegment : im_J := (⟨"LabelHouseModel$SquareRows", "laySegment", "(III)V"⟩, prog_19_method_24_code, 9, none, 3, 0, 16)
def J_MSquareRows_lay : im_J := (⟨"LabelHouseModel$SquareRows", "lay", "(II)V"⟩, prog_19_method_23_code, 5, none, 2, 0, 16)
def J_MSquareRows_check : im_J := (⟨"LabelHouseModel$SquareRows", "check", "(II)V"⟩, prog_19_method_32_code, 10, none, 2, 0, 16)
def J_MSquareRows_generate : im_J := (⟨"LabelHouseModel$SquareRows", "generate", "(I)V"⟩, prog_19_method_28_code, 5, none, 1, 0, 16)
def J_MSquareRows_two : im_J := (⟨"LabelHouseModel$SquareRows", "two", "(I)I"⟩, prog_19_method_27_code, 4, (some .int), 1, 1, 16)
def J_MSquareRows_times : im_J := (⟨"LabelHouseModel$SquareRows", "times", "(II)I"⟩, prog_19_method_26_code, 5, (some .int), 2, 1, 16)
def J_MSquareRows_shareOf : im_J := (⟨"LabelHouseModel$SquareRows", "shareOf", "(III)I"⟩, prog_19_method_29_code, 6, (some .int), 3, 0, 16)
def J_MSquareRows_startOf : im_J := (⟨"LabelHouseModel$SquareRows", "startOf", "(III)I"⟩, prog_19_method_30_code, 6, (some .int), 3, 0, 16)
def J_MSquareRows_placeOf : im_J := (⟨"LabelHouseModel$SquareRows", "placeOf", "(IIII)I"⟩, prog_19_method_31_code, 9, (some .int), 4, 0, 16)
def J_MSquareRows_frame : im_J := (⟨"LabelHouseModel$SquareRows", "frame", "(I)V"⟩, prog_19_method_43_code, 6, none, 1, 0, 16)
def J_MSquareRows_sideOf : im_J := (⟨"LabelHouseModel$SquareRows", "sideOf", "(I)I"⟩, prog_19_method_7_code, 1, (some .int), 1, 1, 16)
def J_MSquareRows_fix : im_J := (⟨"LabelHouseModel$SquareRows", "fix", "(IIZ)V"⟩, prog_19_method_34_code, 4, none, 3, 0, 16)
def J_MSquareRows_moduleAt : im_J := (⟨"LabelHouseModel$SquareRows", "moduleAt", "(II)I"⟩, prog_19_method_33_code, 3, (some .int), 2, 0, 16)
def J_MSquareRows_square : im_J := (⟨"LabelHouseModel$SquareRows", "square", "(IIIZ)V"⟩, prog_19_method_42_code, 8, none, 4, 0, 16)
def J_MSquareRows_greater : im_J := (⟨"LabelHouseModel$SquareRows", "greater", "(II)I"⟩, prog_19_method_35_code, 4, (some .int), 2, 1, 16)
def J_MSquareRows_alignmentAt : im_J := (⟨"LabelHouseModel$SquareRows", "alignmentAt", "(II)I"⟩, prog_19_method_36_code, 4, (some .int), 2, 1, 16)
def J_MSquareRows_layForm : im_J := (⟨"LabelHouseModel$SquareRows", "layForm", "(I)V"⟩, prog_19_method_41_code, 4, none, 1, 0, 16)
def J_MSquareRows_formWord : im_J := (⟨"LabelHouseModel$SquareRows", "formWord", "(I)I"⟩, prog_19_method_38_code, 1, (some .int), 1, 1, 16)
def J_MSquareRows_shortWord : im_J := (⟨"LabelHouseModel$SquareRows", "shortWord", "(III)I"⟩, prog_19_method_37_code, 5, (some .int), 3, 1, 16)
def J_MSquareRows_formX : im_J := (⟨"LabelHouseModel$SquareRows", "formX", "(IZI)I"⟩, prog_19_method_39_code, 3, (some .int), 3, 1, 16)
def J_MSquareRows_formY : im_J := (⟨"LabelHouseModel$SquareRows", "formY", "(IZI)I"⟩, prog_19_method_40_code, 3, (some .int), 3, 1, 16)
def J_MSquareRows_formNumber : im_J := (⟨"LabelHouseModel$SquareRows", "formNumber", "(II)I"⟩, prog_19_method_49_code, 3, (some .int), 2, 1, 16)
def J_MSquareRows_goThrough : im_J := (⟨"LabelHouseModel$SquareRows", "goThrough", "(IZI)V"⟩, prog_19_method_45_code, 13, none, 3, 0, 16)
def J_MSquareRows_masked : im_J := (⟨"LabelHouseModel$SquareRows", "masked", "(III)Z"⟩, prog_19_method_44_code, 3, (some .boolean), 3, 1, 16)
def J_MSquareRows_penalty : im_J := (⟨"LabelHouseModel$SquareRows", "penalty", "()I"⟩, prog_19_method_48_code, 6, (some .int), 0, 0, 16)
def J_MSquareRows_lines : im_J := (⟨"LabelHouseModel$SquareRows", "lines", "(Z)I"⟩, prog_19_method_47_code, 8, (some .int), 1, 0, 16)
def J_MSquareRows_module : im_J := (⟨"LabelHouseModel$SquareRows", "module", "(IIZ)I"⟩, prog_19_method_46_code, 4, (some .int), 3, 0, 16)
def J_MSquareRows_row : im_J := (⟨"LabelHouseModel$SquareRows", "row", "(II)J"⟩, prog_19_method_56_code, 9, (some .long), 2, 0, 16)
def J_MDotRows_square : im_J := (⟨"LabelHouseModel$DotRows", "square", "(IIIII)I"⟩, prog_15_method_33_code, 6, (some .int), 5, 0, 12)
def J_MDotRows_frame : im_J := (⟨"LabelHouseModel$DotRows", "frame", "(IIIII)I"⟩, prog_15_method_26_code, 6, (some .int), 5, 0, 12)
def J_MDotRows_noRing : im_J := (⟨"LabelHouseModel$DotRows", "noRing", "(III)Z"⟩, prog_15_method_25_code, 3, (some .boolean), 3, 1, 12)
def J_MDotRows_ellipse : im_J := (⟨"LabelHouseModel$DotRows", "ellipse", "(IIIII)I"⟩, prog_15_method_28_code, 6, (some .int), 5, 0, 12)
def J_MDotRows_line : im_J := (⟨"LabelHouseModel$DotRows", "line", "(IIIII)I"⟩, prog_15_method_27_code, 6, (some .int), 5, 0, 12)
def J_MDotRows_picture : im_J := (⟨"LabelHouseModel$DotRows", "picture", "(III)I"⟩, prog_15_method_34_code, 4, (some .int), 3, 0, 12)
def J_M_follow : im_J := (⟨"LabelHouseModel", "follow", "()V"⟩, prog_14_method_21_code, 6, none, 0, 0, 17)
def J_MDotRows_told : im_J := (⟨"LabelHouseModel$DotRows", "told", "(I)I"⟩, prog_15_method_37_code, 7, (some .int), 1, 0, 12)
def J_MPlaceRows_sheet : im_J := (⟨"LabelHouseModel$PlaceRows", "sheet", "(II)V"⟩, prog_17_method_6_code, 4, none, 2, 0, 14)
def J_MPlaceRows_forget : im_J := (⟨"LabelHouseModel$PlaceRows", "forget", "()V"⟩, prog_17_method_5_code, 1, none, 0, 0, 14)
def J_M_row : im_J := (⟨"LabelHouseModel", "row", "(II)J"⟩, prog_14_method_26_code, 8, (some .long), 2, 0, 17)
def J_M_isOn : im_J := (⟨"LabelHouseModel", "isOn", "(JJ)Z"⟩, prog_14_method_24_code, 5, (some .boolean), 2, 0, 17)
def J_M_isDark : im_J := (⟨"LabelHouseModel", "isDark", "(II)Z"⟩, prog_14_method_25_code, 3, (some .boolean), 2, 0, 17)
def J_MDotRows_dots : im_J := (⟨"LabelHouseModel$DotRows", "dots", "(III)J"⟩, prog_15_method_39_code, 7, (some .long), 3, 0, 12)
def J_MPlaceRows_turn : im_J := (⟨"LabelHouseModel$PlaceRows", "turn", "(IIJ)I"⟩, prog_17_method_7_code, 7, (some .int), 3, 0, 14)
def J_MPlaceRows_isOn : im_J := (⟨"LabelHouseModel$PlaceRows", "isOn", "(JJ)Z"⟩, prog_17_method_3_code, 5, (some .boolean), 2, 0, 14)
def J_MPlaceRows_isDark : im_J := (⟨"LabelHouseModel$PlaceRows", "isDark", "(II)Z"⟩, prog_17_method_4_code, 3, (some .boolean), 2, 0, 14)
def J_M_drawn : im_J := (⟨"LabelHouseModel", "drawn", "(I)I"⟩, prog_14_method_23_code, 2, (some .int), 1, 0, 17)
def J_M_spoil : im_J := (⟨"LabelHouseModel", "spoil", "(IIJ)I"⟩, prog_14_method_27_code, 10, (some .int), 3, 0, 17)
def J_M_turn : im_J := (⟨"LabelHouseModel", "turn", "(I)V"⟩, prog_14_method_28_code, 2, none, 1, 0, 17)
def J_MDotRows_turn : im_J := (⟨"LabelHouseModel$DotRows", "turn", "(I)V"⟩, prog_15_method_36_code, 3, none, 1, 0, 12)
def J_MDotRows_turnOnce : im_J := (⟨"LabelHouseModel$DotRows", "turnOnce", "()V"⟩, prog_15_method_35_code, 5, none, 0, 0, 12)
def J_M_told : im_J := (⟨"LabelHouseModel", "told", "(I)I"⟩, prog_14_method_29_code, 3, (some .int), 1, 0, 17)
def J_M_dots : im_J := (⟨"LabelHouseModel", "dots", "(II)J"⟩, prog_14_method_30_code, 3, (some .long), 2, 0, 17)
def J_M_run : im_J := (⟨"LabelHouseModel", "run", "(IIIZ)I"⟩, prog_14_method_31_code, 5, (some .int), 4, 0, 17)
def J_MDotRows_run : im_J := (⟨"LabelHouseModel$DotRows", "run", "(IIIZ)I"⟩, prog_15_method_40_code, 11, (some .int), 4, 0, 12)
def J_M_scan : im_J := (⟨"LabelHouseModel", "scan", "(III)I"⟩, prog_14_method_32_code, 5, (some .int), 3, 0, 17)
def J_MPlaceRows_find : im_J := (⟨"LabelHouseModel$PlaceRows", "find", "(III)I"⟩, prog_17_method_30_code, 6, (some .int), 3, 0, 14)
def J_MPlaceRows_add : im_J := (⟨"LabelHouseModel$PlaceRows", "add", "()V"⟩, prog_17_method_19_code, 4, none, 0, 0, 14)
def J_MPlaceRows_list : im_J := (⟨"LabelHouseModel$PlaceRows", "list", "(I)V"⟩, prog_17_method_20_code, 6, none, 1, 0, 14)
def J_MPlaceRows_side : im_J := (⟨"LabelHouseModel$PlaceRows", "side", "(I)I"⟩, prog_17_method_10_code, 1, (some .int), 1, 1, 14)
def J_MPlaceRows_module : im_J := (⟨"LabelHouseModel$PlaceRows", "module", "(III)I"⟩, prog_17_method_13_code, 5, (some .int), 3, 1, 14)
def J_MPlaceRows_distance : im_J := (⟨"LabelHouseModel$PlaceRows", "distance", "(IIII)I"⟩, prog_17_method_12_code, 4, (some .int), 4, 1, 14)
def J_MPlaceRows_apart : im_J := (⟨"LabelHouseModel$PlaceRows", "apart", "(II)I"⟩, prog_17_method_11_code, 2, (some .int), 2, 1, 14)
def J_MPlaceRows_look : im_J := (⟨"LabelHouseModel$PlaceRows", "look", "(III)Z"⟩, prog_17_method_24_code, 9, (some .boolean), 3, 0, 14)
def J_MPlaceRows_isPlace : im_J := (⟨"LabelHouseModel$PlaceRows", "isPlace", "(III)Z"⟩, prog_17_method_16_code, 4, (some .boolean), 3, 0, 14)
def J_MPlaceRows_wrong : im_J := (⟨"LabelHouseModel$PlaceRows", "wrong", "(IIIIII)I"⟩, prog_17_method_23_code, 11, (some .int), 6, 0, 14)
def J_MPlaceRows_darkIn : im_J := (⟨"LabelHouseModel$PlaceRows", "darkIn", "(IIIIII)I"⟩, prog_17_method_21_code, 16, (some .int), 6, 0, 14)
def J_MPlaceRows_blockX : im_J := (⟨"LabelHouseModel$PlaceRows", "blockX", "(IIII)I"⟩, prog_17_method_14_code, 4, (some .int), 4, 1, 14)
def J_MPlaceRows_least : im_J := (⟨"LabelHouseModel$PlaceRows", "least", "(II)I"⟩, prog_17_method_22_code, 2, (some .int), 2, 1, 14)
def J_MPlaceRows_blockY : im_J := (⟨"LabelHouseModel$PlaceRows", "blockY", "(IIII)I"⟩, prog_17_method_15_code, 4, (some .int), 4, 1, 14)
def J_MPlaceRows_enter : im_J := (⟨"LabelHouseModel$PlaceRows", "enter", "(IIIIII)V"⟩, prog_17_method_25_code, 7, none, 6, 0, 14)
def J_MPlaceRows_order : im_J := (⟨"LabelHouseModel$PlaceRows", "order", "()V"⟩, prog_17_method_29_code, 6, none, 0, 0, 14)
def J_MPlaceRows_isBefore : im_J := (⟨"LabelHouseModel$PlaceRows", "isBefore", "(II)Z"⟩, prog_17_method_26_code, 5, (some .boolean), 2, 0, 14)
def J_MPlaceRows_leads : im_J := (⟨"LabelHouseModel$PlaceRows", "leads", "(I)Z"⟩, prog_17_method_28_code, 4, (some .boolean), 1, 0, 14)
def J_MPlaceRows_meet : im_J := (⟨"LabelHouseModel$PlaceRows", "meet", "(II)Z"⟩, prog_17_method_27_code, 5, (some .boolean), 2, 0, 14)
def J_MPlaceRows_thrown : im_J := (⟨"LabelHouseModel$PlaceRows", "thrown", "()I"⟩, prog_17_method_2_code, 1, (some .int), 0, 0, 14)
def J_M_found : im_J := (⟨"LabelHouseModel", "found", "(II)I"⟩, prog_14_method_33_code, 4, (some .int), 2, 0, 17)
def J_MPlaceRows_place : im_J := (⟨"LabelHouseModel$PlaceRows", "place", "(II)I"⟩, prog_17_method_32_code, 3, (some .int), 2, 0, 14)
def J_M_decode : im_J := (⟨"LabelHouseModel", "decode", "(I)I"⟩, prog_14_method_34_code, 6, (some .int), 1, 0, 17)
def J_MSquareRows_blank : im_J := (⟨"LabelHouseModel$SquareRows", "blank", "(I)I"⟩, prog_19_method_53_code, 3, (some .int), 1, 0, 16)
def J_MPlaceRows_modules : im_J := (⟨"LabelHouseModel$PlaceRows", "modules", "(III)J"⟩, prog_17_method_33_code, 15, (some .long), 3, 0, 14)
def J_MPlaceRows_differ : im_J := (⟨"LabelHouseModel$PlaceRows", "differ", "(IIIZZ)I"⟩, prog_17_method_17_code, 9, (some .int), 5, 0, 14)
def J_MSquareRows_spoil : im_J := (⟨"LabelHouseModel$SquareRows", "spoil", "(IIJ)I"⟩, prog_19_method_57_code, 10, (some .int), 3, 0, 16)
def J_MSquareRows_read : im_J := (⟨"LabelHouseModel$SquareRows", "read", "()I"⟩, prog_19_method_73_code, 6, (some .int), 0, 0, 16)
def J_MSquareRows_formNumberRead : im_J := (⟨"LabelHouseModel$SquareRows", "formNumberRead", "()I"⟩, prog_19_method_66_code, 4, (some .int), 0, 0, 16)
def J_MSquareRows_formBits : im_J := (⟨"LabelHouseModel$SquareRows", "formBits", "(Z)I"⟩, prog_19_method_64_code, 4, (some .int), 1, 0, 16)
def J_MSquareRows_ones : im_J := (⟨"LabelHouseModel$SquareRows", "ones", "(I)I"⟩, prog_19_method_65_code, 3, (some .int), 1, 1, 16)
def J_MSquareRows_allBlocks : im_J := (⟨"LabelHouseModel$SquareRows", "allBlocks", "(II)I"⟩, prog_19_method_68_code, 10, (some .int), 2, 0, 16)
def J_MSquareRows_spared : im_J := (⟨"LabelHouseModel$SquareRows", "spared", "(II)I"⟩, prog_19_method_67_code, 2, (some .int), 2, 1, 16)
def J_MSquareRows_correct : im_J := (⟨"LabelHouseModel$SquareRows", "correct", "(III)I"⟩, prog_19_method_63_code, 7, (some .int), 3, 0, 16)
def J_MSquareRows_isZero : im_J := (⟨"LabelHouseModel$SquareRows", "isZero", "([III)Z"⟩, prog_19_method_58_code, 9, (some .boolean), 3, 0, 16)
def J_MSquareRows_finds : im_J := (⟨"LabelHouseModel$SquareRows", "finds", "(II)Z"⟩, prog_19_method_61_code, 8, (some .boolean), 2, 0, 16)
def J_MSquareRows_solves : im_J := (⟨"LabelHouseModel$SquareRows", "solves", "(I)Z"⟩, prog_19_method_60_code, 8, (some .boolean), 1, 0, 16)
def J_MSquareRows_inverse : im_J := (⟨"LabelHouseModel$SquareRows", "inverse", "(I)I"⟩, prog_19_method_59_code, 2, (some .int), 1, 1, 16)
def J_MSquareRows_mends : im_J := (⟨"LabelHouseModel$SquareRows", "mends", "(II)Z"⟩, prog_19_method_62_code, 5, (some .boolean), 2, 0, 16)
def J_MSquareRows_segments : im_J := (⟨"LabelHouseModel$SquareRows", "segments", "(I)V"⟩, prog_19_method_72_code, 7, none, 1, 0, 16)
def J_MSquareRows_next : im_J := (⟨"LabelHouseModel$SquareRows", "next", "(I)I"⟩, prog_19_method_69_code, 4, (some .int), 1, 0, 16)
def J_MSquareRows_group : im_J := (⟨"LabelHouseModel$SquareRows", "group", "(II)V"⟩, prog_19_method_71_code, 7, none, 2, 0, 16)
def J_MSquareRows_byteOf : im_J := (⟨"LabelHouseModel$SquareRows", "byteOf", "(I)I"⟩, prog_19_method_15_code, 1, (some .int), 1, 1, 16)
def J_MSquareRows_take : im_J := (⟨"LabelHouseModel$SquareRows", "take", "(I)V"⟩, prog_19_method_70_code, 2, none, 1, 0, 16)
def J_MSquareRows_at : im_J := (⟨"LabelHouseModel$SquareRows", "at", "(I)I"⟩, prog_19_method_6_code, 2, (some .int), 1, 0, 16)
def J_M_bars : im_J := (⟨"LabelHouseModel", "bars", "(IIZ)I"⟩, prog_14_method_36_code, 8, (some .int), 3, 0, 17)
def J_M_strip : im_J := (⟨"LabelHouseModel", "strip", "(IIIZ)V"⟩, prog_14_method_35_code, 7, none, 4, 0, 17)
def J_MLineRows_clear : im_J := (⟨"LabelHouseModel$LineRows", "clear", "()I"⟩, prog_16_method_28_code, 2, (some .int), 0, 0, 13)
def J_MLineRows_put : im_J := (⟨"LabelHouseModel$LineRows", "put", "(IJ)I"⟩, prog_16_method_27_code, 5, (some .int), 2, 0, 13)
def J_MLineRows_spoil : im_J := (⟨"LabelHouseModel$LineRows", "spoil", "(II)I"⟩, prog_16_method_30_code, 4, (some .int), 2, 0, 13)
def J_MLineRows_read : im_J := (⟨"LabelHouseModel$LineRows", "read", "()I"⟩, prog_16_method_40_code, 4, (some .int), 0, 0, 13)
def J_MLineRows_isSome : im_J := (⟨"LabelHouseModel$LineRows", "isSome", "()Z"⟩, prog_16_method_39_code, 1, (some .boolean), 0, 0, 13)
def J_MLineRows_isThirteen : im_J := (⟨"LabelHouseModel$LineRows", "isThirteen", "()Z"⟩, prog_16_method_36_code, 7, (some .boolean), 0, 0, 13)
def J_MLineRows_sumOf : im_J := (⟨"LabelHouseModel$LineRows", "sumOf", "(II)I"⟩, prog_16_method_34_code, 5, (some .int), 2, 0, 13)
def J_MLineRows_counts : im_J := (⟨"LabelHouseModel$LineRows", "counts", "(IIII)I"⟩, prog_16_method_33_code, 8, (some .int), 4, 0, 13)
def J_MLineRows_place : im_J := (⟨"LabelHouseModel$LineRows", "place", "([II)I"⟩, prog_16_method_35_code, 3, (some .int), 2, 1, 13)
def J_MLineRows_tell : im_J := (⟨"LabelHouseModel$LineRows", "tell", "(I)V"⟩, prog_16_method_37_code, 2, none, 1, 0, 13)
def J_MLineRows_isRow : im_J := (⟨"LabelHouseModel$LineRows", "isRow", "(I)Z"⟩, prog_16_method_38_code, 5, (some .boolean), 1, 0, 13)
def J_MLineRows_reverse : im_J := (⟨"LabelHouseModel$LineRows", "reverse", "([I[I)V"⟩, prog_16_method_31_code, 4, none, 2, 0, 13)
def J_MLineRows_sign : im_J := (⟨"LabelHouseModel$LineRows", "sign", "(I)I"⟩, prog_16_method_41_code, 2, (some .int), 1, 0, 13)
def J_M_reading : im_J := (⟨"LabelHouseModel", "reading", "(I)I"⟩, prog_14_method_37_code, 2, (some .int), 1, 0, 17)
def J_MSquareRows_fault : im_J := (⟨"LabelHouseModel$SquareRows", "fault", "()I"⟩, prog_19_method_74_code, 1, (some .int), 0, 0, 16)
def J_MLineRows_backwards : im_J := (⟨"LabelHouseModel$LineRows", "backwards", "()Z"⟩, prog_16_method_42_code, 1, (some .boolean), 0, 0, 13)
def J_MSquareRows_reading : im_J := (⟨"LabelHouseModel$SquareRows", "reading", "(I)I"⟩, prog_19_method_75_code, 2, (some .int), 1, 0, 16)
def J_M_got : im_J := (⟨"LabelHouseModel", "got", "(I)J"⟩, prog_14_method_38_code, 7, (some .long), 1, 0, 17)
def J_Preconditions_checkIndex : im_J := (⟨"jdk/internal/util/Preconditions", "checkIndex", "(IILjava/util/function/BiFunction;)I"⟩, prog_39_method_11_code, 3, (some .int), 3, 1, 27)
def tb_M0 : List im_J := [J_H_init, J_HTape_init, J_HOrders_init, J_HSetter_init, J_HField_init, J_HSheet_init, J_HBars_init, J_HGrid_init, J_HSegments_init, J_HBlocks_init, J_HPen_init, J_HFinder_init, J_H_wipe, J_H_read, J_HSetter_followAll, J_HTape_rewind, J_HTape_passBlanks, J_HTape_next, J_HTape_pass, J_HSetter_follow, J_String_indexOf, J_String_indexOf2, J_String_isLatin1, J_String_length, J_String_coder, J_StringLatin1_indexOf, J_StringLatin1_canEncode, J_Math_max, J_Math_min, J_StringLatin1_indexOfChar, J_String_checkBoundsBeginEnd, J_HSetter_canStand, J_HSetter_leaveOut, J_HTape_takeNumberAndComma, J_HTape_takeNumber, J_HTape_isDigit, J_HTape_takeNumbers, J_HSetter_inRanges, J_HTape_takeData, J_HTape_takeHexPair, J_HTape_hexValue, J_HSetter_laterFault, J_HTape_endOfForm, J_HField_cutLines, J_HField_endOfPiece, J_HField_lastBlank, J_HField_addLine, J_HField_hasItsData, J_HField_allDigits, J_HField_isPicture, J_HField_build, J_HField_layLines, J_HOrders_lay, J_Arrays_fill, J_Arrays_rangeCheck, J_Arrays_copyOf, J_StringLatin1_inflate, J_String_checkBoundsOffCount, J_String_getBytes, J_Integer_stringSize]
set_option maxRecDepth 100000 in
theorem tb_M0_pick : tb_pick [277, 7, 54, 25, 7, 104, 32, 50, 5, 30, 82, 31, 83, 3, 3, 3, 3, 3, 3, 5, 4, 3, 3, 5, 3, 2, 2, 2, 2, 2, 17, 34, 3, 5, 3, 2, 5, 3, 3, 3, 2, 3, 3, 3, 3, 3, 3, 3, 4, 3, 4, 3, 3, 2, 2, 102, 38, 8, 6, 11] lw_tbl = tb_M0.map (fun d : im_J => Cond.code d.1 d.2.1 d.2.2.1 d.2.2.2.1) := by rfl
theorem tb_M0_code : ∀ x ∈ tb_M0, (fun d : im_J => Cond.code d.1 d.2.1 d.2.2.1 d.2.2.2.1) x ∈ tb_WS := tb_all (tb_memR tb_M0_pick (by decide +kernel))
theorem tb_M0_inst : ∀ x ∈ tb_M0.filter (fun d => decide (d.2.2.2.2.2.1 ≠ 1)), (fun d : im_J => Cond.instanceMethod d.1) x ∈ tb_WS := tb_all (tb_mem (gs := [276, 7, 54, 25, 7, 104, 32, 50, 5, 30, 82, 31, 82, 3, 3, 3, 3, 3, 3, 6, 3, 3, 3, 5, 3, 68, 3, 4, 4, 7, 4, 2, 4, 6, 2, 3, 4, 3, 3, 2, 5, 3, 3, 4, 2, 163]) (by decide +kernel) (by decide +kernel) (by decide +kernel))
theorem tb_M0_stat : ∀ x ∈ tb_M0.filter (fun d => decide (d.2.2.2.2.2.1 = 1)), (fun d : im_J => Cond.static d.1) x ∈ tb_WS := tb_all (tb_mem (gs := [854, 2, 2, 2, 2, 17, 51, 20, 52, 2, 102, 38, 8, 18]) (by decide +kernel) (by decide +kernel) (by decide +kernel))
theorem tb_M0_selA : ∀ x ∈ [19, 31, 32, 34, 37, 39, 41, 44, 45, 46, 48, 49, 51], (fun k : Nat => match tb_M0[k]? with | some d => Cond.selects d.1.cls d.1 d.1 | none => .tt) x ∈ tb_WS := tb_all (tb_mem (gs := [0, 0, 0, 0, 0, 0, 0, 0, 0, 0, 0, 0, 0]) (by decide +kernel) (by decide +kernel) (by decide +kernel))
theorem tb_M0_selB : ∀ x ∈ [12, 13, 14, 15, 16, 17, 18, 20, 21, 22, 23, 24, 33, 36, 38, 42, 43, 47, 50, 52, 58], (fun k : Nat => match tb_M0[k]? with | some d => Cond.selects d.1.cls d.1 d.1 | none => .tt) x ∈ tb_WS := tb_all (tb_mem (gs := [798, 3, 3, 3, 3, 3, 3, 10, 3, 3, 5, 3, 77, 12, 7, 14, 3, 15, 13, 7, 163]) (by decide +kernel) (by decide +kernel) (by decide +kernel))
theorem tb_M0_selK : (List.range 60).all (fun k => match tb_M0[k]? with | some d => decide (d.2.2.2.2.2.1 ≠ 0) || decide (k ∈ [19, 31, 32, 34, 37, 39, 41, 44, 45, 46, 48, 49, 51]) || decide (k ∈ [12, 13, 14, 15, 16, 17, 18, 20, 21, 22, 23, 24, 33, 36, 38, 42, 43, 47, 50, 52, 58]) | none => true) = true := by decide +kernel
theorem tb_M0_sel : ∀ x ∈ tb_M0.filter (fun d => decide (d.2.2.2.2.2.1 = 0)), (fun d : im_J => Cond.selects d.1.cls d.1 d.1) x ∈ tb_WS := by
  intro d hd
  obtain ⟨hd, hk⟩ := List.mem_filter.mp hd
  obtain ⟨k, hk2⟩ := List.getElem?_of_mem hd
  have hlt : k < 60 := (List.getElem?_eq_some_iff.mp hk2).1
  have h := List.all_eq_true.mp tb_M0_selK k (List.mem_range.mpr hlt)
  rw [hk2] at h
  simp only [Bool.or_eq_true, decide_eq_true_eq] at h hk
  rcases h with (h | h) | h
  · exact absurd hk h
  · have h2 := tb_M0_selA k h
    simp only [hk2] at h2
    exact h2
  · have h2 := tb_M0_selB k h
    simp only [hk2] at h2
    exact h2
theorem tb_M0_chk : tb_M0.all (fun d => plainFor d.1 && decide (d.1.cls ≠ "java/lang/invoke/MethodHandle") && decide (d.1.cls ≠ "java/lang/invoke/VarHandle") && decide ((parseMethodDescriptor d.1.desc).map (fun q => q.parameters.length) = some d.2.2.2.2.1) && decide (tb_nm d.2.2.2.2.2.2 = d.1.cls) && decide (d.2.2.2.2.2.2 ∈ tb_icl) && (decide (d.2.2.2.2.2.1 < 2) || (decide (d.1.name = "<init>") && decide (d.2.2.2.1 = none)))) = true := by decide +kernel
def tb_M1 : List im_J := [J_Integer_getChars, J_Arrays_copyOfRange, J_Arrays_copyOfRangeByte, J_Arrays_checkLength, J_HOrders_move, J_HOrders_number, J_HOrders_slice, J_HField_layOthers, J_HOrders_inRange, J_HSetter_isTooMuch, J_HSetter_perform, J_HTape_keepForm, J_HSetter_beginLabel, J_HField_clear, J_HTape_keepVariable, J_HSetter_endLabel, J_HOrders_addCopy, J_HOrders_value, J_HOrders_countOn, J_Math_floorMod, J_HTape_enterForm, J_HSetter_performOfField, J_HField_hold, J_HField_become, J_HSetter_finish, J_H_fault, J_H_place, J_H_drawn, J_H_spoil, J_HSheet_flip, J_H_dots, J_HSheet_wordFrom, J_HSheet_word, J_H_got, J_H_eightBytes, J_H_feed, J_HTape_append, J_H_font, J_HPen_newFont, J_H_cell, J_HPen_rowsOf, J_HPen_newRow, J_H_label, J_H_order, J_H_data, J_H_print, J_HSheet_renew, J_Arrays_fill2, J_HPen_follow, J_HPen_drawText, J_HOrders_byteAt, J_HPen_drawCellRow, J_HPen_strike, J_HSheet_box, J_HSheet_strikeColumn, J_HBars_layText, J_HBars_countFewest, J_HBars_fewestBySign, J_HBars_straight, J_HBars_symbolFor]
set_option maxRecDepth 100000 in
theorem tb_M1_pick : tb_pick [1187, 43, 2, 2, 72, 3, 3, 3, 3, 3, 3, 3, 4, 3, 3, 3, 3, 4, 3, 3, 6, 3, 3, 5, 3, 3, 3, 3, 3, 3, 4, 3, 3, 3, 2, 7, 14, 6, 3, 8, 3, 18, 6, 6, 7, 6, 3, 2, 3, 4, 3, 3, 3, 3, 6, 3, 3, 4, 3, 3] lw_tbl = tb_M1.map (fun d : im_J => Cond.code d.1 d.2.1 d.2.2.1 d.2.2.2.1) := by rfl
theorem tb_M1_code : ∀ x ∈ tb_M1, (fun d : im_J => Cond.code d.1 d.2.1 d.2.2.1 d.2.2.2.1) x ∈ tb_WS := tb_all (tb_memR tb_M1_pick (by decide +kernel))
theorem tb_M1_inst : ∀ x ∈ tb_M1.filter (fun d => decide (d.2.2.2.2.2.1 ≠ 1)), (fun d : im_J => Cond.instanceMethod d.1) x ∈ tb_WS := tb_all (tb_mem (gs := [1308, 3, 3, 4, 7, 3, 2, 5, 2, 3, 4, 2, 4, 4, 9, 4, 2, 5, 3, 3, 3, 3, 3, 3, 4, 3, 4, 2, 10, 14, 6, 3, 8, 3, 18, 6, 6, 7, 6, 3, 6, 5, 2, 4, 3, 2, 7, 2, 4, 4, 3, 3]) (by decide +kernel) (by decide +kernel) (by decide +kernel))
theorem tb_M1_stat : ∀ x ∈ tb_M1.filter (fun d => decide (d.2.2.2.2.2.1 = 1)), (fun d : im_J => Cond.static d.1) x ∈ tb_WS := tb_all (tb_mem (gs := [1186, 43, 2, 2, 88, 45, 64, 101]) (by decide +kernel) (by decide +kernel) (by decide +kernel))
theorem tb_M1_selA : ∀ x ∈ [7, 9, 10, 12, 15, 18, 21, 32, 49, 51, 52, 54, 56, 57, 58, 59], (fun k : Nat => match tb_M1[k]? with | some d => Cond.selects d.1.cls d.1 d.1 | none => .tt) x ∈ tb_WS := tb_all (tb_mem (gs := [14, 0, 0, 0, 0, 0, 0, 0, 0, 0, 0, 0, 0, 0, 0, 0]) (by decide +kernel) (by decide +kernel) (by decide +kernel))
theorem tb_M1_selB : ∀ x ∈ [4, 5, 6, 11, 13, 14, 16, 17, 20, 22, 23, 24, 25, 26, 27, 28, 29, 30, 31, 33, 35, 36, 37, 38, 39, 40, 41, 42, 43, 44, 45, 46, 48, 50, 53, 55], (fun k : Nat => match tb_M1[k]? with | some d => Cond.selects d.1.cls d.1 d.1 | none => .tt) x ∈ tb_WS := tb_all (tb_mem (gs := [1309, 3, 3, 19, 8, 3, 7, 4, 14, 7, 5, 3, 3, 3, 3, 3, 3, 4, 3, 7, 10, 14, 6, 3, 8, 3, 18, 6, 6, 7, 6, 3, 6, 8, 11, 10]) (by decide +kernel) (by decide +kernel) (by decide +kernel))
theorem tb_M1_selK : (List.range 60).all (fun k => match tb_M1[k]? with | some d => decide (d.2.2.2.2.2.1 ≠ 0) || decide (k ∈ [7, 9, 10, 12, 15, 18, 21, 32, 49, 51, 52, 54, 56, 57, 58, 59]) || decide (k ∈ [4, 5, 6, 11, 13, 14, 16, 17, 20, 22, 23, 24, 25, 26, 27, 28, 29, 30, 31, 33, 35, 36, 37, 38, 39, 40, 41, 42, 43, 44, 45, 46, 48, 50, 53, 55]) | none => true) = true := by decide +kernel
theorem tb_M1_sel : ∀ x ∈ tb_M1.filter (fun d => decide (d.2.2.2.2.2.1 = 0)), (fun d : im_J => Cond.selects d.1.cls d.1 d.1) x ∈ tb_WS := by
  intro d hd
  obtain ⟨hd, hk⟩ := List.mem_filter.mp hd
  obtain ⟨k, hk2⟩ := List.getElem?_of_mem hd
  have hlt : k < 60 := (List.getElem?_eq_some_iff.mp hk2).1
  have h := List.all_eq_true.mp tb_M1_selK k (List.mem_range.mpr hlt)
  rw [hk2] at h
  simp only [Bool.or_eq_true, decide_eq_true_eq] at h hk
  rcases h with (h | h) | h
  · exact absurd hk h
  · have h2 := tb_M1_selA k h
    simp only [hk2] at h2
    exact h2
  · have h2 := tb_M1_selB k h
    simp only [hk2] at h2
    exact h2
theorem tb_M1_chk : tb_M1.all (fun d => plainFor d.1 && decide (d.1.cls ≠ "java/lang/invoke/MethodHandle") && decide (d.1.cls ≠ "java/lang/invoke/VarHandle") && decide ((parseMethodDescriptor d.1.desc).map (fun q => q.parameters.length) = some d.2.2.2.2.1) && decide (tb_nm d.2.2.2.2.2.2 = d.1.cls) && decide (d.2.2.2.2.2.2 ∈ tb_icl) && (decide (d.2.2.2.2.2.1 < 2) || (decide (d.1.name = "<init>") && decide (d.2.2.2.1 = none)))) = true := by decide +kernel
def tb_M2 : List im_J := [J_HBars_signsEach, J_HBars_shifted, J_HBars_chooseSymbols, J_HBars_leastSymbol, J_HBars_addSymbol, J_HBars_checkSymbol, J_HBars_layWidths, J_HBars_addWidths, J_HPen_drawBars, J_HBars_layFigures, J_Math_floorMod2, J_HBars_checkFigure, J_HGrid_make, J_HSegments_pack, J_HSegments_groupOf, J_HSegments_plan, J_HSegments_leastMode, J_HSegments_isOf, J_HSegments_bitsBy, J_HBlocks_holds, J_HBlocks_codewordsOf, J_HSegments_write, J_Arrays_fill3, J_HSegments_put, J_HSegments_writeBytes, J_HSegments_base, J_HSegments_partBits, J_HBlocks_spread, J_HBlocks_begin, J_HBlocks_makeGenerator, J_Arrays_fill4, J_HBlocks_times, J_HBlocks_sizeOf, J_HBlocks_placeOf, J_HBlocks_divide, J_HGrid_begin, J_HGrid_fix, J_HGrid_fixSquares, J_Math_abs, J_HGrid_fixSmallSquares, J_HGrid_smallPlace, J_HGrid_fixForm, J_HGrid_formWord, J_HGrid_rest, J_HGrid_formX, J_HGrid_formY, J_HGrid_fixVersion, J_HGrid_carry, J_HGrid_carryBit, J_HBlocks_bitAt, J_HGrid_set, J_HGrid_isDark, J_HBlocks_putBit, J_HGrid_bestMask, J_HGrid_turnMask, J_HGrid_isTurned, J_HGrid_penalty, J_HGrid_linePenalty, J_HGrid_isSquareAlike, J_HPen_drawSquare]
set_option maxRecDepth 100000 in
theorem tb_M2_pick : tb_pick [1595, 3, 4, 3, 3, 3, 3, 6, 5, 3, 2, 3, 9, 3, 2, 3, 4, 2, 5, 10, 2, 7, 2, 3, 3, 3, 2, 3, 3, 4, 2, 3, 3, 3, 3, 4, 4, 3, 2, 4, 3, 3, 2, 2, 3, 3, 3, 3, 3, 3, 3, 3, 3, 3, 4, 2, 3, 3, 3, 3] lw_tbl = tb_M2.map (fun d : im_J => Cond.code d.1 d.2.1 d.2.2.1 d.2.2.2.1) := by rfl
theorem tb_M2_code : ∀ x ∈ tb_M2, (fun d : im_J => Cond.code d.1 d.2.1 d.2.2.1 d.2.2.2.1) x ∈ tb_WS := tb_all (tb_memR tb_M2_pick (by decide +kernel))
theorem tb_M2_inst : ∀ x ∈ tb_M2.filter (fun d => decide (d.2.2.2.2.2.1 ≠ 1)), (fun d : im_J => Cond.instanceMethod d.1) x ∈ tb_WS := tb_all (tb_mem (gs := [1598, 4, 3, 3, 3, 3, 6, 5, 2, 7, 8, 3, 7, 4, 8, 21, 6, 3, 9, 4, 4, 6, 3, 3, 3, 3, 5, 3, 7, 3, 3, 9, 3, 3, 3, 3, 2, 3, 3, 3, 4, 4, 6, 3, 3, 3]) (by decide +kernel) (by decide +kernel) (by decide +kernel))
theorem tb_M2_stat : ∀ x ∈ tb_M2.filter (fun d => decide (d.2.2.2.2.2.1 = 1)), (fun d : im_J => Cond.static d.1) x ∈ tb_WS := tb_all (tb_mem (gs := [1594, 44, 20, 11, 16, 2, 10, 11, 2, 15, 32, 15, 2, 47]) (by decide +kernel) (by decide +kernel) (by decide +kernel))
theorem tb_M2_selA : ∀ x ∈ [1, 2, 3, 4, 5, 6, 7, 8, 11, 15, 16, 18, 21, 23, 24, 28, 29, 31, 32, 33, 34, 36, 37, 39, 40, 41, 44, 45, 46, 47, 48, 53, 54, 56, 57, 58, 59], (fun k : Nat => match tb_M2[k]? with | some d => Cond.selects d.1.cls d.1 d.1 | none => .tt) x ∈ tb_WS := tb_all (tb_mem (gs := [30, 0, 0, 0, 0, 0, 0, 0, 0, 0, 0, 0, 0, 0, 0, 0, 0, 0, 0, 0, 0, 0, 0, 0, 0, 0, 0, 0, 0, 0, 0, 0, 0, 0, 0, 0, 0]) (by decide +kernel) (by decide +kernel) (by decide +kernel))
theorem tb_M2_selB : ∀ x ∈ [9, 12, 13, 27, 35, 49, 50, 51, 52], (fun k : Nat => match tb_M2[k]? with | some d => Cond.selects d.1.cls d.1 d.1 | none => .tt) x ∈ tb_WS := tb_all (tb_mem (gs := [1636, 16, 3, 64, 32, 54, 3, 3, 3]) (by decide +kernel) (by decide +kernel) (by decide +kernel))
theorem tb_M2_selK : (List.range 60).all (fun k => match tb_M2[k]? with | some d => decide (d.2.2.2.2.2.1 ≠ 0) || decide (k ∈ [1, 2, 3, 4, 5, 6, 7, 8, 11, 15, 16, 18, 21, 23, 24, 28, 29, 31, 32, 33, 34, 36, 37, 39, 40, 41, 44, 45, 46, 47, 48, 53, 54, 56, 57, 58, 59]) || decide (k ∈ [9, 12, 13, 27, 35, 49, 50, 51, 52]) | none => true) = true := by decide +kernel
theorem tb_M2_sel : ∀ x ∈ tb_M2.filter (fun d => decide (d.2.2.2.2.2.1 = 0)), (fun d : im_J => Cond.selects d.1.cls d.1 d.1) x ∈ tb_WS := by
  intro d hd
  obtain ⟨hd, hk⟩ := List.mem_filter.mp hd
  obtain ⟨k, hk2⟩ := List.getElem?_of_mem hd
  have hlt : k < 60 := (List.getElem?_eq_some_iff.mp hk2).1
  have h := List.all_eq_true.mp tb_M2_selK k (List.mem_range.mpr hlt)
  rw [hk2] at h
  simp only [Bool.or_eq_true, decide_eq_true_eq] at h hk
  rcases h with (h | h) | h
  · exact absurd hk h
  · have h2 := tb_M2_selA k h
    simp only [hk2] at h2
    exact h2
  · have h2 := tb_M2_selB k h
    simp only [hk2] at h2
    exact h2
theorem tb_M2_chk : tb_M2.all (fun d => plainFor d.1 && decide (d.1.cls ≠ "java/lang/invoke/MethodHandle") && decide (d.1.cls ≠ "java/lang/invoke/VarHandle") && decide ((parseMethodDescriptor d.1.desc).map (fun q => q.parameters.length) = some d.2.2.2.2.1) && decide (tb_nm d.2.2.2.2.2.2 = d.1.cls) && decide (d.2.2.2.2.2.2 ∈ tb_icl) && (decide (d.2.2.2.2.2.1 < 2) || (decide (d.1.name = "<init>") && decide (d.2.2.2.1 = none)))) = true := by decide +kernel
def tb_M3 : List im_J := [J_HPen_drawFrame, J_HPen_drawEllipse, J_HPen_indent, J_HPen_drawLine, J_Math_floorDiv, J_HPen_isNear, J_HPen_lastNear, J_HPen_drawPicture, J_H_turn, J_HSheet_rotate, J_HSheet_rotateWord, J_H_told, J_HSheet_edgeColumn, J_HSheet_edgeBit, J_HSheet_edgeRow, J_HSheet_darkCount, J_Long_bitCount, J_H_run, J_HSheet_has, J_HSheet_takeRuns, J_HSheet_isDark, J_H_scan, J_HFinder_search, J_HFinder_addUp, J_HFinder_darkMarks, J_HFinder_lookAtCorners, J_HFinder_darkIn, J_HFinder_ringsWrong, J_HFinder_lookAtAll, J_HFinder_leadsOn, J_HFinder_hasEdges, J_HFinder_edgedWrong, J_HFinder_lookFrom, J_HFinder_lookAt, J_HFinder_hasShades, J_HFinder_lightMarks, J_HFinder_wrongAt, J_HFinder_loneX, J_HFinder_loneY, J_HFinder_add, J_HFinder_keepLeaders, J_HFinder_haveCommonDot, J_HFinder_part, J_H_found, J_H_decode, J_H_forgetReading, J_HFinder_fill, J_HFinder_darkNow, J_HGrid_understand, J_HGrid_formNumber, J_Integer_bitCount, J_HBlocks_mend, J_HBlocks_kept, J_HBlocks_mendWord, J_HBlocks_isCodeword, J_HBlocks_findLocator, J_HBlocks_over, J_HBlocks_makeEvaluator, J_HBlocks_valueAt, J_HBlocks_slopeAt]
set_option maxRecDepth 100000 in
theorem tb_M3_pick : tb_pick [1856, 3, 3, 3, 4, 2, 3, 4, 6, 3, 3, 6, 3, 2, 3, 3, 2, 9, 3, 3, 3, 6, 3, 3, 4, 3, 3, 3, 3, 3, 3, 7, 3, 3, 3, 2, 3, 2, 2, 3, 7, 3, 3, 6, 7, 3, 5, 3, 6, 3, 2, 6, 2, 3, 3, 3, 4, 3, 3, 3] lw_tbl = tb_M3.map (fun d : im_J => Cond.code d.1 d.2.1 d.2.2.1 d.2.2.2.1) := by rfl
theorem tb_M3_code : ∀ x ∈ tb_M3, (fun d : im_J => Cond.code d.1 d.2.1 d.2.2.1 d.2.2.2.1) x ∈ tb_WS := tb_all (tb_memR tb_M3_pick (by decide +kernel))
theorem tb_M3_inst : ∀ x ∈ tb_M3.filter (fun d => decide (d.2.2.2.2.2.1 ≠ 1)), (fun d : im_J => Cond.instanceMethod d.1) x ∈ tb_WS := tb_all (tb_mem (gs := [1855, 3, 7, 16, 5, 3, 4, 5, 3, 6, 3, 12, 3, 3, 3, 6, 3, 4, 8, 3, 3, 3, 3, 3, 7, 3, 3, 3, 6, 9, 7, 3, 2, 6, 7, 4, 4, 4, 5, 4, 8, 7, 3, 3, 4, 3, 3, 3]) (by decide +kernel) (by decide +kernel) (by decide +kernel))
theorem tb_M3_stat : ∀ x ∈ tb_M3.filter (fun d => decide (d.2.2.2.2.2.1 = 1)), (fun d : im_J => Cond.static d.1) x ∈ tb_WS := tb_all (tb_mem (gs := [1863, 8, 2, 3, 33, 10, 41, 46, 6, 2, 62, 9]) (by decide +kernel) (by decide +kernel) (by decide +kernel))
theorem tb_M3_selA : ∀ x ∈ [0, 1, 3, 7, 10, 23, 25, 26, 27, 28, 29, 30, 31, 32, 33, 34, 36, 39, 40, 41, 45, 47, 49, 53, 54, 55, 56, 57, 58, 59], (fun k : Nat => match tb_M3[k]? with | some d => Cond.selects d.1.cls d.1 d.1 | none => .tt) x ∈ tb_WS := tb_all (tb_mem (gs := [67, 0, 0, 0, 0, 0, 0, 0, 0, 0, 0, 0, 0, 0, 0, 0, 0, 0, 0, 0, 0, 0, 0, 0, 0, 0, 0, 0, 0, 0]) (by decide +kernel) (by decide +kernel) (by decide +kernel))
theorem tb_M3_selB : ∀ x ∈ [8, 9, 11, 12, 14, 15, 17, 18, 19, 20, 21, 22, 42, 43, 44, 46, 48, 51], (fun k : Nat => match tb_M3[k]? with | some d => Cond.selects d.1.cls d.1 d.1 | none => .tt) x ∈ tb_WS := tb_all (tb_mem (gs := [1891, 3, 10, 3, 6, 3, 12, 3, 3, 3, 6, 3, 85, 6, 7, 9, 10, 13]) (by decide +kernel) (by decide +kernel) (by decide +kernel))
theorem tb_M3_selK : (List.range 60).all (fun k => match tb_M3[k]? with | some d => decide (d.2.2.2.2.2.1 ≠ 0) || decide (k ∈ [0, 1, 3, 7, 10, 23, 25, 26, 27, 28, 29, 30, 31, 32, 33, 34, 36, 39, 40, 41, 45, 47, 49, 53, 54, 55, 56, 57, 58, 59]) || decide (k ∈ [8, 9, 11, 12, 14, 15, 17, 18, 19, 20, 21, 22, 42, 43, 44, 46, 48, 51]) | none => true) = true := by decide +kernel
theorem tb_M3_sel : ∀ x ∈ tb_M3.filter (fun d => decide (d.2.2.2.2.2.1 = 0)), (fun d : im_J => Cond.selects d.1.cls d.1 d.1) x ∈ tb_WS := by
  intro d hd
  obtain ⟨hd, hk⟩ := List.mem_filter.mp hd
  obtain ⟨k, hk2⟩ := List.getElem?_of_mem hd
  have hlt : k < 60 := (List.getElem?_eq_some_iff.mp hk2).1
  have h := List.all_eq_true.mp tb_M3_selK k (List.mem_range.mpr hlt)
  rw [hk2] at h
  simp only [Bool.or_eq_true, decide_eq_true_eq] at h hk
  rcases h with (h | h) | h
  · exact absurd hk h
  · have h2 := tb_M3_selA k h
    simp only [hk2] at h2
    exact h2
  · have h2 := tb_M3_selB k h
    simp only [hk2] at h2
    exact h2
theorem tb_M3_chk : tb_M3.all (fun d => plainFor d.1 && decide (d.1.cls ≠ "java/lang/invoke/MethodHandle") && decide (d.1.cls ≠ "java/lang/invoke/VarHandle") && decide ((parseMethodDescriptor d.1.desc).map (fun q => q.parameters.length) = some d.2.2.2.2.1) && decide (tb_nm d.2.2.2.2.2.2 = d.1.cls) && decide (d.2.2.2.2.2.2 ∈ tb_icl) && (decide (d.2.2.2.2.2.1 < 2) || (decide (d.1.name = "<init>") && decide (d.2.2.2.1 = none)))) = true := by decide +kernel
def tb_M4 : List im_J := [J_HSegments_unpack, J_HSegments_take, J_HSegments_modeOf, J_HSegments_unpackOne, J_HSegments_unpackPart, J_String_charAt, J_StringLatin1_charAt, J_String_checkIndex, J_H_bars, J_HBars_understand, J_HBars_readFigures, J_HBars_hasGuards, J_HBars_sumOf, J_HBars_widthAt, J_HBars_nearest, J_HBars_patternAt, J_HBars_indexOf, J_HBars_readSymbols, J_HBars_tell, J_HBars_write, J_HBars_signOf, J_H_reading, J_M_init, J_MScriptRows_init, J_MDotRows_init, J_MLineRows_init, J_MSquareRows_init, J_MPlaceRows_init, J_M_thrown, J_M_feed, J_M_wipe, J_M_font, J_MDotRows_font, J_MDotRows_isNot, J_MDotRows_thrown, J_M_cell, J_MDotRows_cell, J_M_read, J_MScriptRows_wipe, J_MScriptRows_write, J_MScriptRows_read, J_MScriptRows_step, J_MScriptRows_peek, J_MScriptRows_next, J_MScriptRows_test, J_MScriptRows_numbers, J_MScriptRows_mayStand, J_MScriptRows_takeNumbers, J_MScriptRows_preset, J_MScriptRows_isDigit, J_MScriptRows_testRanges, J_MScriptRows_range, J_MScriptRows_picture, J_MScriptRows_takeData, J_MScriptRows_hex, J_MScriptRows_formSize, J_MScriptRows_tryField, J_MScriptRows_fits, J_MScriptRows_isPlaced, J_MScriptRows_lay]
set_option maxRecDepth 100000 in
theorem tb_M4_pick : tb_pick [2130, 3, 2, 3, 3, 3, 2, 2, 16, 4, 3, 3, 3, 3, 2, 3, 2, 3, 3, 3, 2, 6, 4, 5, 126, 61, 166, 108, 80, 3, 4, 3, 3, 2, 3, 3, 3, 3, 3, 3, 4, 3, 3, 3, 3, 2, 3, 3, 3, 2, 3, 2, 2, 3, 2, 3, 3, 3, 3, 3] lw_tbl = tb_M4.map (fun d : im_J => Cond.code d.1 d.2.1 d.2.2.1 d.2.2.2.1) := by rfl
theorem tb_M4_code : ∀ x ∈ tb_M4, (fun d : im_J => Cond.code d.1 d.2.1 d.2.2.1 d.2.2.2.1) x ∈ tb_WS := tb_all (tb_memR tb_M4_pick (by decide +kernel))
theorem tb_M4_inst : ∀ x ∈ tb_M4.filter (fun d => decide (d.2.2.2.2.2.1 ≠ 1)), (fun d : im_J => Cond.instanceMethod d.1) x ∈ tb_WS := tb_all (tb_mem (gs := [2128, 4, 6, 3, 2, 22, 4, 4, 3, 3, 3, 6, 6, 3, 3, 8, 5, 5, 126, 61, 166, 108, 79, 3, 4, 3, 3, 6, 3, 3, 3, 3, 3, 4, 4, 3, 3, 3, 6, 3, 3, 6, 9, 6, 3, 3, 3, 3]) (by decide +kernel) (by decide +kernel) (by decide +kernel))
theorem tb_M4_stat : ∀ x ∈ tb_M4.filter (fun d => decide (d.2.2.2.2.2.1 = 1)), (fun d : im_J => Cond.static d.1) x ∈ tb_WS := tb_all (tb_mem (gs := [2136, 14, 2, 40, 6, 14, 583, 47, 14, 6, 2, 6]) (by decide +kernel) (by decide +kernel) (by decide +kernel))
theorem tb_M4_selA : ∀ x ∈ [1, 3, 4, 10, 11, 12, 13, 15, 17, 18, 19, 41, 42, 43, 44, 46, 47, 48, 50, 53, 55, 56, 57, 58, 59], (fun k : Nat => match tb_M4[k]? with | some d => Cond.selects d.1.cls d.1 d.1 | none => .tt) x ∈ tb_WS := tb_all (tb_mem (gs := [97, 0, 0, 0, 0, 0, 0, 0, 0, 0, 0, 0, 0, 0, 0, 0, 0, 0, 0, 0, 0, 0, 0, 0, 0]) (by decide +kernel) (by decide +kernel) (by decide +kernel))
theorem tb_M4_selB : ∀ x ∈ [0, 5, 8, 9, 21, 28, 29, 30, 31, 32, 34, 35, 36, 37, 38, 39, 40], (fun k : Nat => match tb_M4[k]? with | some d => Cond.selects d.1.cls d.1 d.1 | none => .tt) x ∈ tb_WS := tb_all (tb_mem (gs := [2129, 18, 22, 4, 47, 556, 3, 4, 3, 3, 6, 3, 3, 3, 3, 3, 4]) (by decide +kernel) (by decide +kernel) (by decide +kernel))
theorem tb_M4_selK : (List.range 60).all (fun k => match tb_M4[k]? with | some d => decide (d.2.2.2.2.2.1 ≠ 0) || decide (k ∈ [1, 3, 4, 10, 11, 12, 13, 15, 17, 18, 19, 41, 42, 43, 44, 46, 47, 48, 50, 53, 55, 56, 57, 58, 59]) || decide (k ∈ [0, 5, 8, 9, 21, 28, 29, 30, 31, 32, 34, 35, 36, 37, 38, 39, 40]) | none => true) = true := by decide +kernel
theorem tb_M4_sel : ∀ x ∈ tb_M4.filter (fun d => decide (d.2.2.2.2.2.1 = 0)), (fun d : im_J => Cond.selects d.1.cls d.1 d.1) x ∈ tb_WS := by
  intro d hd
  obtain ⟨hd, hk⟩ := List.mem_filter.mp hd
  obtain ⟨k, hk2⟩ := List.getElem?_of_mem hd
  have hlt : k < 60 := (List.getElem?_eq_some_iff.mp hk2).1
  have h := List.all_eq_true.mp tb_M4_selK k (List.mem_range.mpr hlt)
  rw [hk2] at h
  simp only [Bool.or_eq_true, decide_eq_true_eq] at h hk
  rcases h with (h | h) | h
  · exact absurd hk h
  · have h2 := tb_M4_selA k h
    simp only [hk2] at h2
    exact h2
  · have h2 := tb_M4_selB k h
    simp only [hk2] at h2
    exact h2
theorem tb_M4_chk : tb_M4.all (fun d => plainFor d.1 && decide (d.1.cls ≠ "java/lang/invoke/MethodHandle") && decide (d.1.cls ≠ "java/lang/invoke/VarHandle") && decide ((parseMethodDescriptor d.1.desc).map (fun q => q.parameters.length) = some d.2.2.2.2.1) && decide (tb_nm d.2.2.2.2.2.2 = d.1.cls) && decide (d.2.2.2.2.2.2 ∈ tb_icl) && (decide (d.2.2.2.2.2.1 < 2) || (decide (d.1.name = "<init>") && decide (d.2.2.2.1 = none)))) = true := by decide +kernel
def tb_M5 : List im_J := [J_MScriptRows_makeField, J_MScriptRows_takeCopy, J_MScriptRows_give, J_MScriptRows_stepX, J_MScriptRows_stepY, J_MScriptRows_isFar, J_MScriptRows_have, J_MScriptRows_makeLines, J_MScriptRows_pieceEnd, J_MScriptRows_giveLine, J_MScriptRows_obey, J_MScriptRows_storeForm, J_MScriptRows_storeData, J_MScriptRows_beginLabel, J_MScriptRows_newField, J_MScriptRows_endLabel, J_MScriptRows_layForm, J_MScriptRows_set, J_MScriptRows_kindOf, J_M_fault, J_MScriptRows_fault, J_M_place, J_MScriptRows_place, J_M_label, J_MScriptRows_label, J_MScriptRows_thrown, J_M_order, J_MScriptRows_order, J_M_data, J_MScriptRows_data, J_M_print, J_MDotRows_sheet, J_M_draw, J_MDotRows_way, J_MDotRows_wipe, J_M_draftData, J_M_byteOf, J_M_draft, J_MDotRows_write, J_MDotRows_text, J_MDotRows_noPlace, J_MDotRows_at, J_MDotRows_draw, J_MDotRows_belongs, J_MDotRows_inFrame, J_MDotRows_inLine, J_MDotRows_inEllipse, J_MDotRows_inOval, J_MDotRows_inPicture, J_MDotRows_bit, J_MDotRows_along, J_MDotRows_across, J_MDotRows_inText, J_MDotRows_inSquare, J_MDotRows_isDark, J_MDotRows_isOn, J_MDotRows_other, J_M_draftRow, J_MLineRows_wipe, J_MLineRows_write]
set_option maxRecDepth 100000 in
theorem tb_M5_pick : tb_pick [2906, 3, 4, 2, 2, 2, 3, 3, 3, 3, 3, 3, 3, 3, 3, 3, 3, 3, 2, 3, 3, 3, 3, 3, 3, 3, 3, 3, 3, 3, 3, 3, 3, 3, 3, 3, 3, 3, 3, 4, 2, 3, 3, 3, 3, 3, 4, 3, 3, 3, 3, 3, 3, 3, 3, 3, 3, 3, 3, 3] lw_tbl = tb_M5.map (fun d : im_J => Cond.code d.1 d.2.1 d.2.2.1 d.2.2.2.1) := by rfl
theorem tb_M5_code : ∀ x ∈ tb_M5, (fun d : im_J => Cond.code d.1 d.2.1 d.2.2.1 d.2.2.2.1) x ∈ tb_WS := tb_all (tb_memR tb_M5_pick (by decide +kernel))
theorem tb_M5_inst : ∀ x ∈ tb_M5.filter (fun d => decide (d.2.2.2.2.2.1 ≠ 1)), (fun d : im_J => Cond.instanceMethod d.1) x ∈ tb_WS := tb_all (tb_mem (gs := [2905, 3, 4, 12, 3, 3, 3, 3, 3, 3, 3, 3, 3, 3, 3, 5, 3, 3, 3, 3, 3, 3, 3, 3, 3, 3, 3, 3, 4, 2, 3, 4, 3, 3, 2, 4, 7, 3, 3, 3, 3, 4, 7, 3, 3, 3, 3, 3, 3, 3, 3, 3, 2, 3]) (by decide +kernel) (by decide +kernel) (by decide +kernel))
theorem tb_M5_stat : ∀ x ∈ tb_M5.filter (fun d => decide (d.2.2.2.2.2.1 = 1)), (fun d : im_J => Cond.static d.1) x ∈ tb_WS := tb_all (tb_mem (gs := [2917, 2, 2, 50, 87, 28]) (by decide +kernel) (by decide +kernel) (by decide +kernel))
theorem tb_M5_selA : ∀ x ∈ [0, 1, 2, 6, 7, 8, 9, 10, 11, 12, 13, 14, 15, 16, 17, 32, 35, 36, 37, 41, 42, 43, 44, 45, 46, 48, 49, 50, 51, 52, 53, 54, 55, 56, 57], (fun k : Nat => match tb_M5[k]? with | some d => Cond.selects d.1.cls d.1 d.1 | none => .tt) x ∈ tb_WS := tb_all (tb_mem (gs := [122, 0, 0, 0, 0, 0, 0, 0, 0, 0, 0, 0, 0, 0, 0, 0, 0, 0, 0, 0, 0, 0, 0, 0, 0, 0, 0, 0, 0, 0, 0, 0, 0, 0, 0]) (by decide +kernel) (by decide +kernel) (by decide +kernel))
theorem tb_M5_selB : ∀ x ∈ [19, 20, 21, 22, 23, 24, 25, 26, 27, 28, 29, 30, 31, 33, 34, 38, 39, 58, 59], (fun k : Nat => match tb_M5[k]? with | some d => Cond.selects d.1.cls d.1 d.1 | none => .tt) x ∈ tb_WS := tb_all (tb_mem (gs := [2978, 3, 3, 3, 3, 3, 3, 3, 3, 3, 3, 3, 3, 7, 3, 15, 4, 75, 3]) (by decide +kernel) (by decide +kernel) (by decide +kernel))
theorem tb_M5_selK : (List.range 60).all (fun k => match tb_M5[k]? with | some d => decide (d.2.2.2.2.2.1 ≠ 0) || decide (k ∈ [0, 1, 2, 6, 7, 8, 9, 10, 11, 12, 13, 14, 15, 16, 17, 32, 35, 36, 37, 41, 42, 43, 44, 45, 46, 48, 49, 50, 51, 52, 53, 54, 55, 56, 57]) || decide (k ∈ [19, 20, 21, 22, 23, 24, 25, 26, 27, 28, 29, 30, 31, 33, 34, 38, 39, 58, 59]) | none => true) = true := by decide +kernel
theorem tb_M5_sel : ∀ x ∈ tb_M5.filter (fun d => decide (d.2.2.2.2.2.1 = 0)), (fun d : im_J => Cond.selects d.1.cls d.1 d.1) x ∈ tb_WS := by
  intro d hd
  obtain ⟨hd, hk⟩ := List.mem_filter.mp hd
  obtain ⟨k, hk2⟩ := List.getElem?_of_mem hd
  have hlt : k < 60 := (List.getElem?_eq_some_iff.mp hk2).1
  have h := List.all_eq_true.mp tb_M5_selK k (List.mem_range.mpr hlt)
  rw [hk2] at h
  simp only [Bool.or_eq_true, decide_eq_true_eq] at h hk
  rcases h with (h | h) | h
  · exact absurd hk h
  · have h2 := tb_M5_selA k h
    simp only [hk2] at h2
    exact h2
  · have h2 := tb_M5_selB k h
    simp only [hk2] at h2
    exact h2
theorem tb_M5_chk : tb_M5.all (fun d => plainFor d.1 && decide (d.1.cls ≠ "java/lang/invoke/MethodHandle") && decide (d.1.cls ≠ "java/lang/invoke/VarHandle") && decide ((parseMethodDescriptor d.1.desc).map (fun q => q.parameters.length) = some d.2.2.2.2.1) && decide (tb_nm d.2.2.2.2.2.2 = d.1.cls) && decide (d.2.2.2.2.2.2 ∈ tb_icl) && (decide (d.2.2.2.2.2.1 < 2) || (decide (d.1.name = "<init>") && decide (d.2.2.2.1 = none)))) = true := by decide +kernel
def tb_M6 : List im_J := [J_MLineRows_pack, J_MLineRows_relax, J_MLineRows_with, J_MLineRows_tells, J_MLineRows_at, J_MLineRows_isPair, J_MLineRows_signOf, J_MLineRows_leastAt, J_MLineRows_goes, J_MLineRows_isOther, J_MLineRows_add, J_MLineRows_check, J_MLineRows_bars, J_MLineRows_noModule, J_MLineRows_lay, J_M_draftWidths, J_MLineRows_width, J_MDotRows_bars, J_M_draftThirteen, J_MLineRows_thirteen, J_MLineRows_noTwelve, J_MLineRows_checkFigure, J_MLineRows_figure, J_MLineRows_isTurned, J_MLineRows_reversed, J_M_draftSymbol, J_MSquareRows_wipe, J_MSquareRows_put, J_MSquareRows_make, J_MSquareRows_versionFor, J_MSquareRows_fits, J_MSquareRows_rank, J_MSquareRows_divide, J_MSquareRows_least, J_MSquareRows_restOf, J_MSquareRows_may, J_MSquareRows_signOf, J_MSquareRows_costOf, J_MSquareRows_modeOf, J_MSquareRows_lengthBits, J_MSquareRows_stateAfter, J_MSquareRows_holds, J_MSquareRows_allCodewords, J_MSquareRows_checkOf, J_MSquareRows_blocksOf, J_MSquareRows_layAll, J_MSquareRows_laySegment, J_MSquareRows_lay, J_MSquareRows_check, J_MSquareRows_generate, J_MSquareRows_two, J_MSquareRows_times, J_MSquareRows_shareOf, J_MSquareRows_startOf, J_MSquareRows_placeOf, J_MSquareRows_frame, J_MSquareRows_sideOf, J_MSquareRows_fix, J_MSquareRows_moduleAt, J_MSquareRows_square]
set_option maxRecDepth 100000 in
theorem tb_M6_pick : tb_pick [3146, 3, 3, 3, 3, 3, 2, 3, 2, 3, 3, 2, 3, 2, 3, 4, 3, 3, 3, 5, 2, 4, 2, 4, 2, 3, 3, 3, 4, 3, 3, 2, 3, 3, 4, 2, 2, 2, 2, 2, 2, 3, 2, 3, 3, 3, 3, 3, 3, 3, 2, 2, 3, 3, 3, 3, 2, 3, 3, 3] lw_tbl = tb_M6.map (fun d : im_J => Cond.code d.1 d.2.1 d.2.2.1 d.2.2.2.1) := by rfl
theorem tb_M6_code : ∀ x ∈ tb_M6, (fun d : im_J => Cond.code d.1 d.2.1 d.2.2.1 d.2.2.2.1) x ∈ tb_WS := tb_all (tb_memR tb_M6_pick (by decide +kernel))
theorem tb_M6_inst : ∀ x ∈ tb_M6.filter (fun d => decide (d.2.2.2.2.2.1 ≠ 1)), (fun d : im_J => Cond.instanceMethod d.1) x ∈ tb_WS := tb_all (tb_mem (gs := [3144, 4, 3, 3, 3, 3, 6, 6, 3, 5, 7, 4, 2, 3, 4, 4, 7, 8, 6, 2, 3, 4, 4, 3, 6, 3, 4, 21, 6, 3, 3, 3, 3, 3, 3, 9, 3, 3, 3, 6, 3, 3]) (by decide +kernel) (by decide +kernel) (by decide +kernel))
theorem tb_M6_stat : ∀ x ∈ tb_M6.filter (fun d => decide (d.2.2.2.2.2.1 = 1)), (fun d : im_J => Cond.static d.1) x ∈ tb_WS := tb_all (tb_mem (gs := [3168, 6, 10, 6, 29, 7, 7, 27, 15, 2, 2, 2, 2, 2, 6, 30, 2, 18]) (by decide +kernel) (by decide +kernel) (by decide +kernel))
theorem tb_M6_selA : ∀ x ∈ [1, 2, 3, 4, 5, 7, 9, 10, 14, 15, 18, 23, 25, 29, 30, 32, 33, 34, 41, 43, 44, 45, 46, 47, 48, 49, 52, 53, 54, 55, 57, 58, 59], (fun k : Nat => match tb_M6[k]? with | some d => Cond.selects d.1.cls d.1 d.1 | none => .tt) x ∈ tb_WS := tb_all (tb_mem (gs := [157, 0, 0, 0, 0, 0, 0, 0, 0, 0, 0, 0, 0, 0, 0, 0, 0, 0, 0, 0, 0, 0, 0, 0, 0, 0, 0, 0, 0, 0, 0, 0, 0]) (by decide +kernel) (by decide +kernel) (by decide +kernel))
theorem tb_M6_selB : ∀ x ∈ [0, 12, 16, 17, 19, 21, 26, 27, 28], (fun k : Nat => match tb_M6[k]? with | some d => Cond.selects d.1.cls d.1 d.1 | none => .tt) x ∈ tb_WS := tb_all (tb_mem (gs := [3145, 44, 15, 3, 9, 7, 18, 3, 4]) (by decide +kernel) (by decide +kernel) (by decide +kernel))
theorem tb_M6_selK : (List.range 60).all (fun k => match tb_M6[k]? with | some d => decide (d.2.2.2.2.2.1 ≠ 0) || decide (k ∈ [1, 2, 3, 4, 5, 7, 9, 10, 14, 15, 18, 23, 25, 29, 30, 32, 33, 34, 41, 43, 44, 45, 46, 47, 48, 49, 52, 53, 54, 55, 57, 58, 59]) || decide (k ∈ [0, 12, 16, 17, 19, 21, 26, 27, 28]) | none => true) = true := by decide +kernel
theorem tb_M6_sel : ∀ x ∈ tb_M6.filter (fun d => decide (d.2.2.2.2.2.1 = 0)), (fun d : im_J => Cond.selects d.1.cls d.1 d.1) x ∈ tb_WS := by
  intro d hd
  obtain ⟨hd, hk⟩ := List.mem_filter.mp hd
  obtain ⟨k, hk2⟩ := List.getElem?_of_mem hd
  have hlt : k < 60 := (List.getElem?_eq_some_iff.mp hk2).1
  have h := List.all_eq_true.mp tb_M6_selK k (List.mem_range.mpr hlt)
  rw [hk2] at h
  simp only [Bool.or_eq_true, decide_eq_true_eq] at h hk
  rcases h with (h | h) | h
  · exact absurd hk h
  · have h2 := tb_M6_selA k h
    simp only [hk2] at h2
    exact h2
  · have h2 := tb_M6_selB k h
    simp only [hk2] at h2
    exact h2
theorem tb_M6_chk : tb_M6.all (fun d => plainFor d.1 && decide (d.1.cls ≠ "java/lang/invoke/MethodHandle") && decide (d.1.cls ≠ "java/lang/invoke/VarHandle") && decide ((parseMethodDescriptor d.1.desc).map (fun q => q.parameters.length) = some d.2.2.2.2.1) && decide (tb_nm d.2.2.2.2.2.2 = d.1.cls) && decide (d.2.2.2.2.2.2 ∈ tb_icl) && (decide (d.2.2.2.2.2.1 < 2) || (decide (d.1.name = "<init>") && decide (d.2.2.2.1 = none)))) = true := by decide +kernel
def tb_M7 : List im_J := [J_MSquareRows_greater, J_MSquareRows_alignmentAt, J_MSquareRows_layForm, J_MSquareRows_formWord, J_MSquareRows_shortWord, J_MSquareRows_formX, J_MSquareRows_formY, J_MSquareRows_formNumber, J_MSquareRows_goThrough, J_MSquareRows_masked, J_MSquareRows_penalty, J_MSquareRows_lines, J_MSquareRows_module, J_MSquareRows_row, J_MDotRows_square, J_MDotRows_frame, J_MDotRows_noRing, J_MDotRows_ellipse, J_MDotRows_line, J_MDotRows_picture, J_M_follow, J_MDotRows_told, J_MPlaceRows_sheet, J_MPlaceRows_forget, J_M_row, J_M_isOn, J_M_isDark, J_MDotRows_dots, J_MPlaceRows_turn, J_MPlaceRows_isOn, J_MPlaceRows_isDark, J_M_drawn, J_M_spoil, J_M_turn, J_MDotRows_turn, J_MDotRows_turnOnce, J_M_told, J_M_dots, J_M_run, J_MDotRows_run, J_M_scan, J_MPlaceRows_find, J_MPlaceRows_add, J_MPlaceRows_list, J_MPlaceRows_side, J_MPlaceRows_module, J_MPlaceRows_distance, J_MPlaceRows_apart, J_MPlaceRows_look, J_MPlaceRows_isPlace, J_MPlaceRows_wrong, J_MPlaceRows_darkIn, J_MPlaceRows_blockX, J_MPlaceRows_least, J_MPlaceRows_blockY, J_MPlaceRows_enter, J_MPlaceRows_order, J_MPlaceRows_isBefore, J_MPlaceRows_leads, J_MPlaceRows_meet]
set_option maxRecDepth 100000 in
theorem tb_M7_pick : tb_pick [3374, 2, 3, 2, 2, 2, 2, 2, 3, 2, 3, 3, 3, 3, 3, 3, 2, 3, 3, 3, 3, 3, 3, 3, 3, 3, 3, 3, 3, 3, 3, 3, 3, 3, 3, 3, 3, 3, 3, 3, 3, 3, 3, 3, 2, 2, 2, 2, 3, 3, 3, 3, 2, 2, 2, 3, 3, 3, 3, 3] lw_tbl = tb_M7.map (fun d : im_J => Cond.code d.1 d.2.1 d.2.2.1 d.2.2.2.1) := by rfl
theorem tb_M7_code : ∀ x ∈ tb_M7, (fun d : im_J => Cond.code d.1 d.2.1 d.2.2.1 d.2.2.2.1) x ∈ tb_WS := tb_all (tb_memR tb_M7_pick (by decide +kernel))
theorem tb_M7_inst : ∀ x ∈ tb_M7.filter (fun d => decide (d.2.2.2.2.2.1 ≠ 1)), (fun d : im_J => Cond.instanceMethod d.1) x ∈ tb_WS := tb_all (tb_mem (gs := [3380, 18, 6, 3, 3, 2, 3, 3, 6, 3, 3, 4, 2, 3, 4, 3, 3, 3, 2, 3, 4, 3, 2, 3, 3, 3, 4, 2, 3, 3, 3, 3, 3, 4, 3, 15, 3, 3, 3, 12, 3, 3, 3, 3]) (by decide +kernel) (by decide +kernel) (by decide +kernel))
theorem tb_M7_stat : ∀ x ∈ tb_M7.filter (fun d => decide (d.2.2.2.2.2.1 = 1)), (fun d : im_J => Cond.static d.1) x ∈ tb_WS := tb_all (tb_mem (gs := [3373, 2, 6, 2, 2, 2, 2, 6, 26, 110, 2, 2, 2, 18, 2, 2]) (by decide +kernel) (by decide +kernel) (by decide +kernel))
theorem tb_M7_selA : ∀ x ∈ [2, 8, 10, 11, 12, 20, 23, 24, 25, 26, 29, 30, 35, 42, 43, 48, 49, 50, 51, 55, 56, 57, 58, 59], (fun k : Nat => match tb_M7[k]? with | some d => Cond.selects d.1.cls d.1 d.1 | none => .tt) x ∈ tb_WS := tb_all (tb_mem (gs := [190, 0, 0, 0, 0, 0, 0, 0, 0, 0, 0, 0, 0, 0, 0, 0, 0, 0, 0, 0, 0, 0, 0, 0]) (by decide +kernel) (by decide +kernel) (by decide +kernel))
theorem tb_M7_selB : ∀ x ∈ [13, 14, 15, 17, 18, 19, 21, 22, 27, 28, 31, 32, 33, 34, 36, 37, 38, 39, 40, 41], (fun k : Nat => match tb_M7[k]? with | some d => Cond.selects d.1.cls d.1 d.1 | none => .tt) x ∈ tb_WS := tb_all (tb_mem (gs := [3418, 3, 3, 6, 3, 3, 7, 3, 19, 3, 11, 3, 3, 3, 7, 3, 3, 3, 3, 3]) (by decide +kernel) (by decide +kernel) (by decide +kernel))
theorem tb_M7_selK : (List.range 60).all (fun k => match tb_M7[k]? with | some d => decide (d.2.2.2.2.2.1 ≠ 0) || decide (k ∈ [2, 8, 10, 11, 12, 20, 23, 24, 25, 26, 29, 30, 35, 42, 43, 48, 49, 50, 51, 55, 56, 57, 58, 59]) || decide (k ∈ [13, 14, 15, 17, 18, 19, 21, 22, 27, 28, 31, 32, 33, 34, 36, 37, 38, 39, 40, 41]) | none => true) = true := by decide +kernel
theorem tb_M7_sel : ∀ x ∈ tb_M7.filter (fun d => decide (d.2.2.2.2.2.1 = 0)), (fun d : im_J => Cond.selects d.1.cls d.1 d.1) x ∈ tb_WS := by
  intro d hd
  obtain ⟨hd, hk⟩ := List.mem_filter.mp hd
  obtain ⟨k, hk2⟩ := List.getElem?_of_mem hd
  have hlt : k < 60 := (List.getElem?_eq_some_iff.mp hk2).1
  have h := List.all_eq_true.mp tb_M7_selK k (List.mem_range.mpr hlt)
  rw [hk2] at h
  simp only [Bool.or_eq_true, decide_eq_true_eq] at h hk
  rcases h with (h | h) | h
  · exact absurd hk h
  · have h2 := tb_M7_selA k h
    simp only [hk2] at h2
    exact h2
  · have h2 := tb_M7_selB k h
    simp only [hk2] at h2
    exact h2
theorem tb_M7_chk : tb_M7.all (fun d => plainFor d.1 && decide (d.1.cls ≠ "java/lang/invoke/MethodHandle") && decide (d.1.cls ≠ "java/lang/invoke/VarHandle") && decide ((parseMethodDescriptor d.1.desc).map (fun q => q.parameters.length) = some d.2.2.2.2.1) && decide (tb_nm d.2.2.2.2.2.2 = d.1.cls) && decide (d.2.2.2.2.2.2 ∈ tb_icl) && (decide (d.2.2.2.2.2.1 < 2) || (decide (d.1.name = "<init>") && decide (d.2.2.2.1 = none)))) = true := by decide +kernel
def tb_M8 : List im_J := [J_MPlaceRows_thrown, J_M_found, J_MPlaceRows_place, J_M_decode, J_MSquareRows_blank, J_MPlaceRows_modules, J_MPlaceRows_differ, J_MSquareRows_spoil, J_MSquareRows_read, J_MSquareRows_formNumberRead, J_MSquareRows_formBits, J_MSquareRows_ones, J_MSquareRows_allBlocks, J_MSquareRows_spared, J_MSquareRows_correct, J_MSquareRows_isZero, J_MSquareRows_finds, J_MSquareRows_solves, J_MSquareRows_inverse, J_MSquareRows_mends, J_MSquareRows_segments, J_MSquareRows_next, J_MSquareRows_group, J_MSquareRows_byteOf, J_MSquareRows_take, J_MSquareRows_at, J_M_bars, J_M_strip, J_MLineRows_clear, J_MLineRows_put, J_MLineRows_spoil, J_MLineRows_read, J_MLineRows_isSome, J_MLineRows_isThirteen, J_MLineRows_sumOf, J_MLineRows_counts, J_MLineRows_place, J_MLineRows_tell, J_MLineRows_isRow, J_MLineRows_reverse, J_MLineRows_sign, J_M_reading, J_MSquareRows_fault, J_MLineRows_backwards, J_MSquareRows_reading, J_M_got]
set_option maxRecDepth 100000 in
theorem tb_M8_pick : tb_pick [3599, 3, 3, 3, 3, 3, 3, 3, 3, 3, 3, 2, 3, 2, 3, 3, 3, 3, 2, 3, 3, 3, 3, 2, 3, 3, 3, 3, 3, 3, 3, 3, 3, 3, 3, 3, 2, 3, 3, 3, 3, 3, 3, 3, 3, 3] lw_tbl = tb_M8.map (fun d : im_J => Cond.code d.1 d.2.1 d.2.2.1 d.2.2.2.1) := by rfl
theorem tb_M8_code : ∀ x ∈ tb_M8, (fun d : im_J => Cond.code d.1 d.2.1 d.2.2.1 d.2.2.2.1) x ∈ tb_WS := tb_all (tb_memR tb_M8_pick (by decide +kernel))
theorem tb_M8_inst : ∀ x ∈ tb_M8.filter (fun d => decide (d.2.2.2.2.2.1 ≠ 1)), (fun d : im_J => Cond.instanceMethod d.1) x ∈ tb_WS := tb_all (tb_mem (gs := [3597, 3, 3, 3, 3, 3, 4, 2, 3, 4, 3, 6, 6, 3, 3, 3, 6, 3, 3, 3, 6, 2, 3, 4, 2, 3, 3, 3, 4, 3, 3, 3, 6, 3, 3, 2, 3, 3, 3, 3, 3]) (by decide +kernel) (by decide +kernel) (by decide +kernel))
theorem tb_M8_stat : ∀ x ∈ tb_M8.filter (fun d => decide (d.2.2.2.2.2.1 = 1)), (fun d : im_J => Cond.static d.1) x ∈ tb_WS := tb_all (tb_mem (gs := [3641, 6, 18, 18, 50]) (by decide +kernel) (by decide +kernel) (by decide +kernel))
theorem tb_M8_selA : ∀ x ∈ [6, 9, 10, 12, 14, 15, 16, 17, 19, 20, 21, 22, 24, 27, 32, 33, 34, 35, 37, 38, 39], (fun k : Nat => match tb_M8[k]? with | some d => Cond.selects d.1.cls d.1 d.1 | none => .tt) x ∈ tb_WS := tb_all (tb_mem (gs := [214, 0, 0, 0, 0, 0, 0, 0, 0, 0, 0, 0, 0, 0, 0, 0, 0, 0, 0, 0, 0]) (by decide +kernel) (by decide +kernel) (by decide +kernel))
theorem tb_M8_selB : ∀ x ∈ [0, 1, 2, 3, 4, 5, 7, 8, 25, 26, 28, 29, 30, 31, 40, 41, 42, 43, 44, 45], (fun k : Nat => match tb_M8[k]? with | some d => Cond.selects d.1.cls d.1 d.1 | none => .tt) x ∈ tb_WS := tb_all (tb_mem (gs := [3598, 3, 3, 3, 3, 3, 7, 3, 63, 3, 7, 3, 3, 3, 34, 3, 3, 3, 3, 3]) (by decide +kernel) (by decide +kernel) (by decide +kernel))
theorem tb_M8_selK : (List.range 46).all (fun k => match tb_M8[k]? with | some d => decide (d.2.2.2.2.2.1 ≠ 0) || decide (k ∈ [6, 9, 10, 12, 14, 15, 16, 17, 19, 20, 21, 22, 24, 27, 32, 33, 34, 35, 37, 38, 39]) || decide (k ∈ [0, 1, 2, 3, 4, 5, 7, 8, 25, 26, 28, 29, 30, 31, 40, 41, 42, 43, 44, 45]) | none => true) = true := by decide +kernel
theorem tb_M8_sel : ∀ x ∈ tb_M8.filter (fun d => decide (d.2.2.2.2.2.1 = 0)), (fun d : im_J => Cond.selects d.1.cls d.1 d.1) x ∈ tb_WS := by
  intro d hd
  obtain ⟨hd, hk⟩ := List.mem_filter.mp hd
  obtain ⟨k, hk2⟩ := List.getElem?_of_mem hd
  have hlt : k < 46 := (List.getElem?_eq_some_iff.mp hk2).1
  have h := List.all_eq_true.mp tb_M8_selK k (List.mem_range.mpr hlt)
  rw [hk2] at h
  simp only [Bool.or_eq_true, decide_eq_true_eq] at h hk
  rcases h with (h | h) | h
  · exact absurd hk h
  · have h2 := tb_M8_selA k h
    simp only [hk2] at h2
    exact h2
  · have h2 := tb_M8_selB k h
    simp only [hk2] at h2
    exact h2
theorem tb_M8_chk : tb_M8.all (fun d => plainFor d.1 && decide (d.1.cls ≠ "java/lang/invoke/MethodHandle") && decide (d.1.cls ≠ "java/lang/invoke/VarHandle") && decide ((parseMethodDescriptor d.1.desc).map (fun q => q.parameters.length) = some d.2.2.2.2.1) && decide (tb_nm d.2.2.2.2.2.2 = d.1.cls) && decide (d.2.2.2.2.2.2 ∈ tb_icl) && (decide (d.2.2.2.2.2.1 < 2) || (decide (d.1.name = "<init>") && decide (d.2.2.2.1 = none)))) = true := by decide +kernel
def tb_M9 : List im_J := [J_Preconditions_checkIndex]
set_option maxRecDepth 100000 in
theorem tb_M9_pick : tb_pick [2158] lw_tbl = tb_M9.map (fun d : im_J => Cond.code d.1 d.2.1 d.2.2.1 d.2.2.2.1) := by rfl
theorem tb_M9_code : ∀ x ∈ tb_M9, (fun d : im_J => Cond.code d.1 d.2.1 d.2.2.1 d.2.2.2.1) x ∈ tb_WS := tb_all (tb_memR tb_M9_pick (by decide +kernel))
theorem tb_M9_inst : ∀ x ∈ tb_M9.filter (fun d => decide (d.2.2.2.2.2.1 ≠ 1)), (fun d : im_J => Cond.instanceMethod d.1) x ∈ tb_WS := tb_all (tb_mem (gs := []) (by decide +kernel) (by decide +kernel) (by decide +kernel))
theorem tb_M9_stat : ∀ x ∈ tb_M9.filter (fun d => decide (d.2.2.2.2.2.1 = 1)), (fun d : im_J => Cond.static d.1) x ∈ tb_WS := tb_all (tb_mem (gs := [2157]) (by decide +kernel) (by decide +kernel) (by decide +kernel))
theorem tb_M9_selA : ∀ x ∈ [], (fun k : Nat => match tb_M9[k]? with | some d => Cond.selects d.1.cls d.1 d.1 | none => .tt) x ∈ tb_WS := tb_all (tb_mem (gs := []) (by decide +kernel) (by decide +kernel) (by decide +kernel))
theorem tb_M9_selB : ∀ x ∈ [], (fun k : Nat => match tb_M9[k]? with | some d => Cond.selects d.1.cls d.1 d.1 | none => .tt) x ∈ tb_WS := tb_all (tb_mem (gs := []) (by decide +kernel) (by decide +kernel) (by decide +kernel))
theorem tb_M9_selK : (List.range 1).all (fun k => match tb_M9[k]? with | some d => decide (d.2.2.2.2.2.1 ≠ 0) || decide (k ∈ []) || decide (k ∈ []) | none => true) = true := by decide +kernel
theorem tb_M9_sel : ∀ x ∈ tb_M9.filter (fun d => decide (d.2.2.2.2.2.1 = 0)), (fun d : im_J => Cond.selects d.1.cls d.1 d.1) x ∈ tb_WS := by
  intro d hd
  obtain ⟨hd, hk⟩ := List.mem_filter.mp hd
  obtain ⟨k, hk2⟩ := List.getElem?_of_mem hd
  have hlt : k < 1 := (List.getElem?_eq_some_iff.mp hk2).1
  have h := List.all_eq_true.mp tb_M9_selK k (List.mem_range.mpr hlt)
  rw [hk2] at h
  simp only [Bool.or_eq_true, decide_eq_true_eq] at h hk
  rcases h with (h | h) | h
  · exact absurd hk h
  · have h2 := tb_M9_selA k h
    simp only [hk2] at h2
    exact h2
  · have h2 := tb_M9_selB k h
    simp only [hk2] at h2
    exact h2
theorem tb_M9_chk : tb_M9.all (fun d => plainFor d.1 && decide (d.1.cls ≠ "java/lang/invoke/MethodHandle") && decide (d.1.cls ≠ "java/lang/invoke/VarHandle") && decide ((parseMethodDescriptor d.1.desc).map (fun q => q.parameters.length) = some d.2.2.2.2.1) && decide (tb_nm d.2.2.2.2.2.2 = d.1.cls) && decide (d.2.2.2.2.2.2 ∈ tb_icl) && (decide (d.2.2.2.2.2.1 < 2) || (decide (d.1.name = "<init>") && decide (d.2.2.2.1 = none)))) = true := by decide +kernel
theorem tb_ini_of {l : List im_J} (h6 : l.all (fun d => plainFor d.1 && decide (d.1.cls ≠ "java/lang/invoke/MethodHandle") && decide (d.1.cls ≠ "java/lang/invoke/VarHandle") && decide ((parseMethodDescriptor d.1.desc).map (fun q => q.parameters.length) = some d.2.2.2.2.1) && decide (tb_nm d.2.2.2.2.2.2 = d.1.cls) && decide (d.2.2.2.2.2.2 ∈ tb_icl) && (decide (d.2.2.2.2.2.1 < 2) || (decide (d.1.name = "<init>") && decide (d.2.2.2.1 = none)))) = true) : ∀ d ∈ l, Cond.initialized d.1.cls ∈ tb_WS := by
  intro d hd
  have h := List.all_eq_true.mp h6 d hd
  simp only [Bool.and_eq_true, Bool.or_eq_true, decide_eq_true_eq] at h
  obtain ⟨⟨⟨⟨⟨⟨p1, p2⟩, p3⟩, p4⟩, p5⟩, p7⟩, p6⟩ := h
  rw [← p5]
  exact tb_inis _ (List.mem_map_of_mem (f := fun c => Cond.initialized (tb_nm c)) p7)
def tb_MP (d : im_J) : Prop := Cond.code d.1 d.2.1 d.2.2.1 d.2.2.2.1 ∈ tb_WS ∧ plainFor d.1 = true ∧ (d.1.cls ≠ "java/lang/invoke/MethodHandle" ∧ d.1.cls ≠ "java/lang/invoke/VarHandle" ∧ (parseMethodDescriptor d.1.desc).map (fun q => q.parameters.length) = some d.2.2.2.2.1) ∧ Cond.initialized d.1.cls ∈ tb_WS ∧ tb_nm d.2.2.2.2.2.2 = d.1.cls ∧ (d.2.2.2.2.2.1 = 0 → Cond.instanceMethod d.1 ∈ tb_WS ∧ Cond.selects d.1.cls d.1 d.1 ∈ tb_WS) ∧ (d.2.2.2.2.2.1 = 1 → Cond.static d.1 ∈ tb_WS) ∧ (2 ≤ d.2.2.2.2.2.1 → Cond.instanceMethod d.1 ∈ tb_WS ∧ d.1.name = "<init>" ∧ d.2.2.2.1 = none)
theorem tb_MP_of {l : List im_J} (h1 : ∀ x ∈ l, (fun d : im_J => Cond.code d.1 d.2.1 d.2.2.1 d.2.2.2.1) x ∈ tb_WS) (h2 : ∀ d ∈ l, Cond.initialized d.1.cls ∈ tb_WS) (h3 : ∀ x ∈ l.filter (fun d => decide (d.2.2.2.2.2.1 ≠ 1)), (fun d : im_J => Cond.instanceMethod d.1) x ∈ tb_WS) (h4 : ∀ x ∈ l.filter (fun d => decide (d.2.2.2.2.2.1 = 0)), (fun d : im_J => Cond.selects d.1.cls d.1 d.1) x ∈ tb_WS) (h5 : ∀ x ∈ l.filter (fun d => decide (d.2.2.2.2.2.1 = 1)), (fun d : im_J => Cond.static d.1) x ∈ tb_WS)
    (h6 : l.all (fun d => plainFor d.1 && decide (d.1.cls ≠ "java/lang/invoke/MethodHandle") && decide (d.1.cls ≠ "java/lang/invoke/VarHandle") && decide ((parseMethodDescriptor d.1.desc).map (fun q => q.parameters.length) = some d.2.2.2.2.1) && decide (tb_nm d.2.2.2.2.2.2 = d.1.cls) && decide (d.2.2.2.2.2.2 ∈ tb_icl) && (decide (d.2.2.2.2.2.1 < 2) || (decide (d.1.name = "<init>") && decide (d.2.2.2.1 = none)))) = true) : ∀ d ∈ l, tb_MP d := by
  intro d hd
  have h := List.all_eq_true.mp h6 d hd
  simp only [Bool.and_eq_true, Bool.or_eq_true, decide_eq_true_eq] at h
  obtain ⟨⟨⟨⟨⟨⟨p1, p2⟩, p3⟩, p4⟩, p5⟩, p7⟩, p6⟩ := h
  refine ⟨h1 d hd, p1, ⟨p2, p3, p4⟩, h2 d hd, p5, fun q => ⟨h3 d (List.mem_filter.mpr ⟨hd, decide_eq_true (by omega)⟩), h4 d (List.mem_filter.mpr ⟨hd, decide_eq_true q⟩)⟩, fun q => h5 d (List.mem_filter.mpr ⟨hd, decide_eq_true q⟩), fun q => ⟨h3 d (List.mem_filter.mpr ⟨hd, decide_eq_true (by omega)⟩), ?_⟩⟩
  rcases p6 with p6 | p6
  · omega
  · exact p6
def tb_M : List im_J := tb_M0 ++ (tb_M1 ++ (tb_M2 ++ (tb_M3 ++ (tb_M4 ++ (tb_M5 ++ (tb_M6 ++ (tb_M7 ++ (tb_M8 ++ (tb_M9)))))))))
theorem tb_M_ok : ∀ d ∈ tb_M, tb_MP d := by
  intro d hd
  unfold tb_M at hd
  simp only [List.mem_append] at hd
  rcases hd with h | h | h | h | h | h | h | h | h | h
  · exact tb_MP_of tb_M0_code (tb_ini_of tb_M0_chk) tb_M0_inst tb_M0_sel tb_M0_stat tb_M0_chk d h
  · exact tb_MP_of tb_M1_code (tb_ini_of tb_M1_chk) tb_M1_inst tb_M1_sel tb_M1_stat tb_M1_chk d h
  · exact tb_MP_of tb_M2_code (tb_ini_of tb_M2_chk) tb_M2_inst tb_M2_sel tb_M2_stat tb_M2_chk d h
  · exact tb_MP_of tb_M3_code (tb_ini_of tb_M3_chk) tb_M3_inst tb_M3_sel tb_M3_stat tb_M3_chk d h
  · exact tb_MP_of tb_M4_code (tb_ini_of tb_M4_chk) tb_M4_inst tb_M4_sel tb_M4_stat tb_M4_chk d h
  · exact tb_MP_of tb_M5_code (tb_ini_of tb_M5_chk) tb_M5_inst tb_M5_sel tb_M5_stat tb_M5_chk d h
  · exact tb_MP_of tb_M6_code (tb_ini_of tb_M6_chk) tb_M6_inst tb_M6_sel tb_M6_stat tb_M6_chk d h
  · exact tb_MP_of tb_M7_code (tb_ini_of tb_M7_chk) tb_M7_inst tb_M7_sel tb_M7_stat tb_M7_chk d h
  · exact tb_MP_of tb_M8_code (tb_ini_of tb_M8_chk) tb_M8_inst tb_M8_sel tb_M8_stat tb_M8_chk d h
  · exact tb_MP_of tb_M9_code (tb_ini_of tb_M9_chk) tb_M9_inst tb_M9_sel tb_M9_stat tb_M9_chk d h
def tb_T (j : Nat) : Option im_J := tb_M[j]?
def tb_lk : List (Nat × Nat × Nat) := [(18, 67, 0), (11, 18, 2), (11, 27, 3), (8, 37, 2), (4, 20, 9), (11, 57, 10), (11, 66, 11), (18, 83, 12), (18, 94, 13), (11, 109, 14), (8, 69, 15), (8, 72, 16), (10, 47, 17), (10, 51, 18), (8, 75, 17), (8, 85, 18), (8, 88, 19), (8, 93, 20), (19, 633, 21), (19, 492, 22), (19, 505, 23), (19, 335, 24), (19, 637, 25), (20, 88, 26), (20, 92, 27), (20, 38, 28), (20, 95, 29), (8, 99, 31), (8, 103, 32), (8, 106, 33), (10, 54, 34), (10, 58, 35), (8, 113, 36), (8, 116, 37), (8, 119, 38), (10, 64, 39), (10, 67, 40), (8, 122, 41), (8, 137, 42), (8, 143, 43), (2, 108, 44), (2, 111, 45), (2, 115, 46), (8, 146, 47), (2, 56, 35), (2, 60, 48), (2, 64, 49), (2, 67, 40), (8, 149, 50), (2, 71, 51), (2, 90, 52), (5, 20, 53), (22, 13, 54), (22, 304, 28), (19, 106, 56), (19, 54, 61), (22, 339, 62), (22, 343, 63), (2, 101, 64), (2, 94, 65), (2, 98, 66), (2, 75, 67), (2, 87, 68), (8, 159, 69), (8, 125, 70), (8, 165, 71), (8, 169, 72), (8, 222, 73), (8, 172, 74), (8, 175, 75), (8, 238, 76), (5, 36, 77), (5, 40, 78), (5, 52, 79), (5, 44, 40), (8, 184, 80), (8, 187, 81), (8, 206, 82), (8, 228, 83), (11, 113, 84), (18, 98, 85), (18, 102, 86), (18, 120, 87), (18, 124, 88), (11, 156, 89), (18, 136, 90), (11, 178, 91), (9, 55, 92), (18, 161, 93), (11, 138, 94), (18, 7, 95), (11, 87, 96), (18, 15, 97), (11, 95, 98), (6, 31, 53), (18, 19, 99), (11, 99, 100), (11, 106, 101), (18, 24, 102), (18, 28, 103), (11, 131, 77), (18, 31, 104), (18, 35, 105), (11, 142, 106), (9, 25, 107), (11, 152, 108), (6, 39, 77), (6, 62, 109), (6, 111, 110), (6, 114, 111), (6, 118, 112), (6, 107, 113), (9, 31, 27), (9, 37, 28), (9, 45, 114), (6, 70, 115), (0, 36, 116), (0, 45, 53), (0, 51, 117), (0, 60, 118), (0, 66, 119), (0, 69, 120), (0, 63, 121), (0, 55, 28), (0, 39, 122), (0, 76, 123), (0, 79, 124), (0, 83, 125), (0, 42, 126), (0, 93, 127), (6, 76, 128), (6, 80, 129), (0, 99, 130), (0, 102, 131), (6, 84, 132), (4, 32, 133), (7, 24, 134), (7, 28, 135), (7, 49, 53), (7, 55, 136), (7, 65, 137), (7, 44, 20), (7, 59, 138), (7, 32, 139), (1, 43, 140), (7, 38, 141), (7, 78, 142), (7, 85, 143), (7, 89, 144), (7, 93, 28), (7, 98, 145), (7, 101, 146), (4, 39, 147), (1, 73, 148), (1, 60, 139), (1, 77, 149), (1, 87, 150), (1, 93, 151), (1, 70, 152), (1, 80, 153), (1, 83, 154), (1, 96, 53), (4, 43, 155), (4, 77, 142), (4, 83, 156), (4, 87, 157), (4, 97, 158), (4, 102, 27), (4, 91, 159), (4, 106, 160), (4, 62, 161), (4, 113, 162), (4, 109, 163), (4, 116, 164), (4, 119, 165), (4, 94, 166), (4, 47, 167), (4, 122, 168), (4, 126, 169), (4, 130, 170), (4, 133, 171), (4, 137, 172), (4, 51, 173), (4, 59, 174), (4, 141, 175), (4, 67, 176), (4, 145, 177), (4, 148, 178), (6, 90, 179), (6, 130, 171), (6, 94, 180), (6, 98, 181), (6, 139, 182), (6, 101, 183), (6, 143, 28), (6, 148, 27), (6, 151, 184), (6, 154, 185), (6, 158, 186), (6, 162, 158), (6, 104, 187), (18, 39, 188), (11, 160, 189), (9, 59, 190), (18, 43, 191), (11, 169, 192), (9, 69, 193), (11, 172, 194), (11, 175, 195), (9, 63, 196), (18, 46, 197), (11, 182, 198), (11, 189, 199), (9, 73, 200), (18, 50, 201), (11, 193, 202), (3, 51, 203), (3, 83, 200), (3, 60, 28), (3, 69, 204), (3, 73, 205), (3, 87, 206), (3, 91, 207), (3, 76, 208), (3, 94, 209), (3, 97, 210), (3, 101, 211), (3, 104, 212), (3, 114, 213), (3, 117, 214), (3, 128, 215), (3, 120, 216), (3, 131, 217), (3, 134, 218), (3, 124, 219), (3, 80, 220), (3, 145, 221), (3, 148, 222), (18, 54, 223), (11, 197, 222), (18, 57, 224), (11, 200, 225), (11, 247, 53), (11, 203, 155), (11, 206, 226), (3, 156, 227), (3, 163, 91), (3, 167, 196), (3, 159, 170), (11, 210, 228), (4, 151, 229), (4, 167, 230), (4, 157, 231), (1, 99, 232), (1, 102, 233), (1, 105, 234), (1, 109, 235), (1, 123, 236), (1, 113, 237), (1, 116, 238), (1, 120, 239), (4, 164, 240), (7, 113, 241), (7, 116, 242), (7, 119, 243), (7, 123, 244), (7, 127, 245), (19, 495, 246), (20, 9, 247), (19, 1059, 526), (18, 60, 248), (11, 234, 200), (11, 237, 249), (0, 125, 250), (0, 145, 251), (0, 138, 252), (0, 135, 253), (0, 141, 254), (0, 149, 255), (0, 152, 256), (0, 129, 257), (0, 156, 258), (0, 160, 259), (0, 164, 260), (18, 64, 261), (18, 70, 262), (17, 15, 263), (17, 22, 264), (17, 29, 265), (17, 36, 266), (17, 43, 267), (18, 79, 268), (18, 78, 269), (18, 86, 270), (18, 90, 271), (17, 66, 272), (12, 121, 273), (17, 70, 274), (18, 93, 275), (17, 73, 276), (18, 97, 277), (17, 76, 278), (17, 79, 279), (17, 83, 280), (15, 258, 281), (15, 76, 282), (15, 95, 283), (15, 252, 284), (15, 88, 285), (15, 186, 286), (15, 189, 287), (15, 92, 288), (15, 80, 289), (15, 192, 290), (15, 98, 291), (15, 84, 292), (15, 195, 293), (15, 104, 294), (15, 198, 295), (15, 201, 296), (15, 116, 297), (15, 120, 298), (15, 129, 299), (15, 139, 300), (15, 158, 301), (15, 161, 302), (15, 145, 303), (15, 149, 304), (15, 152, 305), (15, 165, 306), (15, 169, 307), (15, 173, 308), (15, 176, 309), (15, 255, 310), (15, 228, 311), (15, 231, 312), (15, 234, 313), (15, 225, 314), (15, 237, 315), (15, 240, 316), (15, 243, 317), (15, 246, 318), (18, 101, 319), (17, 86, 320), (18, 105, 321), (17, 89, 322), (18, 109, 323), (17, 92, 324), (17, 96, 325), (18, 112, 326), (17, 97, 327), (18, 115, 328), (17, 100, 329), (18, 119, 330), (17, 196, 331), (17, 200, 332), (17, 146, 333), (17, 149, 334), (17, 150, 335), (17, 105, 336), (17, 108, 337), (17, 104, 338), (17, 153, 339), (12, 124, 340), (12, 130, 341), (12, 134, 342), (12, 110, 343), (12, 85, 344), (12, 88, 345), (12, 91, 346), (12, 71, 347), (12, 94, 348), (12, 81, 349), (12, 97, 350), (12, 101, 351), (12, 104, 352), (12, 107, 353), (12, 114, 354), (12, 40, 355), (12, 117, 356), (17, 157, 357), (17, 116, 358), (17, 117, 359), (17, 118, 360), (13, 191, 361), (13, 185, 362), (13, 172, 363), (13, 160, 364), (13, 164, 365), (13, 168, 366), (13, 176, 367), (13, 179, 368), (13, 182, 369), (13, 194, 370), (13, 198, 371), (17, 121, 372), (13, 205, 373), (13, 209, 374), (17, 124, 375), (17, 112, 376), (17, 161, 377), (17, 163, 378), (17, 131, 379), (13, 218, 380), (13, 226, 381), (13, 222, 382), (13, 230, 383), (13, 233, 384), (17, 166, 385), (17, 135, 386), (17, 136, 387), (17, 139, 388), (16, 220, 389), (16, 217, 390), (16, 134, 391), (16, 214, 392), (16, 118, 393), (16, 114, 394), (16, 105, 395), (16, 93, 396), (16, 109, 397), (16, 96, 398), (16, 99, 399), (16, 102, 400), (16, 141, 401), (16, 82, 402), (16, 86, 403), (16, 90, 404), (16, 223, 405), (16, 137, 406), (16, 130, 407), (16, 226, 408), (16, 153, 409), (16, 144, 410), (16, 147, 411), (16, 150, 412), (16, 157, 413), (16, 160, 414), (16, 232, 415), (16, 169, 416), (16, 185, 417), (16, 166, 418), (16, 192, 419), (16, 189, 420), (16, 196, 421), (16, 199, 422), (16, 175, 423), (16, 172, 424), (16, 178, 425), (16, 182, 426), (16, 235, 427), (16, 238, 428), (16, 202, 429), (16, 242, 430), (16, 210, 431), (16, 206, 432), (17, 143, 433), (17, 169, 434), (17, 172, 435), (12, 127, 436), (17, 175, 437), (17, 178, 438), (17, 181, 439), (17, 203, 440), (17, 184, 441), (17, 187, 442), (14, 44, 443), (17, 191, 444), (17, 209, 445), (17, 213, 446), (17, 206, 447), (17, 192, 448), (14, 47, 449), (14, 51, 450), (18, 123, 451), (18, 128, 452), (18, 132, 453), (17, 217, 454), (12, 138, 455), (18, 135, 456), (18, 139, 457), (18, 143, 458), (17, 219, 459), (18, 147, 460), (17, 223, 461), (14, 112, 462), (14, 115, 463), (14, 59, 464), (14, 71, 465), (14, 63, 466), (14, 55, 467), (14, 119, 468), (14, 67, 469), (14, 95, 470), (14, 91, 471), (14, 75, 472), (14, 88, 473), (14, 78, 474), (14, 98, 475), (14, 122, 476), (14, 105, 477), (14, 108, 478), (14, 102, 479), (17, 226, 480), (18, 150, 481), (17, 227, 482), (18, 153, 483), (17, 232, 484), (17, 235, 485), (14, 81, 486), (17, 238, 487), (17, 241, 488), (16, 306, 489), (16, 267, 490), (16, 270, 491), (16, 309, 492), (16, 273, 493), (16, 276, 494), (16, 257, 495), (16, 261, 496), (16, 253, 497), (16, 250, 498), (16, 264, 499), (16, 312, 500), (16, 291, 501), (16, 300, 502), (16, 294, 503), (16, 297, 504), (17, 242, 505), (18, 157, 506), (17, 251, 507), (17, 245, 508), (17, 248, 509), (17, 249, 510), (17, 255, 511), (13, 263, 512), (13, 256, 513), (13, 240, 514), (13, 243, 515), (13, 247, 516), (13, 253, 517), (13, 260, 518), (13, 236, 519), (17, 256, 520), (18, 160, 521), (17, 259, 522), (17, 260, 523), (17, 264, 524), (18, 165, 525)]
def tb_ln : List (Nat × Nat × Nat) := [(11, 9, 1), (11, 36, 5), (11, 43, 6), (11, 50, 7), (4, 11, 8), (8, 43, 4)]
def tb_ho : List (Nat × Nat × String) := [(11, 9, "LabelHouse"), (11, 36, "LabelHouse"), (11, 43, "LabelHouse"), (11, 50, "LabelHouse"), (4, 11, "LabelHouse"), (8, 43, "LabelHouse")]
def tb_lw (e : Nat × Nat × Nat) : Cond := match tb_M[e.2.2]? with
  | some d => .methodLink (tb_nm e.1) e.2.1 d.1
  | none => .tt
theorem tb_lk_ok0 : ∀ w ∈ ((tb_lk.drop 0).take 150).map tb_lw, w ∈ tb_WS := tb_mem (gs := [275, 62, 25, 4, 228, 82, 31, 82, 3, 3, 3, 3, 3, 3, 3, 0, 0, 4, 3, 3, 5, 3, 3, 2, 2, 2, 2, 51, 3, 5, 3, 3, 4, 3, 3, 3, 3, 2, 3, 3, 3, 3, 3, 3, 3, 0, 3, 3, 0, 3, 3, 3, 2, 112, 48, 54, 2, 2, 71, 3, 3, 3, 4, 2, 3, 3, 4, 3, 3, 3, 3, 4, 3, 4, 3, 1, 3, 3, 5, 3, 3, 3, 3, 3, 3, 4, 3, 3, 3, 3, 6, 14, 6, 3, 3, 4, 3, 18, 6, 6, 3, 3, 6, 3, 3, 2, 3, 0, 3, 3, 3, 3, 3, 0, 1, 3, 3, 3, 0, 3, 3, 3, 2, 3, 0, 3, 3, 3, 3, 6, 5, 3, 3, 2, 9, 3, 3, 2, 3, 0, 3, 3, 0, 11, 2, 6, 3, 2, 3, 3]) (by decide +kernel) (by decide +kernel) (by decide +kernel)
theorem tb_lk_ok1 : ∀ w ∈ ((tb_lk.drop 150).take 150).map tb_lw, w ∈ tb_WS := tb_mem (gs := [1714, 2, 2, 3, 3, 0, 3, 2, 3, 3, 3, 3, 0, 3, 0, 3, 3, 2, 0, 3, 3, 3, 2, 2, 3, 3, 3, 3, 3, 3, 3, 3, 3, 4, 3, 2, 3, 3, 3, 3, 0, 3, 4, 2, 3, 0, 0, 2, 3, 2, 0, 6, 3, 3, 6, 3, 3, 2, 3, 3, 8, 3, 3, 3, 6, 3, 3, 3, 0, 0, 2, 3, 3, 3, 3, 3, 7, 3, 3, 3, 3, 2, 3, 2, 2, 7, 3, 3, 6, 3, 3, 3, 3, 0, 0, 3, 3, 0, 0, 0, 3, 3, 5, 3, 2, 3, 3, 4, 3, 3, 3, 3, 3, 3, 2, 3, 3, 3, 2, 2, 12, 3, 0, 3, 3, 3, 3, 3, 2, 3, 2, 3, 3, 3, 5, 5, 5, 126, 61, 166, 108, 79, 3, 4, 3, 3, 3, 2, 3, 3]) (by decide +kernel) (by decide +kernel) (by decide +kernel)
theorem tb_lk_ok2 : ∀ w ∈ ((tb_lk.drop 300).take 150).map tb_lw, w ∈ tb_WS := tb_mem (gs := [2815, 3, 3, 4, 3, 3, 3, 3, 3, 2, 3, 3, 3, 2, 3, 2, 2, 3, 2, 3, 3, 3, 3, 3, 3, 4, 3, 2, 2, 2, 3, 3, 3, 3, 3, 3, 3, 3, 3, 3, 3, 3, 2, 3, 3, 3, 3, 3, 3, 3, 3, 3, 3, 3, 3, 3, 3, 3, 3, 3, 3, 3, 4, 3, 2, 3, 3, 3, 3, 4, 4, 2, 3, 3, 3, 3, 3, 3, 3, 3, 3, 3, 3, 5, 3, 3, 3, 3, 3, 3, 2, 3, 2, 3, 3, 2, 3, 2, 4, 3, 3, 3, 5, 3, 3, 3, 3, 3, 2, 3, 3, 4, 3, 3, 3, 2, 3, 4, 3, 2, 2, 2, 2, 2, 2, 3, 2, 3, 3, 3, 3, 3, 3, 3, 2, 2, 3, 3, 3, 3, 2, 3, 3, 3, 2, 2, 3, 2, 2, 2]) (by decide +kernel) (by decide +kernel) (by decide +kernel)
theorem tb_lk_ok3 : ∀ w ∈ ((tb_lk.drop 450).take 150).map tb_lw, w ∈ tb_WS := tb_mem (gs := [3394, 2, 3, 2, 3, 3, 3, 3, 3, 3, 2, 3, 3, 3, 3, 3, 3, 3, 3, 3, 3, 3, 3, 3, 3, 3, 3, 3, 3, 3, 3, 3, 3, 3, 3, 3, 3, 3, 2, 2, 2, 2, 3, 3, 3, 3, 2, 2, 2, 3, 3, 3, 3, 3, 3, 3, 3, 3, 3, 3, 3, 3, 3, 3, 3, 2, 3, 2, 3, 3, 3, 3, 2, 3, 3, 3, 3, 2, 3, 3, 3, 3, 3, 3, 3, 3, 3, 3, 3, 3, 2, 3, 3, 3, 3, 3, 3, 3, 3]) (by decide +kernel) (by decide +kernel) (by decide +kernel)
theorem tb_take {α : Type} {P : α → Prop} (n : Nat) {l : List α} (h1 : ∀ x ∈ l.take n, P x) (h2 : ∀ x ∈ l.drop n, P x) : ∀ x ∈ l, P x := by
  intro x hx
  have : x ∈ l.take n ++ l.drop n := by rw [List.take_append_drop]; exact hx
  rcases List.mem_append.mp this with h | h
  · exact h1 x h
  · exact h2 x h
theorem tb_lk_ok : ∀ x ∈ tb_lk, tb_lw x ∈ tb_WS := by
  refine tb_take 150 (fun x hx => tb_lk_ok0 _ (List.mem_map_of_mem (by simpa using hx))) ?_
  refine tb_take 150 (fun x hx => tb_lk_ok1 _ (List.mem_map_of_mem (by simpa using hx))) ?_
  refine tb_take 150 (fun x hx => tb_lk_ok2 _ (List.mem_map_of_mem (by simpa using hx))) ?_
  intro x hx
  refine tb_lk_ok3 _ (List.mem_map_of_mem ?_)
  simp only [List.drop_drop] at hx
  rw [List.take_of_length_le (by decide +kernel)]
  exact hx
def tb_cal (a b : Nat) : Option Nat := match tb_find tb_lk a b with
  | some j => some j
  | none => tb_find tb_ln a b
theorem tb_ln_3 : tb_ln.all (fun e => match tb_M[e.2.2]? with | some d => decide (d.2.2.2.2.2.1 = 3) | none => false) = true := by decide +kernel
def tb_nl : List (Nat × Nat × Nat) := [(18, 8, 11), (11, 7, 10), (11, 16, 5), (11, 25, 8), (8, 33, 5), (8, 35, 2), (11, 34, 9), (11, 41, 0), (11, 48, 4), (4, 9, 7), (4, 18, 1), (11, 55, 6), (11, 64, 3), (18, 68, 17), (17, 13, 15), (17, 20, 12), (17, 27, 13), (17, 34, 16), (17, 41, 14)]
def tb_nw (e : Nat × Nat × Nat) : Cond := .classLink (tb_nm e.1) e.2.1 (tb_nm e.2.2)
theorem tb_nl_ok : ∀ x ∈ tb_nl, tb_nw x ∈ tb_WS := tb_all (tb_mem (gs := [273, 7, 54, 25, 5, 1, 104, 32, 50, 5, 30, 82, 31, 1514, 5, 126, 61, 166, 108]) (by decide +kernel) (by decide +kernel) (by decide +kernel))
theorem tb_insq0 : ∀ w ∈ [Cond.initialized RX0, Cond.instantiable RX0 13], w ∈ tb_WS := tb_mem (gs := [242, 266]) (by decide +kernel) (by decide +kernel) (by decide +kernel)
theorem tb_ins0 : ∀ w ∈ [Cond.instantiable RX0 13, Cond.initialized RX0], w ∈ tb_WS := fun w hw => tb_insq0 w (by simp only [List.mem_cons, List.not_mem_nil, or_false] at hw ⊢; exact hw.symm.elim (fun q => by simp [q]) (fun q => by simp [q]))
theorem tb_dv0 : ∀ j, j < 13 → defaultValue (tyX0 j) = im_dv (tyX0 j) := by decide +kernel
theorem tb_insq1 : ∀ w ∈ [Cond.initialized RX1, Cond.instantiable RX1 14], w ∈ tb_WS := tb_mem (gs := [245, 351]) (by decide +kernel) (by decide +kernel) (by decide +kernel)
theorem tb_ins1 : ∀ w ∈ [Cond.instantiable RX1 14, Cond.initialized RX1], w ∈ tb_WS := fun w hw => tb_insq1 w (by simp only [List.mem_cons, List.not_mem_nil, or_false] at hw ⊢; exact hw.symm.elim (fun q => by simp [q]) (fun q => by simp [q]))
theorem tb_dv1 : ∀ j, j < 14 → defaultValue (tyX1 j) = im_dv (tyX1 j) := by decide +kernel
theorem tb_insq2 : ∀ w ∈ [Cond.initialized RX2, Cond.instantiable RX2 12], w ∈ tb_WS := tb_mem (gs := [240, 130]) (by decide +kernel) (by decide +kernel) (by decide +kernel)
theorem tb_ins2 : ∀ w ∈ [Cond.instantiable RX2 12, Cond.initialized RX2], w ∈ tb_WS := fun w hw => tb_insq2 w (by simp only [List.mem_cons, List.not_mem_nil, or_false] at hw ⊢; exact hw.symm.elim (fun q => by simp [q]) (fun q => by simp [q]))
theorem tb_dv2 : ∀ j, j < 12 → defaultValue (tyX2 j) = im_dv (tyX2 j) := by decide +kernel
theorem tb_insq3 : ∀ w ∈ [Cond.initialized RX3, Cond.instantiable RX3 11], w ∈ tb_WS := tb_mem (gs := [247, 464]) (by decide +kernel) (by decide +kernel) (by decide +kernel)
theorem tb_ins3 : ∀ w ∈ [Cond.instantiable RX3 11, Cond.initialized RX3], w ∈ tb_WS := fun w hw => tb_insq3 w (by simp only [List.mem_cons, List.not_mem_nil, or_false] at hw ⊢; exact hw.symm.elim (fun q => by simp [q]) (fun q => by simp [q]))
theorem tb_dv3 : ∀ j, j < 11 → defaultValue (tyX3 j) = im_dv (tyX3 j) := by decide +kernel
theorem tb_insq4 : ∀ w ∈ [Cond.initialized RX4, Cond.instantiable RX4 9], w ∈ tb_WS := tb_mem (gs := [243, 316]) (by decide +kernel) (by decide +kernel) (by decide +kernel)
theorem tb_ins4 : ∀ w ∈ [Cond.instantiable RX4 9, Cond.initialized RX4], w ∈ tb_WS := fun w hw => tb_insq4 w (by simp only [List.mem_cons, List.not_mem_nil, or_false] at hw ⊢; exact hw.symm.elim (fun q => by simp [q]) (fun q => by simp [q]))
theorem tb_dv4 : ∀ j, j < 9 → defaultValue (tyX4 j) = im_dv (tyX4 j) := by decide +kernel
theorem tb_insq5 : ∀ w ∈ [Cond.initialized RX5, Cond.instantiable RX5 4], w ∈ tb_WS := tb_mem (gs := [238, 98]) (by decide +kernel) (by decide +kernel) (by decide +kernel)
theorem tb_ins5 : ∀ w ∈ [Cond.instantiable RX5 4, Cond.initialized RX5], w ∈ tb_WS := fun w hw => tb_insq5 w (by simp only [List.mem_cons, List.not_mem_nil, or_false] at hw ⊢; exact hw.symm.elim (fun q => by simp [q]) (fun q => by simp [q]))
theorem tb_dv5 : ∀ j, j < 4 → defaultValue (tyX5 j) = im_dv (tyX5 j) := by decide +kernel
theorem tb_insq6 : ∀ w ∈ [Cond.initialized RX6, Cond.instantiable RX6 8], w ∈ tb_WS := tb_mem (gs := [246, 433]) (by decide +kernel) (by decide +kernel) (by decide +kernel)
theorem tb_ins6 : ∀ w ∈ [Cond.instantiable RX6 8, Cond.initialized RX6], w ∈ tb_WS := fun w hw => tb_insq6 w (by simp only [List.mem_cons, List.not_mem_nil, or_false] at hw ⊢; exact hw.symm.elim (fun q => by simp [q]) (fun q => by simp [q]))
theorem tb_dv6 : ∀ j, j < 8 → defaultValue (tyX6 j) = im_dv (tyX6 j) := by decide +kernel
theorem tb_insq7 : ∀ w ∈ [Cond.initialized RX7, Cond.instantiable RX7 7], w ∈ tb_WS := tb_mem (gs := [244, 321]) (by decide +kernel) (by decide +kernel) (by decide +kernel)
theorem tb_ins7 : ∀ w ∈ [Cond.instantiable RX7 7, Cond.initialized RX7], w ∈ tb_WS := fun w hw => tb_insq7 w (by simp only [List.mem_cons, List.not_mem_nil, or_false] at hw ⊢; exact hw.symm.elim (fun q => by simp [q]) (fun q => by simp [q]))
theorem tb_dv7 : ∀ j, j < 7 → defaultValue (tyX7 j) = im_dv (tyX7 j) := by decide +kernel
theorem tb_insq8 : ∀ w ∈ [Cond.initialized RX8, Cond.instantiable RX8 17], w ∈ tb_WS := tb_mem (gs := [239, 123]) (by decide +kernel) (by decide +kernel) (by decide +kernel)
theorem tb_ins8 : ∀ w ∈ [Cond.instantiable RX8 17, Cond.initialized RX8], w ∈ tb_WS := fun w hw => tb_insq8 w (by simp only [List.mem_cons, List.not_mem_nil, or_false] at hw ⊢; exact hw.symm.elim (fun q => by simp [q]) (fun q => by simp [q]))
theorem tb_dv8 : ∀ j, j < 17 → defaultValue (tyX8 j) = im_dv (tyX8 j) := by decide +kernel
theorem tb_insq9 : ∀ w ∈ [Cond.initialized RX9, Cond.instantiable RX9 6], w ∈ tb_WS := tb_mem (gs := [241, 234]) (by decide +kernel) (by decide +kernel) (by decide +kernel)
theorem tb_ins9 : ∀ w ∈ [Cond.instantiable RX9 6, Cond.initialized RX9], w ∈ tb_WS := fun w hw => tb_insq9 w (by simp only [List.mem_cons, List.not_mem_nil, or_false] at hw ⊢; exact hw.symm.elim (fun q => by simp [q]) (fun q => by simp [q]))
theorem tb_dv9 : ∀ j, j < 6 → defaultValue (tyX9 j) = im_dv (tyX9 j) := by decide +kernel
theorem tb_insq10 : ∀ w ∈ [Cond.initialized RX10, Cond.instantiable RX10 12], w ∈ tb_WS := tb_mem (gs := [237, 44]) (by decide +kernel) (by decide +kernel) (by decide +kernel)
theorem tb_ins10 : ∀ w ∈ [Cond.instantiable RX10 12, Cond.initialized RX10], w ∈ tb_WS := fun w hw => tb_insq10 w (by simp only [List.mem_cons, List.not_mem_nil, or_false] at hw ⊢; exact hw.symm.elim (fun q => by simp [q]) (fun q => by simp [q]))
theorem tb_dv10 : ∀ j, j < 12 → defaultValue (tyX10 j) = im_dv (tyX10 j) := by decide +kernel
theorem tb_insq11 : ∀ w ∈ [Cond.initialized RX11, Cond.instantiable RX11 13], w ∈ tb_WS := tb_mem (gs := [236, 37]) (by decide +kernel) (by decide +kernel) (by decide +kernel)
theorem tb_ins11 : ∀ w ∈ [Cond.instantiable RX11 13, Cond.initialized RX11], w ∈ tb_WS := fun w hw => tb_insq11 w (by simp only [List.mem_cons, List.not_mem_nil, or_false] at hw ⊢; exact hw.symm.elim (fun q => by simp [q]) (fun q => by simp [q]))
theorem tb_dv11 : ∀ j, j < 13 → defaultValue (tyX11 j) = im_dv (tyX11 j) := by decide +kernel
theorem tb_insq12 : ∀ w ∈ [Cond.initialized RX12, Cond.instantiable RX12 18], w ∈ tb_WS := tb_mem (gs := [250, 2109]) (by decide +kernel) (by decide +kernel) (by decide +kernel)
theorem tb_ins12 : ∀ w ∈ [Cond.instantiable RX12 18, Cond.initialized RX12], w ∈ tb_WS := fun w hw => tb_insq12 w (by simp only [List.mem_cons, List.not_mem_nil, or_false] at hw ⊢; exact hw.symm.elim (fun q => by simp [q]) (fun q => by simp [q]))
theorem tb_dv12 : ∀ j, j < 18 → defaultValue (tyX12 j) = im_dv (tyX12 j) := by decide +kernel
theorem tb_insq13 : ∀ w ∈ [Cond.initialized RX13, Cond.instantiable RX13 18], w ∈ tb_WS := tb_mem (gs := [251, 2170]) (by decide +kernel) (by decide +kernel) (by decide +kernel)
theorem tb_ins13 : ∀ w ∈ [Cond.instantiable RX13 18, Cond.initialized RX13], w ∈ tb_WS := fun w hw => tb_insq13 w (by simp only [List.mem_cons, List.not_mem_nil, or_false] at hw ⊢; exact hw.symm.elim (fun q => by simp [q]) (fun q => by simp [q]))
theorem tb_dv13 : ∀ j, j < 18 → defaultValue (tyX13 j) = im_dv (tyX13 j) := by decide +kernel
theorem tb_insq14 : ∀ w ∈ [Cond.initialized RX14, Cond.instantiable RX14 11], w ∈ tb_WS := tb_mem (gs := [253, 2444]) (by decide +kernel) (by decide +kernel) (by decide +kernel)
theorem tb_ins14 : ∀ w ∈ [Cond.instantiable RX14 11, Cond.initialized RX14], w ∈ tb_WS := fun w hw => tb_insq14 w (by simp only [List.mem_cons, List.not_mem_nil, or_false] at hw ⊢; exact hw.symm.elim (fun q => by simp [q]) (fun q => by simp [q]))
theorem tb_dv14 : ∀ j, j < 11 → defaultValue (tyX14 j) = im_dv (tyX14 j) := by decide +kernel
theorem tb_insq15 : ∀ w ∈ [Cond.initialized RX15, Cond.instantiable RX15 40], w ∈ tb_WS := tb_mem (gs := [249, 1983]) (by decide +kernel) (by decide +kernel) (by decide +kernel)
theorem tb_ins15 : ∀ w ∈ [Cond.instantiable RX15 40, Cond.initialized RX15], w ∈ tb_WS := fun w hw => tb_insq15 w (by simp only [List.mem_cons, List.not_mem_nil, or_false] at hw ⊢; exact hw.symm.elim (fun q => by simp [q]) (fun q => by simp [q]))
theorem tb_dv15 : ∀ j, j < 40 → defaultValue (tyX15 j) = im_dv (tyX15 j) := by decide +kernel
theorem tb_insq16 : ∀ w ∈ [Cond.initialized RX16, Cond.instantiable RX16 34], w ∈ tb_WS := tb_mem (gs := [252, 2336]) (by decide +kernel) (by decide +kernel) (by decide +kernel)
theorem tb_ins16 : ∀ w ∈ [Cond.instantiable RX16 34, Cond.initialized RX16], w ∈ tb_WS := fun w hw => tb_insq16 w (by simp only [List.mem_cons, List.not_mem_nil, or_false] at hw ⊢; exact hw.symm.elim (fun q => by simp [q]) (fun q => by simp [q]))
theorem tb_dv16 : ∀ j, j < 34 → defaultValue (tyX16 j) = im_dv (tyX16 j) := by decide +kernel
theorem tb_insq17 : ∀ w ∈ [Cond.initialized RX17, Cond.instantiable RX17 13], w ∈ tb_WS := tb_mem (gs := [248, 1978]) (by decide +kernel) (by decide +kernel) (by decide +kernel)
theorem tb_ins17 : ∀ w ∈ [Cond.instantiable RX17 13, Cond.initialized RX17], w ∈ tb_WS := fun w hw => tb_insq17 w (by simp only [List.mem_cons, List.not_mem_nil, or_false] at hw ⊢; exact hw.symm.elim (fun q => by simp [q]) (fun q => by simp [q]))
theorem tb_dv17 : ∀ j, j < 13 → defaultValue (tyX17 j) = im_dv (tyX17 j) := by decide +kernel
theorem tb_nl_in : tb_nl.all (fun e => decide (e.2.2 < 18)) = true := by decide +kernel
theorem tb_TN : im_TN tb_cl tb_ty tb_WS tb_nm (tb_find tb_nl) := by
  intro ow k ci h
  have hm := tb_find_mem h
  have h1 := of_decide_eq_true (List.all_eq_true.mp tb_nl_in _ hm)
  have h2 := tb_nl_ok _ hm
  simp only at h1
  match ci, h1, h2 with
  | 0, _, h2 => exact ⟨_, rfl, h2, tb_ins0 _ List.mem_cons_self, tb_ins0 _ (List.mem_cons_of_mem _ List.mem_cons_self), tb_dv0⟩
  | 1, _, h2 => exact ⟨_, rfl, h2, tb_ins1 _ List.mem_cons_self, tb_ins1 _ (List.mem_cons_of_mem _ List.mem_cons_self), tb_dv1⟩
  | 2, _, h2 => exact ⟨_, rfl, h2, tb_ins2 _ List.mem_cons_self, tb_ins2 _ (List.mem_cons_of_mem _ List.mem_cons_self), tb_dv2⟩
  | 3, _, h2 => exact ⟨_, rfl, h2, tb_ins3 _ List.mem_cons_self, tb_ins3 _ (List.mem_cons_of_mem _ List.mem_cons_self), tb_dv3⟩
  | 4, _, h2 => exact ⟨_, rfl, h2, tb_ins4 _ List.mem_cons_self, tb_ins4 _ (List.mem_cons_of_mem _ List.mem_cons_self), tb_dv4⟩
  | 5, _, h2 => exact ⟨_, rfl, h2, tb_ins5 _ List.mem_cons_self, tb_ins5 _ (List.mem_cons_of_mem _ List.mem_cons_self), tb_dv5⟩
  | 6, _, h2 => exact ⟨_, rfl, h2, tb_ins6 _ List.mem_cons_self, tb_ins6 _ (List.mem_cons_of_mem _ List.mem_cons_self), tb_dv6⟩
  | 7, _, h2 => exact ⟨_, rfl, h2, tb_ins7 _ List.mem_cons_self, tb_ins7 _ (List.mem_cons_of_mem _ List.mem_cons_self), tb_dv7⟩
  | 8, _, h2 => exact ⟨_, rfl, h2, tb_ins8 _ List.mem_cons_self, tb_ins8 _ (List.mem_cons_of_mem _ List.mem_cons_self), tb_dv8⟩
  | 9, _, h2 => exact ⟨_, rfl, h2, tb_ins9 _ List.mem_cons_self, tb_ins9 _ (List.mem_cons_of_mem _ List.mem_cons_self), tb_dv9⟩
  | 10, _, h2 => exact ⟨_, rfl, h2, tb_ins10 _ List.mem_cons_self, tb_ins10 _ (List.mem_cons_of_mem _ List.mem_cons_self), tb_dv10⟩
  | 11, _, h2 => exact ⟨_, rfl, h2, tb_ins11 _ List.mem_cons_self, tb_ins11 _ (List.mem_cons_of_mem _ List.mem_cons_self), tb_dv11⟩
  | 12, _, h2 => exact ⟨_, rfl, h2, tb_ins12 _ List.mem_cons_self, tb_ins12 _ (List.mem_cons_of_mem _ List.mem_cons_self), tb_dv12⟩
  | 13, _, h2 => exact ⟨_, rfl, h2, tb_ins13 _ List.mem_cons_self, tb_ins13 _ (List.mem_cons_of_mem _ List.mem_cons_self), tb_dv13⟩
  | 14, _, h2 => exact ⟨_, rfl, h2, tb_ins14 _ List.mem_cons_self, tb_ins14 _ (List.mem_cons_of_mem _ List.mem_cons_self), tb_dv14⟩
  | 15, _, h2 => exact ⟨_, rfl, h2, tb_ins15 _ List.mem_cons_self, tb_ins15 _ (List.mem_cons_of_mem _ List.mem_cons_self), tb_dv15⟩
  | 16, _, h2 => exact ⟨_, rfl, h2, tb_ins16 _ List.mem_cons_self, tb_ins16 _ (List.mem_cons_of_mem _ List.mem_cons_self), tb_dv16⟩
  | 17, _, h2 => exact ⟨_, rfl, h2, tb_ins17 _ List.mem_cons_self, tb_ins17 _ (List.mem_cons_of_mem _ List.mem_cons_self), tb_dv17⟩
  | n + 18, h1, _ => omega
theorem tb_TR : im_TR tb_WS := by
  have h : ∀ w ∈ [Cond.arrayClass .byte, Cond.arrayClass .int, Cond.arrayClass .long, Cond.arrayClass .short, Cond.arrayClass .boolean], w ∈ tb_WS := by
    intro w hw
    have h9 : ∀ w ∈ [Cond.arrayClass .byte, Cond.arrayClass .int, Cond.arrayClass .long, Cond.arrayClass .short, Cond.arrayClass .boolean], w ∈ tb_WS := tb_mem (gs := [334, 0, 171, 246, 0]) (by decide +kernel) (by decide +kernel) (by decide +kernel)
    exact h9 w (by simp only [List.mem_cons, List.not_mem_nil, or_false] at hw ⊢; rcases hw with q | q | q | q | q <;> simp [q])
  exact ⟨h _ (by simp), h _ (by simp), h _ (by simp), h _ (by simp), h _ (by simp)⟩
def tb_al : List (Nat × Nat × Unit) := [(22, 150, ()), (19, 212, ()), (2, 50, ()), (10, 71, ()), (5, 30, ()), (8, 178, ()), (1, 126, ())]
def tb_ol : List (Nat × Nat × Unit) := [(11, 1, ()), (10, 3, ()), (5, 1, ()), (8, 3, ()), (2, 3, ()), (9, 3, ()), (0, 3, ()), (4, 3, ()), (7, 3, ()), (1, 3, ()), (6, 3, ()), (3, 5, ()), (19, 1, ()), (17, 1, ()), (15, 1, ()), (12, 1, ()), (13, 1, ()), (16, 1, ()), (14, 1, ())]
def tb_aw (e : Nat × Nat × Unit) : Cond := .methodLink (tb_nm e.1) e.2.1 arraycopyName
theorem tb_al_ok : ∀ x ∈ tb_al, tb_aw x ∈ tb_WS := tb_all (tb_mem (gs := [1126, 46, 149, 15, 20, 14, 734]) (by decide +kernel) (by decide +kernel) (by decide +kernel))
def tb_ow (e : Nat × Nat × Unit) : Cond := .methodLink (tb_nm e.1) e.2.1 objectInit
theorem tb_ol_ok : ∀ x ∈ tb_ol, tb_ow x ∈ tb_WS := tb_all (tb_mem (gs := [278, 7, 54, 25, 7, 104, 32, 50, 5, 30, 82, 31, 497, 1016, 5, 126, 61, 166, 108]) (by decide +kernel) (by decide +kernel) (by decide +kernel))
def tb_aT (a b : Nat) : Bool := (tb_find tb_al a b).isSome
def tb_oT (a b : Nat) : Bool := (tb_find tb_ol a b).isSome
theorem tb_TA : im_TA tb_WS tb_nm tb_aT := by
  have h : ∀ w ∈ [Cond.native arraycopyName, Cond.static arraycopyName, Cond.initialized "java/lang/System"], w ∈ tb_WS := by
    intro w hw
    have h9 : ∀ w ∈ [Cond.initialized "java/lang/System", Cond.static arraycopyName, Cond.native arraycopyName], w ∈ tb_WS := tb_mem (gs := [265, 861, 0]) (by decide +kernel) (by decide +kernel) (by decide +kernel)
    exact h9 w (by simp only [List.mem_cons, List.not_mem_nil, or_false] at hw ⊢; rcases hw with q | q | q <;> simp [q])
  intro ow k hk
  obtain ⟨u, hu⟩ := Option.isSome_iff_exists.mp hk
  exact ⟨tb_al_ok _ (tb_find_mem hu), h _ (by simp), h _ (by simp), h _ (by simp)⟩
theorem tb_TO : im_TO tb_WS tb_nm tb_oT := by
  have h : ∀ w ∈ [Cond.instanceMethod objectInit, Cond.code objectInit ⟨#[0xb1]⟩ 1 none], w ∈ tb_WS := tb_mem (gs := [279, 0]) (by decide +kernel) (by decide +kernel) (by decide +kernel)
  intro ow k hk
  obtain ⟨u, hu⟩ := Option.isSome_iff_exists.mp hk
  exact ⟨tb_ol_ok _ (tb_find_mem hu), h _ (by simp), h _ (by simp)⟩
def tb_vl : List (Nat × Nat × Bool) := [(19, 9, true), (19, 15, false)]
def tb_vw (e : Nat × Nat × Bool) : Cond := if e.2.2 = true then .fieldLink (tb_nm e.1) e.2.1 "java/lang/String" "value" "[B" else .fieldLink (tb_nm e.1) e.2.1 "java/lang/String" "coder" "B"
theorem tb_vl_ok : ∀ x ∈ tb_vl, tb_vw x ∈ tb_WS := tb_all (tb_mem (gs := [1274, 0]) (by decide +kernel) (by decide +kernel) (by decide +kernel))
theorem tb_TV : im_TV tb_WS tb_nm (tb_find tb_vl) := fun ow k => ⟨fun h => tb_vl_ok _ (tb_find_mem h), fun h => tb_vl_ok _ (tb_find_mem h)⟩
