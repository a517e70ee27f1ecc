/-! THE TABLES' WORDS, and 'selects' of the private methods out of them -/
/-- words found in a list by one walk: how many are passed, then the word -/
def tb_sub : List (Nat × Cond) → List Cond → Bool
  | [], _ => true
  | q :: r, l => match l.drop q.1 with
    | [] => false
    | h :: t => decide (h = q.2) && tb_sub r t
theorem tb_sub_mem : ∀ {ps : List (Nat × Cond)} {l : List Cond}, tb_sub ps l = true → ∀ q ∈ ps, q.2 ∈ l := by
  intro ps
  induction ps with
  | nil => intro l _ q hq; cases hq
  | cons p r ih =>
    intro l h q hq
    unfold tb_sub at h
    cases hd : l.drop p.1 with
    | nil => rw [hd] at h; cases h
    | cons x t =>
      rw [hd] at h
      simp only [Bool.and_eq_true, decide_eq_true_eq] at h
      have hs : ∀ y ∈ x :: t, y ∈ l := fun y hy => List.mem_of_mem_drop (i := p.1) (by rw [hd]; exact hy)
      rcases List.mem_cons.mp hq with rfl | hq
      · exact hs _ (by rw [h.1]; exact List.mem_cons_self)
      · exact hs _ (List.mem_cons_of_mem _ (ih h.2 q hq))
theorem tb_sub_all {ws : List Cond} {gs : List Nat} {l : List Cond} (h : tb_sub (gs.zip ws) l = true) (hl : decide (ws.length ≤ gs.length) = true) : ∀ w ∈ ws, w ∈ l := by
  intro w hw
  obtain ⟨i, hi⟩ := List.getElem?_of_mem hw
  have hlt : i < ws.length := (List.getElem?_eq_some_iff.mp hi).1
  have hli : i < gs.length := Nat.lt_of_lt_of_le hlt (of_decide_eq_true hl)
  exact tb_sub_mem h (gs[i], w) (List.mem_of_getElem? (i := i) (by rw [List.getElem?_zip_eq_some]; exact ⟨List.getElem?_eq_getElem hli, hi⟩))
def lw_okq (q : MethodName × Nat) : Prop := (q.1.cls ≠ "java/lang/invoke/MethodHandle" ∧ q.1.cls ≠ "java/lang/invoke/VarHandle") ∧ Cond.instantiable q.1.cls q.2 ∈ tables_1 ∧ Cond.privateMethod q.1 ∈ tables_1 ∧ Cond.instanceMethod q.1 ∈ tables_1
def lw_privs : List (MethodName × Nat) := [(⟨"LabelHouse$Setter", "follow", "()I"⟩, 17), (⟨"LabelHouse$Setter", "canStand", "(I)Z"⟩, 17), (⟨"LabelHouse$Setter", "leaveOut", "(I)V"⟩, 17), (⟨"LabelHouse$Tape", "takeNumber", "(I)Z"⟩, 12), (⟨"LabelHouse$Setter", "inRanges", "(I)Z"⟩, 17), (⟨"LabelHouse$Tape", "takeHexPair", "()I"⟩, 12), (⟨"LabelHouse$Setter", "laterFault", "(I)I"⟩, 17), (⟨"LabelHouse$Field", "endOfPiece", "(I)I"⟩, 12), (⟨"LabelHouse$Field", "lastBlank", "(II)I"⟩, 12), (⟨"LabelHouse$Field", "addLine", "(II)V"⟩, 12), (⟨"LabelHouse$Field", "allDigits", "()Z"⟩, 12), (⟨"LabelHouse$Field", "isPicture", "()Z"⟩, 12), (⟨"LabelHouse$Field", "layLines", "(LLabelHouse$Orders;II[I)I"⟩, 12), (⟨"java/lang/Throwable", "fillInStackTrace", "(I)Ljava/lang/Throwable;"⟩, 6), (⟨"LabelHouse$Field", "layOthers", "(LLabelHouse$Orders;II[I)I"⟩, 12), (⟨"LabelHouse$Setter", "isTooMuch", "(I)Z"⟩, 17), (⟨"LabelHouse$Setter", "perform", "(I)V"⟩, 17), (⟨"LabelHouse$Setter", "beginLabel", "()V"⟩, 17), (⟨"LabelHouse$Setter", "endLabel", "()V"⟩, 17), (⟨"LabelHouse$Orders", "countOn", "(IJ)V"⟩, 4), (⟨"LabelHouse$Setter", "performOfField", "(II)V"⟩, 17), (⟨"LabelHouse$Sheet", "word", "(II)J"⟩, 6), (⟨"LabelHouse$Pen", "drawText", "(LLabelHouse$Orders;I)V"⟩, 8), (⟨"LabelHouse$Pen", "drawCellRow", "(IIIIII)V"⟩, 8), (⟨"LabelHouse$Pen", "strike", "(IIII)V"⟩, 8), (⟨"LabelHouse$Sheet", "strikeColumn", "(IIIJ)V"⟩, 6), (⟨"LabelHouse$Bars", "countFewest", "()V"⟩, 13), (⟨"LabelHouse$Bars", "fewestBySign", "(II)I"⟩, 13), (⟨"LabelHouse$Bars", "straight", "(II)I"⟩, 13), (⟨"LabelHouse$Bars", "symbolFor", "(II)I"⟩, 13), (⟨"LabelHouse$Bars", "shifted", "(II)I"⟩, 13), (⟨"LabelHouse$Bars", "chooseSymbols", "()V"⟩, 13), (⟨"LabelHouse$Bars", "leastSymbol", "(II)I"⟩, 13), (⟨"LabelHouse$Bars", "addSymbol", "(I)V"⟩, 13), (⟨"LabelHouse$Bars", "checkSymbol", "(I)I"⟩, 13), (⟨"LabelHouse$Bars", "layWidths", "()V"⟩, 13), (⟨"LabelHouse$Bars", "addWidths", "(II)V"⟩, 13), (⟨"LabelHouse$Pen", "drawBars", "(ZII)V"⟩, 8), (⟨"LabelHouse$Bars", "checkFigure", "()I"⟩, 13), (⟨"LabelHouse$Segments", "plan", "([BIII)I"⟩, 7), (⟨"LabelHouse$Segments", "leastMode", "(IIII)I"⟩, 7), (⟨"LabelHouse$Segments", "bitsBy", "(IIII)I"⟩, 7), (⟨"LabelHouse$Segments", "write", "([BIIII)V"⟩, 7), (⟨"LabelHouse$Segments", "put", "(II)V"⟩, 7), (⟨"LabelHouse$Segments", "writeBytes", "([BIII)V"⟩, 7), (⟨"LabelHouse$Blocks", "begin", "(II)V"⟩, 14), (⟨"LabelHouse$Blocks", "makeGenerator", "()V"⟩, 14), (⟨"LabelHouse$Blocks", "times", "(II)I"⟩, 14), (⟨"LabelHouse$Blocks", "sizeOf", "(I)I"⟩, 14), (⟨"LabelHouse$Blocks", "placeOf", "(II)I"⟩, 14), (⟨"LabelHouse$Blocks", "divide", "(I)V"⟩, 14), (⟨"LabelHouse$Grid", "fix", "(IIZ)V"⟩, 9), (⟨"LabelHouse$Grid", "fixSquares", "(IIII)V"⟩, 9), (⟨"LabelHouse$Grid", "fixSmallSquares", "()V"⟩, 9), (⟨"LabelHouse$Grid", "smallPlace", "(II)I"⟩, 9), (⟨"LabelHouse$Grid", "fixForm", "(II)V"⟩, 9), (⟨"LabelHouse$Grid", "formX", "(II)I"⟩, 9), (⟨"LabelHouse$Grid", "formY", "(II)I"⟩, 9), (⟨"LabelHouse$Grid", "fixVersion", "()V"⟩, 9), (⟨"LabelHouse$Grid", "carry", "(Z)V"⟩, 9), (⟨"LabelHouse$Grid", "carryBit", "(ZIII)I"⟩, 9), (⟨"LabelHouse$Grid", "bestMask", "(I)I"⟩, 9), (⟨"LabelHouse$Grid", "turnMask", "(I)V"⟩, 9), (⟨"LabelHouse$Grid", "penalty", "()I"⟩, 9), (⟨"LabelHouse$Grid", "linePenalty", "(II)I"⟩, 9), (⟨"LabelHouse$Grid", "isSquareAlike", "(I)Z"⟩, 9), (⟨"LabelHouse$Pen", "drawSquare", "(ZI)V"⟩, 8), (⟨"LabelHouse$Pen", "drawFrame", "(III)V"⟩, 8), (⟨"LabelHouse$Pen", "drawEllipse", "(III)V"⟩, 8), (⟨"LabelHouse$Pen", "drawLine", "(III)V"⟩, 8), (⟨"LabelHouse$Pen", "drawPicture", "(LLabelHouse$Orders;I)V"⟩, 8), (⟨"LabelHouse$Sheet", "rotateWord", "(III)V"⟩, 6), (⟨"LabelHouse$Finder", "addUp", "()V"⟩, 11), (⟨"LabelHouse$Finder", "lookAtCorners", "()V"⟩, 11), (⟨"LabelHouse$Finder", "darkIn", "(III)I"⟩, 11), (⟨"LabelHouse$Finder", "ringsWrong", "(II)I"⟩, 11), (⟨"LabelHouse$Finder", "lookAtAll", "(I)Z"⟩, 11), (⟨"LabelHouse$Finder", "leadsOn", "(I)Z"⟩, 11), (⟨"LabelHouse$Finder", "hasEdges", "(III)Z"⟩, 11), (⟨"LabelHouse$Finder", "edgedWrong", "(III)I"⟩, 11), (⟨"LabelHouse$Finder", "lookFrom", "(IIII)Z"⟩, 11), (⟨"LabelHouse$Finder", "lookAt", "(IIII)Z"⟩, 11), (⟨"LabelHouse$Finder", "hasShades", "(III)Z"⟩, 11), (⟨"LabelHouse$Finder", "wrongAt", "(IIIII)I"⟩, 11), (⟨"LabelHouse$Finder", "add", "(IIIII)Z"⟩, 11), (⟨"LabelHouse$Finder", "keepLeaders", "()V"⟩, 11), (⟨"LabelHouse$Finder", "haveCommonDot", "(II)Z"⟩, 11), (⟨"LabelHouse", "forgetReading", "()V"⟩, 13), (⟨"LabelHouse$Finder", "darkNow", "(III)I"⟩, 11), (⟨"LabelHouse$Grid", "formNumber", "()I"⟩, 9), (⟨"LabelHouse$Blocks", "mendWord", "(II)I"⟩, 14), (⟨"LabelHouse$Blocks", "isCodeword", "(I)Z"⟩, 14), (⟨"LabelHouse$Blocks", "findLocator", "()I"⟩, 14), (⟨"LabelHouse$Blocks", "over", "(II)I"⟩, 14), (⟨"LabelHouse$Blocks", "makeEvaluator", "()V"⟩, 14), (⟨"LabelHouse$Blocks", "valueAt", "([II)I"⟩, 14), (⟨"LabelHouse$Blocks", "slopeAt", "(I)I"⟩, 14), (⟨"LabelHouse$Segments", "take", "(I)I"⟩, 7), (⟨"LabelHouse$Segments", "unpackOne", "(II[B)I"⟩, 7), (⟨"LabelHouse$Segments", "unpackPart", "(III[B)Z"⟩, 7), (⟨"LabelHouse$Bars", "readFigures", "([B)Z"⟩, 13), (⟨"LabelHouse$Bars", "hasGuards", "()Z"⟩, 13), (⟨"LabelHouse$Bars", "sumOf", "(II)I"⟩, 13), (⟨"LabelHouse$Bars", "widthAt", "(I)I"⟩, 13), (⟨"LabelHouse$Bars", "patternAt", "(III)I"⟩, 13), (⟨"LabelHouse$Bars", "readSymbols", "([B)Z"⟩, 13), (⟨"LabelHouse$Bars", "tell", "(I[B)Z"⟩, 13), (⟨"LabelHouse$Bars", "write", "(I[B)V"⟩, 13), (⟨"LabelHouseModel$ScriptRows", "step", "()Z"⟩, 40), (⟨"LabelHouseModel$ScriptRows", "peek", "()I"⟩, 40), (⟨"LabelHouseModel$ScriptRows", "next", "()I"⟩, 40), (⟨"LabelHouseModel$ScriptRows", "test", "(I)I"⟩, 40), (⟨"LabelHouseModel$ScriptRows", "mayStand", "(I)Z"⟩, 40), (⟨"LabelHouseModel$ScriptRows", "takeNumbers", "(I)I"⟩, 40), (⟨"LabelHouseModel$ScriptRows", "preset", "(II)I"⟩, 40), (⟨"LabelHouseModel$ScriptRows", "testRanges", "(I)I"⟩, 40), (⟨"LabelHouseModel$ScriptRows", "takeData", "()I"⟩, 40), (⟨"LabelHouseModel$ScriptRows", "formSize", "()I"⟩, 40), (⟨"LabelHouseModel$ScriptRows", "tryField", "()I"⟩, 40), (⟨"LabelHouseModel$ScriptRows", "fits", "()Z"⟩, 40), (⟨"LabelHouseModel$ScriptRows", "isPlaced", "(I)Z"⟩, 40), (⟨"LabelHouseModel$ScriptRows", "lay", "()V"⟩, 40), (⟨"LabelHouseModel$ScriptRows", "makeField", "(II)V"⟩, 40), (⟨"LabelHouseModel$ScriptRows", "takeCopy", "(II)V"⟩, 40), (⟨"LabelHouseModel$ScriptRows", "give", "(IIIIIII)V"⟩, 40), (⟨"LabelHouseModel$ScriptRows", "have", "(III)V"⟩, 40), (⟨"LabelHouseModel$ScriptRows", "makeLines", "(I)V"⟩, 40), (⟨"LabelHouseModel$ScriptRows", "pieceEnd", "(II)I"⟩, 40), (⟨"LabelHouseModel$ScriptRows", "giveLine", "(IIII)V"⟩, 40), (⟨"LabelHouseModel$ScriptRows", "obey", "(I)V"⟩, 40), (⟨"LabelHouseModel$ScriptRows", "storeForm", "()V"⟩, 40), (⟨"LabelHouseModel$ScriptRows", "storeData", "(I)V"⟩, 40), (⟨"LabelHouseModel$ScriptRows", "beginLabel", "()V"⟩, 40), (⟨"LabelHouseModel$ScriptRows", "newField", "()V"⟩, 40), (⟨"LabelHouseModel$ScriptRows", "endLabel", "()V"⟩, 40), (⟨"LabelHouseModel$ScriptRows", "layForm", "()V"⟩, 40), (⟨"LabelHouseModel$ScriptRows", "set", "(I)V"⟩, 40), (⟨"LabelHouseModel", "draw", "(I)I"⟩, 13), (⟨"LabelHouseModel", "draftData", "(I)V"⟩, 13), (⟨"LabelHouseModel", "byteOf", "(II)I"⟩, 13), (⟨"LabelHouseModel", "draft", "(I)V"⟩, 13), (⟨"LabelHouseModel$DotRows", "at", "(IIIII)V"⟩, 18), (⟨"LabelHouseModel$DotRows", "draw", "(I)I"⟩, 18), (⟨"LabelHouseModel$DotRows", "belongs", "(III)Z"⟩, 18), (⟨"LabelHouseModel$DotRows", "inFrame", "(II)Z"⟩, 18), (⟨"LabelHouseModel$DotRows", "inLine", "(II)Z"⟩, 18), (⟨"LabelHouseModel$DotRows", "inEllipse", "(II)Z"⟩, 18), (⟨"LabelHouseModel$DotRows", "inPicture", "(II)Z"⟩, 18), (⟨"LabelHouseModel$DotRows", "bit", "(I)Z"⟩, 18), (⟨"LabelHouseModel$DotRows", "along", "(II)I"⟩, 18), (⟨"LabelHouseModel$DotRows", "across", "(II)I"⟩, 18), (⟨"LabelHouseModel$DotRows", "inText", "(II)Z"⟩, 18), (⟨"LabelHouseModel$DotRows", "inSquare", "(II)Z"⟩, 18), (⟨"LabelHouseModel$DotRows", "isDark", "(II)Z"⟩, 18), (⟨"LabelHouseModel$DotRows", "isOn", "(II)Z"⟩, 18), (⟨"LabelHouseModel$DotRows", "other", "(II)V"⟩, 18), (⟨"LabelHouseModel", "draftRow", "(I)Z"⟩, 13), (⟨"LabelHouseModel$LineRows", "relax", "()V"⟩, 18), (⟨"LabelHouseModel$LineRows", "with", "(III)I"⟩, 18), (⟨"LabelHouseModel$LineRows", "tells", "(III)I"⟩, 18), (⟨"LabelHouseModel$LineRows", "at", "(I)I"⟩, 18), (⟨"LabelHouseModel$LineRows", "isPair", "(II)Z"⟩, 18), (⟨"LabelHouseModel$LineRows", "leastAt", "(II)I"⟩, 18), (⟨"LabelHouseModel$LineRows", "isOther", "(II)Z"⟩, 18), (⟨"LabelHouseModel$LineRows", "add", "(I)V"⟩, 18), (⟨"LabelHouseModel$LineRows", "lay", "(III)V"⟩, 18), (⟨"LabelHouseModel", "draftWidths", "()V"⟩, 13), (⟨"LabelHouseModel", "draftThirteen", "(I)V"⟩, 13), (⟨"LabelHouseModel$LineRows", "isTurned", "(II)Z"⟩, 18), (⟨"LabelHouseModel", "draftSymbol", "(I)I"⟩, 13), (⟨"LabelHouseModel$SquareRows", "versionFor", "(II)I"⟩, 34), (⟨"LabelHouseModel$SquareRows", "fits", "(II)Z"⟩, 34), (⟨"LabelHouseModel$SquareRows", "divide", "(I)V"⟩, 34), (⟨"LabelHouseModel$SquareRows", "least", "(III)I"⟩, 34), (⟨"LabelHouseModel$SquareRows", "restOf", "(IIII)I"⟩, 34), (⟨"LabelHouseModel$SquareRows", "holds", "(II)I"⟩, 34), (⟨"LabelHouseModel$SquareRows", "checkOf", "(II)I"⟩, 34), (⟨"LabelHouseModel$SquareRows", "blocksOf", "(II)I"⟩, 34), (⟨"LabelHouseModel$SquareRows", "layAll", "(II)V"⟩, 34), (⟨"LabelHouseModel$SquareRows", "laySegment", "(III)V"⟩, 34), (⟨"LabelHouseModel$SquareRows", "lay", "(II)V"⟩, 34), (⟨"LabelHouseModel$SquareRows", "check", "(II)V"⟩, 34), (⟨"LabelHouseModel$SquareRows", "generate", "(I)V"⟩, 34), (⟨"LabelHouseModel$SquareRows", "shareOf", "(III)I"⟩, 34), (⟨"LabelHouseModel$SquareRows", "startOf", "(III)I"⟩, 34), (⟨"LabelHouseModel$SquareRows", "placeOf", "(IIII)I"⟩, 34), (⟨"LabelHouseModel$SquareRows", "frame", "(I)V"⟩, 34), (⟨"LabelHouseModel$SquareRows", "fix", "(IIZ)V"⟩, 34), (⟨"LabelHouseModel$SquareRows", "moduleAt", "(II)I"⟩, 34), (⟨"LabelHouseModel$SquareRows", "square", "(IIIZ)V"⟩, 34), (⟨"LabelHouseModel$SquareRows", "layForm", "(I)V"⟩, 34), (⟨"LabelHouseModel$SquareRows", "goThrough", "(IZI)V"⟩, 34), (⟨"LabelHouseModel$SquareRows", "penalty", "()I"⟩, 34), (⟨"LabelHouseModel$SquareRows", "lines", "(Z)I"⟩, 34), (⟨"LabelHouseModel$SquareRows", "module", "(IIZ)I"⟩, 34), (⟨"LabelHouseModel", "follow", "()V"⟩, 13), (⟨"LabelHouseModel$PlaceRows", "forget", "()V"⟩, 11), (⟨"LabelHouseModel", "row", "(II)J"⟩, 13), (⟨"LabelHouseModel", "isOn", "(JJ)Z"⟩, 13), (⟨"LabelHouseModel", "isDark", "(II)Z"⟩, 13), (⟨"LabelHouseModel$PlaceRows", "isOn", "(JJ)Z"⟩, 11), (⟨"LabelHouseModel$PlaceRows", "isDark", "(II)Z"⟩, 11), (⟨"LabelHouseModel$DotRows", "turnOnce", "()V"⟩, 18), (⟨"LabelHouseModel$PlaceRows", "add", "()V"⟩, 11), (⟨"LabelHouseModel$PlaceRows", "list", "(I)V"⟩, 11), (⟨"LabelHouseModel$PlaceRows", "look", "(III)Z"⟩, 11), (⟨"LabelHouseModel$PlaceRows", "isPlace", "(III)Z"⟩, 11), (⟨"LabelHouseModel$PlaceRows", "wrong", "(IIIIII)I"⟩, 11), (⟨"LabelHouseModel$PlaceRows", "darkIn", "(IIIIII)I"⟩, 11), (⟨"LabelHouseModel$PlaceRows", "enter", "(IIIIII)V"⟩, 11), (⟨"LabelHouseModel$PlaceRows", "order", "()V"⟩, 11), (⟨"LabelHouseModel$PlaceRows", "isBefore", "(II)Z"⟩, 11), (⟨"LabelHouseModel$PlaceRows", "leads", "(I)Z"⟩, 11), (⟨"LabelHouseModel$PlaceRows", "meet", "(II)Z"⟩, 11), (⟨"LabelHouseModel$PlaceRows", "differ", "(IIIZZ)I"⟩, 11), (⟨"LabelHouseModel$SquareRows", "formNumberRead", "()I"⟩, 34), (⟨"LabelHouseModel$SquareRows", "formBits", "(Z)I"⟩, 34), (⟨"LabelHouseModel$SquareRows", "allBlocks", "(II)I"⟩, 34), (⟨"LabelHouseModel$SquareRows", "correct", "(III)I"⟩, 34), (⟨"LabelHouseModel$SquareRows", "isZero", "([III)Z"⟩, 34), (⟨"LabelHouseModel$SquareRows", "finds", "(II)Z"⟩, 34), (⟨"LabelHouseModel$SquareRows", "solves", "(I)Z"⟩, 34), (⟨"LabelHouseModel$SquareRows", "mends", "(II)Z"⟩, 34), (⟨"LabelHouseModel$SquareRows", "segments", "(I)V"⟩, 34), (⟨"LabelHouseModel$SquareRows", "next", "(I)I"⟩, 34), (⟨"LabelHouseModel$SquareRows", "group", "(II)V"⟩, 34), (⟨"LabelHouseModel$SquareRows", "take", "(I)V"⟩, 34), (⟨"LabelHouseModel", "strip", "(IIIZ)V"⟩, 13), (⟨"LabelHouseModel$LineRows", "isSome", "()Z"⟩, 18), (⟨"LabelHouseModel$LineRows", "isThirteen", "()Z"⟩, 18), (⟨"LabelHouseModel$LineRows", "sumOf", "(II)I"⟩, 18), (⟨"LabelHouseModel$LineRows", "counts", "(IIII)I"⟩, 18), (⟨"LabelHouseModel$LineRows", "tell", "(I)V"⟩, 18), (⟨"LabelHouseModel$LineRows", "isRow", "(I)Z"⟩, 18), (⟨"LabelHouseModel$LineRows", "reverse", "([I[I)V"⟩, 18)]
def lw_pcls : List (String × Nat) := [("LabelHouse", 13), ("LabelHouse$Tape", 12), ("LabelHouse$Orders", 4), ("LabelHouse$Setter", 17), ("LabelHouse$Field", 12), ("LabelHouse$Sheet", 6), ("LabelHouse$Bars", 13), ("LabelHouse$Grid", 9), ("LabelHouse$Segments", 7), ("LabelHouse$Blocks", 14), ("LabelHouse$Pen", 8), ("LabelHouse$Finder", 11), ("java/lang/Throwable", 6), ("LabelHouseModel", 13), ("LabelHouseModel$ScriptRows", 40), ("LabelHouseModel$DotRows", 18), ("LabelHouseModel$LineRows", 18), ("LabelHouseModel$SquareRows", 34), ("LabelHouseModel$PlaceRows", 11)]
theorem lw_pi : ∀ w ∈ lw_pcls.map (fun q => Cond.instantiable q.1 q.2), w ∈ tables_1 := tb_sub_all (gs := [39, 7, 54, 25, 7, 104, 32, 50, 5, 30, 82, 31, 341, 1172, 5, 126, 61, 166, 108]) (by decide +kernel) (by decide +kernel)
theorem lw_pp : ∀ w ∈ lw_privs.map (fun q => Cond.privateMethod q.1), w ∈ tables_1 := tb_sub_all (gs := [592, 90, 3, 9, 12, 7, 6, 11, 3, 3, 8, 3, 8, 49, 267, 7, 3, 8, 11, 12, 14, 46, 117, 7, 3, 10, 7, 4, 3, 3, 6, 4, 3, 3, 3, 3, 6, 5, 10, 20, 4, 8, 21, 6, 3, 14, 4, 6, 3, 3, 3, 9, 3, 7, 3, 3, 9, 3, 3, 3, 3, 19, 4, 6, 3, 3, 3, 4, 3, 7, 16, 14, 61, 8, 3, 3, 3, 3, 3, 7, 3, 3, 3, 6, 9, 7, 3, 22, 9, 10, 16, 3, 3, 4, 3, 3, 3, 7, 6, 3, 35, 3, 3, 3, 6, 6, 3, 3, 619, 3, 3, 3, 6, 3, 3, 6, 9, 6, 3, 3, 3, 3, 3, 3, 4, 12, 3, 3, 3, 3, 3, 3, 3, 3, 3, 3, 3, 58, 11, 3, 3, 15, 3, 3, 3, 3, 4, 7, 3, 3, 3, 3, 3, 3, 3, 3, 3, 17, 3, 3, 3, 3, 6, 6, 3, 13, 4, 11, 21, 6, 16, 3, 6, 3, 4, 21, 6, 3, 3, 3, 3, 3, 3, 9, 3, 3, 3, 6, 3, 3, 9, 18, 6, 3, 3, 30, 11, 3, 3, 3, 11, 3, 19, 27, 3, 15, 3, 3, 3, 12, 3, 3, 3, 3, 27, 11, 3, 6, 6, 3, 3, 3, 6, 3, 3, 3, 6, 11, 19, 3, 3, 3, 6, 3, 3]) (by decide +kernel) (by decide +kernel)
theorem lw_pm : ∀ w ∈ lw_privs.map (fun q => Cond.instanceMethod q.1), w ∈ tables_1 := tb_sub_all (gs := [593, 90, 3, 9, 12, 7, 6, 11, 3, 3, 8, 3, 8, 49, 267, 7, 3, 8, 11, 12, 14, 46, 117, 7, 3, 10, 7, 4, 3, 3, 6, 4, 3, 3, 3, 3, 6, 5, 10, 20, 4, 8, 21, 6, 3, 14, 4, 6, 3, 3, 3, 9, 3, 7, 3, 3, 9, 3, 3, 3, 3, 19, 4, 6, 3, 3, 3, 4, 3, 7, 16, 14, 61, 8, 3, 3, 3, 3, 3, 7, 3, 3, 3, 6, 9, 7, 3, 22, 9, 10, 16, 3, 3, 4, 3, 3, 3, 7, 6, 3, 35, 3, 3, 3, 6, 6, 3, 3, 619, 3, 3, 3, 6, 3, 3, 6, 9, 6, 3, 3, 3, 3, 3, 3, 4, 12, 3, 3, 3, 3, 3, 3, 3, 3, 3, 3, 3, 58, 11, 3, 3, 15, 3, 3, 3, 3, 4, 7, 3, 3, 3, 3, 3, 3, 3, 3, 3, 17, 3, 3, 3, 3, 6, 6, 3, 13, 4, 11, 21, 6, 16, 3, 6, 3, 4, 21, 6, 3, 3, 3, 3, 3, 3, 9, 3, 3, 3, 6, 3, 3, 9, 18, 6, 3, 3, 30, 11, 3, 3, 3, 11, 3, 19, 27, 3, 15, 3, 3, 3, 12, 3, 3, 3, 3, 27, 11, 3, 6, 6, 3, 3, 3, 6, 3, 3, 3, 6, 11, 19, 3, 3, 3, 6, 3, 3]) (by decide +kernel) (by decide +kernel)
theorem lw_pc : lw_privs.all (fun q => decide (q.1.cls ≠ "java/lang/invoke/MethodHandle") && decide (q.1.cls ≠ "java/lang/invoke/VarHandle") && lw_pcls.any (fun c => decide (c.1 = q.1.cls) && decide (c.2 = q.2))) = true := by decide +kernel
theorem lw_privs_ok : ∀ q ∈ lw_privs, lw_okq q := by
  intro q hq
  have h := List.all_eq_true.mp lw_pc q hq
  simp only [Bool.and_eq_true, decide_eq_true_eq, List.any_eq_true] at h
  obtain ⟨⟨h1, h2⟩, c, hc, h3, h4⟩ := h
  refine ⟨⟨h1, h2⟩, ?_, lw_pp _ (List.mem_map_of_mem hq), lw_pm _ (List.mem_map_of_mem hq)⟩
  rw [← h3, ← h4]
  exact lw_pi _ (List.mem_map_of_mem hc)
def lw_tbl : List Cond := k2_sels lw_privs ++ tables_1
/-! THE TABLES OF THIS CLAIM -/
def RX0 : String := "LabelHouse$Bars"
def TX0 : u_T := fun k => match k with
  | 0 => ("LabelHouse$Bars", "runs", "[I", true)
  | 1 => ("LabelHouse$Bars", "widths", "[I", true)
  | 2 => ("LabelHouse$Bars", "widthCount", "I", false)
  | 3 => ("LabelHouse$Bars", "ofFigures", "Z", false)
  | 4 => ("LabelHouse$Bars", "fromBack", "Z", false)
  | 5 => ("LabelHouse$Bars", "signs", "[I", true)
  | 6 => ("LabelHouse$Bars", "signCount", "I", false)
  | 7 => ("LabelHouse$Bars", "fewest", "[I", true)
  | 8 => ("LabelHouse$Bars", "symbols", "[I", true)
  | 9 => ("LabelHouse$Bars", "symbolCount", "I", false)
  | 10 => ("LabelHouse$Bars", "figures", "[I", true)
  | 11 => ("LabelHouse$Bars", "length", "I", false)
  | _ => ("LabelHouse$Bars", "written", "I", false)
def tyX0 : Nat → FieldType := fun k => match k with
  | 0 => .array .int
  | 1 => .array .int
  | 2 => .int
  | 3 => .boolean
  | 4 => .boolean
  | 5 => .array .int
  | 6 => .int
  | 7 => .array .int
  | 8 => .array .int
  | 9 => .int
  | 10 => .array .int
  | 11 => .int
  | _ => .int
abbrev wsX00 : List Cond := u_ws RX0 TX0 13
theorem nmX0 : ∀ a, a < 13 → ∀ b, b < 13 → a ≠ b → (TX0 a).2.1 ≠ (TX0 b).2.1 := by decide +kernel
theorem tyX0_ok : ∀ k, k < 13 → parseFieldDescriptor (TX0 k).2.2.1 = some (tyX0 k) := by decide +kernel
def RX1 : String := "LabelHouse$Blocks"
def TX1 : u_T := fun k => match k with
  | 0 => ("LabelHouse$Blocks", "codewords", "[B", true)
  | 1 => ("LabelHouse$Blocks", "powers", "[I", true)
  | 2 => ("LabelHouse$Blocks", "logs", "[I", true)
  | 3 => ("LabelHouse$Blocks", "generator", "[I", true)
  | 4 => ("LabelHouse$Blocks", "word", "[I", true)
  | 5 => ("LabelHouse$Blocks", "syndromes", "[I", true)
  | 6 => ("LabelHouse$Blocks", "locator", "[I", true)
  | 7 => ("LabelHouse$Blocks", "former", "[I", true)
  | 8 => ("LabelHouse$Blocks", "saved", "[I", true)
  | 9 => ("LabelHouse$Blocks", "evaluator", "[I", true)
  | 10 => ("LabelHouse$Blocks", "held", "I", false)
  | 11 => ("LabelHouse$Blocks", "count", "I", false)
  | 12 => ("LabelHouse$Blocks", "checks", "I", false)
  | _ => ("LabelHouse$Blocks", "total", "I", false)
def tyX1 : Nat → FieldType := fun k => match k with
  | 0 => .array .byte
  | 1 => .array .int
  | 2 => .array .int
  | 3 => .array .int
  | 4 => .array .int
  | 5 => .array .int
  | 6 => .array .int
  | 7 => .array .int
  | 8 => .array .int
  | 9 => .array .int
  | 10 => .int
  | 11 => .int
  | 12 => .int
  | _ => .int
abbrev wsX10 : List Cond := u_ws RX1 TX1 14
theorem nmX1 : ∀ a, a < 14 → ∀ b, b < 14 → a ≠ b → (TX1 a).2.1 ≠ (TX1 b).2.1 := by decide +kernel
theorem tyX1_ok : ∀ k, k < 14 → parseFieldDescriptor (TX1 k).2.2.1 = some (tyX1 k) := by decide +kernel
def RX2 : String := "LabelHouse$Field"
def TX2 : u_T := fun k => match k with
  | 0 => ("LabelHouse$Field", "originX", "I", false)
  | 1 => ("LabelHouse$Field", "originY", "I", false)
  | 2 => ("LabelHouse$Field", "kind", "I", false)
  | 3 => ("LabelHouse$Field", "numbers", "[I", true)
  | 4 => ("LabelHouse$Field", "over", "Z", false)
  | 5 => ("LabelHouse$Field", "counts", "Z", false)
  | 6 => ("LabelHouse$Field", "step", "I", false)
  | 7 => ("LabelHouse$Field", "bytes", "[B", true)
  | 8 => ("LabelHouse$Field", "size", "I", false)
  | 9 => ("LabelHouse$Field", "lines", "I", false)
  | 10 => ("LabelHouse$Field", "lineFrom", "[I", true)
  | _ => ("LabelHouse$Field", "lineSize", "[I", true)
def tyX2 : Nat → FieldType := fun k => match k with
  | 0 => .int
  | 1 => .int
  | 2 => .int
  | 3 => .array .int
  | 4 => .boolean
  | 5 => .boolean
  | 6 => .int
  | 7 => .array .byte
  | 8 => .int
  | 9 => .int
  | 10 => .array .int
  | _ => .array .int
abbrev wsX20 : List Cond := u_ws RX2 TX2 12
theorem nmX2 : ∀ a, a < 12 → ∀ b, b < 12 → a ≠ b → (TX2 a).2.1 ≠ (TX2 b).2.1 := by decide +kernel
theorem tyX2_ok : ∀ k, k < 12 → parseFieldDescriptor (TX2 k).2.2.1 = some (tyX2 k) := by decide +kernel
def RX3 : String := "LabelHouse$Finder"
def TX3 : u_T := fun k => match k with
  | 0 => ("LabelHouse$Finder", "leaders", "I", false)
  | 1 => ("LabelHouse$Finder", "sheet", "LLabelHouse$Sheet;", true)
  | 2 => ("LabelHouse$Finder", "sums", "[I", true)
  | 3 => ("LabelHouse$Finder", "cornerWrong", "[S", true)
  | 4 => ("LabelHouse$Finder", "keys", "[J", true)
  | 5 => ("LabelHouse$Finder", "wrongs", "[I", true)
  | 6 => ("LabelHouse$Finder", "leads", "[Z", true)
  | 7 => ("LabelHouse$Finder", "corners", "[I", true)
  | 8 => ("LabelHouse$Finder", "places", "I", false)
  | 9 => ("LabelHouse$Finder", "m", "I", false)
  | _ => ("LabelHouse$Finder", "limit", "I", false)
def tyX3 : Nat → FieldType := fun k => match k with
  | 0 => .int
  | 1 => .object "LabelHouse$Sheet"
  | 2 => .array .int
  | 3 => .array .short
  | 4 => .array .long
  | 5 => .array .int
  | 6 => .array .boolean
  | 7 => .array .int
  | 8 => .int
  | 9 => .int
  | _ => .int
abbrev wsX30 : List Cond := u_ws RX3 TX3 11
theorem nmX3 : ∀ a, a < 11 → ∀ b, b < 11 → a ≠ b → (TX3 a).2.1 ≠ (TX3 b).2.1 := by decide +kernel
theorem tyX3_ok : ∀ k, k < 11 → parseFieldDescriptor (TX3 k).2.2.1 = some (tyX3 k) := by decide +kernel
def RX4 : String := "LabelHouse$Grid"
def TX4 : u_T := fun k => match k with
  | 0 => ("LabelHouse$Grid", "segments", "LLabelHouse$Segments;", true)
  | 1 => ("LabelHouse$Grid", "side", "I", false)
  | 2 => ("LabelHouse$Grid", "level", "I", false)
  | 3 => ("LabelHouse$Grid", "mask", "I", false)
  | 4 => ("LabelHouse$Grid", "mended", "I", false)
  | 5 => ("LabelHouse$Grid", "blocks", "LLabelHouse$Blocks;", true)
  | 6 => ("LabelHouse$Grid", "version", "I", false)
  | 7 => ("LabelHouse$Grid", "modules", "[B", true)
  | _ => ("LabelHouse$Grid", "fixed", "[B", true)
def tyX4 : Nat → FieldType := fun k => match k with
  | 0 => .object "LabelHouse$Segments"
  | 1 => .int
  | 2 => .int
  | 3 => .int
  | 4 => .int
  | 5 => .object "LabelHouse$Blocks"
  | 6 => .int
  | 7 => .array .byte
  | _ => .array .byte
abbrev wsX40 : List Cond := u_ws RX4 TX4 9
theorem nmX4 : ∀ a, a < 9 → ∀ b, b < 9 → a ≠ b → (TX4 a).2.1 ≠ (TX4 b).2.1 := by decide +kernel
theorem tyX4_ok : ∀ k, k < 9 → parseFieldDescriptor (TX4 k).2.2.1 = some (tyX4 k) := by decide +kernel
def RX5 : String := "LabelHouse$Orders"
def TX5 : u_T := fun k => match k with
  | 0 => ("LabelHouse$Orders", "rows", "[I", true)
  | 1 => ("LabelHouse$Orders", "bytes", "[B", true)
  | 2 => ("LabelHouse$Orders", "counted", "[B", true)
  | _ => ("LabelHouse$Orders", "count", "I", false)
def tyX5 : Nat → FieldType := fun k => match k with
  | 0 => .array .int
  | 1 => .array .byte
  | 2 => .array .byte
  | _ => .int
abbrev wsX50 : List Cond := u_ws RX5 TX5 4
theorem nmX5 : ∀ a, a < 4 → ∀ b, b < 4 → a ≠ b → (TX5 a).2.1 ≠ (TX5 b).2.1 := by decide +kernel
theorem tyX5_ok : ∀ k, k < 4 → parseFieldDescriptor (TX5 k).2.2.1 = some (tyX5 k) := by decide +kernel
def RX6 : String := "LabelHouse$Pen"
def TX6 : u_T := fun k => match k with
  | 0 => ("LabelHouse$Pen", "sheet", "LLabelHouse$Sheet;", true)
  | 1 => ("LabelHouse$Pen", "strips", "LLabelHouse$Bars;", true)
  | 2 => ("LabelHouse$Pen", "grid", "LLabelHouse$Grid;", true)
  | 3 => ("LabelHouse$Pen", "sizes", "[I", true)
  | 4 => ("LabelHouse$Pen", "cells", "[I", true)
  | 5 => ("LabelHouse$Pen", "x", "I", false)
  | 6 => ("LabelHouse$Pen", "y", "I", false)
  | _ => ("LabelHouse$Pen", "quarter", "I", false)
def tyX6 : Nat → FieldType := fun k => match k with
  | 0 => .object "LabelHouse$Sheet"
  | 1 => .object "LabelHouse$Bars"
  | 2 => .object "LabelHouse$Grid"
  | 3 => .array .int
  | 4 => .array .int
  | 5 => .int
  | 6 => .int
  | _ => .int
abbrev wsX60 : List Cond := u_ws RX6 TX6 8
theorem nmX6 : ∀ a, a < 8 → ∀ b, b < 8 → a ≠ b → (TX6 a).2.1 ≠ (TX6 b).2.1 := by decide +kernel
theorem tyX6_ok : ∀ k, k < 8 → parseFieldDescriptor (TX6 k).2.2.1 = some (tyX6 k) := by decide +kernel
def RX7 : String := "LabelHouse$Segments"
def TX7 : u_T := fun k => match k with
  | 0 => ("LabelHouse$Segments", "bytes", "[B", true)
  | 1 => ("LabelHouse$Segments", "count", "I", false)
  | 2 => ("LabelHouse$Segments", "size", "I", false)
  | 3 => ("LabelHouse$Segments", "fewest", "[I", true)
  | 4 => ("LabelHouse$Segments", "modes", "[B", true)
  | 5 => ("LabelHouse$Segments", "bit", "I", false)
  | _ => ("LabelHouse$Segments", "bits", "I", false)
def tyX7 : Nat → FieldType := fun k => match k with
  | 0 => .array .byte
  | 1 => .int
  | 2 => .int
  | 3 => .array .int
  | 4 => .array .byte
  | 5 => .int
  | _ => .int
abbrev wsX70 : List Cond := u_ws RX7 TX7 7
theorem nmX7 : ∀ a, a < 7 → ∀ b, b < 7 → a ≠ b → (TX7 a).2.1 ≠ (TX7 b).2.1 := by decide +kernel
theorem tyX7_ok : ∀ k, k < 7 → parseFieldDescriptor (TX7 k).2.2.1 = some (tyX7 k) := by decide +kernel
def RX8 : String := "LabelHouse$Setter"
def TX8 : u_T := fun k => match k with
  | 0 => ("LabelHouse$Setter", "tape", "LLabelHouse$Tape;", true)
  | 1 => ("LabelHouse$Setter", "all", "LLabelHouse$Orders;", true)
  | 2 => ("LabelHouse$Setter", "draft", "LLabelHouse$Orders;", true)
  | 3 => ("LabelHouse$Setter", "field", "LLabelHouse$Field;", true)
  | 4 => ("LabelHouse$Setter", "labels", "I", false)
  | 5 => ("LabelHouse$Setter", "labelRows", "[I", true)
  | 6 => ("LabelHouse$Setter", "metFault", "I", false)
  | 7 => ("LabelHouse$Setter", "metPlace", "I", false)
  | 8 => ("LabelHouse$Setter", "inLabel", "Z", false)
  | 9 => ("LabelHouse$Setter", "commands", "I", false)
  | 10 => ("LabelHouse$Setter", "width", "I", false)
  | 11 => ("LabelHouse$Setter", "height", "I", false)
  | 12 => ("LabelHouse$Setter", "copies", "I", false)
  | 13 => ("LabelHouse$Setter", "home", "[I", true)
  | 14 => ("LabelHouse$Setter", "texts", "[I", true)
  | 15 => ("LabelHouse$Setter", "formEnd", "I", false)
  | _ => ("LabelHouse$Setter", "made", "I", false)
def tyX8 : Nat → FieldType := fun k => match k with
  | 0 => .object "LabelHouse$Tape"
  | 1 => .object "LabelHouse$Orders"
  | 2 => .object "LabelHouse$Orders"
  | 3 => .object "LabelHouse$Field"
  | 4 => .int
  | 5 => .array .int
  | 6 => .int
  | 7 => .int
  | 8 => .boolean
  | 9 => .int
  | 10 => .int
  | 11 => .int
  | 12 => .int
  | 13 => .array .int
  | 14 => .array .int
  | 15 => .int
  | _ => .int
abbrev wsX80 : List Cond := u_ws RX8 TX8 17
theorem nmX8 : ∀ a, a < 17 → ∀ b, b < 17 → a ≠ b → (TX8 a).2.1 ≠ (TX8 b).2.1 := by decide +kernel
theorem tyX8_ok : ∀ k, k < 17 → parseFieldDescriptor (TX8 k).2.2.1 = some (tyX8 k) := by decide +kernel
def RX9 : String := "LabelHouse$Sheet"
def TX9 : u_T := fun k => match k with
  | 0 => ("LabelHouse$Sheet", "width", "I", false)
  | 1 => ("LabelHouse$Sheet", "height", "I", false)
  | 2 => ("LabelHouse$Sheet", "over", "Z", false)
  | 3 => ("LabelHouse$Sheet", "struck", "I", false)
  | 4 => ("LabelHouse$Sheet", "words", "[J", false)
  | _ => ("LabelHouse$Sheet", "spare", "[J", false)
def tyX9 : Nat → FieldType := fun k => match k with
  | 0 => .int
  | 1 => .int
  | 2 => .boolean
  | 3 => .int
  | 4 => .array .long
  | _ => .array .long
abbrev wsX90 : List Cond := u_ws RX9 TX9 6
theorem nmX9 : ∀ a, a < 6 → ∀ b, b < 6 → a ≠ b → (TX9 a).2.1 ≠ (TX9 b).2.1 := by decide +kernel
theorem tyX9_ok : ∀ k, k < 6 → parseFieldDescriptor (TX9 k).2.2.1 = some (tyX9 k) := by decide +kernel
def RX10 : String := "LabelHouse$Tape"
def TX10 : u_T := fun k => match k with
  | 0 => ("LabelHouse$Tape", "bytes", "[B", true)
  | 1 => ("LabelHouse$Tape", "size", "I", false)
  | 2 => ("LabelHouse$Tape", "forms", "[B", true)
  | 3 => ("LabelHouse$Tape", "formSizes", "[I", true)
  | 4 => ("LabelHouse$Tape", "variables", "[B", true)
  | 5 => ("LabelHouse$Tape", "variableSizes", "[I", true)
  | 6 => ("LabelHouse$Tape", "depth", "I", false)
  | 7 => ("LabelHouse$Tape", "open", "[I", true)
  | 8 => ("LabelHouse$Tape", "at", "[I", true)
  | 9 => ("LabelHouse$Tape", "numbers", "[I", true)
  | 10 => ("LabelHouse$Tape", "data", "[B", true)
  | _ => ("LabelHouse$Tape", "dataSize", "I", false)
def tyX10 : Nat → FieldType := fun k => match k with
  | 0 => .array .byte
  | 1 => .int
  | 2 => .array .byte
  | 3 => .array .int
  | 4 => .array .byte
  | 5 => .array .int
  | 6 => .int
  | 7 => .array .int
  | 8 => .array .int
  | 9 => .array .int
  | 10 => .array .byte
  | _ => .int
abbrev wsX100 : List Cond := u_ws RX10 TX10 12
theorem nmX10 : ∀ a, a < 12 → ∀ b, b < 12 → a ≠ b → (TX10 a).2.1 ≠ (TX10 b).2.1 := by decide +kernel
theorem tyX10_ok : ∀ k, k < 12 → parseFieldDescriptor (TX10 k).2.2.1 = some (tyX10 k) := by decide +kernel
def RX11 : String := "LabelHouse"
def TX11 : u_T := fun k => match k with
  | 0 => ("LabelHouse", "tape", "LLabelHouse$Tape;", true)
  | 1 => ("LabelHouse", "orders", "LLabelHouse$Orders;", true)
  | 2 => ("LabelHouse", "setter", "LLabelHouse$Setter;", true)
  | 3 => ("LabelHouse", "sheet", "LLabelHouse$Sheet;", true)
  | 4 => ("LabelHouse", "pen", "LLabelHouse$Pen;", true)
  | 5 => ("LabelHouse", "strips", "LLabelHouse$Bars;", true)
  | 6 => ("LabelHouse", "grid", "LLabelHouse$Grid;", true)
  | 7 => ("LabelHouse", "finder", "LLabelHouse$Finder;", true)
  | 8 => ("LabelHouse", "drawnDots", "[I", true)
  | 9 => ("LabelHouse", "drawnOrders", "I", false)
  | 10 => ("LabelHouse", "lastRead", "[I", true)
  | 11 => ("LabelHouse", "readBytes", "[B", true)
  | _ => ("LabelHouse", "readSize", "I", false)
def tyX11 : Nat → FieldType := fun k => match k with
  | 0 => .object "LabelHouse$Tape"
  | 1 => .object "LabelHouse$Orders"
  | 2 => .object "LabelHouse$Setter"
  | 3 => .object "LabelHouse$Sheet"
  | 4 => .object "LabelHouse$Pen"
  | 5 => .object "LabelHouse$Bars"
  | 6 => .object "LabelHouse$Grid"
  | 7 => .object "LabelHouse$Finder"
  | 8 => .array .int
  | 9 => .int
  | 10 => .array .int
  | 11 => .array .byte
  | _ => .int
abbrev wsX110 : List Cond := u_ws RX11 TX11 13
theorem nmX11 : ∀ a, a < 13 → ∀ b, b < 13 → a ≠ b → (TX11 a).2.1 ≠ (TX11 b).2.1 := by decide +kernel
theorem tyX11_ok : ∀ k, k < 13 → parseFieldDescriptor (TX11 k).2.2.1 = some (tyX11 k) := by decide +kernel
def RX12 : String := "LabelHouseModel$DotRows"
def TX12 : u_T := fun k => match k with
  | 0 => ("LabelHouseModel$DotRows", "thrown", "I", false)
  | 1 => ("LabelHouseModel$DotRows", "width", "I", false)
  | 2 => ("LabelHouseModel$DotRows", "height", "I", false)
  | 3 => ("LabelHouseModel$DotRows", "way", "I", false)
  | 4 => ("LabelHouseModel$DotRows", "dark", "[I", true)
  | 5 => ("LabelHouseModel$DotRows", "before", "[I", true)
  | 6 => ("LabelHouseModel$DotRows", "draft", "[I", true)
  | 7 => ("LabelHouseModel$DotRows", "drafted", "I", false)
  | 8 => ("LabelHouseModel$DotRows", "sizes", "[I", true)
  | 9 => ("LabelHouseModel$DotRows", "cells", "[I", true)
  | 10 => ("LabelHouseModel$DotRows", "fx", "I", false)
  | 11 => ("LabelHouseModel$DotRows", "fy", "I", false)
  | 12 => ("LabelHouseModel$DotRows", "fa", "I", false)
  | 13 => ("LabelHouseModel$DotRows", "fb", "I", false)
  | 14 => ("LabelHouseModel$DotRows", "fc", "I", false)
  | 15 => ("LabelHouseModel$DotRows", "quarter", "I", false)
  | 16 => ("LabelHouseModel$DotRows", "font", "I", false)
  | _ => ("LabelHouseModel$DotRows", "columns", "[Z", true)
def tyX12 : Nat → FieldType := fun k => match k with
  | 0 => .int
  | 1 => .int
  | 2 => .int
  | 3 => .int
  | 4 => .array .int
  | 5 => .array .int
  | 6 => .array .int
  | 7 => .int
  | 8 => .array .int
  | 9 => .array .int
  | 10 => .int
  | 11 => .int
  | 12 => .int
  | 13 => .int
  | 14 => .int
  | 15 => .int
  | 16 => .int
  | _ => .array .boolean
abbrev wsX120 : List Cond := u_ws RX12 TX12 18
theorem nmX12 : ∀ a, a < 18 → ∀ b, b < 18 → a ≠ b → (TX12 a).2.1 ≠ (TX12 b).2.1 := by decide +kernel
theorem tyX12_ok : ∀ k, k < 18 → parseFieldDescriptor (TX12 k).2.2.1 = some (tyX12 k) := by decide +kernel
def RX13 : String := "LabelHouseModel$LineRows"
def TX13 : u_T := fun k => match k with
  | 0 => ("LabelHouseModel$LineRows", "bars", "[I", true)
  | 1 => ("LabelHouseModel$LineRows", "figures", "[I", true)
  | 2 => ("LabelHouseModel$LineRows", "turns", "[I", true)
  | 3 => ("LabelHouseModel$LineRows", "thrown", "I", false)
  | 4 => ("LabelHouseModel$LineRows", "text", "[I", true)
  | 5 => ("LabelHouseModel$LineRows", "length", "I", false)
  | 6 => ("LabelHouseModel$LineRows", "least", "[I", true)
  | 7 => ("LabelHouseModel$LineRows", "row", "[I", true)
  | 8 => ("LabelHouseModel$LineRows", "symbols", "I", false)
  | 9 => ("LabelHouseModel$LineRows", "strip", "[I", true)
  | 10 => ("LabelHouseModel$LineRows", "widths", "I", false)
  | 11 => ("LabelHouseModel$LineRows", "turned", "[I", true)
  | 12 => ("LabelHouseModel$LineRows", "found", "[I", true)
  | 13 => ("LabelHouseModel$LineRows", "signs", "[I", true)
  | 14 => ("LabelHouseModel$LineRows", "told", "I", false)
  | 15 => ("LabelHouseModel$LineRows", "back", "Z", false)
  | 16 => ("LabelHouseModel$LineRows", "draft", "[I", true)
  | _ => ("LabelHouseModel$LineRows", "drafted", "I", false)
def tyX13 : Nat → FieldType := fun k => match k with
  | 0 => .array .int
  | 1 => .array .int
  | 2 => .array .int
  | 3 => .int
  | 4 => .array .int
  | 5 => .int
  | 6 => .array .int
  | 7 => .array .int
  | 8 => .int
  | 9 => .array .int
  | 10 => .int
  | 11 => .array .int
  | 12 => .array .int
  | 13 => .array .int
  | 14 => .int
  | 15 => .boolean
  | 16 => .array .int
  | _ => .int
abbrev wsX130 : List Cond := u_ws RX13 TX13 18
theorem nmX13 : ∀ a, a < 18 → ∀ b, b < 18 → a ≠ b → (TX13 a).2.1 ≠ (TX13 b).2.1 := by decide +kernel
theorem tyX13_ok : ∀ k, k < 18 → parseFieldDescriptor (TX13 k).2.2.1 = some (tyX13 k) := by decide +kernel
def RX14 : String := "LabelHouseModel$PlaceRows"
def TX14 : u_T := fun k => match k with
  | 0 => ("LabelHouseModel$PlaceRows", "thrown", "I", false)
  | 1 => ("LabelHouseModel$PlaceRows", "width", "I", false)
  | 2 => ("LabelHouseModel$PlaceRows", "height", "I", false)
  | 3 => ("LabelHouseModel$PlaceRows", "dark", "[Z", true)
  | 4 => ("LabelHouseModel$PlaceRows", "sums", "[I", true)
  | 5 => ("LabelHouseModel$PlaceRows", "runs", "[I", true)
  | 6 => ("LabelHouseModel$PlaceRows", "runsOf", "I", false)
  | 7 => ("LabelHouseModel$PlaceRows", "stand", "[I", true)
  | 8 => ("LabelHouseModel$PlaceRows", "stood", "I", false)
  | 9 => ("LabelHouseModel$PlaceRows", "found", "[I", true)
  | _ => ("LabelHouseModel$PlaceRows", "many", "I", false)
def tyX14 : Nat → FieldType := fun k => match k with
  | 0 => .int
  | 1 => .int
  | 2 => .int
  | 3 => .array .boolean
  | 4 => .array .int
  | 5 => .array .int
  | 6 => .int
  | 7 => .array .int
  | 8 => .int
  | 9 => .array .int
  | _ => .int
abbrev wsX140 : List Cond := u_ws RX14 TX14 11
theorem nmX14 : ∀ a, a < 11 → ∀ b, b < 11 → a ≠ b → (TX14 a).2.1 ≠ (TX14 b).2.1 := by decide +kernel
theorem tyX14_ok : ∀ k, k < 11 → parseFieldDescriptor (TX14 k).2.2.1 = some (tyX14 k) := by decide +kernel
def RX15 : String := "LabelHouseModel$ScriptRows"
def TX15 : u_T := fun k => match k with
  | 0 => ("LabelHouseModel$ScriptRows", "thrown", "I", false)
  | 1 => ("LabelHouseModel$ScriptRows", "text", "[I", true)
  | 2 => ("LabelHouseModel$ScriptRows", "length", "I", false)
  | 3 => ("LabelHouseModel$ScriptRows", "forms", "[I", true)
  | 4 => ("LabelHouseModel$ScriptRows", "formSizes", "[I", true)
  | 5 => ("LabelHouseModel$ScriptRows", "variables", "[I", true)
  | 6 => ("LabelHouseModel$ScriptRows", "variableSizes", "[I", true)
  | 7 => ("LabelHouseModel$ScriptRows", "pending", "[I", true)
  | 8 => ("LabelHouseModel$ScriptRows", "left", "I", false)
  | 9 => ("LabelHouseModel$ScriptRows", "depth", "I", false)
  | 10 => ("LabelHouseModel$ScriptRows", "outer", "I", false)
  | 11 => ("LabelHouseModel$ScriptRows", "commands", "I", false)
  | 12 => ("LabelHouseModel$ScriptRows", "at", "I", false)
  | 13 => ("LabelHouseModel$ScriptRows", "fault", "I", false)
  | 14 => ("LabelHouseModel$ScriptRows", "place", "I", false)
  | 15 => ("LabelHouseModel$ScriptRows", "number", "[I", true)
  | 16 => ("LabelHouseModel$ScriptRows", "some", "[I", true)
  | 17 => ("LabelHouseModel$ScriptRows", "someSize", "I", false)
  | 18 => ("LabelHouseModel$ScriptRows", "inside", "Z", false)
  | 19 => ("LabelHouseModel$ScriptRows", "wide", "I", false)
  | 20 => ("LabelHouseModel$ScriptRows", "high", "I", false)
  | 21 => ("LabelHouseModel$ScriptRows", "copies", "I", false)
  | 22 => ("LabelHouseModel$ScriptRows", "homeX", "I", false)
  | 23 => ("LabelHouseModel$ScriptRows", "homeY", "I", false)
  | 24 => ("LabelHouseModel$ScriptRows", "texts", "[I", true)
  | 25 => ("LabelHouseModel$ScriptRows", "fields", "I", false)
  | 26 => ("LabelHouseModel$ScriptRows", "made", "I", false)
  | 27 => ("LabelHouseModel$ScriptRows", "field", "[I", true)
  | 28 => ("LabelHouseModel$ScriptRows", "told", "[I", true)
  | 29 => ("LabelHouseModel$ScriptRows", "fieldData", "[I", true)
  | 30 => ("LabelHouseModel$ScriptRows", "toldData", "[I", true)
  | 31 => ("LabelHouseModel$ScriptRows", "copy", "[I", true)
  | 32 => ("LabelHouseModel$ScriptRows", "wrong", "Z", false)
  | 33 => ("LabelHouseModel$ScriptRows", "keeping", "Z", false)
  | 34 => ("LabelHouseModel$ScriptRows", "fresh", "I", false)
  | 35 => ("LabelHouseModel$ScriptRows", "labels", "I", false)
  | 36 => ("LabelHouseModel$ScriptRows", "label", "[I", true)
  | 37 => ("LabelHouseModel$ScriptRows", "orders", "I", false)
  | 38 => ("LabelHouseModel$ScriptRows", "order", "[I", true)
  | _ => ("LabelHouseModel$ScriptRows", "orderData", "[I", true)
def tyX15 : Nat → FieldType := fun k => match k with
  | 0 => .int
  | 1 => .array .int
  | 2 => .int
  | 3 => .array .int
  | 4 => .array .int
  | 5 => .array .int
  | 6 => .array .int
  | 7 => .array .int
  | 8 => .int
  | 9 => .int
  | 10 => .int
  | 11 => .int
  | 12 => .int
  | 13 => .int
  | 14 => .int
  | 15 => .array .int
  | 16 => .array .int
  | 17 => .int
  | 18 => .boolean
  | 19 => .int
  | 20 => .int
  | 21 => .int
  | 22 => .int
  | 23 => .int
  | 24 => .array .int
  | 25 => .int
  | 26 => .int
  | 27 => .array .int
  | 28 => .array .int
  | 29 => .array .int
  | 30 => .array .int
  | 31 => .array .int
  | 32 => .boolean
  | 33 => .boolean
  | 34 => .int
  | 35 => .int
  | 36 => .array .int
  | 37 => .int
  | 38 => .array .int
  | _ => .array .int
abbrev wsX150 : List Cond := u_ws RX15 TX15 40
theorem nmX15 : ∀ a, a < 40 → ∀ b, b < 40 → a ≠ b → (TX15 a).2.1 ≠ (TX15 b).2.1 := by decide +kernel
theorem tyX15_ok : ∀ k, k < 40 → parseFieldDescriptor (TX15 k).2.2.1 = some (tyX15 k) := by decide +kernel
def RX16 : String := "LabelHouseModel$SquareRows"
def TX16 : u_T := fun k => match k with
  | 0 => ("LabelHouseModel$SquareRows", "thrown", "I", false)
  | 1 => ("LabelHouseModel$SquareRows", "checkBytes", "[I", true)
  | 2 => ("LabelHouseModel$SquareRows", "blocks", "[I", true)
  | 3 => ("LabelHouseModel$SquareRows", "data", "[I", true)
  | 4 => ("LabelHouseModel$SquareRows", "length", "I", false)
  | 5 => ("LabelHouseModel$SquareRows", "modules", "[I", true)
  | 6 => ("LabelHouseModel$SquareRows", "fixed", "[I", true)
  | 7 => ("LabelHouseModel$SquareRows", "version", "I", false)
  | 8 => ("LabelHouseModel$SquareRows", "side", "I", false)
  | 9 => ("LabelHouseModel$SquareRows", "made", "Z", false)
  | 10 => ("LabelHouseModel$SquareRows", "tells", "[I", true)
  | 11 => ("LabelHouseModel$SquareRows", "segmentModes", "[I", true)
  | 12 => ("LabelHouseModel$SquareRows", "segmentLengths", "[I", true)
  | 13 => ("LabelHouseModel$SquareRows", "segments", "I", false)
  | 14 => ("LabelHouseModel$SquareRows", "modes", "[I", true)
  | 15 => ("LabelHouseModel$SquareRows", "takes", "[I", true)
  | 16 => ("LabelHouseModel$SquareRows", "bits", "I", false)
  | 17 => ("LabelHouseModel$SquareRows", "bytes", "[I", true)
  | 18 => ("LabelHouseModel$SquareRows", "words", "[I", true)
  | 19 => ("LabelHouseModel$SquareRows", "filled", "I", false)
  | 20 => ("LabelHouseModel$SquareRows", "block", "[I", true)
  | 21 => ("LabelHouseModel$SquareRows", "tried", "[I", true)
  | 22 => ("LabelHouseModel$SquareRows", "values", "[I", true)
  | 23 => ("LabelHouseModel$SquareRows", "system", "[I", true)
  | 24 => ("LabelHouseModel$SquareRows", "solved", "[I", true)
  | 25 => ("LabelHouseModel$SquareRows", "places", "[I", true)
  | 26 => ("LabelHouseModel$SquareRows", "generator", "[I", true)
  | 27 => ("LabelHouseModel$SquareRows", "readBytes", "[I", true)
  | 28 => ("LabelHouseModel$SquareRows", "readLength", "I", false)
  | 29 => ("LabelHouseModel$SquareRows", "at", "I", false)
  | 30 => ("LabelHouseModel$SquareRows", "all", "I", false)
  | 31 => ("LabelHouseModel$SquareRows", "fault", "I", false)
  | 32 => ("LabelHouseModel$SquareRows", "good", "Z", false)
  | _ => ("LabelHouseModel$SquareRows", "readings", "[I", true)
def tyX16 : Nat → FieldType := fun k => match k with
  | 0 => .int
  | 1 => .array .int
  | 2 => .array .int
  | 3 => .array .int
  | 4 => .int
  | 5 => .array .int
  | 6 => .array .int
  | 7 => .int
  | 8 => .int
  | 9 => .boolean
  | 10 => .array .int
  | 11 => .array .int
  | 12 => .array .int
  | 13 => .int
  | 14 => .array .int
  | 15 => .array .int
  | 16 => .int
  | 17 => .array .int
  | 18 => .array .int
  | 19 => .int
  | 20 => .array .int
  | 21 => .array .int
  | 22 => .array .int
  | 23 => .array .int
  | 24 => .array .int
  | 25 => .array .int
  | 26 => .array .int
  | 27 => .array .int
  | 28 => .int
  | 29 => .int
  | 30 => .int
  | 31 => .int
  | 32 => .boolean
  | _ => .array .int
abbrev wsX160 : List Cond := u_ws RX16 TX16 34
theorem nmX16 : ∀ a, a < 34 → ∀ b, b < 34 → a ≠ b → (TX16 a).2.1 ≠ (TX16 b).2.1 := by decide +kernel
theorem tyX16_ok : ∀ k, k < 34 → parseFieldDescriptor (TX16 k).2.2.1 = some (tyX16 k) := by decide +kernel
def RX17 : String := "LabelHouseModel"
def TX17 : u_T := fun k => match k with
  | 0 => ("LabelHouseModel", "thrown", "I", false)
  | 1 => ("LabelHouseModel", "tape", "[I", true)
  | 2 => ("LabelHouseModel", "length", "I", false)
  | 3 => ("LabelHouseModel", "script", "LLabelHouseModel$ScriptRows;", true)
  | 4 => ("LabelHouseModel", "dots", "LLabelHouseModel$DotRows;", true)
  | 5 => ("LabelHouseModel", "lines", "LLabelHouseModel$LineRows;", true)
  | 6 => ("LabelHouseModel", "squares", "LLabelHouseModel$SquareRows;", true)
  | 7 => ("LabelHouseModel", "places", "LLabelHouseModel$PlaceRows;", true)
  | 8 => ("LabelHouseModel", "drawn", "[I", true)
  | 9 => ("LabelHouseModel", "orders", "I", false)
  | 10 => ("LabelHouseModel", "kind", "I", false)
  | 11 => ("LabelHouseModel", "bytes", "[I", true)
  | _ => ("LabelHouseModel", "many", "I", false)
def tyX17 : Nat → FieldType := fun k => match k with
  | 0 => .int
  | 1 => .array .int
  | 2 => .int
  | 3 => .object "LabelHouseModel$ScriptRows"
  | 4 => .object "LabelHouseModel$DotRows"
  | 5 => .object "LabelHouseModel$LineRows"
  | 6 => .object "LabelHouseModel$SquareRows"
  | 7 => .object "LabelHouseModel$PlaceRows"
  | 8 => .array .int
  | 9 => .int
  | 10 => .int
  | 11 => .array .int
  | _ => .int
abbrev wsX170 : List Cond := u_ws RX17 TX17 13
theorem nmX17 : ∀ a, a < 13 → ∀ b, b < 13 → a ≠ b → (TX17 a).2.1 ≠ (TX17 b).2.1 := by decide +kernel
theorem tyX17_ok : ∀ k, k < 13 → parseFieldDescriptor (TX17 k).2.2.1 = some (tyX17 k) := by decide +kernel
def tb_WS : List Cond := lw_tbl.filter goodWord
theorem tb_mem {ws : List Cond} {gs : List Nat} (h : tb_sub (gs.zip ws) lw_tbl = true) (hg : ws.all goodWord = true) (hl : decide (ws.length ≤ gs.length) = true) : ∀ w ∈ ws, w ∈ tb_WS := fun w hw => List.mem_filter.mpr ⟨tb_sub_all h hl w hw, List.all_eq_true.mp hg w hw⟩
theorem tb_good : ∀ w ∈ tb_WS, goodWord w = true := fun w hw => (List.mem_filter.mp hw).2
def tb_cl : List vw_C := [(RX0, TX0, 13), (RX1, TX1, 14), (RX2, TX2, 12), (RX3, TX3, 11), (RX4, TX4, 9), (RX5, TX5, 4), (RX6, TX6, 8), (RX7, TX7, 7), (RX8, TX8, 17), (RX9, TX9, 6), (RX10, TX10, 12), (RX11, TX11, 13), (RX12, TX12, 18), (RX13, TX13, 18), (RX14, TX14, 11), (RX15, TX15, 40), (RX16, TX16, 34), (RX17, TX17, 13)]
def tb_ty (c : Nat) : Nat → FieldType := match c with
  | 0 => tyX0
  | 1 => tyX1
  | 2 => tyX2
  | 3 => tyX3
  | 4 => tyX4
  | 5 => tyX5
  | 6 => tyX6
  | 7 => tyX7
  | 8 => tyX8
  | 9 => tyX9
  | 10 => tyX10
  | 11 => tyX11
  | 12 => tyX12
  | 13 => tyX13
  | 14 => tyX14
  | 15 => tyX15
  | 16 => tyX16
  | 17 => tyX17
  | _ => fun _ => .int
def tb_nm (c : Nat) : String := match c with
  | 0 => "LabelHouse$Bars"
  | 1 => "LabelHouse$Blocks"
  | 2 => "LabelHouse$Field"
  | 3 => "LabelHouse$Finder"
  | 4 => "LabelHouse$Grid"
  | 5 => "LabelHouse$Orders"
  | 6 => "LabelHouse$Pen"
  | 7 => "LabelHouse$Segments"
  | 8 => "LabelHouse$Setter"
  | 9 => "LabelHouse$Sheet"
  | 10 => "LabelHouse$Tape"
  | 11 => "LabelHouse"
  | 12 => "LabelHouseModel$DotRows"
  | 13 => "LabelHouseModel$LineRows"
  | 14 => "LabelHouseModel$PlaceRows"
  | 15 => "LabelHouseModel$ScriptRows"
  | 16 => "LabelHouseModel$SquareRows"
  | 17 => "LabelHouseModel"
  | 18 => "LabelHouseLaw"
  | 19 => "java/lang/String"
  | 20 => "java/lang/StringLatin1"
  | 21 => "java/lang/Math"
  | 22 => "java/util/Arrays"
  | 23 => "java/lang/Integer"
  | 24 => "java/lang/Long"
  | 25 => "java/lang/System"
  | 26 => "java/lang/Object"
  | 27 => "jdk/internal/util/Preconditions"
  | _ => ""
theorem tb_lay0s : ∀ w ∈ [0, 1, 2, 3, 4, 5, 6, 7, 8, 9, 10, 11, 12].map (u_lay RX0 TX0), w ∈ tb_WS := tb_mem (gs := [532, 1, 1, 1, 1, 1, 1, 1, 1, 1, 1, 1, 1]) (by decide +kernel) (by decide +kernel) (by decide +kernel)
theorem tb_lay0 : ∀ w ∈ u_ws RX0 TX0 13, w ∈ tb_WS := fun w hw => by
  obtain ⟨k, hk, rfl⟩ := List.mem_map.mp hw
  exact tb_lay0s _ (List.mem_map_of_mem ((by decide : ∀ k, k < 13 → k ∈ [0, 1, 2, 3, 4, 5, 6, 7, 8, 9, 10, 11, 12]) k (List.mem_range.mp hk)))
theorem tb_lay1s : ∀ w ∈ [0, 1, 2, 3, 4, 5, 6, 7, 8, 9, 10, 11, 12, 13].map (u_lay RX1 TX1), w ∈ tb_WS := tb_mem (gs := [616, 1, 1, 1, 1, 1, 1, 1, 1, 1, 1, 1, 1, 1]) (by decide +kernel) (by decide +kernel) (by decide +kernel)
theorem tb_lay1 : ∀ w ∈ u_ws RX1 TX1 14, w ∈ tb_WS := fun w hw => by
  obtain ⟨k, hk, rfl⟩ := List.mem_map.mp hw
  exact tb_lay1s _ (List.mem_map_of_mem ((by decide : ∀ k, k < 14 → k ∈ [0, 1, 2, 3, 4, 5, 6, 7, 8, 9, 10, 11, 12, 13]) k (List.mem_range.mp hk)))
theorem tb_lay2s : ∀ w ∈ [0, 1, 2, 3, 4, 5, 6, 7, 8, 9, 10, 11].map (u_lay RX2 TX2), w ∈ tb_WS := tb_mem (gs := [394, 1, 1, 1, 1, 1, 1, 1, 1, 1, 1, 1]) (by decide +kernel) (by decide +kernel) (by decide +kernel)
theorem tb_lay2 : ∀ w ∈ u_ws RX2 TX2 12, w ∈ tb_WS := fun w hw => by
  obtain ⟨k, hk, rfl⟩ := List.mem_map.mp hw
  exact tb_lay2s _ (List.mem_map_of_mem ((by decide : ∀ k, k < 12 → k ∈ [0, 1, 2, 3, 4, 5, 6, 7, 8, 9, 10, 11]) k (List.mem_range.mp hk)))
theorem tb_lay3s : ∀ w ∈ [0, 1, 2, 3, 4, 5, 6, 7, 8, 9, 10].map (u_lay RX3 TX3), w ∈ tb_WS := tb_mem (gs := [731, 1, 1, 1, 1, 1, 1, 1, 1, 1, 1]) (by decide +kernel) (by decide +kernel) (by decide +kernel)
theorem tb_lay3 : ∀ w ∈ u_ws RX3 TX3 11, w ∈ tb_WS := fun w hw => by
  obtain ⟨k, hk, rfl⟩ := List.mem_map.mp hw
  exact tb_lay3s _ (List.mem_map_of_mem ((by decide : ∀ k, k < 11 → k ∈ [0, 1, 2, 3, 4, 5, 6, 7, 8, 9, 10]) k (List.mem_range.mp hk)))
theorem tb_lay4s : ∀ w ∈ [0, 1, 2, 3, 4, 5, 6, 7, 8].map (u_lay RX4 TX4), w ∈ tb_WS := tb_mem (gs := [660, 1, 1, 1, 1, 1, 1, 1, 1]) (by decide +kernel) (by decide +kernel) (by decide +kernel)
theorem tb_lay4 : ∀ w ∈ u_ws RX4 TX4 9, w ∈ tb_WS := fun w hw => by
  obtain ⟨k, hk, rfl⟩ := List.mem_map.mp hw
  exact tb_lay4s _ (List.mem_map_of_mem ((by decide : ∀ k, k < 9 → k ∈ [0, 1, 2, 3, 4, 5, 6, 7, 8]) k (List.mem_range.mp hk)))
theorem tb_lay5s : ∀ w ∈ [0, 1, 2, 3].map (u_lay RX5 TX5), w ∈ tb_WS := tb_mem (gs := [353, 1, 1, 1]) (by decide +kernel) (by decide +kernel) (by decide +kernel)
theorem tb_lay5 : ∀ w ∈ u_ws RX5 TX5 4, w ∈ tb_WS := fun w hw => by
  obtain ⟨k, hk, rfl⟩ := List.mem_map.mp hw
  exact tb_lay5s _ (List.mem_map_of_mem ((by decide : ∀ k, k < 4 → k ∈ [0, 1, 2, 3]) k (List.mem_range.mp hk)))
theorem tb_lay6s : ∀ w ∈ [0, 1, 2, 3, 4, 5, 6, 7].map (u_lay RX6 TX6), w ∈ tb_WS := tb_mem (gs := [694, 1, 1, 1, 1, 1, 1, 1]) (by decide +kernel) (by decide +kernel) (by decide +kernel)
theorem tb_lay6 : ∀ w ∈ u_ws RX6 TX6 8, w ∈ tb_WS := fun w hw => by
  obtain ⟨k, hk, rfl⟩ := List.mem_map.mp hw
  exact tb_lay6s _ (List.mem_map_of_mem ((by decide : ∀ k, k < 8 → k ∈ [0, 1, 2, 3, 4, 5, 6, 7]) k (List.mem_range.mp hk)))
theorem tb_lay7s : ∀ w ∈ [0, 1, 2, 3, 4, 5, 6].map (u_lay RX7 TX7), w ∈ tb_WS := tb_mem (gs := [581, 1, 1, 1, 1, 1, 1]) (by decide +kernel) (by decide +kernel) (by decide +kernel)
theorem tb_lay7 : ∀ w ∈ u_ws RX7 TX7 7, w ∈ tb_WS := fun w hw => by
  obtain ⟨k, hk, rfl⟩ := List.mem_map.mp hw
  exact tb_lay7s _ (List.mem_map_of_mem ((by decide : ∀ k, k < 7 → k ∈ [0, 1, 2, 3, 4, 5, 6]) k (List.mem_range.mp hk)))
theorem tb_lay8s : ∀ w ∈ [0, 1, 2, 3, 4, 5, 6, 7, 8, 9, 10, 11, 12, 13, 14, 15, 16].map (u_lay RX8 TX8), w ∈ tb_WS := tb_mem (gs := [440, 1, 1, 1, 1, 1, 1, 1, 1, 1, 1, 1, 1, 1, 1, 1, 1]) (by decide +kernel) (by decide +kernel) (by decide +kernel)
theorem tb_lay8 : ∀ w ∈ u_ws RX8 TX8 17, w ∈ tb_WS := fun w hw => by
  obtain ⟨k, hk, rfl⟩ := List.mem_map.mp hw
  exact tb_lay8s _ (List.mem_map_of_mem ((by decide : ∀ k, k < 17 → k ∈ [0, 1, 2, 3, 4, 5, 6, 7, 8, 9, 10, 11, 12, 13, 14, 15, 16]) k (List.mem_range.mp hk)))
theorem tb_lay9s : ∀ w ∈ [0, 1, 2, 3, 4, 5].map (u_lay RX9 TX9), w ∈ tb_WS := tb_mem (gs := [494, 1, 1, 1, 1, 1]) (by decide +kernel) (by decide +kernel) (by decide +kernel)
theorem tb_lay9 : ∀ w ∈ u_ws RX9 TX9 6, w ∈ tb_WS := fun w hw => by
  obtain ⟨k, hk, rfl⟩ := List.mem_map.mp hw
  exact tb_lay9s _ (List.mem_map_of_mem ((by decide : ∀ k, k < 6 → k ∈ [0, 1, 2, 3, 4, 5]) k (List.mem_range.mp hk)))
theorem tb_lay10s : ∀ w ∈ [0, 1, 2, 3, 4, 5, 6, 7, 8, 9, 10, 11].map (u_lay RX10 TX10), w ∈ tb_WS := tb_mem (gs := [309, 1, 1, 1, 1, 1, 1, 1, 1, 1, 1, 1]) (by decide +kernel) (by decide +kernel) (by decide +kernel)
theorem tb_lay10 : ∀ w ∈ u_ws RX10 TX10 12, w ∈ tb_WS := fun w hw => by
  obtain ⟨k, hk, rfl⟩ := List.mem_map.mp hw
  exact tb_lay10s _ (List.mem_map_of_mem ((by decide : ∀ k, k < 12 → k ∈ [0, 1, 2, 3, 4, 5, 6, 7, 8, 9, 10, 11]) k (List.mem_range.mp hk)))
theorem tb_lay11s : ∀ w ∈ [0, 1, 2, 3, 4, 5, 6, 7, 8, 9, 10, 11, 12].map (u_lay RX11 TX11), w ∈ tb_WS := tb_mem (gs := [769, 1, 1, 1, 1, 1, 1, 1, 1, 1, 1, 1, 1]) (by decide +kernel) (by decide +kernel) (by decide +kernel)
theorem tb_lay11 : ∀ w ∈ u_ws RX11 TX11 13, w ∈ tb_WS := fun w hw => by
  obtain ⟨k, hk, rfl⟩ := List.mem_map.mp hw
  exact tb_lay11s _ (List.mem_map_of_mem ((by decide : ∀ k, k < 13 → k ∈ [0, 1, 2, 3, 4, 5, 6, 7, 8, 9, 10, 11, 12]) k (List.mem_range.mp hk)))
theorem tb_lay12s : ∀ w ∈ [0, 1, 2, 3, 4, 5, 6, 7, 8, 9, 10, 11, 12, 13, 14, 15, 16, 17].map (u_lay RX12 TX12), w ∈ tb_WS := tb_mem (gs := [2384, 1, 1, 1, 1, 1, 1, 1, 1, 1, 1, 1, 1, 1, 1, 1, 1, 1]) (by decide +kernel) (by decide +kernel) (by decide +kernel)
theorem tb_lay12 : ∀ w ∈ u_ws RX12 TX12 18, w ∈ tb_WS := fun w hw => by
  obtain ⟨k, hk, rfl⟩ := List.mem_map.mp hw
  exact tb_lay12s _ (List.mem_map_of_mem ((by decide : ∀ k, k < 18 → k ∈ [0, 1, 2, 3, 4, 5, 6, 7, 8, 9, 10, 11, 12, 13, 14, 15, 16, 17]) k (List.mem_range.mp hk)))
theorem tb_lay13s : ∀ w ∈ [0, 1, 2, 3, 4, 5, 6, 7, 8, 9, 10, 11, 12, 13, 14, 15, 16, 17].map (u_lay RX13 TX13), w ∈ tb_WS := tb_mem (gs := [2551, 1, 1, 1, 1, 1, 1, 1, 1, 1, 1, 1, 1, 1, 1, 1, 1, 1]) (by decide +kernel) (by decide +kernel) (by decide +kernel)
theorem tb_lay13 : ∀ w ∈ u_ws RX13 TX13 18, w ∈ tb_WS := fun w hw => by
  obtain ⟨k, hk, rfl⟩ := List.mem_map.mp hw
  exact tb_lay13s _ (List.mem_map_of_mem ((by decide : ∀ k, k < 18 → k ∈ [0, 1, 2, 3, 4, 5, 6, 7, 8, 9, 10, 11, 12, 13, 14, 15, 16, 17]) k (List.mem_range.mp hk)))
theorem tb_lay14s : ∀ w ∈ [0, 1, 2, 3, 4, 5, 6, 7, 8, 9, 10].map (u_lay RX14 TX14), w ∈ tb_WS := tb_mem (gs := [2716, 1, 1, 1, 1, 1, 1, 1, 1, 1, 1]) (by decide +kernel) (by decide +kernel) (by decide +kernel)
theorem tb_lay14 : ∀ w ∈ u_ws RX14 TX14 11, w ∈ tb_WS := fun w hw => by
  obtain ⟨k, hk, rfl⟩ := List.mem_map.mp hw
  exact tb_lay14s _ (List.mem_map_of_mem ((by decide : ∀ k, k < 11 → k ∈ [0, 1, 2, 3, 4, 5, 6, 7, 8, 9, 10]) k (List.mem_range.mp hk)))
theorem tb_lay15s : ∀ w ∈ [0, 1, 2, 3, 4, 5, 6, 7, 8, 9, 10, 11, 12, 13, 14, 15, 16, 17, 18, 19, 20, 21, 22, 23, 24, 25, 26, 27, 28, 29, 30, 31, 32, 33, 34, 35, 36, 37, 38, 39].map (u_lay RX15 TX15), w ∈ tb_WS := tb_mem (gs := [2278, 1, 1, 1, 1, 1, 1, 1, 1, 1, 1, 1, 1, 1, 1, 1, 1, 1, 1, 1, 1, 1, 1, 1, 1, 1, 1, 1, 1, 1, 1, 1, 1, 1, 1, 1, 1, 1, 1, 1]) (by decide +kernel) (by decide +kernel) (by decide +kernel)
theorem tb_lay15 : ∀ w ∈ u_ws RX15 TX15 40, w ∈ tb_WS := fun w hw => by
  obtain ⟨k, hk, rfl⟩ := List.mem_map.mp hw
  exact tb_lay15s _ (List.mem_map_of_mem ((by decide : ∀ k, k < 40 → k ∈ [0, 1, 2, 3, 4, 5, 6, 7, 8, 9, 10, 11, 12, 13, 14, 15, 16, 17, 18, 19, 20, 21, 22, 23, 24, 25, 26, 27, 28, 29, 30, 31, 32, 33, 34, 35, 36, 37, 38, 39]) k (List.mem_range.mp hk)))
theorem tb_lay16s : ∀ w ∈ [0, 1, 2, 3, 4, 5, 6, 7, 8, 9, 10, 11, 12, 13, 14, 15, 16, 17, 18, 19, 20, 21, 22, 23, 24, 25, 26, 27, 28, 29, 30, 31, 32, 33].map (u_lay RX16 TX16), w ∈ tb_WS := tb_mem (gs := [2628, 1, 1, 1, 1, 1, 1, 1, 1, 1, 1, 1, 1, 1, 1, 1, 1, 1, 1, 1, 1, 1, 1, 1, 1, 1, 1, 1, 1, 1, 1, 1, 1, 1]) (by decide +kernel) (by decide +kernel) (by decide +kernel)
theorem tb_lay16 : ∀ w ∈ u_ws RX16 TX16 34, w ∈ tb_WS := fun w hw => by
  obtain ⟨k, hk, rfl⟩ := List.mem_map.mp hw
  exact tb_lay16s _ (List.mem_map_of_mem ((by decide : ∀ k, k < 34 → k ∈ [0, 1, 2, 3, 4, 5, 6, 7, 8, 9, 10, 11, 12, 13, 14, 15, 16, 17, 18, 19, 20, 21, 22, 23, 24, 25, 26, 27, 28, 29, 30, 31, 32, 33]) k (List.mem_range.mp hk)))
theorem tb_lay17s : ∀ w ∈ [0, 1, 2, 3, 4, 5, 6, 7, 8, 9, 10, 11, 12].map (u_lay RX17 TX17), w ∈ tb_WS := tb_mem (gs := [2752, 1, 1, 1, 1, 1, 1, 1, 1, 1, 1, 1, 1]) (by decide +kernel) (by decide +kernel) (by decide +kernel)
theorem tb_lay17 : ∀ w ∈ u_ws RX17 TX17 13, w ∈ tb_WS := fun w hw => by
  obtain ⟨k, hk, rfl⟩ := List.mem_map.mp hw
  exact tb_lay17s _ (List.mem_map_of_mem ((by decide : ∀ k, k < 13 → k ∈ [0, 1, 2, 3, 4, 5, 6, 7, 8, 9, 10, 11, 12]) k (List.mem_range.mp hk)))
theorem tb_TC : im_TC tb_cl tb_ty tb_WS := by
  intro ci q hq
  match ci, hq with
  | 0, hq => cases hq; exact ⟨tb_lay0, tyX0_ok, nmX0⟩
  | 1, hq => cases hq; exact ⟨tb_lay1, tyX1_ok, nmX1⟩
  | 2, hq => cases hq; exact ⟨tb_lay2, tyX2_ok, nmX2⟩
  | 3, hq => cases hq; exact ⟨tb_lay3, tyX3_ok, nmX3⟩
  | 4, hq => cases hq; exact ⟨tb_lay4, tyX4_ok, nmX4⟩
  | 5, hq => cases hq; exact ⟨tb_lay5, tyX5_ok, nmX5⟩
  | 6, hq => cases hq; exact ⟨tb_lay6, tyX6_ok, nmX6⟩
  | 7, hq => cases hq; exact ⟨tb_lay7, tyX7_ok, nmX7⟩
  | 8, hq => cases hq; exact ⟨tb_lay8, tyX8_ok, nmX8⟩
  | 9, hq => cases hq; exact ⟨tb_lay9, tyX9_ok, nmX9⟩
  | 10, hq => cases hq; exact ⟨tb_lay10, tyX10_ok, nmX10⟩
  | 11, hq => cases hq; exact ⟨tb_lay11, tyX11_ok, nmX11⟩
  | 12, hq => cases hq; exact ⟨tb_lay12, tyX12_ok, nmX12⟩
  | 13, hq => cases hq; exact ⟨tb_lay13, tyX13_ok, nmX13⟩
  | 14, hq => cases hq; exact ⟨tb_lay14, tyX14_ok, nmX14⟩
  | 15, hq => cases hq; exact ⟨tb_lay15, tyX15_ok, nmX15⟩
  | 16, hq => cases hq; exact ⟨tb_lay16, tyX16_ok, nmX16⟩
  | 17, hq => cases hq; exact ⟨tb_lay17, tyX17_ok, nmX17⟩
  | n + 18, hq => simp [tb_cl] at hq
/-- a table by two numbers -/
def tb_find {α : Type} (l : List (Nat × Nat × α)) (a b : Nat) : Option α := match l with
  | [] => none
  | q :: r => if q.1 = a ∧ q.2.1 = b then some q.2.2 else tb_find r a b
theorem tb_find_mem {α : Type} {l : List (Nat × Nat × α)} {a b : Nat} {x : α} (h : tb_find l a b = some x) : (a, b, x) ∈ l := by
  induction l with
  | nil => cases h
  | cons q r ih =>
    unfold tb_find at h
    split at h
    · rename_i hc
      cases h
      obtain ⟨q1, q2, q3⟩ := q
      obtain ⟨h1, h2⟩ := hc
      simp only at h1 h2
      subst h1
      subst h2
      exact List.mem_cons_self
    · exact List.mem_cons_of_mem _ (ih h)
theorem tb_all {α : Type} {l : List α} {f : α → Cond} (h : ∀ w ∈ l.map f, w ∈ tb_WS) : ∀ x ∈ l, f x ∈ tb_WS := fun x hx => h _ (List.mem_map_of_mem hx)
def tb_fl : List (Nat × Nat × (Nat × Nat)) := [(10, 11, (10, 0)), (10, 40, (10, 1)), (8, 57, (10, 1)), (11, 91, (10, 1)), (10, 15, (10, 2)), (10, 18, (10, 3)), (8, 156, (10, 3)), (10, 22, (10, 4)), (8, 210, (10, 4)), (10, 25, (10, 5)), (8, 213, (10, 5)), (10, 44, (10, 6)), (8, 79, (10, 6)), (10, 28, (10, 7)), (10, 31, (10, 8)), (8, 82, (10, 8)), (10, 34, (10, 9)), (8, 131, (10, 9)), (10, 37, (10, 10)), (8, 199, (10, 10)), (10, 61, (10, 11)), (8, 203, (10, 11)), (5, 13, (5, 0)), (2, 84, (5, 0)), (5, 17, (5, 1)), (6, 66, (5, 1)), (2, 78, (5, 1)), (11, 135, (5, 1)), (5, 9, (5, 2)), (8, 54, (5, 3)), (2, 81, (5, 3)), (5, 26, (5, 3)), (11, 128, (5, 3)), (2, 27, (2, 0)), (8, 190, (2, 0)), (2, 31, (2, 1)), (8, 193, (2, 1)), (2, 34, (2, 2)), (8, 128, (2, 2)), (2, 9, (2, 3)), (2, 37, (2, 4)), (8, 196, (2, 4)), (2, 41, (2, 5)), (8, 216, (2, 5)), (2, 44, (2, 6)), (8, 219, (2, 6)), (2, 17, (2, 7)), (2, 47, (2, 8)), (2, 105, (2, 9)), (2, 21, (2, 10)), (2, 24, (2, 11)), (8, 25, (8, 0)), (8, 29, (8, 1)), (8, 40, (8, 2)), (8, 44, (8, 3)), (8, 51, (8, 4)), (11, 122, (8, 4)), (8, 11, (8, 5)), (11, 125, (8, 5)), (8, 48, (8, 6)), (11, 116, (8, 6)), (8, 15, (8, 7)), (11, 119, (8, 7)), (8, 62, (8, 8)), (8, 66, (8, 9)), (8, 232, (8, 10)), (8, 235, (8, 11)), (8, 162, (8, 12)), (8, 19, (8, 13)), (8, 22, (8, 14)), (8, 140, (8, 15)), (8, 153, (8, 16)), (9, 9, (9, 0)), (3, 54, (9, 0)), (11, 163, (9, 0)), (9, 15, (9, 1)), (3, 57, (9, 1)), (6, 134, (9, 1)), (11, 166, (9, 1)), (6, 53, (9, 2)), (9, 49, (9, 2)), (9, 40, (9, 3)), (6, 59, (9, 3)), (9, 18, (9, 4)), (9, 22, (9, 5)), (0, 11, (0, 0)), (11, 186, (0, 0)), (0, 17, (0, 1)), (6, 124, (0, 1)), (6, 121, (0, 2)), (0, 86, (0, 2)), (0, 122, (0, 3)), (11, 240, (0, 3)), (0, 118, (0, 4)), (11, 244, (0, 4)), (0, 20, (0, 5)), (0, 32, (0, 6)), (0, 23, (0, 7)), (0, 26, (0, 8)), (0, 73, (0, 9)), (0, 29, (0, 10)), (0, 115, (0, 11)), (0, 132, (0, 12)), (7, 11, (7, 0)), (4, 36, (7, 0)), (7, 107, (7, 1)), (11, 227, (7, 1)), (7, 110, (7, 2)), (11, 230, (7, 2)), (7, 17, (7, 3)), (7, 21, (7, 4)), (7, 81, (7, 5)), (7, 104, (7, 6)), (1, 11, (1, 0)), (1, 15, (1, 1)), (1, 19, (1, 2)), (1, 22, (1, 3)), (1, 25, (1, 4)), (1, 28, (1, 5)), (1, 31, (1, 6)), (1, 34, (1, 7)), (1, 37, (1, 8)), (1, 40, (1, 9)), (1, 64, (1, 10)), (1, 53, (1, 11)), (1, 57, (1, 12)), (1, 67, (1, 13)), (4, 12, (4, 0)), (11, 223, (4, 0)), (4, 74, (4, 1)), (6, 127, (4, 1)), (3, 151, (4, 1)), (11, 214, (4, 2)), (4, 154, (4, 2)), (4, 55, (4, 3)), (11, 217, (4, 3)), (11, 220, (4, 4)), (4, 161, (4, 4)), (4, 21, (4, 5)), (4, 71, (4, 6)), (4, 25, (4, 7)), (4, 29, (4, 8)), (6, 19, (6, 0)), (6, 23, (6, 1)), (6, 27, (6, 2)), (6, 9, (6, 3)), (6, 16, (6, 4)), (6, 43, (6, 5)), (6, 47, (6, 6)), (6, 50, (6, 7)), (3, 41, (3, 0)), (11, 146, (3, 0)), (3, 37, (3, 1)), (3, 14, (3, 2)), (3, 19, (3, 3)), (3, 23, (3, 4)), (3, 27, (3, 5)), (3, 30, (3, 6)), (3, 34, (3, 7)), (3, 45, (3, 8)), (3, 66, (3, 9)), (3, 48, (3, 10)), (11, 10, (11, 0)), (11, 21, (11, 1)), (11, 30, (11, 2)), (11, 37, (11, 3)), (11, 60, (11, 4)), (11, 44, (11, 5)), (11, 51, (11, 6)), (11, 69, (11, 7)), (11, 73, (11, 8)), (11, 149, (11, 9)), (11, 77, (11, 10)), (11, 80, (11, 11)), (11, 231, (11, 12)), (15, 65, (15, 0)), (15, 7, (15, 1)), (15, 68, (15, 2)), (15, 13, (15, 3)), (15, 16, (15, 4)), (15, 19, (15, 5)), (15, 22, (15, 6)), (15, 25, (15, 7)), (15, 73, (15, 8)), (15, 183, (15, 9)), (15, 216, (15, 10)), (15, 210, (15, 11)), (15, 213, (15, 12)), (15, 249, (15, 13)), (15, 28, (15, 14)), (15, 32, (15, 15)), (15, 35, (15, 16)), (15, 101, (15, 17)), (15, 180, (15, 18)), (15, 219, (15, 19)), (15, 222, (15, 20)), (15, 207, (15, 21)), (15, 107, (15, 22)), (15, 110, (15, 23)), (15, 38, (15, 24)), (15, 113, (15, 25)), (15, 123, (15, 26)), (15, 41, (15, 27)), (15, 44, (15, 28)), (15, 47, (15, 29)), (15, 50, (15, 30)), (15, 53, (15, 31)), (15, 132, (15, 32)), (15, 136, (15, 33)), (15, 126, (15, 34)), (15, 204, (15, 35)), (15, 56, (15, 36)), (15, 155, (15, 37)), (15, 59, (15, 38)), (15, 62, (15, 39)), (12, 37, (12, 0)), (12, 7, (12, 1)), (12, 13, (12, 2)), (12, 44, (12, 3)), (12, 17, (12, 4)), (12, 21, (12, 5)), (12, 24, (12, 6)), (12, 47, (12, 7)), (12, 27, (12, 8)), (12, 30, (12, 9)), (12, 52, (12, 10)), (12, 58, (12, 11)), (12, 55, (12, 12)), (12, 61, (12, 13)), (12, 64, (12, 14)), (12, 75, (12, 15)), (12, 78, (12, 16)), (12, 33, (12, 17)), (13, 113, (13, 0)), (13, 119, (13, 1)), (13, 122, (13, 2)), (13, 149, (13, 3)), (13, 125, (13, 4)), (13, 157, (13, 5)), (13, 128, (13, 6)), (13, 131, (13, 7)), (13, 188, (13, 8)), (13, 134, (13, 9)), (13, 202, (13, 10)), (13, 137, (13, 11)), (13, 140, (13, 12)), (13, 143, (13, 13)), (13, 270, (13, 14)), (13, 266, (13, 15)), (13, 146, (13, 16)), (13, 250, (13, 17)), (16, 73, (16, 0)), (16, 7, (16, 1)), (16, 13, (16, 2)), (16, 16, (16, 3)), (16, 77, (16, 4)), (16, 19, (16, 5)), (16, 22, (16, 6)), (16, 229, (16, 7)), (16, 163, (16, 8)), (16, 246, (16, 9)), (16, 25, (16, 10)), (16, 28, (16, 11)), (16, 31, (16, 12)), (16, 127, (16, 13)), (16, 34, (16, 14)), (16, 37, (16, 15)), (16, 121, (16, 16)), (16, 40, (16, 17)), (16, 43, (16, 18)), (16, 124, (16, 19)), (16, 46, (16, 20)), (16, 49, (16, 21)), (16, 52, (16, 22)), (16, 55, (16, 23)), (16, 58, (16, 24)), (16, 61, (16, 25)), (16, 64, (16, 26)), (16, 67, (16, 27)), (16, 288, (16, 28)), (16, 279, (16, 29)), (16, 282, (16, 30)), (16, 285, (16, 31)), (16, 303, (16, 32)), (16, 70, (16, 33)), (14, 35, (14, 0)), (14, 7, (14, 1)), (14, 13, (14, 2)), (14, 17, (14, 3)), (14, 22, (14, 4)), (14, 26, (14, 5)), (14, 85, (14, 6)), (14, 29, (14, 7)), (14, 38, (14, 8)), (14, 32, (14, 9)), (14, 41, (14, 10)), (17, 58, (17, 0)), (17, 7, (17, 1)), (17, 61, (17, 2)), (17, 16, (17, 3)), (17, 23, (17, 4)), (17, 30, (17, 5)), (17, 37, (17, 6)), (17, 44, (17, 7)), (17, 48, (17, 8)), (17, 197, (17, 9)), (17, 51, (17, 10)), (17, 55, (17, 11)), (17, 229, (17, 12))]
def tb_fw (e : Nat × Nat × (Nat × Nat)) : Cond := match tb_cl[e.2.2.1]? with
  | some q => .fieldLink (tb_nm e.1) e.2.1 (q.2.1 e.2.2.2).1 (q.2.1 e.2.2.2).2.1 (q.2.1 e.2.2.2).2.2.1
  | none => .tt
theorem tb_fl_ok : ∀ x ∈ tb_fl, tb_fw x ∈ tb_WS := tb_all (tb_mem (gs := [287, 0, 0, 0, 0, 0, 0, 0, 0, 0, 0, 0, 0, 0, 0, 0, 0, 0, 0, 0, 0, 0, 33, 0, 0, 0, 0, 0, 0, 0, 0, 0, 0, 23, 0, 0, 0, 0, 0, 0, 0, 0, 0, 0, 0, 0, 0, 0, 0, 0, 0, 25, 0, 0, 0, 0, 0, 0, 0, 0, 0, 0, 0, 0, 0, 0, 0, 0, 0, 0, 0, 0, 41, 0, 0, 0, 0, 0, 0, 0, 0, 0, 0, 0, 0, 20, 0, 0, 0, 0, 0, 0, 0, 0, 0, 0, 0, 0, 0, 0, 0, 0, 0, 39, 0, 0, 0, 0, 0, 0, 0, 0, 0, 21, 0, 0, 0, 0, 0, 0, 0, 0, 0, 0, 0, 0, 0, 29, 0, 0, 0, 0, 0, 0, 0, 0, 0, 0, 0, 0, 0, 0, 26, 0, 0, 0, 0, 0, 0, 0, 25, 0, 0, 0, 0, 0, 0, 0, 0, 0, 0, 0, 25, 0, 0, 0, 0, 0, 0, 0, 0, 0, 0, 0, 0, 1469, 0, 0, 0, 0, 0, 0, 0, 0, 0, 0, 0, 0, 0, 0, 0, 0, 0, 0, 0, 0, 0, 0, 0, 0, 0, 0, 0, 0, 0, 0, 0, 0, 0, 0, 0, 0, 0, 0, 0, 88, 0, 0, 0, 0, 0, 0, 0, 0, 0, 0, 0, 0, 0, 0, 0, 0, 0, 149, 0, 0, 0, 0, 0, 0, 0, 0, 0, 0, 0, 0, 0, 0, 0, 0, 0, 43, 0, 0, 0, 0, 0, 0, 0, 0, 0, 0, 0, 0, 0, 0, 0, 0, 0, 0, 0, 0, 0, 0, 0, 0, 0, 0, 0, 0, 0, 0, 0, 0, 0, 77, 0, 0, 0, 0, 0, 0, 0, 0, 0, 0, 23, 0, 0, 0, 0, 0, 0, 0, 0, 0, 0, 0, 0]) (by decide +kernel) (by decide +kernel) (by decide +kernel))
theorem tb_fl_in : tb_fl.all (fun e => decide (e.2.2.1 < 32) && (match tb_cl[e.2.2.1]? with | some q => decide (e.2.2.2 < q.2.2) | none => false)) = true := by decide +kernel
theorem tb_TF : im_TF tb_cl tb_WS tb_nm (tb_find tb_fl) := by
  intro ow idx ci k h
  have hm := tb_find_mem h
  have h1 := List.all_eq_true.mp tb_fl_in _ hm
  have h2 := tb_fl_ok _ hm
  simp only [Bool.and_eq_true, decide_eq_true_eq] at h1
  refine ⟨h1.1, ?_⟩
  cases hq : tb_cl[ci]? with
  | none => simp [hq] at h1
  | some q =>
    simp only [hq, decide_eq_true_eq] at h1
    refine ⟨q, rfl, h1.2, ?_⟩
    simpa [tb_fw, hq] using h2
def tb_cn : List (Nat × Nat × Value) := [(6, 15, .int (32768)), (3, 13, .int (263169)), (3, 18, .int (262144)), (5, 50, .long (10)), (5, 58, .long (48)), (9, 53, .long (63)), (9, 43, .long (-1)), (0, 92, .int (100000)), (0, 97, .int (2331112)), (0, 98, .int (1000000)), (4, 66, .int (1073741824)), (6, 137, .long (2)), (6, 166, .long (4)), (24, 314, .long (6148914691236517205)), (24, 316, .long (3689348814741910323)), (24, 318, .long (1085102592571150095)), (3, 137, .long (512)), (3, 139, .long (32)), (3, 141, .long (64)), (3, 143, .long (4)), (23, 265, .int (1431655765)), (23, 266, .int (858993459)), (23, 267, .int (252645135)), (12, 16, .int (32768)), (13, 7, .int (212222)), (13, 8, .int (222122)), (13, 9, .int (222221)), (13, 10, .int (121223)), (13, 11, .int (121322)), (13, 12, .int (131222)), (13, 13, .int (122213)), (13, 14, .int (122312)), (13, 15, .int (132212)), (13, 16, .int (221213)), (13, 17, .int (221312)), (13, 18, .int (231212)), (13, 19, .int (112232)), (13, 20, .int (122132)), (13, 21, .int (122231)), (13, 22, .int (113222)), (13, 23, .int (123122)), (13, 24, .int (123221)), (13, 25, .int (223211)), (13, 26, .int (221132)), (13, 27, .int (221231)), (13, 28, .int (213212)), (13, 29, .int (223112)), (13, 30, .int (312131)), (13, 31, .int (311222)), (13, 32, .int (321122)), (13, 33, .int (321221)), (13, 34, .int (312212)), (13, 35, .int (322112)), (13, 36, .int (322211)), (13, 37, .int (212123)), (13, 38, .int (212321)), (13, 39, .int (232121)), (13, 40, .int (111323)), (13, 41, .int (131123)), (13, 42, .int (131321)), (13, 43, .int (112313)), (13, 44, .int (132113)), (13, 45, .int (132311)), (13, 46, .int (211313)), (13, 47, .int (231113)), (13, 48, .int (231311)), (13, 49, .int (112133)), (13, 50, .int (112331)), (13, 51, .int (132131)), (13, 52, .int (113123)), (13, 53, .int (113321)), (13, 54, .int (133121)), (13, 55, .int (313121)), (13, 56, .int (211331)), (13, 57, .int (231131)), (13, 58, .int (213113)), (13, 59, .int (213311)), (13, 60, .int (213131)), (13, 61, .int (311123)), (13, 62, .int (311321)), (13, 63, .int (331121)), (13, 64, .int (312113)), (13, 65, .int (312311)), (13, 66, .int (332111)), (13, 67, .int (314111)), (13, 68, .int (221411)), (13, 69, .int (431111)), (13, 70, .int (111224)), (13, 71, .int (111422)), (13, 72, .int (121124)), (13, 73, .int (121421)), (13, 74, .int (141122)), (13, 75, .int (141221)), (13, 76, .int (112214)), (13, 77, .int (112412)), (13, 78, .int (122114)), (13, 79, .int (122411)), (13, 80, .int (142112)), (13, 81, .int (142211)), (13, 82, .int (241211)), (13, 83, .int (221114)), (13, 84, .int (413111)), (13, 85, .int (241112)), (13, 86, .int (134111)), (13, 87, .int (111242)), (13, 88, .int (121142)), (13, 89, .int (121241)), (13, 90, .int (114212)), (13, 91, .int (124112)), (13, 92, .int (124211)), (13, 93, .int (411212)), (13, 94, .int (421112)), (13, 95, .int (421211)), (13, 96, .int (212141)), (13, 97, .int (214121)), (13, 98, .int (412121)), (13, 99, .int (111143)), (13, 100, .int (111341)), (13, 101, .int (131141)), (13, 102, .int (114113)), (13, 103, .int (114311)), (13, 104, .int (411113)), (13, 105, .int (411311)), (13, 106, .int (113141)), (13, 107, .int (114131)), (13, 108, .int (311141)), (13, 109, .int (411131)), (13, 110, .int (211412)), (13, 111, .int (211214)), (13, 112, .int (211232)), (14, 16, .int (262144)), (14, 21, .int (263169)), (17, 64, .long (255)), (15, 71, .long (255)), (15, 143, .long (10)), (12, 50, .long (255)), (12, 67, .long (4)), (12, 69, .long (2)), (13, 153, .long (255)), (13, 155, .long (128)), (13, 213, .int (2331112)), (17, 127, .long (10)), (17, 129, .long (48)), (13, 214, .long (999999999999)), (13, 216, .long (10)), (16, 80, .long (255)), (16, 113, .int (1000000)), (18, 71, .long (4294967295))]
def tb_cw (e : Nat × Nat × Value) : Cond := match e.2.2 with
  | .int v => .constant (tb_nm e.1) e.2.1 v
  | .long v => .constantLong (tb_nm e.1) e.2.1 v
  | _ => .tt
theorem tb_cn_ok : ∀ x ∈ tb_cn, tb_cw x ∈ tb_WS := tb_all (tb_mem (gs := [685, 31, 0, 650, 3, 44, 148, 55, 4, 0, 198, 32, 15, 48, 0, 0, 100, 0, 0, 0, 55, 0, 0, 274, 61, 0, 0, 0, 0, 0, 0, 0, 0, 0, 0, 0, 0, 0, 0, 0, 0, 0, 0, 0, 0, 0, 0, 0, 0, 0, 0, 0, 0, 0, 0, 0, 0, 0, 0, 0, 0, 0, 0, 0, 0, 0, 0, 0, 0, 0, 0, 0, 0, 0, 0, 0, 0, 0, 0, 0, 0, 0, 0, 0, 0, 0, 0, 0, 0, 0, 0, 0, 0, 0, 0, 0, 0, 0, 0, 0, 0, 0, 0, 0, 0, 0, 0, 0, 0, 0, 0, 0, 0, 0, 0, 0, 0, 0, 0, 0, 0, 0, 0, 0, 0, 0, 0, 0, 0, 0, 170, 0, 82, 39, 83, 144, 27, 4, 51, 0, 56, 16, 0, 7, 7, 19, 23, 497]) (by decide +kernel) (by decide +kernel) (by decide +kernel))
theorem tb_TK : im_TK tb_WS tb_nm (tb_find tb_cn) := ⟨fun ow idx v h => tb_cn_ok _ (tb_find_mem h), fun ow idx v h => tb_cn_ok _ (tb_find_mem h)⟩
