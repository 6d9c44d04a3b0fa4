/-! ===== BEGIN printed: names, fields, word lists, decode rows ===== -/
def RX0 : String := "RiddleMill$1"
def TX0 : u_T := fun k => match k with
  | _ => ("", "", "", false)
def tyX0 : Nat → FieldType := fun k => match k with
  | _ => .int
abbrev wsX00 : List Cond := u_ws RX0 TX0 0
theorem nmX0 : ∀ a, a < 0 → ∀ b, b < 0 → a ≠ b → (TX0 a).2.1 ≠ (TX0 b).2.1 := by decide +kernel
theorem tyX0_ok : ∀ k, k < 0 → parseFieldDescriptor (TX0 k).2.2.1 = some (tyX0 k) := by decide +kernel
def RX1 : String := "RiddleMill$Kind"
def TX1 : u_T := fun k => match k with
  | _ => ("", "", "", false)
def tyX1 : Nat → FieldType := fun k => match k with
  | _ => .int
abbrev wsX10 : List Cond := u_ws RX1 TX1 0
theorem nmX1 : ∀ a, a < 0 → ∀ b, b < 0 → a ≠ b → (TX1 a).2.1 ≠ (TX1 b).2.1 := by decide +kernel
theorem tyX1_ok : ∀ k, k < 0 → parseFieldDescriptor (TX1 k).2.2.1 = some (tyX1 k) := by decide +kernel
def RX2 : String := "RiddleMill$Maker"
def TX2 : u_T := fun k => match k with
  | 0 => ("RiddleMill$Maker", "firstValues", "[I", true)
  | _ => ("RiddleMill$Maker", "seed", "I", false)
def tyX2 : Nat → FieldType := fun k => match k with
  | 0 => .array .int
  | _ => .int
abbrev wsX20 : List Cond := u_ws RX2 TX2 2
theorem nmX2 : ∀ a, a < 2 → ∀ b, b < 2 → a ≠ b → (TX2 a).2.1 ≠ (TX2 b).2.1 := by decide +kernel
theorem tyX2_ok : ∀ k, k < 2 → parseFieldDescriptor (TX2 k).2.2.1 = some (tyX2 k) := by decide +kernel
abbrev cX2_init : ByteArray := prog_4_method_1_code
def yX2_init : MethodName := ⟨RX2, "<init>", "()V"⟩
abbrev cX2_giveAll : ByteArray := prog_4_method_2_code
def yX2_giveAll : MethodName := ⟨RX2, "giveAll", "(LRiddleMill$Puzzle;LRiddleMill$Puzzle;LRiddleMill$Search;I)Z"⟩
abbrev cX2_dropGivens : ByteArray := prog_4_method_3_code
def yX2_dropGivens : MethodName := ⟨RX2, "dropGivens", "(LRiddleMill$Puzzle;LRiddleMill$Search;)V"⟩
abbrev cX2_draw : ByteArray := prog_4_method_4_code
def yX2_draw : MethodName := ⟨RX2, "draw", "()I"⟩
def RX3 : String := "RiddleMill$Paper"
def TX3 : u_T := fun k => match k with
  | 0 => ("RiddleMill$Paper", "bytes", "[I", true)
  | _ => ("RiddleMill$Paper", "length", "I", false)
def tyX3 : Nat → FieldType := fun k => match k with
  | 0 => .array .int
  | _ => .int
abbrev wsX30 : List Cond := u_ws RX3 TX3 2
theorem nmX3 : ∀ a, a < 2 → ∀ b, b < 2 → a ≠ b → (TX3 a).2.1 ≠ (TX3 b).2.1 := by decide +kernel
theorem tyX3_ok : ∀ k, k < 2 → parseFieldDescriptor (TX3 k).2.2.1 = some (tyX3 k) := by decide +kernel
abbrev cX3_init : ByteArray := prog_5_method_1_code
def yX3_init : MethodName := ⟨RX3, "<init>", "()V"⟩
abbrev cX3_show : ByteArray := prog_5_method_2_code
def yX3_show : MethodName := ⟨RX3, "show", "(LRiddleMill$Puzzle;)V"⟩
abbrev cX3_addRule : ByteArray := prog_5_method_3_code
def yX3_addRule : MethodName := ⟨RX3, "addRule", "(LRiddleMill$Rule;I)V"⟩
abbrev cX3_addWord : ByteArray := prog_5_method_4_code
def yX3_addWord : MethodName := ⟨RX3, "addWord", "(Ljava/lang/String;)V"⟩
abbrev cX3_addNumber : ByteArray := prog_5_method_5_code
def yX3_addNumber : MethodName := ⟨RX3, "addNumber", "(I)V"⟩
abbrev cX3_addCell : ByteArray := prog_5_method_6_code
def yX3_addCell : MethodName := ⟨RX3, "addCell", "(II)V"⟩
abbrev cX3_add : ByteArray := prog_5_method_7_code
def yX3_add : MethodName := ⟨RX3, "add", "(I)V"⟩
def RX4 : String := "RiddleMill$Puzzle"
def TX4 : u_T := fun k => match k with
  | 0 => ("RiddleMill$Puzzle", "columns", "I", false)
  | 1 => ("RiddleMill$Puzzle", "rows", "I", false)
  | 2 => ("RiddleMill$Puzzle", "highest", "I", false)
  | 3 => ("RiddleMill$Puzzle", "grid", "[I", true)
  | 4 => ("RiddleMill$Puzzle", "rules", "[LRiddleMill$Rule;", true)
  | 5 => ("RiddleMill$Puzzle", "ruleCount", "I", false)
  | _ => ("RiddleMill$Puzzle", "places", "[I", true)
def tyX4 : Nat → FieldType := fun k => match k with
  | 0 => .int
  | 1 => .int
  | 2 => .int
  | 3 => .array .int
  | 4 => .array (.object "RiddleMill$Rule")
  | 5 => .int
  | _ => .array .int
abbrev wsX40 : List Cond := u_ws RX4 TX4 7
theorem nmX4 : ∀ a, a < 7 → ∀ b, b < 7 → a ≠ b → (TX4 a).2.1 ≠ (TX4 b).2.1 := by decide +kernel
theorem tyX4_ok : ∀ k, k < 7 → parseFieldDescriptor (TX4 k).2.2.1 = some (tyX4 k) := by decide +kernel
abbrev cX4_init : ByteArray := prog_6_method_1_code
def yX4_init : MethodName := ⟨RX4, "<init>", "()V"⟩
abbrev cX4_begin : ByteArray := prog_6_method_2_code
def yX4_begin : MethodName := ⟨RX4, "begin", "(III)V"⟩
abbrev cX4_isThere : ByteArray := prog_6_method_3_code
def yX4_isThere : MethodName := ⟨RX4, "isThere", "()Z"⟩
abbrev cX4_cellCount : ByteArray := prog_6_method_4_code
def yX4_cellCount : MethodName := ⟨RX4, "cellCount", "()I"⟩
abbrev cX4_emptyGrid : ByteArray := prog_6_method_5_code
def yX4_emptyGrid : MethodName := ⟨RX4, "emptyGrid", "()V"⟩
abbrev cX4_addRule : ByteArray := prog_6_method_6_code
def yX4_addRule : MethodName := ⟨RX4, "addRule", "(LRiddleMill$Kind;)LRiddleMill$Rule;"⟩
abbrev cX4_addRowRules : ByteArray := prog_6_method_7_code
def yX4_addRowRules : MethodName := ⟨RX4, "addRowRules", "()V"⟩
abbrev cX4_addColumnRules : ByteArray := prog_6_method_8_code
def yX4_addColumnRules : MethodName := ⟨RX4, "addColumnRules", "()V"⟩
abbrev cX4_addGiven : ByteArray := prog_6_method_9_code
def yX4_addGiven : MethodName := ⟨RX4, "addGiven", "(II)V"⟩
abbrev cX4_removeRule : ByteArray := prog_6_method_10_code
def yX4_removeRule : MethodName := ⟨RX4, "removeRule", "(I)V"⟩
abbrev cX4_findGiven : ByteArray := prog_6_method_11_code
def yX4_findGiven : MethodName := ⟨RX4, "findGiven", "(I)I"⟩
abbrev cX4_countGivens : ByteArray := prog_6_method_12_code
def yX4_countGivens : MethodName := ⟨RX4, "countGivens", "()I"⟩
abbrev cX4_countFilled : ByteArray := prog_6_method_13_code
def yX4_countFilled : MethodName := ⟨RX4, "countFilled", "()I"⟩
abbrev cX4_countBroken : ByteArray := prog_6_method_14_code
def yX4_countBroken : MethodName := ⟨RX4, "countBroken", "()I"⟩
abbrev cX4_isBrokenAt : ByteArray := prog_6_method_15_code
def yX4_isBrokenAt : MethodName := ⟨RX4, "isBrokenAt", "(I[II)Z"⟩
abbrev cX4_becomeCopyWithoutGivens : ByteArray := prog_6_method_16_code
def yX4_becomeCopyWithoutGivens : MethodName := ⟨RX4, "becomeCopyWithoutGivens", "(LRiddleMill$Puzzle;)V"⟩
abbrev cX4_becomeMoved : ByteArray := prog_6_method_17_code
def yX4_becomeMoved : MethodName := ⟨RX4, "becomeMoved", "(LRiddleMill$Puzzle;Z)V"⟩
def RX5 : String := "RiddleMill$PuzzleReader"
def TX5 : u_T := fun k => match k with
  | 0 => ("RiddleMill$PuzzleReader", "error", "I", false)
  | 1 => ("RiddleMill$PuzzleReader", "errorAt", "I", false)
  | 2 => ("RiddleMill$PuzzleReader", "tokens", "LRiddleMill$Tokens;", true)
  | _ => ("RiddleMill$PuzzleReader", "place", "I", false)
def tyX5 : Nat → FieldType := fun k => match k with
  | 0 => .int
  | 1 => .int
  | 2 => .object "RiddleMill$Tokens"
  | _ => .int
abbrev wsX50 : List Cond := u_ws RX5 TX5 4
theorem nmX5 : ∀ a, a < 4 → ∀ b, b < 4 → a ≠ b → (TX5 a).2.1 ≠ (TX5 b).2.1 := by decide +kernel
theorem tyX5_ok : ∀ k, k < 4 → parseFieldDescriptor (TX5 k).2.2.1 = some (tyX5 k) := by decide +kernel
abbrev cX5_init : ByteArray := prog_7_method_1_code
def yX5_init : MethodName := ⟨RX5, "<init>", "()V"⟩
abbrev cX5_readInto : ByteArray := prog_7_method_2_code
def yX5_readInto : MethodName := ⟨RX5, "readInto", "(LRiddleMill$Puzzle;LRiddleMill$Tape;)Z"⟩
abbrev cX5_fail : ByteArray := prog_7_method_3_code
def yX5_fail : MethodName := ⟨RX5, "fail", "(I)Z"⟩
abbrev cX5_hasForm : ByteArray := prog_7_method_4_code
def yX5_hasForm : MethodName := ⟨RX5, "hasForm", "()Z"⟩
abbrev cX5_passes : ByteArray := prog_7_method_5_code
def yX5_passes : MethodName := ⟨RX5, "passes", "(II)Z"⟩
abbrev cX5_passesRule : ByteArray := prog_7_method_6_code
def yX5_passesRule : MethodName := ⟨RX5, "passesRule", "()Z"⟩
abbrev cX5_passesCells : ByteArray := prog_7_method_7_code
def yX5_passesCells : MethodName := ⟨RX5, "passesCells", "(I)Z"⟩
abbrev cX5_readSizes : ByteArray := prog_7_method_8_code
def yX5_readSizes : MethodName := ⟨RX5, "readSizes", "(LRiddleMill$Puzzle;)Z"⟩
abbrev cX5_readRules : ByteArray := prog_7_method_9_code
def yX5_readRules : MethodName := ⟨RX5, "readRules", "(LRiddleMill$Puzzle;)Z"⟩
abbrev cX5_readRule : ByteArray := prog_7_method_10_code
def yX5_readRule : MethodName := ⟨RX5, "readRule", "(LRiddleMill$Puzzle;)Z"⟩
abbrev cX5_rulesOf : ByteArray := prog_7_method_11_code
def yX5_rulesOf : MethodName := ⟨RX5, "rulesOf", "(ILRiddleMill$Puzzle;)I"⟩
abbrev cX5_readNumber : ByteArray := prog_7_method_12_code
def yX5_readNumber : MethodName := ⟨RX5, "readNumber", "(LRiddleMill$Puzzle;LRiddleMill$Rule;)Z"⟩
abbrev cX5_isAllowed : ByteArray := prog_7_method_13_code
def yX5_isAllowed : MethodName := ⟨RX5, "isAllowed", "(LRiddleMill$Kind;II)Z"⟩
abbrev cX5_readTimes : ByteArray := prog_7_method_14_code
def yX5_readTimes : MethodName := ⟨RX5, "readTimes", "(LRiddleMill$Rule;)Z"⟩
abbrev cX5_readCells : ByteArray := prog_7_method_15_code
def yX5_readCells : MethodName := ⟨RX5, "readCells", "(LRiddleMill$Puzzle;LRiddleMill$Rule;)Z"⟩
def RX6 : String := "RiddleMill$Reasoner"
def TX6 : u_T := fun k => match k with
  | 0 => ("RiddleMill$Reasoner", "sets", "[I", true)
  | 1 => ("RiddleMill$Reasoner", "passes", "I", false)
  | 2 => ("RiddleMill$Reasoner", "greatestGrade", "I", false)
  | 3 => ("RiddleMill$Reasoner", "firstRule", "I", false)
  | 4 => ("RiddleMill$Reasoner", "firstCell", "I", false)
  | 5 => ("RiddleMill$Reasoner", "firstValue", "I", false)
  | 6 => ("RiddleMill$Reasoner", "firstGrade", "I", false)
  | _ => ("RiddleMill$Reasoner", "values", "[I", true)
def tyX6 : Nat → FieldType := fun k => match k with
  | 0 => .array .int
  | 1 => .int
  | 2 => .int
  | 3 => .int
  | 4 => .int
  | 5 => .int
  | 6 => .int
  | _ => .array .int
abbrev wsX60 : List Cond := u_ws RX6 TX6 8
theorem nmX6 : ∀ a, a < 8 → ∀ b, b < 8 → a ≠ b → (TX6 a).2.1 ≠ (TX6 b).2.1 := by decide +kernel
theorem tyX6_ok : ∀ k, k < 8 → parseFieldDescriptor (TX6 k).2.2.1 = some (tyX6 k) := by decide +kernel
abbrev cX6_init : ByteArray := prog_8_method_1_code
def yX6_init : MethodName := ⟨RX6, "<init>", "()V"⟩
abbrev cX6_begin : ByteArray := prog_8_method_2_code
def yX6_begin : MethodName := ⟨RX6, "begin", "(LRiddleMill$Puzzle;)V"⟩
abbrev cX6_countValues : ByteArray := prog_8_method_3_code
def yX6_countValues : MethodName := ⟨RX6, "countValues", "(LRiddleMill$Puzzle;)I"⟩
abbrev cX6_countCellsWith : ByteArray := prog_8_method_4_code
def yX6_countCellsWith : MethodName := ⟨RX6, "countCellsWith", "(LRiddleMill$Puzzle;I)I"⟩
abbrev cX6_takeOut : ByteArray := prog_8_method_5_code
def yX6_takeOut : MethodName := ⟨RX6, "takeOut", "(II)V"⟩
abbrev cX6_findFirst : ByteArray := prog_8_method_6_code
def yX6_findFirst : MethodName := ⟨RX6, "findFirst", "(LRiddleMill$Puzzle;)Z"⟩
abbrev cX6_findFirstBy : ByteArray := prog_8_method_7_code
def yX6_findFirstBy : MethodName := ⟨RX6, "findFirstBy", "(LRiddleMill$Rule;I)Z"⟩
abbrev cX6_doPasses : ByteArray := prog_8_method_8_code
def yX6_doPasses : MethodName := ⟨RX6, "doPasses", "(LRiddleMill$Puzzle;)I"⟩
abbrev cX6_deduceBy : ByteArray := prog_8_method_9_code
def yX6_deduceBy : MethodName := ⟨RX6, "deduceBy", "(LRiddleMill$Rule;I)I"⟩
abbrev cX6_hasValue : ByteArray := prog_8_method_10_code
def yX6_hasValue : MethodName := ⟨RX6, "hasValue", "(II)Z"⟩
abbrev cX6_gradeOf : ByteArray := prog_8_method_11_code
def yX6_gradeOf : MethodName := ⟨RX6, "gradeOf", "(LRiddleMill$Rule;)I"⟩
abbrev cX6_isRefuted : ByteArray := prog_8_method_12_code
def yX6_isRefuted : MethodName := ⟨RX6, "isRefuted", "(LRiddleMill$Rule;III)Z"⟩
abbrev cX6_holdsFrom : ByteArray := prog_8_method_13_code
def yX6_holdsFrom : MethodName := ⟨RX6, "holdsFrom", "(LRiddleMill$Reasoner;LRiddleMill$Rule;III)Z"⟩
def RX7 : String := "RiddleMill$Rule"
def TX7 : u_T := fun k => match k with
  | 0 => ("RiddleMill$Rule", "kind", "LRiddleMill$Kind;", false)
  | 1 => ("RiddleMill$Rule", "number", "I", false)
  | 2 => ("RiddleMill$Rule", "times", "I", false)
  | 3 => ("RiddleMill$Rule", "size", "I", false)
  | 4 => ("RiddleMill$Rule", "cells", "[I", true)
  | _ => ("RiddleMill$Rule", "mask", "I", false)
def tyX7 : Nat → FieldType := fun k => match k with
  | 0 => .object "RiddleMill$Kind"
  | 1 => .int
  | 2 => .int
  | 3 => .int
  | 4 => .array .int
  | _ => .int
abbrev wsX70 : List Cond := u_ws RX7 TX7 6
theorem nmX7 : ∀ a, a < 6 → ∀ b, b < 6 → a ≠ b → (TX7 a).2.1 ≠ (TX7 b).2.1 := by decide +kernel
theorem tyX7_ok : ∀ k, k < 6 → parseFieldDescriptor (TX7 k).2.2.1 = some (tyX7 k) := by decide +kernel
abbrev cX7_init : ByteArray := prog_9_method_1_code
def yX7_init : MethodName := ⟨RX7, "<init>", "()V"⟩
abbrev cX7_begin : ByteArray := prog_9_method_2_code
def yX7_begin : MethodName := ⟨RX7, "begin", "(LRiddleMill$Kind;)V"⟩
abbrev cX7_addCell : ByteArray := prog_9_method_3_code
def yX7_addCell : MethodName := ⟨RX7, "addCell", "(I)V"⟩
abbrev cX7_hasCell : ByteArray := prog_9_method_4_code
def yX7_hasCell : MethodName := ⟨RX7, "hasCell", "(I)Z"⟩
abbrev cX7_isGivenOf : ByteArray := prog_9_method_5_code
def yX7_isGivenOf : MethodName := ⟨RX7, "isGivenOf", "(I)Z"⟩
abbrev cX7_cellOrNone : ByteArray := prog_9_method_6_code
def yX7_cellOrNone : MethodName := ⟨RX7, "cellOrNone", "(I)I"⟩
abbrev cX7_takeParts : ByteArray := prog_9_method_7_code
def yX7_takeParts : MethodName := ⟨RX7, "takeParts", "(LRiddleMill$Rule;)V"⟩
abbrev cX7_moveCells : ByteArray := prog_9_method_8_code
def yX7_moveCells : MethodName := ⟨RX7, "moveCells", "([I)V"⟩
abbrev cX7_isBroken : ByteArray := prog_9_method_9_code
def yX7_isBroken : MethodName := ⟨RX7, "isBroken", "([II)Z"⟩
abbrev cX7_hasPair : ByteArray := prog_9_method_10_code
def yX7_hasPair : MethodName := ⟨RX7, "hasPair", "([IZ)Z"⟩
abbrev cX7_breaksSum : ByteArray := prog_9_method_11_code
def yX7_breaksSum : MethodName := ⟨RX7, "breaksSum", "([II)Z"⟩
abbrev cX7_breaksProduct : ByteArray := prog_9_method_12_code
def yX7_breaksProduct : MethodName := ⟨RX7, "breaksProduct", "([I)Z"⟩
abbrev cX7_breaksOrder : ByteArray := prog_9_method_13_code
def yX7_breaksOrder : MethodName := ⟨RX7, "breaksOrder", "([I)Z"⟩
abbrev cX7_breaksSight : ByteArray := prog_9_method_14_code
def yX7_breaksSight : MethodName := ⟨RX7, "breaksSight", "([I)Z"⟩
abbrev cX7_hasRemainder : ByteArray := prog_9_method_15_code
def yX7_hasRemainder : MethodName := ⟨RX7, "hasRemainder", "([II)Z"⟩
abbrev cX7_breaksCount : ByteArray := prog_9_method_16_code
def yX7_breaksCount : MethodName := ⟨RX7, "breaksCount", "([I)Z"⟩
abbrev cX7_breaksIs : ByteArray := prog_9_method_17_code
def yX7_breaksIs : MethodName := ⟨RX7, "breaksIs", "([I)Z"⟩
abbrev cX7_breaksApart : ByteArray := prog_9_method_18_code
def yX7_breaksApart : MethodName := ⟨RX7, "breaksApart", "([I)Z"⟩
def RX8 : String := "RiddleMill$Search"
def TX8 : u_T := fun k => match k with
  | 0 => ("RiddleMill$Search", "solutions", "[[I", true)
  | 1 => ("RiddleMill$Search", "found", "I", false)
  | 2 => ("RiddleMill$Search", "tries", "I", false)
  | 3 => ("RiddleMill$Search", "values", "[I", true)
  | 4 => ("RiddleMill$Search", "only", "[I", true)
  | 5 => ("RiddleMill$Search", "first", "[I", true)
  | 6 => ("RiddleMill$Search", "without", "I", false)
  | 7 => ("RiddleMill$Search", "most", "I", false)
  | _ => ("RiddleMill$Search", "hasGivenUp", "Z", false)
def tyX8 : Nat → FieldType := fun k => match k with
  | 0 => .array (.array .int)
  | 1 => .int
  | 2 => .int
  | 3 => .array .int
  | 4 => .array .int
  | 5 => .array .int
  | 6 => .int
  | 7 => .int
  | _ => .boolean
abbrev wsX80 : List Cond := u_ws RX8 TX8 9
theorem nmX8 : ∀ a, a < 9 → ∀ b, b < 9 → a ≠ b → (TX8 a).2.1 ≠ (TX8 b).2.1 := by decide +kernel
theorem tyX8_ok : ∀ k, k < 9 → parseFieldDescriptor (TX8 k).2.2.1 = some (tyX8 k) := by decide +kernel
abbrev cX8_init : ByteArray := prog_10_method_1_code
def yX8_init : MethodName := ⟨RX8, "<init>", "()V"⟩
abbrev cX8_findInGrid : ByteArray := prog_10_method_2_code
def yX8_findInGrid : MethodName := ⟨RX8, "findInGrid", "(LRiddleMill$Puzzle;I)I"⟩
abbrev cX8_findsJustOne : ByteArray := prog_10_method_3_code
def yX8_findsJustOne : MethodName := ⟨RX8, "findsJustOne", "(LRiddleMill$Puzzle;I)Z"⟩
abbrev cX8_findsOneFrom : ByteArray := prog_10_method_4_code
def yX8_findsOneFrom : MethodName := ⟨RX8, "findsOneFrom", "(LRiddleMill$Puzzle;[I)Z"⟩
abbrev cX8_begin : ByteArray := prog_10_method_5_code
def yX8_begin : MethodName := ⟨RX8, "begin", "(II)V"⟩
abbrev cX8_endsFrom : ByteArray := prog_10_method_6_code
def yX8_endsFrom : MethodName := ⟨RX8, "endsFrom", "(LRiddleMill$Search;LRiddleMill$Puzzle;I)Z"⟩
abbrev cX8_choice : ByteArray := prog_10_method_7_code
def yX8_choice : MethodName := ⟨RX8, "choice", "(III)I"⟩
abbrev cX8_giveUp : ByteArray := prog_10_method_8_code
def yX8_giveUp : MethodName := ⟨RX8, "giveUp", "()V"⟩
abbrev cX8_keep : ByteArray := prog_10_method_9_code
def yX8_keep : MethodName := ⟨RX8, "keep", "()V"⟩
def RX9 : String := "RiddleMill$Tape"
def TX9 : u_T := fun k => match k with
  | 0 => ("RiddleMill$Tape", "length", "I", false)
  | _ => ("RiddleMill$Tape", "bytes", "[I", true)
def tyX9 : Nat → FieldType := fun k => match k with
  | 0 => .int
  | _ => .array .int
abbrev wsX90 : List Cond := u_ws RX9 TX9 2
theorem nmX9 : ∀ a, a < 2 → ∀ b, b < 2 → a ≠ b → (TX9 a).2.1 ≠ (TX9 b).2.1 := by decide +kernel
theorem tyX9_ok : ∀ k, k < 2 → parseFieldDescriptor (TX9 k).2.2.1 = some (tyX9 k) := by decide +kernel
abbrev cX9_init : ByteArray := prog_11_method_1_code
def yX9_init : MethodName := ⟨RX9, "<init>", "()V"⟩
abbrev cX9_appendFour : ByteArray := prog_11_method_2_code
def yX9_appendFour : MethodName := ⟨RX9, "appendFour", "(I)V"⟩
abbrev cX9_byteOrNone : ByteArray := prog_11_method_3_code
def yX9_byteOrNone : MethodName := ⟨RX9, "byteOrNone", "(I)I"⟩
def RX10 : String := "RiddleMill$Tokens"
def TX10 : u_T := fun k => match k with
  | 0 => ("RiddleMill$Tokens", "count", "I", false)
  | 1 => ("RiddleMill$Tokens", "types", "[I", true)
  | 2 => ("RiddleMill$Tokens", "starts", "[I", true)
  | _ => ("RiddleMill$Tokens", "numbers", "[I", true)
def tyX10 : Nat → FieldType := fun k => match k with
  | 0 => .int
  | 1 => .array .int
  | 2 => .array .int
  | _ => .array .int
abbrev wsX100 : List Cond := u_ws RX10 TX10 4
theorem nmX10 : ∀ a, a < 4 → ∀ b, b < 4 → a ≠ b → (TX10 a).2.1 ≠ (TX10 b).2.1 := by decide +kernel
theorem tyX10_ok : ∀ k, k < 4 → parseFieldDescriptor (TX10 k).2.2.1 = some (tyX10 k) := by decide +kernel
abbrev cX10_init : ByteArray := prog_12_method_1_code
def yX10_init : MethodName := ⟨RX10, "<init>", "()V"⟩
abbrev cX10_typeAt : ByteArray := prog_12_method_2_code
def yX10_typeAt : MethodName := ⟨RX10, "typeAt", "(I)I"⟩
abbrev cX10_startAt : ByteArray := prog_12_method_3_code
def yX10_startAt : MethodName := ⟨RX10, "startAt", "(I)I"⟩
abbrev cX10_numberAt : ByteArray := prog_12_method_4_code
def yX10_numberAt : MethodName := ⟨RX10, "numberAt", "(I)I"⟩
abbrev cX10_split : ByteArray := prog_12_method_5_code
def yX10_split : MethodName := ⟨RX10, "split", "(LRiddleMill$Tape;)V"⟩
abbrev cX10_add : ByteArray := prog_12_method_6_code
def yX10_add : MethodName := ⟨RX10, "add", "(III)V"⟩
abbrev cX10_addNumber : ByteArray := prog_12_method_7_code
def yX10_addNumber : MethodName := ⟨RX10, "addNumber", "(LRiddleMill$Tape;I)I"⟩
abbrev cX10_addWord : ByteArray := prog_12_method_8_code
def yX10_addWord : MethodName := ⟨RX10, "addWord", "(LRiddleMill$Tape;I)I"⟩
abbrev cX10_wordNumber : ByteArray := prog_12_method_9_code
def yX10_wordNumber : MethodName := ⟨RX10, "wordNumber", "(LRiddleMill$Tape;II)I"⟩
abbrev cX10_isWord : ByteArray := prog_12_method_10_code
def yX10_isWord : MethodName := ⟨RX10, "isWord", "(LRiddleMill$Tape;IILjava/lang/String;)Z"⟩
abbrev cX10_skipBlanks : ByteArray := prog_12_method_11_code
def yX10_skipBlanks : MethodName := ⟨RX10, "skipBlanks", "(LRiddleMill$Tape;I)I"⟩
abbrev cX10_isBlank : ByteArray := prog_12_method_12_code
def yX10_isBlank : MethodName := ⟨RX10, "isBlank", "(I)Z"⟩
abbrev cX10_isDigit : ByteArray := prog_12_method_13_code
def yX10_isDigit : MethodName := ⟨RX10, "isDigit", "(I)Z"⟩
abbrev cX10_isLetter : ByteArray := prog_12_method_14_code
def yX10_isLetter : MethodName := ⟨RX10, "isLetter", "(I)Z"⟩
def RX11 : String := "RiddleMill"
def TX11 : u_T := fun k => match k with
  | 0 => ("RiddleMill", "tape", "LRiddleMill$Tape;", true)
  | 1 => ("RiddleMill", "reader", "LRiddleMill$PuzzleReader;", true)
  | 2 => ("RiddleMill", "paper", "LRiddleMill$Paper;", true)
  | 3 => ("RiddleMill", "kept", "LRiddleMill$Search;", true)
  | 4 => ("RiddleMill", "probe", "LRiddleMill$Search;", true)
  | 5 => ("RiddleMill", "reasoner", "LRiddleMill$Reasoner;", true)
  | 6 => ("RiddleMill", "maker", "LRiddleMill$Maker;", true)
  | 7 => ("RiddleMill", "puzzle", "LRiddleMill$Puzzle;", false)
  | _ => ("RiddleMill", "draft", "LRiddleMill$Puzzle;", false)
def tyX11 : Nat → FieldType := fun k => match k with
  | 0 => .object "RiddleMill$Tape"
  | 1 => .object "RiddleMill$PuzzleReader"
  | 2 => .object "RiddleMill$Paper"
  | 3 => .object "RiddleMill$Search"
  | 4 => .object "RiddleMill$Search"
  | 5 => .object "RiddleMill$Reasoner"
  | 6 => .object "RiddleMill$Maker"
  | 7 => .object "RiddleMill$Puzzle"
  | _ => .object "RiddleMill$Puzzle"
abbrev wsX110 : List Cond := u_ws RX11 TX11 9
theorem nmX11 : ∀ a, a < 9 → ∀ b, b < 9 → a ≠ b → (TX11 a).2.1 ≠ (TX11 b).2.1 := by decide +kernel
theorem tyX11_ok : ∀ k, k < 9 → parseFieldDescriptor (TX11 k).2.2.1 = some (tyX11 k) := by decide +kernel
abbrev cX11_init : ByteArray := prog_1_method_1_code
def yX11_init : MethodName := ⟨RX11, "<init>", "()V"⟩
abbrev cX11_feed : ByteArray := prog_1_method_2_code
def yX11_feed : MethodName := ⟨RX11, "feed", "(IIIII)I"⟩
abbrev cX11_trim : ByteArray := prog_1_method_3_code
def yX11_trim : MethodName := ⟨RX11, "trim", "(I)I"⟩
abbrev cX11_compile : ByteArray := prog_1_method_4_code
def yX11_compile : MethodName := ⟨RX11, "compile", "()I"⟩
abbrev cX11_count : ByteArray := prog_1_method_6_code
def yX11_count : MethodName := ⟨RX11, "count", "(I)I"⟩
abbrev cX11_rule : ByteArray := prog_1_method_7_code
def yX11_rule : MethodName := ⟨RX11, "rule", "(II)I"⟩
abbrev cX11_drop : ByteArray := prog_1_method_8_code
def yX11_drop : MethodName := ⟨RX11, "drop", "(I)I"⟩
abbrev cX11_write : ByteArray := prog_1_method_9_code
def yX11_write : MethodName := ⟨RX11, "write", "()I"⟩
abbrev cX11_byteAt : ByteArray := prog_1_method_10_code
def yX11_byteAt : MethodName := ⟨RX11, "byteAt", "(I)I"⟩
abbrev cX11_put : ByteArray := prog_1_method_11_code
def yX11_put : MethodName := ⟨RX11, "put", "(II)I"⟩
abbrev cX11_value : ByteArray := prog_1_method_12_code
def yX11_value : MethodName := ⟨RX11, "value", "(I)I"⟩
abbrev cX11_search : ByteArray := prog_1_method_14_code
def yX11_search : MethodName := ⟨RX11, "search", "(I)I"⟩
abbrev cX11_solution : ByteArray := prog_1_method_15_code
def yX11_solution : MethodName := ⟨RX11, "solution", "(II)I"⟩
abbrev cX11_isNeeded : ByteArray := prog_1_method_16_code
def yX11_isNeeded : MethodName := ⟨RX11, "isNeeded", "(I)Z"⟩
abbrev cX11_look : ByteArray := prog_1_method_17_code
def yX11_look : MethodName := ⟨RX11, "look", "()I"⟩
abbrev cX11_possible : ByteArray := prog_1_method_18_code
def yX11_possible : MethodName := ⟨RX11, "possible", "(I)I"⟩
abbrev cX11_hint : ByteArray := prog_1_method_19_code
def yX11_hint : MethodName := ⟨RX11, "hint", "(I)I"⟩
abbrev cX11_reason : ByteArray := prog_1_method_21_code
def yX11_reason : MethodName := ⟨RX11, "reason", "()I"⟩
abbrev cX11_reasoned : ByteArray := prog_1_method_22_code
def yX11_reasoned : MethodName := ⟨RX11, "reasoned", "(I)I"⟩
abbrev cX11_make : ByteArray := prog_1_method_23_code
def yX11_make : MethodName := ⟨RX11, "make", "(I)I"⟩
abbrev cX11_change : ByteArray := prog_1_method_24_code
def yX11_change : MethodName := ⟨RX11, "change", "(I)I"⟩
abbrev cX11_doubt : ByteArray := prog_1_method_25_code
def yX11_doubt : MethodName := ⟨RX11, "doubt", "()D"⟩
abbrev cX11_digest : ByteArray := prog_1_method_26_code
def yX11_digest : MethodName := ⟨RX11, "digest", "()J"⟩
abbrev cX11_requirePuzzle : ByteArray := prog_1_method_27_code
def yX11_requirePuzzle : MethodName := ⟨RX11, "requirePuzzle", "()V"⟩
abbrev cX11_requireRule : ByteArray := prog_1_method_28_code
def yX11_requireRule : MethodName := ⟨RX11, "requireRule", "(I)V"⟩
abbrev cX11_requireCell : ByteArray := prog_1_method_29_code
def yX11_requireCell : MethodName := ⟨RX11, "requireCell", "(I)V"⟩
abbrev cX11_takeDraft : ByteArray := prog_1_method_30_code
def yX11_takeDraft : MethodName := ⟨RX11, "takeDraft", "()V"⟩
def RX12 : String := "RiddleMillModel"
def TX12 : u_T := fun k => match k with
  | _ => ("", "", "", false)
def tyX12 : Nat → FieldType := fun k => match k with
  | _ => .int
abbrev wsX120 : List Cond := u_ws RX12 TX12 0
theorem nmX12 : ∀ a, a < 0 → ∀ b, b < 0 → a ≠ b → (TX12 a).2.1 ≠ (TX12 b).2.1 := by decide +kernel
theorem tyX12_ok : ∀ k, k < 0 → parseFieldDescriptor (TX12 k).2.2.1 = some (tyX12 k) := by decide +kernel
def RJx29ce0 : String := "java/lang/Enum"
def TJx29ce0 : u_T := fun k => match k with
  | _ => ("", "", "", false)
def tyJx29ce0 : Nat → FieldType := fun k => match k with
  | _ => .int
abbrev wsJx29ce00 : List Cond := u_ws RJx29ce0 TJx29ce0 0
theorem nmJx29ce0 : ∀ a, a < 0 → ∀ b, b < 0 → a ≠ b → (TJx29ce0 a).2.1 ≠ (TJx29ce0 b).2.1 := by decide +kernel
theorem tyJx29ce0_ok : ∀ k, k < 0 → parseFieldDescriptor (TJx29ce0 k).2.2.1 = some (tyJx29ce0 k) := by decide +kernel
abbrev cJx29ce0_ordinal_8abf5 : ByteArray := prog_15_method_2_code
def yJx29ce0_ordinal_8abf5 : MethodName := ⟨RJx29ce0, "ordinal", "()I"⟩
def RJ6 : String := "java/lang/Integer"
def TJ6 : u_T := fun k => match k with
  | _ => ("", "", "", false)
def tyJ6 : Nat → FieldType := fun k => match k with
  | _ => .int
abbrev wsJ60 : List Cond := u_ws RJ6 TJ6 0
theorem nmJ6 : ∀ a, a < 0 → ∀ b, b < 0 → a ≠ b → (TJ6 a).2.1 ≠ (TJ6 b).2.1 := by decide +kernel
theorem tyJ6_ok : ∀ k, k < 0 → parseFieldDescriptor (TJ6 k).2.2.1 = some (tyJ6 k) := by decide +kernel
abbrev cJ6_bitCount_0f7a4 : ByteArray := prog_20_method_49_code
def yJ6_bitCount_0f7a4 : MethodName := ⟨RJ6, "bitCount", "(I)I"⟩
def RJ9 : String := "java/lang/Math"
def TJ9 : u_T := fun k => match k with
  | _ => ("", "", "", false)
def tyJ9 : Nat → FieldType := fun k => match k with
  | _ => .int
abbrev wsJ90 : List Cond := u_ws RJ9 TJ9 0
theorem nmJ9 : ∀ a, a < 0 → ∀ b, b < 0 → a ≠ b → (TJ9 a).2.1 ≠ (TJ9 b).2.1 := by decide +kernel
theorem tyJ9_ok : ∀ k, k < 0 → parseFieldDescriptor (TJ9 k).2.2.1 = some (tyJ9 k) := by decide +kernel
abbrev cJ9_abs_0f7a4 : ByteArray := prog_21_method_59_code
def yJ9_abs_0f7a4 : MethodName := ⟨RJ9, "abs", "(I)I"⟩
abbrev cJ9_max_7cf53 : ByteArray := prog_21_method_65_code
def yJ9_max_7cf53 : MethodName := ⟨RJ9, "max", "(II)I"⟩
def RJ0 : String := "java/lang/String"
def TJ0 : u_T := fun k => match k with
  | _ => ("", "", "", false)
def tyJ0 : Nat → FieldType := fun k => match k with
  | _ => .int
abbrev wsJ00 : List Cond := u_ws RJ0 TJ0 0
theorem nmJ0 : ∀ a, a < 0 → ∀ b, b < 0 → a ≠ b → (TJ0 a).2.1 ≠ (TJ0 b).2.1 := by decide +kernel
theorem tyJ0_ok : ∀ k, k < 0 → parseFieldDescriptor (TJ0 k).2.2.1 = some (tyJ0 k) := by decide +kernel
abbrev cJ0_length_8abf5 : ByteArray := prog_23_method_54_code
def yJ0_length_8abf5 : MethodName := ⟨RJ0, "length", "()I"⟩
abbrev cJ0_charAt_5068e : ByteArray := prog_23_method_56_code
def yJ0_charAt_5068e : MethodName := ⟨RJ0, "charAt", "(I)C"⟩
abbrev cJ0_coder_7d493 : ByteArray := prog_23_method_152_code
def yJ0_coder_7d493 : MethodName := ⟨RJ0, "coder", "()B"⟩
abbrev cJ0_isLatin1_aae02 : ByteArray := prog_23_method_154_code
def yJ0_isLatin1_aae02 : MethodName := ⟨RJ0, "isLatin1", "()Z"⟩
abbrev cJ0_checkIndex_df160 : ByteArray := prog_23_method_155_code
def yJ0_checkIndex_df160 : MethodName := ⟨RJ0, "checkIndex", "(II)V"⟩
def RJ1 : String := "java/lang/StringLatin1"
def TJ1 : u_T := fun k => match k with
  | _ => ("", "", "", false)
def tyJ1 : Nat → FieldType := fun k => match k with
  | _ => .int
abbrev wsJ10 : List Cond := u_ws RJ1 TJ1 0
theorem nmJ1 : ∀ a, a < 0 → ∀ b, b < 0 → a ≠ b → (TJ1 a).2.1 ≠ (TJ1 b).2.1 := by decide +kernel
theorem tyJ1_ok : ∀ k, k < 0 → parseFieldDescriptor (TJ1 k).2.2.1 = some (tyJ1 k) := by decide +kernel
abbrev cJ1_charAt_3b067 : ByteArray := prog_24_method_2_code
def yJ1_charAt_3b067 : MethodName := ⟨RJ1, "charAt", "([BI)C"⟩
def RJ2 : String := "java/lang/StringUTF16"
def TJ2 : u_T := fun k => match k with
  | _ => ("", "", "", false)
def tyJ2 : Nat → FieldType := fun k => match k with
  | _ => .int
abbrev wsJ20 : List Cond := u_ws RJ2 TJ2 0
theorem nmJ2 : ∀ a, a < 0 → ∀ b, b < 0 → a ≠ b → (TJ2 a).2.1 ≠ (TJ2 b).2.1 := by decide +kernel
theorem tyJ2_ok : ∀ k, k < 0 → parseFieldDescriptor (TJ2 k).2.2.1 = some (tyJ2 k) := by decide +kernel
abbrev cJ2_getChar_3b067 : ByteArray := prog_25_method_5_code
def yJ2_getChar_3b067 : MethodName := ⟨RJ2, "getChar", "([BI)C"⟩
abbrev cJ2_length_9d52b : ByteArray := prog_25_method_6_code
def yJ2_length_9d52b : MethodName := ⟨RJ2, "length", "([B)I"⟩
abbrev cJ2_charAt_3b067 : ByteArray := prog_25_method_83_code
def yJ2_charAt_3b067 : MethodName := ⟨RJ2, "charAt", "([BI)C"⟩
abbrev cJ2_checkIndex_2214a : ByteArray := prog_25_method_91_code
def yJ2_checkIndex_2214a : MethodName := ⟨RJ2, "checkIndex", "(I[B)V"⟩
def RJ3 : String := "jdk/internal/util/Preconditions"
def TJ3 : u_T := fun k => match k with
  | _ => ("", "", "", false)
def tyJ3 : Nat → FieldType := fun k => match k with
  | _ => .int
abbrev wsJ30 : List Cond := u_ws RJ3 TJ3 0
theorem nmJ3 : ∀ a, a < 0 → ∀ b, b < 0 → a ≠ b → (TJ3 a).2.1 ≠ (TJ3 b).2.1 := by decide +kernel
theorem tyJ3_ok : ∀ k, k < 0 → parseFieldDescriptor (TJ3 k).2.2.1 = some (tyJ3 k) := by decide +kernel
abbrev cJ3_checkIndex_8e157 : ByteArray := prog_27_method_11_code
def yJ3_checkIndex_8e157 : MethodName := ⟨RJ3, "checkIndex", "(IILjava/util/function/BiFunction;)I"⟩
def RL : String := "RiddleMillLaw"
abbrev cL_below : ByteArray := method_2_code
def yL_below : MethodName := ⟨RL, "below", "(II)I"⟩
abbrev cL_cell : ByteArray := method_3_code
def yL_cell : MethodName := ⟨RL, "cell", "([II)I"⟩
abbrev cL_put : ByteArray := method_4_code
def yL_put : MethodName := ⟨RL, "put", "([ILjava/lang/String;)V"⟩
abbrev cL_lay : ByteArray := method_6_code
def yL_lay : MethodName := ⟨RL, "lay", "(LRiddleMill;[I)Z"⟩
abbrev cL_holds : ByteArray := method_8_code
def yL_holds : MethodName := ⟨RL, "holds", "(LRiddleMill;I[I)Z"⟩
abbrev cL_law : ByteArray := code
def yL_law : MethodName := ⟨RL, "law", "([I)Z"⟩
abbrev cL_noneBroken : ByteArray := method_10_code
def yL_noneBroken : MethodName := ⟨RL, "noneBroken", "(LRiddleMill;)Z"⟩
abbrev vwCl : List vw_C := [(RX2, TX2, 2), (RX3, TX3, 2), (RX4, TX4, 7), (RX5, TX5, 4), (RX6, TX6, 8), (RX7, TX7, 6), (RX8, TX8, 9), (RX9, TX9, 2), (RX10, TX10, 4), (RX11, TX11, 9)]
