def RX0 : String := "RankCalc$Bench"
def TX0 : u_T := fun k => match k with
  | 0 => ("RankCalc$Bench", "values", "[LRankCalc$Grid;", true)
  | 1 => ("RankCalc$Bench", "waiting", "[I", true)
  | 2 => ("RankCalc$Bench", "row", "[I", true)
  | 3 => ("RankCalc$Bench", "spare", "LRankCalc$Grid;", false)
  | 4 => ("RankCalc$Bench", "height", "I", false)
  | 5 => ("RankCalc$Bench", "level", "I", false)
  | _ => ("RankCalc$Bench", "finished", "I", false)
def tyX0 : Nat → FieldType := fun k => match k with
  | 0 => .array (.object "RankCalc$Grid")
  | 1 => .array .int
  | 2 => .array .int
  | 3 => .object "RankCalc$Grid"
  | 4 => .int
  | 5 => .int
  | _ => .int
abbrev wsX00 : List Cond := u_ws RX0 TX0 7
theorem nmX0 : ∀ a, a < 7 → ∀ b, b < 7 → a ≠ b → (TX0 a).2.1 ≠ (TX0 b).2.1 := by decide +kernel
theorem tyX0_ok : ∀ k, k < 7 → parseFieldDescriptor (TX0 k).2.2.1 = some (tyX0 k) := by decide +kernel
abbrev cX0_init : ByteArray := prog_2_method_1_code
def yX0_init : MethodName := ⟨RX0, "<init>", "()V"⟩
abbrev cX0_evaluate : ByteArray := prog_2_method_2_code
def yX0_evaluate : MethodName := ⟨RX0, "evaluate", "(LRankCalc$Statement;LRankCalc$Names;)LRankCalc$Grid;"⟩
abbrev cX0_endsTerm : ByteArray := prog_2_method_3_code
def yX0_endsTerm : MethodName := ⟨RX0, "endsTerm", "(LRankCalc$Statement;ILRankCalc$Names;)Z"⟩
abbrev cX0_pushNumbers : ByteArray := prog_2_method_4_code
def yX0_pushNumbers : MethodName := ⟨RX0, "pushNumbers", "(LRankCalc$Statement;I)V"⟩
abbrev cX0_workOnOne : ByteArray := prog_2_method_5_code
def yX0_workOnOne : MethodName := ⟨RX0, "workOnOne", "(LRankCalc$Statement;I)V"⟩
abbrev cX0_workOnTwo : ByteArray := prog_2_method_6_code
def yX0_workOnTwo : MethodName := ⟨RX0, "workOnTwo", "(LRankCalc$Statement;I)V"⟩
abbrev cX0_putSpare : ByteArray := prog_2_method_7_code
def yX0_putSpare : MethodName := ⟨RX0, "putSpare", "()V"⟩
def RX1 : String := "RankCalc$Grid"
def TX1 : u_T := fun k => match k with
  | 0 => ("RankCalc$Grid", "lengths", "[I", true)
  | 1 => ("RankCalc$Grid", "cells", "[I", true)
  | 2 => ("RankCalc$Grid", "axes", "I", false)
  | _ => ("RankCalc$Grid", "count", "I", false)
def tyX1 : Nat → FieldType := fun k => match k with
  | 0 => .array .int
  | 1 => .array .int
  | 2 => .int
  | _ => .int
abbrev wsX10 : List Cond := u_ws RX1 TX1 4
theorem nmX1 : ∀ a, a < 4 → ∀ b, b < 4 → a ≠ b → (TX1 a).2.1 ≠ (TX1 b).2.1 := by decide +kernel
theorem tyX1_ok : ∀ k, k < 4 → parseFieldDescriptor (TX1 k).2.2.1 = some (tyX1 k) := by decide +kernel
abbrev cX1_init : ByteArray := prog_3_method_1_code
def yX1_init : MethodName := ⟨RX1, "<init>", "()V"⟩
abbrev cX1_restart : ByteArray := prog_3_method_2_code
def yX1_restart : MethodName := ⟨RX1, "restart", "()V"⟩
abbrev cX1_addAxis : ByteArray := prog_3_method_3_code
def yX1_addAxis : MethodName := ⟨RX1, "addAxis", "(I)V"⟩
abbrev cX1_addAxesOf : ByteArray := prog_3_method_4_code
def yX1_addAxesOf : MethodName := ⟨RX1, "addAxesOf", "(LRankCalc$Grid;II)V"⟩
abbrev cX1_endAxes : ByteArray := prog_3_method_5_code
def yX1_endAxes : MethodName := ⟨RX1, "endAxes", "()V"⟩
abbrev cX1_shapeLike : ByteArray := prog_3_method_6_code
def yX1_shapeLike : MethodName := ⟨RX1, "shapeLike", "(LRankCalc$Grid;)V"⟩
abbrev cX1_copy : ByteArray := prog_3_method_7_code
def yX1_copy : MethodName := ⟨RX1, "copy", "(LRankCalc$Grid;)V"⟩
abbrev cX1_span : ByteArray := prog_3_method_8_code
def yX1_span : MethodName := ⟨RX1, "span", "(II)I"⟩
abbrev cX1_isScalar : ByteArray := prog_3_method_9_code
def yX1_isScalar : MethodName := ⟨RX1, "isScalar", "()Z"⟩
abbrev cX1_rowLength : ByteArray := prog_3_method_10_code
def yX1_rowLength : MethodName := ⟨RX1, "rowLength", "()I"⟩
abbrev cX1_cellFor : ByteArray := prog_3_method_11_code
def yX1_cellFor : MethodName := ⟨RX1, "cellFor", "(I)I"⟩
def RX2 : String := "RankCalc$Names"
def TX2 : u_T := fun k => match k with
  | 0 => ("RankCalc$Names", "grids", "[LRankCalc$Grid;", true)
  | _ => ("RankCalc$Names", "taken", "[Z", true)
def tyX2 : Nat → FieldType := fun k => match k with
  | 0 => .array (.object "RankCalc$Grid")
  | _ => .array .boolean
abbrev wsX20 : List Cond := u_ws RX2 TX2 2
theorem nmX2 : ∀ a, a < 2 → ∀ b, b < 2 → a ≠ b → (TX2 a).2.1 ≠ (TX2 b).2.1 := by decide +kernel
theorem tyX2_ok : ∀ k, k < 2 → parseFieldDescriptor (TX2 k).2.2.1 = some (tyX2 k) := by decide +kernel
abbrev cX2_init : ByteArray := prog_4_method_1_code
def yX2_init : MethodName := ⟨RX2, "<init>", "()V"⟩
abbrev cX2_has : ByteArray := prog_4_method_2_code
def yX2_has : MethodName := ⟨RX2, "has", "(I)Z"⟩
abbrev cX2_put : ByteArray := prog_4_method_3_code
def yX2_put : MethodName := ⟨RX2, "put", "(ILRankCalc$Grid;)V"⟩
abbrev cX2_find : ByteArray := prog_4_method_4_code
def yX2_find : MethodName := ⟨RX2, "find", "(I)LRankCalc$Grid;"⟩
def RX3 : String := "RankCalc$Numbers"
def TX3 : u_T := fun k => match k with
  | _ => ("", "", "", false)
def tyX3 : Nat → FieldType := fun k => match k with
  | _ => .int
abbrev wsX30 : List Cond := u_ws RX3 TX3 0
theorem nmX3 : ∀ a, a < 0 → ∀ b, b < 0 → a ≠ b → (TX3 a).2.1 ≠ (TX3 b).2.1 := by decide +kernel
theorem tyX3_ok : ∀ k, k < 0 → parseFieldDescriptor (TX3 k).2.2.1 = some (tyX3 k) := by decide +kernel
abbrev cX3_fit : ByteArray := prog_5_method_2_code
def yX3_fit : MethodName := ⟨RX3, "fit", "(J)I"⟩
abbrev cX3_needDivides : ByteArray := prog_5_method_3_code
def yX3_needDivides : MethodName := ⟨RX3, "needDivides", "(II)V"⟩
abbrev cX3_work : ByteArray := prog_5_method_4_code
def yX3_work : MethodName := ⟨RX3, "work", "(CII)I"⟩
abbrev cX3_workAlone : ByteArray := prog_5_method_5_code
def yX3_workAlone : MethodName := ⟨RX3, "workAlone", "(CI)I"⟩
abbrev cX3_fold : ByteArray := prog_5_method_6_code
def yX3_fold : MethodName := ⟨RX3, "fold", "(C[III)I"⟩
abbrev cX3_ofNothing : ByteArray := prog_5_method_7_code
def yX3_ofNothing : MethodName := ⟨RX3, "ofNothing", "(C)I"⟩
abbrev cX3_eachOfOne : ByteArray := prog_5_method_8_code
def yX3_eachOfOne : MethodName := ⟨RX3, "eachOfOne", "(CLRankCalc$Grid;LRankCalc$Grid;)V"⟩
abbrev cX3_each : ByteArray := prog_5_method_9_code
def yX3_each : MethodName := ⟨RX3, "each", "(CLRankCalc$Grid;LRankCalc$Grid;LRankCalc$Grid;)V"⟩
abbrev cX3_needSameShape : ByteArray := prog_5_method_10_code
def yX3_needSameShape : MethodName := ⟨RX3, "needSameShape", "(LRankCalc$Grid;LRankCalc$Grid;)V"⟩
abbrev cX3_reduce : ByteArray := prog_5_method_11_code
def yX3_reduce : MethodName := ⟨RX3, "reduce", "(CLRankCalc$Grid;LRankCalc$Grid;)V"⟩
abbrev cX3_scan : ByteArray := prog_5_method_12_code
def yX3_scan : MethodName := ⟨RX3, "scan", "(CLRankCalc$Grid;LRankCalc$Grid;)V"⟩
abbrev cX3_inner : ByteArray := prog_5_method_13_code
def yX3_inner : MethodName := ⟨RX3, "inner", "(CCLRankCalc$Grid;LRankCalc$Grid;LRankCalc$Grid;[I)V"⟩
abbrev cX3_outer : ByteArray := prog_5_method_14_code
def yX3_outer : MethodName := ⟨RX3, "outer", "(CLRankCalc$Grid;LRankCalc$Grid;LRankCalc$Grid;)V"⟩
def RX4 : String := "RankCalc$Shapes"
def TX4 : u_T := fun k => match k with
  | _ => ("", "", "", false)
def tyX4 : Nat → FieldType := fun k => match k with
  | _ => .int
abbrev wsX40 : List Cond := u_ws RX4 TX4 0
theorem nmX4 : ∀ a, a < 0 → ∀ b, b < 0 → a ≠ b → (TX4 a).2.1 ≠ (TX4 b).2.1 := by decide +kernel
theorem tyX4_ok : ∀ k, k < 0 → parseFieldDescriptor (TX4 k).2.2.1 = some (tyX4 k) := by decide +kernel
abbrev cX4_ofOne : ByteArray := prog_6_method_2_code
def yX4_ofOne : MethodName := ⟨RX4, "ofOne", "(CLRankCalc$Grid;LRankCalc$Grid;)V"⟩
abbrev cX4_ofTwo : ByteArray := prog_6_method_3_code
def yX4_ofTwo : MethodName := ⟨RX4, "ofTwo", "(CLRankCalc$Grid;LRankCalc$Grid;LRankCalc$Grid;)V"⟩
abbrev cX4_upTo : ByteArray := prog_6_method_4_code
def yX4_upTo : MethodName := ⟨RX4, "upTo", "(LRankCalc$Grid;LRankCalc$Grid;)V"⟩
abbrev cX4_lengthsOf : ByteArray := prog_6_method_5_code
def yX4_lengthsOf : MethodName := ⟨RX4, "lengthsOf", "(LRankCalc$Grid;LRankCalc$Grid;)V"⟩
abbrev cX4_turnAxes : ByteArray := prog_6_method_6_code
def yX4_turnAxes : MethodName := ⟨RX4, "turnAxes", "(LRankCalc$Grid;LRankCalc$Grid;)V"⟩
abbrev cX4_turnRows : ByteArray := prog_6_method_7_code
def yX4_turnRows : MethodName := ⟨RX4, "turnRows", "(LRankCalc$Grid;LRankCalc$Grid;)V"⟩
abbrev cX4_reshape : ByteArray := prog_6_method_8_code
def yX4_reshape : MethodName := ⟨RX4, "reshape", "(LRankCalc$Grid;LRankCalc$Grid;LRankCalc$Grid;)V"⟩
abbrev cX4_join : ByteArray := prog_6_method_9_code
def yX4_join : MethodName := ⟨RX4, "join", "(LRankCalc$Grid;LRankCalc$Grid;LRankCalc$Grid;)V"⟩
abbrev cX4_needJoinable : ByteArray := prog_6_method_10_code
def yX4_needJoinable : MethodName := ⟨RX4, "needJoinable", "(LRankCalc$Grid;LRankCalc$Grid;I)V"⟩
abbrev cX4_pick : ByteArray := prog_6_method_11_code
def yX4_pick : MethodName := ⟨RX4, "pick", "(LRankCalc$Grid;LRankCalc$Grid;LRankCalc$Grid;)V"⟩
def RX5 : String := "RankCalc$Statement"
def TX5 : u_T := fun k => match k with
  | 0 => ("RankCalc$Statement", "text", "LRankCalc$Text;", true)
  | 1 => ("RankCalc$Statement", "kinds", "[I", true)
  | 2 => ("RankCalc$Statement", "places", "[I", true)
  | 3 => ("RankCalc$Statement", "amounts", "[I", true)
  | 4 => ("RankCalc$Statement", "signs", "[C", true)
  | 5 => ("RankCalc$Statement", "forms", "[C", true)
  | 6 => ("RankCalc$Statement", "seconds", "[C", true)
  | 7 => ("RankCalc$Statement", "numbers", "[I", true)
  | 8 => ("RankCalc$Statement", "steps", "I", false)
  | 9 => ("RankCalc$Statement", "numberCount", "I", false)
  | 10 => ("RankCalc$Statement", "target", "I", false)
  | 11 => ("RankCalc$Statement", "at", "I", false)
  | 12 => ("RankCalc$Statement", "depth", "I", false)
  | _ => ("RankCalc$Statement", "wanting", "Z", false)
def tyX5 : Nat → FieldType := fun k => match k with
  | 0 => .object "RankCalc$Text"
  | 1 => .array .int
  | 2 => .array .int
  | 3 => .array .int
  | 4 => .array .char
  | 5 => .array .char
  | 6 => .array .char
  | 7 => .array .int
  | 8 => .int
  | 9 => .int
  | 10 => .int
  | 11 => .int
  | 12 => .int
  | _ => .boolean
abbrev wsX50 : List Cond := u_ws RX5 TX5 14
theorem nmX5 : ∀ a, a < 14 → ∀ b, b < 14 → a ≠ b → (TX5 a).2.1 ≠ (TX5 b).2.1 := by decide +kernel
theorem tyX5_ok : ∀ k, k < 14 → parseFieldDescriptor (TX5 k).2.2.1 = some (tyX5 k) := by decide +kernel
abbrev cX5_init : ByteArray := prog_7_method_1_code
def yX5_init : MethodName := ⟨RX5, "<init>", "()V"⟩
abbrev cX5_read : ByteArray := prog_7_method_2_code
def yX5_read : MethodName := ⟨RX5, "read", "()Z"⟩
abbrev cX5_readTarget : ByteArray := prog_7_method_3_code
def yX5_readTarget : MethodName := ⟨RX5, "readTarget", "()V"⟩
abbrev cX5_readStart : ByteArray := prog_7_method_4_code
def yX5_readStart : MethodName := ⟨RX5, "readStart", "()Z"⟩
abbrev cX5_readBehindTerm : ByteArray := prog_7_method_5_code
def yX5_readBehindTerm : MethodName := ⟨RX5, "readBehindTerm", "()Z"⟩
abbrev cX5_readFunctionOfOne : ByteArray := prog_7_method_6_code
def yX5_readFunctionOfOne : MethodName := ⟨RX5, "readFunctionOfOne", "(C)Z"⟩
abbrev cX5_readFunctionOfTwo : ByteArray := prog_7_method_7_code
def yX5_readFunctionOfTwo : MethodName := ⟨RX5, "readFunctionOfTwo", "(C)Z"⟩
abbrev cX5_readNumbers : ByteArray := prog_7_method_8_code
def yX5_readNumbers : MethodName := ⟨RX5, "readNumbers", "()Z"⟩
abbrev cX5_readNumber : ByteArray := prog_7_method_9_code
def yX5_readNumber : MethodName := ⟨RX5, "readNumber", "()Z"⟩
abbrev cX5_skipBlanks : ByteArray := prog_7_method_10_code
def yX5_skipBlanks : MethodName := ⟨RX5, "skipBlanks", "()V"⟩
abbrev cX5_addStep : ByteArray := prog_7_method_11_code
def yX5_addStep : MethodName := ⟨RX5, "addStep", "(I)V"⟩
abbrev cX5_addFunction : ByteArray := prog_7_method_12_code
def yX5_addFunction : MethodName := ⟨RX5, "addFunction", "(ICCC)V"⟩
abbrev cX5_isDigit : ByteArray := prog_7_method_13_code
def yX5_isDigit : MethodName := ⟨RX5, "isDigit", "(C)Z"⟩
abbrev cX5_isName : ByteArray := prog_7_method_14_code
def yX5_isName : MethodName := ⟨RX5, "isName", "(C)Z"⟩
abbrev cX5_isNumberFunction : ByteArray := prog_7_method_15_code
def yX5_isNumberFunction : MethodName := ⟨RX5, "isNumberFunction", "(C)Z"⟩
def RX6 : String := "RankCalc$Text"
def TX6 : u_T := fun k => match k with
  | 0 => ("RankCalc$Text", "codes", "[C", true)
  | _ => ("RankCalc$Text", "length", "I", false)
def tyX6 : Nat → FieldType := fun k => match k with
  | 0 => .array .char
  | _ => .int
abbrev wsX60 : List Cond := u_ws RX6 TX6 2
theorem nmX6 : ∀ a, a < 2 → ∀ b, b < 2 → a ≠ b → (TX6 a).2.1 ≠ (TX6 b).2.1 := by decide +kernel
theorem tyX6_ok : ∀ k, k < 2 → parseFieldDescriptor (TX6 k).2.2.1 = some (tyX6 k) := by decide +kernel
abbrev cX6_init : ByteArray := prog_8_method_1_code
def yX6_init : MethodName := ⟨RX6, "<init>", "()V"⟩
abbrev cX6_append : ByteArray := prog_8_method_2_code
def yX6_append : MethodName := ⟨RX6, "append", "(I)I"⟩
abbrev cX6_leadingCodes : ByteArray := prog_8_method_3_code
def yX6_leadingCodes : MethodName := ⟨RX6, "leadingCodes", "(I)I"⟩
abbrev cX6_codeAt : ByteArray := prog_8_method_4_code
def yX6_codeAt : MethodName := ⟨RX6, "codeAt", "(I)C"⟩
def RX7 : String := "RankCalc"
def TX7 : u_T := fun k => match k with
  | 0 => ("RankCalc", "statement", "LRankCalc$Statement;", true)
  | 1 => ("RankCalc", "names", "LRankCalc$Names;", true)
  | 2 => ("RankCalc", "bench", "LRankCalc$Bench;", true)
  | _ => ("RankCalc", "result", "LRankCalc$Grid;", true)
def tyX7 : Nat → FieldType := fun k => match k with
  | 0 => .object "RankCalc$Statement"
  | 1 => .object "RankCalc$Names"
  | 2 => .object "RankCalc$Bench"
  | _ => .object "RankCalc$Grid"
abbrev wsX70 : List Cond := u_ws RX7 TX7 4
theorem nmX7 : ∀ a, a < 4 → ∀ b, b < 4 → a ≠ b → (TX7 a).2.1 ≠ (TX7 b).2.1 := by decide +kernel
theorem tyX7_ok : ∀ k, k < 4 → parseFieldDescriptor (TX7 k).2.2.1 = some (tyX7 k) := by decide +kernel
abbrev cX7_init : ByteArray := prog_1_method_1_code
def yX7_init : MethodName := ⟨RX7, "<init>", "()V"⟩
abbrev cX7_feed : ByteArray := prog_1_method_2_code
def yX7_feed : MethodName := ⟨RX7, "feed", "(I)I"⟩
abbrev cX7_clear : ByteArray := prog_1_method_3_code
def yX7_clear : MethodName := ⟨RX7, "clear", "()V"⟩
abbrev cX7_run : ByteArray := prog_1_method_4_code
def yX7_run : MethodName := ⟨RX7, "run", "()I"⟩
abbrev cX7_rank : ByteArray := prog_1_method_5_code
def yX7_rank : MethodName := ⟨RX7, "rank", "()I"⟩
abbrev cX7_axis : ByteArray := prog_1_method_6_code
def yX7_axis : MethodName := ⟨RX7, "axis", "(I)I"⟩
abbrev cX7_size : ByteArray := prog_1_method_7_code
def yX7_size : MethodName := ⟨RX7, "size", "()I"⟩
abbrev cX7_element : ByteArray := prog_1_method_8_code
def yX7_element : MethodName := ⟨RX7, "element", "(I)J"⟩
abbrev cX7_sum : ByteArray := prog_1_method_9_code
def yX7_sum : MethodName := ⟨RX7, "sum", "()J"⟩
abbrev cX7_held : ByteArray := prog_1_method_10_code
def yX7_held : MethodName := ⟨RX7, "held", "(I)I"⟩
abbrev cX7_forget : ByteArray := prog_1_method_11_code
def yX7_forget : MethodName := ⟨RX7, "forget", "(I)Z"⟩
abbrev cX7_done : ByteArray := prog_1_method_12_code
def yX7_done : MethodName := ⟨RX7, "done", "()I"⟩
def RX8 : String := "RankCalcModel"
def TX8 : u_T := fun k => match k with
  | 0 => ("RankCalcModel", "text", "[I", true)
  | 1 => ("RankCalcModel", "length", "I", false)
  | 2 => ("RankCalcModel", "rank", "[I", true)
  | 3 => ("RankCalcModel", "lens", "[I", true)
  | 4 => ("RankCalcModel", "data", "[I", true)
  | 5 => ("RankCalcModel", "item", "[I", true)
  | 6 => ("RankCalcModel", "code", "[I", true)
  | 7 => ("RankCalcModel", "many", "[I", true)
  | 8 => ("RankCalcModel", "numbers", "[I", true)
  | 9 => ("RankCalcModel", "items", "I", false)
  | 10 => ("RankCalcModel", "numberCount", "I", false)
  | 11 => ("RankCalcModel", "at", "I", false)
  | 12 => ("RankCalcModel", "filled", "[Z", true)
  | 13 => ("RankCalcModel", "waits", "[Z", true)
  | 14 => ("RankCalcModel", "waiting", "[I", true)
  | 15 => ("RankCalcModel", "row", "[I", true)
  | 16 => ("RankCalcModel", "fault", "I", false)
  | 17 => ("RankCalcModel", "thrown", "I", false)
  | _ => ("RankCalcModel", "done", "I", false)
def tyX8 : Nat → FieldType := fun k => match k with
  | 0 => .array .int
  | 1 => .int
  | 2 => .array .int
  | 3 => .array .int
  | 4 => .array .int
  | 5 => .array .int
  | 6 => .array .int
  | 7 => .array .int
  | 8 => .array .int
  | 9 => .int
  | 10 => .int
  | 11 => .int
  | 12 => .array .boolean
  | 13 => .array .boolean
  | 14 => .array .int
  | 15 => .array .int
  | 16 => .int
  | 17 => .int
  | _ => .int
abbrev wsX80 : List Cond := u_ws RX8 TX8 19
theorem nmX8 : ∀ a, a < 19 → ∀ b, b < 19 → a ≠ b → (TX8 a).2.1 ≠ (TX8 b).2.1 := by decide +kernel
theorem tyX8_ok : ∀ k, k < 19 → parseFieldDescriptor (TX8 k).2.2.1 = some (tyX8 k) := by decide +kernel
abbrev cX8_init : ByteArray := prog_10_method_1_code
def yX8_init : MethodName := ⟨RX8, "<init>", "()V"⟩
abbrev cX8_thrown : ByteArray := prog_10_method_2_code
def yX8_thrown : MethodName := ⟨RX8, "thrown", "()I"⟩
abbrev cX8_feed : ByteArray := prog_10_method_3_code
def yX8_feed : MethodName := ⟨RX8, "feed", "(I)I"⟩
abbrev cX8_clear : ByteArray := prog_10_method_4_code
def yX8_clear : MethodName := ⟨RX8, "clear", "()V"⟩
abbrev cX8_ahead : ByteArray := prog_10_method_5_code
def yX8_ahead : MethodName := ⟨RX8, "ahead", "()I"⟩
abbrev cX8_digit : ByteArray := prog_10_method_6_code
def yX8_digit : MethodName := ⟨RX8, "digit", "(I)Z"⟩
abbrev cX8_plain : ByteArray := prog_10_method_7_code
def yX8_plain : MethodName := ⟨RX8, "plain", "(I)I"⟩
abbrev cX8_add : ByteArray := prog_10_method_8_code
def yX8_add : MethodName := ⟨RX8, "add", "(III)V"⟩
abbrev cX8_row : ByteArray := prog_10_method_9_code
def yX8_row : MethodName := ⟨RX8, "row", "()Z"⟩
abbrev cX8_one : ByteArray := prog_10_method_10_code
def yX8_one : MethodName := ⟨RX8, "one", "()I"⟩
abbrev cX8_two : ByteArray := prog_10_method_11_code
def yX8_two : MethodName := ⟨RX8, "two", "()I"⟩
abbrev cX8_read : ByteArray := prog_10_method_12_code
def yX8_read : MethodName := ⟨RX8, "read", "()Z"⟩
abbrev cX8_axisOf : ByteArray := prog_10_method_13_code
def yX8_axisOf : MethodName := ⟨RX8, "axisOf", "(II)I"⟩
abbrev cX8_sizeOf : ByteArray := prog_10_method_14_code
def yX8_sizeOf : MethodName := ⟨RX8, "sizeOf", "(I)I"⟩
abbrev cX8_copy : ByteArray := prog_10_method_15_code
def yX8_copy : MethodName := ⟨RX8, "copy", "(II)V"⟩
abbrev cX8_get : ByteArray := prog_10_method_16_code
def yX8_get : MethodName := ⟨RX8, "get", "(II)I"⟩
abbrev cX8_set : ByteArray := prog_10_method_17_code
def yX8_set : MethodName := ⟨RX8, "set", "(III)V"⟩
abbrev cX8_stop : ByteArray := prog_10_method_18_code
def yX8_stop : MethodName := ⟨RX8, "stop", "(I)Z"⟩
abbrev cX8_shape : ByteArray := prog_10_method_19_code
def yX8_shape : MethodName := ⟨RX8, "shape", "(IIII)Z"⟩
abbrev cX8_ofInt : ByteArray := prog_10_method_20_code
def yX8_ofInt : MethodName := ⟨RX8, "ofInt", "(J)I"⟩
abbrev cX8_number : ByteArray := prog_10_method_21_code
def yX8_number : MethodName := ⟨RX8, "number", "(IJJ)I"⟩
abbrev cX8_folded : ByteArray := prog_10_method_22_code
def yX8_folded : MethodName := ⟨RX8, "folded", "(II)I"⟩
abbrev cX8_last : ByteArray := prog_10_method_23_code
def yX8_last : MethodName := ⟨RX8, "last", "(I)I"⟩
abbrev cX8_single : ByteArray := prog_10_method_24_code
def yX8_single : MethodName := ⟨RX8, "single", "(I)Z"⟩
abbrev cX8_same : ByteArray := prog_10_method_25_code
def yX8_same : MethodName := ⟨RX8, "same", "()Z"⟩
abbrev cX8_reduce : ByteArray := prog_10_method_26_code
def yX8_reduce : MethodName := ⟨RX8, "reduce", "(II)Z"⟩
abbrev cX8_scan : ByteArray := prog_10_method_27_code
def yX8_scan : MethodName := ⟨RX8, "scan", "(II)Z"⟩
abbrev cX8_count : ByteArray := prog_10_method_28_code
def yX8_count : MethodName := ⟨RX8, "count", "(I)Z"⟩
abbrev cX8_turn : ByteArray := prog_10_method_29_code
def yX8_turn : MethodName := ⟨RX8, "turn", "(I)Z"⟩
abbrev cX8_reverse : ByteArray := prog_10_method_30_code
def yX8_reverse : MethodName := ⟨RX8, "reverse", "(I)Z"⟩
abbrev cX8_pair : ByteArray := prog_10_method_31_code
def yX8_pair : MethodName := ⟨RX8, "pair", "(I)Z"⟩
abbrev cX8_each : ByteArray := prog_10_method_32_code
def yX8_each : MethodName := ⟨RX8, "each", "(I)Z"⟩
abbrev cX8_joined : ByteArray := prog_10_method_33_code
def yX8_joined : MethodName := ⟨RX8, "joined", "(III)I"⟩
abbrev cX8_outer : ByteArray := prog_10_method_34_code
def yX8_outer : MethodName := ⟨RX8, "outer", "(I)Z"⟩
abbrev cX8_inner : ByteArray := prog_10_method_35_code
def yX8_inner : MethodName := ⟨RX8, "inner", "(II)Z"⟩
abbrev cX8_reshape : ByteArray := prog_10_method_36_code
def yX8_reshape : MethodName := ⟨RX8, "reshape", "()Z"⟩
abbrev cX8_width : ByteArray := prog_10_method_37_code
def yX8_width : MethodName := ⟨RX8, "width", "(II)I"⟩
abbrev cX8_before : ByteArray := prog_10_method_38_code
def yX8_before : MethodName := ⟨RX8, "before", "(IIII)I"⟩
abbrev cX8_join : ByteArray := prog_10_method_39_code
def yX8_join : MethodName := ⟨RX8, "join", "()Z"⟩
abbrev cX8_pick : ByteArray := prog_10_method_40_code
def yX8_pick : MethodName := ⟨RX8, "pick", "()Z"⟩
abbrev cX8_term : ByteArray := prog_10_method_41_code
def yX8_term : MethodName := ⟨RX8, "term", "(I)Z"⟩
abbrev cX8_arrive : ByteArray := prog_10_method_42_code
def yX8_arrive : MethodName := ⟨RX8, "arrive", "(I)V"⟩
abbrev cX8_evaluate : ByteArray := prog_10_method_43_code
def yX8_evaluate : MethodName := ⟨RX8, "evaluate", "(I)V"⟩
abbrev cX8_target : ByteArray := prog_10_method_44_code
def yX8_target : MethodName := ⟨RX8, "target", "()I"⟩
abbrev cX8_run : ByteArray := prog_10_method_45_code
def yX8_run : MethodName := ⟨RX8, "run", "()I"⟩
abbrev cX8_rank : ByteArray := prog_10_method_46_code
def yX8_rank : MethodName := ⟨RX8, "rank", "()I"⟩
abbrev cX8_axis : ByteArray := prog_10_method_47_code
def yX8_axis : MethodName := ⟨RX8, "axis", "(I)I"⟩
abbrev cX8_size : ByteArray := prog_10_method_48_code
def yX8_size : MethodName := ⟨RX8, "size", "()I"⟩
abbrev cX8_element : ByteArray := prog_10_method_49_code
def yX8_element : MethodName := ⟨RX8, "element", "(I)J"⟩
abbrev cX8_sum : ByteArray := prog_10_method_50_code
def yX8_sum : MethodName := ⟨RX8, "sum", "()J"⟩
abbrev cX8_held : ByteArray := prog_10_method_51_code
def yX8_held : MethodName := ⟨RX8, "held", "(I)I"⟩
abbrev cX8_forget : ByteArray := prog_10_method_52_code
def yX8_forget : MethodName := ⟨RX8, "forget", "(I)Z"⟩
abbrev cX8_done : ByteArray := prog_10_method_53_code
def yX8_done : MethodName := ⟨RX8, "done", "()I"⟩
def RJx145de : String := "java/io/Serializable"
def TJx145de : u_T := fun k => match k with
  | _ => ("", "", "", false)
def tyJx145de : Nat → FieldType := fun k => match k with
  | _ => .int
abbrev wsJx145de0 : List Cond := u_ws RJx145de TJx145de 0
theorem nmJx145de : ∀ a, a < 0 → ∀ b, b < 0 → a ≠ b → (TJx145de a).2.1 ≠ (TJx145de b).2.1 := by decide +kernel
theorem tyJx145de_ok : ∀ k, k < 0 → parseFieldDescriptor (TJx145de k).2.2.1 = some (tyJx145de k) := by decide +kernel
def RJx00060 : String := "java/lang/ArrayIndexOutOfBoundsException"
def TJx00060 : u_T := fun k => match k with
  | 0 => ("java/lang/Throwable", "backtrace", "Ljava/lang/Object;", false)
  | 1 => ("java/lang/Throwable", "detailMessage", "Ljava/lang/String;", false)
  | 2 => ("java/lang/Throwable", "cause", "Ljava/lang/Throwable;", false)
  | 3 => ("java/lang/Throwable", "stackTrace", "[Ljava/lang/StackTraceElement;", false)
  | 4 => ("java/lang/Throwable", "depth", "I", false)
  | _ => ("java/lang/Throwable", "suppressedExceptions", "Ljava/util/List;", false)
def tyJx00060 : Nat → FieldType := fun k => match k with
  | 0 => .object "java/lang/Object"
  | 1 => .object "java/lang/String"
  | 2 => .object "java/lang/Throwable"
  | 3 => .array (.object "java/lang/StackTraceElement")
  | 4 => .int
  | _ => .object "java/util/List"
abbrev wsJx000600 : List Cond := u_ws RJx00060 TJx00060 6
theorem nmJx00060 : ∀ a, a < 6 → ∀ b, b < 6 → a ≠ b → (TJx00060 a).2.1 ≠ (TJx00060 b).2.1 := by decide +kernel
theorem tyJx00060_ok : ∀ k, k < 6 → parseFieldDescriptor (TJx00060 k).2.2.1 = some (tyJx00060 k) := by decide +kernel
abbrev cJx00060_init_a7421 : ByteArray := prog_13_method_2_code
def yJx00060_init_a7421 : MethodName := ⟨RJx00060, "<init>", "(Ljava/lang/String;)V"⟩
def RJx9f9b0 : String := "java/lang/CharSequence"
def TJx9f9b0 : u_T := fun k => match k with
  | _ => ("", "", "", false)
def tyJx9f9b0 : Nat → FieldType := fun k => match k with
  | _ => .int
abbrev wsJx9f9b00 : List Cond := u_ws RJx9f9b0 TJx9f9b0 0
theorem nmJx9f9b0 : ∀ a, a < 0 → ∀ b, b < 0 → a ≠ b → (TJx9f9b0 a).2.1 ≠ (TJx9f9b0 b).2.1 := by decide +kernel
theorem tyJx9f9b0_ok : ∀ k, k < 0 → parseFieldDescriptor (TJx9f9b0 k).2.2.1 = some (tyJx9f9b0 k) := by decide +kernel
def RJ11 : String := "java/lang/Character"
def TJ11 : u_T := fun k => match k with
  | _ => ("", "", "", false)
def tyJ11 : Nat → FieldType := fun k => match k with
  | _ => .int
abbrev wsJ110 : List Cond := u_ws RJ11 TJ11 0
theorem nmJ11 : ∀ a, a < 0 → ∀ b, b < 0 → a ≠ b → (TJ11 a).2.1 ≠ (TJ11 b).2.1 := by decide +kernel
theorem tyJ11_ok : ∀ k, k < 0 → parseFieldDescriptor (TJ11 k).2.2.1 = some (tyJ11 k) := by decide +kernel
abbrev cJ11_isValidCodePoint_9a6ad : ByteArray := prog_15_method_11_code
def yJ11_isValidCodePoint_9a6ad : MethodName := ⟨RJ11, "isValidCodePoint", "(I)Z"⟩
abbrev cJ11_highSurrogate_5068e : ByteArray := prog_15_method_28_code
def yJ11_highSurrogate_5068e : MethodName := ⟨RJ11, "highSurrogate", "(I)C"⟩
abbrev cJ11_lowSurrogate_5068e : ByteArray := prog_15_method_29_code
def yJ11_lowSurrogate_5068e : MethodName := ⟨RJ11, "lowSurrogate", "(I)C"⟩
def RJxb160c : String := "java/lang/Comparable"
def TJxb160c : u_T := fun k => match k with
  | _ => ("", "", "", false)
def tyJxb160c : Nat → FieldType := fun k => match k with
  | _ => .int
abbrev wsJxb160c0 : List Cond := u_ws RJxb160c TJxb160c 0
theorem nmJxb160c : ∀ a, a < 0 → ∀ b, b < 0 → a ≠ b → (TJxb160c a).2.1 ≠ (TJxb160c b).2.1 := by decide +kernel
theorem tyJxb160c_ok : ∀ k, k < 0 → parseFieldDescriptor (TJxb160c k).2.2.1 = some (tyJxb160c k) := by decide +kernel
def RJ9 : String := "java/lang/Math"
def TJ9 : u_T := fun k => match k with
  | _ => ("", "", "", false)
def tyJ9 : Nat → FieldType := fun k => match k with
  | _ => .int
abbrev wsJ90 : List Cond := u_ws RJ9 TJ9 0
theorem nmJ9 : ∀ a, a < 0 → ∀ b, b < 0 → a ≠ b → (TJ9 a).2.1 ≠ (TJ9 b).2.1 := by decide +kernel
theorem tyJ9_ok : ∀ k, k < 0 → parseFieldDescriptor (TJ9 k).2.2.1 = some (tyJ9 k) := by decide +kernel
abbrev cJ9_floorMod_7cf53 : ByteArray := prog_21_method_50_code
def yJ9_floorMod_7cf53 : MethodName := ⟨RJ9, "floorMod", "(II)I"⟩
abbrev cJ9_max_7cf53 : ByteArray := prog_21_method_65_code
def yJ9_max_7cf53 : MethodName := ⟨RJ9, "max", "(II)I"⟩
abbrev cJ9_min_7cf53 : ByteArray := prog_21_method_69_code
def yJ9_min_7cf53 : MethodName := ⟨RJ9, "min", "(II)I"⟩
def RJ0 : String := "java/lang/String"
def TJ0 : u_T := fun k => match k with
  | 0 => ("java/lang/String", "value", "[B", true)
  | _ => ("java/lang/String", "coder", "B", true)
def tyJ0 : Nat → FieldType := fun k => match k with
  | 0 => .array .byte
  | _ => .byte
abbrev wsJ00 : List Cond := u_ws RJ0 TJ0 2
theorem nmJ0 : ∀ a, a < 2 → ∀ b, b < 2 → a ≠ b → (TJ0 a).2.1 ≠ (TJ0 b).2.1 := by decide +kernel
theorem tyJ0_ok : ∀ k, k < 2 → parseFieldDescriptor (TJ0 k).2.2.1 = some (tyJ0 k) := by decide +kernel
abbrev cJ0_length_8abf5 : ByteArray := prog_23_method_54_code
def yJ0_length_8abf5 : MethodName := ⟨RJ0, "length", "()I"⟩
abbrev cJ0_indexOf_0f7a4 : ByteArray := prog_23_method_79_code
def yJ0_indexOf_0f7a4 : MethodName := ⟨RJ0, "indexOf", "(I)I"⟩
abbrev cJ0_indexOf_7cf53 : ByteArray := prog_23_method_80_code
def yJ0_indexOf_7cf53 : MethodName := ⟨RJ0, "indexOf", "(II)I"⟩
abbrev cJ0_coder_7d493 : ByteArray := prog_23_method_152_code
def yJ0_coder_7d493 : MethodName := ⟨RJ0, "coder", "()B"⟩
abbrev cJ0_isLatin1_aae02 : ByteArray := prog_23_method_154_code
def yJ0_isLatin1_aae02 : MethodName := ⟨RJ0, "isLatin1", "()Z"⟩
abbrev cJ0_checkBoundsBeginEnd_23922 : ByteArray := prog_23_method_158_code
def yJ0_checkBoundsBeginEnd_23922 : MethodName := ⟨RJ0, "checkBoundsBeginEnd", "(III)V"⟩
def RJ1 : String := "java/lang/StringLatin1"
def TJ1 : u_T := fun k => match k with
  | _ => ("", "", "", false)
def tyJ1 : Nat → FieldType := fun k => match k with
  | _ => .int
abbrev wsJ10 : List Cond := u_ws RJ1 TJ1 0
theorem nmJ1 : ∀ a, a < 0 → ∀ b, b < 0 → a ≠ b → (TJ1 a).2.1 ≠ (TJ1 b).2.1 := by decide +kernel
theorem tyJ1_ok : ∀ k, k < 0 → parseFieldDescriptor (TJ1 k).2.2.1 = some (tyJ1 k) := by decide +kernel
abbrev cJ1_canEncode_9a6ad : ByteArray := prog_24_method_4_code
def yJ1_canEncode_9a6ad : MethodName := ⟨RJ1, "canEncode", "(I)Z"⟩
abbrev cJ1_indexOf_4cfef : ByteArray := prog_24_method_22_code
def yJ1_indexOf_4cfef : MethodName := ⟨RJ1, "indexOf", "([BIII)I"⟩
abbrev cJ1_indexOfChar_4cfef : ByteArray := prog_24_method_23_code
def yJ1_indexOfChar_4cfef : MethodName := ⟨RJ1, "indexOfChar", "([BIII)I"⟩
def RJ2 : String := "java/lang/StringUTF16"
def TJ2 : u_T := fun k => match k with
  | _ => ("", "", "", false)
def tyJ2 : Nat → FieldType := fun k => match k with
  | _ => .int
abbrev wsJ20 : List Cond := u_ws RJ2 TJ2 0
theorem nmJ2 : ∀ a, a < 0 → ∀ b, b < 0 → a ≠ b → (TJ2 a).2.1 ≠ (TJ2 b).2.1 := by decide +kernel
theorem tyJ2_ok : ∀ k, k < 0 → parseFieldDescriptor (TJ2 k).2.2.1 = some (tyJ2 k) := by decide +kernel
abbrev cJ2_getChar_3b067 : ByteArray := prog_25_method_5_code
def yJ2_getChar_3b067 : MethodName := ⟨RJ2, "getChar", "([BI)C"⟩
abbrev cJ2_length_9d52b : ByteArray := prog_25_method_6_code
def yJ2_length_9d52b : MethodName := ⟨RJ2, "length", "([B)I"⟩
abbrev cJ2_indexOf_4cfef : ByteArray := prog_25_method_40_code
def yJ2_indexOf_4cfef : MethodName := ⟨RJ2, "indexOf", "([BIII)I"⟩
abbrev cJ2_indexOfChar_4cfef : ByteArray := prog_25_method_47_code
def yJ2_indexOfChar_4cfef : MethodName := ⟨RJ2, "indexOfChar", "([BIII)I"⟩
abbrev cJ2_indexOfCharUnsafe_4cfef : ByteArray := prog_25_method_48_code
def yJ2_indexOfCharUnsafe_4cfef : MethodName := ⟨RJ2, "indexOfCharUnsafe", "([BIII)I"⟩
abbrev cJ2_indexOfSupplementary_4cfef : ByteArray := prog_25_method_49_code
def yJ2_indexOfSupplementary_4cfef : MethodName := ⟨RJ2, "indexOfSupplementary", "([BIII)I"⟩
abbrev cJ2_checkBoundsBeginEnd_d044e : ByteArray := prog_25_method_93_code
def yJ2_checkBoundsBeginEnd_d044e : MethodName := ⟨RJ2, "checkBoundsBeginEnd", "(II[B)V"⟩
def RJ10 : String := "java/lang/System"
def TJ10 : u_T := fun k => match k with
  | _ => ("", "", "", false)
def tyJ10 : Nat → FieldType := fun k => match k with
  | _ => .int
abbrev wsJ100 : List Cond := u_ws RJ10 TJ10 0
theorem nmJ10 : ∀ a, a < 0 → ∀ b, b < 0 → a ≠ b → (TJ10 a).2.1 ≠ (TJ10 b).2.1 := by decide +kernel
theorem tyJ10_ok : ∀ k, k < 0 → parseFieldDescriptor (TJ10 k).2.2.1 = some (tyJ10 k) := by decide +kernel
def RJxfd54e : String := "java/lang/constant/Constable"
def TJxfd54e : u_T := fun k => match k with
  | _ => ("", "", "", false)
def tyJxfd54e : Nat → FieldType := fun k => match k with
  | _ => .int
abbrev wsJxfd54e0 : List Cond := u_ws RJxfd54e TJxfd54e 0
theorem nmJxfd54e : ∀ a, a < 0 → ∀ b, b < 0 → a ≠ b → (TJxfd54e a).2.1 ≠ (TJxfd54e b).2.1 := by decide +kernel
theorem tyJxfd54e_ok : ∀ k, k < 0 → parseFieldDescriptor (TJxfd54e k).2.2.1 = some (tyJxfd54e k) := by decide +kernel
def RJx3cf43 : String := "java/lang/constant/ConstantDesc"
def TJx3cf43 : u_T := fun k => match k with
  | _ => ("", "", "", false)
def tyJx3cf43 : Nat → FieldType := fun k => match k with
  | _ => .int
abbrev wsJx3cf430 : List Cond := u_ws RJx3cf43 TJx3cf43 0
theorem nmJx3cf43 : ∀ a, a < 0 → ∀ b, b < 0 → a ≠ b → (TJx3cf43 a).2.1 ≠ (TJx3cf43 b).2.1 := by decide +kernel
theorem tyJx3cf43_ok : ∀ k, k < 0 → parseFieldDescriptor (TJx3cf43 k).2.2.1 = some (tyJx3cf43 k) := by decide +kernel
def RJ3 : String := "jdk/internal/util/Preconditions"
def TJ3 : u_T := fun k => match k with
  | _ => ("", "", "", false)
def tyJ3 : Nat → FieldType := fun k => match k with
  | _ => .int
abbrev wsJ30 : List Cond := u_ws RJ3 TJ3 0
theorem nmJ3 : ∀ a, a < 0 → ∀ b, b < 0 → a ≠ b → (TJ3 a).2.1 ≠ (TJ3 b).2.1 := by decide +kernel
theorem tyJ3_ok : ∀ k, k < 0 → parseFieldDescriptor (TJ3 k).2.2.1 = some (tyJ3 k) := by decide +kernel
abbrev cJ3_checkFromToIndex_8c36e : ByteArray := prog_32_method_12_code
def yJ3_checkFromToIndex_8c36e : MethodName := ⟨RJ3, "checkFromToIndex", "(IIILjava/util/function/BiFunction;)I"⟩
def RL : String := "RankCalcLaw"
abbrev cL_run : ByteArray := method_3_code
def yL_run : MethodName := ⟨RL, "run", "(LRankCalc;[J)I"⟩
abbrev cL_law : ByteArray := code
def yL_law : MethodName := ⟨RL, "law", "([I)Z"⟩
theorem inX0 : ∀ w ∈ wsX00, w ∈ lw_tbl := by decide +kernel
theorem inX1 : ∀ w ∈ wsX10, w ∈ lw_tbl := by decide +kernel
theorem inX2 : ∀ w ∈ wsX20, w ∈ lw_tbl := by decide +kernel
theorem inX3 : ∀ w ∈ wsX30, w ∈ lw_tbl := by decide +kernel
theorem inX4 : ∀ w ∈ wsX40, w ∈ lw_tbl := by decide +kernel
theorem inX5 : ∀ w ∈ wsX50, w ∈ lw_tbl := by decide +kernel
theorem inX6 : ∀ w ∈ wsX60, w ∈ lw_tbl := by decide +kernel
theorem inX7 : ∀ w ∈ wsX70, w ∈ lw_tbl := by decide +kernel
theorem inX8 : ∀ w ∈ wsX80, w ∈ lw_tbl := by decide +kernel
theorem inJx145de : ∀ w ∈ wsJx145de0, w ∈ lw_tbl := by decide +kernel
theorem inJx00060 : ∀ w ∈ wsJx000600, w ∈ lw_tbl := by decide +kernel
theorem inJx9f9b0 : ∀ w ∈ wsJx9f9b00, w ∈ lw_tbl := by decide +kernel
theorem inJ11 : ∀ w ∈ wsJ110, w ∈ lw_tbl := by decide +kernel
theorem inJxb160c : ∀ w ∈ wsJxb160c0, w ∈ lw_tbl := by decide +kernel
theorem inJ9 : ∀ w ∈ wsJ90, w ∈ lw_tbl := by decide +kernel
theorem inJ0 : ∀ w ∈ wsJ00, w ∈ lw_tbl := by decide +kernel
theorem inJ1 : ∀ w ∈ wsJ10, w ∈ lw_tbl := by decide +kernel
theorem inJ2 : ∀ w ∈ wsJ20, w ∈ lw_tbl := by decide +kernel
theorem inJ10 : ∀ w ∈ wsJ100, w ∈ lw_tbl := by decide +kernel
theorem inJxfd54e : ∀ w ∈ wsJxfd54e0, w ∈ lw_tbl := by decide +kernel
theorem inJx3cf43 : ∀ w ∈ wsJx3cf430, w ∈ lw_tbl := by decide +kernel
theorem inJ3 : ∀ w ∈ wsJ30, w ∈ lw_tbl := by decide +kernel
abbrev vwCl : List vw_C := [(RJ0, TJ0, 2), (RJx00060, TJx00060, 6), (RX0, TX0, 7), (RX1, TX1, 4), (RX2, TX2, 2), (RX5, TX5, 14), (RX6, TX6, 2), (RX7, TX7, 4), (RX8, TX8, 19)]
