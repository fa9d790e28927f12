def RX0 : String := "SwitchGraphs$Code"
def TX0 : u_T := fun k => match k with
  | _ => ("", "", "", false)
def tyX0 : Nat → FieldType := fun k => match k with
  | _ => .int
abbrev wsX00 : List Cond := u_ws RX0 TX0 0
theorem nmX0 : ∀ a, a < 0 → ∀ b, b < 0 → a ≠ b → (TX0 a).2.1 ≠ (TX0 b).2.1 := by decide +kernel
theorem tyX0_ok : ∀ k, k < 0 → parseFieldDescriptor (TX0 k).2.2.1 = some (tyX0 k) := by decide +kernel
def RX1 : String := "SwitchGraphs$Graph"
def TX1 : u_T := fun k => match k with
  | 0 => ("SwitchGraphs$Graph", "counts", "[I", true)
  | 1 => ("SwitchGraphs$Graph", "size", "I", false)
  | _ => ("SwitchGraphs$Graph", "total", "I", false)
def tyX1 : Nat → FieldType := fun k => match k with
  | 0 => .array .int
  | 1 => .int
  | _ => .int
abbrev wsX10 : List Cond := u_ws RX1 TX1 3
theorem nmX1 : ∀ a, a < 3 → ∀ b, b < 3 → a ≠ b → (TX1 a).2.1 ≠ (TX1 b).2.1 := by decide +kernel
theorem tyX1_ok : ∀ k, k < 3 → parseFieldDescriptor (TX1 k).2.2.1 = some (tyX1 k) := by decide +kernel
abbrev cX1_init : ByteArray := prog_3_method_1_code
def yX1_init : MethodName := ⟨RX1, "<init>", "()V"⟩
abbrev cX1_clear : ByteArray := prog_3_method_2_code
def yX1_clear : MethodName := ⟨RX1, "clear", "(I)V"⟩
abbrev cX1_become : ByteArray := prog_3_method_3_code
def yX1_become : MethodName := ⟨RX1, "become", "(LSwitchGraphs$Graph;)V"⟩
abbrev cX1_vertexCount : ByteArray := prog_3_method_4_code
def yX1_vertexCount : MethodName := ⟨RX1, "vertexCount", "()I"⟩
abbrev cX1_edgeCount : ByteArray := prog_3_method_5_code
def yX1_edgeCount : MethodName := ⟨RX1, "edgeCount", "()I"⟩
abbrev cX1_between : ByteArray := prog_3_method_6_code
def yX1_between : MethodName := ⟨RX1, "between", "(II)I"⟩
abbrev cX1_put : ByteArray := prog_3_method_7_code
def yX1_put : MethodName := ⟨RX1, "put", "(III)V"⟩
abbrev cX1_reasonAgainst : ByteArray := prog_3_method_9_code
def yX1_reasonAgainst : MethodName := ⟨RX1, "reasonAgainst", "(IIIII)I"⟩
abbrev cX1_degreeOf : ByteArray := prog_3_method_10_code
def yX1_degreeOf : MethodName := ⟨RX1, "degreeOf", "(I)I"⟩
abbrev cX1_loopCount : ByteArray := prog_3_method_11_code
def yX1_loopCount : MethodName := ⟨RX1, "loopCount", "()I"⟩
abbrev cX1_defectCount : ByteArray := prog_3_method_12_code
def yX1_defectCount : MethodName := ⟨RX1, "defectCount", "()I"⟩
abbrev cX1_triangleCount : ByteArray := prog_3_method_14_code
def yX1_triangleCount : MethodName := ⟨RX1, "triangleCount", "()I"⟩
abbrev cX1_commonNeighboursBehind : ByteArray := prog_3_method_15_code
def yX1_commonNeighboursBehind : MethodName := ⟨RX1, "commonNeighboursBehind", "(II)I"⟩
def RX2 : String := "SwitchGraphs$History"
def TX2 : u_T := fun k => match k with
  | 0 => ("SwitchGraphs$History", "graphs", "[LSwitchGraphs$Graph;", true)
  | 1 => ("SwitchGraphs$History", "targets", "[LSwitchGraphs$Graph;", true)
  | 2 => ("SwitchGraphs$History", "modes", "[I", true)
  | 3 => ("SwitchGraphs$History", "size", "I", false)
  | _ => ("SwitchGraphs$History", "next", "I", false)
def tyX2 : Nat → FieldType := fun k => match k with
  | 0 => .array (.object "SwitchGraphs$Graph")
  | 1 => .array (.object "SwitchGraphs$Graph")
  | 2 => .array .int
  | 3 => .int
  | _ => .int
abbrev wsX20 : List Cond := u_ws RX2 TX2 5
theorem nmX2 : ∀ a, a < 5 → ∀ b, b < 5 → a ≠ b → (TX2 a).2.1 ≠ (TX2 b).2.1 := by decide +kernel
theorem tyX2_ok : ∀ k, k < 5 → parseFieldDescriptor (TX2 k).2.2.1 = some (tyX2 k) := by decide +kernel
abbrev cX2_init : ByteArray := prog_4_method_1_code
def yX2_init : MethodName := ⟨RX2, "<init>", "()V"⟩
abbrev cX2_forget : ByteArray := prog_4_method_2_code
def yX2_forget : MethodName := ⟨RX2, "forget", "()V"⟩
abbrev cX2_remember : ByteArray := prog_4_method_4_code
def yX2_remember : MethodName := ⟨RX2, "remember", "(LSwitchGraphs$Graph;LSwitchGraphs$Graph;I)V"⟩
def RX3 : String := "SwitchGraphs$Output"
def TX3 : u_T := fun k => match k with
  | 0 => ("SwitchGraphs$Output", "signs", "[C", true)
  | _ => ("SwitchGraphs$Output", "size", "I", false)
def tyX3 : Nat → FieldType := fun k => match k with
  | 0 => .array .char
  | _ => .int
abbrev wsX30 : List Cond := u_ws RX3 TX3 2
theorem nmX3 : ∀ a, a < 2 → ∀ b, b < 2 → a ≠ b → (TX3 a).2.1 ≠ (TX3 b).2.1 := by decide +kernel
theorem tyX3_ok : ∀ k, k < 2 → parseFieldDescriptor (TX3 k).2.2.1 = some (tyX3 k) := by decide +kernel
abbrev cX3_init : ByteArray := prog_5_method_1_code
def yX3_init : MethodName := ⟨RX3, "<init>", "()V"⟩
def RX4 : String := "SwitchGraphs$Parts"
def TX4 : u_T := fun k => match k with
  | 0 => ("SwitchGraphs$Parts", "smallest", "[I", true)
  | 1 => ("SwitchGraphs$Parts", "steps", "[I", true)
  | _ => ("SwitchGraphs$Parts", "size", "I", false)
def tyX4 : Nat → FieldType := fun k => match k with
  | 0 => .array .int
  | 1 => .array .int
  | _ => .int
abbrev wsX40 : List Cond := u_ws RX4 TX4 3
theorem nmX4 : ∀ a, a < 3 → ∀ b, b < 3 → a ≠ b → (TX4 a).2.1 ≠ (TX4 b).2.1 := by decide +kernel
theorem tyX4_ok : ∀ k, k < 3 → parseFieldDescriptor (TX4 k).2.2.1 = some (tyX4 k) := by decide +kernel
abbrev cX4_init : ByteArray := prog_6_method_1_code
def yX4_init : MethodName := ⟨RX4, "<init>", "()V"⟩
abbrev cX4_find : ByteArray := prog_6_method_2_code
def yX4_find : MethodName := ⟨RX4, "find", "(LSwitchGraphs$Graph;)V"⟩
abbrev cX4_merge : ByteArray := prog_6_method_3_code
def yX4_merge : MethodName := ⟨RX4, "merge", "(II)V"⟩
abbrev cX4_count : ByteArray := prog_6_method_4_code
def yX4_count : MethodName := ⟨RX4, "count", "()I"⟩
abbrev cX4_countBefore : ByteArray := prog_6_method_6_code
def yX4_countBefore : MethodName := ⟨RX4, "countBefore", "(I)I"⟩
def RX5 : String := "SwitchGraphs$Reader"
def TX5 : u_T := fun k => match k with
  | 0 => ("SwitchGraphs$Reader", "bytes", "[B", true)
  | 1 => ("SwitchGraphs$Reader", "graph", "LSwitchGraphs$Graph;", true)
  | 2 => ("SwitchGraphs$Reader", "target", "LSwitchGraphs$Graph;", true)
  | 3 => ("SwitchGraphs$Reader", "sequence", "LSwitchGraphs$Sequence;", true)
  | 4 => ("SwitchGraphs$Reader", "mode", "I", false)
  | 5 => ("SwitchGraphs$Reader", "fed", "I", false)
  | 6 => ("SwitchGraphs$Reader", "length", "I", false)
  | 7 => ("SwitchGraphs$Reader", "errorKind", "I", false)
  | 8 => ("SwitchGraphs$Reader", "errorPlace", "I", false)
  | 9 => ("SwitchGraphs$Reader", "token", "I", false)
  | 10 => ("SwitchGraphs$Reader", "start", "I", false)
  | 11 => ("SwitchGraphs$Reader", "end", "I", false)
  | _ => ("SwitchGraphs$Reader", "number", "I", false)
def tyX5 : Nat → FieldType := fun k => match k with
  | 0 => .array .byte
  | 1 => .object "SwitchGraphs$Graph"
  | 2 => .object "SwitchGraphs$Graph"
  | 3 => .object "SwitchGraphs$Sequence"
  | 4 => .int
  | 5 => .int
  | 6 => .int
  | 7 => .int
  | 8 => .int
  | 9 => .int
  | 10 => .int
  | 11 => .int
  | _ => .int
abbrev wsX50 : List Cond := u_ws RX5 TX5 13
theorem nmX5 : ∀ a, a < 13 → ∀ b, b < 13 → a ≠ b → (TX5 a).2.1 ≠ (TX5 b).2.1 := by decide +kernel
theorem tyX5_ok : ∀ k, k < 13 → parseFieldDescriptor (TX5 k).2.2.1 = some (tyX5 k) := by decide +kernel
abbrev cX5_init : ByteArray := prog_7_method_1_code
def yX5_init : MethodName := ⟨RX5, "<init>", "()V"⟩
abbrev cX5_hasRoom : ByteArray := prog_7_method_2_code
def yX5_hasRoom : MethodName := ⟨RX5, "hasRoom", "()Z"⟩
abbrev cX5_append : ByteArray := prog_7_method_3_code
def yX5_append : MethodName := ⟨RX5, "append", "(I)V"⟩
abbrev cX5_fedBytes : ByteArray := prog_7_method_4_code
def yX5_fedBytes : MethodName := ⟨RX5, "fedBytes", "()I"⟩
abbrev cX5_kindOfError : ByteArray := prog_7_method_5_code
def yX5_kindOfError : MethodName := ⟨RX5, "kindOfError", "()I"⟩
abbrev cX5_readGraph : ByteArray := prog_7_method_7_code
def yX5_readGraph : MethodName := ⟨RX5, "readGraph", "()LSwitchGraphs$Graph;"⟩
abbrev cX5_readTarget : ByteArray := prog_7_method_8_code
def yX5_readTarget : MethodName := ⟨RX5, "readTarget", "()LSwitchGraphs$Graph;"⟩
abbrev cX5_readMode : ByteArray := prog_7_method_9_code
def yX5_readMode : MethodName := ⟨RX5, "readMode", "()I"⟩
abbrev cX5_readText : ByteArray := prog_7_method_10_code
def yX5_readText : MethodName := ⟨RX5, "readText", "(I)Z"⟩
abbrev cX5_readFirst : ByteArray := prog_7_method_11_code
def yX5_readFirst : MethodName := ⟨RX5, "readFirst", "()Z"⟩
abbrev cX5_readOther : ByteArray := prog_7_method_12_code
def yX5_readOther : MethodName := ⟨RX5, "readOther", "()Z"⟩
abbrev cX5_readVertices : ByteArray := prog_7_method_13_code
def yX5_readVertices : MethodName := ⟨RX5, "readVertices", "()Z"⟩
abbrev cX5_readDegrees : ByteArray := prog_7_method_14_code
def yX5_readDegrees : MethodName := ⟨RX5, "readDegrees", "()Z"⟩
abbrev cX5_readEdge : ByteArray := prog_7_method_15_code
def yX5_readEdge : MethodName := ⟨RX5, "readEdge", "(LSwitchGraphs$Graph;)Z"⟩
abbrev cX5_readModeNumber : ByteArray := prog_7_method_16_code
def yX5_readModeNumber : MethodName := ⟨RX5, "readModeNumber", "()Z"⟩
abbrev cX5_begin : ByteArray := prog_7_method_17_code
def yX5_begin : MethodName := ⟨RX5, "begin", "(I)V"⟩
abbrev cX5_expectNumber : ByteArray := prog_7_method_18_code
def yX5_expectNumber : MethodName := ⟨RX5, "expectNumber", "(II)Z"⟩
abbrev cX5_expectSemicolon : ByteArray := prog_7_method_19_code
def yX5_expectSemicolon : MethodName := ⟨RX5, "expectSemicolon", "()Z"⟩
abbrev cX5_fail : ByteArray := prog_7_method_20_code
def yX5_fail : MethodName := ⟨RX5, "fail", "(I)Z"⟩
abbrev cX5_isWord : ByteArray := prog_7_method_21_code
def yX5_isWord : MethodName := ⟨RX5, "isWord", "(Ljava/lang/String;)Z"⟩
abbrev cX5_advance : ByteArray := prog_7_method_22_code
def yX5_advance : MethodName := ⟨RX5, "advance", "()V"⟩
abbrev cX5_takeWord : ByteArray := prog_7_method_23_code
def yX5_takeWord : MethodName := ⟨RX5, "takeWord", "()V"⟩
abbrev cX5_takeNumber : ByteArray := prog_7_method_24_code
def yX5_takeNumber : MethodName := ⟨RX5, "takeNumber", "()V"⟩
abbrev cX5_byteAt : ByteArray := prog_7_method_25_code
def yX5_byteAt : MethodName := ⟨RX5, "byteAt", "(I)I"⟩
abbrev cX5_isBlank : ByteArray := prog_7_method_26_code
def yX5_isBlank : MethodName := ⟨RX5, "isBlank", "(I)Z"⟩
abbrev cX5_isLetter : ByteArray := prog_7_method_27_code
def yX5_isLetter : MethodName := ⟨RX5, "isLetter", "(I)Z"⟩
abbrev cX5_isDigit : ByteArray := prog_7_method_28_code
def yX5_isDigit : MethodName := ⟨RX5, "isDigit", "(I)Z"⟩
def RX6 : String := "SwitchGraphs$Sequence"
def TX6 : u_T := fun k => match k with
  | 0 => ("SwitchGraphs$Sequence", "degrees", "[I", true)
  | 1 => ("SwitchGraphs$Sequence", "falling", "[I", true)
  | 2 => ("SwitchGraphs$Sequence", "lacks", "[I", true)
  | 3 => ("SwitchGraphs$Sequence", "size", "I", false)
  | _ => ("SwitchGraphs$Sequence", "sum", "I", false)
def tyX6 : Nat → FieldType := fun k => match k with
  | 0 => .array .int
  | 1 => .array .int
  | 2 => .array .int
  | 3 => .int
  | _ => .int
abbrev wsX60 : List Cond := u_ws RX6 TX6 5
theorem nmX6 : ∀ a, a < 5 → ∀ b, b < 5 → a ≠ b → (TX6 a).2.1 ≠ (TX6 b).2.1 := by decide +kernel
theorem tyX6_ok : ∀ k, k < 5 → parseFieldDescriptor (TX6 k).2.2.1 = some (tyX6 k) := by decide +kernel
abbrev cX6_init : ByteArray := prog_8_method_1_code
def yX6_init : MethodName := ⟨RX6, "<init>", "()V"⟩
abbrev cX6_clear : ByteArray := prog_8_method_2_code
def yX6_clear : MethodName := ⟨RX6, "clear", "()V"⟩
abbrev cX6_isFull : ByteArray := prog_8_method_3_code
def yX6_isFull : MethodName := ⟨RX6, "isFull", "()Z"⟩
abbrev cX6_length : ByteArray := prog_8_method_4_code
def yX6_length : MethodName := ⟨RX6, "length", "()I"⟩
abbrev cX6_total : ByteArray := prog_8_method_5_code
def yX6_total : MethodName := ⟨RX6, "total", "()I"⟩
abbrev cX6_append : ByteArray := prog_8_method_6_code
def yX6_append : MethodName := ⟨RX6, "append", "(I)V"⟩
abbrev cX6_insertFalling : ByteArray := prog_8_method_7_code
def yX6_insertFalling : MethodName := ⟨RX6, "insertFalling", "(I)V"⟩
abbrev cX6_take : ByteArray := prog_8_method_8_code
def yX6_take : MethodName := ⟨RX6, "take", "(LSwitchGraphs$Graph;)V"⟩
abbrev cX6_greatest : ByteArray := prog_8_method_9_code
def yX6_greatest : MethodName := ⟨RX6, "greatest", "(I)I"⟩
abbrev cX6_slackOf : ByteArray := prog_8_method_10_code
def yX6_slackOf : MethodName := ⟨RX6, "slackOf", "(I)I"⟩
abbrev cX6_allows : ByteArray := prog_8_method_11_code
def yX6_allows : MethodName := ⟨RX6, "allows", "(I)Z"⟩
abbrev cX6_hasNoNegativeSlack : ByteArray := prog_8_method_12_code
def yX6_hasNoNegativeSlack : MethodName := ⟨RX6, "hasNoNegativeSlack", "()Z"⟩
abbrev cX6_build : ByteArray := prog_8_method_13_code
def yX6_build : MethodName := ⟨RX6, "build", "(LSwitchGraphs$Graph;I)V"⟩
abbrev cX6_buildWithLoops : ByteArray := prog_8_method_14_code
def yX6_buildWithLoops : MethodName := ⟨RX6, "buildWithLoops", "(LSwitchGraphs$Graph;)V"⟩
abbrev cX6_buildWithoutLoops : ByteArray := prog_8_method_15_code
def yX6_buildWithoutLoops : MethodName := ⟨RX6, "buildWithoutLoops", "(LSwitchGraphs$Graph;)V"⟩
abbrev cX6_buildSimple : ByteArray := prog_8_method_16_code
def yX6_buildSimple : MethodName := ⟨RX6, "buildSimple", "(LSwitchGraphs$Graph;)V"⟩
abbrev cX6_join : ByteArray := prog_8_method_17_code
def yX6_join : MethodName := ⟨RX6, "join", "(LSwitchGraphs$Graph;II)V"⟩
abbrev cX6_neediestBut : ByteArray := prog_8_method_18_code
def yX6_neediestBut : MethodName := ⟨RX6, "neediestBut", "(I)I"⟩
def RX7 : String := "SwitchGraphs$SwitchList"
def TX7 : u_T := fun k => match k with
  | 0 => ("SwitchGraphs$SwitchList", "codes", "[I", true)
  | _ => ("SwitchGraphs$SwitchList", "size", "I", false)
def tyX7 : Nat → FieldType := fun k => match k with
  | 0 => .array .int
  | _ => .int
abbrev wsX70 : List Cond := u_ws RX7 TX7 2
theorem nmX7 : ∀ a, a < 2 → ∀ b, b < 2 → a ≠ b → (TX7 a).2.1 ≠ (TX7 b).2.1 := by decide +kernel
theorem tyX7_ok : ∀ k, k < 2 → parseFieldDescriptor (TX7 k).2.2.1 = some (tyX7 k) := by decide +kernel
abbrev cX7_init : ByteArray := prog_9_method_1_code
def yX7_init : MethodName := ⟨RX7, "<init>", "()V"⟩
def RX8 : String := "SwitchGraphs$Trail"
def TX8 : u_T := fun k => match k with
  | 0 => ("SwitchGraphs$Trail", "codes", "[I", true)
  | 1 => ("SwitchGraphs$Trail", "walker", "LSwitchGraphs$Graph;", true)
  | _ => ("SwitchGraphs$Trail", "size", "I", false)
def tyX8 : Nat → FieldType := fun k => match k with
  | 0 => .array .int
  | 1 => .object "SwitchGraphs$Graph"
  | _ => .int
abbrev wsX80 : List Cond := u_ws RX8 TX8 3
theorem nmX8 : ∀ a, a < 3 → ∀ b, b < 3 → a ≠ b → (TX8 a).2.1 ≠ (TX8 b).2.1 := by decide +kernel
theorem tyX8_ok : ∀ k, k < 3 → parseFieldDescriptor (TX8 k).2.2.1 = some (tyX8 k) := by decide +kernel
abbrev cX8_init : ByteArray := prog_10_method_1_code
def yX8_init : MethodName := ⟨RX8, "<init>", "()V"⟩
def RX9 : String := "SwitchGraphs"
def TX9 : u_T := fun k => match k with
  | 0 => ("SwitchGraphs", "reader", "LSwitchGraphs$Reader;", true)
  | 1 => ("SwitchGraphs", "graph", "LSwitchGraphs$Graph;", true)
  | 2 => ("SwitchGraphs", "target", "LSwitchGraphs$Graph;", true)
  | 3 => ("SwitchGraphs", "trial", "LSwitchGraphs$Graph;", true)
  | 4 => ("SwitchGraphs", "spare", "LSwitchGraphs$Graph;", true)
  | 5 => ("SwitchGraphs", "parts", "LSwitchGraphs$Parts;", true)
  | 6 => ("SwitchGraphs", "sequence", "LSwitchGraphs$Sequence;", true)
  | 7 => ("SwitchGraphs", "list", "LSwitchGraphs$SwitchList;", true)
  | 8 => ("SwitchGraphs", "trail", "LSwitchGraphs$Trail;", true)
  | 9 => ("SwitchGraphs", "history", "LSwitchGraphs$History;", true)
  | 10 => ("SwitchGraphs", "output", "LSwitchGraphs$Output;", true)
  | _ => ("SwitchGraphs", "mode", "I", false)
def tyX9 : Nat → FieldType := fun k => match k with
  | 0 => .object "SwitchGraphs$Reader"
  | 1 => .object "SwitchGraphs$Graph"
  | 2 => .object "SwitchGraphs$Graph"
  | 3 => .object "SwitchGraphs$Graph"
  | 4 => .object "SwitchGraphs$Graph"
  | 5 => .object "SwitchGraphs$Parts"
  | 6 => .object "SwitchGraphs$Sequence"
  | 7 => .object "SwitchGraphs$SwitchList"
  | 8 => .object "SwitchGraphs$Trail"
  | 9 => .object "SwitchGraphs$History"
  | 10 => .object "SwitchGraphs$Output"
  | _ => .int
abbrev wsX90 : List Cond := u_ws RX9 TX9 12
theorem nmX9 : ∀ a, a < 12 → ∀ b, b < 12 → a ≠ b → (TX9 a).2.1 ≠ (TX9 b).2.1 := by decide +kernel
theorem tyX9_ok : ∀ k, k < 12 → parseFieldDescriptor (TX9 k).2.2.1 = some (tyX9 k) := by decide +kernel
abbrev cX9_init : ByteArray := prog_1_method_1_code
def yX9_init : MethodName := ⟨RX9, "<init>", "()V"⟩
abbrev cX9_feed : ByteArray := prog_1_method_2_code
def yX9_feed : MethodName := ⟨RX9, "feed", "(IIIII)I"⟩
abbrev cX9_load : ByteArray := prog_1_method_3_code
def yX9_load : MethodName := ⟨RX9, "load", "(I)I"⟩
abbrev cX9_errorKind : ByteArray := prog_1_method_4_code
def yX9_errorKind : MethodName := ⟨RX9, "errorKind", "()I"⟩
abbrev cX9_vertices : ByteArray := prog_1_method_6_code
def yX9_vertices : MethodName := ⟨RX9, "vertices", "()I"⟩
abbrev cX9_times : ByteArray := prog_1_method_9_code
def yX9_times : MethodName := ⟨RX9, "times", "(IIZ)I"⟩
abbrev cX9_degree : ByteArray := prog_1_method_10_code
def yX9_degree : MethodName := ⟨RX9, "degree", "(IZ)I"⟩
abbrev cX9_loops : ByteArray := prog_1_method_11_code
def yX9_loops : MethodName := ⟨RX9, "loops", "()I"⟩
abbrev cX9_defects : ByteArray := prog_1_method_12_code
def yX9_defects : MethodName := ⟨RX9, "defects", "()I"⟩
abbrev cX9_isSimple : ByteArray := prog_1_method_13_code
def yX9_isSimple : MethodName := ⟨RX9, "isSimple", "()Z"⟩
abbrev cX9_triangles : ByteArray := prog_1_method_15_code
def yX9_triangles : MethodName := ⟨RX9, "triangles", "()I"⟩
abbrev cX9_components : ByteArray := prog_1_method_16_code
def yX9_components : MethodName := ⟨RX9, "components", "()I"⟩
abbrev cX9_sorted : ByteArray := prog_1_method_22_code
def yX9_sorted : MethodName := ⟨RX9, "sorted", "(I)I"⟩
abbrev cX9_slack : ByteArray := prog_1_method_23_code
def yX9_slack : MethodName := ⟨RX9, "slack", "(I)I"⟩
abbrev cX9_isPossible : ByteArray := prog_1_method_24_code
def yX9_isPossible : MethodName := ⟨RX9, "isPossible", "(I)Z"⟩
abbrev cX9_meanDegree : ByteArray := prog_1_method_25_code
def yX9_meanDegree : MethodName := ⟨RX9, "meanDegree", "()D"⟩
abbrev cX9_reason : ByteArray := prog_1_method_26_code
def yX9_reason : MethodName := ⟨RX9, "reason", "(IIII)I"⟩
abbrev cX9_removeEdge : ByteArray := prog_1_method_37_code
def yX9_removeEdge : MethodName := ⟨RX9, "removeEdge", "(II)I"⟩
abbrev cX9_setMode : ByteArray := prog_1_method_45_code
def yX9_setMode : MethodName := ⟨RX9, "setMode", "(I)I"⟩
abbrev cX9_checkVertex : ByteArray := prog_1_method_49_code
def yX9_checkVertex : MethodName := ⟨RX9, "checkVertex", "(I)V"⟩
abbrev cX9_checkVertices : ByteArray := prog_1_method_50_code
def yX9_checkVertices : MethodName := ⟨RX9, "checkVertices", "(IIII)V"⟩
abbrev cX9_checkEdge : ByteArray := prog_1_method_51_code
def yX9_checkEdge : MethodName := ⟨RX9, "checkEdge", "(II)V"⟩
abbrev cX9_checkMode : ByteArray := prog_1_method_52_code
def yX9_checkMode : MethodName := ⟨RX9, "checkMode", "(I)V"⟩
abbrev cX9_choose : ByteArray := prog_1_method_56_code
def yX9_choose : MethodName := ⟨RX9, "choose", "(Z)LSwitchGraphs$Graph;"⟩
abbrev cX9_remember : ByteArray := prog_1_method_57_code
def yX9_remember : MethodName := ⟨RX9, "remember", "()V"⟩
def RX10 : String := "SwitchGraphsModel"
def TX10 : u_T := fun k => match k with
  | _ => ("", "", "", false)
def tyX10 : Nat → FieldType := fun k => match k with
  | _ => .int
abbrev wsX100 : List Cond := u_ws RX10 TX10 0
theorem nmX10 : ∀ a, a < 0 → ∀ b, b < 0 → a ≠ b → (TX10 a).2.1 ≠ (TX10 b).2.1 := by decide +kernel
theorem tyX10_ok : ∀ k, k < 0 → parseFieldDescriptor (TX10 k).2.2.1 = some (tyX10 k) := by decide +kernel
def RJx145de : String := "java/io/Serializable"
def TJx145de : u_T := fun k => match k with
  | _ => ("", "", "", false)
def tyJx145de : Nat → FieldType := fun k => match k with
  | _ => .int
abbrev wsJx145de0 : List Cond := u_ws RJx145de TJx145de 0
theorem nmJx145de : ∀ a, a < 0 → ∀ b, b < 0 → a ≠ b → (TJx145de a).2.1 ≠ (TJx145de b).2.1 := by decide +kernel
theorem tyJx145de_ok : ∀ k, k < 0 → parseFieldDescriptor (TJx145de k).2.2.1 = some (tyJx145de k) := by decide +kernel
def RJ5 : String := "java/lang/AbstractStringBuilder"
def TJ5 : u_T := fun k => match k with
  | _ => ("", "", "", false)
def tyJ5 : Nat → FieldType := fun k => match k with
  | _ => .int
abbrev wsJ50 : List Cond := u_ws RJ5 TJ5 0
theorem nmJ5 : ∀ a, a < 0 → ∀ b, b < 0 → a ≠ b → (TJ5 a).2.1 ≠ (TJ5 b).2.1 := by decide +kernel
theorem tyJ5_ok : ∀ k, k < 0 → parseFieldDescriptor (TJ5 k).2.2.1 = some (tyJ5 k) := by decide +kernel
abbrev cJ5_init_d00df : ByteArray := prog_14_method_2_code
def yJ5_init_d00df : MethodName := ⟨RJ5, "<init>", "(I)V"⟩
abbrev cJ5_length_8abf5 : ByteArray := prog_14_method_6_code
def yJ5_length_8abf5 : MethodName := ⟨RJ5, "length", "()I"⟩
abbrev cJ5_ensureCapacityInternal_d00df : ByteArray := prog_14_method_9_code
def yJ5_ensureCapacityInternal_d00df : MethodName := ⟨RJ5, "ensureCapacityInternal", "(I)V"⟩
abbrev cJ5_newCapacity_0f7a4 : ByteArray := prog_14_method_10_code
def yJ5_newCapacity_0f7a4 : MethodName := ⟨RJ5, "newCapacity", "(I)I"⟩
abbrev cJ5_inflate_da8c8 : ByteArray := prog_14_method_11_code
def yJ5_inflate_da8c8 : MethodName := ⟨RJ5, "inflate", "()V"⟩
abbrev cJ5_append_cf1ce : ByteArray := prog_14_method_22_code
def yJ5_append_cf1ce : MethodName := ⟨RJ5, "append", "(Ljava/lang/String;)Ljava/lang/AbstractStringBuilder;"⟩
abbrev cJ5_appendNull_278bc : ByteArray := prog_14_method_26_code
def yJ5_appendNull_278bc : MethodName := ⟨RJ5, "appendNull", "()Ljava/lang/AbstractStringBuilder;"⟩
abbrev cJ5_append_c97b9 : ByteArray := prog_14_method_32_code
def yJ5_append_c97b9 : MethodName := ⟨RJ5, "append", "(I)Ljava/lang/AbstractStringBuilder;"⟩
abbrev cJ5_getValue_6d5f1 : ByteArray := prog_14_method_64_code
def yJ5_getValue_6d5f1 : MethodName := ⟨RJ5, "getValue", "()[B"⟩
abbrev cJ5_isLatin1_aae02 : ByteArray := prog_14_method_68_code
def yJ5_isLatin1_aae02 : MethodName := ⟨RJ5, "isLatin1", "()Z"⟩
abbrev cJ5_inflateIfNeededFor_a7421 : ByteArray := prog_14_method_71_code
def yJ5_inflateIfNeededFor_a7421 : MethodName := ⟨RJ5, "inflateIfNeededFor", "(Ljava/lang/String;)V"⟩
abbrev cJ5_putStringAt_47b60 : ByteArray := prog_14_method_73_code
def yJ5_putStringAt_47b60 : MethodName := ⟨RJ5, "putStringAt", "(ILjava/lang/String;)V"⟩
def RJx2cfe8 : String := "java/lang/Appendable"
def TJx2cfe8 : u_T := fun k => match k with
  | _ => ("", "", "", false)
def tyJx2cfe8 : Nat → FieldType := fun k => match k with
  | _ => .int
abbrev wsJx2cfe80 : List Cond := u_ws RJx2cfe8 TJx2cfe8 0
theorem nmJx2cfe8 : ∀ a, a < 0 → ∀ b, b < 0 → a ≠ b → (TJx2cfe8 a).2.1 ≠ (TJx2cfe8 b).2.1 := by decide +kernel
theorem tyJx2cfe8_ok : ∀ k, k < 0 → parseFieldDescriptor (TJx2cfe8 k).2.2.1 = some (tyJx2cfe8 k) := by decide +kernel
def RJx9f9b0 : String := "java/lang/CharSequence"
def TJx9f9b0 : u_T := fun k => match k with
  | _ => ("", "", "", false)
def tyJx9f9b0 : Nat → FieldType := fun k => match k with
  | _ => .int
abbrev wsJx9f9b00 : List Cond := u_ws RJx9f9b0 TJx9f9b0 0
theorem nmJx9f9b0 : ∀ a, a < 0 → ∀ b, b < 0 → a ≠ b → (TJx9f9b0 a).2.1 ≠ (TJx9f9b0 b).2.1 := by decide +kernel
theorem tyJx9f9b0_ok : ∀ k, k < 0 → parseFieldDescriptor (TJx9f9b0 k).2.2.1 = some (tyJx9f9b0 k) := by decide +kernel
def RJx8e188 : String := "java/lang/Cloneable"
def TJx8e188 : u_T := fun k => match k with
  | _ => ("", "", "", false)
def tyJx8e188 : Nat → FieldType := fun k => match k with
  | _ => .int
abbrev wsJx8e1880 : List Cond := u_ws RJx8e188 TJx8e188 0
theorem nmJx8e188 : ∀ a, a < 0 → ∀ b, b < 0 → a ≠ b → (TJx8e188 a).2.1 ≠ (TJx8e188 b).2.1 := by decide +kernel
theorem tyJx8e188_ok : ∀ k, k < 0 → parseFieldDescriptor (TJx8e188 k).2.2.1 = some (tyJx8e188 k) := by decide +kernel
def RJxb160c : String := "java/lang/Comparable"
def TJxb160c : u_T := fun k => match k with
  | _ => ("", "", "", false)
def tyJxb160c : Nat → FieldType := fun k => match k with
  | _ => .int
abbrev wsJxb160c0 : List Cond := u_ws RJxb160c TJxb160c 0
theorem nmJxb160c : ∀ a, a < 0 → ∀ b, b < 0 → a ≠ b → (TJxb160c a).2.1 ≠ (TJxb160c b).2.1 := by decide +kernel
theorem tyJxb160c_ok : ∀ k, k < 0 → parseFieldDescriptor (TJxb160c k).2.2.1 = some (tyJxb160c k) := by decide +kernel
def RJ6 : String := "java/lang/Integer"
def TJ6 : u_T := fun k => match k with
  | _ => ("", "", "", false)
def tyJ6 : Nat → FieldType := fun k => match k with
  | _ => .int
abbrev wsJ60 : List Cond := u_ws RJ6 TJ6 0
theorem nmJ6 : ∀ a, a < 0 → ∀ b, b < 0 → a ≠ b → (TJ6 a).2.1 ≠ (TJ6 b).2.1 := by decide +kernel
theorem tyJ6_ok : ∀ k, k < 0 → parseFieldDescriptor (TJ6 k).2.2.1 = some (tyJ6 k) := by decide +kernel
abbrev cJ6_getChars_ba4f3 : ByteArray := prog_22_method_12_code
def yJ6_getChars_ba4f3 : MethodName := ⟨RJ6, "getChars", "(II[B)I"⟩
abbrev cJ6_stringSize_0f7a4 : ByteArray := prog_22_method_13_code
def yJ6_stringSize_0f7a4 : MethodName := ⟨RJ6, "stringSize", "(I)I"⟩
def RJ9 : String := "java/lang/Math"
def TJ9 : u_T := fun k => match k with
  | _ => ("", "", "", false)
def tyJ9 : Nat → FieldType := fun k => match k with
  | _ => .int
abbrev wsJ90 : List Cond := u_ws RJ9 TJ9 0
theorem nmJ9 : ∀ a, a < 0 → ∀ b, b < 0 → a ≠ b → (TJ9 a).2.1 ≠ (TJ9 b).2.1 := by decide +kernel
theorem tyJ9_ok : ∀ k, k < 0 → parseFieldDescriptor (TJ9 k).2.2.1 = some (tyJ9 k) := by decide +kernel
abbrev cJ9_max_7cf53 : ByteArray := prog_23_method_65_code
def yJ9_max_7cf53 : MethodName := ⟨RJ9, "max", "(II)I"⟩
abbrev cJ9_min_7cf53 : ByteArray := prog_23_method_69_code
def yJ9_min_7cf53 : MethodName := ⟨RJ9, "min", "(II)I"⟩
def RJxd2413 : String := "java/lang/Number"
def TJxd2413 : u_T := fun k => match k with
  | _ => ("", "", "", false)
def tyJxd2413 : Nat → FieldType := fun k => match k with
  | _ => .int
abbrev wsJxd24130 : List Cond := u_ws RJxd2413 TJxd2413 0
theorem nmJxd2413 : ∀ a, a < 0 → ∀ b, b < 0 → a ≠ b → (TJxd2413 a).2.1 ≠ (TJxd2413 b).2.1 := by decide +kernel
theorem tyJxd2413_ok : ∀ k, k < 0 → parseFieldDescriptor (TJxd2413 k).2.2.1 = some (tyJxd2413 k) := by decide +kernel
def RJ0 : String := "java/lang/String"
def TJ0 : u_T := fun k => match k with
  | 0 => ("java/lang/String", "value", "[B", true)
  | 1 => ("java/lang/String", "coder", "B", true)
  | 2 => ("java/lang/String", "hash", "I", false)
  | _ => ("java/lang/String", "hashIsZero", "Z", false)
def tyJ0 : Nat → FieldType := fun k => match k with
  | 0 => .array .byte
  | 1 => .byte
  | 2 => .int
  | _ => .boolean
abbrev wsJ00 : List Cond := u_ws RJ0 TJ0 4
theorem nmJ0 : ∀ a, a < 4 → ∀ b, b < 4 → a ≠ b → (TJ0 a).2.1 ≠ (TJ0 b).2.1 := by decide +kernel
theorem tyJ0_ok : ∀ k, k < 4 → parseFieldDescriptor (TJ0 k).2.2.1 = some (tyJ0 k) := by decide +kernel
abbrev cJ0_init_81219 : ByteArray := prog_26_method_53_code
def yJ0_init_81219 : MethodName := ⟨RJ0, "<init>", "(Ljava/lang/StringBuilder;)V"⟩
abbrev cJ0_length_8abf5 : ByteArray := prog_26_method_54_code
def yJ0_length_8abf5 : MethodName := ⟨RJ0, "length", "()I"⟩
abbrev cJ0_charAt_5068e : ByteArray := prog_26_method_56_code
def yJ0_charAt_5068e : MethodName := ⟨RJ0, "charAt", "(I)C"⟩
abbrev cJ0_getBytes_840e7 : ByteArray := prog_26_method_147_code
def yJ0_getBytes_840e7 : MethodName := ⟨RJ0, "getBytes", "([BIB)V"⟩
abbrev cJ0_init_db425 : ByteArray := prog_26_method_150_code
def yJ0_init_db425 : MethodName := ⟨RJ0, "<init>", "(Ljava/lang/AbstractStringBuilder;Ljava/lang/Void;)V"⟩
abbrev cJ0_coder_7d493 : ByteArray := prog_26_method_152_code
def yJ0_coder_7d493 : MethodName := ⟨RJ0, "coder", "()B"⟩
abbrev cJ0_isLatin1_aae02 : ByteArray := prog_26_method_154_code
def yJ0_isLatin1_aae02 : MethodName := ⟨RJ0, "isLatin1", "()Z"⟩
abbrev cJ0_checkIndex_df160 : ByteArray := prog_26_method_155_code
def yJ0_checkIndex_df160 : MethodName := ⟨RJ0, "checkIndex", "(II)V"⟩
abbrev cJ0_checkBoundsOffCount_cabcc : ByteArray := prog_26_method_157_code
def yJ0_checkBoundsOffCount_cabcc : MethodName := ⟨RJ0, "checkBoundsOffCount", "(III)I"⟩
abbrev cJ0_checkBoundsBeginEnd_23922 : ByteArray := prog_26_method_158_code
def yJ0_checkBoundsBeginEnd_23922 : MethodName := ⟨RJ0, "checkBoundsBeginEnd", "(III)V"⟩
def RJ4 : String := "java/lang/StringBuilder"
def TJ4 : u_T := fun k => match k with
  | 0 => ("java/lang/AbstractStringBuilder", "value", "[B", false)
  | 1 => ("java/lang/AbstractStringBuilder", "coder", "B", false)
  | 2 => ("java/lang/AbstractStringBuilder", "maybeLatin1", "Z", false)
  | _ => ("java/lang/AbstractStringBuilder", "count", "I", false)
def tyJ4 : Nat → FieldType := fun k => match k with
  | 0 => .array .byte
  | 1 => .byte
  | 2 => .boolean
  | _ => .int
abbrev wsJ40 : List Cond := u_ws RJ4 TJ4 4
theorem nmJ4 : ∀ a, a < 4 → ∀ b, b < 4 → a ≠ b → (TJ4 a).2.1 ≠ (TJ4 b).2.1 := by decide +kernel
theorem tyJ4_ok : ∀ k, k < 4 → parseFieldDescriptor (TJ4 k).2.2.1 = some (tyJ4 k) := by decide +kernel
abbrev cJ4_init_da8c8 : ByteArray := prog_27_method_1_code
def yJ4_init_da8c8 : MethodName := ⟨RJ4, "<init>", "()V"⟩
abbrev cJ4_append_15ec4 : ByteArray := prog_27_method_7_code
def yJ4_append_15ec4 : MethodName := ⟨RJ4, "append", "(Ljava/lang/String;)Ljava/lang/StringBuilder;"⟩
abbrev cJ4_append_bf812 : ByteArray := prog_27_method_15_code
def yJ4_append_bf812 : MethodName := ⟨RJ4, "append", "(I)Ljava/lang/StringBuilder;"⟩
abbrev cJ4_toString_0e30d : ByteArray := prog_27_method_42_code
def yJ4_toString_0e30d : MethodName := ⟨RJ4, "toString", "()Ljava/lang/String;"⟩
abbrev cJ4_length_8abf5 : ByteArray := prog_27_method_93_code
def yJ4_length_8abf5 : MethodName := ⟨RJ4, "length", "()I"⟩
def RJ1 : String := "java/lang/StringLatin1"
def TJ1 : u_T := fun k => match k with
  | _ => ("", "", "", false)
def tyJ1 : Nat → FieldType := fun k => match k with
  | _ => .int
abbrev wsJ10 : List Cond := u_ws RJ1 TJ1 0
theorem nmJ1 : ∀ a, a < 0 → ∀ b, b < 0 → a ≠ b → (TJ1 a).2.1 ≠ (TJ1 b).2.1 := by decide +kernel
theorem tyJ1_ok : ∀ k, k < 0 → parseFieldDescriptor (TJ1 k).2.2.1 = some (tyJ1 k) := by decide +kernel
abbrev cJ1_charAt_3b067 : ByteArray := prog_28_method_2_code
def yJ1_charAt_3b067 : MethodName := ⟨RJ1, "charAt", "([BI)C"⟩
abbrev cJ1_inflate_0e8fd : ByteArray := prog_28_method_50_code
def yJ1_inflate_0e8fd : MethodName := ⟨RJ1, "inflate", "([BI[BII)V"⟩
def RJ2 : String := "java/lang/StringUTF16"
def TJ2 : u_T := fun k => match k with
  | _ => ("", "", "", false)
def tyJ2 : Nat → FieldType := fun k => match k with
  | _ => .int
abbrev wsJ20 : List Cond := u_ws RJ2 TJ2 0
theorem nmJ2 : ∀ a, a < 0 → ∀ b, b < 0 → a ≠ b → (TJ2 a).2.1 ≠ (TJ2 b).2.1 := by decide +kernel
theorem tyJ2_ok : ∀ k, k < 0 → parseFieldDescriptor (TJ2 k).2.2.1 = some (tyJ2 k) := by decide +kernel
abbrev cJ2_newBytesFor_77867 : ByteArray := prog_29_method_2_code
def yJ2_newBytesFor_77867 : MethodName := ⟨RJ2, "newBytesFor", "(I)[B"⟩
abbrev cJ2_newBytesLength_0f7a4 : ByteArray := prog_29_method_3_code
def yJ2_newBytesLength_0f7a4 : MethodName := ⟨RJ2, "newBytesLength", "(I)I"⟩
abbrev cJ2_putChar_b72d1 : ByteArray := prog_29_method_4_code
def yJ2_putChar_b72d1 : MethodName := ⟨RJ2, "putChar", "([BII)V"⟩
abbrev cJ2_getChar_3b067 : ByteArray := prog_29_method_5_code
def yJ2_getChar_3b067 : MethodName := ⟨RJ2, "getChar", "([BI)C"⟩
abbrev cJ2_length_9d52b : ByteArray := prog_29_method_6_code
def yJ2_length_9d52b : MethodName := ⟨RJ2, "length", "([B)I"⟩
abbrev cJ2_coderFromArrayLen_85cad : ByteArray := prog_29_method_15_code
def yJ2_coderFromArrayLen_85cad : MethodName := ⟨RJ2, "coderFromArrayLen", "([BI)B"⟩
abbrev cJ2_compress_39247 : ByteArray := prog_29_method_17_code
def yJ2_compress_39247 : MethodName := ⟨RJ2, "compress", "([BII)[B"⟩
abbrev cJ2_compress_5af95 : ByteArray := prog_29_method_22_code
def yJ2_compress_5af95 : MethodName := ⟨RJ2, "compress", "([BI[BII)I"⟩
abbrev cJ2_getChars_46870 : ByteArray := prog_29_method_77_code
def yJ2_getChars_46870 : MethodName := ⟨RJ2, "getChars", "(III[B)I"⟩
abbrev cJ2_putCharsAt_cd4e5 : ByteArray := prog_29_method_81_code
def yJ2_putCharsAt_cd4e5 : MethodName := ⟨RJ2, "putCharsAt", "([BICCCC)I"⟩
abbrev cJ2_charAt_3b067 : ByteArray := prog_29_method_83_code
def yJ2_charAt_3b067 : MethodName := ⟨RJ2, "charAt", "([BI)C"⟩
abbrev cJ2_inflate_0e8fd : ByteArray := prog_29_method_86_code
def yJ2_inflate_0e8fd : MethodName := ⟨RJ2, "inflate", "([BI[BII)V"⟩
abbrev cJ2_getChars_ba4f3 : ByteArray := prog_29_method_89_code
def yJ2_getChars_ba4f3 : MethodName := ⟨RJ2, "getChars", "(II[B)I"⟩
abbrev cJ2_checkIndex_2214a : ByteArray := prog_29_method_91_code
def yJ2_checkIndex_2214a : MethodName := ⟨RJ2, "checkIndex", "(I[B)V"⟩
abbrev cJ2_checkBoundsBeginEnd_d044e : ByteArray := prog_29_method_93_code
def yJ2_checkBoundsBeginEnd_d044e : MethodName := ⟨RJ2, "checkBoundsBeginEnd", "(II[B)V"⟩
abbrev cJ2_checkBoundsOffCount_d044e : ByteArray := prog_29_method_94_code
def yJ2_checkBoundsOffCount_d044e : MethodName := ⟨RJ2, "checkBoundsOffCount", "(II[B)V"⟩
def RJ10 : String := "java/lang/System"
def TJ10 : u_T := fun k => match k with
  | _ => ("", "", "", false)
def tyJ10 : Nat → FieldType := fun k => match k with
  | _ => .int
abbrev wsJ100 : List Cond := u_ws RJ10 TJ10 0
theorem nmJ10 : ∀ a, a < 0 → ∀ b, b < 0 → a ≠ b → (TJ10 a).2.1 ≠ (TJ10 b).2.1 := by decide +kernel
theorem tyJ10_ok : ∀ k, k < 0 → parseFieldDescriptor (TJ10 k).2.2.1 = some (tyJ10 k) := by decide +kernel
def RJxfd54e : String := "java/lang/constant/Constable"
def TJxfd54e : u_T := fun k => match k with
  | _ => ("", "", "", false)
def tyJxfd54e : Nat → FieldType := fun k => match k with
  | _ => .int
abbrev wsJxfd54e0 : List Cond := u_ws RJxfd54e TJxfd54e 0
theorem nmJxfd54e : ∀ a, a < 0 → ∀ b, b < 0 → a ≠ b → (TJxfd54e a).2.1 ≠ (TJxfd54e b).2.1 := by decide +kernel
theorem tyJxfd54e_ok : ∀ k, k < 0 → parseFieldDescriptor (TJxfd54e k).2.2.1 = some (tyJxfd54e k) := by decide +kernel
def RJx3cf43 : String := "java/lang/constant/ConstantDesc"
def TJx3cf43 : u_T := fun k => match k with
  | _ => ("", "", "", false)
def tyJx3cf43 : Nat → FieldType := fun k => match k with
  | _ => .int
abbrev wsJx3cf430 : List Cond := u_ws RJx3cf43 TJx3cf43 0
theorem nmJx3cf43 : ∀ a, a < 0 → ∀ b, b < 0 → a ≠ b → (TJx3cf43 a).2.1 ≠ (TJx3cf43 b).2.1 := by decide +kernel
theorem tyJx3cf43_ok : ∀ k, k < 0 → parseFieldDescriptor (TJx3cf43 k).2.2.1 = some (tyJx3cf43 k) := by decide +kernel
def RJ7 : String := "java/util/Arrays"
def TJ7 : u_T := fun k => match k with
  | _ => ("", "", "", false)
def tyJ7 : Nat → FieldType := fun k => match k with
  | _ => .int
abbrev wsJ70 : List Cond := u_ws RJ7 TJ7 0
theorem nmJ7 : ∀ a, a < 0 → ∀ b, b < 0 → a ≠ b → (TJ7 a).2.1 ≠ (TJ7 b).2.1 := by decide +kernel
theorem tyJ7_ok : ∀ k, k < 0 → parseFieldDescriptor (TJ7 k).2.2.1 = some (tyJ7 k) := by decide +kernel
abbrev cJ7_copyOf_9075b : ByteArray := prog_34_method_121_code
def yJ7_copyOf_9075b : MethodName := ⟨RJ7, "copyOf", "([BI)[B"⟩
abbrev cJ7_checkLength_df160 : ByteArray := prog_34_method_131_code
def yJ7_checkLength_df160 : MethodName := ⟨RJ7, "checkLength", "(II)V"⟩
abbrev cJ7_copyOfRange_39247 : ByteArray := prog_34_method_132_code
def yJ7_copyOfRange_39247 : MethodName := ⟨RJ7, "copyOfRange", "([BII)[B"⟩
abbrev cJ7_copyOfRangeByte_39247 : ByteArray := prog_34_method_133_code
def yJ7_copyOfRangeByte_39247 : MethodName := ⟨RJ7, "copyOfRangeByte", "([BII)[B"⟩
def RJ8 : String := "jdk/internal/util/ArraysSupport"
def TJ8 : u_T := fun k => match k with
  | _ => ("", "", "", false)
def tyJ8 : Nat → FieldType := fun k => match k with
  | _ => .int
abbrev wsJ80 : List Cond := u_ws RJ8 TJ8 0
theorem nmJ8 : ∀ a, a < 0 → ∀ b, b < 0 → a ≠ b → (TJ8 a).2.1 ≠ (TJ8 b).2.1 := by decide +kernel
theorem tyJ8_ok : ∀ k, k < 0 → parseFieldDescriptor (TJ8 k).2.2.1 = some (tyJ8 k) := by decide +kernel
abbrev cJ8_newLength_cabcc : ByteArray := prog_36_method_27_code
def yJ8_newLength_cabcc : MethodName := ⟨RJ8, "newLength", "(III)I"⟩
abbrev cJ8_hugeLength_7cf53 : ByteArray := prog_36_method_28_code
def yJ8_hugeLength_7cf53 : MethodName := ⟨RJ8, "hugeLength", "(II)I"⟩
def RJ3 : String := "jdk/internal/util/Preconditions"
def TJ3 : u_T := fun k => match k with
  | _ => ("", "", "", false)
def tyJ3 : Nat → FieldType := fun k => match k with
  | _ => .int
abbrev wsJ30 : List Cond := u_ws RJ3 TJ3 0
theorem nmJ3 : ∀ a, a < 0 → ∀ b, b < 0 → a ≠ b → (TJ3 a).2.1 ≠ (TJ3 b).2.1 := by decide +kernel
theorem tyJ3_ok : ∀ k, k < 0 → parseFieldDescriptor (TJ3 k).2.2.1 = some (tyJ3 k) := by decide +kernel
abbrev cJ3_checkIndex_8e157 : ByteArray := prog_37_method_11_code
def yJ3_checkIndex_8e157 : MethodName := ⟨RJ3, "checkIndex", "(IILjava/util/function/BiFunction;)I"⟩
abbrev cJ3_checkFromToIndex_8c36e : ByteArray := prog_37_method_12_code
def yJ3_checkFromToIndex_8c36e : MethodName := ⟨RJ3, "checkFromToIndex", "(IIILjava/util/function/BiFunction;)I"⟩
abbrev cJ3_checkFromIndexSize_8c36e : ByteArray := prog_37_method_13_code
def yJ3_checkFromIndexSize_8c36e : MethodName := ⟨RJ3, "checkFromIndexSize", "(IIILjava/util/function/BiFunction;)I"⟩
def RL : String := "SwitchGraphsLaw"
def TL : u_T := fun k => match k with
  | 0 => ("SwitchGraphsLaw", "choices", "[I", false)
  | 1 => ("SwitchGraphsLaw", "at", "I", false)
  | 2 => ("SwitchGraphsLaw", "n", "I", false)
  | 3 => ("SwitchGraphsLaw", "mode", "I", false)
  | _ => ("SwitchGraphsLaw", "m", "[[I", true)
def tyL : Nat → FieldType := fun k => match k with
  | 0 => .array .int
  | 1 => .int
  | 2 => .int
  | 3 => .int
  | _ => .array (.array .int)
abbrev wsL0 : List Cond := u_ws RL TL 5
theorem nmL : ∀ a, a < 5 → ∀ b, b < 5 → a ≠ b → (TL a).2.1 ≠ (TL b).2.1 := by decide +kernel
theorem tyL_ok : ∀ k, k < 5 → parseFieldDescriptor (TL k).2.2.1 = some (tyL k) := by decide +kernel
abbrev cL_init : ByteArray := method_1_code
def yL_init : MethodName := ⟨RL, "<init>", "()V"⟩
abbrev cL_among : ByteArray := method_2_code
def yL_among : MethodName := ⟨RL, "among", "(II)I"⟩
abbrev cL_cell : ByteArray := method_3_code
def yL_cell : MethodName := ⟨RL, "cell", "([II)I"⟩
abbrev cL_four : ByteArray := method_4_code
def yL_four : MethodName := ⟨RL, "four", "(Ljava/lang/String;I)I"⟩
abbrev cL_load : ByteArray := method_5_code
def yL_load : MethodName := ⟨RL, "load", "(LSwitchGraphs;Ljava/lang/String;)I"⟩
abbrev cL_chosen : ByteArray := method_6_code
def yL_chosen : MethodName := ⟨RL, "chosen", "(I)I"⟩
abbrev cL_from : ByteArray := method_7_code
def yL_from : MethodName := ⟨RL, "from", "(II)I"⟩
abbrev cL_law : ByteArray := code
def yL_law : MethodName := ⟨RL, "law", "([I)Z"⟩
abbrev cL_told : ByteArray := method_9_code
def yL_told : MethodName := ⟨RL, "told", "()Ljava/lang/String;"⟩
abbrev cL_edges : ByteArray := method_10_code
def yL_edges : MethodName := ⟨RL, "edges", "()I"⟩
abbrev cL_many : ByteArray := method_11_code
def yL_many : MethodName := ⟨RL, "many", "(II)I"⟩
abbrev cL_degree : ByteArray := method_12_code
def yL_degree : MethodName := ⟨RL, "degree", "(I)I"⟩
abbrev cL_isGraph : ByteArray := method_13_code
def yL_isGraph : MethodName := ⟨RL, "isGraph", "(LSwitchGraphs;)Z"⟩
abbrev cL_isSequence : ByteArray := method_14_code
def yL_isSequence : MethodName := ⟨RL, "isSequence", "(LSwitchGraphs;)Z"⟩
abbrev cL_isSame : ByteArray := method_15_code
def yL_isSame : MethodName := ⟨RL, "isSame", "(IIII)Z"⟩
abbrev cL_isReason : ByteArray := method_16_code
def yL_isReason : MethodName := ⟨RL, "isReason", "(LSwitchGraphs;)Z"⟩
abbrev cL_isNoVertex : ByteArray := method_17_code
def yL_isNoVertex : MethodName := ⟨RL, "isNoVertex", "(LSwitchGraphs;)Z"⟩
abbrev cL_isBad : ByteArray := method_18_code
def yL_isBad : MethodName := ⟨RL, "isBad", "(LSwitchGraphs;)Z"⟩
abbrev cL_isNoEdge : ByteArray := method_19_code
def yL_isNoEdge : MethodName := ⟨RL, "isNoEdge", "(LSwitchGraphs;)Z"⟩
abbrev vwCl : List vw_C := [(RJ0, TJ0, 4), (RJ4, TJ4, 4), (RX1, TX1, 3), (RX2, TX2, 5), (RX3, TX3, 2), (RX4, TX4, 3), (RX5, TX5, 13), (RX6, TX6, 5), (RX7, TX7, 2), (RX8, TX8, 3), (RX9, TX9, 12), (RL, TL, 5)]
