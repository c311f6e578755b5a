/-! ===== BEGIN printed: names, fields, word lists, decode rows ===== -/
def RX0 : String := "SquareCuts$Draft"
def TX0 : u_T := fun k => match k with
  | 0 => ("SquareCuts$Draft", "left", "[I", true)
  | 1 => ("SquareCuts$Draft", "top", "[I", true)
  | 2 => ("SquareCuts$Draft", "size", "[I", true)
  | 3 => ("SquareCuts$Draft", "total", "I", false)
  | 4 => ("SquareCuts$Draft", "wide", "I", false)
  | _ => ("SquareCuts$Draft", "high", "I", false)
def tyX0 : Nat → FieldType := fun k => match k with
  | 0 => .array .int
  | 1 => .array .int
  | 2 => .array .int
  | 3 => .int
  | 4 => .int
  | _ => .int
theorem nmX0 : ∀ a, a < 6 → ∀ b, b < 6 → a ≠ b → (TX0 a).2.1 ≠ (TX0 b).2.1 := by decide +kernel
theorem tyX0_ok : ∀ k, k < 6 → parseFieldDescriptor (TX0 k).2.2.1 = some (tyX0 k) := by decide +kernel
abbrev cX0_init : ByteArray := prog_2_method_1_code
def yX0_init : MethodName := ⟨RX0, "<init>", "()V"⟩
abbrev cX0_begin : ByteArray := prog_2_method_2_code
def yX0_begin : MethodName := ⟨RX0, "begin", "(II)V"⟩
abbrev cX0_add : ByteArray := prog_2_method_3_code
def yX0_add : MethodName := ⟨RX0, "add", "(III)V"⟩
abbrev cX0_addTimes : ByteArray := prog_2_method_4_code
def yX0_addTimes : MethodName := ⟨RX0, "addTimes", "(LSquareCuts$Tiling;III)V"⟩
abbrev cX0_takeTurned : ByteArray := prog_2_method_5_code
def yX0_takeTurned : MethodName := ⟨RX0, "takeTurned", "(LSquareCuts$Tiling;II)V"⟩
abbrev cX0_sortAsCode : ByteArray := prog_2_method_6_code
def yX0_sortAsCode : MethodName := ⟨RX0, "sortAsCode", "()V"⟩
abbrev cX0_isBehind : ByteArray := prog_2_method_7_code
def yX0_isBehind : MethodName := ⟨RX0, "isBehind", "(III)Z"⟩
abbrev cX0_equalTo : ByteArray := prog_2_method_8_code
def yX0_equalTo : MethodName := ⟨RX0, "equalTo", "(LSquareCuts$Draft;)Z"⟩
def RX1 : String := "SquareCuts$GroupLayer"
def TX1 : u_T := fun k => match k with
  | 0 => ("SquareCuts$GroupLayer", "outline", "LSquareCuts$Outline;", true)
  | _ => ("SquareCuts$GroupLayer", "laidSquares", "I", false)
def tyX1 : Nat → FieldType := fun k => match k with
  | 0 => .object "SquareCuts$Outline"
  | _ => .int
theorem nmX1 : ∀ a, a < 2 → ∀ b, b < 2 → a ≠ b → (TX1 a).2.1 ≠ (TX1 b).2.1 := by decide +kernel
theorem tyX1_ok : ∀ k, k < 2 → parseFieldDescriptor (TX1 k).2.2.1 = some (tyX1 k) := by decide +kernel
abbrev cX1_init : ByteArray := prog_3_method_1_code
def yX1_init : MethodName := ⟨RX1, "<init>", "()V"⟩
abbrev cX1_layGroups : ByteArray := prog_3_method_2_code
def yX1_layGroups : MethodName := ⟨RX1, "layGroups", "([I[IILSquareCuts$Draft;)Z"⟩
abbrev cX1_layGroup : ByteArray := prog_3_method_3_code
def yX1_layGroup : MethodName := ⟨RX1, "layGroup", "([I[IILSquareCuts$Draft;)V"⟩
abbrev cX1_groupSum : ByteArray := prog_3_method_4_code
def yX1_groupSum : MethodName := ⟨RX1, "groupSum", "([I[II)I"⟩
def RX2 : String := "SquareCuts$LineTable"
def TX2 : u_T := fun k => match k with
  | 0 => ("SquareCuts$LineTable", "depth", "[I", true)
  | 1 => ("SquareCuts$LineTable", "left", "[I", true)
  | 2 => ("SquareCuts$LineTable", "right", "[I", true)
  | 3 => ("SquareCuts$LineTable", "flow", "[I", true)
  | 4 => ("SquareCuts$LineTable", "rows", "I", false)
  | _ => ("SquareCuts$LineTable", "builtFor", "LSquareCuts$Tiling;", false)
def tyX2 : Nat → FieldType := fun k => match k with
  | 0 => .array .int
  | 1 => .array .int
  | 2 => .array .int
  | 3 => .array .int
  | 4 => .int
  | _ => .object "SquareCuts$Tiling"
theorem nmX2 : ∀ a, a < 6 → ∀ b, b < 6 → a ≠ b → (TX2 a).2.1 ≠ (TX2 b).2.1 := by decide +kernel
theorem tyX2_ok : ∀ k, k < 6 → parseFieldDescriptor (TX2 k).2.2.1 = some (tyX2 k) := by decide +kernel
abbrev cX2_init : ByteArray := prog_4_method_1_code
def yX2_init : MethodName := ⟨RX2, "<init>", "()V"⟩
abbrev cX2_build : ByteArray := prog_4_method_2_code
def yX2_build : MethodName := ⟨RX2, "build", "(LSquareCuts$Tiling;)V"⟩
abbrev cX2_insertSide : ByteArray := prog_4_method_3_code
def yX2_insertSide : MethodName := ⟨RX2, "insertSide", "(IIII)V"⟩
abbrev cX2_copyRow : ByteArray := prog_4_method_4_code
def yX2_copyRow : MethodName := ⟨RX2, "copyRow", "(II)V"⟩
abbrev cX2_mergeSides : ByteArray := prog_4_method_5_code
def yX2_mergeSides : MethodName := ⟨RX2, "mergeSides", "()V"⟩
abbrev cX2_rowOf : ByteArray := prog_4_method_6_code
def yX2_rowOf : MethodName := ⟨RX2, "rowOf", "(II)I"⟩
def RX3 : String := "SquareCuts$Net"
def TX3 : u_T := fun k => match k with
  | 0 => ("SquareCuts$Net", "points", "I", true)
  | 1 => ("SquareCuts$Net", "wires", "I", true)
  | 2 => ("SquareCuts$Net", "levels", "[I", true)
  | 3 => ("SquareCuts$Net", "currents", "[I", true)
  | 4 => ("SquareCuts$Net", "trees", "J", false)
  | 5 => ("SquareCuts$Net", "wide", "I", false)
  | 6 => ("SquareCuts$Net", "high", "I", false)
  | _ => ("SquareCuts$Net", "layings", "I", false)
def tyX3 : Nat → FieldType := fun k => match k with
  | 0 => .int
  | 1 => .int
  | 2 => .array .int
  | 3 => .array .int
  | 4 => .long
  | 5 => .int
  | 6 => .int
  | _ => .int
theorem nmX3 : ∀ a, a < 8 → ∀ b, b < 8 → a ≠ b → (TX3 a).2.1 ≠ (TX3 b).2.1 := by decide +kernel
theorem tyX3_ok : ∀ k, k < 8 → parseFieldDescriptor (TX3 k).2.2.1 = some (tyX3 k) := by decide +kernel
abbrev cX3_init : ByteArray := prog_5_method_1_code
def yX3_init : MethodName := ⟨RX3, "<init>", "(II)V"⟩
def RX4 : String := "SquareCuts$NetLayer"
def TX4 : u_T := fun k => match k with
  | 0 => ("SquareCuts$NetLayer", "outlines", "[LSquareCuts$Outline;", true)
  | 1 => ("SquareCuts$NetLayer", "size", "[I", true)
  | 2 => ("SquareCuts$NetLayer", "chosen", "[I", true)
  | 3 => ("SquareCuts$NetLayer", "used", "[Z", true)
  | _ => ("SquareCuts$NetLayer", "squares", "I", false)
def tyX4 : Nat → FieldType := fun k => match k with
  | 0 => .array (.object "SquareCuts$Outline")
  | 1 => .array .int
  | 2 => .array .int
  | 3 => .array .boolean
  | _ => .int
theorem nmX4 : ∀ a, a < 5 → ∀ b, b < 5 → a ≠ b → (TX4 a).2.1 ≠ (TX4 b).2.1 := by decide +kernel
theorem tyX4_ok : ∀ k, k < 5 → parseFieldDescriptor (TX4 k).2.2.1 = some (tyX4 k) := by decide +kernel
abbrev cX4_init : ByteArray := prog_6_method_1_code
def yX4_init : MethodName := ⟨RX4, "<init>", "()V"⟩
abbrev cX4_search : ByteArray := prog_6_method_2_code
def yX4_search : MethodName := ⟨RX4, "search", "(LSquareCuts$Net;[ILSquareCuts$Draft;)Z"⟩
abbrev cX4_takeSizes : ByteArray := prog_6_method_3_code
def yX4_takeSizes : MethodName := ⟨RX4, "takeSizes", "(LSquareCuts$Net;)V"⟩
abbrev cX4_nextFitting : ByteArray := prog_6_method_4_code
def yX4_nextFitting : MethodName := ⟨RX4, "nextFitting", "(LSquareCuts$Net;[III)I"⟩
abbrev cX4_layWire : ByteArray := prog_6_method_5_code
def yX4_layWire : MethodName := ⟨RX4, "layWire", "(II)V"⟩
abbrev cX4_fillDraft : ByteArray := prog_6_method_6_code
def yX4_fillDraft : MethodName := ⟨RX4, "fillDraft", "(LSquareCuts$Net;LSquareCuts$Draft;)V"⟩
def RX5 : String := "SquareCuts$NetSolver"
def TX5 : u_T := fun k => match k with
  | 0 => ("SquareCuts$NetSolver", "matrix", "[[J", true)
  | 1 => ("SquareCuts$NetSolver", "from", "[I", true)
  | 2 => ("SquareCuts$NetSolver", "to", "[I", true)
  | _ => ("SquareCuts$NetSolver", "starts", "[I", true)
def tyX5 : Nat → FieldType := fun k => match k with
  | 0 => .array (.array .long)
  | 1 => .array .int
  | 2 => .array .int
  | _ => .array .int
theorem nmX5 : ∀ a, a < 4 → ∀ b, b < 4 → a ≠ b → (TX5 a).2.1 ≠ (TX5 b).2.1 := by decide +kernel
theorem tyX5_ok : ∀ k, k < 4 → parseFieldDescriptor (TX5 k).2.2.1 = some (tyX5 k) := by decide +kernel
abbrev cX5_init : ByteArray := prog_7_method_1_code
def yX5_init : MethodName := ⟨RX5, "<init>", "()V"⟩
abbrev cX5_solve : ByteArray := prog_7_method_2_code
def yX5_solve : MethodName := ⟨RX5, "solve", "([II)LSquareCuts$Net;"⟩
abbrev cX5_fillMatrix : ByteArray := prog_7_method_3_code
def yX5_fillMatrix : MethodName := ⟨RX5, "fillMatrix", "(II)V"⟩
abbrev cX5_eliminate : ByteArray := prog_7_method_4_code
def yX5_eliminate : MethodName := ⟨RX5, "eliminate", "(I)J"⟩
abbrev cX5_reduceRow : ByteArray := prog_7_method_5_code
def yX5_reduceRow : MethodName := ⟨RX5, "reduceRow", "(IIIJ)V"⟩
abbrev cX5_setFlow : ByteArray := prog_7_method_6_code
def yX5_setFlow : MethodName := ⟨RX5, "setFlow", "(LSquareCuts$Net;)V"⟩
def RX6 : String := "SquareCuts$Outline"
def TX6 : u_T := fun k => match k with
  | 0 => ("SquareCuts$Outline", "end", "[I", true)
  | 1 => ("SquareCuts$Outline", "depth", "[I", true)
  | 2 => ("SquareCuts$Outline", "notch", "I", false)
  | _ => ("SquareCuts$Outline", "pieces", "I", false)
def tyX6 : Nat → FieldType := fun k => match k with
  | 0 => .array .int
  | 1 => .array .int
  | 2 => .int
  | _ => .int
theorem nmX6 : ∀ a, a < 4 → ∀ b, b < 4 → a ≠ b → (TX6 a).2.1 ≠ (TX6 b).2.1 := by decide +kernel
theorem tyX6_ok : ∀ k, k < 4 → parseFieldDescriptor (TX6 k).2.2.1 = some (tyX6 k) := by decide +kernel
abbrev cX6_init : ByteArray := prog_8_method_1_code
def yX6_init : MethodName := ⟨RX6, "<init>", "(I)V"⟩
abbrev cX6_open : ByteArray := prog_8_method_2_code
def yX6_open : MethodName := ⟨RX6, "open", "(I)V"⟩
abbrev cX6_copyFrom : ByteArray := prog_8_method_3_code
def yX6_copyFrom : MethodName := ⟨RX6, "copyFrom", "(LSquareCuts$Outline;)V"⟩
abbrev cX6_notchLeft : ByteArray := prog_8_method_4_code
def yX6_notchLeft : MethodName := ⟨RX6, "notchLeft", "()I"⟩
abbrev cX6_notchWidth : ByteArray := prog_8_method_5_code
def yX6_notchWidth : MethodName := ⟨RX6, "notchWidth", "()I"⟩
abbrev cX6_notchDepth : ByteArray := prog_8_method_6_code
def yX6_notchDepth : MethodName := ⟨RX6, "notchDepth", "()I"⟩
abbrev cX6_lay : ByteArray := prog_8_method_7_code
def yX6_lay : MethodName := ⟨RX6, "lay", "(I)V"⟩
abbrev cX6_splitNotch : ByteArray := prog_8_method_8_code
def yX6_splitNotch : MethodName := ⟨RX6, "splitNotch", "(II)V"⟩
abbrev cX6_mergePieces : ByteArray := prog_8_method_9_code
def yX6_mergePieces : MethodName := ⟨RX6, "mergePieces", "()V"⟩
abbrev cX6_findNotch : ByteArray := prog_8_method_10_code
def yX6_findNotch : MethodName := ⟨RX6, "findNotch", "()V"⟩
def RX7 : String := "SquareCuts$Page"
def TX7 : u_T := fun k => match k with
  | 0 => ("SquareCuts$Page", "bytes", "[B", true)
  | _ => ("SquareCuts$Page", "length", "I", false)
def tyX7 : Nat → FieldType := fun k => match k with
  | 0 => .array .byte
  | _ => .int
theorem nmX7 : ∀ a, a < 2 → ∀ b, b < 2 → a ≠ b → (TX7 a).2.1 ≠ (TX7 b).2.1 := by decide +kernel
theorem tyX7_ok : ∀ k, k < 2 → parseFieldDescriptor (TX7 k).2.2.1 = some (tyX7 k) := by decide +kernel
abbrev cX7_init : ByteArray := prog_9_method_1_code
def yX7_init : MethodName := ⟨RX7, "<init>", "()V"⟩
abbrev cX7_write : ByteArray := prog_9_method_2_code
def yX7_write : MethodName := ⟨RX7, "write", "(LSquareCuts$Tiling;)V"⟩
abbrev cX7_putNumber : ByteArray := prog_9_method_3_code
def yX7_putNumber : MethodName := ⟨RX7, "putNumber", "(I)V"⟩
abbrev cX7_put : ByteArray := prog_9_method_4_code
def yX7_put : MethodName := ⟨RX7, "put", "(I)V"⟩
def RX8 : String := "SquareCuts$Reader"
def TX8 : u_T := fun k => match k with
  | 0 => ("SquareCuts$Reader", "tape", "[B", true)
  | 1 => ("SquareCuts$Reader", "length", "I", false)
  | 2 => ("SquareCuts$Reader", "place", "I", false)
  | 3 => ("SquareCuts$Reader", "token", "I", false)
  | 4 => ("SquareCuts$Reader", "start", "I", false)
  | 5 => ("SquareCuts$Reader", "value", "J", false)
  | 6 => ("SquareCuts$Reader", "names", "[J", true)
  | 7 => ("SquareCuts$Reader", "fed", "I", false)
  | 8 => ("SquareCuts$Reader", "told", "I", false)
  | 9 => ("SquareCuts$Reader", "drawn", "[Z", true)
  | 10 => ("SquareCuts$Reader", "given", "[I", true)
  | 11 => ("SquareCuts$Reader", "numbers", "[[I", true)
  | _ => ("SquareCuts$Reader", "groupOf", "[[I", true)
def tyX8 : Nat → FieldType := fun k => match k with
  | 0 => .array .byte
  | 1 => .int
  | 2 => .int
  | 3 => .int
  | 4 => .int
  | 5 => .long
  | 6 => .array .long
  | 7 => .int
  | 8 => .int
  | 9 => .array .boolean
  | 10 => .array .int
  | 11 => .array (.array .int)
  | _ => .array (.array .int)
theorem nmX8 : ∀ a, a < 13 → ∀ b, b < 13 → a ≠ b → (TX8 a).2.1 ≠ (TX8 b).2.1 := by decide +kernel
theorem tyX8_ok : ∀ k, k < 13 → parseFieldDescriptor (TX8 k).2.2.1 = some (tyX8 k) := by decide +kernel
abbrev cX8_init : ByteArray := prog_10_method_1_code
def yX8_init : MethodName := ⟨RX8, "<init>", "()V"⟩
abbrev cX8_takeFourBytes : ByteArray := prog_10_method_2_code
def yX8_takeFourBytes : MethodName := ⟨RX8, "takeFourBytes", "(I)V"⟩
abbrev cX8_read : ByteArray := prog_10_method_3_code
def yX8_read : MethodName := ⟨RX8, "read", "(I)I"⟩
abbrev cX8_readLine : ByteArray := prog_10_method_4_code
def yX8_readLine : MethodName := ⟨RX8, "readLine", "()I"⟩
abbrev cX8_readGroups : ByteArray := prog_10_method_5_code
def yX8_readGroups : MethodName := ⟨RX8, "readGroups", "()I"⟩
abbrev cX8_readGroup : ByteArray := prog_10_method_6_code
def yX8_readGroup : MethodName := ⟨RX8, "readGroup", "(I)I"⟩
abbrev cX8_readNet : ByteArray := prog_10_method_7_code
def yX8_readNet : MethodName := ⟨RX8, "readNet", "()I"⟩
abbrev cX8_readWire : ByteArray := prog_10_method_8_code
def yX8_readWire : MethodName := ⟨RX8, "readWire", "(IJ)I"⟩
abbrev cX8_holdValue : ByteArray := prog_10_method_9_code
def yX8_holdValue : MethodName := ⟨RX8, "holdValue", "()V"⟩
abbrev cX8_isNameThere : ByteArray := prog_10_method_10_code
def yX8_isNameThere : MethodName := ⟨RX8, "isNameThere", "()Z"⟩
abbrev cX8_isWord : ByteArray := prog_10_method_11_code
def yX8_isWord : MethodName := ⟨RX8, "isWord", "(J)Z"⟩
abbrev cX8_faultOf : ByteArray := prog_10_method_12_code
def yX8_faultOf : MethodName := ⟨RX8, "faultOf", "(I)I"⟩
abbrev cX8_nextToken : ByteArray := prog_10_method_13_code
def yX8_nextToken : MethodName := ⟨RX8, "nextToken", "()V"⟩
abbrev cX8_tokenBegunBy : ByteArray := prog_10_method_14_code
def yX8_tokenBegunBy : MethodName := ⟨RX8, "tokenBegunBy", "(B)I"⟩
def RX9 : String := "SquareCuts$Shelf"
def TX9 : u_T := fun k => match k with
  | 0 => ("SquareCuts$Shelf", "places", "[LSquareCuts$Tiling;", true)
  | 1 => ("SquareCuts$Shelf", "held", "I", false)
  | _ => ("SquareCuts$Shelf", "isFilled", "Z", false)
def tyX9 : Nat → FieldType := fun k => match k with
  | 0 => .array (.object "SquareCuts$Tiling")
  | 1 => .int
  | _ => .boolean
theorem nmX9 : ∀ a, a < 3 → ∀ b, b < 3 → a ≠ b → (TX9 a).2.1 ≠ (TX9 b).2.1 := by decide +kernel
theorem tyX9_ok : ∀ k, k < 3 → parseFieldDescriptor (TX9 k).2.2.1 = some (tyX9 k) := by decide +kernel
abbrev cX9_init : ByteArray := prog_11_method_1_code
def yX9_init : MethodName := ⟨RX9, "<init>", "()V"⟩
abbrev cX9_clear : ByteArray := prog_11_method_2_code
def yX9_clear : MethodName := ⟨RX9, "clear", "()V"⟩
abbrev cX9_put : ByteArray := prog_11_method_3_code
def yX9_put : MethodName := ⟨RX9, "put", "(LSquareCuts$Tiling;)V"⟩
abbrev cX9_dropLast : ByteArray := prog_11_method_4_code
def yX9_dropLast : MethodName := ⟨RX9, "dropLast", "()V"⟩
abbrev cX9_copyFrom : ByteArray := prog_11_method_5_code
def yX9_copyFrom : MethodName := ⟨RX9, "copyFrom", "(LSquareCuts$Shelf;)V"⟩
abbrev cX9_find : ByteArray := prog_11_method_6_code
def yX9_find : MethodName := ⟨RX9, "find", "(I)LSquareCuts$Tiling;"⟩
abbrev cX9_failing : ByteArray := prog_11_method_7_code
def yX9_failing : MethodName := ⟨RX9, "failing", "()I"⟩
abbrev cX9_perfectOnes : ByteArray := prog_11_method_8_code
def yX9_perfectOnes : MethodName := ⟨RX9, "perfectOnes", "()I"⟩
def RX10 : String := "SquareCuts$Tiling"
def TX10 : u_T := fun k => match k with
  | 0 => ("SquareCuts$Tiling", "kind", "I", true)
  | 1 => ("SquareCuts$Tiling", "fails", "Z", true)
  | 2 => ("SquareCuts$Tiling", "laidTillEnd", "I", true)
  | 3 => ("SquareCuts$Tiling", "net", "LSquareCuts$Net;", true)
  | 4 => ("SquareCuts$Tiling", "total", "I", true)
  | 5 => ("SquareCuts$Tiling", "wide", "I", true)
  | 6 => ("SquareCuts$Tiling", "high", "I", true)
  | 7 => ("SquareCuts$Tiling", "left", "[I", true)
  | 8 => ("SquareCuts$Tiling", "top", "[I", true)
  | 9 => ("SquareCuts$Tiling", "size", "[I", true)
  | _ => ("SquareCuts$Tiling", "knownParts", "I", false)
def tyX10 : Nat → FieldType := fun k => match k with
  | 0 => .int
  | 1 => .boolean
  | 2 => .int
  | 3 => .object "SquareCuts$Net"
  | 4 => .int
  | 5 => .int
  | 6 => .int
  | 7 => .array .int
  | 8 => .array .int
  | 9 => .array .int
  | _ => .int
theorem nmX10 : ∀ a, a < 11 → ∀ b, b < 11 → a ≠ b → (TX10 a).2.1 ≠ (TX10 b).2.1 := by decide +kernel
theorem tyX10_ok : ∀ k, k < 11 → parseFieldDescriptor (TX10 k).2.2.1 = some (tyX10 k) := by decide +kernel
abbrev cX10_init : ByteArray := prog_12_method_1_code
def yX10_init : MethodName := ⟨RX10, "<init>", "(ILSquareCuts$Draft;ILSquareCuts$Net;)V"⟩
abbrev cX10_right : ByteArray := prog_12_method_2_code
def yX10_right : MethodName := ⟨RX10, "right", "(I)I"⟩
abbrev cX10_bottom : ByteArray := prog_12_method_3_code
def yX10_bottom : MethodName := ⟨RX10, "bottom", "(I)I"⟩
abbrev cX10_isPerfect : ByteArray := prog_12_method_4_code
def yX10_isPerfect : MethodName := ⟨RX10, "isPerfect", "()Z"⟩
abbrev cX10_firstSmallest : ByteArray := prog_12_method_5_code
def yX10_firstSmallest : MethodName := ⟨RX10, "firstSmallest", "()I"⟩
abbrev cX10_commonDivisor : ByteArray := prog_12_method_6_code
def yX10_commonDivisor : MethodName := ⟨RX10, "commonDivisor", "()I"⟩
abbrev cX10_startsGroup : ByteArray := prog_12_method_7_code
def yX10_startsGroup : MethodName := ⟨RX10, "startsGroup", "(I)Z"⟩
abbrev cX10_codeGroups : ByteArray := prog_12_method_8_code
def yX10_codeGroups : MethodName := ⟨RX10, "codeGroups", "()I"⟩
abbrev cX10_parts : ByteArray := prog_12_method_9_code
def yX10_parts : MethodName := ⟨RX10, "parts", "()I"⟩
abbrev cX10_isPart : ByteArray := prog_12_method_10_code
def yX10_isPart : MethodName := ⟨RX10, "isPart", "(II)Z"⟩
abbrev cX10_crosses : ByteArray := prog_12_method_11_code
def yX10_crosses : MethodName := ⟨RX10, "crosses", "()I"⟩
abbrev cX10_cornersAt : ByteArray := prog_12_method_12_code
def yX10_cornersAt : MethodName := ⟨RX10, "cornersAt", "(II)I"⟩
def RX11 : String := "SquareCuts"
def TX11 : u_T := fun k => match k with
  | 0 => ("SquareCuts", "reader", "LSquareCuts$Reader;", true)
  | 1 => ("SquareCuts", "groupLayer", "LSquareCuts$GroupLayer;", true)
  | 2 => ("SquareCuts", "solver", "LSquareCuts$NetSolver;", true)
  | 3 => ("SquareCuts", "netLayer", "LSquareCuts$NetLayer;", true)
  | 4 => ("SquareCuts", "draft", "LSquareCuts$Draft;", true)
  | 5 => ("SquareCuts", "otherDraft", "LSquareCuts$Draft;", true)
  | 6 => ("SquareCuts", "lineTable", "LSquareCuts$LineTable;", true)
  | 7 => ("SquareCuts", "page", "LSquareCuts$Page;", true)
  | 8 => ("SquareCuts", "shelf", "LSquareCuts$Shelf;", true)
  | 9 => ("SquareCuts", "firstKeep", "LSquareCuts$Shelf;", true)
  | 10 => ("SquareCuts", "secondKeep", "LSquareCuts$Shelf;", true)
  | _ => ("SquareCuts", "undoable", "I", false)
def tyX11 : Nat → FieldType := fun k => match k with
  | 0 => .object "SquareCuts$Reader"
  | 1 => .object "SquareCuts$GroupLayer"
  | 2 => .object "SquareCuts$NetSolver"
  | 3 => .object "SquareCuts$NetLayer"
  | 4 => .object "SquareCuts$Draft"
  | 5 => .object "SquareCuts$Draft"
  | 6 => .object "SquareCuts$LineTable"
  | 7 => .object "SquareCuts$Page"
  | 8 => .object "SquareCuts$Shelf"
  | 9 => .object "SquareCuts$Shelf"
  | 10 => .object "SquareCuts$Shelf"
  | _ => .int
theorem nmX11 : ∀ a, a < 12 → ∀ b, b < 12 → a ≠ b → (TX11 a).2.1 ≠ (TX11 b).2.1 := by decide +kernel
theorem tyX11_ok : ∀ k, k < 12 → parseFieldDescriptor (TX11 k).2.2.1 = some (tyX11 k) := by decide +kernel
abbrev cX11_init : ByteArray := prog_1_method_1_code
def yX11_init : MethodName := ⟨RX11, "<init>", "()V"⟩
abbrev cX11_feed : ByteArray := prog_1_method_2_code
def yX11_feed : MethodName := ⟨RX11, "feed", "(IIIII)I"⟩
abbrev cX11_text : ByteArray := prog_1_method_3_code
def yX11_text : MethodName := ⟨RX11, "text", "(I)I"⟩
abbrev cX11_rect : ByteArray := prog_1_method_4_code
def yX11_rect : MethodName := ⟨RX11, "rect", "(II)I"⟩
abbrev cX11_square : ByteArray := prog_1_method_5_code
def yX11_square : MethodName := ⟨RX11, "square", "(III)I"⟩
abbrev cX11_laid : ByteArray := prog_1_method_6_code
def yX11_laid : MethodName := ⟨RX11, "laid", "(I)I"⟩
abbrev cX11_area : ByteArray := prog_1_method_7_code
def yX11_area : MethodName := ⟨RX11, "area", "(I)J"⟩
abbrev cX11_least : ByteArray := prog_1_method_8_code
def yX11_least : MethodName := ⟨RX11, "least", "(I)I"⟩
abbrev cX11_print : ByteArray := prog_1_method_9_code
def yX11_print : MethodName := ⟨RX11, "print", "(I)I"⟩
abbrev cX11_at : ByteArray := prog_1_method_10_code
def yX11_at : MethodName := ⟨RX11, "at", "(I)I"⟩
abbrev cX11_groups : ByteArray := prog_1_method_11_code
def yX11_groups : MethodName := ⟨RX11, "groups", "(I)I"⟩
abbrev cX11_trees : ByteArray := prog_1_method_12_code
def yX11_trees : MethodName := ⟨RX11, "trees", "(I)J"⟩
abbrev cX11_current : ByteArray := prog_1_method_13_code
def yX11_current : MethodName := ⟨RX11, "current", "(II)I"⟩
abbrev cX11_level : ByteArray := prog_1_method_14_code
def yX11_level : MethodName := ⟨RX11, "level", "(II)I"⟩
abbrev cX11_layings : ByteArray := prog_1_method_15_code
def yX11_layings : MethodName := ⟨RX11, "layings", "(I)I"⟩
abbrev cX11_lines : ByteArray := prog_1_method_16_code
def yX11_lines : MethodName := ⟨RX11, "lines", "(I)I"⟩
abbrev cX11_line : ByteArray := prog_1_method_17_code
def yX11_line : MethodName := ⟨RX11, "line", "(III)I"⟩
abbrev cX11_side : ByteArray := prog_1_method_18_code
def yX11_side : MethodName := ⟨RX11, "side", "(IIZ)I"⟩
abbrev cX11_alike : ByteArray := prog_1_method_19_code
def yX11_alike : MethodName := ⟨RX11, "alike", "(II)I"⟩
abbrev cX11_join : ByteArray := prog_1_method_20_code
def yX11_join : MethodName := ⟨RX11, "join", "(IIZ)I"⟩
abbrev cX11_grow : ByteArray := prog_1_method_21_code
def yX11_grow : MethodName := ⟨RX11, "grow", "(IZ)I"⟩
abbrev cX11_turn : ByteArray := prog_1_method_22_code
def yX11_turn : MethodName := ⟨RX11, "turn", "(II)I"⟩
abbrev cX11_times : ByteArray := prog_1_method_23_code
def yX11_times : MethodName := ⟨RX11, "times", "(II)I"⟩
abbrev cX11_lessen : ByteArray := prog_1_method_24_code
def yX11_lessen : MethodName := ⟨RX11, "lessen", "(I)I"⟩
abbrev cX11_undo : ByteArray := prog_1_method_25_code
def yX11_undo : MethodName := ⟨RX11, "undo", "()I"⟩
abbrev cX11_keep : ByteArray := prog_1_method_26_code
def yX11_keep : MethodName := ⟨RX11, "keep", "(IZ)Z"⟩
abbrev cX11_count : ByteArray := prog_1_method_27_code
def yX11_count : MethodName := ⟨RX11, "count", "(I)I"⟩
abbrev cX11_drawnTiling : ByteArray := prog_1_method_28_code
def yX11_drawnTiling : MethodName := ⟨RX11, "drawnTiling", "(I)LSquareCuts$Tiling;"⟩
abbrev cX11_netTiling : ByteArray := prog_1_method_29_code
def yX11_netTiling : MethodName := ⟨RX11, "netTiling", "(I)LSquareCuts$Tiling;"⟩
abbrev cX11_refusalFor : ByteArray := prog_1_method_30_code
def yX11_refusalFor : MethodName := ⟨RX11, "refusalFor", "(LSquareCuts$Tiling;)I"⟩
abbrev cX11_flowingNet : ByteArray := prog_1_method_31_code
def yX11_flowingNet : MethodName := ⟨RX11, "flowingNet", "(I)LSquareCuts$Net;"⟩
abbrev cX11_usable : ByteArray := prog_1_method_32_code
def yX11_usable : MethodName := ⟨RX11, "usable", "(I)LSquareCuts$Tiling;"⟩
abbrev cX11_putMade : ByteArray := prog_1_method_33_code
def yX11_putMade : MethodName := ⟨RX11, "putMade", "()I"⟩
abbrev cX11_isTooLarge : ByteArray := prog_1_method_34_code
def yX11_isTooLarge : MethodName := ⟨RX11, "isTooLarge", "(JJ)Z"⟩
abbrev cX11_greatestDivisor : ByteArray := prog_1_method_35_code
def yX11_greatestDivisor : MethodName := ⟨RX11, "greatestDivisor", "(II)I"⟩
def RX12 : String := "SquareCutsModel"
def TX12 : u_T := fun k => match k with
  | 0 => ("SquareCutsModel", "thrown", "I", false)
  | 1 => ("SquareCutsModel", "tape", "[B", true)
  | 2 => ("SquareCutsModel", "taped", "I", false)
  | 3 => ("SquareCutsModel", "size", "I", false)
  | 4 => ("SquareCutsModel", "from", "I", false)
  | 5 => ("SquareCutsModel", "to", "I", false)
  | 6 => ("SquareCutsModel", "token", "I", false)
  | 7 => ("SquareCutsModel", "value", "I", false)
  | 8 => ("SquareCutsModel", "word", "J", false)
  | 9 => ("SquareCutsModel", "fault", "I", false)
  | 10 => ("SquareCutsModel", "faultPlace", "I", false)
  | 11 => ("SquareCutsModel", "readMany", "I", false)
  | 12 => ("SquareCutsModel", "readName", "[J", true)
  | 13 => ("SquareCutsModel", "readKind", "[I", true)
  | 14 => ("SquareCutsModel", "readCount", "[I", true)
  | 15 => ("SquareCutsModel", "readPoints", "[I", true)
  | 16 => ("SquareCutsModel", "readNumbers", "[I", true)
  | 17 => ("SquareCutsModel", "s", "[I", true)
  | 18 => ("SquareCutsModel", "many", "I", false)
  | 19 => ("SquareCutsModel", "undos", "I", false)
  | 20 => ("SquareCutsModel", "kept", "[I", true)
  | 21 => ("SquareCutsModel", "keptMany", "[I", true)
  | 22 => ("SquareCutsModel", "isKept", "[Z", true)
  | 23 => ("SquareCutsModel", "kind", "[I", true)
  | 24 => ("SquareCutsModel", "points", "[I", true)
  | 25 => ("SquareCutsModel", "wires", "[I", true)
  | 26 => ("SquareCutsModel", "ends", "[I", true)
  | 27 => ("SquareCutsModel", "laidMany", "[I", true)
  | 28 => ("SquareCutsModel", "layings", "[I", true)
  | 29 => ("SquareCutsModel", "trees", "[J", true)
  | 30 => ("SquareCutsModel", "levels", "[J", true)
  | 31 => ("SquareCutsModel", "currents", "[J", true)
  | 32 => ("SquareCutsModel", "pieces", "[I", true)
  | 33 => ("SquareCutsModel", "begins", "[I", true)
  | 34 => ("SquareCutsModel", "depths", "[I", true)
  | 35 => ("SquareCutsModel", "wide", "I", false)
  | 36 => ("SquareCutsModel", "matrix", "[J", true)
  | 37 => ("SquareCutsModel", "isLaid", "[Z", true)
  | 38 => ("SquareCutsModel", "wanted", "I", false)
  | 39 => ("SquareCutsModel", "isOver", "Z", false)
  | 40 => ("SquareCutsModel", "told", "I", false)
  | 41 => ("SquareCutsModel", "printed", "[B", true)
  | 42 => ("SquareCutsModel", "printedMany", "I", false)
  | 43 => ("SquareCutsModel", "lineDepth", "[I", true)
  | 44 => ("SquareCutsModel", "lineLeft", "[I", true)
  | 45 => ("SquareCutsModel", "lineRight", "[I", true)
  | 46 => ("SquareCutsModel", "lineFlow", "[I", true)
  | 47 => ("SquareCutsModel", "lines", "I", false)
  | _ => ("SquareCutsModel", "row", "[I", true)
def tyX12 : Nat → FieldType := fun k => match k with
  | 0 => .int
  | 1 => .array .byte
  | 2 => .int
  | 3 => .int
  | 4 => .int
  | 5 => .int
  | 6 => .int
  | 7 => .int
  | 8 => .long
  | 9 => .int
  | 10 => .int
  | 11 => .int
  | 12 => .array .long
  | 13 => .array .int
  | 14 => .array .int
  | 15 => .array .int
  | 16 => .array .int
  | 17 => .array .int
  | 18 => .int
  | 19 => .int
  | 20 => .array .int
  | 21 => .array .int
  | 22 => .array .boolean
  | 23 => .array .int
  | 24 => .array .int
  | 25 => .array .int
  | 26 => .array .int
  | 27 => .array .int
  | 28 => .array .int
  | 29 => .array .long
  | 30 => .array .long
  | 31 => .array .long
  | 32 => .array .int
  | 33 => .array .int
  | 34 => .array .int
  | 35 => .int
  | 36 => .array .long
  | 37 => .array .boolean
  | 38 => .int
  | 39 => .boolean
  | 40 => .int
  | 41 => .array .byte
  | 42 => .int
  | 43 => .array .int
  | 44 => .array .int
  | 45 => .array .int
  | 46 => .array .int
  | 47 => .int
  | _ => .array .int
theorem nmX12 : ∀ a, a < 49 → ∀ b, b < 49 → a ≠ b → (TX12 a).2.1 ≠ (TX12 b).2.1 := by decide +kernel
theorem tyX12_ok : ∀ k, k < 49 → parseFieldDescriptor (TX12 k).2.2.1 = some (tyX12 k) := by decide +kernel
abbrev cX12_init : ByteArray := prog_14_method_1_code
def yX12_init : MethodName := ⟨RX12, "<init>", "()V"⟩
abbrev cX12_thrown : ByteArray := prog_14_method_2_code
def yX12_thrown : MethodName := ⟨RX12, "thrown", "()I"⟩
abbrev cX12_within : ByteArray := prog_14_method_3_code
def yX12_within : MethodName := ⟨RX12, "within", "(JJJ)Z"⟩
abbrev cX12_puts : ByteArray := prog_14_method_4_code
def yX12_puts : MethodName := ⟨RX12, "puts", "(I)V"⟩
abbrev cX12_feed : ByteArray := prog_14_method_5_code
def yX12_feed : MethodName := ⟨RX12, "feed", "(IIIII)I"⟩
abbrev cX12_see : ByteArray := prog_14_method_6_code
def yX12_see : MethodName := ⟨RX12, "see", "(I)I"⟩
abbrev cX12_steps : ByteArray := prog_14_method_7_code
def yX12_steps : MethodName := ⟨RX12, "steps", "()V"⟩
abbrev cX12_must : ByteArray := prog_14_method_8_code
def yX12_must : MethodName := ⟨RX12, "must", "(ZI)Z"⟩
abbrev cX12_spelled : ByteArray := prog_14_method_9_code
def yX12_spelled : MethodName := ⟨RX12, "spelled", "(Ljava/lang/String;)J"⟩
abbrev cX12_is : ByteArray := prog_14_method_10_code
def yX12_is : MethodName := ⟨RX12, "is", "(Ljava/lang/String;)Z"⟩
abbrev cX12_isName : ByteArray := prog_14_method_11_code
def yX12_isName : MethodName := ⟨RX12, "isName", "()Z"⟩
abbrev cX12_newName : ByteArray := prog_14_method_12_code
def yX12_newName : MethodName := ⟨RX12, "newName", "()Z"⟩
abbrev cX12_groupHere : ByteArray := prog_14_method_13_code
def yX12_groupHere : MethodName := ⟨RX12, "groupHere", "()Z"⟩
abbrev cX12_drawnLine : ByteArray := prog_14_method_14_code
def yX12_drawnLine : MethodName := ⟨RX12, "drawnLine", "()Z"⟩
abbrev cX12_netLine : ByteArray := prog_14_method_15_code
def yX12_netLine : MethodName := ⟨RX12, "netLine", "()Z"⟩
abbrev cX12_lineHere : ByteArray := prog_14_method_16_code
def yX12_lineHere : MethodName := ⟨RX12, "lineHere", "()Z"⟩
abbrev cX12_of : ByteArray := prog_14_method_17_code
def yX12_of : MethodName := ⟨RX12, "of", "(II)I"⟩
abbrev cX12_put : ByteArray := prog_14_method_18_code
def yX12_put : MethodName := ⟨RX12, "put", "(III)V"⟩
abbrev cX12_laysOutline : ByteArray := prog_14_method_19_code
def yX12_laysOutline : MethodName := ⟨RX12, "laysOutline", "(I)V"⟩
abbrev cX12_notchAt : ByteArray := prog_14_method_20_code
def yX12_notchAt : MethodName := ⟨RX12, "notchAt", "(I)I"⟩
abbrev cX12_endOf : ByteArray := prog_14_method_21_code
def yX12_endOf : MethodName := ⟨RX12, "endOf", "(II)I"⟩
abbrev cX12_widthOf : ByteArray := prog_14_method_22_code
def yX12_widthOf : MethodName := ⟨RX12, "widthOf", "(II)I"⟩
abbrev cX12_appends : ByteArray := prog_14_method_23_code
def yX12_appends : MethodName := ⟨RX12, "appends", "(III)V"⟩
abbrev cX12_laysOn : ByteArray := prog_14_method_24_code
def yX12_laysOn : MethodName := ⟨RX12, "laysOn", "(II)V"⟩
abbrev cX12_squares : ByteArray := prog_14_method_25_code
def yX12_squares : MethodName := ⟨RX12, "squares", "(IIII)V"⟩
abbrev cX12_fails : ByteArray := prog_14_method_26_code
def yX12_fails : MethodName := ⟨RX12, "fails", "(I)V"⟩
abbrev cX12_groupSum : ByteArray := prog_14_method_27_code
def yX12_groupSum : MethodName := ⟨RX12, "groupSum", "(II)I"⟩
abbrev cX12_draws : ByteArray := prog_14_method_28_code
def yX12_draws : MethodName := ⟨RX12, "draws", "(I)V"⟩
abbrev cX12_laysMatrix : ByteArray := prog_14_method_29_code
def yX12_laysMatrix : MethodName := ⟨RX12, "laysMatrix", "(III)I"⟩
abbrev cX12_adds : ByteArray := prog_14_method_30_code
def yX12_adds : MethodName := ⟨RX12, "adds", "(IIIIIJ)V"⟩
abbrev cX12_determinant : ByteArray := prog_14_method_31_code
def yX12_determinant : MethodName := ⟨RX12, "determinant", "(I)J"⟩
abbrev cX12_common : ByteArray := prog_14_method_32_code
def yX12_common : MethodName := ⟨RX12, "common", "(JJ)J"⟩
abbrev cX12_flows : ByteArray := prog_14_method_33_code
def yX12_flows : MethodName := ⟨RX12, "flows", "(I)V"⟩
abbrev cX12_topOf : ByteArray := prog_14_method_34_code
def yX12_topOf : MethodName := ⟨RX12, "topOf", "(II)J"⟩
abbrev cX12_sizeOf : ByteArray := prog_14_method_35_code
def yX12_sizeOf : MethodName := ⟨RX12, "sizeOf", "(II)I"⟩
abbrev cX12_goes : ByteArray := prog_14_method_36_code
def yX12_goes : MethodName := ⟨RX12, "goes", "(II)Z"⟩
abbrev cX12_nets : ByteArray := prog_14_method_37_code
def yX12_nets : MethodName := ⟨RX12, "nets", "(I)V"⟩
abbrev cX12_takesOver : ByteArray := prog_14_method_38_code
def yX12_takesOver : MethodName := ⟨RX12, "takesOver", "()V"⟩
abbrev cX12_text : ByteArray := prog_14_method_39_code
def yX12_text : MethodName := ⟨RX12, "text", "(I)I"⟩
abbrev cX12_isRect : ByteArray := prog_14_method_40_code
def yX12_isRect : MethodName := ⟨RX12, "isRect", "(I)Z"⟩
abbrev cX12_doesFail : ByteArray := prog_14_method_41_code
def yX12_doesFail : MethodName := ⟨RX12, "doesFail", "(I)Z"⟩
abbrev cX12_kindOf : ByteArray := prog_14_method_42_code
def yX12_kindOf : MethodName := ⟨RX12, "kindOf", "(I)I"⟩
abbrev cX12_arePerfect : ByteArray := prog_14_method_43_code
def yX12_arePerfect : MethodName := ⟨RX12, "arePerfect", "(I)Z"⟩
abbrev cX12_isPart : ByteArray := prog_14_method_44_code
def yX12_isPart : MethodName := ⟨RX12, "isPart", "(IIIII)Z"⟩
abbrev cX12_partsOf : ByteArray := prog_14_method_45_code
def yX12_partsOf : MethodName := ⟨RX12, "partsOf", "(I)I"⟩
abbrev cX12_corners : ByteArray := prog_14_method_46_code
def yX12_corners : MethodName := ⟨RX12, "corners", "(III)I"⟩
abbrev cX12_crossesOf : ByteArray := prog_14_method_47_code
def yX12_crossesOf : MethodName := ⟨RX12, "crossesOf", "(I)I"⟩
abbrev cX12_rect : ByteArray := prog_14_method_48_code
def yX12_rect : MethodName := ⟨RX12, "rect", "(II)I"⟩
abbrev cX12_isSquare : ByteArray := prog_14_method_49_code
def yX12_isSquare : MethodName := ⟨RX12, "isSquare", "(II)Z"⟩
abbrev cX12_square : ByteArray := prog_14_method_50_code
def yX12_square : MethodName := ⟨RX12, "square", "(III)I"⟩
abbrev cX12_laid : ByteArray := prog_14_method_51_code
def yX12_laid : MethodName := ⟨RX12, "laid", "(I)I"⟩
abbrev cX12_area : ByteArray := prog_14_method_52_code
def yX12_area : MethodName := ⟨RX12, "area", "(I)J"⟩
abbrev cX12_least : ByteArray := prog_14_method_53_code
def yX12_least : MethodName := ⟨RX12, "least", "(I)I"⟩
abbrev cX12_isBeside : ByteArray := prog_14_method_54_code
def yX12_isBeside : MethodName := ⟨RX12, "isBeside", "(II)Z"⟩
abbrev cX12_prints : ByteArray := prog_14_method_55_code
def yX12_prints : MethodName := ⟨RX12, "prints", "(I)V"⟩
abbrev cX12_printsNumber : ByteArray := prog_14_method_56_code
def yX12_printsNumber : MethodName := ⟨RX12, "printsNumber", "(I)V"⟩
abbrev cX12_print : ByteArray := prog_14_method_57_code
def yX12_print : MethodName := ⟨RX12, "print", "(I)I"⟩
abbrev cX12_at : ByteArray := prog_14_method_58_code
def yX12_at : MethodName := ⟨RX12, "at", "(I)I"⟩
abbrev cX12_groups : ByteArray := prog_14_method_59_code
def yX12_groups : MethodName := ⟨RX12, "groups", "(I)I"⟩
abbrev cX12_isNet : ByteArray := prog_14_method_60_code
def yX12_isNet : MethodName := ⟨RX12, "isNet", "(I)Z"⟩
abbrev cX12_trees : ByteArray := prog_14_method_61_code
def yX12_trees : MethodName := ⟨RX12, "trees", "(I)J"⟩
abbrev cX12_current : ByteArray := prog_14_method_62_code
def yX12_current : MethodName := ⟨RX12, "current", "(II)I"⟩
abbrev cX12_level : ByteArray := prog_14_method_63_code
def yX12_level : MethodName := ⟨RX12, "level", "(II)I"⟩
abbrev cX12_layings : ByteArray := prog_14_method_64_code
def yX12_layings : MethodName := ⟨RX12, "layings", "(I)I"⟩
abbrev cX12_drops : ByteArray := prog_14_method_65_code
def yX12_drops : MethodName := ⟨RX12, "drops", "(I)V"⟩
abbrev cX12_comes : ByteArray := prog_14_method_66_code
def yX12_comes : MethodName := ⟨RX12, "comes", "(IIII)V"⟩
abbrev cX12_laysLines : ByteArray := prog_14_method_67_code
def yX12_laysLines : MethodName := ⟨RX12, "laysLines", "(I)V"⟩
abbrev cX12_lines : ByteArray := prog_14_method_68_code
def yX12_lines : MethodName := ⟨RX12, "lines", "(I)I"⟩
abbrev cX12_line : ByteArray := prog_14_method_69_code
def yX12_line : MethodName := ⟨RX12, "line", "(III)I"⟩
abbrev cX12_side : ByteArray := prog_14_method_70_code
def yX12_side : MethodName := ⟨RX12, "side", "(IIZ)I"⟩
abbrev cX12_takes : ByteArray := prog_14_method_71_code
def yX12_takes : MethodName := ⟨RX12, "takes", "(I)V"⟩
abbrev cX12_quarter : ByteArray := prog_14_method_72_code
def yX12_quarter : MethodName := ⟨RX12, "quarter", "()V"⟩
abbrev cX12_turns : ByteArray := prog_14_method_73_code
def yX12_turns : MethodName := ⟨RX12, "turns", "(I)V"⟩
abbrev cX12_isThere : ByteArray := prog_14_method_74_code
def yX12_isThere : MethodName := ⟨RX12, "isThere", "(II)Z"⟩
abbrev cX12_areAlike : ByteArray := prog_14_method_75_code
def yX12_areAlike : MethodName := ⟨RX12, "areAlike", "(I)Z"⟩
abbrev cX12_alike : ByteArray := prog_14_method_76_code
def yX12_alike : MethodName := ⟨RX12, "alike", "(II)I"⟩
abbrev cX12_isAhead : ByteArray := prog_14_method_77_code
def yX12_isAhead : MethodName := ⟨RX12, "isAhead", "(II)Z"⟩
abbrev cX12_trades : ByteArray := prog_14_method_78_code
def yX12_trades : MethodName := ⟨RX12, "trades", "(II)V"⟩
abbrev cX12_canMake : ByteArray := prog_14_method_79_code
def yX12_canMake : MethodName := ⟨RX12, "canMake", "(I)Z"⟩
abbrev cX12_makes : ByteArray := prog_14_method_80_code
def yX12_makes : MethodName := ⟨RX12, "makes", "()I"⟩
abbrev cX12_mayGrow : ByteArray := prog_14_method_81_code
def yX12_mayGrow : MethodName := ⟨RX12, "mayGrow", "(J)Z"⟩
abbrev cX12_grows : ByteArray := prog_14_method_82_code
def yX12_grows : MethodName := ⟨RX12, "grows", "(I)V"⟩
abbrev cX12_join : ByteArray := prog_14_method_83_code
def yX12_join : MethodName := ⟨RX12, "join", "(IIZ)I"⟩
abbrev cX12_grow : ByteArray := prog_14_method_84_code
def yX12_grow : MethodName := ⟨RX12, "grow", "(IZ)I"⟩
abbrev cX12_turn : ByteArray := prog_14_method_85_code
def yX12_turn : MethodName := ⟨RX12, "turn", "(II)I"⟩
abbrev cX12_times : ByteArray := prog_14_method_86_code
def yX12_times : MethodName := ⟨RX12, "times", "(II)I"⟩
abbrev cX12_lessen : ByteArray := prog_14_method_87_code
def yX12_lessen : MethodName := ⟨RX12, "lessen", "(I)I"⟩
abbrev cX12_undo : ByteArray := prog_14_method_88_code
def yX12_undo : MethodName := ⟨RX12, "undo", "()I"⟩
abbrev cX12_keep : ByteArray := prog_14_method_89_code
def yX12_keep : MethodName := ⟨RX12, "keep", "(IZ)Z"⟩
abbrev cX12_count : ByteArray := prog_14_method_90_code
def yX12_count : MethodName := ⟨RX12, "count", "(I)I"⟩
def RJx145de : String := "java/io/Serializable"
def TJx145de : u_T := fun k => match k with
  | _ => ("", "", "", false)
def tyJx145de : Nat → FieldType := fun k => match k with
  | _ => .int
theorem nmJx145de : ∀ a, a < 0 → ∀ b, b < 0 → a ≠ b → (TJx145de a).2.1 ≠ (TJx145de b).2.1 := by decide +kernel
theorem tyJx145de_ok : ∀ k, k < 0 → parseFieldDescriptor (TJx145de k).2.2.1 = some (tyJx145de k) := by decide +kernel
def RJx9f9b0 : String := "java/lang/CharSequence"
def TJx9f9b0 : u_T := fun k => match k with
  | _ => ("", "", "", false)
def tyJx9f9b0 : Nat → FieldType := fun k => match k with
  | _ => .int
theorem nmJx9f9b0 : ∀ a, a < 0 → ∀ b, b < 0 → a ≠ b → (TJx9f9b0 a).2.1 ≠ (TJx9f9b0 b).2.1 := by decide +kernel
theorem tyJx9f9b0_ok : ∀ k, k < 0 → parseFieldDescriptor (TJx9f9b0 k).2.2.1 = some (tyJx9f9b0 k) := by decide +kernel
def RJxb160c : String := "java/lang/Comparable"
def TJxb160c : u_T := fun k => match k with
  | _ => ("", "", "", false)
def tyJxb160c : Nat → FieldType := fun k => match k with
  | _ => .int
theorem nmJxb160c : ∀ a, a < 0 → ∀ b, b < 0 → a ≠ b → (TJxb160c a).2.1 ≠ (TJxb160c b).2.1 := by decide +kernel
theorem tyJxb160c_ok : ∀ k, k < 0 → parseFieldDescriptor (TJxb160c k).2.2.1 = some (tyJxb160c k) := by decide +kernel
def RJ9 : String := "java/lang/Math"
def TJ9 : u_T := fun k => match k with
  | _ => ("", "", "", false)
def tyJ9 : Nat → FieldType := fun k => match k with
  | _ => .int
theorem nmJ9 : ∀ a, a < 0 → ∀ b, b < 0 → a ≠ b → (TJ9 a).2.1 ≠ (TJ9 b).2.1 := by decide +kernel
theorem tyJ9_ok : ∀ k, k < 0 → parseFieldDescriptor (TJ9 k).2.2.1 = some (tyJ9 k) := by decide +kernel
abbrev cJ9_abs_0f7a4 : ByteArray := prog_19_method_59_code
def yJ9_abs_0f7a4 : MethodName := ⟨RJ9, "abs", "(I)I"⟩
abbrev cJ9_max_7cf53 : ByteArray := prog_19_method_65_code
def yJ9_max_7cf53 : MethodName := ⟨RJ9, "max", "(II)I"⟩
abbrev cJ9_min_7cf53 : ByteArray := prog_19_method_69_code
def yJ9_min_7cf53 : MethodName := ⟨RJ9, "min", "(II)I"⟩
def RJ0 : String := "java/lang/String"
def TJ0 : u_T := fun k => match k with
  | _ => ("", "", "", false)
def tyJ0 : Nat → FieldType := fun k => match k with
  | _ => .int
theorem nmJ0 : ∀ a, a < 0 → ∀ b, b < 0 → a ≠ b → (TJ0 a).2.1 ≠ (TJ0 b).2.1 := by decide +kernel
theorem tyJ0_ok : ∀ k, k < 0 → parseFieldDescriptor (TJ0 k).2.2.1 = some (tyJ0 k) := by decide +kernel
abbrev cJ0_length_8abf5 : ByteArray := prog_21_method_54_code
def yJ0_length_8abf5 : MethodName := ⟨RJ0, "length", "()I"⟩
abbrev cJ0_charAt_5068e : ByteArray := prog_21_method_56_code
def yJ0_charAt_5068e : MethodName := ⟨RJ0, "charAt", "(I)C"⟩
abbrev cJ0_coder_7d493 : ByteArray := prog_21_method_152_code
def yJ0_coder_7d493 : MethodName := ⟨RJ0, "coder", "()B"⟩
abbrev cJ0_isLatin1_aae02 : ByteArray := prog_21_method_154_code
def yJ0_isLatin1_aae02 : MethodName := ⟨RJ0, "isLatin1", "()Z"⟩
abbrev cJ0_checkIndex_df160 : ByteArray := prog_21_method_155_code
def yJ0_checkIndex_df160 : MethodName := ⟨RJ0, "checkIndex", "(II)V"⟩
def RJ1 : String := "java/lang/StringLatin1"
def TJ1 : u_T := fun k => match k with
  | _ => ("", "", "", false)
def tyJ1 : Nat → FieldType := fun k => match k with
  | _ => .int
theorem nmJ1 : ∀ a, a < 0 → ∀ b, b < 0 → a ≠ b → (TJ1 a).2.1 ≠ (TJ1 b).2.1 := by decide +kernel
theorem tyJ1_ok : ∀ k, k < 0 → parseFieldDescriptor (TJ1 k).2.2.1 = some (tyJ1 k) := by decide +kernel
abbrev cJ1_charAt_3b067 : ByteArray := prog_22_method_2_code
def yJ1_charAt_3b067 : MethodName := ⟨RJ1, "charAt", "([BI)C"⟩
def RJ2 : String := "java/lang/StringUTF16"
def TJ2 : u_T := fun k => match k with
  | _ => ("", "", "", false)
def tyJ2 : Nat → FieldType := fun k => match k with
  | _ => .int
theorem nmJ2 : ∀ a, a < 0 → ∀ b, b < 0 → a ≠ b → (TJ2 a).2.1 ≠ (TJ2 b).2.1 := by decide +kernel
theorem tyJ2_ok : ∀ k, k < 0 → parseFieldDescriptor (TJ2 k).2.2.1 = some (tyJ2 k) := by decide +kernel
abbrev cJ2_getChar_3b067 : ByteArray := prog_23_method_5_code
def yJ2_getChar_3b067 : MethodName := ⟨RJ2, "getChar", "([BI)C"⟩
abbrev cJ2_length_9d52b : ByteArray := prog_23_method_6_code
def yJ2_length_9d52b : MethodName := ⟨RJ2, "length", "([B)I"⟩
abbrev cJ2_charAt_3b067 : ByteArray := prog_23_method_83_code
def yJ2_charAt_3b067 : MethodName := ⟨RJ2, "charAt", "([BI)C"⟩
abbrev cJ2_checkIndex_2214a : ByteArray := prog_23_method_91_code
def yJ2_checkIndex_2214a : MethodName := ⟨RJ2, "checkIndex", "(I[B)V"⟩
def RJ10 : String := "java/lang/System"
def TJ10 : u_T := fun k => match k with
  | _ => ("", "", "", false)
def tyJ10 : Nat → FieldType := fun k => match k with
  | _ => .int
theorem nmJ10 : ∀ a, a < 0 → ∀ b, b < 0 → a ≠ b → (TJ10 a).2.1 ≠ (TJ10 b).2.1 := by decide +kernel
theorem tyJ10_ok : ∀ k, k < 0 → parseFieldDescriptor (TJ10 k).2.2.1 = some (tyJ10 k) := by decide +kernel
def RJxfd54e : String := "java/lang/constant/Constable"
def TJxfd54e : u_T := fun k => match k with
  | _ => ("", "", "", false)
def tyJxfd54e : Nat → FieldType := fun k => match k with
  | _ => .int
theorem nmJxfd54e : ∀ a, a < 0 → ∀ b, b < 0 → a ≠ b → (TJxfd54e a).2.1 ≠ (TJxfd54e b).2.1 := by decide +kernel
theorem tyJxfd54e_ok : ∀ k, k < 0 → parseFieldDescriptor (TJxfd54e k).2.2.1 = some (tyJxfd54e k) := by decide +kernel
def RJx3cf43 : String := "java/lang/constant/ConstantDesc"
def TJx3cf43 : u_T := fun k => match k with
  | _ => ("", "", "", false)
def tyJx3cf43 : Nat → FieldType := fun k => match k with
  | _ => .int
theorem nmJx3cf43 : ∀ a, a < 0 → ∀ b, b < 0 → a ≠ b → (TJx3cf43 a).2.1 ≠ (TJx3cf43 b).2.1 := by decide +kernel
theorem tyJx3cf43_ok : ∀ k, k < 0 → parseFieldDescriptor (TJx3cf43 k).2.2.1 = some (tyJx3cf43 k) := by decide +kernel
def RJ7 : String := "java/util/Arrays"
def TJ7 : u_T := fun k => match k with
  | _ => ("", "", "", false)
def tyJ7 : Nat → FieldType := fun k => match k with
  | _ => .int
theorem nmJ7 : ∀ a, a < 0 → ∀ b, b < 0 → a ≠ b → (TJ7 a).2.1 ≠ (TJ7 b).2.1 := by decide +kernel
theorem tyJ7_ok : ∀ k, k < 0 → parseFieldDescriptor (TJ7 k).2.2.1 = some (tyJ7 k) := by decide +kernel
abbrev cJ7_fill_d0a16 : ByteArray := prog_28_method_101_code
def yJ7_fill_d0a16 : MethodName := ⟨RJ7, "fill", "([JJ)V"⟩
def RJ3 : String := "jdk/internal/util/Preconditions"
def TJ3 : u_T := fun k => match k with
  | _ => ("", "", "", false)
def tyJ3 : Nat → FieldType := fun k => match k with
  | _ => .int
theorem nmJ3 : ∀ a, a < 0 → ∀ b, b < 0 → a ≠ b → (TJ3 a).2.1 ≠ (TJ3 b).2.1 := by decide +kernel
theorem tyJ3_ok : ∀ k, k < 0 → parseFieldDescriptor (TJ3 k).2.2.1 = some (tyJ3 k) := by decide +kernel
abbrev cJ3_checkIndex_8e157 : ByteArray := prog_30_method_11_code
def yJ3_checkIndex_8e157 : MethodName := ⟨RJ3, "checkIndex", "(IILjava/util/function/BiFunction;)I"⟩
def RL : String := "SquareCutsLaw"
abbrev cL_square : ByteArray := method_3_code
def yL_square : MethodName := ⟨RL, "square", "(LSquareCuts;III[J)I"⟩
abbrev cL_line : ByteArray := method_4_code
def yL_line : MethodName := ⟨RL, "line", "(LSquareCuts;III[J)I"⟩
abbrev cL_law : ByteArray := code
def yL_law : MethodName := ⟨RL, "law", "([I)Z"⟩
theorem dX0_init_0 : decode cX0_init 0 = .ok (.aload_n 0, 1) := by decide +kernel
theorem dX0_init_1 : decode cX0_init 1 = .ok (.invokespecial 3, 3) := by decide +kernel
theorem dX0_init_4 : decode cX0_init 4 = .ok (.aload_n 0, 1) := by decide +kernel
theorem dX0_init_5 : decode cX0_init 5 = .ok (.bipush 40, 2) := by decide +kernel
theorem dX0_init_7 : decode cX0_init 7 = .ok (.newarray .int, 2) := by decide +kernel
theorem dX0_init_9 : decode cX0_init 9 = .ok (.putfield 9, 3) := by decide +kernel
theorem dX0_init_12 : decode cX0_init 12 = .ok (.aload_n 0, 1) := by decide +kernel
theorem dX0_init_13 : decode cX0_init 13 = .ok (.bipush 40, 2) := by decide +kernel
theorem dX0_init_15 : decode cX0_init 15 = .ok (.newarray .int, 2) := by decide +kernel
theorem dX0_init_17 : decode cX0_init 17 = .ok (.putfield 15, 3) := by decide +kernel
theorem dX0_init_20 : decode cX0_init 20 = .ok (.aload_n 0, 1) := by decide +kernel
theorem dX0_init_21 : decode cX0_init 21 = .ok (.bipush 40, 2) := by decide +kernel
theorem dX0_init_23 : decode cX0_init 23 = .ok (.newarray .int, 2) := by decide +kernel
theorem dX0_init_25 : decode cX0_init 25 = .ok (.putfield 18, 3) := by decide +kernel
theorem dX0_init_28 : decode cX0_init 28 = .ok (.return_, 1) := by decide +kernel
theorem dX0_begin_0 : decode cX0_begin 0 = .ok (.aload_n 0, 1) := by decide +kernel
theorem dX0_begin_1 : decode cX0_begin 1 = .ok (.iload_n 1, 1) := by decide +kernel
theorem dX0_begin_2 : decode cX0_begin 2 = .ok (.putfield 21, 3) := by decide +kernel
theorem dX0_begin_5 : decode cX0_begin 5 = .ok (.aload_n 0, 1) := by decide +kernel
theorem dX0_begin_6 : decode cX0_begin 6 = .ok (.iload_n 2, 1) := by decide +kernel
theorem dX0_begin_7 : decode cX0_begin 7 = .ok (.putfield 25, 3) := by decide +kernel
theorem dX0_begin_10 : decode cX0_begin 10 = .ok (.aload_n 0, 1) := by decide +kernel
theorem dX0_begin_11 : decode cX0_begin 11 = .ok (.iconst 0, 1) := by decide +kernel
theorem dX0_begin_12 : decode cX0_begin 12 = .ok (.putfield 28, 3) := by decide +kernel
theorem dX0_begin_15 : decode cX0_begin 15 = .ok (.return_, 1) := by decide +kernel
theorem dX0_add_0 : decode cX0_add 0 = .ok (.aload_n 0, 1) := by decide +kernel
theorem dX0_add_1 : decode cX0_add 1 = .ok (.getfield 28, 3) := by decide +kernel
theorem dX0_add_4 : decode cX0_add 4 = .ok (.bipush 40, 2) := by decide +kernel
theorem dX0_add_6 : decode cX0_add 6 = .ok (.if_icmp .ge 43, 3) := by decide +kernel
theorem dX0_add_9 : decode cX0_add 9 = .ok (.aload_n 0, 1) := by decide +kernel
theorem dX0_add_10 : decode cX0_add 10 = .ok (.getfield 9, 3) := by decide +kernel
theorem dX0_add_13 : decode cX0_add 13 = .ok (.aload_n 0, 1) := by decide +kernel
theorem dX0_add_14 : decode cX0_add 14 = .ok (.getfield 28, 3) := by decide +kernel
theorem dX0_add_17 : decode cX0_add 17 = .ok (.iload_n 1, 1) := by decide +kernel
theorem dX0_add_18 : decode cX0_add 18 = .ok (.iastore, 1) := by decide +kernel
theorem dX0_add_19 : decode cX0_add 19 = .ok (.aload_n 0, 1) := by decide +kernel
theorem dX0_add_20 : decode cX0_add 20 = .ok (.getfield 15, 3) := by decide +kernel
theorem dX0_add_23 : decode cX0_add 23 = .ok (.aload_n 0, 1) := by decide +kernel
theorem dX0_add_24 : decode cX0_add 24 = .ok (.getfield 28, 3) := by decide +kernel
theorem dX0_add_27 : decode cX0_add 27 = .ok (.iload_n 2, 1) := by decide +kernel
theorem dX0_add_28 : decode cX0_add 28 = .ok (.iastore, 1) := by decide +kernel
theorem dX0_add_29 : decode cX0_add 29 = .ok (.aload_n 0, 1) := by decide +kernel
theorem dX0_add_30 : decode cX0_add 30 = .ok (.getfield 18, 3) := by decide +kernel
theorem dX0_add_33 : decode cX0_add 33 = .ok (.aload_n 0, 1) := by decide +kernel
theorem dX0_add_34 : decode cX0_add 34 = .ok (.getfield 28, 3) := by decide +kernel
theorem dX0_add_37 : decode cX0_add 37 = .ok (.iload_n 3, 1) := by decide +kernel
theorem dX0_add_38 : decode cX0_add 38 = .ok (.iastore, 1) := by decide +kernel
theorem dX0_add_39 : decode cX0_add 39 = .ok (.aload_n 0, 1) := by decide +kernel
theorem dX0_add_40 : decode cX0_add 40 = .ok (.dup, 1) := by decide +kernel
theorem dX0_add_41 : decode cX0_add 41 = .ok (.getfield 28, 3) := by decide +kernel
theorem dX0_add_44 : decode cX0_add 44 = .ok (.iconst 1, 1) := by decide +kernel
theorem dX0_add_45 : decode cX0_add 45 = .ok (.iadd, 1) := by decide +kernel
theorem dX0_add_46 : decode cX0_add 46 = .ok (.putfield 28, 3) := by decide +kernel
theorem dX0_add_49 : decode cX0_add 49 = .ok (.return_, 1) := by decide +kernel
theorem dX0_addTimes_0 : decode cX0_addTimes 0 = .ok (.iconst 0, 1) := by decide +kernel
theorem dX0_addTimes_1 : decode cX0_addTimes 1 = .ok (.istore 5, 2) := by decide +kernel
theorem dX0_addTimes_3 : decode cX0_addTimes 3 = .ok (.iload 5, 2) := by decide +kernel
theorem dX0_addTimes_5 : decode cX0_addTimes 5 = .ok (.aload_n 1, 1) := by decide +kernel
theorem dX0_addTimes_6 : decode cX0_addTimes 6 = .ok (.getfield 31, 3) := by decide +kernel
theorem dX0_addTimes_9 : decode cX0_addTimes 9 = .ok (.if_icmp .ge 45, 3) := by decide +kernel
theorem dX0_addTimes_12 : decode cX0_addTimes 12 = .ok (.aload_n 0, 1) := by decide +kernel
theorem dX0_addTimes_13 : decode cX0_addTimes 13 = .ok (.iload_n 3, 1) := by decide +kernel
theorem dX0_addTimes_14 : decode cX0_addTimes 14 = .ok (.aload_n 1, 1) := by decide +kernel
theorem dX0_addTimes_15 : decode cX0_addTimes 15 = .ok (.getfield 34, 3) := by decide +kernel
theorem dX0_addTimes_18 : decode cX0_addTimes 18 = .ok (.iload 5, 2) := by decide +kernel
theorem dX0_addTimes_20 : decode cX0_addTimes 20 = .ok (.iaload, 1) := by decide +kernel
theorem dX0_addTimes_21 : decode cX0_addTimes 21 = .ok (.iload_n 2, 1) := by decide +kernel
theorem dX0_addTimes_22 : decode cX0_addTimes 22 = .ok (.imul, 1) := by decide +kernel
theorem dX0_addTimes_23 : decode cX0_addTimes 23 = .ok (.iadd, 1) := by decide +kernel
theorem dX0_addTimes_24 : decode cX0_addTimes 24 = .ok (.iload 4, 2) := by decide +kernel
theorem dX0_addTimes_26 : decode cX0_addTimes 26 = .ok (.aload_n 1, 1) := by decide +kernel
theorem dX0_addTimes_27 : decode cX0_addTimes 27 = .ok (.getfield 35, 3) := by decide +kernel
theorem dX0_addTimes_30 : decode cX0_addTimes 30 = .ok (.iload 5, 2) := by decide +kernel
theorem dX0_addTimes_32 : decode cX0_addTimes 32 = .ok (.iaload, 1) := by decide +kernel
theorem dX0_addTimes_33 : decode cX0_addTimes 33 = .ok (.iload_n 2, 1) := by decide +kernel
theorem dX0_addTimes_34 : decode cX0_addTimes 34 = .ok (.imul, 1) := by decide +kernel
theorem dX0_addTimes_35 : decode cX0_addTimes 35 = .ok (.iadd, 1) := by decide +kernel
theorem dX0_addTimes_36 : decode cX0_addTimes 36 = .ok (.aload_n 1, 1) := by decide +kernel
theorem dX0_addTimes_37 : decode cX0_addTimes 37 = .ok (.getfield 36, 3) := by decide +kernel
theorem dX0_addTimes_40 : decode cX0_addTimes 40 = .ok (.iload 5, 2) := by decide +kernel
theorem dX0_addTimes_42 : decode cX0_addTimes 42 = .ok (.iaload, 1) := by decide +kernel
theorem dX0_addTimes_43 : decode cX0_addTimes 43 = .ok (.iload_n 2, 1) := by decide +kernel
theorem dX0_addTimes_44 : decode cX0_addTimes 44 = .ok (.imul, 1) := by decide +kernel
theorem dX0_addTimes_45 : decode cX0_addTimes 45 = .ok (.invokevirtual 37, 3) := by decide +kernel
theorem dX0_addTimes_48 : decode cX0_addTimes 48 = .ok (.iinc 5 1, 3) := by decide +kernel
theorem dX0_addTimes_51 : decode cX0_addTimes 51 = .ok (.goto (-48), 3) := by decide +kernel
theorem dX0_addTimes_54 : decode cX0_addTimes 54 = .ok (.return_, 1) := by decide +kernel
theorem dX0_takeTurned_0 : decode cX0_takeTurned 0 = .ok (.iload_n 3, 1) := by decide +kernel
theorem dX0_takeTurned_1 : decode cX0_takeTurned 1 = .ok (.ifCond .ne 4, 3) := by decide +kernel
theorem dX0_takeTurned_4 : decode cX0_takeTurned 4 = .ok (.return_, 1) := by decide +kernel
theorem dX0_takeTurned_5 : decode cX0_takeTurned 5 = .ok (.iload_n 2, 1) := by decide +kernel
theorem dX0_takeTurned_6 : decode cX0_takeTurned 6 = .ok (.iconst 1, 1) := by decide +kernel
theorem dX0_takeTurned_7 : decode cX0_takeTurned 7 = .ok (.iand, 1) := by decide +kernel
theorem dX0_takeTurned_8 : decode cX0_takeTurned 8 = .ok (.iconst 1, 1) := by decide +kernel
theorem dX0_takeTurned_9 : decode cX0_takeTurned 9 = .ok (.if_icmp .ne 7, 3) := by decide +kernel
theorem dX0_takeTurned_12 : decode cX0_takeTurned 12 = .ok (.iconst 1, 1) := by decide +kernel
theorem dX0_takeTurned_13 : decode cX0_takeTurned 13 = .ok (.goto 4, 3) := by decide +kernel
theorem dX0_takeTurned_16 : decode cX0_takeTurned 16 = .ok (.iconst 0, 1) := by decide +kernel
theorem dX0_takeTurned_17 : decode cX0_takeTurned 17 = .ok (.istore 4, 2) := by decide +kernel
theorem dX0_takeTurned_19 : decode cX0_takeTurned 19 = .ok (.iload 4, 2) := by decide +kernel
theorem dX0_takeTurned_21 : decode cX0_takeTurned 21 = .ok (.ifCond .eq 10, 3) := by decide +kernel
theorem dX0_takeTurned_24 : decode cX0_takeTurned 24 = .ok (.aload_n 1, 1) := by decide +kernel
theorem dX0_takeTurned_25 : decode cX0_takeTurned 25 = .ok (.getfield 41, 3) := by decide +kernel
theorem dX0_takeTurned_28 : decode cX0_takeTurned 28 = .ok (.goto 7, 3) := by decide +kernel
theorem dX0_takeTurned_31 : decode cX0_takeTurned 31 = .ok (.aload_n 1, 1) := by decide +kernel
theorem dX0_takeTurned_32 : decode cX0_takeTurned 32 = .ok (.getfield 42, 3) := by decide +kernel
theorem dX0_takeTurned_35 : decode cX0_takeTurned 35 = .ok (.istore 5, 2) := by decide +kernel
theorem dX0_takeTurned_37 : decode cX0_takeTurned 37 = .ok (.iload 4, 2) := by decide +kernel
theorem dX0_takeTurned_39 : decode cX0_takeTurned 39 = .ok (.ifCond .eq 10, 3) := by decide +kernel
theorem dX0_takeTurned_42 : decode cX0_takeTurned 42 = .ok (.aload_n 1, 1) := by decide +kernel
theorem dX0_takeTurned_43 : decode cX0_takeTurned 43 = .ok (.getfield 42, 3) := by decide +kernel
theorem dX0_takeTurned_46 : decode cX0_takeTurned 46 = .ok (.goto 7, 3) := by decide +kernel
theorem dX0_takeTurned_49 : decode cX0_takeTurned 49 = .ok (.aload_n 1, 1) := by decide +kernel
theorem dX0_takeTurned_50 : decode cX0_takeTurned 50 = .ok (.getfield 41, 3) := by decide +kernel
theorem dX0_takeTurned_53 : decode cX0_takeTurned 53 = .ok (.istore 6, 2) := by decide +kernel
theorem dX0_takeTurned_55 : decode cX0_takeTurned 55 = .ok (.aload_n 0, 1) := by decide +kernel
theorem dX0_takeTurned_56 : decode cX0_takeTurned 56 = .ok (.iload 5, 2) := by decide +kernel
theorem dX0_takeTurned_58 : decode cX0_takeTurned 58 = .ok (.iload_n 3, 1) := by decide +kernel
theorem dX0_takeTurned_59 : decode cX0_takeTurned 59 = .ok (.idiv, 1) := by decide +kernel
theorem dX0_takeTurned_60 : decode cX0_takeTurned 60 = .ok (.iload 6, 2) := by decide +kernel
theorem dX0_takeTurned_62 : decode cX0_takeTurned 62 = .ok (.iload_n 3, 1) := by decide +kernel
theorem dX0_takeTurned_63 : decode cX0_takeTurned 63 = .ok (.idiv, 1) := by decide +kernel
theorem dX0_takeTurned_64 : decode cX0_takeTurned 64 = .ok (.invokevirtual 43, 3) := by decide +kernel
theorem dX0_takeTurned_67 : decode cX0_takeTurned 67 = .ok (.iconst 0, 1) := by decide +kernel
theorem dX0_takeTurned_68 : decode cX0_takeTurned 68 = .ok (.istore 7, 2) := by decide +kernel
theorem dX0_takeTurned_70 : decode cX0_takeTurned 70 = .ok (.iload 7, 2) := by decide +kernel
theorem dX0_takeTurned_72 : decode cX0_takeTurned 72 = .ok (.aload_n 1, 1) := by decide +kernel
theorem dX0_takeTurned_73 : decode cX0_takeTurned 73 = .ok (.getfield 31, 3) := by decide +kernel
theorem dX0_takeTurned_76 : decode cX0_takeTurned 76 = .ok (.if_icmp .ge 187, 3) := by decide +kernel
theorem dX0_takeTurned_79 : decode cX0_takeTurned 79 = .ok (.aload_n 1, 1) := by decide +kernel
theorem dX0_takeTurned_80 : decode cX0_takeTurned 80 = .ok (.getfield 42, 3) := by decide +kernel
theorem dX0_takeTurned_83 : decode cX0_takeTurned 83 = .ok (.aload_n 1, 1) := by decide +kernel
theorem dX0_takeTurned_84 : decode cX0_takeTurned 84 = .ok (.iload 7, 2) := by decide +kernel
theorem dX0_takeTurned_86 : decode cX0_takeTurned 86 = .ok (.invokevirtual 47, 3) := by decide +kernel
theorem dX0_takeTurned_89 : decode cX0_takeTurned 89 = .ok (.isub, 1) := by decide +kernel
theorem dX0_takeTurned_90 : decode cX0_takeTurned 90 = .ok (.istore 8, 2) := by decide +kernel
theorem dX0_takeTurned_92 : decode cX0_takeTurned 92 = .ok (.aload_n 1, 1) := by decide +kernel
theorem dX0_takeTurned_93 : decode cX0_takeTurned 93 = .ok (.getfield 41, 3) := by decide +kernel
theorem dX0_takeTurned_96 : decode cX0_takeTurned 96 = .ok (.aload_n 1, 1) := by decide +kernel
theorem dX0_takeTurned_97 : decode cX0_takeTurned 97 = .ok (.iload 7, 2) := by decide +kernel
theorem dX0_takeTurned_99 : decode cX0_takeTurned 99 = .ok (.invokevirtual 51, 3) := by decide +kernel
theorem dX0_takeTurned_102 : decode cX0_takeTurned 102 = .ok (.isub, 1) := by decide +kernel
theorem dX0_takeTurned_103 : decode cX0_takeTurned 103 = .ok (.istore 9, 2) := by decide +kernel
theorem dX0_takeTurned_105 : decode cX0_takeTurned 105 = .ok (.iload_n 2, 1) := by decide +kernel
theorem dX0_takeTurned_106 : decode cX0_takeTurned 106 = .ok (.iconst 4, 1) := by decide +kernel
theorem dX0_takeTurned_107 : decode cX0_takeTurned 107 = .ok (.if_icmp .lt 8, 3) := by decide +kernel
theorem dX0_takeTurned_110 : decode cX0_takeTurned 110 = .ok (.iload 8, 2) := by decide +kernel
theorem dX0_takeTurned_112 : decode cX0_takeTurned 112 = .ok (.goto 10, 3) := by decide +kernel
theorem dX0_takeTurned_115 : decode cX0_takeTurned 115 = .ok (.aload_n 1, 1) := by decide +kernel
theorem dX0_takeTurned_116 : decode cX0_takeTurned 116 = .ok (.getfield 34, 3) := by decide +kernel
theorem dX0_takeTurned_119 : decode cX0_takeTurned 119 = .ok (.iload 7, 2) := by decide +kernel
theorem dX0_takeTurned_121 : decode cX0_takeTurned 121 = .ok (.iaload, 1) := by decide +kernel
theorem dX0_takeTurned_122 : decode cX0_takeTurned 122 = .ok (.istore 10, 2) := by decide +kernel
theorem dX0_takeTurned_124 : decode cX0_takeTurned 124 = .ok (.iload_n 2, 1) := by decide +kernel
theorem dX0_takeTurned_125 : decode cX0_takeTurned 125 = .ok (.iconst 4, 1) := by decide +kernel
theorem dX0_takeTurned_126 : decode cX0_takeTurned 126 = .ok (.if_icmp .lt 13, 3) := by decide +kernel
theorem dX0_takeTurned_129 : decode cX0_takeTurned 129 = .ok (.aload_n 1, 1) := by decide +kernel
theorem dX0_takeTurned_130 : decode cX0_takeTurned 130 = .ok (.getfield 34, 3) := by decide +kernel
theorem dX0_takeTurned_133 : decode cX0_takeTurned 133 = .ok (.iload 7, 2) := by decide +kernel
theorem dX0_takeTurned_135 : decode cX0_takeTurned 135 = .ok (.iaload, 1) := by decide +kernel
theorem dX0_takeTurned_136 : decode cX0_takeTurned 136 = .ok (.goto 5, 3) := by decide +kernel
theorem dX0_takeTurned_139 : decode cX0_takeTurned 139 = .ok (.iload 8, 2) := by decide +kernel
theorem dX0_takeTurned_141 : decode cX0_takeTurned 141 = .ok (.istore 11, 2) := by decide +kernel
theorem dX0_takeTurned_143 : decode cX0_takeTurned 143 = .ok (.aload_n 1, 1) := by decide +kernel
theorem dX0_takeTurned_144 : decode cX0_takeTurned 144 = .ok (.getfield 35, 3) := by decide +kernel
theorem dX0_takeTurned_147 : decode cX0_takeTurned 147 = .ok (.iload 7, 2) := by decide +kernel
theorem dX0_takeTurned_149 : decode cX0_takeTurned 149 = .ok (.iaload, 1) := by decide +kernel
theorem dX0_takeTurned_150 : decode cX0_takeTurned 150 = .ok (.istore 12, 2) := by decide +kernel
theorem dX0_takeTurned_152 : decode cX0_takeTurned 152 = .ok (.aload_n 1, 1) := by decide +kernel
theorem dX0_takeTurned_153 : decode cX0_takeTurned 153 = .ok (.getfield 36, 3) := by decide +kernel
theorem dX0_takeTurned_156 : decode cX0_takeTurned 156 = .ok (.iload 7, 2) := by decide +kernel
theorem dX0_takeTurned_158 : decode cX0_takeTurned 158 = .ok (.iaload, 1) := by decide +kernel
theorem dX0_takeTurned_159 : decode cX0_takeTurned 159 = .ok (.iload_n 3, 1) := by decide +kernel
theorem dX0_takeTurned_160 : decode cX0_takeTurned 160 = .ok (.idiv, 1) := by decide +kernel
theorem dX0_takeTurned_161 : decode cX0_takeTurned 161 = .ok (.istore 13, 2) := by decide +kernel
theorem dX0_takeTurned_163 : decode cX0_takeTurned 163 = .ok (.iload_n 2, 1) := by decide +kernel
theorem dX0_takeTurned_164 : decode cX0_takeTurned 164 = .ok (.iconst 3, 1) := by decide +kernel
theorem dX0_takeTurned_165 : decode cX0_takeTurned 165 = .ok (.iand, 1) := by decide +kernel
theorem dX0_takeTurned_166 : decode cX0_takeTurned 166 = .ok (.tableswitch 77 0 2 #[26, 43, 60], 26) := by decide +kernel
theorem dX0_takeTurned_192 : decode cX0_takeTurned 192 = .ok (.aload_n 0, 1) := by decide +kernel
theorem dX0_takeTurned_193 : decode cX0_takeTurned 193 = .ok (.iload 10, 2) := by decide +kernel
theorem dX0_takeTurned_195 : decode cX0_takeTurned 195 = .ok (.iload_n 3, 1) := by decide +kernel
theorem dX0_takeTurned_196 : decode cX0_takeTurned 196 = .ok (.idiv, 1) := by decide +kernel
theorem dX0_takeTurned_197 : decode cX0_takeTurned 197 = .ok (.iload 12, 2) := by decide +kernel
theorem dX0_takeTurned_199 : decode cX0_takeTurned 199 = .ok (.iload_n 3, 1) := by decide +kernel
theorem dX0_takeTurned_200 : decode cX0_takeTurned 200 = .ok (.idiv, 1) := by decide +kernel
theorem dX0_takeTurned_201 : decode cX0_takeTurned 201 = .ok (.iload 13, 2) := by decide +kernel
theorem dX0_takeTurned_203 : decode cX0_takeTurned 203 = .ok (.invokevirtual 37, 3) := by decide +kernel
theorem dX0_takeTurned_206 : decode cX0_takeTurned 206 = .ok (.goto 51, 3) := by decide +kernel
theorem dX0_takeTurned_209 : decode cX0_takeTurned 209 = .ok (.aload_n 0, 1) := by decide +kernel
theorem dX0_takeTurned_210 : decode cX0_takeTurned 210 = .ok (.iload 9, 2) := by decide +kernel
theorem dX0_takeTurned_212 : decode cX0_takeTurned 212 = .ok (.iload_n 3, 1) := by decide +kernel
theorem dX0_takeTurned_213 : decode cX0_takeTurned 213 = .ok (.idiv, 1) := by decide +kernel
theorem dX0_takeTurned_214 : decode cX0_takeTurned 214 = .ok (.iload 10, 2) := by decide +kernel
theorem dX0_takeTurned_216 : decode cX0_takeTurned 216 = .ok (.iload_n 3, 1) := by decide +kernel
theorem dX0_takeTurned_217 : decode cX0_takeTurned 217 = .ok (.idiv, 1) := by decide +kernel
theorem dX0_takeTurned_218 : decode cX0_takeTurned 218 = .ok (.iload 13, 2) := by decide +kernel
theorem dX0_takeTurned_220 : decode cX0_takeTurned 220 = .ok (.invokevirtual 37, 3) := by decide +kernel
theorem dX0_takeTurned_223 : decode cX0_takeTurned 223 = .ok (.goto 34, 3) := by decide +kernel
theorem dX0_takeTurned_226 : decode cX0_takeTurned 226 = .ok (.aload_n 0, 1) := by decide +kernel
theorem dX0_takeTurned_227 : decode cX0_takeTurned 227 = .ok (.iload 11, 2) := by decide +kernel
theorem dX0_takeTurned_229 : decode cX0_takeTurned 229 = .ok (.iload_n 3, 1) := by decide +kernel
theorem dX0_takeTurned_230 : decode cX0_takeTurned 230 = .ok (.idiv, 1) := by decide +kernel
theorem dX0_takeTurned_231 : decode cX0_takeTurned 231 = .ok (.iload 9, 2) := by decide +kernel
theorem dX0_takeTurned_233 : decode cX0_takeTurned 233 = .ok (.iload_n 3, 1) := by decide +kernel
theorem dX0_takeTurned_234 : decode cX0_takeTurned 234 = .ok (.idiv, 1) := by decide +kernel
theorem dX0_takeTurned_235 : decode cX0_takeTurned 235 = .ok (.iload 13, 2) := by decide +kernel
theorem dX0_takeTurned_237 : decode cX0_takeTurned 237 = .ok (.invokevirtual 37, 3) := by decide +kernel
theorem dX0_takeTurned_240 : decode cX0_takeTurned 240 = .ok (.goto 17, 3) := by decide +kernel
theorem dX0_takeTurned_243 : decode cX0_takeTurned 243 = .ok (.aload_n 0, 1) := by decide +kernel
theorem dX0_takeTurned_244 : decode cX0_takeTurned 244 = .ok (.iload 12, 2) := by decide +kernel
theorem dX0_takeTurned_246 : decode cX0_takeTurned 246 = .ok (.iload_n 3, 1) := by decide +kernel
theorem dX0_takeTurned_247 : decode cX0_takeTurned 247 = .ok (.idiv, 1) := by decide +kernel
theorem dX0_takeTurned_248 : decode cX0_takeTurned 248 = .ok (.iload 11, 2) := by decide +kernel
theorem dX0_takeTurned_250 : decode cX0_takeTurned 250 = .ok (.iload_n 3, 1) := by decide +kernel
theorem dX0_takeTurned_251 : decode cX0_takeTurned 251 = .ok (.idiv, 1) := by decide +kernel
theorem dX0_takeTurned_252 : decode cX0_takeTurned 252 = .ok (.iload 13, 2) := by decide +kernel
theorem dX0_takeTurned_254 : decode cX0_takeTurned 254 = .ok (.invokevirtual 37, 3) := by decide +kernel
theorem dX0_takeTurned_257 : decode cX0_takeTurned 257 = .ok (.iinc 7 1, 3) := by decide +kernel
theorem dX0_takeTurned_260 : decode cX0_takeTurned 260 = .ok (.goto (-190), 3) := by decide +kernel
theorem dX0_takeTurned_263 : decode cX0_takeTurned 263 = .ok (.aload_n 0, 1) := by decide +kernel
theorem dX0_takeTurned_264 : decode cX0_takeTurned 264 = .ok (.invokevirtual 54, 3) := by decide +kernel
theorem dX0_takeTurned_267 : decode cX0_takeTurned 267 = .ok (.return_, 1) := by decide +kernel
theorem dX0_sortAsCode_0 : decode cX0_sortAsCode 0 = .ok (.iconst 1, 1) := by decide +kernel
theorem dX0_sortAsCode_1 : decode cX0_sortAsCode 1 = .ok (.istore_n 1, 1) := by decide +kernel
theorem dX0_sortAsCode_2 : decode cX0_sortAsCode 2 = .ok (.iload_n 1, 1) := by decide +kernel
theorem dX0_sortAsCode_3 : decode cX0_sortAsCode 3 = .ok (.aload_n 0, 1) := by decide +kernel
theorem dX0_sortAsCode_4 : decode cX0_sortAsCode 4 = .ok (.getfield 28, 3) := by decide +kernel
theorem dX0_sortAsCode_7 : decode cX0_sortAsCode 7 = .ok (.if_icmp .ge 131, 3) := by decide +kernel
theorem dX0_sortAsCode_10 : decode cX0_sortAsCode 10 = .ok (.aload_n 0, 1) := by decide +kernel
theorem dX0_sortAsCode_11 : decode cX0_sortAsCode 11 = .ok (.getfield 9, 3) := by decide +kernel
theorem dX0_sortAsCode_14 : decode cX0_sortAsCode 14 = .ok (.iload_n 1, 1) := by decide +kernel
theorem dX0_sortAsCode_15 : decode cX0_sortAsCode 15 = .ok (.iaload, 1) := by decide +kernel
theorem dX0_sortAsCode_16 : decode cX0_sortAsCode 16 = .ok (.istore_n 2, 1) := by decide +kernel
theorem dX0_sortAsCode_17 : decode cX0_sortAsCode 17 = .ok (.aload_n 0, 1) := by decide +kernel
theorem dX0_sortAsCode_18 : decode cX0_sortAsCode 18 = .ok (.getfield 15, 3) := by decide +kernel
theorem dX0_sortAsCode_21 : decode cX0_sortAsCode 21 = .ok (.iload_n 1, 1) := by decide +kernel
theorem dX0_sortAsCode_22 : decode cX0_sortAsCode 22 = .ok (.iaload, 1) := by decide +kernel
theorem dX0_sortAsCode_23 : decode cX0_sortAsCode 23 = .ok (.istore_n 3, 1) := by decide +kernel
theorem dX0_sortAsCode_24 : decode cX0_sortAsCode 24 = .ok (.aload_n 0, 1) := by decide +kernel
theorem dX0_sortAsCode_25 : decode cX0_sortAsCode 25 = .ok (.getfield 18, 3) := by decide +kernel
theorem dX0_sortAsCode_28 : decode cX0_sortAsCode 28 = .ok (.iload_n 1, 1) := by decide +kernel
theorem dX0_sortAsCode_29 : decode cX0_sortAsCode 29 = .ok (.iaload, 1) := by decide +kernel
theorem dX0_sortAsCode_30 : decode cX0_sortAsCode 30 = .ok (.istore 4, 2) := by decide +kernel
theorem dX0_sortAsCode_32 : decode cX0_sortAsCode 32 = .ok (.iload_n 1, 1) := by decide +kernel
theorem dX0_sortAsCode_33 : decode cX0_sortAsCode 33 = .ok (.istore 5, 2) := by decide +kernel
theorem dX0_sortAsCode_35 : decode cX0_sortAsCode 35 = .ok (.iload 5, 2) := by decide +kernel
theorem dX0_sortAsCode_37 : decode cX0_sortAsCode 37 = .ok (.ifCond .le 70, 3) := by decide +kernel
theorem dX0_sortAsCode_40 : decode cX0_sortAsCode 40 = .ok (.aload_n 0, 1) := by decide +kernel
theorem dX0_sortAsCode_41 : decode cX0_sortAsCode 41 = .ok (.iload 5, 2) := by decide +kernel
theorem dX0_sortAsCode_43 : decode cX0_sortAsCode 43 = .ok (.iconst 1, 1) := by decide +kernel
theorem dX0_sortAsCode_44 : decode cX0_sortAsCode 44 = .ok (.isub, 1) := by decide +kernel
theorem dX0_sortAsCode_45 : decode cX0_sortAsCode 45 = .ok (.iload_n 2, 1) := by decide +kernel
theorem dX0_sortAsCode_46 : decode cX0_sortAsCode 46 = .ok (.iload_n 3, 1) := by decide +kernel
theorem dX0_sortAsCode_47 : decode cX0_sortAsCode 47 = .ok (.invokevirtual 57, 3) := by decide +kernel
theorem dX0_sortAsCode_50 : decode cX0_sortAsCode 50 = .ok (.ifCond .eq 57, 3) := by decide +kernel
theorem dX0_sortAsCode_53 : decode cX0_sortAsCode 53 = .ok (.aload_n 0, 1) := by decide +kernel
theorem dX0_sortAsCode_54 : decode cX0_sortAsCode 54 = .ok (.getfield 9, 3) := by decide +kernel
theorem dX0_sortAsCode_57 : decode cX0_sortAsCode 57 = .ok (.iload 5, 2) := by decide +kernel
theorem dX0_sortAsCode_59 : decode cX0_sortAsCode 59 = .ok (.aload_n 0, 1) := by decide +kernel
theorem dX0_sortAsCode_60 : decode cX0_sortAsCode 60 = .ok (.getfield 9, 3) := by decide +kernel
theorem dX0_sortAsCode_63 : decode cX0_sortAsCode 63 = .ok (.iload 5, 2) := by decide +kernel
theorem dX0_sortAsCode_65 : decode cX0_sortAsCode 65 = .ok (.iconst 1, 1) := by decide +kernel
theorem dX0_sortAsCode_66 : decode cX0_sortAsCode 66 = .ok (.isub, 1) := by decide +kernel
theorem dX0_sortAsCode_67 : decode cX0_sortAsCode 67 = .ok (.iaload, 1) := by decide +kernel
theorem dX0_sortAsCode_68 : decode cX0_sortAsCode 68 = .ok (.iastore, 1) := by decide +kernel
theorem dX0_sortAsCode_69 : decode cX0_sortAsCode 69 = .ok (.aload_n 0, 1) := by decide +kernel
theorem dX0_sortAsCode_70 : decode cX0_sortAsCode 70 = .ok (.getfield 15, 3) := by decide +kernel
theorem dX0_sortAsCode_73 : decode cX0_sortAsCode 73 = .ok (.iload 5, 2) := by decide +kernel
theorem dX0_sortAsCode_75 : decode cX0_sortAsCode 75 = .ok (.aload_n 0, 1) := by decide +kernel
theorem dX0_sortAsCode_76 : decode cX0_sortAsCode 76 = .ok (.getfield 15, 3) := by decide +kernel
theorem dX0_sortAsCode_79 : decode cX0_sortAsCode 79 = .ok (.iload 5, 2) := by decide +kernel
theorem dX0_sortAsCode_81 : decode cX0_sortAsCode 81 = .ok (.iconst 1, 1) := by decide +kernel
theorem dX0_sortAsCode_82 : decode cX0_sortAsCode 82 = .ok (.isub, 1) := by decide +kernel
theorem dX0_sortAsCode_83 : decode cX0_sortAsCode 83 = .ok (.iaload, 1) := by decide +kernel
theorem dX0_sortAsCode_84 : decode cX0_sortAsCode 84 = .ok (.iastore, 1) := by decide +kernel
theorem dX0_sortAsCode_85 : decode cX0_sortAsCode 85 = .ok (.aload_n 0, 1) := by decide +kernel
theorem dX0_sortAsCode_86 : decode cX0_sortAsCode 86 = .ok (.getfield 18, 3) := by decide +kernel
theorem dX0_sortAsCode_89 : decode cX0_sortAsCode 89 = .ok (.iload 5, 2) := by decide +kernel
theorem dX0_sortAsCode_91 : decode cX0_sortAsCode 91 = .ok (.aload_n 0, 1) := by decide +kernel
theorem dX0_sortAsCode_92 : decode cX0_sortAsCode 92 = .ok (.getfield 18, 3) := by decide +kernel
theorem dX0_sortAsCode_95 : decode cX0_sortAsCode 95 = .ok (.iload 5, 2) := by decide +kernel
theorem dX0_sortAsCode_97 : decode cX0_sortAsCode 97 = .ok (.iconst 1, 1) := by decide +kernel
theorem dX0_sortAsCode_98 : decode cX0_sortAsCode 98 = .ok (.isub, 1) := by decide +kernel
theorem dX0_sortAsCode_99 : decode cX0_sortAsCode 99 = .ok (.iaload, 1) := by decide +kernel
theorem dX0_sortAsCode_100 : decode cX0_sortAsCode 100 = .ok (.iastore, 1) := by decide +kernel
theorem dX0_sortAsCode_101 : decode cX0_sortAsCode 101 = .ok (.iinc 5 (-1), 3) := by decide +kernel
theorem dX0_sortAsCode_104 : decode cX0_sortAsCode 104 = .ok (.goto (-69), 3) := by decide +kernel
theorem dX0_sortAsCode_107 : decode cX0_sortAsCode 107 = .ok (.aload_n 0, 1) := by decide +kernel
theorem dX0_sortAsCode_108 : decode cX0_sortAsCode 108 = .ok (.getfield 9, 3) := by decide +kernel
theorem dX0_sortAsCode_111 : decode cX0_sortAsCode 111 = .ok (.iload 5, 2) := by decide +kernel
theorem dX0_sortAsCode_113 : decode cX0_sortAsCode 113 = .ok (.iload_n 2, 1) := by decide +kernel
theorem dX0_sortAsCode_114 : decode cX0_sortAsCode 114 = .ok (.iastore, 1) := by decide +kernel
theorem dX0_sortAsCode_115 : decode cX0_sortAsCode 115 = .ok (.aload_n 0, 1) := by decide +kernel
theorem dX0_sortAsCode_116 : decode cX0_sortAsCode 116 = .ok (.getfield 15, 3) := by decide +kernel
theorem dX0_sortAsCode_119 : decode cX0_sortAsCode 119 = .ok (.iload 5, 2) := by decide +kernel
theorem dX0_sortAsCode_121 : decode cX0_sortAsCode 121 = .ok (.iload_n 3, 1) := by decide +kernel
theorem dX0_sortAsCode_122 : decode cX0_sortAsCode 122 = .ok (.iastore, 1) := by decide +kernel
theorem dX0_sortAsCode_123 : decode cX0_sortAsCode 123 = .ok (.aload_n 0, 1) := by decide +kernel
theorem dX0_sortAsCode_124 : decode cX0_sortAsCode 124 = .ok (.getfield 18, 3) := by decide +kernel
theorem dX0_sortAsCode_127 : decode cX0_sortAsCode 127 = .ok (.iload 5, 2) := by decide +kernel
theorem dX0_sortAsCode_129 : decode cX0_sortAsCode 129 = .ok (.iload 4, 2) := by decide +kernel
theorem dX0_sortAsCode_131 : decode cX0_sortAsCode 131 = .ok (.iastore, 1) := by decide +kernel
theorem dX0_sortAsCode_132 : decode cX0_sortAsCode 132 = .ok (.iinc 1 1, 3) := by decide +kernel
theorem dX0_sortAsCode_135 : decode cX0_sortAsCode 135 = .ok (.goto (-133), 3) := by decide +kernel
theorem dX0_sortAsCode_138 : decode cX0_sortAsCode 138 = .ok (.return_, 1) := by decide +kernel
theorem dX0_isBehind_0 : decode cX0_isBehind 0 = .ok (.aload_n 0, 1) := by decide +kernel
theorem dX0_isBehind_1 : decode cX0_isBehind 1 = .ok (.getfield 15, 3) := by decide +kernel
theorem dX0_isBehind_4 : decode cX0_isBehind 4 = .ok (.iload_n 1, 1) := by decide +kernel
theorem dX0_isBehind_5 : decode cX0_isBehind 5 = .ok (.iaload, 1) := by decide +kernel
theorem dX0_isBehind_6 : decode cX0_isBehind 6 = .ok (.iload_n 3, 1) := by decide +kernel
theorem dX0_isBehind_7 : decode cX0_isBehind 7 = .ok (.if_icmp .gt 23, 3) := by decide +kernel
theorem dX0_isBehind_10 : decode cX0_isBehind 10 = .ok (.aload_n 0, 1) := by decide +kernel
theorem dX0_isBehind_11 : decode cX0_isBehind 11 = .ok (.getfield 15, 3) := by decide +kernel
theorem dX0_isBehind_14 : decode cX0_isBehind 14 = .ok (.iload_n 1, 1) := by decide +kernel
theorem dX0_isBehind_15 : decode cX0_isBehind 15 = .ok (.iaload, 1) := by decide +kernel
theorem dX0_isBehind_16 : decode cX0_isBehind 16 = .ok (.iload_n 3, 1) := by decide +kernel
theorem dX0_isBehind_17 : decode cX0_isBehind 17 = .ok (.if_icmp .ne 17, 3) := by decide +kernel
theorem dX0_isBehind_20 : decode cX0_isBehind 20 = .ok (.aload_n 0, 1) := by decide +kernel
theorem dX0_isBehind_21 : decode cX0_isBehind 21 = .ok (.getfield 9, 3) := by decide +kernel
theorem dX0_isBehind_24 : decode cX0_isBehind 24 = .ok (.iload_n 1, 1) := by decide +kernel
theorem dX0_isBehind_25 : decode cX0_isBehind 25 = .ok (.iaload, 1) := by decide +kernel
theorem dX0_isBehind_26 : decode cX0_isBehind 26 = .ok (.iload_n 2, 1) := by decide +kernel
theorem dX0_isBehind_27 : decode cX0_isBehind 27 = .ok (.if_icmp .le 7, 3) := by decide +kernel
theorem dX0_isBehind_30 : decode cX0_isBehind 30 = .ok (.iconst 1, 1) := by decide +kernel
theorem dX0_isBehind_31 : decode cX0_isBehind 31 = .ok (.goto 4, 3) := by decide +kernel
theorem dX0_isBehind_34 : decode cX0_isBehind 34 = .ok (.iconst 0, 1) := by decide +kernel
theorem dX0_isBehind_35 : decode cX0_isBehind 35 = .ok (.ireturn, 1) := by decide +kernel
theorem dX0_equalTo_0 : decode cX0_equalTo 0 = .ok (.aload_n 0, 1) := by decide +kernel
theorem dX0_equalTo_1 : decode cX0_equalTo 1 = .ok (.getfield 28, 3) := by decide +kernel
theorem dX0_equalTo_4 : decode cX0_equalTo 4 = .ok (.aload_n 1, 1) := by decide +kernel
theorem dX0_equalTo_5 : decode cX0_equalTo 5 = .ok (.getfield 28, 3) := by decide +kernel
theorem dX0_equalTo_8 : decode cX0_equalTo 8 = .ok (.if_icmp .ne 25, 3) := by decide +kernel
theorem dX0_equalTo_11 : decode cX0_equalTo 11 = .ok (.aload_n 0, 1) := by decide +kernel
theorem dX0_equalTo_12 : decode cX0_equalTo 12 = .ok (.getfield 21, 3) := by decide +kernel
theorem dX0_equalTo_15 : decode cX0_equalTo 15 = .ok (.aload_n 1, 1) := by decide +kernel
theorem dX0_equalTo_16 : decode cX0_equalTo 16 = .ok (.getfield 21, 3) := by decide +kernel
theorem dX0_equalTo_19 : decode cX0_equalTo 19 = .ok (.if_icmp .ne 14, 3) := by decide +kernel
theorem dX0_equalTo_22 : decode cX0_equalTo 22 = .ok (.aload_n 0, 1) := by decide +kernel
theorem dX0_equalTo_23 : decode cX0_equalTo 23 = .ok (.getfield 25, 3) := by decide +kernel
theorem dX0_equalTo_26 : decode cX0_equalTo 26 = .ok (.aload_n 1, 1) := by decide +kernel
theorem dX0_equalTo_27 : decode cX0_equalTo 27 = .ok (.getfield 25, 3) := by decide +kernel
theorem dX0_equalTo_30 : decode cX0_equalTo 30 = .ok (.if_icmp .eq 5, 3) := by decide +kernel
theorem dX0_equalTo_33 : decode cX0_equalTo 33 = .ok (.iconst 0, 1) := by decide +kernel
theorem dX0_equalTo_34 : decode cX0_equalTo 34 = .ok (.ireturn, 1) := by decide +kernel
theorem dX0_equalTo_35 : decode cX0_equalTo 35 = .ok (.iconst 0, 1) := by decide +kernel
theorem dX0_equalTo_36 : decode cX0_equalTo 36 = .ok (.istore_n 2, 1) := by decide +kernel
theorem dX0_equalTo_37 : decode cX0_equalTo 37 = .ok (.iload_n 2, 1) := by decide +kernel
theorem dX0_equalTo_38 : decode cX0_equalTo 38 = .ok (.aload_n 0, 1) := by decide +kernel
theorem dX0_equalTo_39 : decode cX0_equalTo 39 = .ok (.getfield 28, 3) := by decide +kernel
theorem dX0_equalTo_42 : decode cX0_equalTo 42 = .ok (.if_icmp .ge 56, 3) := by decide +kernel
theorem dX0_equalTo_45 : decode cX0_equalTo 45 = .ok (.aload_n 0, 1) := by decide +kernel
theorem dX0_equalTo_46 : decode cX0_equalTo 46 = .ok (.getfield 9, 3) := by decide +kernel
theorem dX0_equalTo_49 : decode cX0_equalTo 49 = .ok (.iload_n 2, 1) := by decide +kernel
theorem dX0_equalTo_50 : decode cX0_equalTo 50 = .ok (.iaload, 1) := by decide +kernel
theorem dX0_equalTo_51 : decode cX0_equalTo 51 = .ok (.aload_n 1, 1) := by decide +kernel
theorem dX0_equalTo_52 : decode cX0_equalTo 52 = .ok (.getfield 9, 3) := by decide +kernel
theorem dX0_equalTo_55 : decode cX0_equalTo 55 = .ok (.iload_n 2, 1) := by decide +kernel
theorem dX0_equalTo_56 : decode cX0_equalTo 56 = .ok (.iaload, 1) := by decide +kernel
theorem dX0_equalTo_57 : decode cX0_equalTo 57 = .ok (.if_icmp .ne 33, 3) := by decide +kernel
theorem dX0_equalTo_60 : decode cX0_equalTo 60 = .ok (.aload_n 0, 1) := by decide +kernel
theorem dX0_equalTo_61 : decode cX0_equalTo 61 = .ok (.getfield 15, 3) := by decide +kernel
theorem dX0_equalTo_64 : decode cX0_equalTo 64 = .ok (.iload_n 2, 1) := by decide +kernel
theorem dX0_equalTo_65 : decode cX0_equalTo 65 = .ok (.iaload, 1) := by decide +kernel
theorem dX0_equalTo_66 : decode cX0_equalTo 66 = .ok (.aload_n 1, 1) := by decide +kernel
theorem dX0_equalTo_67 : decode cX0_equalTo 67 = .ok (.getfield 15, 3) := by decide +kernel
theorem dX0_equalTo_70 : decode cX0_equalTo 70 = .ok (.iload_n 2, 1) := by decide +kernel
theorem dX0_equalTo_71 : decode cX0_equalTo 71 = .ok (.iaload, 1) := by decide +kernel
theorem dX0_equalTo_72 : decode cX0_equalTo 72 = .ok (.if_icmp .ne 18, 3) := by decide +kernel
theorem dX0_equalTo_75 : decode cX0_equalTo 75 = .ok (.aload_n 0, 1) := by decide +kernel
theorem dX0_equalTo_76 : decode cX0_equalTo 76 = .ok (.getfield 18, 3) := by decide +kernel
theorem dX0_equalTo_79 : decode cX0_equalTo 79 = .ok (.iload_n 2, 1) := by decide +kernel
theorem dX0_equalTo_80 : decode cX0_equalTo 80 = .ok (.iaload, 1) := by decide +kernel
theorem dX0_equalTo_81 : decode cX0_equalTo 81 = .ok (.aload_n 1, 1) := by decide +kernel
theorem dX0_equalTo_82 : decode cX0_equalTo 82 = .ok (.getfield 18, 3) := by decide +kernel
theorem dX0_equalTo_85 : decode cX0_equalTo 85 = .ok (.iload_n 2, 1) := by decide +kernel
theorem dX0_equalTo_86 : decode cX0_equalTo 86 = .ok (.iaload, 1) := by decide +kernel
theorem dX0_equalTo_87 : decode cX0_equalTo 87 = .ok (.if_icmp .eq 5, 3) := by decide +kernel
theorem dX0_equalTo_90 : decode cX0_equalTo 90 = .ok (.iconst 0, 1) := by decide +kernel
theorem dX0_equalTo_91 : decode cX0_equalTo 91 = .ok (.ireturn, 1) := by decide +kernel
theorem dX0_equalTo_92 : decode cX0_equalTo 92 = .ok (.iinc 2 1, 3) := by decide +kernel
theorem dX0_equalTo_95 : decode cX0_equalTo 95 = .ok (.goto (-58), 3) := by decide +kernel
theorem dX0_equalTo_98 : decode cX0_equalTo 98 = .ok (.iconst 1, 1) := by decide +kernel
theorem dX0_equalTo_99 : decode cX0_equalTo 99 = .ok (.ireturn, 1) := by decide +kernel
theorem dX1_init_0 : decode cX1_init 0 = .ok (.aload_n 0, 1) := by decide +kernel
theorem dX1_init_1 : decode cX1_init 1 = .ok (.invokespecial 3, 3) := by decide +kernel
theorem dX1_init_4 : decode cX1_init 4 = .ok (.aload_n 0, 1) := by decide +kernel
theorem dX1_init_5 : decode cX1_init 5 = .ok (.new 9, 3) := by decide +kernel
theorem dX1_init_8 : decode cX1_init 8 = .ok (.dup, 1) := by decide +kernel
theorem dX1_init_9 : decode cX1_init 9 = .ok (.bipush 24, 2) := by decide +kernel
theorem dX1_init_11 : decode cX1_init 11 = .ok (.invokespecial 11, 3) := by decide +kernel
theorem dX1_init_14 : decode cX1_init 14 = .ok (.putfield 14, 3) := by decide +kernel
theorem dX1_init_17 : decode cX1_init 17 = .ok (.return_, 1) := by decide +kernel
theorem dX1_layGroups_0 : decode cX1_layGroups 0 = .ok (.aload_n 0, 1) := by decide +kernel
theorem dX1_layGroups_1 : decode cX1_layGroups 1 = .ok (.iconst 0, 1) := by decide +kernel
theorem dX1_layGroups_2 : decode cX1_layGroups 2 = .ok (.putfield 20, 3) := by decide +kernel
theorem dX1_layGroups_5 : decode cX1_layGroups 5 = .ok (.aload_n 0, 1) := by decide +kernel
theorem dX1_layGroups_6 : decode cX1_layGroups 6 = .ok (.aload_n 1, 1) := by decide +kernel
theorem dX1_layGroups_7 : decode cX1_layGroups 7 = .ok (.aload_n 2, 1) := by decide +kernel
theorem dX1_layGroups_8 : decode cX1_layGroups 8 = .ok (.iload_n 3, 1) := by decide +kernel
theorem dX1_layGroups_9 : decode cX1_layGroups 9 = .ok (.invokevirtual 24, 3) := by decide +kernel
theorem dX1_layGroups_12 : decode cX1_layGroups 12 = .ok (.istore 5, 2) := by decide +kernel
theorem dX1_layGroups_14 : decode cX1_layGroups 14 = .ok (.aload 4, 2) := by decide +kernel
theorem dX1_layGroups_16 : decode cX1_layGroups 16 = .ok (.iload 5, 2) := by decide +kernel
theorem dX1_layGroups_18 : decode cX1_layGroups 18 = .ok (.iconst 0, 1) := by decide +kernel
theorem dX1_layGroups_19 : decode cX1_layGroups 19 = .ok (.invokevirtual 28, 3) := by decide +kernel
theorem dX1_layGroups_22 : decode cX1_layGroups 22 = .ok (.aload_n 0, 1) := by decide +kernel
theorem dX1_layGroups_23 : decode cX1_layGroups 23 = .ok (.getfield 14, 3) := by decide +kernel
theorem dX1_layGroups_26 : decode cX1_layGroups 26 = .ok (.iload 5, 2) := by decide +kernel
theorem dX1_layGroups_28 : decode cX1_layGroups 28 = .ok (.invokevirtual 34, 3) := by decide +kernel
theorem dX1_layGroups_31 : decode cX1_layGroups 31 = .ok (.iconst 0, 1) := by decide +kernel
theorem dX1_layGroups_32 : decode cX1_layGroups 32 = .ok (.istore 6, 2) := by decide +kernel
theorem dX1_layGroups_34 : decode cX1_layGroups 34 = .ok (.iload 6, 2) := by decide +kernel
theorem dX1_layGroups_36 : decode cX1_layGroups 36 = .ok (.iload_n 3, 1) := by decide +kernel
theorem dX1_layGroups_37 : decode cX1_layGroups 37 = .ok (.if_icmp .ge 45, 3) := by decide +kernel
theorem dX1_layGroups_40 : decode cX1_layGroups 40 = .ok (.aload_n 0, 1) := by decide +kernel
theorem dX1_layGroups_41 : decode cX1_layGroups 41 = .ok (.getfield 20, 3) := by decide +kernel
theorem dX1_layGroups_44 : decode cX1_layGroups 44 = .ok (.iload_n 3, 1) := by decide +kernel
theorem dX1_layGroups_45 : decode cX1_layGroups 45 = .ok (.if_icmp .ge 37, 3) := by decide +kernel
theorem dX1_layGroups_48 : decode cX1_layGroups 48 = .ok (.aload_n 0, 1) := by decide +kernel
theorem dX1_layGroups_49 : decode cX1_layGroups 49 = .ok (.aload_n 1, 1) := by decide +kernel
theorem dX1_layGroups_50 : decode cX1_layGroups 50 = .ok (.aload_n 2, 1) := by decide +kernel
theorem dX1_layGroups_51 : decode cX1_layGroups 51 = .ok (.iload_n 3, 1) := by decide +kernel
theorem dX1_layGroups_52 : decode cX1_layGroups 52 = .ok (.invokevirtual 24, 3) := by decide +kernel
theorem dX1_layGroups_55 : decode cX1_layGroups 55 = .ok (.aload_n 0, 1) := by decide +kernel
theorem dX1_layGroups_56 : decode cX1_layGroups 56 = .ok (.getfield 14, 3) := by decide +kernel
theorem dX1_layGroups_59 : decode cX1_layGroups 59 = .ok (.invokevirtual 37, 3) := by decide +kernel
theorem dX1_layGroups_62 : decode cX1_layGroups 62 = .ok (.if_icmp .eq 5, 3) := by decide +kernel
theorem dX1_layGroups_65 : decode cX1_layGroups 65 = .ok (.iconst 0, 1) := by decide +kernel
theorem dX1_layGroups_66 : decode cX1_layGroups 66 = .ok (.ireturn, 1) := by decide +kernel
theorem dX1_layGroups_67 : decode cX1_layGroups 67 = .ok (.aload_n 0, 1) := by decide +kernel
theorem dX1_layGroups_68 : decode cX1_layGroups 68 = .ok (.aload_n 1, 1) := by decide +kernel
theorem dX1_layGroups_69 : decode cX1_layGroups 69 = .ok (.aload_n 2, 1) := by decide +kernel
theorem dX1_layGroups_70 : decode cX1_layGroups 70 = .ok (.iload_n 3, 1) := by decide +kernel
theorem dX1_layGroups_71 : decode cX1_layGroups 71 = .ok (.aload 4, 2) := by decide +kernel
theorem dX1_layGroups_73 : decode cX1_layGroups 73 = .ok (.invokevirtual 41, 3) := by decide +kernel
theorem dX1_layGroups_76 : decode cX1_layGroups 76 = .ok (.iinc 6 1, 3) := by decide +kernel
theorem dX1_layGroups_79 : decode cX1_layGroups 79 = .ok (.goto (-45), 3) := by decide +kernel
theorem dX1_layGroups_82 : decode cX1_layGroups 82 = .ok (.aload 4, 2) := by decide +kernel
theorem dX1_layGroups_84 : decode cX1_layGroups 84 = .ok (.aload_n 0, 1) := by decide +kernel
theorem dX1_layGroups_85 : decode cX1_layGroups 85 = .ok (.getfield 14, 3) := by decide +kernel
theorem dX1_layGroups_88 : decode cX1_layGroups 88 = .ok (.invokevirtual 45, 3) := by decide +kernel
theorem dX1_layGroups_91 : decode cX1_layGroups 91 = .ok (.putfield 48, 3) := by decide +kernel
theorem dX1_layGroups_94 : decode cX1_layGroups 94 = .ok (.aload_n 0, 1) := by decide +kernel
theorem dX1_layGroups_95 : decode cX1_layGroups 95 = .ok (.getfield 14, 3) := by decide +kernel
theorem dX1_layGroups_98 : decode cX1_layGroups 98 = .ok (.getfield 51, 3) := by decide +kernel
theorem dX1_layGroups_101 : decode cX1_layGroups 101 = .ok (.iconst 1, 1) := by decide +kernel
theorem dX1_layGroups_102 : decode cX1_layGroups 102 = .ok (.if_icmp .ne 7, 3) := by decide +kernel
theorem dX1_layGroups_105 : decode cX1_layGroups 105 = .ok (.iconst 1, 1) := by decide +kernel
theorem dX1_layGroups_106 : decode cX1_layGroups 106 = .ok (.goto 4, 3) := by decide +kernel
theorem dX1_layGroups_109 : decode cX1_layGroups 109 = .ok (.iconst 0, 1) := by decide +kernel
theorem dX1_layGroups_110 : decode cX1_layGroups 110 = .ok (.ireturn, 1) := by decide +kernel
theorem dX1_layGroup_0 : decode cX1_layGroup 0 = .ok (.aload_n 0, 1) := by decide +kernel
theorem dX1_layGroup_1 : decode cX1_layGroup 1 = .ok (.getfield 20, 3) := by decide +kernel
theorem dX1_layGroup_4 : decode cX1_layGroup 4 = .ok (.istore 5, 2) := by decide +kernel
theorem dX1_layGroup_6 : decode cX1_layGroup 6 = .ok (.iload 5, 2) := by decide +kernel
theorem dX1_layGroup_8 : decode cX1_layGroup 8 = .ok (.istore 6, 2) := by decide +kernel
theorem dX1_layGroup_10 : decode cX1_layGroup 10 = .ok (.iload 6, 2) := by decide +kernel
theorem dX1_layGroup_12 : decode cX1_layGroup 12 = .ok (.iload_n 3, 1) := by decide +kernel
theorem dX1_layGroup_13 : decode cX1_layGroup 13 = .ok (.if_icmp .ge 64, 3) := by decide +kernel
theorem dX1_layGroup_16 : decode cX1_layGroup 16 = .ok (.aload_n 2, 1) := by decide +kernel
theorem dX1_layGroup_17 : decode cX1_layGroup 17 = .ok (.iload 6, 2) := by decide +kernel
theorem dX1_layGroup_19 : decode cX1_layGroup 19 = .ok (.iaload, 1) := by decide +kernel
theorem dX1_layGroup_20 : decode cX1_layGroup 20 = .ok (.aload_n 2, 1) := by decide +kernel
theorem dX1_layGroup_21 : decode cX1_layGroup 21 = .ok (.iload 5, 2) := by decide +kernel
theorem dX1_layGroup_23 : decode cX1_layGroup 23 = .ok (.iaload, 1) := by decide +kernel
theorem dX1_layGroup_24 : decode cX1_layGroup 24 = .ok (.if_icmp .ne 53, 3) := by decide +kernel
theorem dX1_layGroup_27 : decode cX1_layGroup 27 = .ok (.aload 4, 2) := by decide +kernel
theorem dX1_layGroup_29 : decode cX1_layGroup 29 = .ok (.aload_n 0, 1) := by decide +kernel
theorem dX1_layGroup_30 : decode cX1_layGroup 30 = .ok (.getfield 14, 3) := by decide +kernel
theorem dX1_layGroup_33 : decode cX1_layGroup 33 = .ok (.invokevirtual 54, 3) := by decide +kernel
theorem dX1_layGroup_36 : decode cX1_layGroup 36 = .ok (.aload_n 0, 1) := by decide +kernel
theorem dX1_layGroup_37 : decode cX1_layGroup 37 = .ok (.getfield 14, 3) := by decide +kernel
theorem dX1_layGroup_40 : decode cX1_layGroup 40 = .ok (.invokevirtual 45, 3) := by decide +kernel
theorem dX1_layGroup_43 : decode cX1_layGroup 43 = .ok (.aload_n 1, 1) := by decide +kernel
theorem dX1_layGroup_44 : decode cX1_layGroup 44 = .ok (.iload 6, 2) := by decide +kernel
theorem dX1_layGroup_46 : decode cX1_layGroup 46 = .ok (.iaload, 1) := by decide +kernel
theorem dX1_layGroup_47 : decode cX1_layGroup 47 = .ok (.invokevirtual 57, 3) := by decide +kernel
theorem dX1_layGroup_50 : decode cX1_layGroup 50 = .ok (.aload_n 0, 1) := by decide +kernel
theorem dX1_layGroup_51 : decode cX1_layGroup 51 = .ok (.getfield 14, 3) := by decide +kernel
theorem dX1_layGroup_54 : decode cX1_layGroup 54 = .ok (.aload_n 1, 1) := by decide +kernel
theorem dX1_layGroup_55 : decode cX1_layGroup 55 = .ok (.iload 6, 2) := by decide +kernel
theorem dX1_layGroup_57 : decode cX1_layGroup 57 = .ok (.iaload, 1) := by decide +kernel
theorem dX1_layGroup_58 : decode cX1_layGroup 58 = .ok (.invokevirtual 61, 3) := by decide +kernel
theorem dX1_layGroup_61 : decode cX1_layGroup 61 = .ok (.aload_n 0, 1) := by decide +kernel
theorem dX1_layGroup_62 : decode cX1_layGroup 62 = .ok (.dup, 1) := by decide +kernel
theorem dX1_layGroup_63 : decode cX1_layGroup 63 = .ok (.getfield 20, 3) := by decide +kernel
theorem dX1_layGroup_66 : decode cX1_layGroup 66 = .ok (.iconst 1, 1) := by decide +kernel
theorem dX1_layGroup_67 : decode cX1_layGroup 67 = .ok (.iadd, 1) := by decide +kernel
theorem dX1_layGroup_68 : decode cX1_layGroup 68 = .ok (.putfield 20, 3) := by decide +kernel
theorem dX1_layGroup_71 : decode cX1_layGroup 71 = .ok (.iinc 6 1, 3) := by decide +kernel
theorem dX1_layGroup_74 : decode cX1_layGroup 74 = .ok (.goto (-64), 3) := by decide +kernel
theorem dX1_layGroup_77 : decode cX1_layGroup 77 = .ok (.return_, 1) := by decide +kernel
theorem dX1_groupSum_0 : decode cX1_groupSum 0 = .ok (.iconst 0, 1) := by decide +kernel
theorem dX1_groupSum_1 : decode cX1_groupSum 1 = .ok (.istore 4, 2) := by decide +kernel
theorem dX1_groupSum_3 : decode cX1_groupSum 3 = .ok (.aload_n 0, 1) := by decide +kernel
theorem dX1_groupSum_4 : decode cX1_groupSum 4 = .ok (.getfield 20, 3) := by decide +kernel
theorem dX1_groupSum_7 : decode cX1_groupSum 7 = .ok (.istore 5, 2) := by decide +kernel
theorem dX1_groupSum_9 : decode cX1_groupSum 9 = .ok (.iload 5, 2) := by decide +kernel
theorem dX1_groupSum_11 : decode cX1_groupSum 11 = .ok (.iload_n 3, 1) := by decide +kernel
theorem dX1_groupSum_12 : decode cX1_groupSum 12 = .ok (.if_icmp .ge 31, 3) := by decide +kernel
theorem dX1_groupSum_15 : decode cX1_groupSum 15 = .ok (.aload_n 2, 1) := by decide +kernel
theorem dX1_groupSum_16 : decode cX1_groupSum 16 = .ok (.iload 5, 2) := by decide +kernel
theorem dX1_groupSum_18 : decode cX1_groupSum 18 = .ok (.iaload, 1) := by decide +kernel
theorem dX1_groupSum_19 : decode cX1_groupSum 19 = .ok (.aload_n 2, 1) := by decide +kernel
theorem dX1_groupSum_20 : decode cX1_groupSum 20 = .ok (.aload_n 0, 1) := by decide +kernel
theorem dX1_groupSum_21 : decode cX1_groupSum 21 = .ok (.getfield 20, 3) := by decide +kernel
theorem dX1_groupSum_24 : decode cX1_groupSum 24 = .ok (.iaload, 1) := by decide +kernel
theorem dX1_groupSum_25 : decode cX1_groupSum 25 = .ok (.if_icmp .ne 18, 3) := by decide +kernel
theorem dX1_groupSum_28 : decode cX1_groupSum 28 = .ok (.iload 4, 2) := by decide +kernel
theorem dX1_groupSum_30 : decode cX1_groupSum 30 = .ok (.aload_n 1, 1) := by decide +kernel
theorem dX1_groupSum_31 : decode cX1_groupSum 31 = .ok (.iload 5, 2) := by decide +kernel
theorem dX1_groupSum_33 : decode cX1_groupSum 33 = .ok (.iaload, 1) := by decide +kernel
theorem dX1_groupSum_34 : decode cX1_groupSum 34 = .ok (.iadd, 1) := by decide +kernel
theorem dX1_groupSum_35 : decode cX1_groupSum 35 = .ok (.istore 4, 2) := by decide +kernel
theorem dX1_groupSum_37 : decode cX1_groupSum 37 = .ok (.iinc 5 1, 3) := by decide +kernel
theorem dX1_groupSum_40 : decode cX1_groupSum 40 = .ok (.goto (-31), 3) := by decide +kernel
theorem dX1_groupSum_43 : decode cX1_groupSum 43 = .ok (.iload 4, 2) := by decide +kernel
theorem dX1_groupSum_45 : decode cX1_groupSum 45 = .ok (.ireturn, 1) := by decide +kernel
theorem dX2_init_0 : decode cX2_init 0 = .ok (.aload_n 0, 1) := by decide +kernel
theorem dX2_init_1 : decode cX2_init 1 = .ok (.invokespecial 3, 3) := by decide +kernel
theorem dX2_init_4 : decode cX2_init 4 = .ok (.aload_n 0, 1) := by decide +kernel
theorem dX2_init_5 : decode cX2_init 5 = .ok (.bipush 80, 2) := by decide +kernel
theorem dX2_init_7 : decode cX2_init 7 = .ok (.newarray .int, 2) := by decide +kernel
theorem dX2_init_9 : decode cX2_init 9 = .ok (.putfield 11, 3) := by decide +kernel
theorem dX2_init_12 : decode cX2_init 12 = .ok (.aload_n 0, 1) := by decide +kernel
theorem dX2_init_13 : decode cX2_init 13 = .ok (.bipush 80, 2) := by decide +kernel
theorem dX2_init_15 : decode cX2_init 15 = .ok (.newarray .int, 2) := by decide +kernel
theorem dX2_init_17 : decode cX2_init 17 = .ok (.putfield 15, 3) := by decide +kernel
theorem dX2_init_20 : decode cX2_init 20 = .ok (.aload_n 0, 1) := by decide +kernel
theorem dX2_init_21 : decode cX2_init 21 = .ok (.bipush 80, 2) := by decide +kernel
theorem dX2_init_23 : decode cX2_init 23 = .ok (.newarray .int, 2) := by decide +kernel
theorem dX2_init_25 : decode cX2_init 25 = .ok (.putfield 18, 3) := by decide +kernel
theorem dX2_init_28 : decode cX2_init 28 = .ok (.aload_n 0, 1) := by decide +kernel
theorem dX2_init_29 : decode cX2_init 29 = .ok (.bipush 80, 2) := by decide +kernel
theorem dX2_init_31 : decode cX2_init 31 = .ok (.newarray .int, 2) := by decide +kernel
theorem dX2_init_33 : decode cX2_init 33 = .ok (.putfield 21, 3) := by decide +kernel
theorem dX2_init_36 : decode cX2_init 36 = .ok (.return_, 1) := by decide +kernel
theorem dX2_build_0 : decode cX2_build 0 = .ok (.aload_n 1, 1) := by decide +kernel
theorem dX2_build_1 : decode cX2_build 1 = .ok (.aload_n 0, 1) := by decide +kernel
theorem dX2_build_2 : decode cX2_build 2 = .ok (.getfield 24, 3) := by decide +kernel
theorem dX2_build_5 : decode cX2_build 5 = .ok (.if_acmp .ne 4, 3) := by decide +kernel
theorem dX2_build_8 : decode cX2_build 8 = .ok (.return_, 1) := by decide +kernel
theorem dX2_build_9 : decode cX2_build 9 = .ok (.aload_n 0, 1) := by decide +kernel
theorem dX2_build_10 : decode cX2_build 10 = .ok (.aload_n 1, 1) := by decide +kernel
theorem dX2_build_11 : decode cX2_build 11 = .ok (.putfield 24, 3) := by decide +kernel
theorem dX2_build_14 : decode cX2_build 14 = .ok (.aload_n 0, 1) := by decide +kernel
theorem dX2_build_15 : decode cX2_build 15 = .ok (.iconst 0, 1) := by decide +kernel
theorem dX2_build_16 : decode cX2_build 16 = .ok (.putfield 28, 3) := by decide +kernel
theorem dX2_build_19 : decode cX2_build 19 = .ok (.iconst 0, 1) := by decide +kernel
theorem dX2_build_20 : decode cX2_build 20 = .ok (.istore_n 2, 1) := by decide +kernel
theorem dX2_build_21 : decode cX2_build 21 = .ok (.iload_n 2, 1) := by decide +kernel
theorem dX2_build_22 : decode cX2_build 22 = .ok (.aload_n 1, 1) := by decide +kernel
theorem dX2_build_23 : decode cX2_build 23 = .ok (.getfield 32, 3) := by decide +kernel
theorem dX2_build_26 : decode cX2_build 26 = .ok (.if_icmp .ge 36, 3) := by decide +kernel
theorem dX2_build_29 : decode cX2_build 29 = .ok (.aload_n 0, 1) := by decide +kernel
theorem dX2_build_30 : decode cX2_build 30 = .ok (.aload_n 1, 1) := by decide +kernel
theorem dX2_build_31 : decode cX2_build 31 = .ok (.getfield 37, 3) := by decide +kernel
theorem dX2_build_34 : decode cX2_build 34 = .ok (.iload_n 2, 1) := by decide +kernel
theorem dX2_build_35 : decode cX2_build 35 = .ok (.iaload, 1) := by decide +kernel
theorem dX2_build_36 : decode cX2_build 36 = .ok (.aload_n 1, 1) := by decide +kernel
theorem dX2_build_37 : decode cX2_build 37 = .ok (.getfield 40, 3) := by decide +kernel
theorem dX2_build_40 : decode cX2_build 40 = .ok (.iload_n 2, 1) := by decide +kernel
theorem dX2_build_41 : decode cX2_build 41 = .ok (.iaload, 1) := by decide +kernel
theorem dX2_build_42 : decode cX2_build 42 = .ok (.aload_n 1, 1) := by decide +kernel
theorem dX2_build_43 : decode cX2_build 43 = .ok (.iload_n 2, 1) := by decide +kernel
theorem dX2_build_44 : decode cX2_build 44 = .ok (.invokevirtual 41, 3) := by decide +kernel
theorem dX2_build_47 : decode cX2_build 47 = .ok (.aload_n 1, 1) := by decide +kernel
theorem dX2_build_48 : decode cX2_build 48 = .ok (.getfield 44, 3) := by decide +kernel
theorem dX2_build_51 : decode cX2_build 51 = .ok (.iload_n 2, 1) := by decide +kernel
theorem dX2_build_52 : decode cX2_build 52 = .ok (.iaload, 1) := by decide +kernel
theorem dX2_build_53 : decode cX2_build 53 = .ok (.invokevirtual 47, 3) := by decide +kernel
theorem dX2_build_56 : decode cX2_build 56 = .ok (.iinc 2 1, 3) := by decide +kernel
theorem dX2_build_59 : decode cX2_build 59 = .ok (.goto (-38), 3) := by decide +kernel
theorem dX2_build_62 : decode cX2_build 62 = .ok (.iconst 0, 1) := by decide +kernel
theorem dX2_build_63 : decode cX2_build 63 = .ok (.istore_n 2, 1) := by decide +kernel
theorem dX2_build_64 : decode cX2_build 64 = .ok (.iload_n 2, 1) := by decide +kernel
theorem dX2_build_65 : decode cX2_build 65 = .ok (.aload_n 1, 1) := by decide +kernel
theorem dX2_build_66 : decode cX2_build 66 = .ok (.getfield 32, 3) := by decide +kernel
theorem dX2_build_69 : decode cX2_build 69 = .ok (.if_icmp .ge 36, 3) := by decide +kernel
theorem dX2_build_72 : decode cX2_build 72 = .ok (.aload_n 0, 1) := by decide +kernel
theorem dX2_build_73 : decode cX2_build 73 = .ok (.aload_n 1, 1) := by decide +kernel
theorem dX2_build_74 : decode cX2_build 74 = .ok (.iload_n 2, 1) := by decide +kernel
theorem dX2_build_75 : decode cX2_build 75 = .ok (.invokevirtual 51, 3) := by decide +kernel
theorem dX2_build_78 : decode cX2_build 78 = .ok (.aload_n 1, 1) := by decide +kernel
theorem dX2_build_79 : decode cX2_build 79 = .ok (.getfield 40, 3) := by decide +kernel
theorem dX2_build_82 : decode cX2_build 82 = .ok (.iload_n 2, 1) := by decide +kernel
theorem dX2_build_83 : decode cX2_build 83 = .ok (.iaload, 1) := by decide +kernel
theorem dX2_build_84 : decode cX2_build 84 = .ok (.aload_n 1, 1) := by decide +kernel
theorem dX2_build_85 : decode cX2_build 85 = .ok (.iload_n 2, 1) := by decide +kernel
theorem dX2_build_86 : decode cX2_build 86 = .ok (.invokevirtual 41, 3) := by decide +kernel
theorem dX2_build_89 : decode cX2_build 89 = .ok (.aload_n 1, 1) := by decide +kernel
theorem dX2_build_90 : decode cX2_build 90 = .ok (.getfield 44, 3) := by decide +kernel
theorem dX2_build_93 : decode cX2_build 93 = .ok (.iload_n 2, 1) := by decide +kernel
theorem dX2_build_94 : decode cX2_build 94 = .ok (.iaload, 1) := by decide +kernel
theorem dX2_build_95 : decode cX2_build 95 = .ok (.ineg, 1) := by decide +kernel
theorem dX2_build_96 : decode cX2_build 96 = .ok (.invokevirtual 47, 3) := by decide +kernel
theorem dX2_build_99 : decode cX2_build 99 = .ok (.iinc 2 1, 3) := by decide +kernel
theorem dX2_build_102 : decode cX2_build 102 = .ok (.goto (-38), 3) := by decide +kernel
theorem dX2_build_105 : decode cX2_build 105 = .ok (.aload_n 0, 1) := by decide +kernel
theorem dX2_build_106 : decode cX2_build 106 = .ok (.invokevirtual 54, 3) := by decide +kernel
theorem dX2_build_109 : decode cX2_build 109 = .ok (.return_, 1) := by decide +kernel
theorem dX2_insertSide_0 : decode cX2_insertSide 0 = .ok (.aload_n 0, 1) := by decide +kernel
theorem dX2_insertSide_1 : decode cX2_insertSide 1 = .ok (.getfield 28, 3) := by decide +kernel
theorem dX2_insertSide_4 : decode cX2_insertSide 4 = .ok (.bipush 80, 2) := by decide +kernel
theorem dX2_insertSide_6 : decode cX2_insertSide 6 = .ok (.if_icmp .lt 4, 3) := by decide +kernel
theorem dX2_insertSide_9 : decode cX2_insertSide 9 = .ok (.return_, 1) := by decide +kernel
theorem dX2_insertSide_10 : decode cX2_insertSide 10 = .ok (.aload_n 0, 1) := by decide +kernel
theorem dX2_insertSide_11 : decode cX2_insertSide 11 = .ok (.getfield 28, 3) := by decide +kernel
theorem dX2_insertSide_14 : decode cX2_insertSide 14 = .ok (.istore 5, 2) := by decide +kernel
theorem dX2_insertSide_16 : decode cX2_insertSide 16 = .ok (.iload 5, 2) := by decide +kernel
theorem dX2_insertSide_18 : decode cX2_insertSide 18 = .ok (.ifCond .le 58, 3) := by decide +kernel
theorem dX2_insertSide_21 : decode cX2_insertSide 21 = .ok (.aload_n 0, 1) := by decide +kernel
theorem dX2_insertSide_22 : decode cX2_insertSide 22 = .ok (.getfield 11, 3) := by decide +kernel
theorem dX2_insertSide_25 : decode cX2_insertSide 25 = .ok (.iload 5, 2) := by decide +kernel
theorem dX2_insertSide_27 : decode cX2_insertSide 27 = .ok (.iconst 1, 1) := by decide +kernel
theorem dX2_insertSide_28 : decode cX2_insertSide 28 = .ok (.isub, 1) := by decide +kernel
theorem dX2_insertSide_29 : decode cX2_insertSide 29 = .ok (.iaload, 1) := by decide +kernel
theorem dX2_insertSide_30 : decode cX2_insertSide 30 = .ok (.iload_n 1, 1) := by decide +kernel
theorem dX2_insertSide_31 : decode cX2_insertSide 31 = .ok (.if_icmp .gt 29, 3) := by decide +kernel
theorem dX2_insertSide_34 : decode cX2_insertSide 34 = .ok (.aload_n 0, 1) := by decide +kernel
theorem dX2_insertSide_35 : decode cX2_insertSide 35 = .ok (.getfield 11, 3) := by decide +kernel
theorem dX2_insertSide_38 : decode cX2_insertSide 38 = .ok (.iload 5, 2) := by decide +kernel
theorem dX2_insertSide_40 : decode cX2_insertSide 40 = .ok (.iconst 1, 1) := by decide +kernel
theorem dX2_insertSide_41 : decode cX2_insertSide 41 = .ok (.isub, 1) := by decide +kernel
theorem dX2_insertSide_42 : decode cX2_insertSide 42 = .ok (.iaload, 1) := by decide +kernel
theorem dX2_insertSide_43 : decode cX2_insertSide 43 = .ok (.iload_n 1, 1) := by decide +kernel
theorem dX2_insertSide_44 : decode cX2_insertSide 44 = .ok (.if_icmp .ne 32, 3) := by decide +kernel
theorem dX2_insertSide_47 : decode cX2_insertSide 47 = .ok (.aload_n 0, 1) := by decide +kernel
theorem dX2_insertSide_48 : decode cX2_insertSide 48 = .ok (.getfield 15, 3) := by decide +kernel
theorem dX2_insertSide_51 : decode cX2_insertSide 51 = .ok (.iload 5, 2) := by decide +kernel
theorem dX2_insertSide_53 : decode cX2_insertSide 53 = .ok (.iconst 1, 1) := by decide +kernel
theorem dX2_insertSide_54 : decode cX2_insertSide 54 = .ok (.isub, 1) := by decide +kernel
theorem dX2_insertSide_55 : decode cX2_insertSide 55 = .ok (.iaload, 1) := by decide +kernel
theorem dX2_insertSide_56 : decode cX2_insertSide 56 = .ok (.iload_n 2, 1) := by decide +kernel
theorem dX2_insertSide_57 : decode cX2_insertSide 57 = .ok (.if_icmp .le 19, 3) := by decide +kernel
theorem dX2_insertSide_60 : decode cX2_insertSide 60 = .ok (.aload_n 0, 1) := by decide +kernel
theorem dX2_insertSide_61 : decode cX2_insertSide 61 = .ok (.iload 5, 2) := by decide +kernel
theorem dX2_insertSide_63 : decode cX2_insertSide 63 = .ok (.iconst 1, 1) := by decide +kernel
theorem dX2_insertSide_64 : decode cX2_insertSide 64 = .ok (.isub, 1) := by decide +kernel
theorem dX2_insertSide_65 : decode cX2_insertSide 65 = .ok (.iload 5, 2) := by decide +kernel
theorem dX2_insertSide_67 : decode cX2_insertSide 67 = .ok (.invokevirtual 57, 3) := by decide +kernel
theorem dX2_insertSide_70 : decode cX2_insertSide 70 = .ok (.iinc 5 (-1), 3) := by decide +kernel
theorem dX2_insertSide_73 : decode cX2_insertSide 73 = .ok (.goto (-57), 3) := by decide +kernel
theorem dX2_insertSide_76 : decode cX2_insertSide 76 = .ok (.aload_n 0, 1) := by decide +kernel
theorem dX2_insertSide_77 : decode cX2_insertSide 77 = .ok (.getfield 11, 3) := by decide +kernel
theorem dX2_insertSide_80 : decode cX2_insertSide 80 = .ok (.iload 5, 2) := by decide +kernel
theorem dX2_insertSide_82 : decode cX2_insertSide 82 = .ok (.iload_n 1, 1) := by decide +kernel
theorem dX2_insertSide_83 : decode cX2_insertSide 83 = .ok (.iastore, 1) := by decide +kernel
theorem dX2_insertSide_84 : decode cX2_insertSide 84 = .ok (.aload_n 0, 1) := by decide +kernel
theorem dX2_insertSide_85 : decode cX2_insertSide 85 = .ok (.getfield 15, 3) := by decide +kernel
theorem dX2_insertSide_88 : decode cX2_insertSide 88 = .ok (.iload 5, 2) := by decide +kernel
theorem dX2_insertSide_90 : decode cX2_insertSide 90 = .ok (.iload_n 2, 1) := by decide +kernel
theorem dX2_insertSide_91 : decode cX2_insertSide 91 = .ok (.iastore, 1) := by decide +kernel
theorem dX2_insertSide_92 : decode cX2_insertSide 92 = .ok (.aload_n 0, 1) := by decide +kernel
theorem dX2_insertSide_93 : decode cX2_insertSide 93 = .ok (.getfield 18, 3) := by decide +kernel
theorem dX2_insertSide_96 : decode cX2_insertSide 96 = .ok (.iload 5, 2) := by decide +kernel
theorem dX2_insertSide_98 : decode cX2_insertSide 98 = .ok (.iload_n 3, 1) := by decide +kernel
theorem dX2_insertSide_99 : decode cX2_insertSide 99 = .ok (.iastore, 1) := by decide +kernel
theorem dX2_insertSide_100 : decode cX2_insertSide 100 = .ok (.aload_n 0, 1) := by decide +kernel
theorem dX2_insertSide_101 : decode cX2_insertSide 101 = .ok (.getfield 21, 3) := by decide +kernel
theorem dX2_insertSide_104 : decode cX2_insertSide 104 = .ok (.iload 5, 2) := by decide +kernel
theorem dX2_insertSide_106 : decode cX2_insertSide 106 = .ok (.iload 4, 2) := by decide +kernel
theorem dX2_insertSide_108 : decode cX2_insertSide 108 = .ok (.iastore, 1) := by decide +kernel
theorem dX2_insertSide_109 : decode cX2_insertSide 109 = .ok (.aload_n 0, 1) := by decide +kernel
theorem dX2_insertSide_110 : decode cX2_insertSide 110 = .ok (.dup, 1) := by decide +kernel
theorem dX2_insertSide_111 : decode cX2_insertSide 111 = .ok (.getfield 28, 3) := by decide +kernel
theorem dX2_insertSide_114 : decode cX2_insertSide 114 = .ok (.iconst 1, 1) := by decide +kernel
theorem dX2_insertSide_115 : decode cX2_insertSide 115 = .ok (.iadd, 1) := by decide +kernel
theorem dX2_insertSide_116 : decode cX2_insertSide 116 = .ok (.putfield 28, 3) := by decide +kernel
theorem dX2_insertSide_119 : decode cX2_insertSide 119 = .ok (.return_, 1) := by decide +kernel
theorem dX2_copyRow_0 : decode cX2_copyRow 0 = .ok (.aload_n 0, 1) := by decide +kernel
theorem dX2_copyRow_1 : decode cX2_copyRow 1 = .ok (.getfield 11, 3) := by decide +kernel
theorem dX2_copyRow_4 : decode cX2_copyRow 4 = .ok (.iload_n 2, 1) := by decide +kernel
theorem dX2_copyRow_5 : decode cX2_copyRow 5 = .ok (.aload_n 0, 1) := by decide +kernel
theorem dX2_copyRow_6 : decode cX2_copyRow 6 = .ok (.getfield 11, 3) := by decide +kernel
theorem dX2_copyRow_9 : decode cX2_copyRow 9 = .ok (.iload_n 1, 1) := by decide +kernel
theorem dX2_copyRow_10 : decode cX2_copyRow 10 = .ok (.iaload, 1) := by decide +kernel
theorem dX2_copyRow_11 : decode cX2_copyRow 11 = .ok (.iastore, 1) := by decide +kernel
theorem dX2_copyRow_12 : decode cX2_copyRow 12 = .ok (.aload_n 0, 1) := by decide +kernel
theorem dX2_copyRow_13 : decode cX2_copyRow 13 = .ok (.getfield 15, 3) := by decide +kernel
theorem dX2_copyRow_16 : decode cX2_copyRow 16 = .ok (.iload_n 2, 1) := by decide +kernel
theorem dX2_copyRow_17 : decode cX2_copyRow 17 = .ok (.aload_n 0, 1) := by decide +kernel
theorem dX2_copyRow_18 : decode cX2_copyRow 18 = .ok (.getfield 15, 3) := by decide +kernel
theorem dX2_copyRow_21 : decode cX2_copyRow 21 = .ok (.iload_n 1, 1) := by decide +kernel
theorem dX2_copyRow_22 : decode cX2_copyRow 22 = .ok (.iaload, 1) := by decide +kernel
theorem dX2_copyRow_23 : decode cX2_copyRow 23 = .ok (.iastore, 1) := by decide +kernel
theorem dX2_copyRow_24 : decode cX2_copyRow 24 = .ok (.aload_n 0, 1) := by decide +kernel
theorem dX2_copyRow_25 : decode cX2_copyRow 25 = .ok (.getfield 18, 3) := by decide +kernel
theorem dX2_copyRow_28 : decode cX2_copyRow 28 = .ok (.iload_n 2, 1) := by decide +kernel
theorem dX2_copyRow_29 : decode cX2_copyRow 29 = .ok (.aload_n 0, 1) := by decide +kernel
theorem dX2_copyRow_30 : decode cX2_copyRow 30 = .ok (.getfield 18, 3) := by decide +kernel
theorem dX2_copyRow_33 : decode cX2_copyRow 33 = .ok (.iload_n 1, 1) := by decide +kernel
theorem dX2_copyRow_34 : decode cX2_copyRow 34 = .ok (.iaload, 1) := by decide +kernel
theorem dX2_copyRow_35 : decode cX2_copyRow 35 = .ok (.iastore, 1) := by decide +kernel
theorem dX2_copyRow_36 : decode cX2_copyRow 36 = .ok (.aload_n 0, 1) := by decide +kernel
theorem dX2_copyRow_37 : decode cX2_copyRow 37 = .ok (.getfield 21, 3) := by decide +kernel
theorem dX2_copyRow_40 : decode cX2_copyRow 40 = .ok (.iload_n 2, 1) := by decide +kernel
theorem dX2_copyRow_41 : decode cX2_copyRow 41 = .ok (.aload_n 0, 1) := by decide +kernel
theorem dX2_copyRow_42 : decode cX2_copyRow 42 = .ok (.getfield 21, 3) := by decide +kernel
theorem dX2_copyRow_45 : decode cX2_copyRow 45 = .ok (.iload_n 1, 1) := by decide +kernel
theorem dX2_copyRow_46 : decode cX2_copyRow 46 = .ok (.iaload, 1) := by decide +kernel
theorem dX2_copyRow_47 : decode cX2_copyRow 47 = .ok (.iastore, 1) := by decide +kernel
theorem dX2_copyRow_48 : decode cX2_copyRow 48 = .ok (.return_, 1) := by decide +kernel
theorem dX2_mergeSides_0 : decode cX2_mergeSides 0 = .ok (.iconst (-1), 1) := by decide +kernel
theorem dX2_mergeSides_1 : decode cX2_mergeSides 1 = .ok (.istore_n 1, 1) := by decide +kernel
theorem dX2_mergeSides_2 : decode cX2_mergeSides 2 = .ok (.iconst 0, 1) := by decide +kernel
theorem dX2_mergeSides_3 : decode cX2_mergeSides 3 = .ok (.istore_n 2, 1) := by decide +kernel
theorem dX2_mergeSides_4 : decode cX2_mergeSides 4 = .ok (.iload_n 2, 1) := by decide +kernel
theorem dX2_mergeSides_5 : decode cX2_mergeSides 5 = .ok (.aload_n 0, 1) := by decide +kernel
theorem dX2_mergeSides_6 : decode cX2_mergeSides 6 = .ok (.getfield 28, 3) := by decide +kernel
theorem dX2_mergeSides_9 : decode cX2_mergeSides 9 = .ok (.if_icmp .ge 91, 3) := by decide +kernel
theorem dX2_mergeSides_12 : decode cX2_mergeSides 12 = .ok (.iload_n 1, 1) := by decide +kernel
theorem dX2_mergeSides_13 : decode cX2_mergeSides 13 = .ok (.ifCond .lt 72, 3) := by decide +kernel
theorem dX2_mergeSides_16 : decode cX2_mergeSides 16 = .ok (.aload_n 0, 1) := by decide +kernel
theorem dX2_mergeSides_17 : decode cX2_mergeSides 17 = .ok (.getfield 11, 3) := by decide +kernel
theorem dX2_mergeSides_20 : decode cX2_mergeSides 20 = .ok (.iload_n 2, 1) := by decide +kernel
theorem dX2_mergeSides_21 : decode cX2_mergeSides 21 = .ok (.iaload, 1) := by decide +kernel
theorem dX2_mergeSides_22 : decode cX2_mergeSides 22 = .ok (.aload_n 0, 1) := by decide +kernel
theorem dX2_mergeSides_23 : decode cX2_mergeSides 23 = .ok (.getfield 11, 3) := by decide +kernel
theorem dX2_mergeSides_26 : decode cX2_mergeSides 26 = .ok (.iload_n 1, 1) := by decide +kernel
theorem dX2_mergeSides_27 : decode cX2_mergeSides 27 = .ok (.iaload, 1) := by decide +kernel
theorem dX2_mergeSides_28 : decode cX2_mergeSides 28 = .ok (.if_icmp .ne 57, 3) := by decide +kernel
theorem dX2_mergeSides_31 : decode cX2_mergeSides 31 = .ok (.aload_n 0, 1) := by decide +kernel
theorem dX2_mergeSides_32 : decode cX2_mergeSides 32 = .ok (.getfield 15, 3) := by decide +kernel
theorem dX2_mergeSides_35 : decode cX2_mergeSides 35 = .ok (.iload_n 2, 1) := by decide +kernel
theorem dX2_mergeSides_36 : decode cX2_mergeSides 36 = .ok (.iaload, 1) := by decide +kernel
theorem dX2_mergeSides_37 : decode cX2_mergeSides 37 = .ok (.aload_n 0, 1) := by decide +kernel
theorem dX2_mergeSides_38 : decode cX2_mergeSides 38 = .ok (.getfield 18, 3) := by decide +kernel
theorem dX2_mergeSides_41 : decode cX2_mergeSides 41 = .ok (.iload_n 1, 1) := by decide +kernel
theorem dX2_mergeSides_42 : decode cX2_mergeSides 42 = .ok (.iaload, 1) := by decide +kernel
theorem dX2_mergeSides_43 : decode cX2_mergeSides 43 = .ok (.if_icmp .gt 42, 3) := by decide +kernel
theorem dX2_mergeSides_46 : decode cX2_mergeSides 46 = .ok (.aload_n 0, 1) := by decide +kernel
theorem dX2_mergeSides_47 : decode cX2_mergeSides 47 = .ok (.getfield 18, 3) := by decide +kernel
theorem dX2_mergeSides_50 : decode cX2_mergeSides 50 = .ok (.iload_n 1, 1) := by decide +kernel
theorem dX2_mergeSides_51 : decode cX2_mergeSides 51 = .ok (.aload_n 0, 1) := by decide +kernel
theorem dX2_mergeSides_52 : decode cX2_mergeSides 52 = .ok (.getfield 18, 3) := by decide +kernel
theorem dX2_mergeSides_55 : decode cX2_mergeSides 55 = .ok (.iload_n 1, 1) := by decide +kernel
theorem dX2_mergeSides_56 : decode cX2_mergeSides 56 = .ok (.iaload, 1) := by decide +kernel
theorem dX2_mergeSides_57 : decode cX2_mergeSides 57 = .ok (.aload_n 0, 1) := by decide +kernel
theorem dX2_mergeSides_58 : decode cX2_mergeSides 58 = .ok (.getfield 18, 3) := by decide +kernel
theorem dX2_mergeSides_61 : decode cX2_mergeSides 61 = .ok (.iload_n 2, 1) := by decide +kernel
theorem dX2_mergeSides_62 : decode cX2_mergeSides 62 = .ok (.iaload, 1) := by decide +kernel
theorem dX2_mergeSides_63 : decode cX2_mergeSides 63 = .ok (.invokestatic 61, 3) := by decide +kernel
theorem dX2_mergeSides_66 : decode cX2_mergeSides 66 = .ok (.iastore, 1) := by decide +kernel
theorem dX2_mergeSides_67 : decode cX2_mergeSides 67 = .ok (.aload_n 0, 1) := by decide +kernel
theorem dX2_mergeSides_68 : decode cX2_mergeSides 68 = .ok (.getfield 21, 3) := by decide +kernel
theorem dX2_mergeSides_71 : decode cX2_mergeSides 71 = .ok (.iload_n 1, 1) := by decide +kernel
theorem dX2_mergeSides_72 : decode cX2_mergeSides 72 = .ok (.dup2, 1) := by decide +kernel
theorem dX2_mergeSides_73 : decode cX2_mergeSides 73 = .ok (.iaload, 1) := by decide +kernel
theorem dX2_mergeSides_74 : decode cX2_mergeSides 74 = .ok (.aload_n 0, 1) := by decide +kernel
theorem dX2_mergeSides_75 : decode cX2_mergeSides 75 = .ok (.getfield 21, 3) := by decide +kernel
theorem dX2_mergeSides_78 : decode cX2_mergeSides 78 = .ok (.iload_n 2, 1) := by decide +kernel
theorem dX2_mergeSides_79 : decode cX2_mergeSides 79 = .ok (.iaload, 1) := by decide +kernel
theorem dX2_mergeSides_80 : decode cX2_mergeSides 80 = .ok (.iadd, 1) := by decide +kernel
theorem dX2_mergeSides_81 : decode cX2_mergeSides 81 = .ok (.iastore, 1) := by decide +kernel
theorem dX2_mergeSides_82 : decode cX2_mergeSides 82 = .ok (.goto 12, 3) := by decide +kernel
theorem dX2_mergeSides_85 : decode cX2_mergeSides 85 = .ok (.iinc 1 1, 3) := by decide +kernel
theorem dX2_mergeSides_88 : decode cX2_mergeSides 88 = .ok (.aload_n 0, 1) := by decide +kernel
theorem dX2_mergeSides_89 : decode cX2_mergeSides 89 = .ok (.iload_n 2, 1) := by decide +kernel
theorem dX2_mergeSides_90 : decode cX2_mergeSides 90 = .ok (.iload_n 1, 1) := by decide +kernel
theorem dX2_mergeSides_91 : decode cX2_mergeSides 91 = .ok (.invokevirtual 57, 3) := by decide +kernel
theorem dX2_mergeSides_94 : decode cX2_mergeSides 94 = .ok (.iinc 2 1, 3) := by decide +kernel
theorem dX2_mergeSides_97 : decode cX2_mergeSides 97 = .ok (.goto (-93), 3) := by decide +kernel
theorem dX2_mergeSides_100 : decode cX2_mergeSides 100 = .ok (.aload_n 0, 1) := by decide +kernel
theorem dX2_mergeSides_101 : decode cX2_mergeSides 101 = .ok (.iload_n 1, 1) := by decide +kernel
theorem dX2_mergeSides_102 : decode cX2_mergeSides 102 = .ok (.iconst 1, 1) := by decide +kernel
theorem dX2_mergeSides_103 : decode cX2_mergeSides 103 = .ok (.iadd, 1) := by decide +kernel
theorem dX2_mergeSides_104 : decode cX2_mergeSides 104 = .ok (.putfield 28, 3) := by decide +kernel
theorem dX2_mergeSides_107 : decode cX2_mergeSides 107 = .ok (.return_, 1) := by decide +kernel
theorem dX2_rowOf_0 : decode cX2_rowOf 0 = .ok (.iconst 0, 1) := by decide +kernel
theorem dX2_rowOf_1 : decode cX2_rowOf 1 = .ok (.istore_n 3, 1) := by decide +kernel
theorem dX2_rowOf_2 : decode cX2_rowOf 2 = .ok (.iload_n 3, 1) := by decide +kernel
theorem dX2_rowOf_3 : decode cX2_rowOf 3 = .ok (.aload_n 0, 1) := by decide +kernel
theorem dX2_rowOf_4 : decode cX2_rowOf 4 = .ok (.getfield 28, 3) := by decide +kernel
theorem dX2_rowOf_7 : decode cX2_rowOf 7 = .ok (.if_icmp .ge 41, 3) := by decide +kernel
theorem dX2_rowOf_10 : decode cX2_rowOf 10 = .ok (.aload_n 0, 1) := by decide +kernel
theorem dX2_rowOf_11 : decode cX2_rowOf 11 = .ok (.getfield 11, 3) := by decide +kernel
theorem dX2_rowOf_14 : decode cX2_rowOf 14 = .ok (.iload_n 3, 1) := by decide +kernel
theorem dX2_rowOf_15 : decode cX2_rowOf 15 = .ok (.iaload, 1) := by decide +kernel
theorem dX2_rowOf_16 : decode cX2_rowOf 16 = .ok (.iload_n 1, 1) := by decide +kernel
theorem dX2_rowOf_17 : decode cX2_rowOf 17 = .ok (.if_icmp .ne 25, 3) := by decide +kernel
theorem dX2_rowOf_20 : decode cX2_rowOf 20 = .ok (.aload_n 0, 1) := by decide +kernel
theorem dX2_rowOf_21 : decode cX2_rowOf 21 = .ok (.getfield 15, 3) := by decide +kernel
theorem dX2_rowOf_24 : decode cX2_rowOf 24 = .ok (.iload_n 3, 1) := by decide +kernel
theorem dX2_rowOf_25 : decode cX2_rowOf 25 = .ok (.iaload, 1) := by decide +kernel
theorem dX2_rowOf_26 : decode cX2_rowOf 26 = .ok (.iload_n 2, 1) := by decide +kernel
theorem dX2_rowOf_27 : decode cX2_rowOf 27 = .ok (.if_icmp .gt 15, 3) := by decide +kernel
theorem dX2_rowOf_30 : decode cX2_rowOf 30 = .ok (.iload_n 2, 1) := by decide +kernel
theorem dX2_rowOf_31 : decode cX2_rowOf 31 = .ok (.aload_n 0, 1) := by decide +kernel
theorem dX2_rowOf_32 : decode cX2_rowOf 32 = .ok (.getfield 18, 3) := by decide +kernel
theorem dX2_rowOf_35 : decode cX2_rowOf 35 = .ok (.iload_n 3, 1) := by decide +kernel
theorem dX2_rowOf_36 : decode cX2_rowOf 36 = .ok (.iaload, 1) := by decide +kernel
theorem dX2_rowOf_37 : decode cX2_rowOf 37 = .ok (.if_icmp .ge 5, 3) := by decide +kernel
theorem dX2_rowOf_40 : decode cX2_rowOf 40 = .ok (.iload_n 3, 1) := by decide +kernel
theorem dX2_rowOf_41 : decode cX2_rowOf 41 = .ok (.ireturn, 1) := by decide +kernel
theorem dX2_rowOf_42 : decode cX2_rowOf 42 = .ok (.iinc 3 1, 3) := by decide +kernel
theorem dX2_rowOf_45 : decode cX2_rowOf 45 = .ok (.goto (-43), 3) := by decide +kernel
theorem dX2_rowOf_48 : decode cX2_rowOf 48 = .ok (.iconst (-1), 1) := by decide +kernel
theorem dX2_rowOf_49 : decode cX2_rowOf 49 = .ok (.ireturn, 1) := by decide +kernel
theorem dX3_init_0 : decode cX3_init 0 = .ok (.aload_n 0, 1) := by decide +kernel
theorem dX3_init_1 : decode cX3_init 1 = .ok (.invokespecial 1, 3) := by decide +kernel
theorem dX3_init_4 : decode cX3_init 4 = .ok (.aload_n 0, 1) := by decide +kernel
theorem dX3_init_5 : decode cX3_init 5 = .ok (.iload_n 1, 1) := by decide +kernel
theorem dX3_init_6 : decode cX3_init 6 = .ok (.putfield 7, 3) := by decide +kernel
theorem dX3_init_9 : decode cX3_init 9 = .ok (.aload_n 0, 1) := by decide +kernel
theorem dX3_init_10 : decode cX3_init 10 = .ok (.iload_n 2, 1) := by decide +kernel
theorem dX3_init_11 : decode cX3_init 11 = .ok (.putfield 13, 3) := by decide +kernel
theorem dX3_init_14 : decode cX3_init 14 = .ok (.aload_n 0, 1) := by decide +kernel
theorem dX3_init_15 : decode cX3_init 15 = .ok (.iload_n 1, 1) := by decide +kernel
theorem dX3_init_16 : decode cX3_init 16 = .ok (.newarray .int, 2) := by decide +kernel
theorem dX3_init_18 : decode cX3_init 18 = .ok (.putfield 16, 3) := by decide +kernel
theorem dX3_init_21 : decode cX3_init 21 = .ok (.aload_n 0, 1) := by decide +kernel
theorem dX3_init_22 : decode cX3_init 22 = .ok (.iload_n 2, 1) := by decide +kernel
theorem dX3_init_23 : decode cX3_init 23 = .ok (.newarray .int, 2) := by decide +kernel
theorem dX3_init_25 : decode cX3_init 25 = .ok (.putfield 20, 3) := by decide +kernel
theorem dX3_init_28 : decode cX3_init 28 = .ok (.return_, 1) := by decide +kernel
theorem dX4_init_0 : decode cX4_init 0 = .ok (.aload_n 0, 1) := by decide +kernel
theorem dX4_init_1 : decode cX4_init 1 = .ok (.invokespecial 3, 3) := by decide +kernel
theorem dX4_init_4 : decode cX4_init 4 = .ok (.aload_n 0, 1) := by decide +kernel
theorem dX4_init_5 : decode cX4_init 5 = .ok (.bipush 15, 2) := by decide +kernel
theorem dX4_init_7 : decode cX4_init 7 = .ok (.anewarray 9, 3) := by decide +kernel
theorem dX4_init_10 : decode cX4_init 10 = .ok (.putfield 11, 3) := by decide +kernel
theorem dX4_init_13 : decode cX4_init 13 = .ok (.aload_n 0, 1) := by decide +kernel
theorem dX4_init_14 : decode cX4_init 14 = .ok (.bipush 14, 2) := by decide +kernel
theorem dX4_init_16 : decode cX4_init 16 = .ok (.newarray .int, 2) := by decide +kernel
theorem dX4_init_18 : decode cX4_init 18 = .ok (.putfield 17, 3) := by decide +kernel
theorem dX4_init_21 : decode cX4_init 21 = .ok (.aload_n 0, 1) := by decide +kernel
theorem dX4_init_22 : decode cX4_init 22 = .ok (.bipush 14, 2) := by decide +kernel
theorem dX4_init_24 : decode cX4_init 24 = .ok (.newarray .int, 2) := by decide +kernel
theorem dX4_init_26 : decode cX4_init 26 = .ok (.putfield 21, 3) := by decide +kernel
theorem dX4_init_29 : decode cX4_init 29 = .ok (.aload_n 0, 1) := by decide +kernel
theorem dX4_init_30 : decode cX4_init 30 = .ok (.bipush 14, 2) := by decide +kernel
theorem dX4_init_32 : decode cX4_init 32 = .ok (.newarray .boolean, 2) := by decide +kernel
theorem dX4_init_34 : decode cX4_init 34 = .ok (.putfield 24, 3) := by decide +kernel
theorem dX4_init_37 : decode cX4_init 37 = .ok (.iconst 0, 1) := by decide +kernel
theorem dX4_init_38 : decode cX4_init 38 = .ok (.istore_n 1, 1) := by decide +kernel
theorem dX4_init_39 : decode cX4_init 39 = .ok (.iload_n 1, 1) := by decide +kernel
theorem dX4_init_40 : decode cX4_init 40 = .ok (.aload_n 0, 1) := by decide +kernel
theorem dX4_init_41 : decode cX4_init 41 = .ok (.getfield 11, 3) := by decide +kernel
theorem dX4_init_44 : decode cX4_init 44 = .ok (.arraylength, 1) := by decide +kernel
theorem dX4_init_45 : decode cX4_init 45 = .ok (.if_icmp .ge 24, 3) := by decide +kernel
theorem dX4_init_48 : decode cX4_init 48 = .ok (.aload_n 0, 1) := by decide +kernel
theorem dX4_init_49 : decode cX4_init 49 = .ok (.getfield 11, 3) := by decide +kernel
theorem dX4_init_52 : decode cX4_init 52 = .ok (.iload_n 1, 1) := by decide +kernel
theorem dX4_init_53 : decode cX4_init 53 = .ok (.new 9, 3) := by decide +kernel
theorem dX4_init_56 : decode cX4_init 56 = .ok (.dup, 1) := by decide +kernel
theorem dX4_init_57 : decode cX4_init 57 = .ok (.bipush 14, 2) := by decide +kernel
theorem dX4_init_59 : decode cX4_init 59 = .ok (.invokespecial 28, 3) := by decide +kernel
theorem dX4_init_62 : decode cX4_init 62 = .ok (.aastore, 1) := by decide +kernel
theorem dX4_init_63 : decode cX4_init 63 = .ok (.iinc 1 1, 3) := by decide +kernel
theorem dX4_init_66 : decode cX4_init 66 = .ok (.goto (-27), 3) := by decide +kernel
theorem dX4_init_69 : decode cX4_init 69 = .ok (.return_, 1) := by decide +kernel
theorem dX4_search_0 : decode cX4_search 0 = .ok (.aload_n 0, 1) := by decide +kernel
theorem dX4_search_1 : decode cX4_search 1 = .ok (.aload_n 1, 1) := by decide +kernel
theorem dX4_search_2 : decode cX4_search 2 = .ok (.invokevirtual 31, 3) := by decide +kernel
theorem dX4_search_5 : decode cX4_search 5 = .ok (.aload_n 0, 1) := by decide +kernel
theorem dX4_search_6 : decode cX4_search 6 = .ok (.getfield 11, 3) := by decide +kernel
theorem dX4_search_9 : decode cX4_search 9 = .ok (.iconst 0, 1) := by decide +kernel
theorem dX4_search_10 : decode cX4_search 10 = .ok (.aaload, 1) := by decide +kernel
theorem dX4_search_11 : decode cX4_search 11 = .ok (.aload_n 1, 1) := by decide +kernel
theorem dX4_search_12 : decode cX4_search 12 = .ok (.getfield 35, 3) := by decide +kernel
theorem dX4_search_15 : decode cX4_search 15 = .ok (.invokevirtual 41, 3) := by decide +kernel
theorem dX4_search_18 : decode cX4_search 18 = .ok (.iconst 0, 1) := by decide +kernel
theorem dX4_search_19 : decode cX4_search 19 = .ok (.istore 4, 2) := by decide +kernel
theorem dX4_search_21 : decode cX4_search 21 = .ok (.iconst 0, 1) := by decide +kernel
theorem dX4_search_22 : decode cX4_search 22 = .ok (.istore 5, 2) := by decide +kernel
theorem dX4_search_24 : decode cX4_search 24 = .ok (.iconst 0, 1) := by decide +kernel
theorem dX4_search_25 : decode cX4_search 25 = .ok (.istore 6, 2) := by decide +kernel
theorem dX4_search_27 : decode cX4_search 27 = .ok (.iload 6, 2) := by decide +kernel
theorem dX4_search_29 : decode cX4_search 29 = .ok (.ldc 44, 2) := by decide +kernel
theorem dX4_search_31 : decode cX4_search 31 = .ok (.if_icmp .ge 109, 3) := by decide +kernel
theorem dX4_search_34 : decode cX4_search 34 = .ok (.iload 4, 2) := by decide +kernel
theorem dX4_search_36 : decode cX4_search 36 = .ok (.aload_n 0, 1) := by decide +kernel
theorem dX4_search_37 : decode cX4_search 37 = .ok (.getfield 45, 3) := by decide +kernel
theorem dX4_search_40 : decode cX4_search 40 = .ok (.if_icmp .ge 100, 3) := by decide +kernel
theorem dX4_search_43 : decode cX4_search 43 = .ok (.aload_n 0, 1) := by decide +kernel
theorem dX4_search_44 : decode cX4_search 44 = .ok (.aload_n 1, 1) := by decide +kernel
theorem dX4_search_45 : decode cX4_search 45 = .ok (.aload_n 2, 1) := by decide +kernel
theorem dX4_search_46 : decode cX4_search 46 = .ok (.iload 4, 2) := by decide +kernel
theorem dX4_search_48 : decode cX4_search 48 = .ok (.iload 5, 2) := by decide +kernel
theorem dX4_search_50 : decode cX4_search 50 = .ok (.invokevirtual 48, 3) := by decide +kernel
theorem dX4_search_53 : decode cX4_search 53 = .ok (.istore 7, 2) := by decide +kernel
theorem dX4_search_55 : decode cX4_search 55 = .ok (.iload 7, 2) := by decide +kernel
theorem dX4_search_57 : decode cX4_search 57 = .ok (.iconst (-1), 1) := by decide +kernel
theorem dX4_search_58 : decode cX4_search 58 = .ok (.if_icmp .eq 42, 3) := by decide +kernel
theorem dX4_search_61 : decode cX4_search 61 = .ok (.aload_n 1, 1) := by decide +kernel
theorem dX4_search_62 : decode cX4_search 62 = .ok (.getfield 52, 3) := by decide +kernel
theorem dX4_search_65 : decode cX4_search 65 = .ok (.sipush 20000, 3) := by decide +kernel
theorem dX4_search_68 : decode cX4_search 68 = .ok (.if_icmp .lt 5, 3) := by decide +kernel
theorem dX4_search_71 : decode cX4_search 71 = .ok (.iconst 0, 1) := by decide +kernel
theorem dX4_search_72 : decode cX4_search 72 = .ok (.ireturn, 1) := by decide +kernel
theorem dX4_search_73 : decode cX4_search 73 = .ok (.aload_n 1, 1) := by decide +kernel
theorem dX4_search_74 : decode cX4_search 74 = .ok (.dup, 1) := by decide +kernel
theorem dX4_search_75 : decode cX4_search 75 = .ok (.getfield 52, 3) := by decide +kernel
theorem dX4_search_78 : decode cX4_search 78 = .ok (.iconst 1, 1) := by decide +kernel
theorem dX4_search_79 : decode cX4_search 79 = .ok (.iadd, 1) := by decide +kernel
theorem dX4_search_80 : decode cX4_search 80 = .ok (.putfield 52, 3) := by decide +kernel
theorem dX4_search_83 : decode cX4_search 83 = .ok (.aload_n 0, 1) := by decide +kernel
theorem dX4_search_84 : decode cX4_search 84 = .ok (.iload 7, 2) := by decide +kernel
theorem dX4_search_86 : decode cX4_search 86 = .ok (.iload 4, 2) := by decide +kernel
theorem dX4_search_88 : decode cX4_search 88 = .ok (.invokevirtual 55, 3) := by decide +kernel
theorem dX4_search_91 : decode cX4_search 91 = .ok (.iinc 4 1, 3) := by decide +kernel
theorem dX4_search_94 : decode cX4_search 94 = .ok (.iconst 0, 1) := by decide +kernel
theorem dX4_search_95 : decode cX4_search 95 = .ok (.istore 5, 2) := by decide +kernel
theorem dX4_search_97 : decode cX4_search 97 = .ok (.goto 37, 3) := by decide +kernel
theorem dX4_search_100 : decode cX4_search 100 = .ok (.iload 4, 2) := by decide +kernel
theorem dX4_search_102 : decode cX4_search 102 = .ok (.ifCond .ne 5, 3) := by decide +kernel
theorem dX4_search_105 : decode cX4_search 105 = .ok (.iconst 0, 1) := by decide +kernel
theorem dX4_search_106 : decode cX4_search 106 = .ok (.ireturn, 1) := by decide +kernel
theorem dX4_search_107 : decode cX4_search 107 = .ok (.iinc 4 (-1), 3) := by decide +kernel
theorem dX4_search_110 : decode cX4_search 110 = .ok (.aload_n 0, 1) := by decide +kernel
theorem dX4_search_111 : decode cX4_search 111 = .ok (.getfield 24, 3) := by decide +kernel
theorem dX4_search_114 : decode cX4_search 114 = .ok (.aload_n 0, 1) := by decide +kernel
theorem dX4_search_115 : decode cX4_search 115 = .ok (.getfield 21, 3) := by decide +kernel
theorem dX4_search_118 : decode cX4_search 118 = .ok (.iload 4, 2) := by decide +kernel
theorem dX4_search_120 : decode cX4_search 120 = .ok (.iaload, 1) := by decide +kernel
theorem dX4_search_121 : decode cX4_search 121 = .ok (.iconst 0, 1) := by decide +kernel
theorem dX4_search_122 : decode cX4_search 122 = .ok (.bastore, 1) := by decide +kernel
theorem dX4_search_123 : decode cX4_search 123 = .ok (.aload_n 0, 1) := by decide +kernel
theorem dX4_search_124 : decode cX4_search 124 = .ok (.getfield 21, 3) := by decide +kernel
theorem dX4_search_127 : decode cX4_search 127 = .ok (.iload 4, 2) := by decide +kernel
theorem dX4_search_129 : decode cX4_search 129 = .ok (.iaload, 1) := by decide +kernel
theorem dX4_search_130 : decode cX4_search 130 = .ok (.iconst 1, 1) := by decide +kernel
theorem dX4_search_131 : decode cX4_search 131 = .ok (.iadd, 1) := by decide +kernel
theorem dX4_search_132 : decode cX4_search 132 = .ok (.istore 5, 2) := by decide +kernel
theorem dX4_search_134 : decode cX4_search 134 = .ok (.iinc 6 1, 3) := by decide +kernel
theorem dX4_search_137 : decode cX4_search 137 = .ok (.goto (-110), 3) := by decide +kernel
theorem dX4_search_140 : decode cX4_search 140 = .ok (.iload 4, 2) := by decide +kernel
theorem dX4_search_142 : decode cX4_search 142 = .ok (.aload_n 0, 1) := by decide +kernel
theorem dX4_search_143 : decode cX4_search 143 = .ok (.getfield 45, 3) := by decide +kernel
theorem dX4_search_146 : decode cX4_search 146 = .ok (.if_icmp .ge 5, 3) := by decide +kernel
theorem dX4_search_149 : decode cX4_search 149 = .ok (.iconst 0, 1) := by decide +kernel
theorem dX4_search_150 : decode cX4_search 150 = .ok (.ireturn, 1) := by decide +kernel
theorem dX4_search_151 : decode cX4_search 151 = .ok (.aload_n 0, 1) := by decide +kernel
theorem dX4_search_152 : decode cX4_search 152 = .ok (.aload_n 1, 1) := by decide +kernel
theorem dX4_search_153 : decode cX4_search 153 = .ok (.aload_n 3, 1) := by decide +kernel
theorem dX4_search_154 : decode cX4_search 154 = .ok (.invokevirtual 59, 3) := by decide +kernel
theorem dX4_search_157 : decode cX4_search 157 = .ok (.iconst 1, 1) := by decide +kernel
theorem dX4_search_158 : decode cX4_search 158 = .ok (.ireturn, 1) := by decide +kernel
theorem dX4_takeSizes_0 : decode cX4_takeSizes 0 = .ok (.aload_n 0, 1) := by decide +kernel
theorem dX4_takeSizes_1 : decode cX4_takeSizes 1 = .ok (.iconst 0, 1) := by decide +kernel
theorem dX4_takeSizes_2 : decode cX4_takeSizes 2 = .ok (.putfield 45, 3) := by decide +kernel
theorem dX4_takeSizes_5 : decode cX4_takeSizes 5 = .ok (.iconst 0, 1) := by decide +kernel
theorem dX4_takeSizes_6 : decode cX4_takeSizes 6 = .ok (.istore_n 2, 1) := by decide +kernel
theorem dX4_takeSizes_7 : decode cX4_takeSizes 7 = .ok (.iload_n 2, 1) := by decide +kernel
theorem dX4_takeSizes_8 : decode cX4_takeSizes 8 = .ok (.aload_n 1, 1) := by decide +kernel
theorem dX4_takeSizes_9 : decode cX4_takeSizes 9 = .ok (.getfield 63, 3) := by decide +kernel
theorem dX4_takeSizes_12 : decode cX4_takeSizes 12 = .ok (.if_icmp .ge 54, 3) := by decide +kernel
theorem dX4_takeSizes_15 : decode cX4_takeSizes 15 = .ok (.aload_n 0, 1) := by decide +kernel
theorem dX4_takeSizes_16 : decode cX4_takeSizes 16 = .ok (.getfield 17, 3) := by decide +kernel
theorem dX4_takeSizes_19 : decode cX4_takeSizes 19 = .ok (.iload_n 2, 1) := by decide +kernel
theorem dX4_takeSizes_20 : decode cX4_takeSizes 20 = .ok (.aload_n 1, 1) := by decide +kernel
