def RX0 : String := "PathHouse$Finder"
def TX0 : u_T := fun k => match k with
  | 0 => ("PathHouse$Finder", "rows", "[LPathHouse$Row;", true)
  | 1 => ("PathHouse$Finder", "root", "LPathHouse$Node;", false)
  | 2 => ("PathHouse$Finder", "result", "LPathHouse$Row;", false)
  | 3 => ("PathHouse$Finder", "looks", "I", false)
  | _ => ("PathHouse$Finder", "stopped", "I", false)
def tyX0 : Nat → FieldType := fun k => match k with
  | 0 => .array (.object "PathHouse$Row")
  | 1 => .object "PathHouse$Node"
  | 2 => .object "PathHouse$Row"
  | 3 => .int
  | _ => .int
theorem nmX0 : ∀ a, a < 5 → ∀ b, b < 5 → a ≠ b → (TX0 a).2.1 ≠ (TX0 b).2.1 := by decide +kernel
theorem tyX0_ok : ∀ k, k < 5 → parseFieldDescriptor (TX0 k).2.2.1 = some (tyX0 k) := by decide +kernel
abbrev cX0_init : ByteArray := prog_2_method_1_code
def yX0_init : MethodName := ⟨RX0, "<init>", "()V"⟩
abbrev cX0_forget : ByteArray := prog_2_method_2_code
def yX0_forget : MethodName := ⟨RX0, "forget", "()V"⟩
abbrev cX0_result : ByteArray := prog_2_method_3_code
def yX0_result : MethodName := ⟨RX0, "result", "(I)LPathHouse$Node;"⟩
abbrev cX0_results : ByteArray := prog_2_method_4_code
def yX0_results : MethodName := ⟨RX0, "results", "()I"⟩
abbrev cX0_run : ByteArray := prog_2_method_5_code
def yX0_run : MethodName := ⟨RX0, "run", "(LPathHouse$Path;LPathHouse$Node;)I"⟩
abbrev cX0_stop : ByteArray := prog_2_method_6_code
def yX0_stop : MethodName := ⟨RX0, "stop", "(I)V"⟩
abbrev cX0_look : ByteArray := prog_2_method_7_code
def yX0_look : MethodName := ⟨RX0, "look", "()V"⟩
abbrev cX0_put : ByteArray := prog_2_method_8_code
def yX0_put : MethodName := ⟨RX0, "put", "(LPathHouse$Node;LPathHouse$Row;)V"⟩
abbrev cX0_emptyRow : ByteArray := prog_2_method_9_code
def yX0_emptyRow : MethodName := ⟨RX0, "emptyRow", "(I)LPathHouse$Row;"⟩
abbrev cX0_select : ByteArray := prog_2_method_10_code
def yX0_select : MethodName := ⟨RX0, "select", "(LPathHouse$Path;LPathHouse$Node;I)LPathHouse$Row;"⟩
abbrev cX0_walk : ByteArray := prog_2_method_11_code
def yX0_walk : MethodName := ⟨RX0, "walk", "(LPathHouse$Segment;LPathHouse$Node;LPathHouse$Row;I)V"⟩
abbrev cX0_ask : ByteArray := prog_2_method_12_code
def yX0_ask : MethodName := ⟨RX0, "ask", "(LPathHouse$Segment;LPathHouse$Node;LPathHouse$Row;I)V"⟩
abbrev cX0_pick : ByteArray := prog_2_method_13_code
def yX0_pick : MethodName := ⟨RX0, "pick", "(LPathHouse$Selector;LPathHouse$Node;LPathHouse$Row;I)V"⟩
abbrev cX0_pickAll : ByteArray := prog_2_method_14_code
def yX0_pickAll : MethodName := ⟨RX0, "pickAll", "(LPathHouse$Node;LPathHouse$Row;)V"⟩
abbrev cX0_pickTrue : ByteArray := prog_2_method_15_code
def yX0_pickTrue : MethodName := ⟨RX0, "pickTrue", "(LPathHouse$Term;LPathHouse$Node;LPathHouse$Row;I)V"⟩
abbrev cX0_pickSlice : ByteArray := prog_2_method_16_code
def yX0_pickSlice : MethodName := ⟨RX0, "pickSlice", "(LPathHouse$Selector;LPathHouse$Node;LPathHouse$Row;)V"⟩
abbrev cX0_bounded : ByteArray := prog_2_method_17_code
def yX0_bounded : MethodName := ⟨RX0, "bounded", "(JIJJ)J"⟩
abbrev cX0_holds : ByteArray := prog_2_method_18_code
def yX0_holds : MethodName := ⟨RX0, "holds", "(LPathHouse$Term;LPathHouse$Node;I)Z"⟩
abbrev cX0_countOf : ByteArray := prog_2_method_19_code
def yX0_countOf : MethodName := ⟨RX0, "countOf", "(LPathHouse$Term;LPathHouse$Node;I)I"⟩
abbrev cX0_onlyOf : ByteArray := prog_2_method_20_code
def yX0_onlyOf : MethodName := ⟨RX0, "onlyOf", "(LPathHouse$Term;LPathHouse$Node;I)LPathHouse$Node;"⟩
abbrev cX0_valueOf : ByteArray := prog_2_method_21_code
def yX0_valueOf : MethodName := ⟨RX0, "valueOf", "(LPathHouse$Term;LPathHouse$Node;I)LPathHouse$Node;"⟩
abbrev cX0_reckoned : ByteArray := prog_2_method_22_code
def yX0_reckoned : MethodName := ⟨RX0, "reckoned", "(ILPathHouse$Node;)LPathHouse$Node;"⟩
abbrev cX0_lengthOf : ByteArray := prog_2_method_23_code
def yX0_lengthOf : MethodName := ⟨RX0, "lengthOf", "(LPathHouse$Node;LPathHouse$Node;)LPathHouse$Node;"⟩
abbrev cX0_compares : ByteArray := prog_2_method_24_code
def yX0_compares : MethodName := ⟨RX0, "compares", "(ILPathHouse$Node;LPathHouse$Node;)Z"⟩
abbrev cX0_isLess : ByteArray := prog_2_method_25_code
def yX0_isLess : MethodName := ⟨RX0, "isLess", "(LPathHouse$Node;LPathHouse$Node;)Z"⟩
abbrev cX0_isEqual : ByteArray := prog_2_method_26_code
def yX0_isEqual : MethodName := ⟨RX0, "isEqual", "(LPathHouse$Node;LPathHouse$Node;I)Z"⟩
def RX1 : String := "PathHouse$Node"
def TX1 : u_T := fun k => match k with
  | 0 => ("PathHouse$Node", "kind", "I", true)
  | 1 => ("PathHouse$Node", "parent", "LPathHouse$Node;", true)
  | 2 => ("PathHouse$Node", "depth", "I", true)
  | 3 => ("PathHouse$Node", "order", "I", true)
  | 4 => ("PathHouse$Node", "kids", "Ljava/util/ArrayList;", true)
  | 5 => ("PathHouse$Node", "whole", "J", false)
  | 6 => ("PathHouse$Node", "chars", "[I", false)
  | 7 => ("PathHouse$Node", "name", "[I", false)
  | 8 => ("PathHouse$Node", "index", "I", false)
  | 9 => ("PathHouse$Node", "last", "I", false)
  | _ => ("PathHouse$Node", "next", "LPathHouse$Node;", false)
def tyX1 : Nat → FieldType := fun k => match k with
  | 0 => .int
  | 1 => .object "PathHouse$Node"
  | 2 => .int
  | 3 => .int
  | 4 => .object "java/util/ArrayList"
  | 5 => .long
  | 6 => .array .int
  | 7 => .array .int
  | 8 => .int
  | 9 => .int
  | _ => .object "PathHouse$Node"
theorem nmX1 : ∀ a, a < 11 → ∀ b, b < 11 → a ≠ b → (TX1 a).2.1 ≠ (TX1 b).2.1 := by decide +kernel
theorem tyX1_ok : ∀ k, k < 11 → parseFieldDescriptor (TX1 k).2.2.1 = some (tyX1 k) := by decide +kernel
abbrev cX1_init : ByteArray := prog_3_method_1_code
def yX1_init : MethodName := ⟨RX1, "<init>", "(ILPathHouse$Node;II)V"⟩
abbrev cX1_kidCount : ByteArray := prog_3_method_2_code
def yX1_kidCount : MethodName := ⟨RX1, "kidCount", "()I"⟩
abbrev cX1_kid : ByteArray := prog_3_method_3_code
def yX1_kid : MethodName := ⟨RX1, "kid", "(J)LPathHouse$Node;"⟩
abbrev cX1_size : ByteArray := prog_3_method_4_code
def yX1_size : MethodName := ⟨RX1, "size", "()I"⟩
abbrev cX1_adopt : ByteArray := prog_3_method_5_code
def yX1_adopt : MethodName := ⟨RX1, "adopt", "(LPathHouse$Node;[I)V"⟩
abbrev cX1_member : ByteArray := prog_3_method_6_code
def yX1_member : MethodName := ⟨RX1, "member", "([I)LPathHouse$Node;"⟩
abbrev cX1_element : ByteArray := prog_3_method_7_code
def yX1_element : MethodName := ⟨RX1, "element", "(J)LPathHouse$Node;"⟩
abbrev cX1_deepest : ByteArray := prog_3_method_8_code
def yX1_deepest : MethodName := ⟨RX1, "deepest", "()I"⟩
def RX2 : String := "PathHouse$Out"
def TX2 : u_T := fun k => match k with
  | 0 => ("PathHouse$Out", "bytes", "[B", true)
  | _ => ("PathHouse$Out", "count", "I", false)
def tyX2 : Nat → FieldType := fun k => match k with
  | 0 => .array .byte
  | _ => .int
theorem nmX2 : ∀ a, a < 2 → ∀ b, b < 2 → a ≠ b → (TX2 a).2.1 ≠ (TX2 b).2.1 := by decide +kernel
theorem tyX2_ok : ∀ k, k < 2 → parseFieldDescriptor (TX2 k).2.2.1 = some (tyX2 k) := by decide +kernel
abbrev cX2_init : ByteArray := prog_4_method_1_code
def yX2_init : MethodName := ⟨RX2, "<init>", "()V"⟩
abbrev cX2_clear : ByteArray := prog_4_method_2_code
def yX2_clear : MethodName := ⟨RX2, "clear", "()V"⟩
abbrev cX2_has : ByteArray := prog_4_method_3_code
def yX2_has : MethodName := ⟨RX2, "has", "(I)Z"⟩
abbrev cX2_get : ByteArray := prog_4_method_4_code
def yX2_get : MethodName := ⟨RX2, "get", "(I)I"⟩
abbrev cX2_put : ByteArray := prog_4_method_5_code
def yX2_put : MethodName := ⟨RX2, "put", "(I)V"⟩
abbrev cX2_putWord : ByteArray := prog_4_method_6_code
def yX2_putWord : MethodName := ⟨RX2, "putWord", "(Ljava/lang/String;)V"⟩
abbrev cX2_putWhole : ByteArray := prog_4_method_7_code
def yX2_putWhole : MethodName := ⟨RX2, "putWhole", "(J)V"⟩
abbrev cX2_putQuoted : ByteArray := prog_4_method_8_code
def yX2_putQuoted : MethodName := ⟨RX2, "putQuoted", "([II)V"⟩
abbrev cX2_putControl : ByteArray := prog_4_method_9_code
def yX2_putControl : MethodName := ⟨RX2, "putControl", "(I)V"⟩
abbrev cX2_putCode : ByteArray := prog_4_method_10_code
def yX2_putCode : MethodName := ⟨RX2, "putCode", "(I)V"⟩
abbrev cX2_putSteps : ByteArray := prog_4_method_11_code
def yX2_putSteps : MethodName := ⟨RX2, "putSteps", "(LPathHouse$Node;I)V"⟩
abbrev cX2_putValue : ByteArray := prog_4_method_12_code
def yX2_putValue : MethodName := ⟨RX2, "putValue", "(LPathHouse$Node;I)V"⟩
abbrev cX2_putKids : ByteArray := prog_4_method_13_code
def yX2_putKids : MethodName := ⟨RX2, "putKids", "(LPathHouse$Node;I)V"⟩
def RX3 : String := "PathHouse$Path"
def TX3 : u_T := fun k => match k with
  | 0 => ("PathHouse$Path", "fromRoot", "Z", true)
  | 1 => ("PathHouse$Path", "segments", "Ljava/util/ArrayList;", true)
  | _ => ("PathHouse$Path", "singular", "Z", false)
def tyX3 : Nat → FieldType := fun k => match k with
  | 0 => .boolean
  | 1 => .object "java/util/ArrayList"
  | _ => .boolean
theorem nmX3 : ∀ a, a < 3 → ∀ b, b < 3 → a ≠ b → (TX3 a).2.1 ≠ (TX3 b).2.1 := by decide +kernel
theorem tyX3_ok : ∀ k, k < 3 → parseFieldDescriptor (TX3 k).2.2.1 = some (tyX3 k) := by decide +kernel
abbrev cX3_init : ByteArray := prog_5_method_1_code
def yX3_init : MethodName := ⟨RX3, "<init>", "(Z)V"⟩
def RX4 : String := "PathHouse$QueryReader"
def TX4 : u_T := fun k => match k with
  | 0 => ("PathHouse$QueryReader", "in", "LPathHouse$Reader;", true)
  | 1 => ("PathHouse$QueryReader", "open", "I", false)
  | 2 => ("PathHouse$QueryReader", "laterFault", "I", false)
  | _ => ("PathHouse$QueryReader", "laterPlace", "I", false)
def tyX4 : Nat → FieldType := fun k => match k with
  | 0 => .object "PathHouse$Reader"
  | 1 => .int
  | 2 => .int
  | _ => .int
theorem nmX4 : ∀ a, a < 4 → ∀ b, b < 4 → a ≠ b → (TX4 a).2.1 ≠ (TX4 b).2.1 := by decide +kernel
theorem tyX4_ok : ∀ k, k < 4 → parseFieldDescriptor (TX4 k).2.2.1 = some (tyX4 k) := by decide +kernel
abbrev cX4_init : ByteArray := prog_6_method_1_code
def yX4_init : MethodName := ⟨RX4, "<init>", "(LPathHouse$Reader;)V"⟩
abbrev cX4_whole : ByteArray := prog_6_method_2_code
def yX4_whole : MethodName := ⟨RX4, "whole", "()LPathHouse$Path;"⟩
abbrev cX4_note : ByteArray := prog_6_method_3_code
def yX4_note : MethodName := ⟨RX4, "note", "(II)V"⟩
abbrev cX4_enter : ByteArray := prog_6_method_4_code
def yX4_enter : MethodName := ⟨RX4, "enter", "()V"⟩
abbrev cX4_readInt : ByteArray := prog_6_method_5_code
def yX4_readInt : MethodName := ⟨RX4, "readInt", "(Z)J"⟩
abbrev cX4_atInt : ByteArray := prog_6_method_6_code
def yX4_atInt : MethodName := ⟨RX4, "atInt", "()Z"⟩
abbrev cX4_atString : ByteArray := prog_6_method_7_code
def yX4_atString : MethodName := ⟨RX4, "atString", "()Z"⟩
abbrev cX4_readSegments : ByteArray := prog_6_method_8_code
def yX4_readSegments : MethodName := ⟨RX4, "readSegments", "(LPathHouse$Path;Z)I"⟩
abbrev cX4_readSegment : ByteArray := prog_6_method_9_code
def yX4_readSegment : MethodName := ⟨RX4, "readSegment", "(LPathHouse$Path;Z)V"⟩
abbrev cX4_readDotted : ByteArray := prog_6_method_10_code
def yX4_readDotted : MethodName := ⟨RX4, "readDotted", "(LPathHouse$Segment;Z)Z"⟩
abbrev cX4_readBrackets : ByteArray := prog_6_method_11_code
def yX4_readBrackets : MethodName := ⟨RX4, "readBrackets", "(LPathHouse$Segment;Z)Z"⟩
abbrev cX4_readSelector : ByteArray := prog_6_method_12_code
def yX4_readSelector : MethodName := ⟨RX4, "readSelector", "(Z)LPathHouse$Selector;"⟩
abbrev cX4_readIndexed : ByteArray := prog_6_method_13_code
def yX4_readIndexed : MethodName := ⟨RX4, "readIndexed", "(Z)LPathHouse$Selector;"⟩
abbrev cX4_readSlice : ByteArray := prog_6_method_14_code
def yX4_readSlice : MethodName := ⟨RX4, "readSlice", "(ZJ)LPathHouse$Selector;"⟩
abbrev cX4_readFilter : ByteArray := prog_6_method_15_code
def yX4_readFilter : MethodName := ⟨RX4, "readFilter", "()LPathHouse$Selector;"⟩
abbrev cX4_readOr : ByteArray := prog_6_method_16_code
def yX4_readOr : MethodName := ⟨RX4, "readOr", "(LPathHouse$Term;)LPathHouse$Term;"⟩
abbrev cX4_readAnd : ByteArray := prog_6_method_17_code
def yX4_readAnd : MethodName := ⟨RX4, "readAnd", "(LPathHouse$Term;)LPathHouse$Term;"⟩
abbrev cX4_takesTwice : ByteArray := prog_6_method_18_code
def yX4_takesTwice : MethodName := ⟨RX4, "takesTwice", "(I)Z"⟩
abbrev cX4_readBasic : ByteArray := prog_6_method_19_code
def yX4_readBasic : MethodName := ⟨RX4, "readBasic", "()LPathHouse$Term;"⟩
abbrev cX4_readGroup : ByteArray := prog_6_method_20_code
def yX4_readGroup : MethodName := ⟨RX4, "readGroup", "()LPathHouse$Term;"⟩
abbrev cX4_readNegatedTest : ByteArray := prog_6_method_21_code
def yX4_readNegatedTest : MethodName := ⟨RX4, "readNegatedTest", "()LPathHouse$Term;"⟩
abbrev cX4_readBasicFrom : ByteArray := prog_6_method_22_code
def yX4_readBasicFrom : MethodName := ⟨RX4, "readBasicFrom", "(LPathHouse$Term;)LPathHouse$Term;"⟩
abbrev cX4_asTest : ByteArray := prog_6_method_23_code
def yX4_asTest : MethodName := ⟨RX4, "asTest", "(LPathHouse$Term;)LPathHouse$Term;"⟩
abbrev cX4_atOperator : ByteArray := prog_6_method_24_code
def yX4_atOperator : MethodName := ⟨RX4, "atOperator", "()Z"⟩
abbrev cX4_readComparison : ByteArray := prog_6_method_25_code
def yX4_readComparison : MethodName := ⟨RX4, "readComparison", "(LPathHouse$Term;)LPathHouse$Term;"⟩
abbrev cX4_readOperator : ByteArray := prog_6_method_26_code
def yX4_readOperator : MethodName := ⟨RX4, "readOperator", "()I"⟩
abbrev cX4_readOperand : ByteArray := prog_6_method_27_code
def yX4_readOperand : MethodName := ⟨RX4, "readOperand", "(Z)LPathHouse$Term;"⟩
abbrev cX4_literal : ByteArray := prog_6_method_28_code
def yX4_literal : MethodName := ⟨RX4, "literal", "(II)LPathHouse$Term;"⟩
abbrev cX4_readWord : ByteArray := prog_6_method_29_code
def yX4_readWord : MethodName := ⟨RX4, "readWord", "()LPathHouse$Term;"⟩
abbrev cX4_readFunction : ByteArray := prog_6_method_30_code
def yX4_readFunction : MethodName := ⟨RX4, "readFunction", "(I)LPathHouse$Term;"⟩
abbrev cX4_functionNamed : ByteArray := prog_6_method_31_code
def yX4_functionNamed : MethodName := ⟨RX4, "functionNamed", "(I)I"⟩
abbrev cX4_readArgument : ByteArray := prog_6_method_32_code
def yX4_readArgument : MethodName := ⟨RX4, "readArgument", "()LPathHouse$Term;"⟩
abbrev cX4_goesOnAsOr : ByteArray := prog_6_method_33_code
def yX4_goesOnAsOr : MethodName := ⟨RX4, "goesOnAsOr", "(LPathHouse$Term;)Z"⟩
def RX5 : String := "PathHouse$Reader"
def TX5 : u_T := fun k => match k with
  | 0 => ("PathHouse$Reader", "bytes", "[B", true)
  | 1 => ("PathHouse$Reader", "chars", "[I", true)
  | 2 => ("PathHouse$Reader", "charCount", "I", false)
  | 3 => ("PathHouse$Reader", "end", "I", false)
  | 4 => ("PathHouse$Reader", "at", "I", false)
  | 5 => ("PathHouse$Reader", "fault", "I", false)
  | _ => ("PathHouse$Reader", "place", "I", false)
def tyX5 : Nat → FieldType := fun k => match k with
  | 0 => .array .byte
  | 1 => .array .int
  | 2 => .int
  | 3 => .int
  | 4 => .int
  | 5 => .int
  | _ => .int
theorem nmX5 : ∀ a, a < 7 → ∀ b, b < 7 → a ≠ b → (TX5 a).2.1 ≠ (TX5 b).2.1 := by decide +kernel
theorem tyX5_ok : ∀ k, k < 7 → parseFieldDescriptor (TX5 k).2.2.1 = some (tyX5 k) := by decide +kernel
abbrev cX5_init : ByteArray := prog_7_method_1_code
def yX5_init : MethodName := ⟨RX5, "<init>", "([B)V"⟩
abbrev cX5_begin : ByteArray := prog_7_method_2_code
def yX5_begin : MethodName := ⟨RX5, "begin", "(I)V"⟩
abbrev cX5_fail : ByteArray := prog_7_method_3_code
def yX5_fail : MethodName := ⟨RX5, "fail", "(II)V"⟩
abbrev cX5_byteAt : ByteArray := prog_7_method_4_code
def yX5_byteAt : MethodName := ⟨RX5, "byteAt", "(I)I"⟩
abbrev cX5_here : ByteArray := prog_7_method_5_code
def yX5_here : MethodName := ⟨RX5, "here", "()I"⟩
abbrev cX5_isBlank : ByteArray := prog_7_method_6_code
def yX5_isBlank : MethodName := ⟨RX5, "isBlank", "()Z"⟩
abbrev cX5_skipBlanks : ByteArray := prog_7_method_7_code
def yX5_skipBlanks : MethodName := ⟨RX5, "skipBlanks", "()V"⟩
abbrev cX5_expect : ByteArray := prog_7_method_8_code
def yX5_expect : MethodName := ⟨RX5, "expect", "(I)V"⟩
abbrev cX5_expectWord : ByteArray := prog_7_method_9_code
def yX5_expectWord : MethodName := ⟨RX5, "expectWord", "(Ljava/lang/String;)V"⟩
abbrev cX5_isWord : ByteArray := prog_7_method_10_code
def yX5_isWord : MethodName := ⟨RX5, "isWord", "(IILjava/lang/String;)Z"⟩
abbrev cX5_takeComma : ByteArray := prog_7_method_11_code
def yX5_takeComma : MethodName := ⟨RX5, "takeComma", "()Z"⟩
abbrev cX5_wholeNumber : ByteArray := prog_7_method_12_code
def yX5_wholeNumber : MethodName := ⟨RX5, "wholeNumber", "(Z)J"⟩
abbrev cX5_keep : ByteArray := prog_7_method_13_code
def yX5_keep : MethodName := ⟨RX5, "keep", "(I)V"⟩
abbrev cX5_kept : ByteArray := prog_7_method_14_code
def yX5_kept : MethodName := ⟨RX5, "kept", "()[I"⟩
abbrev cX5_string : ByteArray := prog_7_method_15_code
def yX5_string : MethodName := ⟨RX5, "string", "()[I"⟩
abbrev cX5_plainName : ByteArray := prog_7_method_16_code
def yX5_plainName : MethodName := ⟨RX5, "plainName", "()[I"⟩
abbrev cX5_isNamed : ByteArray := prog_7_method_17_code
def yX5_isNamed : MethodName := ⟨RX5, "isNamed", "(IZ)Z"⟩
abbrev cX5_escaped : ByteArray := prog_7_method_18_code
def yX5_escaped : MethodName := ⟨RX5, "escaped", "(I)I"⟩
abbrev cX5_control : ByteArray := prog_7_method_19_code
def yX5_control : MethodName := ⟨RX5, "control", "(I)I"⟩
abbrev cX5_hexFour : ByteArray := prog_7_method_20_code
def yX5_hexFour : MethodName := ⟨RX5, "hexFour", "(Z)I"⟩
abbrev cX5_hexValue : ByteArray := prog_7_method_21_code
def yX5_hexValue : MethodName := ⟨RX5, "hexValue", "(I)I"⟩
abbrev cX5_codePoint : ByteArray := prog_7_method_22_code
def yX5_codePoint : MethodName := ⟨RX5, "codePoint", "()I"⟩
abbrev cX5_followers : ByteArray := prog_7_method_23_code
def yX5_followers : MethodName := ⟨RX5, "followers", "(I)I"⟩
abbrev cX5_isShortest : ByteArray := prog_7_method_24_code
def yX5_isShortest : MethodName := ⟨RX5, "isShortest", "(II)Z"⟩
def RX6 : String := "PathHouse$Row"
def TX6 : u_T := fun k => match k with
  | 0 => ("PathHouse$Row", "nodes", "[LPathHouse$Node;", true)
  | _ => ("PathHouse$Row", "count", "I", false)
def tyX6 : Nat → FieldType := fun k => match k with
  | 0 => .array (.object "PathHouse$Node")
  | _ => .int
theorem nmX6 : ∀ a, a < 2 → ∀ b, b < 2 → a ≠ b → (TX6 a).2.1 ≠ (TX6 b).2.1 := by decide +kernel
theorem tyX6_ok : ∀ k, k < 2 → parseFieldDescriptor (TX6 k).2.2.1 = some (tyX6 k) := by decide +kernel
abbrev cX6_init : ByteArray := prog_8_method_1_code
def yX6_init : MethodName := ⟨RX6, "<init>", "()V"⟩
abbrev cX6_get : ByteArray := prog_8_method_2_code
def yX6_get : MethodName := ⟨RX6, "get", "(I)LPathHouse$Node;"⟩
abbrev cX6_add : ByteArray := prog_8_method_3_code
def yX6_add : MethodName := ⟨RX6, "add", "(LPathHouse$Node;)Z"⟩
def RX7 : String := "PathHouse$Segment"
def TX7 : u_T := fun k => match k with
  | 0 => ("PathHouse$Segment", "selectors", "Ljava/util/ArrayList;", true)
  | _ => ("PathHouse$Segment", "deep", "Z", false)
def tyX7 : Nat → FieldType := fun k => match k with
  | 0 => .object "java/util/ArrayList"
  | _ => .boolean
theorem nmX7 : ∀ a, a < 2 → ∀ b, b < 2 → a ≠ b → (TX7 a).2.1 ≠ (TX7 b).2.1 := by decide +kernel
theorem tyX7_ok : ∀ k, k < 2 → parseFieldDescriptor (TX7 k).2.2.1 = some (tyX7 k) := by decide +kernel
abbrev cX7_init : ByteArray := prog_9_method_1_code
def yX7_init : MethodName := ⟨RX7, "<init>", "()V"⟩
def RX8 : String := "PathHouse$Selector"
def TX8 : u_T := fun k => match k with
  | 0 => ("PathHouse$Selector", "kind", "I", true)
  | 1 => ("PathHouse$Selector", "name", "[I", false)
  | 2 => ("PathHouse$Selector", "hasStart", "Z", false)
  | 3 => ("PathHouse$Selector", "hasEnd", "Z", false)
  | 4 => ("PathHouse$Selector", "start", "J", false)
  | 5 => ("PathHouse$Selector", "end", "J", false)
  | 6 => ("PathHouse$Selector", "step", "J", false)
  | _ => ("PathHouse$Selector", "filter", "LPathHouse$Term;", false)
def tyX8 : Nat → FieldType := fun k => match k with
  | 0 => .int
  | 1 => .array .int
  | 2 => .boolean
  | 3 => .boolean
  | 4 => .long
  | 5 => .long
  | 6 => .long
  | _ => .object "PathHouse$Term"
theorem nmX8 : ∀ a, a < 8 → ∀ b, b < 8 → a ≠ b → (TX8 a).2.1 ≠ (TX8 b).2.1 := by decide +kernel
theorem tyX8_ok : ∀ k, k < 8 → parseFieldDescriptor (TX8 k).2.2.1 = some (tyX8 k) := by decide +kernel
abbrev cX8_init : ByteArray := prog_10_method_1_code
def yX8_init : MethodName := ⟨RX8, "<init>", "(I)V"⟩
abbrev cX8_isSingular : ByteArray := prog_10_method_2_code
def yX8_isSingular : MethodName := ⟨RX8, "isSingular", "()Z"⟩
def RX9 : String := "PathHouse$Term"
def TX9 : u_T := fun k => match k with
  | 0 => ("PathHouse$Term", "kind", "I", true)
  | 1 => ("PathHouse$Term", "place", "I", true)
  | 2 => ("PathHouse$Term", "parts", "Ljava/util/ArrayList;", true)
  | 3 => ("PathHouse$Term", "negated", "Z", false)
  | 4 => ("PathHouse$Term", "operator", "I", false)
  | 5 => ("PathHouse$Term", "left", "LPathHouse$Term;", false)
  | 6 => ("PathHouse$Term", "right", "LPathHouse$Term;", false)
  | 7 => ("PathHouse$Term", "nodes", "LPathHouse$Path;", false)
  | _ => ("PathHouse$Term", "own", "LPathHouse$Node;", false)
def tyX9 : Nat → FieldType := fun k => match k with
  | 0 => .int
  | 1 => .int
  | 2 => .object "java/util/ArrayList"
  | 3 => .boolean
  | 4 => .int
  | 5 => .object "PathHouse$Term"
  | 6 => .object "PathHouse$Term"
  | 7 => .object "PathHouse$Path"
  | _ => .object "PathHouse$Node"
theorem nmX9 : ∀ a, a < 9 → ∀ b, b < 9 → a ≠ b → (TX9 a).2.1 ≠ (TX9 b).2.1 := by decide +kernel
theorem tyX9_ok : ∀ k, k < 9 → parseFieldDescriptor (TX9 k).2.2.1 = some (tyX9 k) := by decide +kernel
abbrev cX9_init : ByteArray := prog_11_method_1_code
def yX9_init : MethodName := ⟨RX9, "<init>", "(II)V"⟩
abbrev cX9_partCount : ByteArray := prog_11_method_2_code
def yX9_partCount : MethodName := ⟨RX9, "partCount", "()I"⟩
abbrev cX9_part : ByteArray := prog_11_method_3_code
def yX9_part : MethodName := ⟨RX9, "part", "(I)LPathHouse$Term;"⟩
abbrev cX9_simplest : ByteArray := prog_11_method_4_code
def yX9_simplest : MethodName := ⟨RX9, "simplest", "()LPathHouse$Term;"⟩
abbrev cX9_isFunction : ByteArray := prog_11_method_5_code
def yX9_isFunction : MethodName := ⟨RX9, "isFunction", "()Z"⟩
abbrev cX9_isComparable : ByteArray := prog_11_method_6_code
def yX9_isComparable : MethodName := ⟨RX9, "isComparable", "()Z"⟩
abbrev cX9_wants : ByteArray := prog_11_method_7_code
def yX9_wants : MethodName := ⟨RX9, "wants", "(LPathHouse$Term;)Z"⟩
def RX10 : String := "PathHouse$ValueReader"
def TX10 : u_T := fun k => match k with
  | 0 => ("PathHouse$ValueReader", "in", "LPathHouse$Reader;", true)
  | 1 => ("PathHouse$ValueReader", "count", "I", false)
  | _ => ("PathHouse$ValueReader", "latest", "LPathHouse$Node;", false)
def tyX10 : Nat → FieldType := fun k => match k with
  | 0 => .object "PathHouse$Reader"
  | 1 => .int
  | _ => .object "PathHouse$Node"
theorem nmX10 : ∀ a, a < 3 → ∀ b, b < 3 → a ≠ b → (TX10 a).2.1 ≠ (TX10 b).2.1 := by decide +kernel
theorem tyX10_ok : ∀ k, k < 3 → parseFieldDescriptor (TX10 k).2.2.1 = some (tyX10 k) := by decide +kernel
abbrev cX10_init : ByteArray := prog_12_method_1_code
def yX10_init : MethodName := ⟨RX10, "<init>", "(LPathHouse$Reader;)V"⟩
abbrev cX10_whole : ByteArray := prog_12_method_2_code
def yX10_whole : MethodName := ⟨RX10, "whole", "()LPathHouse$Node;"⟩
abbrev cX10_readNode : ByteArray := prog_12_method_3_code
def yX10_readNode : MethodName := ⟨RX10, "readNode", "(LPathHouse$Node;I)LPathHouse$Node;"⟩
abbrev cX10_kindBegunBy : ByteArray := prog_12_method_4_code
def yX10_kindBegunBy : MethodName := ⟨RX10, "kindBegunBy", "(I)I"⟩
abbrev cX10_readRest : ByteArray := prog_12_method_5_code
def yX10_readRest : MethodName := ⟨RX10, "readRest", "(LPathHouse$Node;)V"⟩
abbrev cX10_readInt : ByteArray := prog_12_method_6_code
def yX10_readInt : MethodName := ⟨RX10, "readInt", "()J"⟩
abbrev cX10_takesEmpty : ByteArray := prog_12_method_7_code
def yX10_takesEmpty : MethodName := ⟨RX10, "takesEmpty", "(I)Z"⟩
abbrev cX10_readElements : ByteArray := prog_12_method_8_code
def yX10_readElements : MethodName := ⟨RX10, "readElements", "(LPathHouse$Node;)V"⟩
abbrev cX10_readMembers : ByteArray := prog_12_method_9_code
def yX10_readMembers : MethodName := ⟨RX10, "readMembers", "(LPathHouse$Node;)V"⟩
abbrev cX10_readMember : ByteArray := prog_12_method_10_code
def yX10_readMember : MethodName := ⟨RX10, "readMember", "(LPathHouse$Node;)V"⟩
def RX11 : String := "PathHouse"
def TX11 : u_T := fun k => match k with
  | 0 => ("PathHouse", "tape", "[B", true)
  | 1 => ("PathHouse", "reader", "LPathHouse$Reader;", true)
  | 2 => ("PathHouse", "valueReader", "LPathHouse$ValueReader;", true)
  | 3 => ("PathHouse", "queryReader", "LPathHouse$QueryReader;", true)
  | 4 => ("PathHouse", "finder", "LPathHouse$Finder;", true)
  | 5 => ("PathHouse", "written", "LPathHouse$Out;", true)
  | 6 => ("PathHouse", "taped", "I", false)
  | 7 => ("PathHouse", "hasRead", "Z", false)
  | 8 => ("PathHouse", "value", "LPathHouse$Node;", false)
  | _ => ("PathHouse", "asked", "LPathHouse$Path;", false)
def tyX11 : Nat → FieldType := fun k => match k with
  | 0 => .array .byte
  | 1 => .object "PathHouse$Reader"
  | 2 => .object "PathHouse$ValueReader"
  | 3 => .object "PathHouse$QueryReader"
  | 4 => .object "PathHouse$Finder"
  | 5 => .object "PathHouse$Out"
  | 6 => .int
  | 7 => .boolean
  | 8 => .object "PathHouse$Node"
  | _ => .object "PathHouse$Path"
theorem nmX11 : ∀ a, a < 10 → ∀ b, b < 10 → a ≠ b → (TX11 a).2.1 ≠ (TX11 b).2.1 := by decide +kernel
theorem tyX11_ok : ∀ k, k < 10 → parseFieldDescriptor (TX11 k).2.2.1 = some (tyX11 k) := by decide +kernel
abbrev cX11_init : ByteArray := prog_1_method_1_code
def yX11_init : MethodName := ⟨RX11, "<init>", "()V"⟩
abbrev cX11_feed : ByteArray := prog_1_method_2_code
def yX11_feed : MethodName := ⟨RX11, "feed", "(IIIII)I"⟩
abbrev cX11_json : ByteArray := prog_1_method_3_code
def yX11_json : MethodName := ⟨RX11, "json", "(I)I"⟩
abbrev cX11_query : ByteArray := prog_1_method_4_code
def yX11_query : MethodName := ⟨RX11, "query", "(I)I"⟩
abbrev cX11_fault : ByteArray := prog_1_method_5_code
def yX11_fault : MethodName := ⟨RX11, "fault", "(I)I"⟩
abbrev cX11_find : ByteArray := prog_1_method_6_code
def yX11_find : MethodName := ⟨RX11, "find", "()I"⟩
abbrev cX11_found : ByteArray := prog_1_method_7_code
def yX11_found : MethodName := ⟨RX11, "found", "(II)I"⟩
abbrev cX11_number : ByteArray := prog_1_method_8_code
def yX11_number : MethodName := ⟨RX11, "number", "(I)J"⟩
abbrev cX11_path : ByteArray := prog_1_method_9_code
def yX11_path : MethodName := ⟨RX11, "path", "(I)I"⟩
abbrev cX11_text : ByteArray := prog_1_method_10_code
def yX11_text : MethodName := ⟨RX11, "text", "(I)I"⟩
abbrev cX11_out : ByteArray := prog_1_method_11_code
def yX11_out : MethodName := ⟨RX11, "out", "(I)I"⟩
abbrev cX11_about : ByteArray := prog_1_method_12_code
def yX11_about : MethodName := ⟨RX11, "about", "(I)I"⟩
abbrev cX11_tapeFour : ByteArray := prog_1_method_13_code
def yX11_tapeFour : MethodName := ⟨RX11, "tapeFour", "(I)V"⟩
abbrev cX11_begin : ByteArray := prog_1_method_14_code
def yX11_begin : MethodName := ⟨RX11, "begin", "(I)Z"⟩
abbrev cX11_isDigit : ByteArray := prog_1_method_15_code
def yX11_isDigit : MethodName := ⟨RX11, "isDigit", "(I)Z"⟩
abbrev cX11_isSmall : ByteArray := prog_1_method_16_code
def yX11_isSmall : MethodName := ⟨RX11, "isSmall", "(I)Z"⟩
abbrev cX11_isLetter : ByteArray := prog_1_method_17_code
def yX11_isLetter : MethodName := ⟨RX11, "isLetter", "(I)Z"⟩
abbrev cX11_isBeyond : ByteArray := prog_1_method_18_code
def yX11_isBeyond : MethodName := ⟨RX11, "isBeyond", "(J)Z"⟩
abbrev cX11_sameChars : ByteArray := prog_1_method_19_code
def yX11_sameChars : MethodName := ⟨RX11, "sameChars", "([I[I)Z"⟩
abbrev cX11_charsBefore : ByteArray := prog_1_method_20_code
def yX11_charsBefore : MethodName := ⟨RX11, "charsBefore", "([I[I)Z"⟩
def RX12 : String := "PathHouseModel$Parts"
def TX12 : u_T := fun k => match k with
  | 0 => ("PathHouseModel$Parts", "kind", "[I", true)
  | 1 => ("PathHouseModel$Parts", "one", "[I", true)
  | 2 => ("PathHouseModel$Parts", "two", "[I", true)
  | 3 => ("PathHouseModel$Parts", "next", "[I", true)
  | 4 => ("PathHouseModel$Parts", "own", "[I", true)
  | 5 => ("PathHouseModel$Parts", "a", "[J", true)
  | 6 => ("PathHouseModel$Parts", "b", "[J", true)
  | 7 => ("PathHouseModel$Parts", "c", "[J", true)
  | 8 => ("PathHouseModel$Parts", "many", "I", false)
  | 9 => ("PathHouseModel$Parts", "first", "I", false)
  | 10 => ("PathHouseModel$Parts", "segments", "I", false)
  | _ => ("PathHouseModel$Parts", "single", "Z", false)
def tyX12 : Nat → FieldType := fun k => match k with
  | 0 => .array .int
  | 1 => .array .int
  | 2 => .array .int
  | 3 => .array .int
  | 4 => .array .int
  | 5 => .array .long
  | 6 => .array .long
  | 7 => .array .long
  | 8 => .int
  | 9 => .int
  | 10 => .int
  | _ => .boolean
theorem nmX12 : ∀ a, a < 12 → ∀ b, b < 12 → a ≠ b → (TX12 a).2.1 ≠ (TX12 b).2.1 := by decide +kernel
theorem tyX12_ok : ∀ k, k < 12 → parseFieldDescriptor (TX12 k).2.2.1 = some (tyX12 k) := by decide +kernel
abbrev cX12_init : ByteArray := prog_15_method_1_code
def yX12_init : MethodName := ⟨RX12, "<init>", "()V"⟩
def RX13 : String := "PathHouseModel$Rows"
def TX13 : u_T := fun k => match k with
  | 0 => ("PathHouseModel$Rows", "kind", "[I", true)
  | 1 => ("PathHouseModel$Rows", "first", "[I", true)
  | 2 => ("PathHouseModel$Rows", "last", "[I", true)
  | 3 => ("PathHouseModel$Rows", "next", "[I", true)
  | 4 => ("PathHouseModel$Rows", "up", "[I", true)
  | 5 => ("PathHouseModel$Rows", "size", "[I", true)
  | 6 => ("PathHouseModel$Rows", "place", "[I", true)
  | 7 => ("PathHouseModel$Rows", "deep", "[I", true)
  | 8 => ("PathHouseModel$Rows", "text", "[I", true)
  | 9 => ("PathHouseModel$Rows", "name", "[I", true)
  | 10 => ("PathHouseModel$Rows", "nameSize", "[I", true)
  | 11 => ("PathHouseModel$Rows", "number", "[J", true)
  | 12 => ("PathHouseModel$Rows", "many", "I", false)
  | _ => ("PathHouseModel$Rows", "deepest", "I", false)
def tyX13 : Nat → FieldType := fun k => match k with
  | 0 => .array .int
  | 1 => .array .int
  | 2 => .array .int
  | 3 => .array .int
  | 4 => .array .int
  | 5 => .array .int
  | 6 => .array .int
  | 7 => .array .int
  | 8 => .array .int
  | 9 => .array .int
  | 10 => .array .int
  | 11 => .array .long
  | 12 => .int
  | _ => .int
theorem nmX13 : ∀ a, a < 14 → ∀ b, b < 14 → a ≠ b → (TX13 a).2.1 ≠ (TX13 b).2.1 := by decide +kernel
theorem tyX13_ok : ∀ k, k < 14 → parseFieldDescriptor (TX13 k).2.2.1 = some (tyX13 k) := by decide +kernel
abbrev cX13_init : ByteArray := prog_16_method_1_code
def yX13_init : MethodName := ⟨RX13, "<init>", "()V"⟩
def RX14 : String := "PathHouseModel$Stop"
def TX14 : u_T := fun k => match k with
  | 0 => ("java/lang/Throwable", "cause", "Ljava/lang/Throwable;", false)
  | 1 => ("java/lang/Throwable", "stackTrace", "[Ljava/lang/StackTraceElement;", false)
  | 2 => ("java/lang/Throwable", "suppressedExceptions", "Ljava/util/List;", false)
  | 3 => ("java/lang/Throwable", "detailMessage", "Ljava/lang/String;", false)
  | 4 => ("java/lang/Throwable", "backtrace", "Ljava/lang/Object;", false)
  | 5 => ("java/lang/Throwable", "depth", "I", false)
  | 6 => ("PathHouseModel$Stop", "kind", "I", false)
  | _ => ("PathHouseModel$Stop", "place", "I", false)
def tyX14 : Nat → FieldType := fun k => match k with
  | 0 => .object "java/lang/Throwable"
  | 1 => .array (.object "java/lang/StackTraceElement")
  | 2 => .object "java/util/List"
  | 3 => .object "java/lang/String"
  | 4 => .object "java/lang/Object"
  | 5 => .int
  | 6 => .int
  | _ => .int
theorem nmX14 : ∀ a, a < 8 → ∀ b, b < 8 → a ≠ b → (TX14 a).2.1 ≠ (TX14 b).2.1 := by decide +kernel
theorem tyX14_ok : ∀ k, k < 8 → parseFieldDescriptor (TX14 k).2.2.1 = some (tyX14 k) := by decide +kernel
abbrev cX14_init : ByteArray := prog_17_method_1_code
def yX14_init : MethodName := ⟨RX14, "<init>", "()V"⟩
def RX15 : String := "PathHouseModel"
def TX15 : u_T := fun k => match k with
  | 0 => ("PathHouseModel", "thrown", "I", false)
  | 1 => ("PathHouseModel", "stop", "LPathHouseModel$Stop;", true)
  | 2 => ("PathHouseModel", "tape", "[B", true)
  | 3 => ("PathHouseModel", "taped", "I", false)
  | 4 => ("PathHouseModel", "length", "I", false)
  | 5 => ("PathHouseModel", "at", "I", false)
  | 6 => ("PathHouseModel", "chars", "[I", true)
  | 7 => ("PathHouseModel", "charCount", "I", false)
  | 8 => ("PathHouseModel", "number", "J", false)
  | 9 => ("PathHouseModel", "isFar", "Z", false)
  | 10 => ("PathHouseModel", "v", "LPathHouseModel$Rows;", false)
  | 11 => ("PathHouseModel", "spare", "LPathHouseModel$Rows;", false)
  | 12 => ("PathHouseModel", "hasValue", "Z", false)
  | 13 => ("PathHouseModel", "hasQuery", "Z", false)
  | 14 => ("PathHouseModel", "fault", "I", false)
  | 15 => ("PathHouseModel", "faultPlace", "I", false)
  | 16 => ("PathHouseModel", "q", "LPathHouseModel$Parts;", false)
  | 17 => ("PathHouseModel", "made", "LPathHouseModel$Parts;", false)
  | 18 => ("PathHouseModel", "open", "I", false)
  | 19 => ("PathHouseModel", "lateKind", "I", false)
  | 20 => ("PathHouseModel", "latePlace", "I", false)
  | 21 => ("PathHouseModel", "isSingle", "Z", false)
  | 22 => ("PathHouseModel", "argumentKind", "I", false)
  | 23 => ("PathHouseModel", "looks", "I", false)
  | 24 => ("PathHouseModel", "foundCount", "I", false)
  | 25 => ("PathHouseModel", "found", "[I", true)
  | 26 => ("PathHouseModel", "lists", "[I", true)
  | 27 => ("PathHouseModel", "base", "I", false)
  | 28 => ("PathHouseModel", "listed", "I", false)
  | 29 => ("PathHouseModel", "kind", "I", false)
  | 30 => ("PathHouseModel", "text", "I", false)
  | 31 => ("PathHouseModel", "size", "I", false)
  | 32 => ("PathHouseModel", "which", "I", false)
  | 33 => ("PathHouseModel", "integer", "J", false)
  | 34 => ("PathHouseModel", "out", "[B", true)
  | 35 => ("PathHouseModel", "outs", "I", false)
  | _ => ("PathHouseModel", "way", "[I", true)
def tyX15 : Nat → FieldType := fun k => match k with
  | 0 => .int
  | 1 => .object "PathHouseModel$Stop"
  | 2 => .array .byte
  | 3 => .int
  | 4 => .int
  | 5 => .int
  | 6 => .array .int
  | 7 => .int
  | 8 => .long
  | 9 => .boolean
  | 10 => .object "PathHouseModel$Rows"
  | 11 => .object "PathHouseModel$Rows"
  | 12 => .boolean
  | 13 => .boolean
  | 14 => .int
  | 15 => .int
  | 16 => .object "PathHouseModel$Parts"
  | 17 => .object "PathHouseModel$Parts"
  | 18 => .int
  | 19 => .int
  | 20 => .int
  | 21 => .boolean
  | 22 => .int
  | 23 => .int
  | 24 => .int
  | 25 => .array .int
  | 26 => .array .int
  | 27 => .int
  | 28 => .int
  | 29 => .int
  | 30 => .int
  | 31 => .int
  | 32 => .int
  | 33 => .long
  | 34 => .array .byte
  | 35 => .int
  | _ => .array .int
theorem nmX15 : ∀ a, a < 37 → ∀ b, b < 37 → a ≠ b → (TX15 a).2.1 ≠ (TX15 b).2.1 := by decide +kernel
theorem tyX15_ok : ∀ k, k < 37 → parseFieldDescriptor (TX15 k).2.2.1 = some (tyX15 k) := by decide +kernel
abbrev cX15_init : ByteArray := prog_14_method_1_code
def yX15_init : MethodName := ⟨RX15, "<init>", "()V"⟩
abbrev cX15_stop : ByteArray := prog_14_method_3_code
def yX15_stop : MethodName := ⟨RX15, "stop", "(II)LPathHouseModel$Stop;"⟩
abbrev cX15_feed : ByteArray := prog_14_method_4_code
def yX15_feed : MethodName := ⟨RX15, "feed", "(IIIII)I"⟩
abbrev cX15_byteAt : ByteArray := prog_14_method_5_code
def yX15_byteAt : MethodName := ⟨RX15, "byteAt", "(I)I"⟩
abbrev cX15_peek : ByteArray := prog_14_method_6_code
def yX15_peek : MethodName := ⟨RX15, "peek", "()I"⟩
abbrev cX15_is : ByteArray := prog_14_method_7_code
def yX15_is : MethodName := ⟨RX15, "is", "(I)Z"⟩
abbrev cX15_bad : ByteArray := prog_14_method_8_code
def yX15_bad : MethodName := ⟨RX15, "bad", "()LPathHouseModel$Stop;"⟩
abbrev cX15_need : ByteArray := prog_14_method_9_code
def yX15_need : MethodName := ⟨RX15, "need", "(I)V"⟩
abbrev cX15_blanks : ByteArray := prog_14_method_10_code
def yX15_blanks : MethodName := ⟨RX15, "blanks", "()V"⟩
abbrev cX15_isDigit : ByteArray := prog_14_method_11_code
def yX15_isDigit : MethodName := ⟨RX15, "isDigit", "(I)Z"⟩
abbrev cX15_isSmall : ByteArray := prog_14_method_12_code
def yX15_isSmall : MethodName := ⟨RX15, "isSmall", "(I)Z"⟩
abbrev cX15_character : ByteArray := prog_14_method_13_code
def yX15_character : MethodName := ⟨RX15, "character", "()I"⟩
abbrev cX15_keep : ByteArray := prog_14_method_14_code
def yX15_keep : MethodName := ⟨RX15, "keep", "(I)V"⟩
abbrev cX15_hex : ByteArray := prog_14_method_15_code
def yX15_hex : MethodName := ⟨RX15, "hex", "(I)I"⟩
abbrev cX15_hexDigit : ByteArray := prog_14_method_16_code
def yX15_hexDigit : MethodName := ⟨RX15, "hexDigit", "(II)I"⟩
abbrev cX15_unit : ByteArray := prog_14_method_17_code
def yX15_unit : MethodName := ⟨RX15, "unit", "()I"⟩
abbrev cX15_escaped : ByteArray := prog_14_method_18_code
def yX15_escaped : MethodName := ⟨RX15, "escaped", "(I)I"⟩
abbrev cX15_string : ByteArray := prog_14_method_19_code
def yX15_string : MethodName := ⟨RX15, "string", "()I"⟩
abbrev cX15_areSame : ByteArray := prog_14_method_20_code
def yX15_areSame : MethodName := ⟨RX15, "areSame", "(IIII)Z"⟩
abbrev cX15_integer : ByteArray := prog_14_method_21_code
def yX15_integer : MethodName := ⟨RX15, "integer", "(Z)V"⟩
abbrev cX15_begins : ByteArray := prog_14_method_22_code
def yX15_begins : MethodName := ⟨RX15, "begins", "(I)Z"⟩
abbrev cX15_word : ByteArray := prog_14_method_23_code
def yX15_word : MethodName := ⟨RX15, "word", "(Ljava/lang/String;)V"⟩
abbrev cX15_value : ByteArray := prog_14_method_24_code
def yX15_value : MethodName := ⟨RX15, "value", "(II)I"⟩
abbrev cX15_hang : ByteArray := prog_14_method_25_code
def yX15_hang : MethodName := ⟨RX15, "hang", "(II)V"⟩
abbrev cX15_array : ByteArray := prog_14_method_26_code
def yX15_array : MethodName := ⟨RX15, "array", "(II)V"⟩
abbrev cX15_object : ByteArray := prog_14_method_27_code
def yX15_object : MethodName := ⟨RX15, "object", "(II)V"⟩
abbrev cX15_told : ByteArray := prog_14_method_28_code
def yX15_told : MethodName := ⟨RX15, "told", "(II)I"⟩
abbrev cX15_json : ByteArray := prog_14_method_29_code
def yX15_json : MethodName := ⟨RX15, "json", "(I)I"⟩
abbrev cX15_fault : ByteArray := prog_14_method_30_code
def yX15_fault : MethodName := ⟨RX15, "fault", "(I)I"⟩
abbrev cX15_part : ByteArray := prog_14_method_31_code
def yX15_part : MethodName := ⟨RX15, "part", "(I)I"⟩
abbrev cX15_late : ByteArray := prog_14_method_32_code
def yX15_late : MethodName := ⟨RX15, "late", "(II)V"⟩
abbrev cX15_opens : ByteArray := prog_14_method_33_code
def yX15_opens : MethodName := ⟨RX15, "opens", "()V"⟩
abbrev cX15_isLetter : ByteArray := prog_14_method_34_code
def yX15_isLetter : MethodName := ⟨RX15, "isLetter", "(I)Z"⟩
abbrev cX15_selected : ByteArray := prog_14_method_35_code
def yX15_selected : MethodName := ⟨RX15, "selected", "()J"⟩
abbrev cX15_isInteger : ByteArray := prog_14_method_36_code
def yX15_isInteger : MethodName := ⟨RX15, "isInteger", "()Z"⟩
abbrev cX15_name : ByteArray := prog_14_method_37_code
def yX15_name : MethodName := ⟨RX15, "name", "(I)I"⟩
abbrev cX15_slice : ByteArray := prog_14_method_38_code
def yX15_slice : MethodName := ⟨RX15, "slice", "(I)I"⟩
abbrev cX15_selector : ByteArray := prog_14_method_39_code
def yX15_selector : MethodName := ⟨RX15, "selector", "(Z)I"⟩
abbrev cX15_bracketed : ByteArray := prog_14_method_40_code
def yX15_bracketed : MethodName := ⟨RX15, "bracketed", "(Z)I"⟩
abbrev cX15_member : ByteArray := prog_14_method_41_code
def yX15_member : MethodName := ⟨RX15, "member", "()I"⟩
abbrev cX15_segments : ByteArray := prog_14_method_42_code
def yX15_segments : MethodName := ⟨RX15, "segments", "(ZZ)I"⟩
abbrev cX15_path : ByteArray := prog_14_method_43_code
def yX15_path : MethodName := ⟨RX15, "path", "(Z)I"⟩
abbrev cX15_isPath : ByteArray := prog_14_method_44_code
def yX15_isPath : MethodName := ⟨RX15, "isPath", "()Z"⟩
abbrev cX15_literal : ByteArray := prog_14_method_45_code
def yX15_literal : MethodName := ⟨RX15, "literal", "()I"⟩
abbrev cX15_isLiteral : ByteArray := prog_14_method_46_code
def yX15_isLiteral : MethodName := ⟨RX15, "isLiteral", "()Z"⟩
abbrev cX15_isWord : ByteArray := prog_14_method_47_code
def yX15_isWord : MethodName := ⟨RX15, "isWord", "(ILjava/lang/String;)Z"⟩
abbrev cX15_worded : ByteArray := prog_14_method_48_code
def yX15_worded : MethodName := ⟨RX15, "worded", "()I"⟩
abbrev cX15_isOrdered : ByteArray := prog_14_method_49_code
def yX15_isOrdered : MethodName := ⟨RX15, "isOrdered", "()Z"⟩
abbrev cX15_sign : ByteArray := prog_14_method_50_code
def yX15_sign : MethodName := ⟨RX15, "sign", "()I"⟩
abbrev cX15_comparable : ByteArray := prog_14_method_51_code
def yX15_comparable : MethodName := ⟨RX15, "comparable", "()I"⟩
abbrev cX15_compared : ByteArray := prog_14_method_52_code
def yX15_compared : MethodName := ⟨RX15, "compared", "(I)I"⟩
abbrev cX15_tested : ByteArray := prog_14_method_53_code
def yX15_tested : MethodName := ⟨RX15, "tested", "(II)I"⟩
abbrev cX15_basicOf : ByteArray := prog_14_method_54_code
def yX15_basicOf : MethodName := ⟨RX15, "basicOf", "(II)I"⟩
abbrev cX15_bracket : ByteArray := prog_14_method_55_code
def yX15_bracket : MethodName := ⟨RX15, "bracket", "()I"⟩
abbrev cX15_basic : ByteArray := prog_14_method_56_code
def yX15_basic : MethodName := ⟨RX15, "basic", "()I"⟩
abbrev cX15_negated : ByteArray := prog_14_method_57_code
def yX15_negated : MethodName := ⟨RX15, "negated", "(I)I"⟩
abbrev cX15_operand : ByteArray := prog_14_method_58_code
def yX15_operand : MethodName := ⟨RX15, "operand", "()I"⟩
abbrev cX15_all : ByteArray := prog_14_method_59_code
def yX15_all : MethodName := ⟨RX15, "all", "(I)I"⟩
abbrev cX15_any : ByteArray := prog_14_method_60_code
def yX15_any : MethodName := ⟨RX15, "any", "(I)I"⟩
abbrev cX15_argument : ByteArray := prog_14_method_61_code
def yX15_argument : MethodName := ⟨RX15, "argument", "()I"⟩
abbrev cX15_function : ByteArray := prog_14_method_62_code
def yX15_function : MethodName := ⟨RX15, "function", "(I)I"⟩
abbrev cX15_query : ByteArray := prog_14_method_63_code
def yX15_query : MethodName := ⟨RX15, "query", "(I)I"⟩
abbrev cX15_look : ByteArray := prog_14_method_64_code
def yX15_look : MethodName := ⟨RX15, "look", "()V"⟩
abbrev cX15_comes : ByteArray := prog_14_method_65_code
def yX15_comes : MethodName := ⟨RX15, "comes", "(I)V"⟩
abbrev cX15_nodes : ByteArray := prog_14_method_66_code
def yX15_nodes : MethodName := ⟨RX15, "nodes", "(III)I"⟩
abbrev cX15_down : ByteArray := prog_14_method_67_code
def yX15_down : MethodName := ⟨RX15, "down", "(III)V"⟩
abbrev cX15_asked : ByteArray := prog_14_method_68_code
def yX15_asked : MethodName := ⟨RX15, "asked", "(III)V"⟩
abbrev cX15_named : ByteArray := prog_14_method_69_code
def yX15_named : MethodName := ⟨RX15, "named", "(III)I"⟩
abbrev cX15_element : ByteArray := prog_14_method_70_code
def yX15_element : MethodName := ⟨RX15, "element", "(II)I"⟩
abbrev cX15_within : ByteArray := prog_14_method_71_code
def yX15_within : MethodName := ⟨RX15, "within", "(JJJ)J"⟩
abbrev cX15_sliced : ByteArray := prog_14_method_72_code
def yX15_sliced : MethodName := ⟨RX15, "sliced", "(II)V"⟩
abbrev cX15_filtered : ByteArray := prog_14_method_73_code
def yX15_filtered : MethodName := ⟨RX15, "filtered", "(III)V"⟩
abbrev cX15_isTrue : ByteArray := prog_14_method_74_code
def yX15_isTrue : MethodName := ⟨RX15, "isTrue", "(III)Z"⟩
abbrev cX15_pathOf : ByteArray := prog_14_method_75_code
def yX15_pathOf : MethodName := ⟨RX15, "pathOf", "(III)I"⟩
abbrev cX15_ofValue : ByteArray := prog_14_method_76_code
def yX15_ofValue : MethodName := ⟨RX15, "ofValue", "(I)V"⟩
abbrev cX15_ofNumber : ByteArray := prog_14_method_77_code
def yX15_ofNumber : MethodName := ⟨RX15, "ofNumber", "(J)V"⟩
abbrev cX15_comesTo : ByteArray := prog_14_method_78_code
def yX15_comesTo : MethodName := ⟨RX15, "comesTo", "(III)V"⟩
abbrev cX15_compares : ByteArray := prog_14_method_79_code
def yX15_compares : MethodName := ⟨RX15, "compares", "(III)Z"⟩
abbrev cX15_isLess : ByteArray := prog_14_method_80_code
def yX15_isLess : MethodName := ⟨RX15, "isLess", "(IJIIIJII)Z"⟩
abbrev cX15_alike : ByteArray := prog_14_method_81_code
def yX15_alike : MethodName := ⟨RX15, "alike", "(IJIIIIJIII)Z"⟩
abbrev cX15_areAlike : ByteArray := prog_14_method_82_code
def yX15_areAlike : MethodName := ⟨RX15, "areAlike", "(II)Z"⟩
abbrev cX15_areSameValues : ByteArray := prog_14_method_83_code
def yX15_areSameValues : MethodName := ⟨RX15, "areSameValues", "(II)Z"⟩
abbrev cX15_find : ByteArray := prog_14_method_84_code
def yX15_find : MethodName := ⟨RX15, "find", "()I"⟩
abbrev cX15_isFound : ByteArray := prog_14_method_85_code
def yX15_isFound : MethodName := ⟨RX15, "isFound", "(I)Z"⟩
abbrev cX15_steps : ByteArray := prog_14_method_86_code
def yX15_steps : MethodName := ⟨RX15, "steps", "(I)I"⟩
abbrev cX15_found : ByteArray := prog_14_method_87_code
def yX15_found : MethodName := ⟨RX15, "found", "(II)I"⟩
abbrev cX15_number : ByteArray := prog_14_method_88_code
def yX15_number : MethodName := ⟨RX15, "number", "(I)J"⟩
abbrev cX15_put : ByteArray := prog_14_method_89_code
def yX15_put : MethodName := ⟨RX15, "put", "(I)V"⟩
abbrev cX15_say : ByteArray := prog_14_method_90_code
def yX15_say : MethodName := ⟨RX15, "say", "(Ljava/lang/String;)V"⟩
abbrev cX15_sayNumber : ByteArray := prog_14_method_91_code
def yX15_sayNumber : MethodName := ⟨RX15, "sayNumber", "(J)V"⟩
abbrev cX15_sayCharacter : ByteArray := prog_14_method_92_code
def yX15_sayCharacter : MethodName := ⟨RX15, "sayCharacter", "(II)V"⟩
abbrev cX15_sayText : ByteArray := prog_14_method_93_code
def yX15_sayText : MethodName := ⟨RX15, "sayText", "(III)V"⟩
abbrev cX15_path_ : ByteArray := prog_14_method_94_code
def yX15_path_ : MethodName := ⟨RX15, "path", "(I)I"⟩
abbrev cX15_sayValue : ByteArray := prog_14_method_95_code
def yX15_sayValue : MethodName := ⟨RX15, "sayValue", "(I)V"⟩
abbrev cX15_text : ByteArray := prog_14_method_96_code
def yX15_text : MethodName := ⟨RX15, "text", "(I)I"⟩
abbrev cX15_out : ByteArray := prog_14_method_97_code
def yX15_out : MethodName := ⟨RX15, "out", "(I)I"⟩
abbrev cX15_about : ByteArray := prog_14_method_98_code
def yX15_about : MethodName := ⟨RX15, "about", "(I)I"⟩
def RJx145de : String := "java/io/Serializable"
def TJx145de : u_T := fun k => match k with
  | _ => ("", "", "", false)
def tyJx145de : Nat → FieldType := fun k => match k with
  | _ => .int
theorem nmJx145de : ∀ a, a < 0 → ∀ b, b < 0 → a ≠ b → (TJx145de a).2.1 ≠ (TJx145de b).2.1 := by decide +kernel
theorem tyJx145de_ok : ∀ k, k < 0 → parseFieldDescriptor (TJx145de k).2.2.1 = some (tyJx145de k) := by decide +kernel
def RJx8e188 : String := "java/lang/Cloneable"
def TJx8e188 : u_T := fun k => match k with
  | _ => ("", "", "", false)
def tyJx8e188 : Nat → FieldType := fun k => match k with
  | _ => .int
theorem nmJx8e188 : ∀ a, a < 0 → ∀ b, b < 0 → a ≠ b → (TJx8e188 a).2.1 ≠ (TJx8e188 b).2.1 := by decide +kernel
theorem tyJx8e188_ok : ∀ k, k < 0 → parseFieldDescriptor (TJx8e188 k).2.2.1 = some (tyJx8e188 k) := by decide +kernel
def RJxab1ab : String := "java/lang/Iterable"
def TJxab1ab : u_T := fun k => match k with
  | _ => ("", "", "", false)
def tyJxab1ab : Nat → FieldType := fun k => match k with
  | _ => .int
theorem nmJxab1ab : ∀ a, a < 0 → ∀ b, b < 0 → a ≠ b → (TJxab1ab a).2.1 ≠ (TJxab1ab b).2.1 := by decide +kernel
theorem tyJxab1ab_ok : ∀ k, k < 0 → parseFieldDescriptor (TJxab1ab k).2.2.1 = some (tyJxab1ab k) := by decide +kernel
def RJ9 : String := "java/lang/Math"
def TJ9 : u_T := fun k => match k with
  | _ => ("", "", "", false)
def tyJ9 : Nat → FieldType := fun k => match k with
  | _ => .int
theorem nmJ9 : ∀ a, a < 0 → ∀ b, b < 0 → a ≠ b → (TJ9 a).2.1 ≠ (TJ9 b).2.1 := by decide +kernel
theorem tyJ9_ok : ∀ k, k < 0 → parseFieldDescriptor (TJ9 k).2.2.1 = some (tyJ9 k) := by decide +kernel
abbrev cJ9_abs_067f4 : ByteArray := prog_24_method_61_code
def yJ9_abs_067f4 : MethodName := ⟨RJ9, "abs", "(J)J"⟩
abbrev cJ9_max_7cf53 : ByteArray := prog_24_method_65_code
def yJ9_max_7cf53 : MethodName := ⟨RJ9, "max", "(II)I"⟩
abbrev cJ9_max_f86c9 : ByteArray := prog_24_method_66_code
def yJ9_max_f86c9 : MethodName := ⟨RJ9, "max", "(JJ)J"⟩
abbrev cJ9_min_7cf53 : ByteArray := prog_24_method_69_code
def yJ9_min_7cf53 : MethodName := ⟨RJ9, "min", "(II)I"⟩
abbrev cJ9_min_f86c9 : ByteArray := prog_24_method_70_code
def yJ9_min_f86c9 : MethodName := ⟨RJ9, "min", "(JJ)J"⟩
def RJ0 : String := "java/lang/String"
def TJ0 : u_T := fun k => match k with
  | _ => ("", "", "", false)
def tyJ0 : Nat → FieldType := fun k => match k with
  | _ => .int
theorem nmJ0 : ∀ a, a < 0 → ∀ b, b < 0 → a ≠ b → (TJ0 a).2.1 ≠ (TJ0 b).2.1 := by decide +kernel
theorem tyJ0_ok : ∀ k, k < 0 → parseFieldDescriptor (TJ0 k).2.2.1 = some (tyJ0 k) := by decide +kernel
abbrev cJ0_length_8abf5 : ByteArray := prog_26_method_54_code
def yJ0_length_8abf5 : MethodName := ⟨RJ0, "length", "()I"⟩
abbrev cJ0_charAt_5068e : ByteArray := prog_26_method_56_code
def yJ0_charAt_5068e : MethodName := ⟨RJ0, "charAt", "(I)C"⟩
abbrev cJ0_coder_7d493 : ByteArray := prog_26_method_152_code
def yJ0_coder_7d493 : MethodName := ⟨RJ0, "coder", "()B"⟩
abbrev cJ0_isLatin1_aae02 : ByteArray := prog_26_method_154_code
def yJ0_isLatin1_aae02 : MethodName := ⟨RJ0, "isLatin1", "()Z"⟩
abbrev cJ0_checkIndex_df160 : ByteArray := prog_26_method_155_code
def yJ0_checkIndex_df160 : MethodName := ⟨RJ0, "checkIndex", "(II)V"⟩
def RJ1 : String := "java/lang/StringLatin1"
def TJ1 : u_T := fun k => match k with
  | _ => ("", "", "", false)
def tyJ1 : Nat → FieldType := fun k => match k with
  | _ => .int
theorem nmJ1 : ∀ a, a < 0 → ∀ b, b < 0 → a ≠ b → (TJ1 a).2.1 ≠ (TJ1 b).2.1 := by decide +kernel
theorem tyJ1_ok : ∀ k, k < 0 → parseFieldDescriptor (TJ1 k).2.2.1 = some (tyJ1 k) := by decide +kernel
abbrev cJ1_charAt_3b067 : ByteArray := prog_27_method_2_code
def yJ1_charAt_3b067 : MethodName := ⟨RJ1, "charAt", "([BI)C"⟩
def RJ2 : String := "java/lang/StringUTF16"
def TJ2 : u_T := fun k => match k with
  | _ => ("", "", "", false)
def tyJ2 : Nat → FieldType := fun k => match k with
  | _ => .int
theorem nmJ2 : ∀ a, a < 0 → ∀ b, b < 0 → a ≠ b → (TJ2 a).2.1 ≠ (TJ2 b).2.1 := by decide +kernel
theorem tyJ2_ok : ∀ k, k < 0 → parseFieldDescriptor (TJ2 k).2.2.1 = some (tyJ2 k) := by decide +kernel
abbrev cJ2_getChar_3b067 : ByteArray := prog_28_method_5_code
def yJ2_getChar_3b067 : MethodName := ⟨RJ2, "getChar", "([BI)C"⟩
abbrev cJ2_length_9d52b : ByteArray := prog_28_method_6_code
def yJ2_length_9d52b : MethodName := ⟨RJ2, "length", "([B)I"⟩
abbrev cJ2_charAt_3b067 : ByteArray := prog_28_method_83_code
def yJ2_charAt_3b067 : MethodName := ⟨RJ2, "charAt", "([BI)C"⟩
abbrev cJ2_checkIndex_2214a : ByteArray := prog_28_method_91_code
def yJ2_checkIndex_2214a : MethodName := ⟨RJ2, "checkIndex", "(I[B)V"⟩
def RJ10 : String := "java/lang/System"
def TJ10 : u_T := fun k => match k with
  | _ => ("", "", "", false)
def tyJ10 : Nat → FieldType := fun k => match k with
  | _ => .int
theorem nmJ10 : ∀ a, a < 0 → ∀ b, b < 0 → a ≠ b → (TJ10 a).2.1 ≠ (TJ10 b).2.1 := by decide +kernel
theorem tyJ10_ok : ∀ k, k < 0 → parseFieldDescriptor (TJ10 k).2.2.1 = some (tyJ10 k) := by decide +kernel
def RJxa1e45 : String := "java/util/AbstractCollection"
def TJxa1e45 : u_T := fun k => match k with
  | _ => ("", "", "", false)
def tyJxa1e45 : Nat → FieldType := fun k => match k with
  | _ => .int
theorem nmJxa1e45 : ∀ a, a < 0 → ∀ b, b < 0 → a ≠ b → (TJxa1e45 a).2.1 ≠ (TJxa1e45 b).2.1 := by decide +kernel
theorem tyJxa1e45_ok : ∀ k, k < 0 → parseFieldDescriptor (TJxa1e45 k).2.2.1 = some (tyJxa1e45 k) := by decide +kernel
abbrev cJxa1e45_init_da8c8 : ByteArray := prog_31_method_1_code
def yJxa1e45_init_da8c8 : MethodName := ⟨RJxa1e45, "<init>", "()V"⟩
def RJxc12de : String := "java/util/AbstractList"
def TJxc12de : u_T := fun k => match k with
  | _ => ("", "", "", false)
def tyJxc12de : Nat → FieldType := fun k => match k with
  | _ => .int
theorem nmJxc12de : ∀ a, a < 0 → ∀ b, b < 0 → a ≠ b → (TJxc12de a).2.1 ≠ (TJxc12de b).2.1 := by decide +kernel
theorem tyJxc12de_ok : ∀ k, k < 0 → parseFieldDescriptor (TJxc12de k).2.2.1 = some (tyJxc12de k) := by decide +kernel
abbrev cJxc12de_init_da8c8 : ByteArray := prog_32_method_1_code
def yJxc12de_init_da8c8 : MethodName := ⟨RJxc12de, "<init>", "()V"⟩
def RJx4a65c : String := "java/util/ArrayList"
def TJx4a65c : u_T := fun k => match k with
  | 0 => ("java/util/AbstractList", "modCount", "I", false)
  | 1 => ("java/util/ArrayList", "elementData", "[Ljava/lang/Object;", false)
  | _ => ("java/util/ArrayList", "size", "I", false)
def tyJx4a65c : Nat → FieldType := fun k => match k with
  | 0 => .int
  | 1 => .array (.object "java/lang/Object")
  | _ => .int
theorem nmJx4a65c : ∀ a, a < 3 → ∀ b, b < 3 → a ≠ b → (TJx4a65c a).2.1 ≠ (TJx4a65c b).2.1 := by decide +kernel
theorem tyJx4a65c_ok : ∀ k, k < 3 → parseFieldDescriptor (TJx4a65c k).2.2.1 = some (tyJx4a65c k) := by decide +kernel
abbrev cJx4a65c_init_da8c8 : ByteArray := prog_33_method_2_code
def yJx4a65c_init_da8c8 : MethodName := ⟨RJx4a65c, "<init>", "()V"⟩
abbrev cJx4a65c_grow_92f84 : ByteArray := prog_33_method_6_code
def yJx4a65c_grow_92f84 : MethodName := ⟨RJx4a65c, "grow", "(I)[Ljava/lang/Object;"⟩
abbrev cJx4a65c_grow_d5877 : ByteArray := prog_33_method_7_code
def yJx4a65c_grow_d5877 : MethodName := ⟨RJx4a65c, "grow", "()[Ljava/lang/Object;"⟩
abbrev cJx4a65c_size_8abf5 : ByteArray := prog_33_method_8_code
def yJx4a65c_size_8abf5 : MethodName := ⟨RJx4a65c, "size", "()I"⟩
abbrev cJx4a65c_elementData_915e3 : ByteArray := prog_33_method_18_code
def yJx4a65c_elementData_915e3 : MethodName := ⟨RJx4a65c, "elementData", "(I)Ljava/lang/Object;"⟩
abbrev cJx4a65c_get_915e3 : ByteArray := prog_33_method_20_code
def yJx4a65c_get_915e3 : MethodName := ⟨RJx4a65c, "get", "(I)Ljava/lang/Object;"⟩
abbrev cJx4a65c_add_72be8 : ByteArray := prog_33_method_24_code
def yJx4a65c_add_72be8 : MethodName := ⟨RJx4a65c, "add", "(Ljava/lang/Object;[Ljava/lang/Object;I)V"⟩
abbrev cJx4a65c_add_9ea2d : ByteArray := prog_33_method_25_code
def yJx4a65c_add_9ea2d : MethodName := ⟨RJx4a65c, "add", "(Ljava/lang/Object;)Z"⟩
def RJ7 : String := "java/util/Arrays"
def TJ7 : u_T := fun k => match k with
  | _ => ("", "", "", false)
def tyJ7 : Nat → FieldType := fun k => match k with
  | _ => .int
theorem nmJ7 : ∀ a, a < 0 → ∀ b, b < 0 → a ≠ b → (TJ7 a).2.1 ≠ (TJ7 b).2.1 := by decide +kernel
theorem tyJ7_ok : ∀ k, k < 0 → parseFieldDescriptor (TJ7 k).2.2.1 = some (tyJ7 k) := by decide +kernel
abbrev cJ7_copyOf_1904c : ByteArray := prog_34_method_119_code
def yJ7_copyOf_1904c : MethodName := ⟨RJ7, "copyOf", "([Ljava/lang/Object;I)[Ljava/lang/Object;"⟩
abbrev cJ7_copyOf_6403c : ByteArray := prog_34_method_120_code
def yJ7_copyOf_6403c : MethodName := ⟨RJ7, "copyOf", "([Ljava/lang/Object;ILjava/lang/Class;)[Ljava/lang/Object;"⟩
abbrev cJ7_copyOf_59c91 : ByteArray := prog_34_method_123_code
def yJ7_copyOf_59c91 : MethodName := ⟨RJ7, "copyOf", "([II)[I"⟩
def RJx5ef63 : String := "java/util/Collection"
def TJx5ef63 : u_T := fun k => match k with
  | _ => ("", "", "", false)
def tyJx5ef63 : Nat → FieldType := fun k => match k with
  | _ => .int
theorem nmJx5ef63 : ∀ a, a < 0 → ∀ b, b < 0 → a ≠ b → (TJx5ef63 a).2.1 ≠ (TJx5ef63 b).2.1 := by decide +kernel
theorem tyJx5ef63_ok : ∀ k, k < 0 → parseFieldDescriptor (TJx5ef63 k).2.2.1 = some (tyJx5ef63 k) := by decide +kernel
def RJxbd725 : String := "java/util/List"
def TJxbd725 : u_T := fun k => match k with
  | _ => ("", "", "", false)
def tyJxbd725 : Nat → FieldType := fun k => match k with
  | _ => .int
theorem nmJxbd725 : ∀ a, a < 0 → ∀ b, b < 0 → a ≠ b → (TJxbd725 a).2.1 ≠ (TJxbd725 b).2.1 := by decide +kernel
theorem tyJxbd725_ok : ∀ k, k < 0 → parseFieldDescriptor (TJxbd725 k).2.2.1 = some (tyJxbd725 k) := by decide +kernel
def RJ15 : String := "java/util/Objects"
def TJ15 : u_T := fun k => match k with
  | _ => ("", "", "", false)
def tyJ15 : Nat → FieldType := fun k => match k with
  | _ => .int
theorem nmJ15 : ∀ a, a < 0 → ∀ b, b < 0 → a ≠ b → (TJ15 a).2.1 ≠ (TJ15 b).2.1 := by decide +kernel
theorem tyJ15_ok : ∀ k, k < 0 → parseFieldDescriptor (TJ15 k).2.2.1 = some (tyJ15 k) := by decide +kernel
abbrev cJ15_checkIndex_7cf53 : ByteArray := prog_38_method_17_code
def yJ15_checkIndex_7cf53 : MethodName := ⟨RJ15, "checkIndex", "(II)I"⟩
def RJxf0a74 : String := "java/util/RandomAccess"
def TJxf0a74 : u_T := fun k => match k with
  | _ => ("", "", "", false)
def tyJxf0a74 : Nat → FieldType := fun k => match k with
  | _ => .int
theorem nmJxf0a74 : ∀ a, a < 0 → ∀ b, b < 0 → a ≠ b → (TJxf0a74 a).2.1 ≠ (TJxf0a74 b).2.1 := by decide +kernel
theorem tyJxf0a74_ok : ∀ k, k < 0 → parseFieldDescriptor (TJxf0a74 k).2.2.1 = some (tyJxf0a74 k) := by decide +kernel
def RJxa66e6 : String := "java/util/SequencedCollection"
def TJxa66e6 : u_T := fun k => match k with
  | _ => ("", "", "", false)
def tyJxa66e6 : Nat → FieldType := fun k => match k with
  | _ => .int
theorem nmJxa66e6 : ∀ a, a < 0 → ∀ b, b < 0 → a ≠ b → (TJxa66e6 a).2.1 ≠ (TJxa66e6 b).2.1 := by decide +kernel
theorem tyJxa66e6_ok : ∀ k, k < 0 → parseFieldDescriptor (TJxa66e6 k).2.2.1 = some (tyJxa66e6 k) := by decide +kernel
def RJ8 : String := "jdk/internal/util/ArraysSupport"
def TJ8 : u_T := fun k => match k with
  | _ => ("", "", "", false)
def tyJ8 : Nat → FieldType := fun k => match k with
  | _ => .int
theorem nmJ8 : ∀ a, a < 0 → ∀ b, b < 0 → a ≠ b → (TJ8 a).2.1 ≠ (TJ8 b).2.1 := by decide +kernel
theorem tyJ8_ok : ∀ k, k < 0 → parseFieldDescriptor (TJ8 k).2.2.1 = some (tyJ8 k) := by decide +kernel
abbrev cJ8_newLength_cabcc : ByteArray := prog_41_method_27_code
def yJ8_newLength_cabcc : MethodName := ⟨RJ8, "newLength", "(III)I"⟩
abbrev cJ8_hugeLength_7cf53 : ByteArray := prog_41_method_28_code
def yJ8_hugeLength_7cf53 : MethodName := ⟨RJ8, "hugeLength", "(II)I"⟩
def RJ3 : String := "jdk/internal/util/Preconditions"
def TJ3 : u_T := fun k => match k with
  | _ => ("", "", "", false)
def tyJ3 : Nat → FieldType := fun k => match k with
  | _ => .int
theorem nmJ3 : ∀ a, a < 0 → ∀ b, b < 0 → a ≠ b → (TJ3 a).2.1 ≠ (TJ3 b).2.1 := by decide +kernel
theorem tyJ3_ok : ∀ k, k < 0 → parseFieldDescriptor (TJ3 k).2.2.1 = some (tyJ3 k) := by decide +kernel
abbrev cJ3_checkIndex_8e157 : ByteArray := prog_42_method_11_code
def yJ3_checkIndex_8e157 : MethodName := ⟨RJ3, "checkIndex", "(IILjava/util/function/BiFunction;)I"⟩
def RL : String := "PathHouseLaw"
abbrev cL_out : ByteArray := method_3_code
def yL_out : MethodName := ⟨RL, "out", "(LPathHouse;I[J)I"⟩
abbrev cL_law : ByteArray := code
def yL_law : MethodName := ⟨RL, "law", "([I)Z"⟩
abbrev vwCl : List vw_C := [(RJx4a65c, TJx4a65c, 3), (RX0, TX0, 5), (RX1, TX1, 11), (RX2, TX2, 2), (RX3, TX3, 3), (RX4, TX4, 4), (RX5, TX5, 7), (RX6, TX6, 2), (RX7, TX7, 2), (RX8, TX8, 8), (RX9, TX9, 9), (RX10, TX10, 3), (RX11, TX11, 10), (RX12, TX12, 12), (RX13, TX13, 14), (RX14, TX14, 8), (RX15, TX15, 37)]
