def RX0 : String := "PolicyCompiler$Diagram"
def TX0 : u_T := fun k => match k with
  | 0 => ("PolicyCompiler$Diagram", "lowActions", "[J", true)
  | 1 => ("PolicyCompiler$Diagram", "highActions", "[J", true)
  | 2 => ("PolicyCompiler$Diagram", "fields", "[I", true)
  | 3 => ("PolicyCompiler$Diagram", "depths", "[I", true)
  | 4 => ("PolicyCompiler$Diagram", "children", "[I", true)
  | 5 => ("PolicyCompiler$Diagram", "leafCount", "I", false)
  | 6 => ("PolicyCompiler$Diagram", "nodeCount", "I", false)
  | 7 => ("PolicyCompiler$Diagram", "root", "I", false)
  | 8 => ("PolicyCompiler$Diagram", "layer", "[I", true)
  | _ => ("PolicyCompiler$Diagram", "twins", "[I", true)
def tyX0 : Nat → FieldType := fun k => match k with
  | 0 => .array .long
  | 1 => .array .long
  | 2 => .array .int
  | 3 => .array .int
  | 4 => .array .int
  | 5 => .int
  | 6 => .int
  | 7 => .int
  | 8 => .array .int
  | _ => .array .int
abbrev wsX00 : List Cond := u_ws RX0 TX0 10
theorem nmX0 : ∀ a, a < 10 → ∀ b, b < 10 → a ≠ b → (TX0 a).2.1 ≠ (TX0 b).2.1 := by decide +kernel
theorem tyX0_ok : ∀ k, k < 10 → parseFieldDescriptor (TX0 k).2.2.1 = some (tyX0 k) := by decide +kernel
abbrev cX0_init : ByteArray := prog_2_method_1_code
def yX0_init : MethodName := ⟨RX0, "<init>", "()V"⟩
abbrev cX0_nodeTotal : ByteArray := prog_2_method_2_code
def yX0_nodeTotal : MethodName := ⟨RX0, "nodeTotal", "()I"⟩
abbrev cX0_leafTotal : ByteArray := prog_2_method_3_code
def yX0_leafTotal : MethodName := ⟨RX0, "leafTotal", "()I"⟩
abbrev cX0_longestWay : ByteArray := prog_2_method_4_code
def yX0_longestWay : MethodName := ⟨RX0, "longestWay", "()I"⟩
abbrev cX0_depthOf : ByteArray := prog_2_method_5_code
def yX0_depthOf : MethodName := ⟨RX0, "depthOf", "(I)I"⟩
abbrev cX0_rootNode : ByteArray := prog_2_method_6_code
def yX0_rootNode : MethodName := ⟨RX0, "rootNode", "()I"⟩
abbrev cX0_isLeaf : ByteArray := prog_2_method_7_code
def yX0_isLeaf : MethodName := ⟨RX0, "isLeaf", "(I)Z"⟩
abbrev cX0_fieldOf : ByteArray := prog_2_method_8_code
def yX0_fieldOf : MethodName := ⟨RX0, "fieldOf", "(I)I"⟩
abbrev cX0_childOf : ByteArray := prog_2_method_9_code
def yX0_childOf : MethodName := ⟨RX0, "childOf", "(II)I"⟩
abbrev cX0_build : ByteArray := prog_2_method_10_code
def yX0_build : MethodName := ⟨RX0, "build", "(LPolicyCompiler$Relation;)V"⟩
abbrev cX0_leafFor : ByteArray := prog_2_method_11_code
def yX0_leafFor : MethodName := ⟨RX0, "leafFor", "(IJ)I"⟩
abbrev cX0_leafWith : ByteArray := prog_2_method_12_code
def yX0_leafWith : MethodName := ⟨RX0, "leafWith", "(JJ)I"⟩
abbrev cX0_newLeaf : ByteArray := prog_2_method_13_code
def yX0_newLeaf : MethodName := ⟨RX0, "newLeaf", "(JJ)I"⟩
abbrev cX0_nodeFor : ByteArray := prog_2_method_14_code
def yX0_nodeFor : MethodName := ⟨RX0, "nodeFor", "(II)I"⟩
abbrev cX0_testWith : ByteArray := prog_2_method_15_code
def yX0_testWith : MethodName := ⟨RX0, "testWith", "(IIIII)I"⟩
abbrev cX0_newTest : ByteArray := prog_2_method_16_code
def yX0_newTest : MethodName := ⟨RX0, "newTest", "(II)I"⟩
abbrev cX0_mainChildOf : ByteArray := prog_2_method_17_code
def yX0_mainChildOf : MethodName := ⟨RX0, "mainChildOf", "(I)I"⟩
abbrev cX0_valuesLeadingTo : ByteArray := prog_2_method_18_code
def yX0_valuesLeadingTo : MethodName := ⟨RX0, "valuesLeadingTo", "(II)I"⟩
abbrev cX0_twinsIn : ByteArray := prog_2_method_19_code
def yX0_twinsIn : MethodName := ⟨RX0, "twinsIn", "(LPolicyCompiler$Diagram;)I"⟩
abbrev cX0_twinOf : ByteArray := prog_2_method_20_code
def yX0_twinOf : MethodName := ⟨RX0, "twinOf", "(ILPolicyCompiler$Diagram;)I"⟩
abbrev cX0_twinOfChild : ByteArray := prog_2_method_21_code
def yX0_twinOfChild : MethodName := ⟨RX0, "twinOfChild", "(II)I"⟩
abbrev cX0_hasAction : ByteArray := prog_2_method_22_code
def yX0_hasAction : MethodName := ⟨RX0, "hasAction", "(II)Z"⟩
abbrev cX0_actionTotal : ByteArray := prog_2_method_23_code
def yX0_actionTotal : MethodName := ⟨RX0, "actionTotal", "(I)I"⟩
abbrev cX0_actionAt : ByteArray := prog_2_method_24_code
def yX0_actionAt : MethodName := ⟨RX0, "actionAt", "(II)I"⟩
def RX1 : String := "PolicyCompiler$Evaluator"
def TX1 : u_T := fun k => match k with
  | _ => ("PolicyCompiler$Evaluator", "images", "[J", true)
def tyX1 : Nat → FieldType := fun k => match k with
  | _ => .array .long
abbrev wsX10 : List Cond := u_ws RX1 TX1 1
theorem nmX1 : ∀ a, a < 1 → ∀ b, b < 1 → a ≠ b → (TX1 a).2.1 ≠ (TX1 b).2.1 := by decide +kernel
theorem tyX1_ok : ∀ k, k < 1 → parseFieldDescriptor (TX1 k).2.2.1 = some (tyX1 k) := by decide +kernel
abbrev cX1_init : ByteArray := prog_3_method_1_code
def yX1_init : MethodName := ⟨RX1, "<init>", "()V"⟩
abbrev cX1_evaluate : ByteArray := prog_3_method_2_code
def yX1_evaluate : MethodName := ⟨RX1, "evaluate", "(LPolicyCompiler$Policy;LPolicyCompiler$Relation;)V"⟩
abbrev cX1_evaluateNode : ByteArray := prog_3_method_3_code
def yX1_evaluateNode : MethodName := ⟨RX1, "evaluateNode", "(LPolicyCompiler$Policy;I)V"⟩
abbrev cX1_evaluateLeaf : ByteArray := prog_3_method_4_code
def yX1_evaluateLeaf : MethodName := ⟨RX1, "evaluateLeaf", "(LPolicyCompiler$Policy;I)V"⟩
abbrev cX1_unite : ByteArray := prog_3_method_5_code
def yX1_unite : MethodName := ⟨RX1, "unite", "(III)V"⟩
abbrev cX1_chain : ByteArray := prog_3_method_6_code
def yX1_chain : MethodName := ⟨RX1, "chain", "(III)V"⟩
abbrev cX1_repeat : ByteArray := prog_3_method_7_code
def yX1_repeat : MethodName := ⟨RX1, "repeat", "(II)V"⟩
abbrev cX1_negate : ByteArray := prog_3_method_8_code
def yX1_negate : MethodName := ⟨RX1, "negate", "(II)V"⟩
abbrev cX1_choose : ByteArray := prog_3_method_9_code
def yX1_choose : MethodName := ⟨RX1, "choose", "(IIII)V"⟩
abbrev cX1_imageOf : ByteArray := prog_3_method_10_code
def yX1_imageOf : MethodName := ⟨RX1, "imageOf", "(II)J"⟩
abbrev cX1_assign : ByteArray := prog_3_method_11_code
def yX1_assign : MethodName := ⟨RX1, "assign", "(IIJ)V"⟩
def RX2 : String := "PolicyCompiler$History"
def TX2 : u_T := fun k => match k with
  | 0 => ("PolicyCompiler$History", "changed", "[I", true)
  | 1 => ("PolicyCompiler$History", "before", "[LPolicyCompiler$Policy;", true)
  | _ => ("PolicyCompiler$History", "saved", "I", false)
def tyX2 : Nat → FieldType := fun k => match k with
  | 0 => .array .int
  | 1 => .array (.object "PolicyCompiler$Policy")
  | _ => .int
abbrev wsX20 : List Cond := u_ws RX2 TX2 3
theorem nmX2 : ∀ a, a < 3 → ∀ b, b < 3 → a ≠ b → (TX2 a).2.1 ≠ (TX2 b).2.1 := by decide +kernel
theorem tyX2_ok : ∀ k, k < 3 → parseFieldDescriptor (TX2 k).2.2.1 = some (tyX2 k) := by decide +kernel
abbrev cX2_init : ByteArray := prog_4_method_1_code
def yX2_init : MethodName := ⟨RX2, "<init>", "()V"⟩
abbrev cX2_savedCount : ByteArray := prog_4_method_2_code
def yX2_savedCount : MethodName := ⟨RX2, "savedCount", "()I"⟩
abbrev cX2_save : ByteArray := prog_4_method_3_code
def yX2_save : MethodName := ⟨RX2, "save", "(ILPolicyCompiler$Policy;)V"⟩
abbrev cX2_dropOldest : ByteArray := prog_4_method_4_code
def yX2_dropOldest : MethodName := ⟨RX2, "dropOldest", "()V"⟩
abbrev cX2_newestSlot : ByteArray := prog_4_method_5_code
def yX2_newestSlot : MethodName := ⟨RX2, "newestSlot", "()I"⟩
abbrev cX2_newestPolicy : ByteArray := prog_4_method_6_code
def yX2_newestPolicy : MethodName := ⟨RX2, "newestPolicy", "()LPolicyCompiler$Policy;"⟩
abbrev cX2_dropNewest : ByteArray := prog_4_method_7_code
def yX2_dropNewest : MethodName := ⟨RX2, "dropNewest", "()V"⟩
def RX3 : String := "PolicyCompiler$Parser"
def TX3 : u_T := fun k => match k with
  | 0 => ("PolicyCompiler$Parser", "opened", "[I", true)
  | 1 => ("PolicyCompiler$Parser", "openedAt", "[I", true)
  | 2 => ("PolicyCompiler$Parser", "openCount", "I", false)
  | 3 => ("PolicyCompiler$Parser", "predicates", "[Z", true)
  | 4 => ("PolicyCompiler$Parser", "operandCount", "I", false)
  | 5 => ("PolicyCompiler$Parser", "built", "LPolicyCompiler$Policy;", true)
  | 6 => ("PolicyCompiler$Parser", "state", "I", false)
  | 7 => ("PolicyCompiler$Parser", "field", "I", false)
  | 8 => ("PolicyCompiler$Parser", "sign", "I", false)
  | _ => ("PolicyCompiler$Parser", "error", "I", false)
def tyX3 : Nat → FieldType := fun k => match k with
  | 0 => .array .int
  | 1 => .array .int
  | 2 => .int
  | 3 => .array .boolean
  | 4 => .int
  | 5 => .object "PolicyCompiler$Policy"
  | 6 => .int
  | 7 => .int
  | 8 => .int
  | _ => .int
abbrev wsX30 : List Cond := u_ws RX3 TX3 10
theorem nmX3 : ∀ a, a < 10 → ∀ b, b < 10 → a ≠ b → (TX3 a).2.1 ≠ (TX3 b).2.1 := by decide +kernel
theorem tyX3_ok : ∀ k, k < 10 → parseFieldDescriptor (TX3 k).2.2.1 = some (tyX3 k) := by decide +kernel
abbrev cX3_init : ByteArray := prog_5_method_1_code
def yX3_init : MethodName := ⟨RX3, "<init>", "()V"⟩
abbrev cX3_result : ByteArray := prog_5_method_2_code
def yX3_result : MethodName := ⟨RX3, "result", "()LPolicyCompiler$Policy;"⟩
abbrev cX3_read : ByteArray := prog_5_method_3_code
def yX3_read : MethodName := ⟨RX3, "read", "([II[LPolicyCompiler$Slot;)I"⟩
abbrev cX3_finish : ByteArray := prog_5_method_4_code
def yX3_finish : MethodName := ⟨RX3, "finish", "(I)V"⟩
abbrev cX3_takeFactor : ByteArray := prog_5_method_5_code
def yX3_takeFactor : MethodName := ⟨RX3, "takeFactor", "(II[LPolicyCompiler$Slot;)V"⟩
abbrev cX3_takeSign : ByteArray := prog_5_method_6_code
def yX3_takeSign : MethodName := ⟨RX3, "takeSign", "(II)V"⟩
abbrev cX3_takeDigit : ByteArray := prog_5_method_7_code
def yX3_takeDigit : MethodName := ⟨RX3, "takeDigit", "(II)V"⟩
abbrev cX3_endLeaf : ByteArray := prog_5_method_8_code
def yX3_endLeaf : MethodName := ⟨RX3, "endLeaf", "(III)V"⟩
abbrev cX3_takeBehindAtom : ByteArray := prog_5_method_9_code
def yX3_takeBehindAtom : MethodName := ⟨RX3, "takeBehindAtom", "(II)V"⟩
abbrev cX3_endFactor : ByteArray := prog_5_method_10_code
def yX3_endFactor : MethodName := ⟨RX3, "endFactor", "()V"⟩
abbrev cX3_endUnion : ByteArray := prog_5_method_11_code
def yX3_endUnion : MethodName := ⟨RX3, "endUnion", "()V"⟩
abbrev cX3_endPair : ByteArray := prog_5_method_12_code
def yX3_endPair : MethodName := ⟨RX3, "endPair", "(II)V"⟩
abbrev cX3_takeBracket : ByteArray := prog_5_method_13_code
def yX3_takeBracket : MethodName := ⟨RX3, "takeBracket", "(II)V"⟩
abbrev cX3_endChoice : ByteArray := prog_5_method_14_code
def yX3_endChoice : MethodName := ⟨RX3, "endChoice", "()V"⟩
abbrev cX3_open : ByteArray := prog_5_method_15_code
def yX3_open : MethodName := ⟨RX3, "open", "(II)V"⟩
abbrev cX3_innermost : ByteArray := prog_5_method_16_code
def yX3_innermost : MethodName := ⟨RX3, "innermost", "()I"⟩
abbrev cX3_innermostBegin : ByteArray := prog_5_method_17_code
def yX3_innermostBegin : MethodName := ⟨RX3, "innermostBegin", "()I"⟩
abbrev cX3_pushOperand : ByteArray := prog_5_method_18_code
def yX3_pushOperand : MethodName := ⟨RX3, "pushOperand", "(Z)V"⟩
abbrev cX3_popOperand : ByteArray := prog_5_method_19_code
def yX3_popOperand : MethodName := ⟨RX3, "popOperand", "()Z"⟩
abbrev cX3_topIsPredicate : ByteArray := prog_5_method_20_code
def yX3_topIsPredicate : MethodName := ⟨RX3, "topIsPredicate", "()Z"⟩
def RX4 : String := "PolicyCompiler$Policy"
def TX4 : u_T := fun k => match k with
  | 0 => ("PolicyCompiler$Policy", "nodes", "[I", true)
  | 1 => ("PolicyCompiler$Policy", "begins", "[I", true)
  | 2 => ("PolicyCompiler$Policy", "count", "I", false)
  | _ => ("PolicyCompiler$Policy", "predicate", "Z", false)
def tyX4 : Nat → FieldType := fun k => match k with
  | 0 => .array .int
  | 1 => .array .int
  | 2 => .int
  | _ => .boolean
abbrev wsX40 : List Cond := u_ws RX4 TX4 4
theorem nmX4 : ∀ a, a < 4 → ∀ b, b < 4 → a ≠ b → (TX4 a).2.1 ≠ (TX4 b).2.1 := by decide +kernel
theorem tyX4_ok : ∀ k, k < 4 → parseFieldDescriptor (TX4 k).2.2.1 = some (tyX4 k) := by decide +kernel
abbrev cX4_init : ByteArray := prog_6_method_1_code
def yX4_init : MethodName := ⟨RX4, "<init>", "()V"⟩
abbrev cX4_start : ByteArray := prog_6_method_2_code
def yX4_start : MethodName := ⟨RX4, "start", "()V"⟩
abbrev cX4_add : ByteArray := prog_6_method_3_code
def yX4_add : MethodName := ⟨RX4, "add", "(III)V"⟩
abbrev cX4_operandsOf : ByteArray := prog_6_method_4_code
def yX4_operandsOf : MethodName := ⟨RX4, "operandsOf", "(I)I"⟩
abbrev cX4_addAll : ByteArray := prog_6_method_5_code
def yX4_addAll : MethodName := ⟨RX4, "addAll", "(LPolicyCompiler$Policy;)V"⟩
abbrev cX4_markPredicate : ByteArray := prog_6_method_6_code
def yX4_markPredicate : MethodName := ⟨RX4, "markPredicate", "(Z)V"⟩
abbrev cX4_givesPredicate : ByteArray := prog_6_method_7_code
def yX4_givesPredicate : MethodName := ⟨RX4, "givesPredicate", "()Z"⟩
abbrev cX4_nodeCount : ByteArray := prog_6_method_8_code
def yX4_nodeCount : MethodName := ⟨RX4, "nodeCount", "()I"⟩
abbrev cX4_nodeAt : ByteArray := prog_6_method_9_code
def yX4_nodeAt : MethodName := ⟨RX4, "nodeAt", "(I)I"⟩
abbrev cX4_kindAt : ByteArray := prog_6_method_10_code
def yX4_kindAt : MethodName := ⟨RX4, "kindAt", "(I)I"⟩
abbrev cX4_fieldAt : ByteArray := prog_6_method_11_code
def yX4_fieldAt : MethodName := ⟨RX4, "fieldAt", "(I)I"⟩
abbrev cX4_valueAt : ByteArray := prog_6_method_12_code
def yX4_valueAt : MethodName := ⟨RX4, "valueAt", "(I)I"⟩
abbrev cX4_operandAt : ByteArray := prog_6_method_13_code
def yX4_operandAt : MethodName := ⟨RX4, "operandAt", "(II)I"⟩
def RX5 : String := "PolicyCompiler$Printout"
def TX5 : u_T := fun k => match k with
  | 0 => ("PolicyCompiler$Printout", "bytes", "[I", true)
  | 1 => ("PolicyCompiler$Printout", "lengths", "[I", true)
  | 2 => ("PolicyCompiler$Printout", "wrapped", "[Z", true)
  | 3 => ("PolicyCompiler$Printout", "places", "[I", true)
  | _ => ("PolicyCompiler$Printout", "total", "I", false)
def tyX5 : Nat → FieldType := fun k => match k with
  | 0 => .array .int
  | 1 => .array .int
  | 2 => .array .boolean
  | 3 => .array .int
  | _ => .int
abbrev wsX50 : List Cond := u_ws RX5 TX5 5
theorem nmX5 : ∀ a, a < 5 → ∀ b, b < 5 → a ≠ b → (TX5 a).2.1 ≠ (TX5 b).2.1 := by decide +kernel
theorem tyX5_ok : ∀ k, k < 5 → parseFieldDescriptor (TX5 k).2.2.1 = some (tyX5 k) := by decide +kernel
abbrev cX5_init : ByteArray := prog_7_method_1_code
def yX5_init : MethodName := ⟨RX5, "<init>", "()V"⟩
abbrev cX5_byteCount : ByteArray := prog_7_method_2_code
def yX5_byteCount : MethodName := ⟨RX5, "byteCount", "()I"⟩
abbrev cX5_byteAt : ByteArray := prog_7_method_3_code
def yX5_byteAt : MethodName := ⟨RX5, "byteAt", "(I)I"⟩
abbrev cX5_print : ByteArray := prog_7_method_4_code
def yX5_print : MethodName := ⟨RX5, "print", "(LPolicyCompiler$Policy;)V"⟩
abbrev cX5_measured : ByteArray := prog_7_method_5_code
def yX5_measured : MethodName := ⟨RX5, "measured", "(LPolicyCompiler$Policy;I)I"⟩
abbrev cX5_ownLength : ByteArray := prog_7_method_6_code
def yX5_ownLength : MethodName := ⟨RX5, "ownLength", "(I)I"⟩
abbrev cX5_needsParentheses : ByteArray := prog_7_method_7_code
def yX5_needsParentheses : MethodName := ⟨RX5, "needsParentheses", "(IIZ)Z"⟩
abbrev cX5_printNode : ByteArray := prog_7_method_8_code
def yX5_printNode : MethodName := ⟨RX5, "printNode", "(LPolicyCompiler$Policy;I)V"⟩
abbrev cX5_printLeaf : ByteArray := prog_7_method_9_code
def yX5_printLeaf : MethodName := ⟨RX5, "printLeaf", "(LPolicyCompiler$Policy;II)V"⟩
abbrev cX5_printPair : ByteArray := prog_7_method_10_code
def yX5_printPair : MethodName := ⟨RX5, "printPair", "(LPolicyCompiler$Policy;II)V"⟩
abbrev cX5_printChoice : ByteArray := prog_7_method_11_code
def yX5_printChoice : MethodName := ⟨RX5, "printChoice", "(LPolicyCompiler$Policy;I)V"⟩
abbrev cX5_placed : ByteArray := prog_7_method_12_code
def yX5_placed : MethodName := ⟨RX5, "placed", "(II)I"⟩
abbrev cX5_innerPlace : ByteArray := prog_7_method_13_code
def yX5_innerPlace : MethodName := ⟨RX5, "innerPlace", "(I)I"⟩
abbrev cX5_put : ByteArray := prog_7_method_14_code
def yX5_put : MethodName := ⟨RX5, "put", "(II)V"⟩
def RX6 : String := "PolicyCompiler$Relation"
def TX6 : u_T := fun k => match k with
  | _ => ("PolicyCompiler$Relation", "images", "[J", true)
def tyX6 : Nat → FieldType := fun k => match k with
  | _ => .array .long
abbrev wsX60 : List Cond := u_ws RX6 TX6 1
theorem nmX6 : ∀ a, a < 1 → ∀ b, b < 1 → a ≠ b → (TX6 a).2.1 ≠ (TX6 b).2.1 := by decide +kernel
theorem tyX6_ok : ∀ k, k < 1 → parseFieldDescriptor (TX6 k).2.2.1 = some (tyX6 k) := by decide +kernel
abbrev cX6_init : ByteArray := prog_8_method_1_code
def yX6_init : MethodName := ⟨RX6, "<init>", "()V"⟩
abbrev cX6_assign : ByteArray := prog_8_method_2_code
def yX6_assign : MethodName := ⟨RX6, "assign", "(IJ)V"⟩
abbrev cX6_imageOf : ByteArray := prog_8_method_3_code
def yX6_imageOf : MethodName := ⟨RX6, "imageOf", "(I)J"⟩
abbrev cX6_domain : ByteArray := prog_8_method_4_code
def yX6_domain : MethodName := ⟨RX6, "domain", "()J"⟩
abbrev cX6_widest : ByteArray := prog_8_method_5_code
def yX6_widest : MethodName := ⟨RX6, "widest", "()I"⟩
abbrev cX6_mostSteps : ByteArray := prog_8_method_6_code
def yX6_mostSteps : MethodName := ⟨RX6, "mostSteps", "()I"⟩
abbrev cX6_stepsFrom : ByteArray := prog_8_method_7_code
def yX6_stepsFrom : MethodName := ⟨RX6, "stepsFrom", "(I)I"⟩
abbrev cX6_orderTo : ByteArray := prog_8_method_8_code
def yX6_orderTo : MethodName := ⟨RX6, "orderTo", "(LPolicyCompiler$Relation;)I"⟩
abbrev cX6_firstUnlike : ByteArray := prog_8_method_9_code
def yX6_firstUnlike : MethodName := ⟨RX6, "firstUnlike", "(LPolicyCompiler$Relation;)I"⟩
def RX7 : String := "PolicyCompiler$Slot"
def TX7 : u_T := fun k => match k with
  | 0 => ("PolicyCompiler$Slot", "policy", "LPolicyCompiler$Policy;", true)
  | 1 => ("PolicyCompiler$Slot", "printout", "LPolicyCompiler$Printout;", true)
  | 2 => ("PolicyCompiler$Slot", "relation", "LPolicyCompiler$Relation;", true)
  | 3 => ("PolicyCompiler$Slot", "diagram", "LPolicyCompiler$Diagram;", true)
  | 4 => ("PolicyCompiler$Slot", "table", "LPolicyCompiler$Table;", true)
  | _ => ("PolicyCompiler$Slot", "fresh", "Z", false)
def tyX7 : Nat → FieldType := fun k => match k with
  | 0 => .object "PolicyCompiler$Policy"
  | 1 => .object "PolicyCompiler$Printout"
  | 2 => .object "PolicyCompiler$Relation"
  | 3 => .object "PolicyCompiler$Diagram"
  | 4 => .object "PolicyCompiler$Table"
  | _ => .boolean
abbrev wsX70 : List Cond := u_ws RX7 TX7 6
theorem nmX7 : ∀ a, a < 6 → ∀ b, b < 6 → a ≠ b → (TX7 a).2.1 ≠ (TX7 b).2.1 := by decide +kernel
theorem tyX7_ok : ∀ k, k < 6 → parseFieldDescriptor (TX7 k).2.2.1 = some (tyX7 k) := by decide +kernel
abbrev cX7_init : ByteArray := prog_9_method_1_code
def yX7_init : MethodName := ⟨RX7, "<init>", "()V"⟩
abbrev cX7_hold : ByteArray := prog_9_method_2_code
def yX7_hold : MethodName := ⟨RX7, "hold", "(LPolicyCompiler$Policy;)V"⟩
abbrev cX7_upToDate : ByteArray := prog_9_method_3_code
def yX7_upToDate : MethodName := ⟨RX7, "upToDate", "(LPolicyCompiler$Evaluator;)LPolicyCompiler$Slot;"⟩
abbrev cX7_policy : ByteArray := prog_9_method_4_code
def yX7_policy : MethodName := ⟨RX7, "policy", "()LPolicyCompiler$Policy;"⟩
abbrev cX7_printout : ByteArray := prog_9_method_5_code
def yX7_printout : MethodName := ⟨RX7, "printout", "()LPolicyCompiler$Printout;"⟩
abbrev cX7_relation : ByteArray := prog_9_method_6_code
def yX7_relation : MethodName := ⟨RX7, "relation", "()LPolicyCompiler$Relation;"⟩
abbrev cX7_diagram : ByteArray := prog_9_method_7_code
def yX7_diagram : MethodName := ⟨RX7, "diagram", "()LPolicyCompiler$Diagram;"⟩
abbrev cX7_table : ByteArray := prog_9_method_8_code
def yX7_table : MethodName := ⟨RX7, "table", "()LPolicyCompiler$Table;"⟩
def RX8 : String := "PolicyCompiler$Table"
def TX8 : u_T := fun k => match k with
  | 0 => ("PolicyCompiler$Table", "demands", "[I", true)
  | 1 => ("PolicyCompiler$Table", "rowLeaves", "[I", true)
  | _ => ("PolicyCompiler$Table", "rowCount", "I", false)
def tyX8 : Nat → FieldType := fun k => match k with
  | 0 => .array .int
  | 1 => .array .int
  | _ => .int
abbrev wsX80 : List Cond := u_ws RX8 TX8 3
theorem nmX8 : ∀ a, a < 3 → ∀ b, b < 3 → a ≠ b → (TX8 a).2.1 ≠ (TX8 b).2.1 := by decide +kernel
theorem tyX8_ok : ∀ k, k < 3 → parseFieldDescriptor (TX8 k).2.2.1 = some (tyX8 k) := by decide +kernel
abbrev cX8_init : ByteArray := prog_10_method_1_code
def yX8_init : MethodName := ⟨RX8, "<init>", "()V"⟩
abbrev cX8_rowTotal : ByteArray := prog_10_method_2_code
def yX8_rowTotal : MethodName := ⟨RX8, "rowTotal", "()I"⟩
abbrev cX8_hasRow : ByteArray := prog_10_method_3_code
def yX8_hasRow : MethodName := ⟨RX8, "hasRow", "(I)Z"⟩
abbrev cX8_demandsOf : ByteArray := prog_10_method_4_code
def yX8_demandsOf : MethodName := ⟨RX8, "demandsOf", "(I)I"⟩
abbrev cX8_leafOf : ByteArray := prog_10_method_5_code
def yX8_leafOf : MethodName := ⟨RX8, "leafOf", "(I)I"⟩
abbrev cX8_build : ByteArray := prog_10_method_6_code
def yX8_build : MethodName := ⟨RX8, "build", "(LPolicyCompiler$Diagram;)V"⟩
abbrev cX8_visit : ByteArray := prog_10_method_7_code
def yX8_visit : MethodName := ⟨RX8, "visit", "(LPolicyCompiler$Table;LPolicyCompiler$Diagram;III)V"⟩
abbrev cX8_addRow : ByteArray := prog_10_method_8_code
def yX8_addRow : MethodName := ⟨RX8, "addRow", "(II)V"⟩
abbrev cX8_firstRowFor : ByteArray := prog_10_method_9_code
def yX8_firstRowFor : MethodName := ⟨RX8, "firstRowFor", "(I)I"⟩
abbrev cX8_meets : ByteArray := prog_10_method_10_code
def yX8_meets : MethodName := ⟨RX8, "meets", "(II)Z"⟩
def RX9 : String := "PolicyCompiler"
def TX9 : u_T := fun k => match k with
  | 0 => ("PolicyCompiler", "text", "[I", true)
  | 1 => ("PolicyCompiler", "textLength", "I", false)
  | 2 => ("PolicyCompiler", "slots", "[LPolicyCompiler$Slot;", true)
  | 3 => ("PolicyCompiler", "history", "LPolicyCompiler$History;", true)
  | 4 => ("PolicyCompiler", "errors", "[I", true)
  | 5 => ("PolicyCompiler", "parser", "LPolicyCompiler$Parser;", true)
  | 6 => ("PolicyCompiler", "evaluator", "LPolicyCompiler$Evaluator;", true)
  | _ => ("PolicyCompiler", "draft", "LPolicyCompiler$Policy;", true)
def tyX9 : Nat → FieldType := fun k => match k with
  | 0 => .array .int
  | 1 => .int
  | 2 => .array (.object "PolicyCompiler$Slot")
  | 3 => .object "PolicyCompiler$History"
  | 4 => .array .int
  | 5 => .object "PolicyCompiler$Parser"
  | 6 => .object "PolicyCompiler$Evaluator"
  | _ => .object "PolicyCompiler$Policy"
abbrev wsX90 : List Cond := u_ws RX9 TX9 8
theorem nmX9 : ∀ a, a < 8 → ∀ b, b < 8 → a ≠ b → (TX9 a).2.1 ≠ (TX9 b).2.1 := by decide +kernel
theorem tyX9_ok : ∀ k, k < 8 → parseFieldDescriptor (TX9 k).2.2.1 = some (tyX9 k) := by decide +kernel
abbrev cX9_init : ByteArray := prog_1_method_1_code
def yX9_init : MethodName := ⟨RX9, "<init>", "()V"⟩
abbrev cX9_append : ByteArray := prog_1_method_2_code
def yX9_append : MethodName := ⟨RX9, "append", "(I)I"⟩
abbrev cX9_clearText : ByteArray := prog_1_method_3_code
def yX9_clearText : MethodName := ⟨RX9, "clearText", "()I"⟩
abbrev cX9_parse : ByteArray := prog_1_method_4_code
def yX9_parse : MethodName := ⟨RX9, "parse", "(I)I"⟩
abbrev cX9_combine : ByteArray := prog_1_method_5_code
def yX9_combine : MethodName := ⟨RX9, "combine", "(IIII)I"⟩
abbrev cX9_modify : ByteArray := prog_1_method_6_code
def yX9_modify : MethodName := ⟨RX9, "modify", "(III)I"⟩
abbrev cX9_size : ByteArray := prog_1_method_7_code
def yX9_size : MethodName := ⟨RX9, "size", "(I)I"⟩
abbrev cX9_isPredicate : ByteArray := prog_1_method_8_code
def yX9_isPredicate : MethodName := ⟨RX9, "isPredicate", "(I)I"⟩
abbrev cX9_printed : ByteArray := prog_1_method_9_code
def yX9_printed : MethodName := ⟨RX9, "printed", "(II)I"⟩
abbrev cX9_outputs : ByteArray := prog_1_method_10_code
def yX9_outputs : MethodName := ⟨RX9, "outputs", "(II)J"⟩
abbrev cX9_accepted : ByteArray := prog_1_method_11_code
def yX9_accepted : MethodName := ⟨RX9, "accepted", "(I)J"⟩
abbrev cX9_spread : ByteArray := prog_1_method_12_code
def yX9_spread : MethodName := ⟨RX9, "spread", "(I)I"⟩
abbrev cX9_rounds : ByteArray := prog_1_method_13_code
def yX9_rounds : MethodName := ⟨RX9, "rounds", "(I)I"⟩
abbrev cX9_compare : ByteArray := prog_1_method_14_code
def yX9_compare : MethodName := ⟨RX9, "compare", "(II)I"⟩
abbrev cX9_witness : ByteArray := prog_1_method_15_code
def yX9_witness : MethodName := ⟨RX9, "witness", "(II)I"⟩
abbrev cX9_difference : ByteArray := prog_1_method_16_code
def yX9_difference : MethodName := ⟨RX9, "difference", "(II)I"⟩
abbrev cX9_diagramSize : ByteArray := prog_1_method_17_code
def yX9_diagramSize : MethodName := ⟨RX9, "diagramSize", "(I)I"⟩
abbrev cX9_leaves : ByteArray := prog_1_method_18_code
def yX9_leaves : MethodName := ⟨RX9, "leaves", "(I)I"⟩
abbrev cX9_diagramDepth : ByteArray := prog_1_method_19_code
def yX9_diagramDepth : MethodName := ⟨RX9, "diagramDepth", "(I)I"⟩
abbrev cX9_sharedNodes : ByteArray := prog_1_method_20_code
def yX9_sharedNodes : MethodName := ⟨RX9, "sharedNodes", "(II)I"⟩
abbrev cX9_rows : ByteArray := prog_1_method_21_code
def yX9_rows : MethodName := ⟨RX9, "rows", "(I)I"⟩
abbrev cX9_match : ByteArray := prog_1_method_22_code
def yX9_match : MethodName := ⟨RX9, "match", "(III)I"⟩
abbrev cX9_action : ByteArray := prog_1_method_23_code
def yX9_action : MethodName := ⟨RX9, "action", "(III)I"⟩
abbrev cX9_hit : ByteArray := prog_1_method_24_code
def yX9_hit : MethodName := ⟨RX9, "hit", "(II)I"⟩
abbrev cX9_hits : ByteArray := prog_1_method_25_code
def yX9_hits : MethodName := ⟨RX9, "hits", "(II)I"⟩
abbrev cX9_undo : ByteArray := prog_1_method_26_code
def yX9_undo : MethodName := ⟨RX9, "undo", "()I"⟩
abbrev cX9_errorCount : ByteArray := prog_1_method_27_code
def yX9_errorCount : MethodName := ⟨RX9, "errorCount", "(I)I"⟩
abbrev cX9_fail : ByteArray := prog_1_method_32_code
def yX9_fail : MethodName := ⟨RX9, "fail", "(I)I"⟩
abbrev cX9_store : ByteArray := prog_1_method_33_code
def yX9_store : MethodName := ⟨RX9, "store", "(LPolicyCompiler$Policy;I)I"⟩
abbrev cX9_isBit : ByteArray := prog_1_method_34_code
def yX9_isBit : MethodName := ⟨RX9, "isBit", "(I)Z"⟩
abbrev cX9_isSlot : ByteArray := prog_1_method_35_code
def yX9_isSlot : MethodName := ⟨RX9, "isSlot", "(I)Z"⟩
abbrev cX9_isPacket : ByteArray := prog_1_method_36_code
def yX9_isPacket : MethodName := ⟨RX9, "isPacket", "(I)Z"⟩
abbrev cX9_shiftOf : ByteArray := prog_1_method_37_code
def yX9_shiftOf : MethodName := ⟨RX9, "shiftOf", "(I)I"⟩
abbrev cX9_valueOf : ByteArray := prog_1_method_38_code
def yX9_valueOf : MethodName := ⟨RX9, "valueOf", "(II)I"⟩
abbrev cX9_withValue : ByteArray := prog_1_method_39_code
def yX9_withValue : MethodName := ⟨RX9, "withValue", "(III)I"⟩
abbrev cX9_alone : ByteArray := prog_1_method_40_code
def yX9_alone : MethodName := ⟨RX9, "alone", "(I)J"⟩
abbrev cX9_holds : ByteArray := prog_1_method_41_code
def yX9_holds : MethodName := ⟨RX9, "holds", "(JI)Z"⟩
abbrev cX9_lowestOf : ByteArray := prog_1_method_42_code
def yX9_lowestOf : MethodName := ⟨RX9, "lowestOf", "(J)I"⟩
abbrev cX9_imageOfSet : ByteArray := prog_1_method_43_code
def yX9_imageOfSet : MethodName := ⟨RX9, "imageOfSet", "([JIJ)J"⟩
abbrev cX9_weightOf : ByteArray := prog_1_method_44_code
def yX9_weightOf : MethodName := ⟨RX9, "weightOf", "(I)I"⟩
abbrev cX9_entryOf : ByteArray := prog_1_method_45_code
def yX9_entryOf : MethodName := ⟨RX9, "entryOf", "(II)I"⟩
abbrev cX9_actionFrom : ByteArray := prog_1_method_46_code
def yX9_actionFrom : MethodName := ⟨RX9, "actionFrom", "(II)I"⟩
def RX10 : String := "PolicyCompilerModel"
def TX10 : u_T := fun k => match k with
  | _ => ("", "", "", false)
def tyX10 : Nat → FieldType := fun k => match k with
  | _ => .int
abbrev wsX100 : List Cond := u_ws RX10 TX10 0
theorem nmX10 : ∀ a, a < 0 → ∀ b, b < 0 → a ≠ b → (TX10 a).2.1 ≠ (TX10 b).2.1 := by decide +kernel
theorem tyX10_ok : ∀ k, k < 0 → parseFieldDescriptor (TX10 k).2.2.1 = some (tyX10 k) := by decide +kernel
def RJ13 : String := "java/lang/Long"
def TJ13 : u_T := fun k => match k with
  | _ => ("", "", "", false)
def tyJ13 : Nat → FieldType := fun k => match k with
  | _ => .int
abbrev wsJ130 : List Cond := u_ws RJ13 TJ13 0
theorem nmJ13 : ∀ a, a < 0 → ∀ b, b < 0 → a ≠ b → (TJ13 a).2.1 ≠ (TJ13 b).2.1 := by decide +kernel
theorem tyJ13_ok : ∀ k, k < 0 → parseFieldDescriptor (TJ13 k).2.2.1 = some (tyJ13 k) := by decide +kernel
abbrev cJ13_bitCount_95d88 : ByteArray := prog_13_method_50_code
def yJ13_bitCount_95d88 : MethodName := ⟨RJ13, "bitCount", "(J)I"⟩
def RJ9 : String := "java/lang/Math"
def TJ9 : u_T := fun k => match k with
  | _ => ("", "", "", false)
def tyJ9 : Nat → FieldType := fun k => match k with
  | _ => .int
abbrev wsJ90 : List Cond := u_ws RJ9 TJ9 0
theorem nmJ9 : ∀ a, a < 0 → ∀ b, b < 0 → a ≠ b → (TJ9 a).2.1 ≠ (TJ9 b).2.1 := by decide +kernel
theorem tyJ9_ok : ∀ k, k < 0 → parseFieldDescriptor (TJ9 k).2.2.1 = some (tyJ9 k) := by decide +kernel
abbrev cJ9_max_7cf53 : ByteArray := prog_14_method_65_code
def yJ9_max_7cf53 : MethodName := ⟨RJ9, "max", "(II)I"⟩
def RL : String := "PolicyCompilerLaw"
abbrev cL_cell : ByteArray := method_2_code
def yL_cell : MethodName := ⟨RL, "cell", "([II)I"⟩
abbrev cL_low : ByteArray := method_3_code
def yL_low : MethodName := ⟨RL, "low", "(II)I"⟩
abbrev cL_parsed : ByteArray := method_4_code
def yL_parsed : MethodName := ⟨RL, "parsed", "(LPolicyCompiler;JI)I"⟩
abbrev cL_letter : ByteArray := method_5_code
def yL_letter : MethodName := ⟨RL, "letter", "(I)J"⟩
abbrev cL_filled : ByteArray := method_6_code
def yL_filled : MethodName := ⟨RL, "filled", "(JIII)J"⟩
abbrev cL_ones : ByteArray := method_7_code
def yL_ones : MethodName := ⟨RL, "ones", "(J)I"⟩
abbrev cL_print : ByteArray := method_8_code
def yL_print : MethodName := ⟨RL, "print", "(LPolicyCompiler;)J"⟩
abbrev cL_isJoined : ByteArray := method_9_code
def yL_isJoined : MethodName := ⟨RL, "isJoined", "(LPolicyCompiler;IIII)Z"⟩
abbrev cL_isChanged : ByteArray := method_10_code
def yL_isChanged : MethodName := ⟨RL, "isChanged", "(LPolicyCompiler;II)Z"⟩
abbrev cL_isCompared : ByteArray := method_11_code
def yL_isCompared : MethodName := ⟨RL, "isCompared", "(LPolicyCompiler;II)Z"⟩
abbrev cL_isHit : ByteArray := method_12_code
def yL_isHit : MethodName := ⟨RL, "isHit", "(LPolicyCompiler;II)Z"⟩
abbrev cL_isDrawn : ByteArray := method_13_code
def yL_isDrawn : MethodName := ⟨RL, "isDrawn", "(LPolicyCompiler;II)Z"⟩
abbrev cL_refused : ByteArray := method_14_code
def yL_refused : MethodName := ⟨RL, "refused", "(LPolicyCompiler;)Z"⟩
abbrev cL_law : ByteArray := code
def yL_law : MethodName := ⟨RL, "law", "([I)Z"⟩
abbrev vwCl : List vw_C := [(RX0, TX0, 10), (RX1, TX1, 1), (RX2, TX2, 3), (RX3, TX3, 10), (RX4, TX4, 4), (RX5, TX5, 5), (RX6, TX6, 1), (RX7, TX7, 6), (RX8, TX8, 3), (RX9, TX9, 8)]
theorem inX0 : ∀ w ∈ wsX00, w ∈ lw_tbl := fun w h => by
  have e : wsX00 = [218, 220, 222, 224, 226, 228, 230, 232, 234, 236].filterMap (fun i => lw_tbl[i]?) := by decide +kernel
  rw [e] at h
  obtain ⟨i, -, hi⟩ := List.mem_filterMap.mp h
  exact List.mem_of_getElem? hi
theorem inX1 : ∀ w ∈ wsX10, w ∈ lw_tbl := fun w h => by
  have e : wsX10 = [157].filterMap (fun i => lw_tbl[i]?) := by decide +kernel
  rw [e] at h
  obtain ⟨i, -, hi⟩ := List.mem_filterMap.mp h
  exact List.mem_of_getElem? hi
theorem inX2 : ∀ w ∈ wsX20, w ∈ lw_tbl := fun w h => by
  have e : wsX20 = [103, 105, 107].filterMap (fun i => lw_tbl[i]?) := by decide +kernel
  rw [e] at h
  obtain ⟨i, -, hi⟩ := List.mem_filterMap.mp h
  exact List.mem_of_getElem? hi
theorem inX3 : ∀ w ∈ wsX30, w ∈ lw_tbl := fun w h => by
  have e : wsX30 = [128, 130, 132, 134, 136, 138, 140, 142, 144, 146].filterMap (fun i => lw_tbl[i]?) := by decide +kernel
  rw [e] at h
  obtain ⟨i, -, hi⟩ := List.mem_filterMap.mp h
  exact List.mem_of_getElem? hi
theorem inX4 : ∀ w ∈ wsX40, w ∈ lw_tbl := fun w h => by
  have e : wsX40 = [90, 92, 94, 96].filterMap (fun i => lw_tbl[i]?) := by decide +kernel
  rw [e] at h
  obtain ⟨i, -, hi⟩ := List.mem_filterMap.mp h
  exact List.mem_of_getElem? hi
theorem inX5 : ∀ w ∈ wsX50, w ∈ lw_tbl := fun w h => by
  have e : wsX50 = [181, 183, 185, 187, 189].filterMap (fun i => lw_tbl[i]?) := by decide +kernel
  rw [e] at h
  obtain ⟨i, -, hi⟩ := List.mem_filterMap.mp h
  exact List.mem_of_getElem? hi
theorem inX6 : ∀ w ∈ wsX60, w ∈ lw_tbl := fun w h => by
  have e : wsX60 = [199].filterMap (fun i => lw_tbl[i]?) := by decide +kernel
  rw [e] at h
  obtain ⟨i, -, hi⟩ := List.mem_filterMap.mp h
  exact List.mem_of_getElem? hi
theorem inX7 : ∀ w ∈ wsX70, w ∈ lw_tbl := fun w h => by
  have e : wsX70 = [272, 274, 276, 278, 280, 282].filterMap (fun i => lw_tbl[i]?) := by decide +kernel
  rw [e] at h
  obtain ⟨i, -, hi⟩ := List.mem_filterMap.mp h
  exact List.mem_of_getElem? hi
theorem inX8 : ∀ w ∈ wsX80, w ∈ lw_tbl := fun w h => by
  have e : wsX80 = [248, 250, 252].filterMap (fun i => lw_tbl[i]?) := by decide +kernel
  rw [e] at h
  obtain ⟨i, -, hi⟩ := List.mem_filterMap.mp h
  exact List.mem_of_getElem? hi
theorem inX9 : ∀ w ∈ wsX90, w ∈ lw_tbl := fun w h => by
  have e : wsX90 = [293, 295, 297, 299, 301, 303, 305, 307].filterMap (fun i => lw_tbl[i]?) := by decide +kernel
  rw [e] at h
  obtain ⟨i, -, hi⟩ := List.mem_filterMap.mp h
  exact List.mem_of_getElem? hi
