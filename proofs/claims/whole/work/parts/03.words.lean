set_option maxRecDepth 20000 in
theorem mw_0 : (Cond.initialized "PolicyCompilerLaw") ∈ lw_tbl := List.mem_of_getElem? (i := 103) (by decide +kernel)
set_option maxRecDepth 20000 in
theorem mw_1 : (Cond.initialized "PolicyCompiler") ∈ lw_tbl := List.mem_of_getElem? (i := 104) (by decide +kernel)
set_option maxRecDepth 20000 in
theorem mw_2 : (Cond.initialized "PolicyCompiler$History") ∈ lw_tbl := List.mem_of_getElem? (i := 105) (by decide +kernel)
set_option maxRecDepth 20000 in
theorem mw_3 : (Cond.initialized "PolicyCompiler$Policy") ∈ lw_tbl := List.mem_of_getElem? (i := 106) (by decide +kernel)
set_option maxRecDepth 20000 in
theorem mw_4 : (Cond.initialized "PolicyCompiler$Parser") ∈ lw_tbl := List.mem_of_getElem? (i := 107) (by decide +kernel)
set_option maxRecDepth 20000 in
theorem mw_5 : (Cond.initialized "PolicyCompiler$Evaluator") ∈ lw_tbl := List.mem_of_getElem? (i := 108) (by decide +kernel)
set_option maxRecDepth 20000 in
theorem mw_6 : (Cond.initialized "PolicyCompiler$Slot") ∈ lw_tbl := List.mem_of_getElem? (i := 109) (by decide +kernel)
set_option maxRecDepth 20000 in
theorem mw_7 : (Cond.initialized "PolicyCompiler$Printout") ∈ lw_tbl := List.mem_of_getElem? (i := 110) (by decide +kernel)
set_option maxRecDepth 20000 in
theorem mw_8 : (Cond.initialized "PolicyCompiler$Relation") ∈ lw_tbl := List.mem_of_getElem? (i := 111) (by decide +kernel)
set_option maxRecDepth 20000 in
theorem mw_9 : (Cond.initialized "PolicyCompiler$Diagram") ∈ lw_tbl := List.mem_of_getElem? (i := 112) (by decide +kernel)
set_option maxRecDepth 20000 in
theorem mw_10 : (Cond.initialized "PolicyCompiler$Table") ∈ lw_tbl := List.mem_of_getElem? (i := 113) (by decide +kernel)
set_option maxRecDepth 20000 in
theorem mw_11 : (Cond.initialized "PolicyCompilerModel") ∈ lw_tbl := List.mem_of_getElem? (i := 114) (by decide +kernel)
set_option maxRecDepth 20000 in
theorem mw_12 : (Cond.initialized "java/lang/Long") ∈ lw_tbl := List.mem_of_getElem? (i := 115) (by decide +kernel)
set_option maxRecDepth 20000 in
theorem mw_13 : (Cond.initialized "java/lang/Math") ∈ lw_tbl := List.mem_of_getElem? (i := 116) (by decide +kernel)
set_option maxRecDepth 20000 in
theorem mw_14 : (Cond.classLink "PolicyCompilerLaw" (7 : Nat) "PolicyCompiler") ∈ lw_tbl := List.mem_of_getElem? (i := 117) (by decide +kernel)
set_option maxRecDepth 20000 in
theorem mw_15 : (Cond.instantiable "PolicyCompiler" (8 : Nat)) ∈ lw_tbl := List.mem_of_getElem? (i := 118) (by decide +kernel)
set_option maxRecDepth 20000 in
theorem mw_16 : (Cond.methodLink "PolicyCompilerLaw" (9 : Nat) ({ cls := "PolicyCompiler", name := "<init>", desc := "()V" } : MethodName)) ∈ lw_tbl := List.mem_of_getElem? (i := 119) (by decide +kernel)
set_option maxRecDepth 20000 in
theorem mw_17 : (Cond.instanceMethod ({ cls := "PolicyCompiler", name := "<init>", desc := "()V" } : MethodName)) ∈ lw_tbl := List.mem_of_getElem? (i := 120) (by decide +kernel)
set_option maxRecDepth 20000 in
theorem mw_18 : (Cond.code ({ cls := "PolicyCompiler", name := "<init>", desc := "()V" } : MethodName) prog_1_method_1_code (2 : Nat) (Option.none : Option ClassFile.FieldType)) ∈ lw_tbl := List.mem_of_getElem? (i := 121) rfl
set_option maxRecDepth 20000 in
theorem mw_19 : (Cond.methodLink "PolicyCompiler" (1 : Nat) ({ cls := "java/lang/Object", name := "<init>", desc := "()V" } : MethodName)) ∈ lw_tbl := List.mem_of_getElem? (i := 122) (by decide +kernel)
set_option maxRecDepth 20000 in
theorem mw_20 : (Cond.instanceMethod ({ cls := "java/lang/Object", name := "<init>", desc := "()V" } : MethodName)) ∈ lw_tbl := List.mem_of_getElem? (i := 123) (by decide +kernel)
set_option maxRecDepth 20000 in
theorem mw_21 : (Cond.code ({ cls := "java/lang/Object", name := "<init>", desc := "()V" } : MethodName) object_method_1_code (1 : Nat) (Option.none : Option ClassFile.FieldType)) ∈ lw_tbl := List.mem_of_getElem? (i := 124) rfl
set_option maxRecDepth 20000 in
theorem mw_22 : (Cond.classLink "PolicyCompiler" (17 : Nat) "PolicyCompiler$Slot") ∈ lw_tbl := List.mem_of_getElem? (i := 125) (by decide +kernel)
set_option maxRecDepth 20000 in
theorem mw_23 : (Cond.arrayOver (FieldType.object "PolicyCompiler$Slot")) ∈ lw_tbl := List.mem_of_getElem? (i := 126) (by decide +kernel)
set_option maxRecDepth 20000 in
theorem mw_24 : (Cond.classLink "PolicyCompiler" (23 : Nat) "PolicyCompiler$History") ∈ lw_tbl := List.mem_of_getElem? (i := 127) (by decide +kernel)
set_option maxRecDepth 20000 in
theorem mw_25 : (Cond.instantiable "PolicyCompiler$History" (3 : Nat)) ∈ lw_tbl := List.mem_of_getElem? (i := 128) (by decide +kernel)
set_option maxRecDepth 20000 in
theorem mw_26 : (Cond.methodLink "PolicyCompiler" (25 : Nat) ({ cls := "PolicyCompiler$History", name := "<init>", desc := "()V" } : MethodName)) ∈ lw_tbl := List.mem_of_getElem? (i := 129) (by decide +kernel)
set_option maxRecDepth 20000 in
theorem mw_27 : (Cond.instanceMethod ({ cls := "PolicyCompiler$History", name := "<init>", desc := "()V" } : MethodName)) ∈ lw_tbl := List.mem_of_getElem? (i := 130) (by decide +kernel)
set_option maxRecDepth 20000 in
theorem mw_28 : (Cond.code ({ cls := "PolicyCompiler$History", name := "<init>", desc := "()V" } : MethodName) prog_4_method_1_code (2 : Nat) (Option.none : Option ClassFile.FieldType)) ∈ lw_tbl := List.mem_of_getElem? (i := 131) rfl
set_option maxRecDepth 20000 in
theorem mw_29 : (Cond.methodLink "PolicyCompiler$History" (3 : Nat) ({ cls := "java/lang/Object", name := "<init>", desc := "()V" } : MethodName)) ∈ lw_tbl := List.mem_of_getElem? (i := 132) (by decide +kernel)
set_option maxRecDepth 20000 in
theorem mw_30 : (Cond.classLink "PolicyCompiler$History" (15 : Nat) "PolicyCompiler$Policy") ∈ lw_tbl := List.mem_of_getElem? (i := 133) (by decide +kernel)
set_option maxRecDepth 20000 in
theorem mw_31 : (Cond.arrayOver (FieldType.object "PolicyCompiler$Policy")) ∈ lw_tbl := List.mem_of_getElem? (i := 134) (by decide +kernel)
set_option maxRecDepth 20000 in
theorem mw_32 : (Cond.instantiable "PolicyCompiler$Policy" (4 : Nat)) ∈ lw_tbl := List.mem_of_getElem? (i := 135) (by decide +kernel)
set_option maxRecDepth 20000 in
theorem mw_33 : (Cond.methodLinkNest "PolicyCompiler$History" (25 : Nat) ({ cls := "PolicyCompiler$Policy", name := "<init>", desc := "()V" } : MethodName) "PolicyCompiler") ∈ lw_tbl := List.mem_of_getElem? (i := 136) (by decide +kernel)
set_option maxRecDepth 20000 in
theorem mw_34 : (Cond.instanceMethod ({ cls := "PolicyCompiler$Policy", name := "<init>", desc := "()V" } : MethodName)) ∈ lw_tbl := List.mem_of_getElem? (i := 137) (by decide +kernel)
set_option maxRecDepth 20000 in
theorem mw_35 : (Cond.code ({ cls := "PolicyCompiler$Policy", name := "<init>", desc := "()V" } : MethodName) prog_6_method_1_code (1 : Nat) (Option.none : Option ClassFile.FieldType)) ∈ lw_tbl := List.mem_of_getElem? (i := 138) rfl
set_option maxRecDepth 20000 in
theorem mw_36 : (Cond.methodLink "PolicyCompiler$Policy" (3 : Nat) ({ cls := "java/lang/Object", name := "<init>", desc := "()V" } : MethodName)) ∈ lw_tbl := List.mem_of_getElem? (i := 139) (by decide +kernel)
set_option maxRecDepth 20000 in
theorem mw_37 : (Cond.fieldLink "PolicyCompiler$Policy" (9 : Nat) "PolicyCompiler$Policy" "nodes" "[I") ∈ lw_tbl := List.mem_of_getElem? (i := 140) (by decide +kernel)
set_option maxRecDepth 20000 in
theorem mw_38 : (Cond.fieldLink "PolicyCompiler$Policy" (15 : Nat) "PolicyCompiler$Policy" "begins" "[I") ∈ lw_tbl := List.mem_of_getElem? (i := 141) (by decide +kernel)
set_option maxRecDepth 20000 in
theorem mw_39 : (Cond.fieldLink "PolicyCompiler$Policy" (18 : Nat) "PolicyCompiler$Policy" "count" "I") ∈ lw_tbl := List.mem_of_getElem? (i := 142) (by decide +kernel)
set_option maxRecDepth 20000 in
theorem mw_40 : (Cond.fieldLink "PolicyCompiler$Policy" (22 : Nat) "PolicyCompiler$Policy" "predicate" "Z") ∈ lw_tbl := List.mem_of_getElem? (i := 143) (by decide +kernel)
set_option maxRecDepth 20000 in
theorem mw_50 : (Cond.arrayClass FieldType.int) ∈ lw_tbl := List.mem_of_getElem? (i := 153) (by decide +kernel)
set_option maxRecDepth 20000 in
theorem mw_51 : (Cond.fieldLink "PolicyCompiler$History" (9 : Nat) "PolicyCompiler$History" "changed" "[I") ∈ lw_tbl := List.mem_of_getElem? (i := 154) (by decide +kernel)
set_option maxRecDepth 20000 in
theorem mw_52 : (Cond.fieldLink "PolicyCompiler$History" (17 : Nat) "PolicyCompiler$History" "before" "[LPolicyCompiler$Policy;") ∈ lw_tbl := List.mem_of_getElem? (i := 155) (by decide +kernel)
set_option maxRecDepth 20000 in
theorem mw_53 : (Cond.fieldLink "PolicyCompiler$History" (21 : Nat) "PolicyCompiler$History" "saved" "I") ∈ lw_tbl := List.mem_of_getElem? (i := 156) (by decide +kernel)
set_option maxRecDepth 20000 in
theorem mw_61 : (Cond.classLink "PolicyCompiler" (33 : Nat) "PolicyCompiler$Parser") ∈ lw_tbl := List.mem_of_getElem? (i := 164) (by decide +kernel)
set_option maxRecDepth 20000 in
theorem mw_62 : (Cond.instantiable "PolicyCompiler$Parser" (10 : Nat)) ∈ lw_tbl := List.mem_of_getElem? (i := 165) (by decide +kernel)
set_option maxRecDepth 20000 in
theorem mw_63 : (Cond.methodLinkNest "PolicyCompiler" (35 : Nat) ({ cls := "PolicyCompiler$Parser", name := "<init>", desc := "()V" } : MethodName) "PolicyCompiler") ∈ lw_tbl := List.mem_of_getElem? (i := 166) (by decide +kernel)
set_option maxRecDepth 20000 in
theorem mw_64 : (Cond.instanceMethod ({ cls := "PolicyCompiler$Parser", name := "<init>", desc := "()V" } : MethodName)) ∈ lw_tbl := List.mem_of_getElem? (i := 167) (by decide +kernel)
set_option maxRecDepth 20000 in
theorem mw_65 : (Cond.code ({ cls := "PolicyCompiler$Parser", name := "<init>", desc := "()V" } : MethodName) prog_5_method_1_code (1 : Nat) (Option.none : Option ClassFile.FieldType)) ∈ lw_tbl := List.mem_of_getElem? (i := 168) rfl
set_option maxRecDepth 20000 in
theorem mw_66 : (Cond.methodLink "PolicyCompiler$Parser" (3 : Nat) ({ cls := "java/lang/Object", name := "<init>", desc := "()V" } : MethodName)) ∈ lw_tbl := List.mem_of_getElem? (i := 169) (by decide +kernel)
set_option maxRecDepth 20000 in
theorem mw_67 : (Cond.classLink "PolicyCompiler$Parser" (29 : Nat) "PolicyCompiler$Policy") ∈ lw_tbl := List.mem_of_getElem? (i := 170) (by decide +kernel)
set_option maxRecDepth 20000 in
theorem mw_68 : (Cond.methodLinkNest "PolicyCompiler$Parser" (31 : Nat) ({ cls := "PolicyCompiler$Policy", name := "<init>", desc := "()V" } : MethodName) "PolicyCompiler") ∈ lw_tbl := List.mem_of_getElem? (i := 171) (by decide +kernel)
set_option maxRecDepth 20000 in
theorem mw_69 : (Cond.fieldLink "PolicyCompiler$Parser" (9 : Nat) "PolicyCompiler$Parser" "opened" "[I") ∈ lw_tbl := List.mem_of_getElem? (i := 172) (by decide +kernel)
set_option maxRecDepth 20000 in
theorem mw_70 : (Cond.fieldLink "PolicyCompiler$Parser" (15 : Nat) "PolicyCompiler$Parser" "openedAt" "[I") ∈ lw_tbl := List.mem_of_getElem? (i := 173) (by decide +kernel)
set_option maxRecDepth 20000 in
theorem mw_71 : (Cond.fieldLink "PolicyCompiler$Parser" (18 : Nat) "PolicyCompiler$Parser" "openCount" "I") ∈ lw_tbl := List.mem_of_getElem? (i := 174) (by decide +kernel)
set_option maxRecDepth 20000 in
theorem mw_72 : (Cond.fieldLink "PolicyCompiler$Parser" (22 : Nat) "PolicyCompiler$Parser" "predicates" "[Z") ∈ lw_tbl := List.mem_of_getElem? (i := 175) (by decide +kernel)
set_option maxRecDepth 20000 in
theorem mw_73 : (Cond.fieldLink "PolicyCompiler$Parser" (26 : Nat) "PolicyCompiler$Parser" "operandCount" "I") ∈ lw_tbl := List.mem_of_getElem? (i := 176) (by decide +kernel)
set_option maxRecDepth 20000 in
theorem mw_74 : (Cond.fieldLink "PolicyCompiler$Parser" (32 : Nat) "PolicyCompiler$Parser" "built" "LPolicyCompiler$Policy;") ∈ lw_tbl := List.mem_of_getElem? (i := 177) (by decide +kernel)
set_option maxRecDepth 20000 in
theorem mw_75 : (Cond.fieldLink "PolicyCompiler$Parser" (36 : Nat) "PolicyCompiler$Parser" "state" "I") ∈ lw_tbl := List.mem_of_getElem? (i := 178) (by decide +kernel)
set_option maxRecDepth 20000 in
theorem mw_76 : (Cond.fieldLink "PolicyCompiler$Parser" (39 : Nat) "PolicyCompiler$Parser" "field" "I") ∈ lw_tbl := List.mem_of_getElem? (i := 179) (by decide +kernel)
set_option maxRecDepth 20000 in
theorem mw_77 : (Cond.fieldLink "PolicyCompiler$Parser" (42 : Nat) "PolicyCompiler$Parser" "sign" "I") ∈ lw_tbl := List.mem_of_getElem? (i := 180) (by decide +kernel)
set_option maxRecDepth 20000 in
theorem mw_78 : (Cond.fieldLink "PolicyCompiler$Parser" (45 : Nat) "PolicyCompiler$Parser" "error" "I") ∈ lw_tbl := List.mem_of_getElem? (i := 181) (by decide +kernel)
set_option maxRecDepth 20000 in
theorem mw_100 : (Cond.arrayClass FieldType.boolean) ∈ lw_tbl := List.mem_of_getElem? (i := 203) (by decide +kernel)
set_option maxRecDepth 20000 in
theorem mw_101 : (Cond.classLink "PolicyCompiler" (40 : Nat) "PolicyCompiler$Evaluator") ∈ lw_tbl := List.mem_of_getElem? (i := 204) (by decide +kernel)
set_option maxRecDepth 20000 in
theorem mw_102 : (Cond.instantiable "PolicyCompiler$Evaluator" (1 : Nat)) ∈ lw_tbl := List.mem_of_getElem? (i := 205) (by decide +kernel)
set_option maxRecDepth 20000 in
theorem mw_103 : (Cond.methodLinkNest "PolicyCompiler" (42 : Nat) ({ cls := "PolicyCompiler$Evaluator", name := "<init>", desc := "()V" } : MethodName) "PolicyCompiler") ∈ lw_tbl := List.mem_of_getElem? (i := 206) (by decide +kernel)
set_option maxRecDepth 20000 in
theorem mw_104 : (Cond.instanceMethod ({ cls := "PolicyCompiler$Evaluator", name := "<init>", desc := "()V" } : MethodName)) ∈ lw_tbl := List.mem_of_getElem? (i := 207) (by decide +kernel)
set_option maxRecDepth 20000 in
theorem mw_105 : (Cond.code ({ cls := "PolicyCompiler$Evaluator", name := "<init>", desc := "()V" } : MethodName) prog_3_method_1_code (1 : Nat) (Option.none : Option ClassFile.FieldType)) ∈ lw_tbl := List.mem_of_getElem? (i := 208) rfl
set_option maxRecDepth 20000 in
theorem mw_106 : (Cond.methodLink "PolicyCompiler$Evaluator" (3 : Nat) ({ cls := "java/lang/Object", name := "<init>", desc := "()V" } : MethodName)) ∈ lw_tbl := List.mem_of_getElem? (i := 209) (by decide +kernel)
set_option maxRecDepth 20000 in
theorem mw_107 : (Cond.fieldLink "PolicyCompiler$Evaluator" (9 : Nat) "PolicyCompiler$Evaluator" "images" "[J") ∈ lw_tbl := List.mem_of_getElem? (i := 210) (by decide +kernel)
set_option maxRecDepth 20000 in
theorem mw_111 : (Cond.arrayClass FieldType.long) ∈ lw_tbl := List.mem_of_getElem? (i := 214) (by decide +kernel)
set_option maxRecDepth 20000 in
theorem mw_112 : (Cond.classLink "PolicyCompiler" (47 : Nat) "PolicyCompiler$Policy") ∈ lw_tbl := List.mem_of_getElem? (i := 215) (by decide +kernel)
set_option maxRecDepth 20000 in
theorem mw_113 : (Cond.methodLinkNest "PolicyCompiler" (49 : Nat) ({ cls := "PolicyCompiler$Policy", name := "<init>", desc := "()V" } : MethodName) "PolicyCompiler") ∈ lw_tbl := List.mem_of_getElem? (i := 216) (by decide +kernel)
set_option maxRecDepth 20000 in
theorem mw_114 : (Cond.instantiable "PolicyCompiler$Slot" (6 : Nat)) ∈ lw_tbl := List.mem_of_getElem? (i := 217) (by decide +kernel)
set_option maxRecDepth 20000 in
theorem mw_115 : (Cond.methodLink "PolicyCompiler" (54 : Nat) ({ cls := "PolicyCompiler$Slot", name := "<init>", desc := "()V" } : MethodName)) ∈ lw_tbl := List.mem_of_getElem? (i := 218) (by decide +kernel)
set_option maxRecDepth 20000 in
theorem mw_116 : (Cond.instanceMethod ({ cls := "PolicyCompiler$Slot", name := "<init>", desc := "()V" } : MethodName)) ∈ lw_tbl := List.mem_of_getElem? (i := 219) (by decide +kernel)
set_option maxRecDepth 20000 in
theorem mw_117 : (Cond.code ({ cls := "PolicyCompiler$Slot", name := "<init>", desc := "()V" } : MethodName) prog_9_method_1_code (1 : Nat) (Option.none : Option ClassFile.FieldType)) ∈ lw_tbl := List.mem_of_getElem? (i := 220) rfl
set_option maxRecDepth 20000 in
theorem mw_118 : (Cond.methodLink "PolicyCompiler$Slot" (3 : Nat) ({ cls := "java/lang/Object", name := "<init>", desc := "()V" } : MethodName)) ∈ lw_tbl := List.mem_of_getElem? (i := 221) (by decide +kernel)
set_option maxRecDepth 20000 in
theorem mw_119 : (Cond.classLink "PolicyCompiler$Slot" (9 : Nat) "PolicyCompiler$Policy") ∈ lw_tbl := List.mem_of_getElem? (i := 222) (by decide +kernel)
set_option maxRecDepth 20000 in
theorem mw_120 : (Cond.methodLinkNest "PolicyCompiler$Slot" (11 : Nat) ({ cls := "PolicyCompiler$Policy", name := "<init>", desc := "()V" } : MethodName) "PolicyCompiler") ∈ lw_tbl := List.mem_of_getElem? (i := 223) (by decide +kernel)
set_option maxRecDepth 20000 in
theorem mw_121 : (Cond.classLink "PolicyCompiler$Slot" (18 : Nat) "PolicyCompiler$Printout") ∈ lw_tbl := List.mem_of_getElem? (i := 224) (by decide +kernel)
set_option maxRecDepth 20000 in
theorem mw_122 : (Cond.instantiable "PolicyCompiler$Printout" (5 : Nat)) ∈ lw_tbl := List.mem_of_getElem? (i := 225) (by decide +kernel)
set_option maxRecDepth 20000 in
theorem mw_123 : (Cond.methodLinkNest "PolicyCompiler$Slot" (20 : Nat) ({ cls := "PolicyCompiler$Printout", name := "<init>", desc := "()V" } : MethodName) "PolicyCompiler") ∈ lw_tbl := List.mem_of_getElem? (i := 226) (by decide +kernel)
set_option maxRecDepth 20000 in
theorem mw_124 : (Cond.instanceMethod ({ cls := "PolicyCompiler$Printout", name := "<init>", desc := "()V" } : MethodName)) ∈ lw_tbl := List.mem_of_getElem? (i := 227) (by decide +kernel)
set_option maxRecDepth 20000 in
theorem mw_125 : (Cond.code ({ cls := "PolicyCompiler$Printout", name := "<init>", desc := "()V" } : MethodName) prog_7_method_1_code (1 : Nat) (Option.none : Option ClassFile.FieldType)) ∈ lw_tbl := List.mem_of_getElem? (i := 228) rfl
set_option maxRecDepth 20000 in
theorem mw_126 : (Cond.methodLink "PolicyCompiler$Printout" (3 : Nat) ({ cls := "java/lang/Object", name := "<init>", desc := "()V" } : MethodName)) ∈ lw_tbl := List.mem_of_getElem? (i := 229) (by decide +kernel)
set_option maxRecDepth 20000 in
theorem mw_127 : (Cond.fieldLink "PolicyCompiler$Printout" (11 : Nat) "PolicyCompiler$Printout" "bytes" "[I") ∈ lw_tbl := List.mem_of_getElem? (i := 230) (by decide +kernel)
set_option maxRecDepth 20000 in
theorem mw_128 : (Cond.fieldLink "PolicyCompiler$Printout" (15 : Nat) "PolicyCompiler$Printout" "lengths" "[I") ∈ lw_tbl := List.mem_of_getElem? (i := 231) (by decide +kernel)
set_option maxRecDepth 20000 in
theorem mw_129 : (Cond.fieldLink "PolicyCompiler$Printout" (18 : Nat) "PolicyCompiler$Printout" "wrapped" "[Z") ∈ lw_tbl := List.mem_of_getElem? (i := 232) (by decide +kernel)
set_option maxRecDepth 20000 in
theorem mw_130 : (Cond.fieldLink "PolicyCompiler$Printout" (22 : Nat) "PolicyCompiler$Printout" "places" "[I") ∈ lw_tbl := List.mem_of_getElem? (i := 233) (by decide +kernel)
set_option maxRecDepth 20000 in
theorem mw_131 : (Cond.fieldLink "PolicyCompiler$Printout" (25 : Nat) "PolicyCompiler$Printout" "total" "I") ∈ lw_tbl := List.mem_of_getElem? (i := 234) (by decide +kernel)
set_option maxRecDepth 20000 in
theorem mw_143 : (Cond.classLink "PolicyCompiler$Slot" (25 : Nat) "PolicyCompiler$Relation") ∈ lw_tbl := List.mem_of_getElem? (i := 246) (by decide +kernel)
set_option maxRecDepth 20000 in
theorem mw_144 : (Cond.instantiable "PolicyCompiler$Relation" (1 : Nat)) ∈ lw_tbl := List.mem_of_getElem? (i := 247) (by decide +kernel)
set_option maxRecDepth 20000 in
theorem mw_145 : (Cond.methodLinkNest "PolicyCompiler$Slot" (27 : Nat) ({ cls := "PolicyCompiler$Relation", name := "<init>", desc := "()V" } : MethodName) "PolicyCompiler") ∈ lw_tbl := List.mem_of_getElem? (i := 248) (by decide +kernel)
set_option maxRecDepth 20000 in
theorem mw_146 : (Cond.instanceMethod ({ cls := "PolicyCompiler$Relation", name := "<init>", desc := "()V" } : MethodName)) ∈ lw_tbl := List.mem_of_getElem? (i := 249) (by decide +kernel)
set_option maxRecDepth 20000 in
theorem mw_147 : (Cond.code ({ cls := "PolicyCompiler$Relation", name := "<init>", desc := "()V" } : MethodName) prog_8_method_1_code (1 : Nat) (Option.none : Option ClassFile.FieldType)) ∈ lw_tbl := List.mem_of_getElem? (i := 250) rfl
set_option maxRecDepth 20000 in
theorem mw_148 : (Cond.methodLink "PolicyCompiler$Relation" (3 : Nat) ({ cls := "java/lang/Object", name := "<init>", desc := "()V" } : MethodName)) ∈ lw_tbl := List.mem_of_getElem? (i := 251) (by decide +kernel)
set_option maxRecDepth 20000 in
theorem mw_149 : (Cond.fieldLink "PolicyCompiler$Relation" (9 : Nat) "PolicyCompiler$Relation" "images" "[J") ∈ lw_tbl := List.mem_of_getElem? (i := 252) (by decide +kernel)
set_option maxRecDepth 20000 in
theorem mw_153 : (Cond.classLink "PolicyCompiler$Slot" (32 : Nat) "PolicyCompiler$Diagram") ∈ lw_tbl := List.mem_of_getElem? (i := 256) (by decide +kernel)
set_option maxRecDepth 20000 in
theorem mw_154 : (Cond.instantiable "PolicyCompiler$Diagram" (10 : Nat)) ∈ lw_tbl := List.mem_of_getElem? (i := 257) (by decide +kernel)
set_option maxRecDepth 20000 in
theorem mw_155 : (Cond.methodLinkNest "PolicyCompiler$Slot" (34 : Nat) ({ cls := "PolicyCompiler$Diagram", name := "<init>", desc := "()V" } : MethodName) "PolicyCompiler") ∈ lw_tbl := List.mem_of_getElem? (i := 258) (by decide +kernel)
set_option maxRecDepth 20000 in
theorem mw_156 : (Cond.instanceMethod ({ cls := "PolicyCompiler$Diagram", name := "<init>", desc := "()V" } : MethodName)) ∈ lw_tbl := List.mem_of_getElem? (i := 259) (by decide +kernel)
set_option maxRecDepth 20000 in
theorem mw_157 : (Cond.code ({ cls := "PolicyCompiler$Diagram", name := "<init>", desc := "()V" } : MethodName) prog_2_method_1_code (1 : Nat) (Option.none : Option ClassFile.FieldType)) ∈ lw_tbl := List.mem_of_getElem? (i := 260) rfl
set_option maxRecDepth 20000 in
theorem mw_158 : (Cond.methodLink "PolicyCompiler$Diagram" (3 : Nat) ({ cls := "java/lang/Object", name := "<init>", desc := "()V" } : MethodName)) ∈ lw_tbl := List.mem_of_getElem? (i := 261) (by decide +kernel)
set_option maxRecDepth 20000 in
theorem mw_159 : (Cond.fieldLink "PolicyCompiler$Diagram" (9 : Nat) "PolicyCompiler$Diagram" "lowActions" "[J") ∈ lw_tbl := List.mem_of_getElem? (i := 262) (by decide +kernel)
set_option maxRecDepth 20000 in
theorem mw_160 : (Cond.fieldLink "PolicyCompiler$Diagram" (15 : Nat) "PolicyCompiler$Diagram" "highActions" "[J") ∈ lw_tbl := List.mem_of_getElem? (i := 263) (by decide +kernel)
set_option maxRecDepth 20000 in
theorem mw_161 : (Cond.fieldLink "PolicyCompiler$Diagram" (18 : Nat) "PolicyCompiler$Diagram" "fields" "[I") ∈ lw_tbl := List.mem_of_getElem? (i := 264) (by decide +kernel)
set_option maxRecDepth 20000 in
theorem mw_162 : (Cond.fieldLink "PolicyCompiler$Diagram" (22 : Nat) "PolicyCompiler$Diagram" "depths" "[I") ∈ lw_tbl := List.mem_of_getElem? (i := 265) (by decide +kernel)
set_option maxRecDepth 20000 in
theorem mw_163 : (Cond.fieldLink "PolicyCompiler$Diagram" (25 : Nat) "PolicyCompiler$Diagram" "children" "[I") ∈ lw_tbl := List.mem_of_getElem? (i := 266) (by decide +kernel)
set_option maxRecDepth 20000 in
theorem mw_164 : (Cond.fieldLink "PolicyCompiler$Diagram" (28 : Nat) "PolicyCompiler$Diagram" "leafCount" "I") ∈ lw_tbl := List.mem_of_getElem? (i := 267) (by decide +kernel)
set_option maxRecDepth 20000 in
theorem mw_165 : (Cond.fieldLink "PolicyCompiler$Diagram" (32 : Nat) "PolicyCompiler$Diagram" "nodeCount" "I") ∈ lw_tbl := List.mem_of_getElem? (i := 268) (by decide +kernel)
set_option maxRecDepth 20000 in
theorem mw_166 : (Cond.fieldLink "PolicyCompiler$Diagram" (35 : Nat) "PolicyCompiler$Diagram" "root" "I") ∈ lw_tbl := List.mem_of_getElem? (i := 269) (by decide +kernel)
set_option maxRecDepth 20000 in
theorem mw_167 : (Cond.fieldLink "PolicyCompiler$Diagram" (38 : Nat) "PolicyCompiler$Diagram" "layer" "[I") ∈ lw_tbl := List.mem_of_getElem? (i := 270) (by decide +kernel)
set_option maxRecDepth 20000 in
theorem mw_168 : (Cond.fieldLink "PolicyCompiler$Diagram" (41 : Nat) "PolicyCompiler$Diagram" "twins" "[I") ∈ lw_tbl := List.mem_of_getElem? (i := 271) (by decide +kernel)
set_option maxRecDepth 20000 in
theorem mw_190 : (Cond.classLink "PolicyCompiler$Slot" (39 : Nat) "PolicyCompiler$Table") ∈ lw_tbl := List.mem_of_getElem? (i := 293) (by decide +kernel)
set_option maxRecDepth 20000 in
theorem mw_191 : (Cond.instantiable "PolicyCompiler$Table" (3 : Nat)) ∈ lw_tbl := List.mem_of_getElem? (i := 294) (by decide +kernel)
set_option maxRecDepth 20000 in
theorem mw_192 : (Cond.methodLinkNest "PolicyCompiler$Slot" (41 : Nat) ({ cls := "PolicyCompiler$Table", name := "<init>", desc := "()V" } : MethodName) "PolicyCompiler") ∈ lw_tbl := List.mem_of_getElem? (i := 295) (by decide +kernel)
set_option maxRecDepth 20000 in
theorem mw_193 : (Cond.instanceMethod ({ cls := "PolicyCompiler$Table", name := "<init>", desc := "()V" } : MethodName)) ∈ lw_tbl := List.mem_of_getElem? (i := 296) (by decide +kernel)
set_option maxRecDepth 20000 in
theorem mw_194 : (Cond.code ({ cls := "PolicyCompiler$Table", name := "<init>", desc := "()V" } : MethodName) prog_10_method_1_code (1 : Nat) (Option.none : Option ClassFile.FieldType)) ∈ lw_tbl := List.mem_of_getElem? (i := 297) rfl
set_option maxRecDepth 20000 in
theorem mw_195 : (Cond.methodLink "PolicyCompiler$Table" (3 : Nat) ({ cls := "java/lang/Object", name := "<init>", desc := "()V" } : MethodName)) ∈ lw_tbl := List.mem_of_getElem? (i := 298) (by decide +kernel)
set_option maxRecDepth 20000 in
theorem mw_196 : (Cond.fieldLink "PolicyCompiler$Table" (9 : Nat) "PolicyCompiler$Table" "demands" "[I") ∈ lw_tbl := List.mem_of_getElem? (i := 299) (by decide +kernel)
set_option maxRecDepth 20000 in
theorem mw_197 : (Cond.fieldLink "PolicyCompiler$Table" (15 : Nat) "PolicyCompiler$Table" "rowLeaves" "[I") ∈ lw_tbl := List.mem_of_getElem? (i := 300) (by decide +kernel)
set_option maxRecDepth 20000 in
theorem mw_198 : (Cond.fieldLink "PolicyCompiler$Table" (18 : Nat) "PolicyCompiler$Table" "rowCount" "I") ∈ lw_tbl := List.mem_of_getElem? (i := 301) (by decide +kernel)
set_option maxRecDepth 20000 in
theorem mw_206 : (Cond.methodLink "PolicyCompiler$Slot" (50 : Nat) ({ cls := "PolicyCompiler$Policy", name := "add", desc := "(III)V" } : MethodName)) ∈ lw_tbl := List.mem_of_getElem? (i := 309) (by decide +kernel)
set_option maxRecDepth 20000 in
theorem mw_207 : (Cond.instanceMethod ({ cls := "PolicyCompiler$Policy", name := "add", desc := "(III)V" } : MethodName)) ∈ lw_tbl := List.mem_of_getElem? (i := 310) (by decide +kernel)
set_option maxRecDepth 20000 in
theorem mw_208 : (Cond.selects "PolicyCompiler$Policy" ({ cls := "PolicyCompiler$Policy", name := "add", desc := "(III)V" } : MethodName) ({ cls := "PolicyCompiler$Policy", name := "add", desc := "(III)V" } : MethodName)) ∈ lw_tbl := List.mem_of_getElem? (i := 311) (by decide +kernel)
set_option maxRecDepth 20000 in
theorem mw_209 : (Cond.code ({ cls := "PolicyCompiler$Policy", name := "add", desc := "(III)V" } : MethodName) prog_6_method_3_code (7 : Nat) (Option.none : Option ClassFile.FieldType)) ∈ lw_tbl := List.mem_of_getElem? (i := 312) rfl
set_option maxRecDepth 20000 in
theorem mw_210 : (Cond.methodLink "PolicyCompiler$Policy" (26 : Nat) ({ cls := "PolicyCompiler$Policy", name := "operandsOf", desc := "(I)I" } : MethodName)) ∈ lw_tbl := List.mem_of_getElem? (i := 313) (by decide +kernel)
set_option maxRecDepth 20000 in
theorem mw_211 : (Cond.static ({ cls := "PolicyCompiler$Policy", name := "operandsOf", desc := "(I)I" } : MethodName)) ∈ lw_tbl := List.mem_of_getElem? (i := 314) (by decide +kernel)
set_option maxRecDepth 20000 in
theorem mw_212 : (Cond.code ({ cls := "PolicyCompiler$Policy", name := "operandsOf", desc := "(I)I" } : MethodName) prog_6_method_4_code (1 : Nat) (Option.some FieldType.int)) ∈ lw_tbl := List.mem_of_getElem? (i := 315) rfl
set_option maxRecDepth 20000 in
theorem mw_213 : (Cond.methodLink "PolicyCompiler$Slot" (54 : Nat) ({ cls := "PolicyCompiler$Policy", name := "markPredicate", desc := "(Z)V" } : MethodName)) ∈ lw_tbl := List.mem_of_getElem? (i := 316) (by decide +kernel)
set_option maxRecDepth 20000 in
theorem mw_214 : (Cond.instanceMethod ({ cls := "PolicyCompiler$Policy", name := "markPredicate", desc := "(Z)V" } : MethodName)) ∈ lw_tbl := List.mem_of_getElem? (i := 317) (by decide +kernel)
set_option maxRecDepth 20000 in
theorem mw_215 : (Cond.selects "PolicyCompiler$Policy" ({ cls := "PolicyCompiler$Policy", name := "markPredicate", desc := "(Z)V" } : MethodName) ({ cls := "PolicyCompiler$Policy", name := "markPredicate", desc := "(Z)V" } : MethodName)) ∈ lw_tbl := List.mem_of_getElem? (i := 318) (by decide +kernel)
set_option maxRecDepth 20000 in
theorem mw_216 : (Cond.code ({ cls := "PolicyCompiler$Policy", name := "markPredicate", desc := "(Z)V" } : MethodName) prog_6_method_6_code (2 : Nat) (Option.none : Option ClassFile.FieldType)) ∈ lw_tbl := List.mem_of_getElem? (i := 319) rfl
set_option maxRecDepth 20000 in
theorem mw_217 : (Cond.fieldLink "PolicyCompiler$Slot" (12 : Nat) "PolicyCompiler$Slot" "policy" "LPolicyCompiler$Policy;") ∈ lw_tbl := List.mem_of_getElem? (i := 320) (by decide +kernel)
set_option maxRecDepth 20000 in
theorem mw_218 : (Cond.fieldLink "PolicyCompiler$Slot" (21 : Nat) "PolicyCompiler$Slot" "printout" "LPolicyCompiler$Printout;") ∈ lw_tbl := List.mem_of_getElem? (i := 321) (by decide +kernel)
set_option maxRecDepth 20000 in
theorem mw_219 : (Cond.fieldLink "PolicyCompiler$Slot" (28 : Nat) "PolicyCompiler$Slot" "relation" "LPolicyCompiler$Relation;") ∈ lw_tbl := List.mem_of_getElem? (i := 322) (by decide +kernel)
set_option maxRecDepth 20000 in
theorem mw_220 : (Cond.fieldLink "PolicyCompiler$Slot" (35 : Nat) "PolicyCompiler$Slot" "diagram" "LPolicyCompiler$Diagram;") ∈ lw_tbl := List.mem_of_getElem? (i := 323) (by decide +kernel)
set_option maxRecDepth 20000 in
theorem mw_221 : (Cond.fieldLink "PolicyCompiler$Slot" (42 : Nat) "PolicyCompiler$Slot" "table" "LPolicyCompiler$Table;") ∈ lw_tbl := List.mem_of_getElem? (i := 324) (by decide +kernel)
set_option maxRecDepth 20000 in
theorem mw_222 : (Cond.fieldLink "PolicyCompiler$Slot" (46 : Nat) "PolicyCompiler$Slot" "fresh" "Z") ∈ lw_tbl := List.mem_of_getElem? (i := 325) (by decide +kernel)
set_option maxRecDepth 20000 in
theorem mw_236 : (Cond.fieldLink "PolicyCompiler" (9 : Nat) "PolicyCompiler" "text" "[I") ∈ lw_tbl := List.mem_of_getElem? (i := 339) (by decide +kernel)
set_option maxRecDepth 20000 in
theorem mw_237 : (Cond.fieldLink "PolicyCompiler" (13 : Nat) "PolicyCompiler" "textLength" "I") ∈ lw_tbl := List.mem_of_getElem? (i := 340) (by decide +kernel)
set_option maxRecDepth 20000 in
theorem mw_238 : (Cond.fieldLink "PolicyCompiler" (19 : Nat) "PolicyCompiler" "slots" "[LPolicyCompiler$Slot;") ∈ lw_tbl := List.mem_of_getElem? (i := 341) (by decide +kernel)
set_option maxRecDepth 20000 in
theorem mw_239 : (Cond.fieldLink "PolicyCompiler" (26 : Nat) "PolicyCompiler" "history" "LPolicyCompiler$History;") ∈ lw_tbl := List.mem_of_getElem? (i := 342) (by decide +kernel)
set_option maxRecDepth 20000 in
theorem mw_240 : (Cond.fieldLink "PolicyCompiler" (30 : Nat) "PolicyCompiler" "errors" "[I") ∈ lw_tbl := List.mem_of_getElem? (i := 343) (by decide +kernel)
set_option maxRecDepth 20000 in
theorem mw_241 : (Cond.fieldLink "PolicyCompiler" (36 : Nat) "PolicyCompiler" "parser" "LPolicyCompiler$Parser;") ∈ lw_tbl := List.mem_of_getElem? (i := 344) (by decide +kernel)
set_option maxRecDepth 20000 in
theorem mw_242 : (Cond.fieldLink "PolicyCompiler" (43 : Nat) "PolicyCompiler" "evaluator" "LPolicyCompiler$Evaluator;") ∈ lw_tbl := List.mem_of_getElem? (i := 345) (by decide +kernel)
set_option maxRecDepth 20000 in
theorem mw_243 : (Cond.fieldLink "PolicyCompiler" (50 : Nat) "PolicyCompiler" "draft" "LPolicyCompiler$Policy;") ∈ lw_tbl := List.mem_of_getElem? (i := 346) (by decide +kernel)
set_option maxRecDepth 20000 in
theorem mw_261 : (Cond.methodLink "PolicyCompilerLaw" (13 : Nat) ({ cls := "PolicyCompiler", name := "append", desc := "(I)I" } : MethodName)) ∈ lw_tbl := List.mem_of_getElem? (i := 364) (by decide +kernel)
set_option maxRecDepth 20000 in
theorem mw_262 : (Cond.instanceMethod ({ cls := "PolicyCompiler", name := "append", desc := "(I)I" } : MethodName)) ∈ lw_tbl := List.mem_of_getElem? (i := 365) (by decide +kernel)
set_option maxRecDepth 20000 in
theorem mw_263 : (Cond.selects "PolicyCompiler" ({ cls := "PolicyCompiler", name := "append", desc := "(I)I" } : MethodName) ({ cls := "PolicyCompiler", name := "append", desc := "(I)I" } : MethodName)) ∈ lw_tbl := List.mem_of_getElem? (i := 366) (by decide +kernel)
set_option maxRecDepth 20000 in
theorem mw_264 : (Cond.code ({ cls := "PolicyCompiler", name := "append", desc := "(I)I" } : MethodName) prog_1_method_2_code (2 : Nat) (Option.some FieldType.int)) ∈ lw_tbl := List.mem_of_getElem? (i := 367) rfl
set_option maxRecDepth 20000 in
theorem mw_265 : (Cond.methodLink "PolicyCompiler" (55 : Nat) ({ cls := "PolicyCompiler", name := "fail", desc := "(I)I" } : MethodName)) ∈ lw_tbl := List.mem_of_getElem? (i := 368) (by decide +kernel)
set_option maxRecDepth 20000 in
theorem mw_267 : (Cond.instanceMethod ({ cls := "PolicyCompiler", name := "fail", desc := "(I)I" } : MethodName)) ∈ lw_tbl := List.mem_of_getElem? (i := 370) (by decide +kernel)
set_option maxRecDepth 20000 in
theorem mw_268 : (Cond.code ({ cls := "PolicyCompiler", name := "fail", desc := "(I)I" } : MethodName) prog_1_method_32_code (3 : Nat) (Option.some FieldType.int)) ∈ lw_tbl := List.mem_of_getElem? (i := 371) rfl
set_option maxRecDepth 20000 in
theorem mw_269 : (Cond.methodLink "PolicyCompilerLaw" (18 : Nat) ({ cls := "PolicyCompiler", name := "clearText", desc := "()I" } : MethodName)) ∈ lw_tbl := List.mem_of_getElem? (i := 372) (by decide +kernel)
set_option maxRecDepth 20000 in
theorem mw_270 : (Cond.instanceMethod ({ cls := "PolicyCompiler", name := "clearText", desc := "()I" } : MethodName)) ∈ lw_tbl := List.mem_of_getElem? (i := 373) (by decide +kernel)
set_option maxRecDepth 20000 in
theorem mw_271 : (Cond.selects "PolicyCompiler" ({ cls := "PolicyCompiler", name := "clearText", desc := "()I" } : MethodName) ({ cls := "PolicyCompiler", name := "clearText", desc := "()I" } : MethodName)) ∈ lw_tbl := List.mem_of_getElem? (i := 374) (by decide +kernel)
set_option maxRecDepth 20000 in
theorem mw_272 : (Cond.code ({ cls := "PolicyCompiler", name := "clearText", desc := "()I" } : MethodName) prog_1_method_3_code (2 : Nat) (Option.some FieldType.int)) ∈ lw_tbl := List.mem_of_getElem? (i := 375) rfl
set_option maxRecDepth 20000 in
theorem mw_273 : (Cond.methodLink "PolicyCompilerLaw" (23 : Nat) ({ cls := "PolicyCompiler", name := "parse", desc := "(I)I" } : MethodName)) ∈ lw_tbl := List.mem_of_getElem? (i := 376) (by decide +kernel)
set_option maxRecDepth 20000 in
theorem mw_274 : (Cond.instanceMethod ({ cls := "PolicyCompiler", name := "parse", desc := "(I)I" } : MethodName)) ∈ lw_tbl := List.mem_of_getElem? (i := 377) (by decide +kernel)
set_option maxRecDepth 20000 in
theorem mw_275 : (Cond.selects "PolicyCompiler" ({ cls := "PolicyCompiler", name := "parse", desc := "(I)I" } : MethodName) ({ cls := "PolicyCompiler", name := "parse", desc := "(I)I" } : MethodName)) ∈ lw_tbl := List.mem_of_getElem? (i := 378) (by decide +kernel)
set_option maxRecDepth 20000 in
theorem mw_276 : (Cond.code ({ cls := "PolicyCompiler", name := "parse", desc := "(I)I" } : MethodName) prog_1_method_4_code (3 : Nat) (Option.some FieldType.int)) ∈ lw_tbl := List.mem_of_getElem? (i := 379) rfl
set_option maxRecDepth 20000 in
theorem mw_277 : (Cond.methodLink "PolicyCompiler" (59 : Nat) ({ cls := "PolicyCompiler", name := "isSlot", desc := "(I)Z" } : MethodName)) ∈ lw_tbl := List.mem_of_getElem? (i := 380) (by decide +kernel)
set_option maxRecDepth 20000 in
theorem mw_278 : (Cond.static ({ cls := "PolicyCompiler", name := "isSlot", desc := "(I)Z" } : MethodName)) ∈ lw_tbl := List.mem_of_getElem? (i := 381) (by decide +kernel)
set_option maxRecDepth 20000 in
theorem mw_279 : (Cond.code ({ cls := "PolicyCompiler", name := "isSlot", desc := "(I)Z" } : MethodName) prog_1_method_35_code (1 : Nat) (Option.some FieldType.boolean)) ∈ lw_tbl := List.mem_of_getElem? (i := 382) rfl
set_option maxRecDepth 20000 in
theorem mw_280 : (Cond.methodLink "PolicyCompiler" (63 : Nat) ({ cls := "PolicyCompiler$Parser", name := "read", desc := "([II[LPolicyCompiler$Slot;)I" } : MethodName)) ∈ lw_tbl := List.mem_of_getElem? (i := 383) (by decide +kernel)
set_option maxRecDepth 20000 in
theorem mw_281 : (Cond.instanceMethod ({ cls := "PolicyCompiler$Parser", name := "read", desc := "([II[LPolicyCompiler$Slot;)I" } : MethodName)) ∈ lw_tbl := List.mem_of_getElem? (i := 384) (by decide +kernel)
set_option maxRecDepth 20000 in
theorem mw_282 : (Cond.selects "PolicyCompiler$Parser" ({ cls := "PolicyCompiler$Parser", name := "read", desc := "([II[LPolicyCompiler$Slot;)I" } : MethodName) ({ cls := "PolicyCompiler$Parser", name := "read", desc := "([II[LPolicyCompiler$Slot;)I" } : MethodName)) ∈ lw_tbl := List.mem_of_getElem? (i := 385) (by decide +kernel)
set_option maxRecDepth 20000 in
theorem mw_283 : (Cond.code ({ cls := "PolicyCompiler$Parser", name := "read", desc := "([II[LPolicyCompiler$Slot;)I" } : MethodName) prog_5_method_3_code (5 : Nat) (Option.some FieldType.int)) ∈ lw_tbl := List.mem_of_getElem? (i := 386) rfl
set_option maxRecDepth 20000 in
theorem mw_284 : (Cond.methodLink "PolicyCompiler$Parser" (48 : Nat) ({ cls := "PolicyCompiler$Policy", name := "start", desc := "()V" } : MethodName)) ∈ lw_tbl := List.mem_of_getElem? (i := 387) (by decide +kernel)
set_option maxRecDepth 20000 in
theorem mw_285 : (Cond.instanceMethod ({ cls := "PolicyCompiler$Policy", name := "start", desc := "()V" } : MethodName)) ∈ lw_tbl := List.mem_of_getElem? (i := 388) (by decide +kernel)
set_option maxRecDepth 20000 in
theorem mw_286 : (Cond.selects "PolicyCompiler$Policy" ({ cls := "PolicyCompiler$Policy", name := "start", desc := "()V" } : MethodName) ({ cls := "PolicyCompiler$Policy", name := "start", desc := "()V" } : MethodName)) ∈ lw_tbl := List.mem_of_getElem? (i := 389) (by decide +kernel)
set_option maxRecDepth 20000 in
theorem mw_287 : (Cond.code ({ cls := "PolicyCompiler$Policy", name := "start", desc := "()V" } : MethodName) prog_6_method_2_code (1 : Nat) (Option.none : Option ClassFile.FieldType)) ∈ lw_tbl := List.mem_of_getElem? (i := 390) rfl
set_option maxRecDepth 20000 in
theorem mw_288 : (Cond.methodLink "PolicyCompiler$Parser" (51 : Nat) ({ cls := "PolicyCompiler$Parser", name := "takeFactor", desc := "(II[LPolicyCompiler$Slot;)V" } : MethodName)) ∈ lw_tbl := List.mem_of_getElem? (i := 391) (by decide +kernel)
set_option maxRecDepth 20000 in
theorem mw_290 : (Cond.instanceMethod ({ cls := "PolicyCompiler$Parser", name := "takeFactor", desc := "(II[LPolicyCompiler$Slot;)V" } : MethodName)) ∈ lw_tbl := List.mem_of_getElem? (i := 393) (by decide +kernel)
set_option maxRecDepth 20000 in
theorem mw_291 : (Cond.code ({ cls := "PolicyCompiler$Parser", name := "takeFactor", desc := "(II[LPolicyCompiler$Slot;)V" } : MethodName) prog_5_method_5_code (5 : Nat) (Option.none : Option ClassFile.FieldType)) ∈ lw_tbl := List.mem_of_getElem? (i := 394) rfl
set_option maxRecDepth 20000 in
theorem mw_292 : (Cond.methodLink "PolicyCompiler$Parser" (83 : Nat) ({ cls := "PolicyCompiler$Parser", name := "open", desc := "(II)V" } : MethodName)) ∈ lw_tbl := List.mem_of_getElem? (i := 395) (by decide +kernel)
set_option maxRecDepth 20000 in
theorem mw_294 : (Cond.instanceMethod ({ cls := "PolicyCompiler$Parser", name := "open", desc := "(II)V" } : MethodName)) ∈ lw_tbl := List.mem_of_getElem? (i := 397) (by decide +kernel)
set_option maxRecDepth 20000 in
theorem mw_295 : (Cond.code ({ cls := "PolicyCompiler$Parser", name := "open", desc := "(II)V" } : MethodName) prog_5_method_15_code (3 : Nat) (Option.none : Option ClassFile.FieldType)) ∈ lw_tbl := List.mem_of_getElem? (i := 398) rfl
set_option maxRecDepth 20000 in
theorem mw_296 : (Cond.methodLink "PolicyCompiler$Parser" (86 : Nat) ({ cls := "PolicyCompiler$Parser", name := "endLeaf", desc := "(III)V" } : MethodName)) ∈ lw_tbl := List.mem_of_getElem? (i := 399) (by decide +kernel)
set_option maxRecDepth 20000 in
theorem mw_298 : (Cond.instanceMethod ({ cls := "PolicyCompiler$Parser", name := "endLeaf", desc := "(III)V" } : MethodName)) ∈ lw_tbl := List.mem_of_getElem? (i := 401) (by decide +kernel)
set_option maxRecDepth 20000 in
theorem mw_299 : (Cond.code ({ cls := "PolicyCompiler$Parser", name := "endLeaf", desc := "(III)V" } : MethodName) prog_5_method_8_code (4 : Nat) (Option.none : Option ClassFile.FieldType)) ∈ lw_tbl := List.mem_of_getElem? (i := 402) rfl
set_option maxRecDepth 20000 in
theorem mw_300 : (Cond.methodLink "PolicyCompiler$Parser" (106 : Nat) ({ cls := "PolicyCompiler$Policy", name := "add", desc := "(III)V" } : MethodName)) ∈ lw_tbl := List.mem_of_getElem? (i := 403) (by decide +kernel)
set_option maxRecDepth 20000 in
theorem mw_301 : (Cond.methodLink "PolicyCompiler$Parser" (103 : Nat) ({ cls := "PolicyCompiler$Parser", name := "pushOperand", desc := "(Z)V" } : MethodName)) ∈ lw_tbl := List.mem_of_getElem? (i := 404) (by decide +kernel)
set_option maxRecDepth 20000 in
theorem mw_303 : (Cond.instanceMethod ({ cls := "PolicyCompiler$Parser", name := "pushOperand", desc := "(Z)V" } : MethodName)) ∈ lw_tbl := List.mem_of_getElem? (i := 406) (by decide +kernel)
set_option maxRecDepth 20000 in
theorem mw_304 : (Cond.code ({ cls := "PolicyCompiler$Parser", name := "pushOperand", desc := "(Z)V" } : MethodName) prog_5_method_18_code (2 : Nat) (Option.none : Option ClassFile.FieldType)) ∈ lw_tbl := List.mem_of_getElem? (i := 407) rfl
set_option maxRecDepth 20000 in
theorem mw_305 : (Cond.methodLink "PolicyCompiler$Parser" (90 : Nat) ({ cls := "PolicyCompiler$Slot", name := "policy", desc := "()LPolicyCompiler$Policy;" } : MethodName)) ∈ lw_tbl := List.mem_of_getElem? (i := 408) (by decide +kernel)
set_option maxRecDepth 20000 in
theorem mw_306 : (Cond.instanceMethod ({ cls := "PolicyCompiler$Slot", name := "policy", desc := "()LPolicyCompiler$Policy;" } : MethodName)) ∈ lw_tbl := List.mem_of_getElem? (i := 409) (by decide +kernel)
set_option maxRecDepth 20000 in
theorem mw_307 : (Cond.selects "PolicyCompiler$Slot" ({ cls := "PolicyCompiler$Slot", name := "policy", desc := "()LPolicyCompiler$Policy;" } : MethodName) ({ cls := "PolicyCompiler$Slot", name := "policy", desc := "()LPolicyCompiler$Policy;" } : MethodName)) ∈ lw_tbl := List.mem_of_getElem? (i := 410) (by decide +kernel)
set_option maxRecDepth 20000 in
theorem mw_308 : (Cond.code ({ cls := "PolicyCompiler$Slot", name := "policy", desc := "()LPolicyCompiler$Policy;" } : MethodName) prog_9_method_4_code (1 : Nat) (Option.some (FieldType.object "PolicyCompiler$Policy"))) ∈ lw_tbl := List.mem_of_getElem? (i := 411) rfl
set_option maxRecDepth 20000 in
theorem mw_309 : (Cond.methodLink "PolicyCompiler$Parser" (96 : Nat) ({ cls := "PolicyCompiler$Policy", name := "addAll", desc := "(LPolicyCompiler$Policy;)V" } : MethodName)) ∈ lw_tbl := List.mem_of_getElem? (i := 412) (by decide +kernel)
set_option maxRecDepth 20000 in
theorem mw_310 : (Cond.instanceMethod ({ cls := "PolicyCompiler$Policy", name := "addAll", desc := "(LPolicyCompiler$Policy;)V" } : MethodName)) ∈ lw_tbl := List.mem_of_getElem? (i := 413) (by decide +kernel)
set_option maxRecDepth 20000 in
theorem mw_311 : (Cond.selects "PolicyCompiler$Policy" ({ cls := "PolicyCompiler$Policy", name := "addAll", desc := "(LPolicyCompiler$Policy;)V" } : MethodName) ({ cls := "PolicyCompiler$Policy", name := "addAll", desc := "(LPolicyCompiler$Policy;)V" } : MethodName)) ∈ lw_tbl := List.mem_of_getElem? (i := 414) (by decide +kernel)
set_option maxRecDepth 20000 in
theorem mw_312 : (Cond.code ({ cls := "PolicyCompiler$Policy", name := "addAll", desc := "(LPolicyCompiler$Policy;)V" } : MethodName) prog_6_method_5_code (4 : Nat) (Option.none : Option ClassFile.FieldType)) ∈ lw_tbl := List.mem_of_getElem? (i := 415) rfl
set_option maxRecDepth 20000 in
theorem mw_313 : (Cond.methodLink "PolicyCompiler$Parser" (100 : Nat) ({ cls := "PolicyCompiler$Policy", name := "givesPredicate", desc := "()Z" } : MethodName)) ∈ lw_tbl := List.mem_of_getElem? (i := 416) (by decide +kernel)
set_option maxRecDepth 20000 in
theorem mw_314 : (Cond.instanceMethod ({ cls := "PolicyCompiler$Policy", name := "givesPredicate", desc := "()Z" } : MethodName)) ∈ lw_tbl := List.mem_of_getElem? (i := 417) (by decide +kernel)
set_option maxRecDepth 20000 in
theorem mw_315 : (Cond.selects "PolicyCompiler$Policy" ({ cls := "PolicyCompiler$Policy", name := "givesPredicate", desc := "()Z" } : MethodName) ({ cls := "PolicyCompiler$Policy", name := "givesPredicate", desc := "()Z" } : MethodName)) ∈ lw_tbl := List.mem_of_getElem? (i := 418) (by decide +kernel)
set_option maxRecDepth 20000 in
theorem mw_316 : (Cond.code ({ cls := "PolicyCompiler$Policy", name := "givesPredicate", desc := "()Z" } : MethodName) prog_6_method_7_code (1 : Nat) (Option.some FieldType.boolean)) ∈ lw_tbl := List.mem_of_getElem? (i := 419) rfl
set_option maxRecDepth 20000 in
theorem mw_317 : (Cond.methodLink "PolicyCompiler$Parser" (55 : Nat) ({ cls := "PolicyCompiler$Parser", name := "takeSign", desc := "(II)V" } : MethodName)) ∈ lw_tbl := List.mem_of_getElem? (i := 420) (by decide +kernel)
set_option maxRecDepth 20000 in
theorem mw_319 : (Cond.instanceMethod ({ cls := "PolicyCompiler$Parser", name := "takeSign", desc := "(II)V" } : MethodName)) ∈ lw_tbl := List.mem_of_getElem? (i := 422) (by decide +kernel)
set_option maxRecDepth 20000 in
theorem mw_320 : (Cond.code ({ cls := "PolicyCompiler$Parser", name := "takeSign", desc := "(II)V" } : MethodName) prog_5_method_6_code (3 : Nat) (Option.none : Option ClassFile.FieldType)) ∈ lw_tbl := List.mem_of_getElem? (i := 423) rfl
set_option maxRecDepth 20000 in
theorem mw_321 : (Cond.methodLink "PolicyCompiler$Parser" (59 : Nat) ({ cls := "PolicyCompiler$Parser", name := "takeDigit", desc := "(II)V" } : MethodName)) ∈ lw_tbl := List.mem_of_getElem? (i := 424) (by decide +kernel)
set_option maxRecDepth 20000 in
theorem mw_323 : (Cond.instanceMethod ({ cls := "PolicyCompiler$Parser", name := "takeDigit", desc := "(II)V" } : MethodName)) ∈ lw_tbl := List.mem_of_getElem? (i := 426) (by decide +kernel)
set_option maxRecDepth 20000 in
theorem mw_324 : (Cond.code ({ cls := "PolicyCompiler$Parser", name := "takeDigit", desc := "(II)V" } : MethodName) prog_5_method_7_code (3 : Nat) (Option.none : Option ClassFile.FieldType)) ∈ lw_tbl := List.mem_of_getElem? (i := 427) rfl
set_option maxRecDepth 20000 in
theorem mw_325 : (Cond.methodLink "PolicyCompiler$Parser" (62 : Nat) ({ cls := "PolicyCompiler$Parser", name := "takeBehindAtom", desc := "(II)V" } : MethodName)) ∈ lw_tbl := List.mem_of_getElem? (i := 428) (by decide +kernel)
set_option maxRecDepth 20000 in
theorem mw_327 : (Cond.instanceMethod ({ cls := "PolicyCompiler$Parser", name := "takeBehindAtom", desc := "(II)V" } : MethodName)) ∈ lw_tbl := List.mem_of_getElem? (i := 430) (by decide +kernel)
set_option maxRecDepth 20000 in
theorem mw_328 : (Cond.code ({ cls := "PolicyCompiler$Parser", name := "takeBehindAtom", desc := "(II)V" } : MethodName) prog_5_method_9_code (3 : Nat) (Option.none : Option ClassFile.FieldType)) ∈ lw_tbl := List.mem_of_getElem? (i := 431) rfl
set_option maxRecDepth 20000 in
theorem mw_329 : (Cond.methodLink "PolicyCompiler$Parser" (109 : Nat) ({ cls := "PolicyCompiler$Parser", name := "popOperand", desc := "()Z" } : MethodName)) ∈ lw_tbl := List.mem_of_getElem? (i := 432) (by decide +kernel)
set_option maxRecDepth 20000 in
theorem mw_331 : (Cond.instanceMethod ({ cls := "PolicyCompiler$Parser", name := "popOperand", desc := "()Z" } : MethodName)) ∈ lw_tbl := List.mem_of_getElem? (i := 434) (by decide +kernel)
set_option maxRecDepth 20000 in
theorem mw_332 : (Cond.code ({ cls := "PolicyCompiler$Parser", name := "popOperand", desc := "()Z" } : MethodName) prog_5_method_19_code (2 : Nat) (Option.some FieldType.boolean)) ∈ lw_tbl := List.mem_of_getElem? (i := 435) rfl
set_option maxRecDepth 20000 in
theorem mw_333 : (Cond.methodLink "PolicyCompiler$Parser" (75 : Nat) ({ cls := "PolicyCompiler$Parser", name := "topIsPredicate", desc := "()Z" } : MethodName)) ∈ lw_tbl := List.mem_of_getElem? (i := 436) (by decide +kernel)
set_option maxRecDepth 20000 in
theorem mw_335 : (Cond.instanceMethod ({ cls := "PolicyCompiler$Parser", name := "topIsPredicate", desc := "()Z" } : MethodName)) ∈ lw_tbl := List.mem_of_getElem? (i := 438) (by decide +kernel)
set_option maxRecDepth 20000 in
theorem mw_336 : (Cond.code ({ cls := "PolicyCompiler$Parser", name := "topIsPredicate", desc := "()Z" } : MethodName) prog_5_method_20_code (1 : Nat) (Option.some FieldType.boolean)) ∈ lw_tbl := List.mem_of_getElem? (i := 439) rfl
set_option maxRecDepth 20000 in
theorem mw_337 : (Cond.methodLink "PolicyCompiler$Parser" (69 : Nat) ({ cls := "PolicyCompiler$Parser", name := "endFactor", desc := "()V" } : MethodName)) ∈ lw_tbl := List.mem_of_getElem? (i := 440) (by decide +kernel)
set_option maxRecDepth 20000 in
theorem mw_339 : (Cond.instanceMethod ({ cls := "PolicyCompiler$Parser", name := "endFactor", desc := "()V" } : MethodName)) ∈ lw_tbl := List.mem_of_getElem? (i := 442) (by decide +kernel)
set_option maxRecDepth 20000 in
theorem mw_340 : (Cond.code ({ cls := "PolicyCompiler$Parser", name := "endFactor", desc := "()V" } : MethodName) prog_5_method_10_code (2 : Nat) (Option.none : Option ClassFile.FieldType)) ∈ lw_tbl := List.mem_of_getElem? (i := 443) rfl
set_option maxRecDepth 20000 in
theorem mw_341 : (Cond.methodLink "PolicyCompiler$Parser" (118 : Nat) ({ cls := "PolicyCompiler$Parser", name := "innermost", desc := "()I" } : MethodName)) ∈ lw_tbl := List.mem_of_getElem? (i := 444) (by decide +kernel)
set_option maxRecDepth 20000 in
theorem mw_343 : (Cond.instanceMethod ({ cls := "PolicyCompiler$Parser", name := "innermost", desc := "()I" } : MethodName)) ∈ lw_tbl := List.mem_of_getElem? (i := 446) (by decide +kernel)
set_option maxRecDepth 20000 in
theorem mw_344 : (Cond.code ({ cls := "PolicyCompiler$Parser", name := "innermost", desc := "()I" } : MethodName) prog_5_method_16_code (1 : Nat) (Option.some FieldType.int)) ∈ lw_tbl := List.mem_of_getElem? (i := 447) rfl
set_option maxRecDepth 20000 in
theorem mw_345 : (Cond.methodLink "PolicyCompiler$Parser" (122 : Nat) ({ cls := "PolicyCompiler$Parser", name := "innermostBegin", desc := "()I" } : MethodName)) ∈ lw_tbl := List.mem_of_getElem? (i := 448) (by decide +kernel)
set_option maxRecDepth 20000 in
theorem mw_347 : (Cond.instanceMethod ({ cls := "PolicyCompiler$Parser", name := "innermostBegin", desc := "()I" } : MethodName)) ∈ lw_tbl := List.mem_of_getElem? (i := 450) (by decide +kernel)
set_option maxRecDepth 20000 in
theorem mw_348 : (Cond.code ({ cls := "PolicyCompiler$Parser", name := "innermostBegin", desc := "()I" } : MethodName) prog_5_method_17_code (1 : Nat) (Option.some FieldType.int)) ∈ lw_tbl := List.mem_of_getElem? (i := 451) rfl
set_option maxRecDepth 20000 in
theorem mw_349 : (Cond.methodLink "PolicyCompiler$Parser" (112 : Nat) ({ cls := "PolicyCompiler$Parser", name := "endPair", desc := "(II)V" } : MethodName)) ∈ lw_tbl := List.mem_of_getElem? (i := 452) (by decide +kernel)
set_option maxRecDepth 20000 in
theorem mw_351 : (Cond.instanceMethod ({ cls := "PolicyCompiler$Parser", name := "endPair", desc := "(II)V" } : MethodName)) ∈ lw_tbl := List.mem_of_getElem? (i := 454) (by decide +kernel)
set_option maxRecDepth 20000 in
theorem mw_352 : (Cond.code ({ cls := "PolicyCompiler$Parser", name := "endPair", desc := "(II)V" } : MethodName) prog_5_method_12_code (5 : Nat) (Option.none : Option ClassFile.FieldType)) ∈ lw_tbl := List.mem_of_getElem? (i := 455) rfl
set_option maxRecDepth 20000 in
theorem mw_353 : (Cond.methodLink "PolicyCompiler$Parser" (72 : Nat) ({ cls := "PolicyCompiler$Parser", name := "endUnion", desc := "()V" } : MethodName)) ∈ lw_tbl := List.mem_of_getElem? (i := 456) (by decide +kernel)
set_option maxRecDepth 20000 in
theorem mw_355 : (Cond.instanceMethod ({ cls := "PolicyCompiler$Parser", name := "endUnion", desc := "()V" } : MethodName)) ∈ lw_tbl := List.mem_of_getElem? (i := 458) (by decide +kernel)
set_option maxRecDepth 20000 in
theorem mw_356 : (Cond.code ({ cls := "PolicyCompiler$Parser", name := "endUnion", desc := "()V" } : MethodName) prog_5_method_11_code (1 : Nat) (Option.none : Option ClassFile.FieldType)) ∈ lw_tbl := List.mem_of_getElem? (i := 459) rfl
set_option maxRecDepth 20000 in
theorem mw_357 : (Cond.methodLink "PolicyCompiler$Parser" (115 : Nat) ({ cls := "PolicyCompiler$Parser", name := "takeBracket", desc := "(II)V" } : MethodName)) ∈ lw_tbl := List.mem_of_getElem? (i := 460) (by decide +kernel)
set_option maxRecDepth 20000 in
theorem mw_359 : (Cond.instanceMethod ({ cls := "PolicyCompiler$Parser", name := "takeBracket", desc := "(II)V" } : MethodName)) ∈ lw_tbl := List.mem_of_getElem? (i := 462) (by decide +kernel)
set_option maxRecDepth 20000 in
theorem mw_360 : (Cond.code ({ cls := "PolicyCompiler$Parser", name := "takeBracket", desc := "(II)V" } : MethodName) prog_5_method_13_code (4 : Nat) (Option.none : Option ClassFile.FieldType)) ∈ lw_tbl := List.mem_of_getElem? (i := 463) rfl
set_option maxRecDepth 20000 in
theorem mw_361 : (Cond.methodLink "PolicyCompiler$Parser" (125 : Nat) ({ cls := "PolicyCompiler$Parser", name := "endChoice", desc := "()V" } : MethodName)) ∈ lw_tbl := List.mem_of_getElem? (i := 464) (by decide +kernel)
set_option maxRecDepth 20000 in
theorem mw_363 : (Cond.instanceMethod ({ cls := "PolicyCompiler$Parser", name := "endChoice", desc := "()V" } : MethodName)) ∈ lw_tbl := List.mem_of_getElem? (i := 466) (by decide +kernel)
set_option maxRecDepth 20000 in
theorem mw_364 : (Cond.code ({ cls := "PolicyCompiler$Parser", name := "endChoice", desc := "()V" } : MethodName) prog_5_method_14_code (3 : Nat) (Option.none : Option ClassFile.FieldType)) ∈ lw_tbl := List.mem_of_getElem? (i := 467) rfl
set_option maxRecDepth 20000 in
theorem mw_365 : (Cond.methodLink "PolicyCompiler$Parser" (65 : Nat) ({ cls := "PolicyCompiler$Parser", name := "finish", desc := "(I)V" } : MethodName)) ∈ lw_tbl := List.mem_of_getElem? (i := 468) (by decide +kernel)
set_option maxRecDepth 20000 in
theorem mw_367 : (Cond.instanceMethod ({ cls := "PolicyCompiler$Parser", name := "finish", desc := "(I)V" } : MethodName)) ∈ lw_tbl := List.mem_of_getElem? (i := 470) (by decide +kernel)
set_option maxRecDepth 20000 in
theorem mw_368 : (Cond.code ({ cls := "PolicyCompiler$Parser", name := "finish", desc := "(I)V" } : MethodName) prog_5_method_4_code (2 : Nat) (Option.none : Option ClassFile.FieldType)) ∈ lw_tbl := List.mem_of_getElem? (i := 471) rfl
set_option maxRecDepth 20000 in
theorem mw_369 : (Cond.methodLink "PolicyCompiler$Parser" (79 : Nat) ({ cls := "PolicyCompiler$Policy", name := "markPredicate", desc := "(Z)V" } : MethodName)) ∈ lw_tbl := List.mem_of_getElem? (i := 472) (by decide +kernel)
set_option maxRecDepth 20000 in
theorem mw_370 : (Cond.methodLink "PolicyCompiler" (67 : Nat) ({ cls := "PolicyCompiler$Parser", name := "result", desc := "()LPolicyCompiler$Policy;" } : MethodName)) ∈ lw_tbl := List.mem_of_getElem? (i := 473) (by decide +kernel)
set_option maxRecDepth 20000 in
theorem mw_371 : (Cond.instanceMethod ({ cls := "PolicyCompiler$Parser", name := "result", desc := "()LPolicyCompiler$Policy;" } : MethodName)) ∈ lw_tbl := List.mem_of_getElem? (i := 474) (by decide +kernel)
set_option maxRecDepth 20000 in
theorem mw_372 : (Cond.selects "PolicyCompiler$Parser" ({ cls := "PolicyCompiler$Parser", name := "result", desc := "()LPolicyCompiler$Policy;" } : MethodName) ({ cls := "PolicyCompiler$Parser", name := "result", desc := "()LPolicyCompiler$Policy;" } : MethodName)) ∈ lw_tbl := List.mem_of_getElem? (i := 475) (by decide +kernel)
set_option maxRecDepth 20000 in
theorem mw_373 : (Cond.code ({ cls := "PolicyCompiler$Parser", name := "result", desc := "()LPolicyCompiler$Policy;" } : MethodName) prog_5_method_2_code (1 : Nat) (Option.some (FieldType.object "PolicyCompiler$Policy"))) ∈ lw_tbl := List.mem_of_getElem? (i := 476) rfl
set_option maxRecDepth 20000 in
theorem mw_374 : (Cond.methodLink "PolicyCompiler" (71 : Nat) ({ cls := "PolicyCompiler", name := "store", desc := "(LPolicyCompiler$Policy;I)I" } : MethodName)) ∈ lw_tbl := List.mem_of_getElem? (i := 477) (by decide +kernel)
set_option maxRecDepth 20000 in
theorem mw_376 : (Cond.instanceMethod ({ cls := "PolicyCompiler", name := "store", desc := "(LPolicyCompiler$Policy;I)I" } : MethodName)) ∈ lw_tbl := List.mem_of_getElem? (i := 479) (by decide +kernel)
set_option maxRecDepth 20000 in
theorem mw_377 : (Cond.code ({ cls := "PolicyCompiler", name := "store", desc := "(LPolicyCompiler$Policy;I)I" } : MethodName) prog_1_method_33_code (3 : Nat) (Option.some FieldType.int)) ∈ lw_tbl := List.mem_of_getElem? (i := 480) rfl
set_option maxRecDepth 20000 in
theorem mw_378 : (Cond.methodLink "PolicyCompiler" (100 : Nat) ({ cls := "PolicyCompiler$Policy", name := "nodeCount", desc := "()I" } : MethodName)) ∈ lw_tbl := List.mem_of_getElem? (i := 481) (by decide +kernel)
set_option maxRecDepth 20000 in
theorem mw_379 : (Cond.instanceMethod ({ cls := "PolicyCompiler$Policy", name := "nodeCount", desc := "()I" } : MethodName)) ∈ lw_tbl := List.mem_of_getElem? (i := 482) (by decide +kernel)
set_option maxRecDepth 20000 in
theorem mw_380 : (Cond.selects "PolicyCompiler$Policy" ({ cls := "PolicyCompiler$Policy", name := "nodeCount", desc := "()I" } : MethodName) ({ cls := "PolicyCompiler$Policy", name := "nodeCount", desc := "()I" } : MethodName)) ∈ lw_tbl := List.mem_of_getElem? (i := 483) (by decide +kernel)
set_option maxRecDepth 20000 in
theorem mw_381 : (Cond.code ({ cls := "PolicyCompiler$Policy", name := "nodeCount", desc := "()I" } : MethodName) prog_6_method_8_code (1 : Nat) (Option.some FieldType.int)) ∈ lw_tbl := List.mem_of_getElem? (i := 484) rfl
set_option maxRecDepth 20000 in
theorem mw_382 : (Cond.methodLink "PolicyCompiler" (78 : Nat) ({ cls := "PolicyCompiler$Slot", name := "policy", desc := "()LPolicyCompiler$Policy;" } : MethodName)) ∈ lw_tbl := List.mem_of_getElem? (i := 485) (by decide +kernel)
set_option maxRecDepth 20000 in
theorem mw_383 : (Cond.methodLink "PolicyCompiler" (239 : Nat) ({ cls := "PolicyCompiler$History", name := "save", desc := "(ILPolicyCompiler$Policy;)V" } : MethodName)) ∈ lw_tbl := List.mem_of_getElem? (i := 486) (by decide +kernel)
set_option maxRecDepth 20000 in
theorem mw_384 : (Cond.instanceMethod ({ cls := "PolicyCompiler$History", name := "save", desc := "(ILPolicyCompiler$Policy;)V" } : MethodName)) ∈ lw_tbl := List.mem_of_getElem? (i := 487) (by decide +kernel)
set_option maxRecDepth 20000 in
theorem mw_385 : (Cond.selects "PolicyCompiler$History" ({ cls := "PolicyCompiler$History", name := "save", desc := "(ILPolicyCompiler$Policy;)V" } : MethodName) ({ cls := "PolicyCompiler$History", name := "save", desc := "(ILPolicyCompiler$Policy;)V" } : MethodName)) ∈ lw_tbl := List.mem_of_getElem? (i := 488) (by decide +kernel)
set_option maxRecDepth 20000 in
theorem mw_386 : (Cond.code ({ cls := "PolicyCompiler$History", name := "save", desc := "(ILPolicyCompiler$Policy;)V" } : MethodName) prog_4_method_3_code (3 : Nat) (Option.none : Option ClassFile.FieldType)) ∈ lw_tbl := List.mem_of_getElem? (i := 489) rfl
set_option maxRecDepth 20000 in
theorem mw_387 : (Cond.methodLink "PolicyCompiler$History" (26 : Nat) ({ cls := "PolicyCompiler$History", name := "dropOldest", desc := "()V" } : MethodName)) ∈ lw_tbl := List.mem_of_getElem? (i := 490) (by decide +kernel)
set_option maxRecDepth 20000 in
theorem mw_389 : (Cond.instanceMethod ({ cls := "PolicyCompiler$History", name := "dropOldest", desc := "()V" } : MethodName)) ∈ lw_tbl := List.mem_of_getElem? (i := 492) (by decide +kernel)
set_option maxRecDepth 20000 in
theorem mw_390 : (Cond.code ({ cls := "PolicyCompiler$History", name := "dropOldest", desc := "()V" } : MethodName) prog_4_method_4_code (3 : Nat) (Option.none : Option ClassFile.FieldType)) ∈ lw_tbl := List.mem_of_getElem? (i := 493) rfl
set_option maxRecDepth 20000 in
theorem mw_391 : (Cond.methodLink "PolicyCompiler$History" (29 : Nat) ({ cls := "PolicyCompiler$Policy", name := "start", desc := "()V" } : MethodName)) ∈ lw_tbl := List.mem_of_getElem? (i := 494) (by decide +kernel)
set_option maxRecDepth 20000 in
theorem mw_392 : (Cond.methodLink "PolicyCompiler$History" (32 : Nat) ({ cls := "PolicyCompiler$Policy", name := "addAll", desc := "(LPolicyCompiler$Policy;)V" } : MethodName)) ∈ lw_tbl := List.mem_of_getElem? (i := 495) (by decide +kernel)
set_option maxRecDepth 20000 in
theorem mw_393 : (Cond.methodLink "PolicyCompiler$History" (36 : Nat) ({ cls := "PolicyCompiler$Policy", name := "givesPredicate", desc := "()Z" } : MethodName)) ∈ lw_tbl := List.mem_of_getElem? (i := 496) (by decide +kernel)
set_option maxRecDepth 20000 in
theorem mw_394 : (Cond.methodLink "PolicyCompiler$History" (40 : Nat) ({ cls := "PolicyCompiler$Policy", name := "markPredicate", desc := "(Z)V" } : MethodName)) ∈ lw_tbl := List.mem_of_getElem? (i := 497) (by decide +kernel)
set_option maxRecDepth 20000 in
theorem mw_395 : (Cond.methodLink "PolicyCompiler" (210 : Nat) ({ cls := "PolicyCompiler$Slot", name := "hold", desc := "(LPolicyCompiler$Policy;)V" } : MethodName)) ∈ lw_tbl := List.mem_of_getElem? (i := 498) (by decide +kernel)
set_option maxRecDepth 20000 in
theorem mw_396 : (Cond.instanceMethod ({ cls := "PolicyCompiler$Slot", name := "hold", desc := "(LPolicyCompiler$Policy;)V" } : MethodName)) ∈ lw_tbl := List.mem_of_getElem? (i := 499) (by decide +kernel)
set_option maxRecDepth 20000 in
theorem mw_397 : (Cond.selects "PolicyCompiler$Slot" ({ cls := "PolicyCompiler$Slot", name := "hold", desc := "(LPolicyCompiler$Policy;)V" } : MethodName) ({ cls := "PolicyCompiler$Slot", name := "hold", desc := "(LPolicyCompiler$Policy;)V" } : MethodName)) ∈ lw_tbl := List.mem_of_getElem? (i := 500) (by decide +kernel)
set_option maxRecDepth 20000 in
theorem mw_398 : (Cond.code ({ cls := "PolicyCompiler$Slot", name := "hold", desc := "(LPolicyCompiler$Policy;)V" } : MethodName) prog_9_method_2_code (2 : Nat) (Option.none : Option ClassFile.FieldType)) ∈ lw_tbl := List.mem_of_getElem? (i := 501) rfl
set_option maxRecDepth 20000 in
theorem mw_399 : (Cond.methodLink "PolicyCompiler$Slot" (58 : Nat) ({ cls := "PolicyCompiler$Policy", name := "start", desc := "()V" } : MethodName)) ∈ lw_tbl := List.mem_of_getElem? (i := 502) (by decide +kernel)
set_option maxRecDepth 20000 in
theorem mw_400 : (Cond.methodLink "PolicyCompiler$Slot" (61 : Nat) ({ cls := "PolicyCompiler$Policy", name := "addAll", desc := "(LPolicyCompiler$Policy;)V" } : MethodName)) ∈ lw_tbl := List.mem_of_getElem? (i := 503) (by decide +kernel)
set_option maxRecDepth 20000 in
theorem mw_401 : (Cond.methodLink "PolicyCompiler$Slot" (65 : Nat) ({ cls := "PolicyCompiler$Policy", name := "givesPredicate", desc := "()Z" } : MethodName)) ∈ lw_tbl := List.mem_of_getElem? (i := 504) (by decide +kernel)
set_option maxRecDepth 20000 in
theorem mw_402 : (Cond.methodLink "PolicyCompilerLaw" (27 : Nat) ({ cls := "PolicyCompiler", name := "combine", desc := "(IIII)I" } : MethodName)) ∈ lw_tbl := List.mem_of_getElem? (i := 505) (by decide +kernel)
set_option maxRecDepth 20000 in
theorem mw_403 : (Cond.instanceMethod ({ cls := "PolicyCompiler", name := "combine", desc := "(IIII)I" } : MethodName)) ∈ lw_tbl := List.mem_of_getElem? (i := 506) (by decide +kernel)
set_option maxRecDepth 20000 in
theorem mw_404 : (Cond.selects "PolicyCompiler" ({ cls := "PolicyCompiler", name := "combine", desc := "(IIII)I" } : MethodName) ({ cls := "PolicyCompiler", name := "combine", desc := "(IIII)I" } : MethodName)) ∈ lw_tbl := List.mem_of_getElem? (i := 507) (by decide +kernel)
set_option maxRecDepth 20000 in
theorem mw_405 : (Cond.code ({ cls := "PolicyCompiler", name := "combine", desc := "(IIII)I" } : MethodName) prog_1_method_5_code (7 : Nat) (Option.some FieldType.int)) ∈ lw_tbl := List.mem_of_getElem? (i := 508) rfl
set_option maxRecDepth 20000 in
theorem mw_406 : (Cond.methodLink "PolicyCompiler" (75 : Nat) ({ cls := "PolicyCompiler", name := "isBit", desc := "(I)Z" } : MethodName)) ∈ lw_tbl := List.mem_of_getElem? (i := 509) (by decide +kernel)
set_option maxRecDepth 20000 in
theorem mw_407 : (Cond.static ({ cls := "PolicyCompiler", name := "isBit", desc := "(I)Z" } : MethodName)) ∈ lw_tbl := List.mem_of_getElem? (i := 510) (by decide +kernel)
set_option maxRecDepth 20000 in
theorem mw_408 : (Cond.code ({ cls := "PolicyCompiler", name := "isBit", desc := "(I)Z" } : MethodName) prog_1_method_34_code (1 : Nat) (Option.some FieldType.boolean)) ∈ lw_tbl := List.mem_of_getElem? (i := 511) rfl
set_option maxRecDepth 20000 in
theorem mw_409 : (Cond.methodLink "PolicyCompiler" (81 : Nat) ({ cls := "PolicyCompiler$Policy", name := "start", desc := "()V" } : MethodName)) ∈ lw_tbl := List.mem_of_getElem? (i := 512) (by decide +kernel)
set_option maxRecDepth 20000 in
theorem mw_410 : (Cond.methodLink "PolicyCompiler" (84 : Nat) ({ cls := "PolicyCompiler$Policy", name := "addAll", desc := "(LPolicyCompiler$Policy;)V" } : MethodName)) ∈ lw_tbl := List.mem_of_getElem? (i := 513) (by decide +kernel)
set_option maxRecDepth 20000 in
theorem mw_411 : (Cond.methodLink "PolicyCompiler" (88 : Nat) ({ cls := "PolicyCompiler$Policy", name := "add", desc := "(III)V" } : MethodName)) ∈ lw_tbl := List.mem_of_getElem? (i := 514) (by decide +kernel)
set_option maxRecDepth 20000 in
theorem mw_412 : (Cond.methodLink "PolicyCompiler" (92 : Nat) ({ cls := "PolicyCompiler$Policy", name := "givesPredicate", desc := "()Z" } : MethodName)) ∈ lw_tbl := List.mem_of_getElem? (i := 515) (by decide +kernel)
set_option maxRecDepth 20000 in
theorem mw_413 : (Cond.methodLink "PolicyCompiler" (96 : Nat) ({ cls := "PolicyCompiler$Policy", name := "markPredicate", desc := "(Z)V" } : MethodName)) ∈ lw_tbl := List.mem_of_getElem? (i := 516) (by decide +kernel)
set_option maxRecDepth 20000 in
theorem mw_414 : (Cond.methodLink "PolicyCompilerLaw" (32 : Nat) ({ cls := "PolicyCompiler", name := "modify", desc := "(III)I" } : MethodName)) ∈ lw_tbl := List.mem_of_getElem? (i := 517) (by decide +kernel)
set_option maxRecDepth 20000 in
theorem mw_415 : (Cond.instanceMethod ({ cls := "PolicyCompiler", name := "modify", desc := "(III)I" } : MethodName)) ∈ lw_tbl := List.mem_of_getElem? (i := 518) (by decide +kernel)
set_option maxRecDepth 20000 in
theorem mw_416 : (Cond.selects "PolicyCompiler" ({ cls := "PolicyCompiler", name := "modify", desc := "(III)I" } : MethodName) ({ cls := "PolicyCompiler", name := "modify", desc := "(III)I" } : MethodName)) ∈ lw_tbl := List.mem_of_getElem? (i := 519) (by decide +kernel)
set_option maxRecDepth 20000 in
theorem mw_417 : (Cond.code ({ cls := "PolicyCompiler", name := "modify", desc := "(III)I" } : MethodName) prog_1_method_6_code (6 : Nat) (Option.some FieldType.int)) ∈ lw_tbl := List.mem_of_getElem? (i := 520) rfl
set_option maxRecDepth 20000 in
theorem mw_418 : (Cond.methodLink "PolicyCompilerLaw" (37 : Nat) ({ cls := "PolicyCompiler", name := "size", desc := "(I)I" } : MethodName)) ∈ lw_tbl := List.mem_of_getElem? (i := 521) (by decide +kernel)
set_option maxRecDepth 20000 in
theorem mw_419 : (Cond.instanceMethod ({ cls := "PolicyCompiler", name := "size", desc := "(I)I" } : MethodName)) ∈ lw_tbl := List.mem_of_getElem? (i := 522) (by decide +kernel)
set_option maxRecDepth 20000 in
theorem mw_420 : (Cond.selects "PolicyCompiler" ({ cls := "PolicyCompiler", name := "size", desc := "(I)I" } : MethodName) ({ cls := "PolicyCompiler", name := "size", desc := "(I)I" } : MethodName)) ∈ lw_tbl := List.mem_of_getElem? (i := 523) (by decide +kernel)
set_option maxRecDepth 20000 in
theorem mw_421 : (Cond.code ({ cls := "PolicyCompiler", name := "size", desc := "(I)I" } : MethodName) prog_1_method_7_code (2 : Nat) (Option.some FieldType.int)) ∈ lw_tbl := List.mem_of_getElem? (i := 524) rfl
set_option maxRecDepth 20000 in
theorem mw_422 : (Cond.methodLink "PolicyCompilerLaw" (41 : Nat) ({ cls := "PolicyCompiler", name := "isPredicate", desc := "(I)I" } : MethodName)) ∈ lw_tbl := List.mem_of_getElem? (i := 525) (by decide +kernel)
set_option maxRecDepth 20000 in
theorem mw_423 : (Cond.instanceMethod ({ cls := "PolicyCompiler", name := "isPredicate", desc := "(I)I" } : MethodName)) ∈ lw_tbl := List.mem_of_getElem? (i := 526) (by decide +kernel)
set_option maxRecDepth 20000 in
theorem mw_424 : (Cond.selects "PolicyCompiler" ({ cls := "PolicyCompiler", name := "isPredicate", desc := "(I)I" } : MethodName) ({ cls := "PolicyCompiler", name := "isPredicate", desc := "(I)I" } : MethodName)) ∈ lw_tbl := List.mem_of_getElem? (i := 527) (by decide +kernel)
set_option maxRecDepth 20000 in
theorem mw_425 : (Cond.code ({ cls := "PolicyCompiler", name := "isPredicate", desc := "(I)I" } : MethodName) prog_1_method_8_code (2 : Nat) (Option.some FieldType.int)) ∈ lw_tbl := List.mem_of_getElem? (i := 528) rfl
set_option maxRecDepth 20000 in
theorem mw_426 : (Cond.methodLink "PolicyCompilerLaw" (45 : Nat) ({ cls := "PolicyCompiler", name := "printed", desc := "(II)I" } : MethodName)) ∈ lw_tbl := List.mem_of_getElem? (i := 529) (by decide +kernel)
set_option maxRecDepth 20000 in
theorem mw_427 : (Cond.instanceMethod ({ cls := "PolicyCompiler", name := "printed", desc := "(II)I" } : MethodName)) ∈ lw_tbl := List.mem_of_getElem? (i := 530) (by decide +kernel)
set_option maxRecDepth 20000 in
theorem mw_428 : (Cond.selects "PolicyCompiler" ({ cls := "PolicyCompiler", name := "printed", desc := "(II)I" } : MethodName) ({ cls := "PolicyCompiler", name := "printed", desc := "(II)I" } : MethodName)) ∈ lw_tbl := List.mem_of_getElem? (i := 531) (by decide +kernel)
set_option maxRecDepth 20000 in
theorem mw_429 : (Cond.code ({ cls := "PolicyCompiler", name := "printed", desc := "(II)I" } : MethodName) prog_1_method_9_code (4 : Nat) (Option.some FieldType.int)) ∈ lw_tbl := List.mem_of_getElem? (i := 532) rfl
set_option maxRecDepth 20000 in
theorem mw_430 : (Cond.methodLink "PolicyCompiler" (104 : Nat) ({ cls := "PolicyCompiler$Slot", name := "upToDate", desc := "(LPolicyCompiler$Evaluator;)LPolicyCompiler$Slot;" } : MethodName)) ∈ lw_tbl := List.mem_of_getElem? (i := 533) (by decide +kernel)
set_option maxRecDepth 20000 in
theorem mw_431 : (Cond.instanceMethod ({ cls := "PolicyCompiler$Slot", name := "upToDate", desc := "(LPolicyCompiler$Evaluator;)LPolicyCompiler$Slot;" } : MethodName)) ∈ lw_tbl := List.mem_of_getElem? (i := 534) (by decide +kernel)
set_option maxRecDepth 20000 in
theorem mw_432 : (Cond.selects "PolicyCompiler$Slot" ({ cls := "PolicyCompiler$Slot", name := "upToDate", desc := "(LPolicyCompiler$Evaluator;)LPolicyCompiler$Slot;" } : MethodName) ({ cls := "PolicyCompiler$Slot", name := "upToDate", desc := "(LPolicyCompiler$Evaluator;)LPolicyCompiler$Slot;" } : MethodName)) ∈ lw_tbl := List.mem_of_getElem? (i := 535) (by decide +kernel)
set_option maxRecDepth 20000 in
theorem mw_433 : (Cond.code ({ cls := "PolicyCompiler$Slot", name := "upToDate", desc := "(LPolicyCompiler$Evaluator;)LPolicyCompiler$Slot;" } : MethodName) prog_9_method_3_code (2 : Nat) (Option.some (FieldType.object "PolicyCompiler$Slot"))) ∈ lw_tbl := List.mem_of_getElem? (i := 536) rfl
set_option maxRecDepth 20000 in
theorem mw_434 : (Cond.methodLink "PolicyCompiler$Slot" (69 : Nat) ({ cls := "PolicyCompiler$Printout", name := "print", desc := "(LPolicyCompiler$Policy;)V" } : MethodName)) ∈ lw_tbl := List.mem_of_getElem? (i := 537) (by decide +kernel)
set_option maxRecDepth 20000 in
theorem mw_435 : (Cond.instanceMethod ({ cls := "PolicyCompiler$Printout", name := "print", desc := "(LPolicyCompiler$Policy;)V" } : MethodName)) ∈ lw_tbl := List.mem_of_getElem? (i := 538) (by decide +kernel)
set_option maxRecDepth 20000 in
theorem mw_436 : (Cond.selects "PolicyCompiler$Printout" ({ cls := "PolicyCompiler$Printout", name := "print", desc := "(LPolicyCompiler$Policy;)V" } : MethodName) ({ cls := "PolicyCompiler$Printout", name := "print", desc := "(LPolicyCompiler$Policy;)V" } : MethodName)) ∈ lw_tbl := List.mem_of_getElem? (i := 539) (by decide +kernel)
set_option maxRecDepth 20000 in
theorem mw_437 : (Cond.code ({ cls := "PolicyCompiler$Printout", name := "print", desc := "(LPolicyCompiler$Policy;)V" } : MethodName) prog_7_method_4_code (4 : Nat) (Option.none : Option ClassFile.FieldType)) ∈ lw_tbl := List.mem_of_getElem? (i := 540) rfl
set_option maxRecDepth 20000 in
theorem mw_438 : (Cond.methodLink "PolicyCompiler$Printout" (29 : Nat) ({ cls := "PolicyCompiler$Policy", name := "nodeCount", desc := "()I" } : MethodName)) ∈ lw_tbl := List.mem_of_getElem? (i := 541) (by decide +kernel)
set_option maxRecDepth 20000 in
theorem mw_439 : (Cond.methodLink "PolicyCompiler$Printout" (35 : Nat) ({ cls := "PolicyCompiler$Printout", name := "measured", desc := "(LPolicyCompiler$Policy;I)I" } : MethodName)) ∈ lw_tbl := List.mem_of_getElem? (i := 542) (by decide +kernel)
set_option maxRecDepth 20000 in
theorem mw_441 : (Cond.instanceMethod ({ cls := "PolicyCompiler$Printout", name := "measured", desc := "(LPolicyCompiler$Policy;I)I" } : MethodName)) ∈ lw_tbl := List.mem_of_getElem? (i := 544) (by decide +kernel)
set_option maxRecDepth 20000 in
theorem mw_442 : (Cond.code ({ cls := "PolicyCompiler$Printout", name := "measured", desc := "(LPolicyCompiler$Policy;I)I" } : MethodName) prog_7_method_5_code (8 : Nat) (Option.some FieldType.int)) ∈ lw_tbl := List.mem_of_getElem? (i := 545) rfl
set_option maxRecDepth 20000 in
theorem mw_443 : (Cond.methodLink "PolicyCompiler$Printout" (43 : Nat) ({ cls := "PolicyCompiler$Policy", name := "kindAt", desc := "(I)I" } : MethodName)) ∈ lw_tbl := List.mem_of_getElem? (i := 546) (by decide +kernel)
set_option maxRecDepth 20000 in
theorem mw_444 : (Cond.instanceMethod ({ cls := "PolicyCompiler$Policy", name := "kindAt", desc := "(I)I" } : MethodName)) ∈ lw_tbl := List.mem_of_getElem? (i := 547) (by decide +kernel)
set_option maxRecDepth 20000 in
theorem mw_445 : (Cond.selects "PolicyCompiler$Policy" ({ cls := "PolicyCompiler$Policy", name := "kindAt", desc := "(I)I" } : MethodName) ({ cls := "PolicyCompiler$Policy", name := "kindAt", desc := "(I)I" } : MethodName)) ∈ lw_tbl := List.mem_of_getElem? (i := 548) (by decide +kernel)
set_option maxRecDepth 20000 in
theorem mw_446 : (Cond.code ({ cls := "PolicyCompiler$Policy", name := "kindAt", desc := "(I)I" } : MethodName) prog_6_method_10_code (2 : Nat) (Option.some FieldType.int)) ∈ lw_tbl := List.mem_of_getElem? (i := 549) rfl
set_option maxRecDepth 20000 in
theorem mw_447 : (Cond.methodLink "PolicyCompiler$Policy" (30 : Nat) ({ cls := "PolicyCompiler$Policy", name := "nodeAt", desc := "(I)I" } : MethodName)) ∈ lw_tbl := List.mem_of_getElem? (i := 550) (by decide +kernel)
set_option maxRecDepth 20000 in
theorem mw_449 : (Cond.instanceMethod ({ cls := "PolicyCompiler$Policy", name := "nodeAt", desc := "(I)I" } : MethodName)) ∈ lw_tbl := List.mem_of_getElem? (i := 552) (by decide +kernel)
set_option maxRecDepth 20000 in
theorem mw_450 : (Cond.code ({ cls := "PolicyCompiler$Policy", name := "nodeAt", desc := "(I)I" } : MethodName) prog_6_method_9_code (2 : Nat) (Option.some FieldType.int)) ∈ lw_tbl := List.mem_of_getElem? (i := 553) rfl
set_option maxRecDepth 20000 in
theorem mw_451 : (Cond.methodLink "PolicyCompiler$Printout" (47 : Nat) ({ cls := "PolicyCompiler$Policy", name := "operandsOf", desc := "(I)I" } : MethodName)) ∈ lw_tbl := List.mem_of_getElem? (i := 554) (by decide +kernel)
set_option maxRecDepth 20000 in
theorem mw_452 : (Cond.methodLink "PolicyCompiler$Printout" (50 : Nat) ({ cls := "PolicyCompiler$Printout", name := "ownLength", desc := "(I)I" } : MethodName)) ∈ lw_tbl := List.mem_of_getElem? (i := 555) (by decide +kernel)
set_option maxRecDepth 20000 in
theorem mw_453 : (Cond.static ({ cls := "PolicyCompiler$Printout", name := "ownLength", desc := "(I)I" } : MethodName)) ∈ lw_tbl := List.mem_of_getElem? (i := 556) (by decide +kernel)
set_option maxRecDepth 20000 in
theorem mw_454 : (Cond.code ({ cls := "PolicyCompiler$Printout", name := "ownLength", desc := "(I)I" } : MethodName) prog_7_method_6_code (1 : Nat) (Option.some FieldType.int)) ∈ lw_tbl := List.mem_of_getElem? (i := 557) rfl
set_option maxRecDepth 20000 in
theorem mw_455 : (Cond.methodLink "PolicyCompiler$Printout" (53 : Nat) ({ cls := "PolicyCompiler$Policy", name := "operandAt", desc := "(II)I" } : MethodName)) ∈ lw_tbl := List.mem_of_getElem? (i := 558) (by decide +kernel)
set_option maxRecDepth 20000 in
theorem mw_456 : (Cond.instanceMethod ({ cls := "PolicyCompiler$Policy", name := "operandAt", desc := "(II)I" } : MethodName)) ∈ lw_tbl := List.mem_of_getElem? (i := 559) (by decide +kernel)
set_option maxRecDepth 20000 in
theorem mw_457 : (Cond.selects "PolicyCompiler$Policy" ({ cls := "PolicyCompiler$Policy", name := "operandAt", desc := "(II)I" } : MethodName) ({ cls := "PolicyCompiler$Policy", name := "operandAt", desc := "(II)I" } : MethodName)) ∈ lw_tbl := List.mem_of_getElem? (i := 560) (by decide +kernel)
set_option maxRecDepth 20000 in
theorem mw_458 : (Cond.code ({ cls := "PolicyCompiler$Policy", name := "operandAt", desc := "(II)I" } : MethodName) prog_6_method_13_code (5 : Nat) (Option.some FieldType.int)) ∈ lw_tbl := List.mem_of_getElem? (i := 561) rfl
set_option maxRecDepth 20000 in
theorem mw_459 : (Cond.methodLink "PolicyCompiler$Printout" (57 : Nat) ({ cls := "PolicyCompiler$Printout", name := "needsParentheses", desc := "(IIZ)Z" } : MethodName)) ∈ lw_tbl := List.mem_of_getElem? (i := 562) (by decide +kernel)
set_option maxRecDepth 20000 in
theorem mw_460 : (Cond.static ({ cls := "PolicyCompiler$Printout", name := "needsParentheses", desc := "(IIZ)Z" } : MethodName)) ∈ lw_tbl := List.mem_of_getElem? (i := 563) (by decide +kernel)
set_option maxRecDepth 20000 in
theorem mw_461 : (Cond.code ({ cls := "PolicyCompiler$Printout", name := "needsParentheses", desc := "(IIZ)Z" } : MethodName) prog_7_method_7_code (3 : Nat) (Option.some FieldType.boolean)) ∈ lw_tbl := List.mem_of_getElem? (i := 564) rfl
set_option maxRecDepth 20000 in
theorem mw_462 : (Cond.methodLink "PolicyCompiler$Printout" (39 : Nat) ({ cls := "PolicyCompiler$Printout", name := "printNode", desc := "(LPolicyCompiler$Policy;I)V" } : MethodName)) ∈ lw_tbl := List.mem_of_getElem? (i := 565) (by decide +kernel)
set_option maxRecDepth 20000 in
theorem mw_464 : (Cond.instanceMethod ({ cls := "PolicyCompiler$Printout", name := "printNode", desc := "(LPolicyCompiler$Policy;I)V" } : MethodName)) ∈ lw_tbl := List.mem_of_getElem? (i := 567) (by decide +kernel)
set_option maxRecDepth 20000 in
theorem mw_465 : (Cond.code ({ cls := "PolicyCompiler$Printout", name := "printNode", desc := "(LPolicyCompiler$Policy;I)V" } : MethodName) prog_7_method_8_code (4 : Nat) (Option.none : Option ClassFile.FieldType)) ∈ lw_tbl := List.mem_of_getElem? (i := 568) rfl
set_option maxRecDepth 20000 in
theorem mw_466 : (Cond.methodLink "PolicyCompiler$Printout" (61 : Nat) ({ cls := "PolicyCompiler$Printout", name := "innerPlace", desc := "(I)I" } : MethodName)) ∈ lw_tbl := List.mem_of_getElem? (i := 569) (by decide +kernel)
set_option maxRecDepth 20000 in
theorem mw_468 : (Cond.instanceMethod ({ cls := "PolicyCompiler$Printout", name := "innerPlace", desc := "(I)I" } : MethodName)) ∈ lw_tbl := List.mem_of_getElem? (i := 571) (by decide +kernel)
set_option maxRecDepth 20000 in
theorem mw_469 : (Cond.code ({ cls := "PolicyCompiler$Printout", name := "innerPlace", desc := "(I)I" } : MethodName) prog_7_method_13_code (2 : Nat) (Option.some FieldType.int)) ∈ lw_tbl := List.mem_of_getElem? (i := 572) rfl
set_option maxRecDepth 20000 in
theorem mw_470 : (Cond.methodLink "PolicyCompiler$Printout" (64 : Nat) ({ cls := "PolicyCompiler$Printout", name := "put", desc := "(II)V" } : MethodName)) ∈ lw_tbl := List.mem_of_getElem? (i := 573) (by decide +kernel)
set_option maxRecDepth 20000 in
theorem mw_472 : (Cond.instanceMethod ({ cls := "PolicyCompiler$Printout", name := "put", desc := "(II)V" } : MethodName)) ∈ lw_tbl := List.mem_of_getElem? (i := 575) (by decide +kernel)
set_option maxRecDepth 20000 in
theorem mw_473 : (Cond.code ({ cls := "PolicyCompiler$Printout", name := "put", desc := "(II)V" } : MethodName) prog_7_method_14_code (3 : Nat) (Option.none : Option ClassFile.FieldType)) ∈ lw_tbl := List.mem_of_getElem? (i := 576) rfl
set_option maxRecDepth 20000 in
theorem mw_474 : (Cond.methodLink "PolicyCompiler$Printout" (68 : Nat) ({ cls := "PolicyCompiler$Printout", name := "printLeaf", desc := "(LPolicyCompiler$Policy;II)V" } : MethodName)) ∈ lw_tbl := List.mem_of_getElem? (i := 577) (by decide +kernel)
set_option maxRecDepth 20000 in
theorem mw_476 : (Cond.instanceMethod ({ cls := "PolicyCompiler$Printout", name := "printLeaf", desc := "(LPolicyCompiler$Policy;II)V" } : MethodName)) ∈ lw_tbl := List.mem_of_getElem? (i := 579) (by decide +kernel)
set_option maxRecDepth 20000 in
theorem mw_477 : (Cond.code ({ cls := "PolicyCompiler$Printout", name := "printLeaf", desc := "(LPolicyCompiler$Policy;II)V" } : MethodName) prog_7_method_9_code (5 : Nat) (Option.none : Option ClassFile.FieldType)) ∈ lw_tbl := List.mem_of_getElem? (i := 580) rfl
set_option maxRecDepth 20000 in
theorem mw_478 : (Cond.methodLink "PolicyCompiler$Printout" (81 : Nat) ({ cls := "PolicyCompiler$Policy", name := "fieldAt", desc := "(I)I" } : MethodName)) ∈ lw_tbl := List.mem_of_getElem? (i := 581) (by decide +kernel)
set_option maxRecDepth 20000 in
theorem mw_479 : (Cond.instanceMethod ({ cls := "PolicyCompiler$Policy", name := "fieldAt", desc := "(I)I" } : MethodName)) ∈ lw_tbl := List.mem_of_getElem? (i := 582) (by decide +kernel)
set_option maxRecDepth 20000 in
theorem mw_480 : (Cond.selects "PolicyCompiler$Policy" ({ cls := "PolicyCompiler$Policy", name := "fieldAt", desc := "(I)I" } : MethodName) ({ cls := "PolicyCompiler$Policy", name := "fieldAt", desc := "(I)I" } : MethodName)) ∈ lw_tbl := List.mem_of_getElem? (i := 583) (by decide +kernel)
set_option maxRecDepth 20000 in
theorem mw_481 : (Cond.code ({ cls := "PolicyCompiler$Policy", name := "fieldAt", desc := "(I)I" } : MethodName) prog_6_method_11_code (2 : Nat) (Option.some FieldType.int)) ∈ lw_tbl := List.mem_of_getElem? (i := 584) rfl
set_option maxRecDepth 20000 in
theorem mw_482 : (Cond.methodLink "PolicyCompiler$Printout" (84 : Nat) ({ cls := "PolicyCompiler$Policy", name := "valueAt", desc := "(I)I" } : MethodName)) ∈ lw_tbl := List.mem_of_getElem? (i := 585) (by decide +kernel)
set_option maxRecDepth 20000 in
theorem mw_483 : (Cond.instanceMethod ({ cls := "PolicyCompiler$Policy", name := "valueAt", desc := "(I)I" } : MethodName)) ∈ lw_tbl := List.mem_of_getElem? (i := 586) (by decide +kernel)
set_option maxRecDepth 20000 in
theorem mw_484 : (Cond.selects "PolicyCompiler$Policy" ({ cls := "PolicyCompiler$Policy", name := "valueAt", desc := "(I)I" } : MethodName) ({ cls := "PolicyCompiler$Policy", name := "valueAt", desc := "(I)I" } : MethodName)) ∈ lw_tbl := List.mem_of_getElem? (i := 587) (by decide +kernel)
set_option maxRecDepth 20000 in
theorem mw_485 : (Cond.code ({ cls := "PolicyCompiler$Policy", name := "valueAt", desc := "(I)I" } : MethodName) prog_6_method_12_code (2 : Nat) (Option.some FieldType.int)) ∈ lw_tbl := List.mem_of_getElem? (i := 588) rfl
set_option maxRecDepth 20000 in
theorem mw_486 : (Cond.methodLink "PolicyCompiler$Printout" (72 : Nat) ({ cls := "PolicyCompiler$Printout", name := "printPair", desc := "(LPolicyCompiler$Policy;II)V" } : MethodName)) ∈ lw_tbl := List.mem_of_getElem? (i := 589) (by decide +kernel)
set_option maxRecDepth 20000 in
theorem mw_488 : (Cond.instanceMethod ({ cls := "PolicyCompiler$Printout", name := "printPair", desc := "(LPolicyCompiler$Policy;II)V" } : MethodName)) ∈ lw_tbl := List.mem_of_getElem? (i := 591) (by decide +kernel)
set_option maxRecDepth 20000 in
theorem mw_489 : (Cond.code ({ cls := "PolicyCompiler$Printout", name := "printPair", desc := "(LPolicyCompiler$Policy;II)V" } : MethodName) prog_7_method_10_code (5 : Nat) (Option.none : Option ClassFile.FieldType)) ∈ lw_tbl := List.mem_of_getElem? (i := 592) rfl
set_option maxRecDepth 20000 in
theorem mw_490 : (Cond.methodLink "PolicyCompiler$Printout" (75 : Nat) ({ cls := "PolicyCompiler$Printout", name := "placed", desc := "(II)I" } : MethodName)) ∈ lw_tbl := List.mem_of_getElem? (i := 593) (by decide +kernel)
set_option maxRecDepth 20000 in
theorem mw_492 : (Cond.instanceMethod ({ cls := "PolicyCompiler$Printout", name := "placed", desc := "(II)I" } : MethodName)) ∈ lw_tbl := List.mem_of_getElem? (i := 595) (by decide +kernel)
set_option maxRecDepth 20000 in
theorem mw_493 : (Cond.code ({ cls := "PolicyCompiler$Printout", name := "placed", desc := "(II)I" } : MethodName) prog_7_method_12_code (4 : Nat) (Option.some FieldType.int)) ∈ lw_tbl := List.mem_of_getElem? (i := 596) rfl
set_option maxRecDepth 20000 in
theorem mw_494 : (Cond.methodLink "PolicyCompiler$Printout" (78 : Nat) ({ cls := "PolicyCompiler$Printout", name := "printChoice", desc := "(LPolicyCompiler$Policy;I)V" } : MethodName)) ∈ lw_tbl := List.mem_of_getElem? (i := 597) (by decide +kernel)
set_option maxRecDepth 20000 in
theorem mw_496 : (Cond.instanceMethod ({ cls := "PolicyCompiler$Printout", name := "printChoice", desc := "(LPolicyCompiler$Policy;I)V" } : MethodName)) ∈ lw_tbl := List.mem_of_getElem? (i := 599) (by decide +kernel)
set_option maxRecDepth 20000 in
theorem mw_497 : (Cond.code ({ cls := "PolicyCompiler$Printout", name := "printChoice", desc := "(LPolicyCompiler$Policy;I)V" } : MethodName) prog_7_method_11_code (6 : Nat) (Option.none : Option ClassFile.FieldType)) ∈ lw_tbl := List.mem_of_getElem? (i := 600) rfl
set_option maxRecDepth 20000 in
theorem mw_498 : (Cond.methodLink "PolicyCompiler$Slot" (72 : Nat) ({ cls := "PolicyCompiler$Evaluator", name := "evaluate", desc := "(LPolicyCompiler$Policy;LPolicyCompiler$Relation;)V" } : MethodName)) ∈ lw_tbl := List.mem_of_getElem? (i := 601) (by decide +kernel)
set_option maxRecDepth 20000 in
theorem mw_499 : (Cond.instanceMethod ({ cls := "PolicyCompiler$Evaluator", name := "evaluate", desc := "(LPolicyCompiler$Policy;LPolicyCompiler$Relation;)V" } : MethodName)) ∈ lw_tbl := List.mem_of_getElem? (i := 602) (by decide +kernel)
set_option maxRecDepth 20000 in
theorem mw_500 : (Cond.selects "PolicyCompiler$Evaluator" ({ cls := "PolicyCompiler$Evaluator", name := "evaluate", desc := "(LPolicyCompiler$Policy;LPolicyCompiler$Relation;)V" } : MethodName) ({ cls := "PolicyCompiler$Evaluator", name := "evaluate", desc := "(LPolicyCompiler$Policy;LPolicyCompiler$Relation;)V" } : MethodName)) ∈ lw_tbl := List.mem_of_getElem? (i := 603) (by decide +kernel)
set_option maxRecDepth 20000 in
theorem mw_501 : (Cond.code ({ cls := "PolicyCompiler$Evaluator", name := "evaluate", desc := "(LPolicyCompiler$Policy;LPolicyCompiler$Relation;)V" } : MethodName) prog_3_method_2_code (5 : Nat) (Option.none : Option ClassFile.FieldType)) ∈ lw_tbl := List.mem_of_getElem? (i := 604) rfl
set_option maxRecDepth 20000 in
theorem mw_502 : (Cond.methodLink "PolicyCompiler$Evaluator" (15 : Nat) ({ cls := "PolicyCompiler$Policy", name := "nodeCount", desc := "()I" } : MethodName)) ∈ lw_tbl := List.mem_of_getElem? (i := 605) (by decide +kernel)
set_option maxRecDepth 20000 in
theorem mw_503 : (Cond.methodLink "PolicyCompiler$Evaluator" (21 : Nat) ({ cls := "PolicyCompiler$Evaluator", name := "evaluateNode", desc := "(LPolicyCompiler$Policy;I)V" } : MethodName)) ∈ lw_tbl := List.mem_of_getElem? (i := 606) (by decide +kernel)
set_option maxRecDepth 20000 in
theorem mw_505 : (Cond.instanceMethod ({ cls := "PolicyCompiler$Evaluator", name := "evaluateNode", desc := "(LPolicyCompiler$Policy;I)V" } : MethodName)) ∈ lw_tbl := List.mem_of_getElem? (i := 608) (by decide +kernel)
set_option maxRecDepth 20000 in
theorem mw_506 : (Cond.code ({ cls := "PolicyCompiler$Evaluator", name := "evaluateNode", desc := "(LPolicyCompiler$Policy;I)V" } : MethodName) prog_3_method_3_code (4 : Nat) (Option.none : Option ClassFile.FieldType)) ∈ lw_tbl := List.mem_of_getElem? (i := 609) rfl
set_option maxRecDepth 20000 in
theorem mw_507 : (Cond.methodLink "PolicyCompiler$Evaluator" (35 : Nat) ({ cls := "PolicyCompiler$Policy", name := "operandAt", desc := "(II)I" } : MethodName)) ∈ lw_tbl := List.mem_of_getElem? (i := 610) (by decide +kernel)
set_option maxRecDepth 20000 in
theorem mw_508 : (Cond.methodLink "PolicyCompiler$Evaluator" (39 : Nat) ({ cls := "PolicyCompiler$Policy", name := "kindAt", desc := "(I)I" } : MethodName)) ∈ lw_tbl := List.mem_of_getElem? (i := 611) (by decide +kernel)
set_option maxRecDepth 20000 in
theorem mw_509 : (Cond.methodLink "PolicyCompiler$Evaluator" (43 : Nat) ({ cls := "PolicyCompiler$Evaluator", name := "unite", desc := "(III)V" } : MethodName)) ∈ lw_tbl := List.mem_of_getElem? (i := 612) (by decide +kernel)
set_option maxRecDepth 20000 in
theorem mw_511 : (Cond.instanceMethod ({ cls := "PolicyCompiler$Evaluator", name := "unite", desc := "(III)V" } : MethodName)) ∈ lw_tbl := List.mem_of_getElem? (i := 614) (by decide +kernel)
set_option maxRecDepth 20000 in
theorem mw_512 : (Cond.code ({ cls := "PolicyCompiler$Evaluator", name := "unite", desc := "(III)V" } : MethodName) prog_3_method_5_code (5 : Nat) (Option.none : Option ClassFile.FieldType)) ∈ lw_tbl := List.mem_of_getElem? (i := 615) rfl
set_option maxRecDepth 20000 in
theorem mw_513 : (Cond.methodLink "PolicyCompiler$Evaluator" (25 : Nat) ({ cls := "PolicyCompiler$Evaluator", name := "imageOf", desc := "(II)J" } : MethodName)) ∈ lw_tbl := List.mem_of_getElem? (i := 616) (by decide +kernel)
set_option maxRecDepth 20000 in
theorem mw_515 : (Cond.instanceMethod ({ cls := "PolicyCompiler$Evaluator", name := "imageOf", desc := "(II)J" } : MethodName)) ∈ lw_tbl := List.mem_of_getElem? (i := 618) (by decide +kernel)
set_option maxRecDepth 20000 in
theorem mw_516 : (Cond.code ({ cls := "PolicyCompiler$Evaluator", name := "imageOf", desc := "(II)J" } : MethodName) prog_3_method_10_code (4 : Nat) (Option.some FieldType.long)) ∈ lw_tbl := List.mem_of_getElem? (i := 619) rfl
set_option maxRecDepth 20000 in
theorem mw_517 : (Cond.methodLink "PolicyCompiler$Evaluator" (81 : Nat) ({ cls := "PolicyCompiler$Evaluator", name := "assign", desc := "(IIJ)V" } : MethodName)) ∈ lw_tbl := List.mem_of_getElem? (i := 620) (by decide +kernel)
set_option maxRecDepth 20000 in
theorem mw_519 : (Cond.instanceMethod ({ cls := "PolicyCompiler$Evaluator", name := "assign", desc := "(IIJ)V" } : MethodName)) ∈ lw_tbl := List.mem_of_getElem? (i := 622) (by decide +kernel)
set_option maxRecDepth 20000 in
theorem mw_520 : (Cond.code ({ cls := "PolicyCompiler$Evaluator", name := "assign", desc := "(IIJ)V" } : MethodName) prog_3_method_11_code (6 : Nat) (Option.none : Option ClassFile.FieldType)) ∈ lw_tbl := List.mem_of_getElem? (i := 623) rfl
set_option maxRecDepth 20000 in
theorem mw_521 : (Cond.methodLink "PolicyCompiler$Evaluator" (47 : Nat) ({ cls := "PolicyCompiler$Evaluator", name := "chain", desc := "(III)V" } : MethodName)) ∈ lw_tbl := List.mem_of_getElem? (i := 624) (by decide +kernel)
set_option maxRecDepth 20000 in
theorem mw_523 : (Cond.instanceMethod ({ cls := "PolicyCompiler$Evaluator", name := "chain", desc := "(III)V" } : MethodName)) ∈ lw_tbl := List.mem_of_getElem? (i := 626) (by decide +kernel)
set_option maxRecDepth 20000 in
theorem mw_524 : (Cond.code ({ cls := "PolicyCompiler$Evaluator", name := "chain", desc := "(III)V" } : MethodName) prog_3_method_6_code (5 : Nat) (Option.none : Option ClassFile.FieldType)) ∈ lw_tbl := List.mem_of_getElem? (i := 627) rfl
set_option maxRecDepth 20000 in
theorem mw_525 : (Cond.methodLinkNest "PolicyCompiler$Evaluator" (84 : Nat) ({ cls := "PolicyCompiler", name := "imageOfSet", desc := "([JIJ)J" } : MethodName) "PolicyCompiler") ∈ lw_tbl := List.mem_of_getElem? (i := 628) (by decide +kernel)
set_option maxRecDepth 20000 in
theorem mw_526 : (Cond.static ({ cls := "PolicyCompiler", name := "imageOfSet", desc := "([JIJ)J" } : MethodName)) ∈ lw_tbl := List.mem_of_getElem? (i := 629) (by decide +kernel)
set_option maxRecDepth 20000 in
theorem mw_527 : (Cond.code ({ cls := "PolicyCompiler", name := "imageOfSet", desc := "([JIJ)J" } : MethodName) prog_1_method_43_code (11 : Nat) (Option.some FieldType.long)) ∈ lw_tbl := List.mem_of_getElem? (i := 630) rfl
set_option maxRecDepth 20000 in
theorem mw_528 : (Cond.methodLink "PolicyCompiler" (246 : Nat) ({ cls := "java/lang/Long", name := "bitCount", desc := "(J)I" } : MethodName)) ∈ lw_tbl := List.mem_of_getElem? (i := 631) (by decide +kernel)
set_option maxRecDepth 20000 in
theorem mw_529 : (Cond.static ({ cls := "java/lang/Long", name := "bitCount", desc := "(J)I" } : MethodName)) ∈ lw_tbl := List.mem_of_getElem? (i := 632) (by decide +kernel)
set_option maxRecDepth 20000 in
theorem mw_530 : (Cond.code ({ cls := "java/lang/Long", name := "bitCount", desc := "(J)I" } : MethodName) prog_13_method_50_code (2 : Nat) (Option.some FieldType.int)) ∈ lw_tbl := List.mem_of_getElem? (i := 633) rfl
set_option maxRecDepth 20000 in
theorem mw_531 : (Cond.constantLong "java/lang/Long" (314 : Nat) (6148914691236517205 : Int64)) ∈ lw_tbl := List.mem_of_getElem? (i := 634) (by decide +kernel)
set_option maxRecDepth 20000 in
theorem mw_532 : (Cond.constantLong "java/lang/Long" (316 : Nat) (3689348814741910323 : Int64)) ∈ lw_tbl := List.mem_of_getElem? (i := 635) (by decide +kernel)
set_option maxRecDepth 20000 in
theorem mw_533 : (Cond.constantLong "java/lang/Long" (318 : Nat) (1085102592571150095 : Int64)) ∈ lw_tbl := List.mem_of_getElem? (i := 636) (by decide +kernel)
set_option maxRecDepth 20000 in
theorem mw_534 : (Cond.methodLink "PolicyCompiler" (150 : Nat) ({ cls := "PolicyCompiler", name := "lowestOf", desc := "(J)I" } : MethodName)) ∈ lw_tbl := List.mem_of_getElem? (i := 637) (by decide +kernel)
set_option maxRecDepth 20000 in
theorem mw_535 : (Cond.static ({ cls := "PolicyCompiler", name := "lowestOf", desc := "(J)I" } : MethodName)) ∈ lw_tbl := List.mem_of_getElem? (i := 638) (by decide +kernel)
set_option maxRecDepth 20000 in
theorem mw_536 : (Cond.code ({ cls := "PolicyCompiler", name := "lowestOf", desc := "(J)I" } : MethodName) prog_1_method_42_code (2 : Nat) (Option.some FieldType.int)) ∈ lw_tbl := List.mem_of_getElem? (i := 639) rfl
set_option maxRecDepth 20000 in
theorem mw_537 : (Cond.methodLink "PolicyCompiler$Evaluator" (50 : Nat) ({ cls := "PolicyCompiler$Evaluator", name := "repeat", desc := "(II)V" } : MethodName)) ∈ lw_tbl := List.mem_of_getElem? (i := 640) (by decide +kernel)
set_option maxRecDepth 20000 in
theorem mw_539 : (Cond.instanceMethod ({ cls := "PolicyCompiler$Evaluator", name := "repeat", desc := "(II)V" } : MethodName)) ∈ lw_tbl := List.mem_of_getElem? (i := 642) (by decide +kernel)
set_option maxRecDepth 20000 in
theorem mw_540 : (Cond.code ({ cls := "PolicyCompiler$Evaluator", name := "repeat", desc := "(II)V" } : MethodName) prog_3_method_7_code (9 : Nat) (Option.none : Option ClassFile.FieldType)) ∈ lw_tbl := List.mem_of_getElem? (i := 643) rfl
set_option maxRecDepth 20000 in
theorem mw_541 : (Cond.methodLinkNest "PolicyCompiler$Evaluator" (77 : Nat) ({ cls := "PolicyCompiler", name := "alone", desc := "(I)J" } : MethodName) "PolicyCompiler") ∈ lw_tbl := List.mem_of_getElem? (i := 644) (by decide +kernel)
set_option maxRecDepth 20000 in
theorem mw_542 : (Cond.static ({ cls := "PolicyCompiler", name := "alone", desc := "(I)J" } : MethodName)) ∈ lw_tbl := List.mem_of_getElem? (i := 645) (by decide +kernel)
set_option maxRecDepth 20000 in
theorem mw_543 : (Cond.code ({ cls := "PolicyCompiler", name := "alone", desc := "(I)J" } : MethodName) prog_1_method_40_code (1 : Nat) (Option.some FieldType.long)) ∈ lw_tbl := List.mem_of_getElem? (i := 646) rfl
set_option maxRecDepth 20000 in
theorem mw_544 : (Cond.methodLinkNest "PolicyCompiler$Evaluator" (88 : Nat) ({ cls := "PolicyCompiler", name := "holds", desc := "(JI)Z" } : MethodName) "PolicyCompiler") ∈ lw_tbl := List.mem_of_getElem? (i := 647) (by decide +kernel)
set_option maxRecDepth 20000 in
theorem mw_545 : (Cond.static ({ cls := "PolicyCompiler", name := "holds", desc := "(JI)Z" } : MethodName)) ∈ lw_tbl := List.mem_of_getElem? (i := 648) (by decide +kernel)
set_option maxRecDepth 20000 in
theorem mw_546 : (Cond.code ({ cls := "PolicyCompiler", name := "holds", desc := "(JI)Z" } : MethodName) prog_1_method_41_code (3 : Nat) (Option.some FieldType.boolean)) ∈ lw_tbl := List.mem_of_getElem? (i := 649) rfl
set_option maxRecDepth 20000 in
theorem mw_547 : (Cond.methodLink "PolicyCompiler$Evaluator" (54 : Nat) ({ cls := "PolicyCompiler$Evaluator", name := "negate", desc := "(II)V" } : MethodName)) ∈ lw_tbl := List.mem_of_getElem? (i := 650) (by decide +kernel)
set_option maxRecDepth 20000 in
theorem mw_549 : (Cond.instanceMethod ({ cls := "PolicyCompiler$Evaluator", name := "negate", desc := "(II)V" } : MethodName)) ∈ lw_tbl := List.mem_of_getElem? (i := 652) (by decide +kernel)
set_option maxRecDepth 20000 in
theorem mw_550 : (Cond.code ({ cls := "PolicyCompiler$Evaluator", name := "negate", desc := "(II)V" } : MethodName) prog_3_method_8_code (4 : Nat) (Option.none : Option ClassFile.FieldType)) ∈ lw_tbl := List.mem_of_getElem? (i := 653) rfl
set_option maxRecDepth 20000 in
theorem mw_551 : (Cond.methodLink "PolicyCompiler$Evaluator" (57 : Nat) ({ cls := "PolicyCompiler$Evaluator", name := "choose", desc := "(IIII)V" } : MethodName)) ∈ lw_tbl := List.mem_of_getElem? (i := 654) (by decide +kernel)
set_option maxRecDepth 20000 in
theorem mw_553 : (Cond.instanceMethod ({ cls := "PolicyCompiler$Evaluator", name := "choose", desc := "(IIII)V" } : MethodName)) ∈ lw_tbl := List.mem_of_getElem? (i := 656) (by decide +kernel)
set_option maxRecDepth 20000 in
theorem mw_554 : (Cond.code ({ cls := "PolicyCompiler$Evaluator", name := "choose", desc := "(IIII)V" } : MethodName) prog_3_method_9_code (6 : Nat) (Option.none : Option ClassFile.FieldType)) ∈ lw_tbl := List.mem_of_getElem? (i := 657) rfl
set_option maxRecDepth 20000 in
theorem mw_555 : (Cond.methodLink "PolicyCompiler$Evaluator" (61 : Nat) ({ cls := "PolicyCompiler$Evaluator", name := "evaluateLeaf", desc := "(LPolicyCompiler$Policy;I)V" } : MethodName)) ∈ lw_tbl := List.mem_of_getElem? (i := 658) (by decide +kernel)
set_option maxRecDepth 20000 in
theorem mw_557 : (Cond.instanceMethod ({ cls := "PolicyCompiler$Evaluator", name := "evaluateLeaf", desc := "(LPolicyCompiler$Policy;I)V" } : MethodName)) ∈ lw_tbl := List.mem_of_getElem? (i := 660) (by decide +kernel)
set_option maxRecDepth 20000 in
theorem mw_558 : (Cond.code ({ cls := "PolicyCompiler$Evaluator", name := "evaluateLeaf", desc := "(LPolicyCompiler$Policy;I)V" } : MethodName) prog_3_method_4_code (9 : Nat) (Option.none : Option ClassFile.FieldType)) ∈ lw_tbl := List.mem_of_getElem? (i := 661) rfl
set_option maxRecDepth 20000 in
theorem mw_559 : (Cond.methodLink "PolicyCompiler$Evaluator" (64 : Nat) ({ cls := "PolicyCompiler$Policy", name := "fieldAt", desc := "(I)I" } : MethodName)) ∈ lw_tbl := List.mem_of_getElem? (i := 662) (by decide +kernel)
set_option maxRecDepth 20000 in
theorem mw_560 : (Cond.methodLink "PolicyCompiler$Evaluator" (67 : Nat) ({ cls := "PolicyCompiler$Policy", name := "valueAt", desc := "(I)I" } : MethodName)) ∈ lw_tbl := List.mem_of_getElem? (i := 663) (by decide +kernel)
set_option maxRecDepth 20000 in
theorem mw_561 : (Cond.methodLinkNest "PolicyCompiler$Evaluator" (70 : Nat) ({ cls := "PolicyCompiler", name := "valueOf", desc := "(II)I" } : MethodName) "PolicyCompiler") ∈ lw_tbl := List.mem_of_getElem? (i := 664) (by decide +kernel)
set_option maxRecDepth 20000 in
theorem mw_562 : (Cond.static ({ cls := "PolicyCompiler", name := "valueOf", desc := "(II)I" } : MethodName)) ∈ lw_tbl := List.mem_of_getElem? (i := 665) (by decide +kernel)
set_option maxRecDepth 20000 in
theorem mw_563 : (Cond.code ({ cls := "PolicyCompiler", name := "valueOf", desc := "(II)I" } : MethodName) prog_1_method_38_code (2 : Nat) (Option.some FieldType.int)) ∈ lw_tbl := List.mem_of_getElem? (i := 666) rfl
set_option maxRecDepth 20000 in
theorem mw_564 : (Cond.methodLink "PolicyCompiler" (243 : Nat) ({ cls := "PolicyCompiler", name := "shiftOf", desc := "(I)I" } : MethodName)) ∈ lw_tbl := List.mem_of_getElem? (i := 667) (by decide +kernel)
set_option maxRecDepth 20000 in
theorem mw_565 : (Cond.static ({ cls := "PolicyCompiler", name := "shiftOf", desc := "(I)I" } : MethodName)) ∈ lw_tbl := List.mem_of_getElem? (i := 668) (by decide +kernel)
set_option maxRecDepth 20000 in
theorem mw_566 : (Cond.code ({ cls := "PolicyCompiler", name := "shiftOf", desc := "(I)I" } : MethodName) prog_1_method_37_code (1 : Nat) (Option.some FieldType.int)) ∈ lw_tbl := List.mem_of_getElem? (i := 669) rfl
set_option maxRecDepth 20000 in
theorem mw_567 : (Cond.methodLinkNest "PolicyCompiler$Evaluator" (73 : Nat) ({ cls := "PolicyCompiler", name := "withValue", desc := "(III)I" } : MethodName) "PolicyCompiler") ∈ lw_tbl := List.mem_of_getElem? (i := 670) (by decide +kernel)
set_option maxRecDepth 20000 in
theorem mw_568 : (Cond.static ({ cls := "PolicyCompiler", name := "withValue", desc := "(III)I" } : MethodName)) ∈ lw_tbl := List.mem_of_getElem? (i := 671) (by decide +kernel)
set_option maxRecDepth 20000 in
theorem mw_569 : (Cond.code ({ cls := "PolicyCompiler", name := "withValue", desc := "(III)I" } : MethodName) prog_1_method_39_code (4 : Nat) (Option.some FieldType.int)) ∈ lw_tbl := List.mem_of_getElem? (i := 672) rfl
set_option maxRecDepth 20000 in
theorem mw_570 : (Cond.methodLink "PolicyCompiler$Evaluator" (29 : Nat) ({ cls := "PolicyCompiler$Relation", name := "assign", desc := "(IJ)V" } : MethodName)) ∈ lw_tbl := List.mem_of_getElem? (i := 673) (by decide +kernel)
set_option maxRecDepth 20000 in
theorem mw_571 : (Cond.instanceMethod ({ cls := "PolicyCompiler$Relation", name := "assign", desc := "(IJ)V" } : MethodName)) ∈ lw_tbl := List.mem_of_getElem? (i := 674) (by decide +kernel)
set_option maxRecDepth 20000 in
theorem mw_572 : (Cond.selects "PolicyCompiler$Relation" ({ cls := "PolicyCompiler$Relation", name := "assign", desc := "(IJ)V" } : MethodName) ({ cls := "PolicyCompiler$Relation", name := "assign", desc := "(IJ)V" } : MethodName)) ∈ lw_tbl := List.mem_of_getElem? (i := 675) (by decide +kernel)
set_option maxRecDepth 20000 in
theorem mw_573 : (Cond.code ({ cls := "PolicyCompiler$Relation", name := "assign", desc := "(IJ)V" } : MethodName) prog_8_method_2_code (4 : Nat) (Option.none : Option ClassFile.FieldType)) ∈ lw_tbl := List.mem_of_getElem? (i := 676) rfl
set_option maxRecDepth 20000 in
theorem mw_574 : (Cond.methodLinkNest "PolicyCompiler$Relation" (15 : Nat) ({ cls := "PolicyCompiler", name := "isPacket", desc := "(I)Z" } : MethodName) "PolicyCompiler") ∈ lw_tbl := List.mem_of_getElem? (i := 677) (by decide +kernel)
set_option maxRecDepth 20000 in
theorem mw_575 : (Cond.static ({ cls := "PolicyCompiler", name := "isPacket", desc := "(I)Z" } : MethodName)) ∈ lw_tbl := List.mem_of_getElem? (i := 678) (by decide +kernel)
set_option maxRecDepth 20000 in
theorem mw_576 : (Cond.code ({ cls := "PolicyCompiler", name := "isPacket", desc := "(I)Z" } : MethodName) prog_1_method_36_code (1 : Nat) (Option.some FieldType.boolean)) ∈ lw_tbl := List.mem_of_getElem? (i := 679) rfl
set_option maxRecDepth 20000 in
theorem mw_577 : (Cond.methodLink "PolicyCompiler$Slot" (78 : Nat) ({ cls := "PolicyCompiler$Diagram", name := "build", desc := "(LPolicyCompiler$Relation;)V" } : MethodName)) ∈ lw_tbl := List.mem_of_getElem? (i := 680) (by decide +kernel)
set_option maxRecDepth 20000 in
theorem mw_578 : (Cond.instanceMethod ({ cls := "PolicyCompiler$Diagram", name := "build", desc := "(LPolicyCompiler$Relation;)V" } : MethodName)) ∈ lw_tbl := List.mem_of_getElem? (i := 681) (by decide +kernel)
set_option maxRecDepth 20000 in
theorem mw_579 : (Cond.selects "PolicyCompiler$Diagram" ({ cls := "PolicyCompiler$Diagram", name := "build", desc := "(LPolicyCompiler$Relation;)V" } : MethodName) ({ cls := "PolicyCompiler$Diagram", name := "build", desc := "(LPolicyCompiler$Relation;)V" } : MethodName)) ∈ lw_tbl := List.mem_of_getElem? (i := 682) (by decide +kernel)
set_option maxRecDepth 20000 in
theorem mw_580 : (Cond.code ({ cls := "PolicyCompiler$Diagram", name := "build", desc := "(LPolicyCompiler$Relation;)V" } : MethodName) prog_2_method_10_code (5 : Nat) (Option.none : Option ClassFile.FieldType)) ∈ lw_tbl := List.mem_of_getElem? (i := 683) rfl
set_option maxRecDepth 20000 in
theorem mw_581 : (Cond.methodLink "PolicyCompiler$Diagram" (48 : Nat) ({ cls := "PolicyCompiler$Relation", name := "imageOf", desc := "(I)J" } : MethodName)) ∈ lw_tbl := List.mem_of_getElem? (i := 684) (by decide +kernel)
set_option maxRecDepth 20000 in
theorem mw_582 : (Cond.instanceMethod ({ cls := "PolicyCompiler$Relation", name := "imageOf", desc := "(I)J" } : MethodName)) ∈ lw_tbl := List.mem_of_getElem? (i := 685) (by decide +kernel)
set_option maxRecDepth 20000 in
theorem mw_583 : (Cond.selects "PolicyCompiler$Relation" ({ cls := "PolicyCompiler$Relation", name := "imageOf", desc := "(I)J" } : MethodName) ({ cls := "PolicyCompiler$Relation", name := "imageOf", desc := "(I)J" } : MethodName)) ∈ lw_tbl := List.mem_of_getElem? (i := 686) (by decide +kernel)
set_option maxRecDepth 20000 in
theorem mw_584 : (Cond.code ({ cls := "PolicyCompiler$Relation", name := "imageOf", desc := "(I)J" } : MethodName) prog_8_method_3_code (2 : Nat) (Option.some FieldType.long)) ∈ lw_tbl := List.mem_of_getElem? (i := 687) rfl
set_option maxRecDepth 20000 in
theorem mw_585 : (Cond.methodLink "PolicyCompiler$Diagram" (54 : Nat) ({ cls := "PolicyCompiler$Diagram", name := "leafFor", desc := "(IJ)I" } : MethodName)) ∈ lw_tbl := List.mem_of_getElem? (i := 688) (by decide +kernel)
set_option maxRecDepth 20000 in
theorem mw_587 : (Cond.instanceMethod ({ cls := "PolicyCompiler$Diagram", name := "leafFor", desc := "(IJ)I" } : MethodName)) ∈ lw_tbl := List.mem_of_getElem? (i := 690) (by decide +kernel)
set_option maxRecDepth 20000 in
theorem mw_588 : (Cond.code ({ cls := "PolicyCompiler$Diagram", name := "leafFor", desc := "(IJ)I" } : MethodName) prog_2_method_11_code (13 : Nat) (Option.some FieldType.int)) ∈ lw_tbl := List.mem_of_getElem? (i := 691) rfl
set_option maxRecDepth 20000 in
theorem mw_589 : (Cond.methodLink "PolicyCompiler$Diagram" (62 : Nat) ({ cls := "java/lang/Long", name := "bitCount", desc := "(J)I" } : MethodName)) ∈ lw_tbl := List.mem_of_getElem? (i := 692) (by decide +kernel)
set_option maxRecDepth 20000 in
theorem mw_590 : (Cond.methodLinkNest "PolicyCompiler$Diagram" (68 : Nat) ({ cls := "PolicyCompiler", name := "lowestOf", desc := "(J)I" } : MethodName) "PolicyCompiler") ∈ lw_tbl := List.mem_of_getElem? (i := 693) (by decide +kernel)
set_option maxRecDepth 20000 in
theorem mw_591 : (Cond.methodLinkNest "PolicyCompiler$Diagram" (71 : Nat) ({ cls := "PolicyCompiler", name := "actionFrom", desc := "(II)I" } : MethodName) "PolicyCompiler") ∈ lw_tbl := List.mem_of_getElem? (i := 694) (by decide +kernel)
set_option maxRecDepth 20000 in
theorem mw_592 : (Cond.static ({ cls := "PolicyCompiler", name := "actionFrom", desc := "(II)I" } : MethodName)) ∈ lw_tbl := List.mem_of_getElem? (i := 695) (by decide +kernel)
set_option maxRecDepth 20000 in
theorem mw_593 : (Cond.code ({ cls := "PolicyCompiler", name := "actionFrom", desc := "(II)I" } : MethodName) prog_1_method_46_code (5 : Nat) (Option.some FieldType.int)) ∈ lw_tbl := List.mem_of_getElem? (i := 696) rfl
set_option maxRecDepth 20000 in
theorem mw_594 : (Cond.methodLink "PolicyCompiler" (251 : Nat) ({ cls := "PolicyCompiler", name := "valueOf", desc := "(II)I" } : MethodName)) ∈ lw_tbl := List.mem_of_getElem? (i := 697) (by decide +kernel)
set_option maxRecDepth 20000 in
theorem mw_595 : (Cond.methodLink "PolicyCompiler" (254 : Nat) ({ cls := "PolicyCompiler", name := "weightOf", desc := "(I)I" } : MethodName)) ∈ lw_tbl := List.mem_of_getElem? (i := 698) (by decide +kernel)
set_option maxRecDepth 20000 in
theorem mw_596 : (Cond.static ({ cls := "PolicyCompiler", name := "weightOf", desc := "(I)I" } : MethodName)) ∈ lw_tbl := List.mem_of_getElem? (i := 699) (by decide +kernel)
set_option maxRecDepth 20000 in
theorem mw_597 : (Cond.code ({ cls := "PolicyCompiler", name := "weightOf", desc := "(I)I" } : MethodName) prog_1_method_44_code (1 : Nat) (Option.some FieldType.int)) ∈ lw_tbl := List.mem_of_getElem? (i := 700) rfl
set_option maxRecDepth 20000 in
theorem mw_598 : (Cond.methodLink "PolicyCompiler$Diagram" (74 : Nat) ({ cls := "PolicyCompiler$Diagram", name := "leafWith", desc := "(JJ)I" } : MethodName)) ∈ lw_tbl := List.mem_of_getElem? (i := 701) (by decide +kernel)
set_option maxRecDepth 20000 in
theorem mw_600 : (Cond.instanceMethod ({ cls := "PolicyCompiler$Diagram", name := "leafWith", desc := "(JJ)I" } : MethodName)) ∈ lw_tbl := List.mem_of_getElem? (i := 703) (by decide +kernel)
set_option maxRecDepth 20000 in
theorem mw_601 : (Cond.code ({ cls := "PolicyCompiler$Diagram", name := "leafWith", desc := "(JJ)I" } : MethodName) prog_2_method_12_code (6 : Nat) (Option.some FieldType.int)) ∈ lw_tbl := List.mem_of_getElem? (i := 704) rfl
set_option maxRecDepth 20000 in
theorem mw_602 : (Cond.methodLink "PolicyCompiler$Diagram" (78 : Nat) ({ cls := "PolicyCompiler$Diagram", name := "newLeaf", desc := "(JJ)I" } : MethodName)) ∈ lw_tbl := List.mem_of_getElem? (i := 705) (by decide +kernel)
set_option maxRecDepth 20000 in
theorem mw_604 : (Cond.instanceMethod ({ cls := "PolicyCompiler$Diagram", name := "newLeaf", desc := "(JJ)I" } : MethodName)) ∈ lw_tbl := List.mem_of_getElem? (i := 707) (by decide +kernel)
set_option maxRecDepth 20000 in
theorem mw_605 : (Cond.code ({ cls := "PolicyCompiler$Diagram", name := "newLeaf", desc := "(JJ)I" } : MethodName) prog_2_method_13_code (5 : Nat) (Option.some FieldType.int)) ∈ lw_tbl := List.mem_of_getElem? (i := 708) rfl
set_option maxRecDepth 20000 in
theorem mw_606 : (Cond.methodLink "PolicyCompiler$Diagram" (58 : Nat) ({ cls := "PolicyCompiler$Diagram", name := "nodeFor", desc := "(II)I" } : MethodName)) ∈ lw_tbl := List.mem_of_getElem? (i := 709) (by decide +kernel)
set_option maxRecDepth 20000 in
theorem mw_608 : (Cond.instanceMethod ({ cls := "PolicyCompiler$Diagram", name := "nodeFor", desc := "(II)I" } : MethodName)) ∈ lw_tbl := List.mem_of_getElem? (i := 711) (by decide +kernel)
set_option maxRecDepth 20000 in
theorem mw_609 : (Cond.code ({ cls := "PolicyCompiler$Diagram", name := "nodeFor", desc := "(II)I" } : MethodName) prog_2_method_14_code (8 : Nat) (Option.some FieldType.int)) ∈ lw_tbl := List.mem_of_getElem? (i := 712) rfl
set_option maxRecDepth 20000 in
theorem mw_610 : (Cond.methodLink "PolicyCompiler$Diagram" (81 : Nat) ({ cls := "PolicyCompiler$Diagram", name := "testWith", desc := "(IIIII)I" } : MethodName)) ∈ lw_tbl := List.mem_of_getElem? (i := 713) (by decide +kernel)
set_option maxRecDepth 20000 in
theorem mw_612 : (Cond.instanceMethod ({ cls := "PolicyCompiler$Diagram", name := "testWith", desc := "(IIIII)I" } : MethodName)) ∈ lw_tbl := List.mem_of_getElem? (i := 715) (by decide +kernel)
set_option maxRecDepth 20000 in
theorem mw_613 : (Cond.code ({ cls := "PolicyCompiler$Diagram", name := "testWith", desc := "(IIIII)I" } : MethodName) prog_2_method_15_code (7 : Nat) (Option.some FieldType.int)) ∈ lw_tbl := List.mem_of_getElem? (i := 716) rfl
set_option maxRecDepth 20000 in
theorem mw_614 : (Cond.methodLink "PolicyCompiler$Diagram" (88 : Nat) ({ cls := "PolicyCompiler$Diagram", name := "childOf", desc := "(II)I" } : MethodName)) ∈ lw_tbl := List.mem_of_getElem? (i := 717) (by decide +kernel)
set_option maxRecDepth 20000 in
theorem mw_615 : (Cond.instanceMethod ({ cls := "PolicyCompiler$Diagram", name := "childOf", desc := "(II)I" } : MethodName)) ∈ lw_tbl := List.mem_of_getElem? (i := 718) (by decide +kernel)
set_option maxRecDepth 20000 in
theorem mw_616 : (Cond.selects "PolicyCompiler$Diagram" ({ cls := "PolicyCompiler$Diagram", name := "childOf", desc := "(II)I" } : MethodName) ({ cls := "PolicyCompiler$Diagram", name := "childOf", desc := "(II)I" } : MethodName)) ∈ lw_tbl := List.mem_of_getElem? (i := 719) (by decide +kernel)
set_option maxRecDepth 20000 in
theorem mw_617 : (Cond.code ({ cls := "PolicyCompiler$Diagram", name := "childOf", desc := "(II)I" } : MethodName) prog_2_method_9_code (4 : Nat) (Option.some FieldType.int)) ∈ lw_tbl := List.mem_of_getElem? (i := 720) rfl
set_option maxRecDepth 20000 in
theorem mw_618 : (Cond.methodLink "PolicyCompiler$Diagram" (85 : Nat) ({ cls := "PolicyCompiler$Diagram", name := "newTest", desc := "(II)I" } : MethodName)) ∈ lw_tbl := List.mem_of_getElem? (i := 721) (by decide +kernel)
set_option maxRecDepth 20000 in
theorem mw_620 : (Cond.instanceMethod ({ cls := "PolicyCompiler$Diagram", name := "newTest", desc := "(II)I" } : MethodName)) ∈ lw_tbl := List.mem_of_getElem? (i := 723) (by decide +kernel)
set_option maxRecDepth 20000 in
theorem mw_621 : (Cond.code ({ cls := "PolicyCompiler$Diagram", name := "newTest", desc := "(II)I" } : MethodName) prog_2_method_16_code (6 : Nat) (Option.some FieldType.int)) ∈ lw_tbl := List.mem_of_getElem? (i := 724) rfl
set_option maxRecDepth 20000 in
theorem mw_622 : (Cond.methodLink "PolicyCompiler$Diagram" (44 : Nat) ({ cls := "PolicyCompiler$Diagram", name := "depthOf", desc := "(I)I" } : MethodName)) ∈ lw_tbl := List.mem_of_getElem? (i := 725) (by decide +kernel)
set_option maxRecDepth 20000 in
theorem mw_624 : (Cond.instanceMethod ({ cls := "PolicyCompiler$Diagram", name := "depthOf", desc := "(I)I" } : MethodName)) ∈ lw_tbl := List.mem_of_getElem? (i := 727) (by decide +kernel)
set_option maxRecDepth 20000 in
theorem mw_625 : (Cond.code ({ cls := "PolicyCompiler$Diagram", name := "depthOf", desc := "(I)I" } : MethodName) prog_2_method_5_code (2 : Nat) (Option.some FieldType.int)) ∈ lw_tbl := List.mem_of_getElem? (i := 728) rfl
set_option maxRecDepth 20000 in
theorem mw_626 : (Cond.methodLink "PolicyCompiler$Diagram" (91 : Nat) ({ cls := "java/lang/Math", name := "max", desc := "(II)I" } : MethodName)) ∈ lw_tbl := List.mem_of_getElem? (i := 729) (by decide +kernel)
set_option maxRecDepth 20000 in
theorem mw_627 : (Cond.static ({ cls := "java/lang/Math", name := "max", desc := "(II)I" } : MethodName)) ∈ lw_tbl := List.mem_of_getElem? (i := 730) (by decide +kernel)
set_option maxRecDepth 20000 in
theorem mw_628 : (Cond.code ({ cls := "java/lang/Math", name := "max", desc := "(II)I" } : MethodName) prog_14_method_65_code (2 : Nat) (Option.some FieldType.int)) ∈ lw_tbl := List.mem_of_getElem? (i := 731) rfl
set_option maxRecDepth 20000 in
theorem mw_629 : (Cond.methodLink "PolicyCompiler$Slot" (82 : Nat) ({ cls := "PolicyCompiler$Table", name := "build", desc := "(LPolicyCompiler$Diagram;)V" } : MethodName)) ∈ lw_tbl := List.mem_of_getElem? (i := 732) (by decide +kernel)
set_option maxRecDepth 20000 in
theorem mw_630 : (Cond.instanceMethod ({ cls := "PolicyCompiler$Table", name := "build", desc := "(LPolicyCompiler$Diagram;)V" } : MethodName)) ∈ lw_tbl := List.mem_of_getElem? (i := 733) (by decide +kernel)
set_option maxRecDepth 20000 in
theorem mw_631 : (Cond.selects "PolicyCompiler$Table" ({ cls := "PolicyCompiler$Table", name := "build", desc := "(LPolicyCompiler$Diagram;)V" } : MethodName) ({ cls := "PolicyCompiler$Table", name := "build", desc := "(LPolicyCompiler$Diagram;)V" } : MethodName)) ∈ lw_tbl := List.mem_of_getElem? (i := 734) (by decide +kernel)
set_option maxRecDepth 20000 in
theorem mw_632 : (Cond.code ({ cls := "PolicyCompiler$Table", name := "build", desc := "(LPolicyCompiler$Diagram;)V" } : MethodName) prog_10_method_6_code (4 : Nat) (Option.none : Option ClassFile.FieldType)) ∈ lw_tbl := List.mem_of_getElem? (i := 735) rfl
set_option maxRecDepth 20000 in
theorem mw_633 : (Cond.methodLink "PolicyCompiler$Table" (22 : Nat) ({ cls := "PolicyCompiler$Diagram", name := "rootNode", desc := "()I" } : MethodName)) ∈ lw_tbl := List.mem_of_getElem? (i := 736) (by decide +kernel)
set_option maxRecDepth 20000 in
theorem mw_634 : (Cond.instanceMethod ({ cls := "PolicyCompiler$Diagram", name := "rootNode", desc := "()I" } : MethodName)) ∈ lw_tbl := List.mem_of_getElem? (i := 737) (by decide +kernel)
set_option maxRecDepth 20000 in
theorem mw_635 : (Cond.selects "PolicyCompiler$Diagram" ({ cls := "PolicyCompiler$Diagram", name := "rootNode", desc := "()I" } : MethodName) ({ cls := "PolicyCompiler$Diagram", name := "rootNode", desc := "()I" } : MethodName)) ∈ lw_tbl := List.mem_of_getElem? (i := 738) (by decide +kernel)
set_option maxRecDepth 20000 in
theorem mw_636 : (Cond.code ({ cls := "PolicyCompiler$Diagram", name := "rootNode", desc := "()I" } : MethodName) prog_2_method_6_code (1 : Nat) (Option.some FieldType.int)) ∈ lw_tbl := List.mem_of_getElem? (i := 739) rfl
set_option maxRecDepth 20000 in
theorem mw_637 : (Cond.methodLink "PolicyCompiler$Table" (28 : Nat) ({ cls := "PolicyCompiler$Table", name := "visit", desc := "(LPolicyCompiler$Table;LPolicyCompiler$Diagram;III)V" } : MethodName)) ∈ lw_tbl := List.mem_of_getElem? (i := 740) (by decide +kernel)
set_option maxRecDepth 20000 in
theorem mw_638 : (Cond.static ({ cls := "PolicyCompiler$Table", name := "visit", desc := "(LPolicyCompiler$Table;LPolicyCompiler$Diagram;III)V" } : MethodName)) ∈ lw_tbl := List.mem_of_getElem? (i := 741) (by decide +kernel)
set_option maxRecDepth 20000 in
theorem mw_639 : (Cond.code ({ cls := "PolicyCompiler$Table", name := "visit", desc := "(LPolicyCompiler$Table;LPolicyCompiler$Diagram;III)V" } : MethodName) prog_10_method_7_code (9 : Nat) (Option.none : Option ClassFile.FieldType)) ∈ lw_tbl := List.mem_of_getElem? (i := 742) rfl
set_option maxRecDepth 20000 in
theorem mw_640 : (Cond.methodLink "PolicyCompiler$Table" (36 : Nat) ({ cls := "PolicyCompiler$Diagram", name := "isLeaf", desc := "(I)Z" } : MethodName)) ∈ lw_tbl := List.mem_of_getElem? (i := 743) (by decide +kernel)
set_option maxRecDepth 20000 in
theorem mw_641 : (Cond.instanceMethod ({ cls := "PolicyCompiler$Diagram", name := "isLeaf", desc := "(I)Z" } : MethodName)) ∈ lw_tbl := List.mem_of_getElem? (i := 744) (by decide +kernel)
set_option maxRecDepth 20000 in
theorem mw_642 : (Cond.selects "PolicyCompiler$Diagram" ({ cls := "PolicyCompiler$Diagram", name := "isLeaf", desc := "(I)Z" } : MethodName) ({ cls := "PolicyCompiler$Diagram", name := "isLeaf", desc := "(I)Z" } : MethodName)) ∈ lw_tbl := List.mem_of_getElem? (i := 745) (by decide +kernel)
set_option maxRecDepth 20000 in
theorem mw_643 : (Cond.code ({ cls := "PolicyCompiler$Diagram", name := "isLeaf", desc := "(I)Z" } : MethodName) prog_2_method_7_code (2 : Nat) (Option.some FieldType.boolean)) ∈ lw_tbl := List.mem_of_getElem? (i := 746) rfl
set_option maxRecDepth 20000 in
theorem mw_644 : (Cond.methodLink "PolicyCompiler$Table" (40 : Nat) ({ cls := "PolicyCompiler$Table", name := "addRow", desc := "(II)V" } : MethodName)) ∈ lw_tbl := List.mem_of_getElem? (i := 747) (by decide +kernel)
set_option maxRecDepth 20000 in
theorem mw_646 : (Cond.instanceMethod ({ cls := "PolicyCompiler$Table", name := "addRow", desc := "(II)V" } : MethodName)) ∈ lw_tbl := List.mem_of_getElem? (i := 749) (by decide +kernel)
set_option maxRecDepth 20000 in
theorem mw_647 : (Cond.code ({ cls := "PolicyCompiler$Table", name := "addRow", desc := "(II)V" } : MethodName) prog_10_method_8_code (3 : Nat) (Option.none : Option ClassFile.FieldType)) ∈ lw_tbl := List.mem_of_getElem? (i := 750) rfl
set_option maxRecDepth 20000 in
theorem mw_648 : (Cond.methodLink "PolicyCompiler$Table" (44 : Nat) ({ cls := "PolicyCompiler$Diagram", name := "fieldOf", desc := "(I)I" } : MethodName)) ∈ lw_tbl := List.mem_of_getElem? (i := 751) (by decide +kernel)
set_option maxRecDepth 20000 in
theorem mw_649 : (Cond.instanceMethod ({ cls := "PolicyCompiler$Diagram", name := "fieldOf", desc := "(I)I" } : MethodName)) ∈ lw_tbl := List.mem_of_getElem? (i := 752) (by decide +kernel)
set_option maxRecDepth 20000 in
theorem mw_650 : (Cond.selects "PolicyCompiler$Diagram" ({ cls := "PolicyCompiler$Diagram", name := "fieldOf", desc := "(I)I" } : MethodName) ({ cls := "PolicyCompiler$Diagram", name := "fieldOf", desc := "(I)I" } : MethodName)) ∈ lw_tbl := List.mem_of_getElem? (i := 753) (by decide +kernel)
set_option maxRecDepth 20000 in
theorem mw_651 : (Cond.code ({ cls := "PolicyCompiler$Diagram", name := "fieldOf", desc := "(I)I" } : MethodName) prog_2_method_8_code (2 : Nat) (Option.some FieldType.int)) ∈ lw_tbl := List.mem_of_getElem? (i := 754) rfl
set_option maxRecDepth 20000 in
theorem mw_652 : (Cond.methodLink "PolicyCompiler$Table" (47 : Nat) ({ cls := "PolicyCompiler$Diagram", name := "mainChildOf", desc := "(I)I" } : MethodName)) ∈ lw_tbl := List.mem_of_getElem? (i := 755) (by decide +kernel)
set_option maxRecDepth 20000 in
theorem mw_653 : (Cond.instanceMethod ({ cls := "PolicyCompiler$Diagram", name := "mainChildOf", desc := "(I)I" } : MethodName)) ∈ lw_tbl := List.mem_of_getElem? (i := 756) (by decide +kernel)
set_option maxRecDepth 20000 in
theorem mw_654 : (Cond.selects "PolicyCompiler$Diagram" ({ cls := "PolicyCompiler$Diagram", name := "mainChildOf", desc := "(I)I" } : MethodName) ({ cls := "PolicyCompiler$Diagram", name := "mainChildOf", desc := "(I)I" } : MethodName)) ∈ lw_tbl := List.mem_of_getElem? (i := 757) (by decide +kernel)
set_option maxRecDepth 20000 in
theorem mw_655 : (Cond.code ({ cls := "PolicyCompiler$Diagram", name := "mainChildOf", desc := "(I)I" } : MethodName) prog_2_method_17_code (7 : Nat) (Option.some FieldType.int)) ∈ lw_tbl := List.mem_of_getElem? (i := 758) rfl
set_option maxRecDepth 20000 in
theorem mw_656 : (Cond.methodLink "PolicyCompiler$Diagram" (96 : Nat) ({ cls := "PolicyCompiler$Diagram", name := "valuesLeadingTo", desc := "(II)I" } : MethodName)) ∈ lw_tbl := List.mem_of_getElem? (i := 759) (by decide +kernel)
set_option maxRecDepth 20000 in
theorem mw_658 : (Cond.instanceMethod ({ cls := "PolicyCompiler$Diagram", name := "valuesLeadingTo", desc := "(II)I" } : MethodName)) ∈ lw_tbl := List.mem_of_getElem? (i := 761) (by decide +kernel)
set_option maxRecDepth 20000 in
theorem mw_659 : (Cond.code ({ cls := "PolicyCompiler$Diagram", name := "valuesLeadingTo", desc := "(II)I" } : MethodName) prog_2_method_18_code (5 : Nat) (Option.some FieldType.int)) ∈ lw_tbl := List.mem_of_getElem? (i := 762) rfl
set_option maxRecDepth 20000 in
theorem mw_660 : (Cond.methodLink "PolicyCompiler$Table" (50 : Nat) ({ cls := "PolicyCompiler$Diagram", name := "childOf", desc := "(II)I" } : MethodName)) ∈ lw_tbl := List.mem_of_getElem? (i := 763) (by decide +kernel)
set_option maxRecDepth 20000 in
theorem mw_661 : (Cond.methodLinkNest "PolicyCompiler$Table" (54 : Nat) ({ cls := "PolicyCompiler", name := "weightOf", desc := "(I)I" } : MethodName) "PolicyCompiler") ∈ lw_tbl := List.mem_of_getElem? (i := 764) (by decide +kernel)
set_option maxRecDepth 20000 in
theorem mw_662 : (Cond.methodLink "PolicyCompiler$Table" (32 : Nat) ({ cls := "PolicyCompiler$Diagram", name := "actionTotal", desc := "(I)I" } : MethodName)) ∈ lw_tbl := List.mem_of_getElem? (i := 765) (by decide +kernel)
set_option maxRecDepth 20000 in
theorem mw_663 : (Cond.instanceMethod ({ cls := "PolicyCompiler$Diagram", name := "actionTotal", desc := "(I)I" } : MethodName)) ∈ lw_tbl := List.mem_of_getElem? (i := 766) (by decide +kernel)
set_option maxRecDepth 20000 in
theorem mw_664 : (Cond.selects "PolicyCompiler$Diagram" ({ cls := "PolicyCompiler$Diagram", name := "actionTotal", desc := "(I)I" } : MethodName) ({ cls := "PolicyCompiler$Diagram", name := "actionTotal", desc := "(I)I" } : MethodName)) ∈ lw_tbl := List.mem_of_getElem? (i := 767) (by decide +kernel)
set_option maxRecDepth 20000 in
theorem mw_665 : (Cond.code ({ cls := "PolicyCompiler$Diagram", name := "actionTotal", desc := "(I)I" } : MethodName) prog_2_method_23_code (2 : Nat) (Option.some FieldType.int)) ∈ lw_tbl := List.mem_of_getElem? (i := 768) rfl
set_option maxRecDepth 20000 in
theorem mw_666 : (Cond.methodLink "PolicyCompiler" (108 : Nat) ({ cls := "PolicyCompiler$Slot", name := "printout", desc := "()LPolicyCompiler$Printout;" } : MethodName)) ∈ lw_tbl := List.mem_of_getElem? (i := 769) (by decide +kernel)
set_option maxRecDepth 20000 in
theorem mw_667 : (Cond.instanceMethod ({ cls := "PolicyCompiler$Slot", name := "printout", desc := "()LPolicyCompiler$Printout;" } : MethodName)) ∈ lw_tbl := List.mem_of_getElem? (i := 770) (by decide +kernel)
set_option maxRecDepth 20000 in
theorem mw_668 : (Cond.selects "PolicyCompiler$Slot" ({ cls := "PolicyCompiler$Slot", name := "printout", desc := "()LPolicyCompiler$Printout;" } : MethodName) ({ cls := "PolicyCompiler$Slot", name := "printout", desc := "()LPolicyCompiler$Printout;" } : MethodName)) ∈ lw_tbl := List.mem_of_getElem? (i := 771) (by decide +kernel)
set_option maxRecDepth 20000 in
theorem mw_669 : (Cond.code ({ cls := "PolicyCompiler$Slot", name := "printout", desc := "()LPolicyCompiler$Printout;" } : MethodName) prog_9_method_5_code (1 : Nat) (Option.some (FieldType.object "PolicyCompiler$Printout"))) ∈ lw_tbl := List.mem_of_getElem? (i := 772) rfl
set_option maxRecDepth 20000 in
theorem mw_670 : (Cond.methodLink "PolicyCompiler" (112 : Nat) ({ cls := "PolicyCompiler$Printout", name := "byteCount", desc := "()I" } : MethodName)) ∈ lw_tbl := List.mem_of_getElem? (i := 773) (by decide +kernel)
set_option maxRecDepth 20000 in
theorem mw_671 : (Cond.instanceMethod ({ cls := "PolicyCompiler$Printout", name := "byteCount", desc := "()I" } : MethodName)) ∈ lw_tbl := List.mem_of_getElem? (i := 774) (by decide +kernel)
set_option maxRecDepth 20000 in
theorem mw_672 : (Cond.selects "PolicyCompiler$Printout" ({ cls := "PolicyCompiler$Printout", name := "byteCount", desc := "()I" } : MethodName) ({ cls := "PolicyCompiler$Printout", name := "byteCount", desc := "()I" } : MethodName)) ∈ lw_tbl := List.mem_of_getElem? (i := 775) (by decide +kernel)
set_option maxRecDepth 20000 in
theorem mw_673 : (Cond.code ({ cls := "PolicyCompiler$Printout", name := "byteCount", desc := "()I" } : MethodName) prog_7_method_2_code (1 : Nat) (Option.some FieldType.int)) ∈ lw_tbl := List.mem_of_getElem? (i := 776) rfl
set_option maxRecDepth 20000 in
theorem mw_674 : (Cond.methodLink "PolicyCompiler" (117 : Nat) ({ cls := "PolicyCompiler$Printout", name := "byteAt", desc := "(I)I" } : MethodName)) ∈ lw_tbl := List.mem_of_getElem? (i := 777) (by decide +kernel)
set_option maxRecDepth 20000 in
theorem mw_675 : (Cond.instanceMethod ({ cls := "PolicyCompiler$Printout", name := "byteAt", desc := "(I)I" } : MethodName)) ∈ lw_tbl := List.mem_of_getElem? (i := 778) (by decide +kernel)
set_option maxRecDepth 20000 in
theorem mw_676 : (Cond.selects "PolicyCompiler$Printout" ({ cls := "PolicyCompiler$Printout", name := "byteAt", desc := "(I)I" } : MethodName) ({ cls := "PolicyCompiler$Printout", name := "byteAt", desc := "(I)I" } : MethodName)) ∈ lw_tbl := List.mem_of_getElem? (i := 779) (by decide +kernel)
set_option maxRecDepth 20000 in
theorem mw_677 : (Cond.code ({ cls := "PolicyCompiler$Printout", name := "byteAt", desc := "(I)I" } : MethodName) prog_7_method_3_code (2 : Nat) (Option.some FieldType.int)) ∈ lw_tbl := List.mem_of_getElem? (i := 780) rfl
set_option maxRecDepth 20000 in
theorem mw_678 : (Cond.methodLink "PolicyCompilerLaw" (50 : Nat) ({ cls := "PolicyCompiler", name := "outputs", desc := "(II)J" } : MethodName)) ∈ lw_tbl := List.mem_of_getElem? (i := 781) (by decide +kernel)
set_option maxRecDepth 20000 in
theorem mw_679 : (Cond.instanceMethod ({ cls := "PolicyCompiler", name := "outputs", desc := "(II)J" } : MethodName)) ∈ lw_tbl := List.mem_of_getElem? (i := 782) (by decide +kernel)
set_option maxRecDepth 20000 in
theorem mw_680 : (Cond.selects "PolicyCompiler" ({ cls := "PolicyCompiler", name := "outputs", desc := "(II)J" } : MethodName) ({ cls := "PolicyCompiler", name := "outputs", desc := "(II)J" } : MethodName)) ∈ lw_tbl := List.mem_of_getElem? (i := 783) (by decide +kernel)
set_option maxRecDepth 20000 in
theorem mw_681 : (Cond.code ({ cls := "PolicyCompiler", name := "outputs", desc := "(II)J" } : MethodName) prog_1_method_10_code (3 : Nat) (Option.some FieldType.long)) ∈ lw_tbl := List.mem_of_getElem? (i := 784) rfl
set_option maxRecDepth 20000 in
theorem mw_682 : (Cond.methodLink "PolicyCompiler" (120 : Nat) ({ cls := "PolicyCompiler", name := "isPacket", desc := "(I)Z" } : MethodName)) ∈ lw_tbl := List.mem_of_getElem? (i := 785) (by decide +kernel)
set_option maxRecDepth 20000 in
theorem mw_683 : (Cond.methodLink "PolicyCompiler" (123 : Nat) ({ cls := "PolicyCompiler$Slot", name := "relation", desc := "()LPolicyCompiler$Relation;" } : MethodName)) ∈ lw_tbl := List.mem_of_getElem? (i := 786) (by decide +kernel)
set_option maxRecDepth 20000 in
theorem mw_684 : (Cond.instanceMethod ({ cls := "PolicyCompiler$Slot", name := "relation", desc := "()LPolicyCompiler$Relation;" } : MethodName)) ∈ lw_tbl := List.mem_of_getElem? (i := 787) (by decide +kernel)
set_option maxRecDepth 20000 in
theorem mw_685 : (Cond.selects "PolicyCompiler$Slot" ({ cls := "PolicyCompiler$Slot", name := "relation", desc := "()LPolicyCompiler$Relation;" } : MethodName) ({ cls := "PolicyCompiler$Slot", name := "relation", desc := "()LPolicyCompiler$Relation;" } : MethodName)) ∈ lw_tbl := List.mem_of_getElem? (i := 788) (by decide +kernel)
set_option maxRecDepth 20000 in
theorem mw_686 : (Cond.code ({ cls := "PolicyCompiler$Slot", name := "relation", desc := "()LPolicyCompiler$Relation;" } : MethodName) prog_9_method_6_code (1 : Nat) (Option.some (FieldType.object "PolicyCompiler$Relation"))) ∈ lw_tbl := List.mem_of_getElem? (i := 789) rfl
set_option maxRecDepth 20000 in
theorem mw_687 : (Cond.methodLink "PolicyCompiler" (127 : Nat) ({ cls := "PolicyCompiler$Relation", name := "imageOf", desc := "(I)J" } : MethodName)) ∈ lw_tbl := List.mem_of_getElem? (i := 790) (by decide +kernel)
set_option maxRecDepth 20000 in
theorem mw_688 : (Cond.methodLink "PolicyCompilerLaw" (55 : Nat) ({ cls := "PolicyCompiler", name := "accepted", desc := "(I)J" } : MethodName)) ∈ lw_tbl := List.mem_of_getElem? (i := 791) (by decide +kernel)
set_option maxRecDepth 20000 in
theorem mw_689 : (Cond.instanceMethod ({ cls := "PolicyCompiler", name := "accepted", desc := "(I)J" } : MethodName)) ∈ lw_tbl := List.mem_of_getElem? (i := 792) (by decide +kernel)
set_option maxRecDepth 20000 in
theorem mw_690 : (Cond.selects "PolicyCompiler" ({ cls := "PolicyCompiler", name := "accepted", desc := "(I)J" } : MethodName) ({ cls := "PolicyCompiler", name := "accepted", desc := "(I)J" } : MethodName)) ∈ lw_tbl := List.mem_of_getElem? (i := 793) (by decide +kernel)
set_option maxRecDepth 20000 in
theorem mw_691 : (Cond.code ({ cls := "PolicyCompiler", name := "accepted", desc := "(I)J" } : MethodName) prog_1_method_11_code (2 : Nat) (Option.some FieldType.long)) ∈ lw_tbl := List.mem_of_getElem? (i := 794) rfl
set_option maxRecDepth 20000 in
theorem mw_692 : (Cond.methodLink "PolicyCompiler" (133 : Nat) ({ cls := "PolicyCompiler$Relation", name := "domain", desc := "()J" } : MethodName)) ∈ lw_tbl := List.mem_of_getElem? (i := 795) (by decide +kernel)
set_option maxRecDepth 20000 in
theorem mw_693 : (Cond.instanceMethod ({ cls := "PolicyCompiler$Relation", name := "domain", desc := "()J" } : MethodName)) ∈ lw_tbl := List.mem_of_getElem? (i := 796) (by decide +kernel)
set_option maxRecDepth 20000 in
theorem mw_694 : (Cond.selects "PolicyCompiler$Relation" ({ cls := "PolicyCompiler$Relation", name := "domain", desc := "()J" } : MethodName) ({ cls := "PolicyCompiler$Relation", name := "domain", desc := "()J" } : MethodName)) ∈ lw_tbl := List.mem_of_getElem? (i := 797) (by decide +kernel)
set_option maxRecDepth 20000 in
theorem mw_695 : (Cond.code ({ cls := "PolicyCompiler$Relation", name := "domain", desc := "()J" } : MethodName) prog_8_method_4_code (4 : Nat) (Option.some FieldType.long)) ∈ lw_tbl := List.mem_of_getElem? (i := 798) rfl
set_option maxRecDepth 20000 in
theorem mw_696 : (Cond.methodLinkNest "PolicyCompiler$Relation" (19 : Nat) ({ cls := "PolicyCompiler", name := "alone", desc := "(I)J" } : MethodName) "PolicyCompiler") ∈ lw_tbl := List.mem_of_getElem? (i := 799) (by decide +kernel)
set_option maxRecDepth 20000 in
theorem mw_697 : (Cond.methodLink "PolicyCompilerLaw" (60 : Nat) ({ cls := "PolicyCompiler", name := "spread", desc := "(I)I" } : MethodName)) ∈ lw_tbl := List.mem_of_getElem? (i := 800) (by decide +kernel)
set_option maxRecDepth 20000 in
theorem mw_698 : (Cond.instanceMethod ({ cls := "PolicyCompiler", name := "spread", desc := "(I)I" } : MethodName)) ∈ lw_tbl := List.mem_of_getElem? (i := 801) (by decide +kernel)
set_option maxRecDepth 20000 in
theorem mw_699 : (Cond.selects "PolicyCompiler" ({ cls := "PolicyCompiler", name := "spread", desc := "(I)I" } : MethodName) ({ cls := "PolicyCompiler", name := "spread", desc := "(I)I" } : MethodName)) ∈ lw_tbl := List.mem_of_getElem? (i := 802) (by decide +kernel)
set_option maxRecDepth 20000 in
theorem mw_700 : (Cond.code ({ cls := "PolicyCompiler", name := "spread", desc := "(I)I" } : MethodName) prog_1_method_12_code (2 : Nat) (Option.some FieldType.int)) ∈ lw_tbl := List.mem_of_getElem? (i := 803) rfl
set_option maxRecDepth 20000 in
theorem mw_701 : (Cond.methodLink "PolicyCompiler" (137 : Nat) ({ cls := "PolicyCompiler$Relation", name := "widest", desc := "()I" } : MethodName)) ∈ lw_tbl := List.mem_of_getElem? (i := 804) (by decide +kernel)
set_option maxRecDepth 20000 in
theorem mw_702 : (Cond.instanceMethod ({ cls := "PolicyCompiler$Relation", name := "widest", desc := "()I" } : MethodName)) ∈ lw_tbl := List.mem_of_getElem? (i := 805) (by decide +kernel)
set_option maxRecDepth 20000 in
theorem mw_703 : (Cond.selects "PolicyCompiler$Relation" ({ cls := "PolicyCompiler$Relation", name := "widest", desc := "()I" } : MethodName) ({ cls := "PolicyCompiler$Relation", name := "widest", desc := "()I" } : MethodName)) ∈ lw_tbl := List.mem_of_getElem? (i := 806) (by decide +kernel)
set_option maxRecDepth 20000 in
theorem mw_704 : (Cond.code ({ cls := "PolicyCompiler$Relation", name := "widest", desc := "()I" } : MethodName) prog_8_method_5_code (3 : Nat) (Option.some FieldType.int)) ∈ lw_tbl := List.mem_of_getElem? (i := 807) rfl
set_option maxRecDepth 20000 in
theorem mw_705 : (Cond.methodLink "PolicyCompiler$Relation" (23 : Nat) ({ cls := "java/lang/Long", name := "bitCount", desc := "(J)I" } : MethodName)) ∈ lw_tbl := List.mem_of_getElem? (i := 808) (by decide +kernel)
set_option maxRecDepth 20000 in
theorem mw_706 : (Cond.methodLink "PolicyCompiler$Relation" (29 : Nat) ({ cls := "java/lang/Math", name := "max", desc := "(II)I" } : MethodName)) ∈ lw_tbl := List.mem_of_getElem? (i := 809) (by decide +kernel)
set_option maxRecDepth 20000 in
theorem mw_707 : (Cond.methodLink "PolicyCompilerLaw" (64 : Nat) ({ cls := "PolicyCompiler", name := "rounds", desc := "(I)I" } : MethodName)) ∈ lw_tbl := List.mem_of_getElem? (i := 810) (by decide +kernel)
set_option maxRecDepth 20000 in
theorem mw_708 : (Cond.instanceMethod ({ cls := "PolicyCompiler", name := "rounds", desc := "(I)I" } : MethodName)) ∈ lw_tbl := List.mem_of_getElem? (i := 811) (by decide +kernel)
set_option maxRecDepth 20000 in
theorem mw_709 : (Cond.selects "PolicyCompiler" ({ cls := "PolicyCompiler", name := "rounds", desc := "(I)I" } : MethodName) ({ cls := "PolicyCompiler", name := "rounds", desc := "(I)I" } : MethodName)) ∈ lw_tbl := List.mem_of_getElem? (i := 812) (by decide +kernel)
set_option maxRecDepth 20000 in
theorem mw_710 : (Cond.code ({ cls := "PolicyCompiler", name := "rounds", desc := "(I)I" } : MethodName) prog_1_method_13_code (2 : Nat) (Option.some FieldType.int)) ∈ lw_tbl := List.mem_of_getElem? (i := 813) rfl
set_option maxRecDepth 20000 in
theorem mw_711 : (Cond.methodLink "PolicyCompiler" (140 : Nat) ({ cls := "PolicyCompiler$Relation", name := "mostSteps", desc := "()I" } : MethodName)) ∈ lw_tbl := List.mem_of_getElem? (i := 814) (by decide +kernel)
set_option maxRecDepth 20000 in
theorem mw_712 : (Cond.instanceMethod ({ cls := "PolicyCompiler$Relation", name := "mostSteps", desc := "()I" } : MethodName)) ∈ lw_tbl := List.mem_of_getElem? (i := 815) (by decide +kernel)
set_option maxRecDepth 20000 in
theorem mw_713 : (Cond.selects "PolicyCompiler$Relation" ({ cls := "PolicyCompiler$Relation", name := "mostSteps", desc := "()I" } : MethodName) ({ cls := "PolicyCompiler$Relation", name := "mostSteps", desc := "()I" } : MethodName)) ∈ lw_tbl := List.mem_of_getElem? (i := 816) (by decide +kernel)
set_option maxRecDepth 20000 in
theorem mw_714 : (Cond.code ({ cls := "PolicyCompiler$Relation", name := "mostSteps", desc := "()I" } : MethodName) prog_8_method_6_code (3 : Nat) (Option.some FieldType.int)) ∈ lw_tbl := List.mem_of_getElem? (i := 817) rfl
set_option maxRecDepth 20000 in
theorem mw_715 : (Cond.methodLink "PolicyCompiler$Relation" (35 : Nat) ({ cls := "PolicyCompiler$Relation", name := "stepsFrom", desc := "(I)I" } : MethodName)) ∈ lw_tbl := List.mem_of_getElem? (i := 818) (by decide +kernel)
set_option maxRecDepth 20000 in
theorem mw_717 : (Cond.instanceMethod ({ cls := "PolicyCompiler$Relation", name := "stepsFrom", desc := "(I)I" } : MethodName)) ∈ lw_tbl := List.mem_of_getElem? (i := 820) (by decide +kernel)
set_option maxRecDepth 20000 in
theorem mw_718 : (Cond.code ({ cls := "PolicyCompiler$Relation", name := "stepsFrom", desc := "(I)I" } : MethodName) prog_8_method_7_code (8 : Nat) (Option.some FieldType.int)) ∈ lw_tbl := List.mem_of_getElem? (i := 821) rfl
set_option maxRecDepth 20000 in
theorem mw_719 : (Cond.methodLinkNest "PolicyCompiler$Relation" (39 : Nat) ({ cls := "PolicyCompiler", name := "imageOfSet", desc := "([JIJ)J" } : MethodName) "PolicyCompiler") ∈ lw_tbl := List.mem_of_getElem? (i := 822) (by decide +kernel)
set_option maxRecDepth 20000 in
theorem mw_720 : (Cond.constantLong "PolicyCompiler$Relation" (43 : Nat) (-1 : Int64)) ∈ lw_tbl := List.mem_of_getElem? (i := 823) (by decide +kernel)
set_option maxRecDepth 20000 in
theorem mw_721 : (Cond.methodLink "PolicyCompilerLaw" (68 : Nat) ({ cls := "PolicyCompiler", name := "compare", desc := "(II)I" } : MethodName)) ∈ lw_tbl := List.mem_of_getElem? (i := 824) (by decide +kernel)
set_option maxRecDepth 20000 in
theorem mw_722 : (Cond.instanceMethod ({ cls := "PolicyCompiler", name := "compare", desc := "(II)I" } : MethodName)) ∈ lw_tbl := List.mem_of_getElem? (i := 825) (by decide +kernel)
set_option maxRecDepth 20000 in
theorem mw_723 : (Cond.selects "PolicyCompiler" ({ cls := "PolicyCompiler", name := "compare", desc := "(II)I" } : MethodName) ({ cls := "PolicyCompiler", name := "compare", desc := "(II)I" } : MethodName)) ∈ lw_tbl := List.mem_of_getElem? (i := 826) (by decide +kernel)
set_option maxRecDepth 20000 in
theorem mw_724 : (Cond.code ({ cls := "PolicyCompiler", name := "compare", desc := "(II)I" } : MethodName) prog_1_method_14_code (3 : Nat) (Option.some FieldType.int)) ∈ lw_tbl := List.mem_of_getElem? (i := 827) rfl
set_option maxRecDepth 20000 in
theorem mw_725 : (Cond.methodLink "PolicyCompiler" (143 : Nat) ({ cls := "PolicyCompiler$Relation", name := "orderTo", desc := "(LPolicyCompiler$Relation;)I" } : MethodName)) ∈ lw_tbl := List.mem_of_getElem? (i := 828) (by decide +kernel)
set_option maxRecDepth 20000 in
theorem mw_726 : (Cond.instanceMethod ({ cls := "PolicyCompiler$Relation", name := "orderTo", desc := "(LPolicyCompiler$Relation;)I" } : MethodName)) ∈ lw_tbl := List.mem_of_getElem? (i := 829) (by decide +kernel)
set_option maxRecDepth 20000 in
theorem mw_727 : (Cond.selects "PolicyCompiler$Relation" ({ cls := "PolicyCompiler$Relation", name := "orderTo", desc := "(LPolicyCompiler$Relation;)I" } : MethodName) ({ cls := "PolicyCompiler$Relation", name := "orderTo", desc := "(LPolicyCompiler$Relation;)I" } : MethodName)) ∈ lw_tbl := List.mem_of_getElem? (i := 830) (by decide +kernel)
set_option maxRecDepth 20000 in
theorem mw_728 : (Cond.code ({ cls := "PolicyCompiler$Relation", name := "orderTo", desc := "(LPolicyCompiler$Relation;)I" } : MethodName) prog_8_method_8_code (5 : Nat) (Option.some FieldType.int)) ∈ lw_tbl := List.mem_of_getElem? (i := 831) rfl
set_option maxRecDepth 20000 in
theorem mw_729 : (Cond.methodLink "PolicyCompilerLaw" (72 : Nat) ({ cls := "PolicyCompiler", name := "witness", desc := "(II)I" } : MethodName)) ∈ lw_tbl := List.mem_of_getElem? (i := 832) (by decide +kernel)
set_option maxRecDepth 20000 in
theorem mw_730 : (Cond.instanceMethod ({ cls := "PolicyCompiler", name := "witness", desc := "(II)I" } : MethodName)) ∈ lw_tbl := List.mem_of_getElem? (i := 833) (by decide +kernel)
set_option maxRecDepth 20000 in
theorem mw_731 : (Cond.selects "PolicyCompiler" ({ cls := "PolicyCompiler", name := "witness", desc := "(II)I" } : MethodName) ({ cls := "PolicyCompiler", name := "witness", desc := "(II)I" } : MethodName)) ∈ lw_tbl := List.mem_of_getElem? (i := 834) (by decide +kernel)
set_option maxRecDepth 20000 in
theorem mw_732 : (Cond.code ({ cls := "PolicyCompiler", name := "witness", desc := "(II)I" } : MethodName) prog_1_method_15_code (3 : Nat) (Option.some FieldType.int)) ∈ lw_tbl := List.mem_of_getElem? (i := 835) rfl
set_option maxRecDepth 20000 in
theorem mw_733 : (Cond.methodLink "PolicyCompiler" (147 : Nat) ({ cls := "PolicyCompiler$Relation", name := "firstUnlike", desc := "(LPolicyCompiler$Relation;)I" } : MethodName)) ∈ lw_tbl := List.mem_of_getElem? (i := 836) (by decide +kernel)
set_option maxRecDepth 20000 in
theorem mw_734 : (Cond.instanceMethod ({ cls := "PolicyCompiler$Relation", name := "firstUnlike", desc := "(LPolicyCompiler$Relation;)I" } : MethodName)) ∈ lw_tbl := List.mem_of_getElem? (i := 837) (by decide +kernel)
set_option maxRecDepth 20000 in
theorem mw_735 : (Cond.selects "PolicyCompiler$Relation" ({ cls := "PolicyCompiler$Relation", name := "firstUnlike", desc := "(LPolicyCompiler$Relation;)I" } : MethodName) ({ cls := "PolicyCompiler$Relation", name := "firstUnlike", desc := "(LPolicyCompiler$Relation;)I" } : MethodName)) ∈ lw_tbl := List.mem_of_getElem? (i := 838) (by decide +kernel)
set_option maxRecDepth 20000 in
theorem mw_736 : (Cond.code ({ cls := "PolicyCompiler$Relation", name := "firstUnlike", desc := "(LPolicyCompiler$Relation;)I" } : MethodName) prog_8_method_9_code (3 : Nat) (Option.some FieldType.int)) ∈ lw_tbl := List.mem_of_getElem? (i := 839) rfl
set_option maxRecDepth 20000 in
theorem mw_737 : (Cond.methodLink "PolicyCompilerLaw" (76 : Nat) ({ cls := "PolicyCompiler", name := "difference", desc := "(II)I" } : MethodName)) ∈ lw_tbl := List.mem_of_getElem? (i := 840) (by decide +kernel)
set_option maxRecDepth 20000 in
theorem mw_738 : (Cond.instanceMethod ({ cls := "PolicyCompiler", name := "difference", desc := "(II)I" } : MethodName)) ∈ lw_tbl := List.mem_of_getElem? (i := 841) (by decide +kernel)
set_option maxRecDepth 20000 in
theorem mw_739 : (Cond.selects "PolicyCompiler" ({ cls := "PolicyCompiler", name := "difference", desc := "(II)I" } : MethodName) ({ cls := "PolicyCompiler", name := "difference", desc := "(II)I" } : MethodName)) ∈ lw_tbl := List.mem_of_getElem? (i := 842) (by decide +kernel)
set_option maxRecDepth 20000 in
theorem mw_740 : (Cond.code ({ cls := "PolicyCompiler", name := "difference", desc := "(II)I" } : MethodName) prog_1_method_16_code (6 : Nat) (Option.some FieldType.int)) ∈ lw_tbl := List.mem_of_getElem? (i := 843) rfl
set_option maxRecDepth 20000 in
theorem mw_741 : (Cond.methodLink "PolicyCompilerLaw" (80 : Nat) ({ cls := "PolicyCompiler", name := "diagramSize", desc := "(I)I" } : MethodName)) ∈ lw_tbl := List.mem_of_getElem? (i := 844) (by decide +kernel)
set_option maxRecDepth 20000 in
theorem mw_742 : (Cond.instanceMethod ({ cls := "PolicyCompiler", name := "diagramSize", desc := "(I)I" } : MethodName)) ∈ lw_tbl := List.mem_of_getElem? (i := 845) (by decide +kernel)
set_option maxRecDepth 20000 in
theorem mw_743 : (Cond.selects "PolicyCompiler" ({ cls := "PolicyCompiler", name := "diagramSize", desc := "(I)I" } : MethodName) ({ cls := "PolicyCompiler", name := "diagramSize", desc := "(I)I" } : MethodName)) ∈ lw_tbl := List.mem_of_getElem? (i := 846) (by decide +kernel)
set_option maxRecDepth 20000 in
theorem mw_744 : (Cond.code ({ cls := "PolicyCompiler", name := "diagramSize", desc := "(I)I" } : MethodName) prog_1_method_17_code (2 : Nat) (Option.some FieldType.int)) ∈ lw_tbl := List.mem_of_getElem? (i := 847) rfl
set_option maxRecDepth 20000 in
theorem mw_745 : (Cond.methodLink "PolicyCompiler" (154 : Nat) ({ cls := "PolicyCompiler$Slot", name := "diagram", desc := "()LPolicyCompiler$Diagram;" } : MethodName)) ∈ lw_tbl := List.mem_of_getElem? (i := 848) (by decide +kernel)
set_option maxRecDepth 20000 in
theorem mw_746 : (Cond.instanceMethod ({ cls := "PolicyCompiler$Slot", name := "diagram", desc := "()LPolicyCompiler$Diagram;" } : MethodName)) ∈ lw_tbl := List.mem_of_getElem? (i := 849) (by decide +kernel)
set_option maxRecDepth 20000 in
theorem mw_747 : (Cond.selects "PolicyCompiler$Slot" ({ cls := "PolicyCompiler$Slot", name := "diagram", desc := "()LPolicyCompiler$Diagram;" } : MethodName) ({ cls := "PolicyCompiler$Slot", name := "diagram", desc := "()LPolicyCompiler$Diagram;" } : MethodName)) ∈ lw_tbl := List.mem_of_getElem? (i := 850) (by decide +kernel)
set_option maxRecDepth 20000 in
theorem mw_748 : (Cond.code ({ cls := "PolicyCompiler$Slot", name := "diagram", desc := "()LPolicyCompiler$Diagram;" } : MethodName) prog_9_method_7_code (1 : Nat) (Option.some (FieldType.object "PolicyCompiler$Diagram"))) ∈ lw_tbl := List.mem_of_getElem? (i := 851) rfl
set_option maxRecDepth 20000 in
theorem mw_749 : (Cond.methodLink "PolicyCompiler" (158 : Nat) ({ cls := "PolicyCompiler$Diagram", name := "nodeTotal", desc := "()I" } : MethodName)) ∈ lw_tbl := List.mem_of_getElem? (i := 852) (by decide +kernel)
set_option maxRecDepth 20000 in
theorem mw_750 : (Cond.instanceMethod ({ cls := "PolicyCompiler$Diagram", name := "nodeTotal", desc := "()I" } : MethodName)) ∈ lw_tbl := List.mem_of_getElem? (i := 853) (by decide +kernel)
set_option maxRecDepth 20000 in
theorem mw_751 : (Cond.selects "PolicyCompiler$Diagram" ({ cls := "PolicyCompiler$Diagram", name := "nodeTotal", desc := "()I" } : MethodName) ({ cls := "PolicyCompiler$Diagram", name := "nodeTotal", desc := "()I" } : MethodName)) ∈ lw_tbl := List.mem_of_getElem? (i := 854) (by decide +kernel)
set_option maxRecDepth 20000 in
theorem mw_752 : (Cond.code ({ cls := "PolicyCompiler$Diagram", name := "nodeTotal", desc := "()I" } : MethodName) prog_2_method_2_code (1 : Nat) (Option.some FieldType.int)) ∈ lw_tbl := List.mem_of_getElem? (i := 855) rfl
set_option maxRecDepth 20000 in
theorem mw_753 : (Cond.methodLink "PolicyCompilerLaw" (84 : Nat) ({ cls := "PolicyCompiler", name := "leaves", desc := "(I)I" } : MethodName)) ∈ lw_tbl := List.mem_of_getElem? (i := 856) (by decide +kernel)
set_option maxRecDepth 20000 in
theorem mw_754 : (Cond.instanceMethod ({ cls := "PolicyCompiler", name := "leaves", desc := "(I)I" } : MethodName)) ∈ lw_tbl := List.mem_of_getElem? (i := 857) (by decide +kernel)
set_option maxRecDepth 20000 in
theorem mw_755 : (Cond.selects "PolicyCompiler" ({ cls := "PolicyCompiler", name := "leaves", desc := "(I)I" } : MethodName) ({ cls := "PolicyCompiler", name := "leaves", desc := "(I)I" } : MethodName)) ∈ lw_tbl := List.mem_of_getElem? (i := 858) (by decide +kernel)
set_option maxRecDepth 20000 in
theorem mw_756 : (Cond.code ({ cls := "PolicyCompiler", name := "leaves", desc := "(I)I" } : MethodName) prog_1_method_18_code (2 : Nat) (Option.some FieldType.int)) ∈ lw_tbl := List.mem_of_getElem? (i := 859) rfl
set_option maxRecDepth 20000 in
theorem mw_757 : (Cond.methodLink "PolicyCompiler" (163 : Nat) ({ cls := "PolicyCompiler$Diagram", name := "leafTotal", desc := "()I" } : MethodName)) ∈ lw_tbl := List.mem_of_getElem? (i := 860) (by decide +kernel)
set_option maxRecDepth 20000 in
theorem mw_758 : (Cond.instanceMethod ({ cls := "PolicyCompiler$Diagram", name := "leafTotal", desc := "()I" } : MethodName)) ∈ lw_tbl := List.mem_of_getElem? (i := 861) (by decide +kernel)
set_option maxRecDepth 20000 in
theorem mw_759 : (Cond.selects "PolicyCompiler$Diagram" ({ cls := "PolicyCompiler$Diagram", name := "leafTotal", desc := "()I" } : MethodName) ({ cls := "PolicyCompiler$Diagram", name := "leafTotal", desc := "()I" } : MethodName)) ∈ lw_tbl := List.mem_of_getElem? (i := 862) (by decide +kernel)
set_option maxRecDepth 20000 in
theorem mw_760 : (Cond.code ({ cls := "PolicyCompiler$Diagram", name := "leafTotal", desc := "()I" } : MethodName) prog_2_method_3_code (1 : Nat) (Option.some FieldType.int)) ∈ lw_tbl := List.mem_of_getElem? (i := 863) rfl
set_option maxRecDepth 20000 in
theorem mw_761 : (Cond.methodLink "PolicyCompilerLaw" (88 : Nat) ({ cls := "PolicyCompiler", name := "diagramDepth", desc := "(I)I" } : MethodName)) ∈ lw_tbl := List.mem_of_getElem? (i := 864) (by decide +kernel)
set_option maxRecDepth 20000 in
theorem mw_762 : (Cond.instanceMethod ({ cls := "PolicyCompiler", name := "diagramDepth", desc := "(I)I" } : MethodName)) ∈ lw_tbl := List.mem_of_getElem? (i := 865) (by decide +kernel)
set_option maxRecDepth 20000 in
theorem mw_763 : (Cond.selects "PolicyCompiler" ({ cls := "PolicyCompiler", name := "diagramDepth", desc := "(I)I" } : MethodName) ({ cls := "PolicyCompiler", name := "diagramDepth", desc := "(I)I" } : MethodName)) ∈ lw_tbl := List.mem_of_getElem? (i := 866) (by decide +kernel)
set_option maxRecDepth 20000 in
theorem mw_764 : (Cond.code ({ cls := "PolicyCompiler", name := "diagramDepth", desc := "(I)I" } : MethodName) prog_1_method_19_code (2 : Nat) (Option.some FieldType.int)) ∈ lw_tbl := List.mem_of_getElem? (i := 867) rfl
set_option maxRecDepth 20000 in
theorem mw_765 : (Cond.methodLink "PolicyCompiler" (166 : Nat) ({ cls := "PolicyCompiler$Diagram", name := "longestWay", desc := "()I" } : MethodName)) ∈ lw_tbl := List.mem_of_getElem? (i := 868) (by decide +kernel)
set_option maxRecDepth 20000 in
theorem mw_766 : (Cond.instanceMethod ({ cls := "PolicyCompiler$Diagram", name := "longestWay", desc := "()I" } : MethodName)) ∈ lw_tbl := List.mem_of_getElem? (i := 869) (by decide +kernel)
set_option maxRecDepth 20000 in
theorem mw_767 : (Cond.selects "PolicyCompiler$Diagram" ({ cls := "PolicyCompiler$Diagram", name := "longestWay", desc := "()I" } : MethodName) ({ cls := "PolicyCompiler$Diagram", name := "longestWay", desc := "()I" } : MethodName)) ∈ lw_tbl := List.mem_of_getElem? (i := 870) (by decide +kernel)
set_option maxRecDepth 20000 in
theorem mw_768 : (Cond.code ({ cls := "PolicyCompiler$Diagram", name := "longestWay", desc := "()I" } : MethodName) prog_2_method_4_code (1 : Nat) (Option.some FieldType.int)) ∈ lw_tbl := List.mem_of_getElem? (i := 871) rfl
set_option maxRecDepth 20000 in
theorem mw_769 : (Cond.methodLink "PolicyCompilerLaw" (92 : Nat) ({ cls := "PolicyCompiler", name := "sharedNodes", desc := "(II)I" } : MethodName)) ∈ lw_tbl := List.mem_of_getElem? (i := 872) (by decide +kernel)
set_option maxRecDepth 20000 in
theorem mw_770 : (Cond.instanceMethod ({ cls := "PolicyCompiler", name := "sharedNodes", desc := "(II)I" } : MethodName)) ∈ lw_tbl := List.mem_of_getElem? (i := 873) (by decide +kernel)
set_option maxRecDepth 20000 in
theorem mw_771 : (Cond.selects "PolicyCompiler" ({ cls := "PolicyCompiler", name := "sharedNodes", desc := "(II)I" } : MethodName) ({ cls := "PolicyCompiler", name := "sharedNodes", desc := "(II)I" } : MethodName)) ∈ lw_tbl := List.mem_of_getElem? (i := 874) (by decide +kernel)
set_option maxRecDepth 20000 in
theorem mw_772 : (Cond.code ({ cls := "PolicyCompiler", name := "sharedNodes", desc := "(II)I" } : MethodName) prog_1_method_20_code (3 : Nat) (Option.some FieldType.int)) ∈ lw_tbl := List.mem_of_getElem? (i := 875) rfl
set_option maxRecDepth 20000 in
theorem mw_773 : (Cond.methodLink "PolicyCompiler" (169 : Nat) ({ cls := "PolicyCompiler$Diagram", name := "twinsIn", desc := "(LPolicyCompiler$Diagram;)I" } : MethodName)) ∈ lw_tbl := List.mem_of_getElem? (i := 876) (by decide +kernel)
set_option maxRecDepth 20000 in
theorem mw_774 : (Cond.instanceMethod ({ cls := "PolicyCompiler$Diagram", name := "twinsIn", desc := "(LPolicyCompiler$Diagram;)I" } : MethodName)) ∈ lw_tbl := List.mem_of_getElem? (i := 877) (by decide +kernel)
set_option maxRecDepth 20000 in
theorem mw_775 : (Cond.selects "PolicyCompiler$Diagram" ({ cls := "PolicyCompiler$Diagram", name := "twinsIn", desc := "(LPolicyCompiler$Diagram;)I" } : MethodName) ({ cls := "PolicyCompiler$Diagram", name := "twinsIn", desc := "(LPolicyCompiler$Diagram;)I" } : MethodName)) ∈ lw_tbl := List.mem_of_getElem? (i := 878) (by decide +kernel)
set_option maxRecDepth 20000 in
theorem mw_776 : (Cond.code ({ cls := "PolicyCompiler$Diagram", name := "twinsIn", desc := "(LPolicyCompiler$Diagram;)I" } : MethodName) prog_2_method_19_code (4 : Nat) (Option.some FieldType.int)) ∈ lw_tbl := List.mem_of_getElem? (i := 879) rfl
set_option maxRecDepth 20000 in
theorem mw_777 : (Cond.methodLink "PolicyCompiler$Diagram" (99 : Nat) ({ cls := "PolicyCompiler$Diagram", name := "twinOf", desc := "(ILPolicyCompiler$Diagram;)I" } : MethodName)) ∈ lw_tbl := List.mem_of_getElem? (i := 880) (by decide +kernel)
set_option maxRecDepth 20000 in
theorem mw_779 : (Cond.instanceMethod ({ cls := "PolicyCompiler$Diagram", name := "twinOf", desc := "(ILPolicyCompiler$Diagram;)I" } : MethodName)) ∈ lw_tbl := List.mem_of_getElem? (i := 882) (by decide +kernel)
set_option maxRecDepth 20000 in
theorem mw_780 : (Cond.code ({ cls := "PolicyCompiler$Diagram", name := "twinOf", desc := "(ILPolicyCompiler$Diagram;)I" } : MethodName) prog_2_method_20_code (3 : Nat) (Option.some FieldType.int)) ∈ lw_tbl := List.mem_of_getElem? (i := 883) rfl
set_option maxRecDepth 20000 in
theorem mw_781 : (Cond.methodLink "PolicyCompiler$Diagram" (103 : Nat) ({ cls := "PolicyCompiler$Diagram", name := "fieldOf", desc := "(I)I" } : MethodName)) ∈ lw_tbl := List.mem_of_getElem? (i := 884) (by decide +kernel)
set_option maxRecDepth 20000 in
theorem mw_782 : (Cond.methodLink "PolicyCompiler$Diagram" (106 : Nat) ({ cls := "PolicyCompiler$Diagram", name := "twinOfChild", desc := "(II)I" } : MethodName)) ∈ lw_tbl := List.mem_of_getElem? (i := 885) (by decide +kernel)
set_option maxRecDepth 20000 in
theorem mw_784 : (Cond.instanceMethod ({ cls := "PolicyCompiler$Diagram", name := "twinOfChild", desc := "(II)I" } : MethodName)) ∈ lw_tbl := List.mem_of_getElem? (i := 887) (by decide +kernel)
set_option maxRecDepth 20000 in
theorem mw_785 : (Cond.code ({ cls := "PolicyCompiler$Diagram", name := "twinOfChild", desc := "(II)I" } : MethodName) prog_2_method_21_code (4 : Nat) (Option.some FieldType.int)) ∈ lw_tbl := List.mem_of_getElem? (i := 888) rfl
set_option maxRecDepth 20000 in
theorem mw_786 : (Cond.methodLink "PolicyCompilerLaw" (96 : Nat) ({ cls := "PolicyCompiler", name := "rows", desc := "(I)I" } : MethodName)) ∈ lw_tbl := List.mem_of_getElem? (i := 889) (by decide +kernel)
set_option maxRecDepth 20000 in
theorem mw_787 : (Cond.instanceMethod ({ cls := "PolicyCompiler", name := "rows", desc := "(I)I" } : MethodName)) ∈ lw_tbl := List.mem_of_getElem? (i := 890) (by decide +kernel)
set_option maxRecDepth 20000 in
theorem mw_788 : (Cond.selects "PolicyCompiler" ({ cls := "PolicyCompiler", name := "rows", desc := "(I)I" } : MethodName) ({ cls := "PolicyCompiler", name := "rows", desc := "(I)I" } : MethodName)) ∈ lw_tbl := List.mem_of_getElem? (i := 891) (by decide +kernel)
set_option maxRecDepth 20000 in
theorem mw_789 : (Cond.code ({ cls := "PolicyCompiler", name := "rows", desc := "(I)I" } : MethodName) prog_1_method_21_code (2 : Nat) (Option.some FieldType.int)) ∈ lw_tbl := List.mem_of_getElem? (i := 892) rfl
set_option maxRecDepth 20000 in
theorem mw_790 : (Cond.methodLink "PolicyCompiler" (173 : Nat) ({ cls := "PolicyCompiler$Slot", name := "table", desc := "()LPolicyCompiler$Table;" } : MethodName)) ∈ lw_tbl := List.mem_of_getElem? (i := 893) (by decide +kernel)
set_option maxRecDepth 20000 in
theorem mw_791 : (Cond.instanceMethod ({ cls := "PolicyCompiler$Slot", name := "table", desc := "()LPolicyCompiler$Table;" } : MethodName)) ∈ lw_tbl := List.mem_of_getElem? (i := 894) (by decide +kernel)
set_option maxRecDepth 20000 in
theorem mw_792 : (Cond.selects "PolicyCompiler$Slot" ({ cls := "PolicyCompiler$Slot", name := "table", desc := "()LPolicyCompiler$Table;" } : MethodName) ({ cls := "PolicyCompiler$Slot", name := "table", desc := "()LPolicyCompiler$Table;" } : MethodName)) ∈ lw_tbl := List.mem_of_getElem? (i := 895) (by decide +kernel)
set_option maxRecDepth 20000 in
theorem mw_793 : (Cond.code ({ cls := "PolicyCompiler$Slot", name := "table", desc := "()LPolicyCompiler$Table;" } : MethodName) prog_9_method_8_code (1 : Nat) (Option.some (FieldType.object "PolicyCompiler$Table"))) ∈ lw_tbl := List.mem_of_getElem? (i := 896) rfl
set_option maxRecDepth 20000 in
theorem mw_794 : (Cond.methodLink "PolicyCompiler" (177 : Nat) ({ cls := "PolicyCompiler$Table", name := "rowTotal", desc := "()I" } : MethodName)) ∈ lw_tbl := List.mem_of_getElem? (i := 897) (by decide +kernel)
set_option maxRecDepth 20000 in
theorem mw_795 : (Cond.instanceMethod ({ cls := "PolicyCompiler$Table", name := "rowTotal", desc := "()I" } : MethodName)) ∈ lw_tbl := List.mem_of_getElem? (i := 898) (by decide +kernel)
set_option maxRecDepth 20000 in
theorem mw_796 : (Cond.selects "PolicyCompiler$Table" ({ cls := "PolicyCompiler$Table", name := "rowTotal", desc := "()I" } : MethodName) ({ cls := "PolicyCompiler$Table", name := "rowTotal", desc := "()I" } : MethodName)) ∈ lw_tbl := List.mem_of_getElem? (i := 899) (by decide +kernel)
set_option maxRecDepth 20000 in
theorem mw_797 : (Cond.code ({ cls := "PolicyCompiler$Table", name := "rowTotal", desc := "()I" } : MethodName) prog_10_method_2_code (1 : Nat) (Option.some FieldType.int)) ∈ lw_tbl := List.mem_of_getElem? (i := 900) rfl
set_option maxRecDepth 20000 in
theorem mw_798 : (Cond.methodLink "PolicyCompilerLaw" (100 : Nat) ({ cls := "PolicyCompiler", name := "match", desc := "(III)I" } : MethodName)) ∈ lw_tbl := List.mem_of_getElem? (i := 901) (by decide +kernel)
set_option maxRecDepth 20000 in
theorem mw_799 : (Cond.instanceMethod ({ cls := "PolicyCompiler", name := "match", desc := "(III)I" } : MethodName)) ∈ lw_tbl := List.mem_of_getElem? (i := 902) (by decide +kernel)
set_option maxRecDepth 20000 in
theorem mw_800 : (Cond.selects "PolicyCompiler" ({ cls := "PolicyCompiler", name := "match", desc := "(III)I" } : MethodName) ({ cls := "PolicyCompiler", name := "match", desc := "(III)I" } : MethodName)) ∈ lw_tbl := List.mem_of_getElem? (i := 903) (by decide +kernel)
set_option maxRecDepth 20000 in
theorem mw_801 : (Cond.code ({ cls := "PolicyCompiler", name := "match", desc := "(III)I" } : MethodName) prog_1_method_22_code (5 : Nat) (Option.some FieldType.int)) ∈ lw_tbl := List.mem_of_getElem? (i := 904) rfl
set_option maxRecDepth 20000 in
theorem mw_802 : (Cond.methodLink "PolicyCompiler" (182 : Nat) ({ cls := "PolicyCompiler$Table", name := "hasRow", desc := "(I)Z" } : MethodName)) ∈ lw_tbl := List.mem_of_getElem? (i := 905) (by decide +kernel)
set_option maxRecDepth 20000 in
theorem mw_803 : (Cond.instanceMethod ({ cls := "PolicyCompiler$Table", name := "hasRow", desc := "(I)Z" } : MethodName)) ∈ lw_tbl := List.mem_of_getElem? (i := 906) (by decide +kernel)
set_option maxRecDepth 20000 in
theorem mw_804 : (Cond.selects "PolicyCompiler$Table" ({ cls := "PolicyCompiler$Table", name := "hasRow", desc := "(I)Z" } : MethodName) ({ cls := "PolicyCompiler$Table", name := "hasRow", desc := "(I)Z" } : MethodName)) ∈ lw_tbl := List.mem_of_getElem? (i := 907) (by decide +kernel)
set_option maxRecDepth 20000 in
theorem mw_805 : (Cond.code ({ cls := "PolicyCompiler$Table", name := "hasRow", desc := "(I)Z" } : MethodName) prog_10_method_3_code (2 : Nat) (Option.some FieldType.boolean)) ∈ lw_tbl := List.mem_of_getElem? (i := 908) rfl
set_option maxRecDepth 20000 in
theorem mw_806 : (Cond.methodLink "PolicyCompiler" (185 : Nat) ({ cls := "PolicyCompiler$Table", name := "demandsOf", desc := "(I)I" } : MethodName)) ∈ lw_tbl := List.mem_of_getElem? (i := 909) (by decide +kernel)
set_option maxRecDepth 20000 in
theorem mw_807 : (Cond.instanceMethod ({ cls := "PolicyCompiler$Table", name := "demandsOf", desc := "(I)I" } : MethodName)) ∈ lw_tbl := List.mem_of_getElem? (i := 910) (by decide +kernel)
set_option maxRecDepth 20000 in
theorem mw_808 : (Cond.selects "PolicyCompiler$Table" ({ cls := "PolicyCompiler$Table", name := "demandsOf", desc := "(I)I" } : MethodName) ({ cls := "PolicyCompiler$Table", name := "demandsOf", desc := "(I)I" } : MethodName)) ∈ lw_tbl := List.mem_of_getElem? (i := 911) (by decide +kernel)
set_option maxRecDepth 20000 in
theorem mw_809 : (Cond.code ({ cls := "PolicyCompiler$Table", name := "demandsOf", desc := "(I)I" } : MethodName) prog_10_method_4_code (2 : Nat) (Option.some FieldType.int)) ∈ lw_tbl := List.mem_of_getElem? (i := 912) rfl
set_option maxRecDepth 20000 in
theorem mw_810 : (Cond.methodLink "PolicyCompiler" (188 : Nat) ({ cls := "PolicyCompiler", name := "entryOf", desc := "(II)I" } : MethodName)) ∈ lw_tbl := List.mem_of_getElem? (i := 913) (by decide +kernel)
set_option maxRecDepth 20000 in
theorem mw_811 : (Cond.static ({ cls := "PolicyCompiler", name := "entryOf", desc := "(II)I" } : MethodName)) ∈ lw_tbl := List.mem_of_getElem? (i := 914) (by decide +kernel)
set_option maxRecDepth 20000 in
theorem mw_812 : (Cond.code ({ cls := "PolicyCompiler", name := "entryOf", desc := "(II)I" } : MethodName) prog_1_method_45_code (3 : Nat) (Option.some FieldType.int)) ∈ lw_tbl := List.mem_of_getElem? (i := 915) rfl
set_option maxRecDepth 20000 in
theorem mw_813 : (Cond.methodLink "PolicyCompilerLaw" (104 : Nat) ({ cls := "PolicyCompiler", name := "action", desc := "(III)I" } : MethodName)) ∈ lw_tbl := List.mem_of_getElem? (i := 916) (by decide +kernel)
set_option maxRecDepth 20000 in
theorem mw_814 : (Cond.instanceMethod ({ cls := "PolicyCompiler", name := "action", desc := "(III)I" } : MethodName)) ∈ lw_tbl := List.mem_of_getElem? (i := 917) (by decide +kernel)
set_option maxRecDepth 20000 in
theorem mw_815 : (Cond.selects "PolicyCompiler" ({ cls := "PolicyCompiler", name := "action", desc := "(III)I" } : MethodName) ({ cls := "PolicyCompiler", name := "action", desc := "(III)I" } : MethodName)) ∈ lw_tbl := List.mem_of_getElem? (i := 918) (by decide +kernel)
set_option maxRecDepth 20000 in
theorem mw_816 : (Cond.code ({ cls := "PolicyCompiler", name := "action", desc := "(III)I" } : MethodName) prog_1_method_23_code (7 : Nat) (Option.some FieldType.int)) ∈ lw_tbl := List.mem_of_getElem? (i := 919) rfl
set_option maxRecDepth 20000 in
theorem mw_817 : (Cond.methodLink "PolicyCompiler" (192 : Nat) ({ cls := "PolicyCompiler$Table", name := "leafOf", desc := "(I)I" } : MethodName)) ∈ lw_tbl := List.mem_of_getElem? (i := 920) (by decide +kernel)
set_option maxRecDepth 20000 in
theorem mw_818 : (Cond.instanceMethod ({ cls := "PolicyCompiler$Table", name := "leafOf", desc := "(I)I" } : MethodName)) ∈ lw_tbl := List.mem_of_getElem? (i := 921) (by decide +kernel)
set_option maxRecDepth 20000 in
theorem mw_819 : (Cond.selects "PolicyCompiler$Table" ({ cls := "PolicyCompiler$Table", name := "leafOf", desc := "(I)I" } : MethodName) ({ cls := "PolicyCompiler$Table", name := "leafOf", desc := "(I)I" } : MethodName)) ∈ lw_tbl := List.mem_of_getElem? (i := 922) (by decide +kernel)
set_option maxRecDepth 20000 in
theorem mw_820 : (Cond.code ({ cls := "PolicyCompiler$Table", name := "leafOf", desc := "(I)I" } : MethodName) prog_10_method_5_code (2 : Nat) (Option.some FieldType.int)) ∈ lw_tbl := List.mem_of_getElem? (i := 923) rfl
set_option maxRecDepth 20000 in
theorem mw_821 : (Cond.methodLink "PolicyCompiler" (195 : Nat) ({ cls := "PolicyCompiler$Diagram", name := "actionTotal", desc := "(I)I" } : MethodName)) ∈ lw_tbl := List.mem_of_getElem? (i := 924) (by decide +kernel)
set_option maxRecDepth 20000 in
theorem mw_822 : (Cond.methodLink "PolicyCompiler" (198 : Nat) ({ cls := "PolicyCompiler$Diagram", name := "actionAt", desc := "(II)I" } : MethodName)) ∈ lw_tbl := List.mem_of_getElem? (i := 925) (by decide +kernel)
set_option maxRecDepth 20000 in
theorem mw_823 : (Cond.instanceMethod ({ cls := "PolicyCompiler$Diagram", name := "actionAt", desc := "(II)I" } : MethodName)) ∈ lw_tbl := List.mem_of_getElem? (i := 926) (by decide +kernel)
set_option maxRecDepth 20000 in
theorem mw_824 : (Cond.selects "PolicyCompiler$Diagram" ({ cls := "PolicyCompiler$Diagram", name := "actionAt", desc := "(II)I" } : MethodName) ({ cls := "PolicyCompiler$Diagram", name := "actionAt", desc := "(II)I" } : MethodName)) ∈ lw_tbl := List.mem_of_getElem? (i := 927) (by decide +kernel)
set_option maxRecDepth 20000 in
theorem mw_825 : (Cond.code ({ cls := "PolicyCompiler$Diagram", name := "actionAt", desc := "(II)I" } : MethodName) prog_2_method_24_code (5 : Nat) (Option.some FieldType.int)) ∈ lw_tbl := List.mem_of_getElem? (i := 928) rfl
set_option maxRecDepth 20000 in
theorem mw_826 : (Cond.methodLink "PolicyCompiler$Diagram" (113 : Nat) ({ cls := "PolicyCompiler$Diagram", name := "hasAction", desc := "(II)Z" } : MethodName)) ∈ lw_tbl := List.mem_of_getElem? (i := 929) (by decide +kernel)
set_option maxRecDepth 20000 in
theorem mw_827 : (Cond.instanceMethod ({ cls := "PolicyCompiler$Diagram", name := "hasAction", desc := "(II)Z" } : MethodName)) ∈ lw_tbl := List.mem_of_getElem? (i := 930) (by decide +kernel)
set_option maxRecDepth 20000 in
theorem mw_828 : (Cond.selects "PolicyCompiler$Diagram" ({ cls := "PolicyCompiler$Diagram", name := "hasAction", desc := "(II)Z" } : MethodName) ({ cls := "PolicyCompiler$Diagram", name := "hasAction", desc := "(II)Z" } : MethodName)) ∈ lw_tbl := List.mem_of_getElem? (i := 931) (by decide +kernel)
set_option maxRecDepth 20000 in
theorem mw_829 : (Cond.code ({ cls := "PolicyCompiler$Diagram", name := "hasAction", desc := "(II)Z" } : MethodName) prog_2_method_22_code (3 : Nat) (Option.some FieldType.boolean)) ∈ lw_tbl := List.mem_of_getElem? (i := 932) rfl
set_option maxRecDepth 20000 in
theorem mw_830 : (Cond.methodLinkNest "PolicyCompiler$Diagram" (109 : Nat) ({ cls := "PolicyCompiler", name := "holds", desc := "(JI)Z" } : MethodName) "PolicyCompiler") ∈ lw_tbl := List.mem_of_getElem? (i := 933) (by decide +kernel)
set_option maxRecDepth 20000 in
theorem mw_831 : (Cond.methodLink "PolicyCompilerLaw" (108 : Nat) ({ cls := "PolicyCompiler", name := "hit", desc := "(II)I" } : MethodName)) ∈ lw_tbl := List.mem_of_getElem? (i := 934) (by decide +kernel)
set_option maxRecDepth 20000 in
theorem mw_832 : (Cond.instanceMethod ({ cls := "PolicyCompiler", name := "hit", desc := "(II)I" } : MethodName)) ∈ lw_tbl := List.mem_of_getElem? (i := 935) (by decide +kernel)
set_option maxRecDepth 20000 in
theorem mw_833 : (Cond.selects "PolicyCompiler" ({ cls := "PolicyCompiler", name := "hit", desc := "(II)I" } : MethodName) ({ cls := "PolicyCompiler", name := "hit", desc := "(II)I" } : MethodName)) ∈ lw_tbl := List.mem_of_getElem? (i := 936) (by decide +kernel)
set_option maxRecDepth 20000 in
theorem mw_834 : (Cond.code ({ cls := "PolicyCompiler", name := "hit", desc := "(II)I" } : MethodName) prog_1_method_24_code (3 : Nat) (Option.some FieldType.int)) ∈ lw_tbl := List.mem_of_getElem? (i := 937) rfl
set_option maxRecDepth 20000 in
theorem mw_835 : (Cond.methodLink "PolicyCompiler" (201 : Nat) ({ cls := "PolicyCompiler$Table", name := "firstRowFor", desc := "(I)I" } : MethodName)) ∈ lw_tbl := List.mem_of_getElem? (i := 938) (by decide +kernel)
set_option maxRecDepth 20000 in
theorem mw_836 : (Cond.instanceMethod ({ cls := "PolicyCompiler$Table", name := "firstRowFor", desc := "(I)I" } : MethodName)) ∈ lw_tbl := List.mem_of_getElem? (i := 939) (by decide +kernel)
set_option maxRecDepth 20000 in
theorem mw_837 : (Cond.selects "PolicyCompiler$Table" ({ cls := "PolicyCompiler$Table", name := "firstRowFor", desc := "(I)I" } : MethodName) ({ cls := "PolicyCompiler$Table", name := "firstRowFor", desc := "(I)I" } : MethodName)) ∈ lw_tbl := List.mem_of_getElem? (i := 940) (by decide +kernel)
set_option maxRecDepth 20000 in
theorem mw_838 : (Cond.code ({ cls := "PolicyCompiler$Table", name := "firstRowFor", desc := "(I)I" } : MethodName) prog_10_method_9_code (3 : Nat) (Option.some FieldType.int)) ∈ lw_tbl := List.mem_of_getElem? (i := 941) rfl
set_option maxRecDepth 20000 in
theorem mw_839 : (Cond.methodLink "PolicyCompiler$Table" (57 : Nat) ({ cls := "PolicyCompiler$Table", name := "meets", desc := "(II)Z" } : MethodName)) ∈ lw_tbl := List.mem_of_getElem? (i := 942) (by decide +kernel)
set_option maxRecDepth 20000 in
theorem mw_840 : (Cond.static ({ cls := "PolicyCompiler$Table", name := "meets", desc := "(II)Z" } : MethodName)) ∈ lw_tbl := List.mem_of_getElem? (i := 943) (by decide +kernel)
set_option maxRecDepth 20000 in
theorem mw_841 : (Cond.code ({ cls := "PolicyCompiler$Table", name := "meets", desc := "(II)Z" } : MethodName) prog_10_method_10_code (4 : Nat) (Option.some FieldType.boolean)) ∈ lw_tbl := List.mem_of_getElem? (i := 944) rfl
set_option maxRecDepth 20000 in
theorem mw_842 : (Cond.methodLinkNest "PolicyCompiler$Table" (61 : Nat) ({ cls := "PolicyCompiler", name := "entryOf", desc := "(II)I" } : MethodName) "PolicyCompiler") ∈ lw_tbl := List.mem_of_getElem? (i := 945) (by decide +kernel)
set_option maxRecDepth 20000 in
theorem mw_843 : (Cond.methodLinkNest "PolicyCompiler$Table" (64 : Nat) ({ cls := "PolicyCompiler", name := "valueOf", desc := "(II)I" } : MethodName) "PolicyCompiler") ∈ lw_tbl := List.mem_of_getElem? (i := 946) (by decide +kernel)
set_option maxRecDepth 20000 in
theorem mw_844 : (Cond.methodLink "PolicyCompilerLaw" (112 : Nat) ({ cls := "PolicyCompiler", name := "hits", desc := "(II)I" } : MethodName)) ∈ lw_tbl := List.mem_of_getElem? (i := 947) (by decide +kernel)
set_option maxRecDepth 20000 in
theorem mw_845 : (Cond.instanceMethod ({ cls := "PolicyCompiler", name := "hits", desc := "(II)I" } : MethodName)) ∈ lw_tbl := List.mem_of_getElem? (i := 948) (by decide +kernel)
set_option maxRecDepth 20000 in
theorem mw_846 : (Cond.selects "PolicyCompiler" ({ cls := "PolicyCompiler", name := "hits", desc := "(II)I" } : MethodName) ({ cls := "PolicyCompiler", name := "hits", desc := "(II)I" } : MethodName)) ∈ lw_tbl := List.mem_of_getElem? (i := 949) (by decide +kernel)
set_option maxRecDepth 20000 in
theorem mw_847 : (Cond.code ({ cls := "PolicyCompiler", name := "hits", desc := "(II)I" } : MethodName) prog_1_method_25_code (6 : Nat) (Option.some FieldType.int)) ∈ lw_tbl := List.mem_of_getElem? (i := 950) rfl
set_option maxRecDepth 20000 in
theorem mw_848 : (Cond.methodLink "PolicyCompilerLaw" (116 : Nat) ({ cls := "PolicyCompiler", name := "undo", desc := "()I" } : MethodName)) ∈ lw_tbl := List.mem_of_getElem? (i := 951) (by decide +kernel)
set_option maxRecDepth 20000 in
theorem mw_849 : (Cond.instanceMethod ({ cls := "PolicyCompiler", name := "undo", desc := "()I" } : MethodName)) ∈ lw_tbl := List.mem_of_getElem? (i := 952) (by decide +kernel)
set_option maxRecDepth 20000 in
theorem mw_850 : (Cond.selects "PolicyCompiler" ({ cls := "PolicyCompiler", name := "undo", desc := "()I" } : MethodName) ({ cls := "PolicyCompiler", name := "undo", desc := "()I" } : MethodName)) ∈ lw_tbl := List.mem_of_getElem? (i := 953) (by decide +kernel)
set_option maxRecDepth 20000 in
theorem mw_851 : (Cond.code ({ cls := "PolicyCompiler", name := "undo", desc := "()I" } : MethodName) prog_1_method_26_code (2 : Nat) (Option.some FieldType.int)) ∈ lw_tbl := List.mem_of_getElem? (i := 954) rfl
set_option maxRecDepth 20000 in
theorem mw_852 : (Cond.methodLink "PolicyCompiler" (204 : Nat) ({ cls := "PolicyCompiler$History", name := "newestSlot", desc := "()I" } : MethodName)) ∈ lw_tbl := List.mem_of_getElem? (i := 955) (by decide +kernel)
set_option maxRecDepth 20000 in
theorem mw_853 : (Cond.instanceMethod ({ cls := "PolicyCompiler$History", name := "newestSlot", desc := "()I" } : MethodName)) ∈ lw_tbl := List.mem_of_getElem? (i := 956) (by decide +kernel)
set_option maxRecDepth 20000 in
theorem mw_854 : (Cond.selects "PolicyCompiler$History" ({ cls := "PolicyCompiler$History", name := "newestSlot", desc := "()I" } : MethodName) ({ cls := "PolicyCompiler$History", name := "newestSlot", desc := "()I" } : MethodName)) ∈ lw_tbl := List.mem_of_getElem? (i := 957) (by decide +kernel)
set_option maxRecDepth 20000 in
theorem mw_855 : (Cond.code ({ cls := "PolicyCompiler$History", name := "newestSlot", desc := "()I" } : MethodName) prog_4_method_5_code (1 : Nat) (Option.some FieldType.int)) ∈ lw_tbl := List.mem_of_getElem? (i := 958) rfl
set_option maxRecDepth 20000 in
theorem mw_856 : (Cond.methodLink "PolicyCompiler" (207 : Nat) ({ cls := "PolicyCompiler$History", name := "newestPolicy", desc := "()LPolicyCompiler$Policy;" } : MethodName)) ∈ lw_tbl := List.mem_of_getElem? (i := 959) (by decide +kernel)
set_option maxRecDepth 20000 in
theorem mw_857 : (Cond.instanceMethod ({ cls := "PolicyCompiler$History", name := "newestPolicy", desc := "()LPolicyCompiler$Policy;" } : MethodName)) ∈ lw_tbl := List.mem_of_getElem? (i := 960) (by decide +kernel)
set_option maxRecDepth 20000 in
theorem mw_858 : (Cond.selects "PolicyCompiler$History" ({ cls := "PolicyCompiler$History", name := "newestPolicy", desc := "()LPolicyCompiler$Policy;" } : MethodName) ({ cls := "PolicyCompiler$History", name := "newestPolicy", desc := "()LPolicyCompiler$Policy;" } : MethodName)) ∈ lw_tbl := List.mem_of_getElem? (i := 961) (by decide +kernel)
set_option maxRecDepth 20000 in
theorem mw_859 : (Cond.code ({ cls := "PolicyCompiler$History", name := "newestPolicy", desc := "()LPolicyCompiler$Policy;" } : MethodName) prog_4_method_6_code (1 : Nat) (Option.some (FieldType.object "PolicyCompiler$Policy"))) ∈ lw_tbl := List.mem_of_getElem? (i := 962) rfl
set_option maxRecDepth 20000 in
theorem mw_860 : (Cond.methodLink "PolicyCompiler" (213 : Nat) ({ cls := "PolicyCompiler$History", name := "dropNewest", desc := "()V" } : MethodName)) ∈ lw_tbl := List.mem_of_getElem? (i := 963) (by decide +kernel)
set_option maxRecDepth 20000 in
theorem mw_861 : (Cond.instanceMethod ({ cls := "PolicyCompiler$History", name := "dropNewest", desc := "()V" } : MethodName)) ∈ lw_tbl := List.mem_of_getElem? (i := 964) (by decide +kernel)
set_option maxRecDepth 20000 in
theorem mw_862 : (Cond.selects "PolicyCompiler$History" ({ cls := "PolicyCompiler$History", name := "dropNewest", desc := "()V" } : MethodName) ({ cls := "PolicyCompiler$History", name := "dropNewest", desc := "()V" } : MethodName)) ∈ lw_tbl := List.mem_of_getElem? (i := 965) (by decide +kernel)
set_option maxRecDepth 20000 in
theorem mw_863 : (Cond.code ({ cls := "PolicyCompiler$History", name := "dropNewest", desc := "()V" } : MethodName) prog_4_method_7_code (1 : Nat) (Option.none : Option ClassFile.FieldType)) ∈ lw_tbl := List.mem_of_getElem? (i := 966) rfl
set_option maxRecDepth 20000 in
theorem mw_864 : (Cond.methodLink "PolicyCompiler" (216 : Nat) ({ cls := "PolicyCompiler$History", name := "savedCount", desc := "()I" } : MethodName)) ∈ lw_tbl := List.mem_of_getElem? (i := 967) (by decide +kernel)
set_option maxRecDepth 20000 in
theorem mw_865 : (Cond.instanceMethod ({ cls := "PolicyCompiler$History", name := "savedCount", desc := "()I" } : MethodName)) ∈ lw_tbl := List.mem_of_getElem? (i := 968) (by decide +kernel)
set_option maxRecDepth 20000 in
theorem mw_866 : (Cond.selects "PolicyCompiler$History" ({ cls := "PolicyCompiler$History", name := "savedCount", desc := "()I" } : MethodName) ({ cls := "PolicyCompiler$History", name := "savedCount", desc := "()I" } : MethodName)) ∈ lw_tbl := List.mem_of_getElem? (i := 969) (by decide +kernel)
set_option maxRecDepth 20000 in
theorem mw_867 : (Cond.code ({ cls := "PolicyCompiler$History", name := "savedCount", desc := "()I" } : MethodName) prog_4_method_2_code (1 : Nat) (Option.some FieldType.int)) ∈ lw_tbl := List.mem_of_getElem? (i := 970) rfl
set_option maxRecDepth 20000 in
theorem mw_868 : (Cond.methodLink "PolicyCompilerLaw" (120 : Nat) ({ cls := "PolicyCompiler", name := "errorCount", desc := "(I)I" } : MethodName)) ∈ lw_tbl := List.mem_of_getElem? (i := 971) (by decide +kernel)
set_option maxRecDepth 20000 in
theorem mw_869 : (Cond.instanceMethod ({ cls := "PolicyCompiler", name := "errorCount", desc := "(I)I" } : MethodName)) ∈ lw_tbl := List.mem_of_getElem? (i := 972) (by decide +kernel)
set_option maxRecDepth 20000 in
theorem mw_870 : (Cond.selects "PolicyCompiler" ({ cls := "PolicyCompiler", name := "errorCount", desc := "(I)I" } : MethodName) ({ cls := "PolicyCompiler", name := "errorCount", desc := "(I)I" } : MethodName)) ∈ lw_tbl := List.mem_of_getElem? (i := 973) (by decide +kernel)
set_option maxRecDepth 20000 in
theorem mw_871 : (Cond.code ({ cls := "PolicyCompiler", name := "errorCount", desc := "(I)I" } : MethodName) prog_1_method_27_code (2 : Nat) (Option.some FieldType.int)) ∈ lw_tbl := List.mem_of_getElem? (i := 974) rfl
set_option maxRecDepth 20000 in
theorem mw_872 : (Cond.methodLink "PolicyCompilerLaw" (124 : Nat) ({ cls := "PolicyCompiler", name := "digest", desc := "()J" } : MethodName)) ∈ lw_tbl := List.mem_of_getElem? (i := 975) (by decide +kernel)
set_option maxRecDepth 20000 in
theorem mw_873 : (Cond.instanceMethod ({ cls := "PolicyCompiler", name := "digest", desc := "()J" } : MethodName)) ∈ lw_tbl := List.mem_of_getElem? (i := 976) (by decide +kernel)
set_option maxRecDepth 20000 in
theorem mw_874 : (Cond.selects "PolicyCompiler" ({ cls := "PolicyCompiler", name := "digest", desc := "()J" } : MethodName) ({ cls := "PolicyCompiler", name := "digest", desc := "()J" } : MethodName)) ∈ lw_tbl := List.mem_of_getElem? (i := 977) (by decide +kernel)
set_option maxRecDepth 20000 in
theorem mw_875 : (Cond.code ({ cls := "PolicyCompiler", name := "digest", desc := "()J" } : MethodName) prog_1_method_28_code (5 : Nat) (Option.some FieldType.long)) ∈ lw_tbl := List.mem_of_getElem? (i := 978) rfl
set_option maxRecDepth 20000 in
theorem mw_876 : (Cond.constantLong "PolicyCompiler" (219 : Nat) (2729 : Int64)) ∈ lw_tbl := List.mem_of_getElem? (i := 979) (by decide +kernel)
set_option maxRecDepth 20000 in
theorem mw_877 : (Cond.methodLink "PolicyCompiler" (221 : Nat) ({ cls := "PolicyCompiler", name := "mixed", desc := "(JJ)J" } : MethodName)) ∈ lw_tbl := List.mem_of_getElem? (i := 980) (by decide +kernel)
set_option maxRecDepth 20000 in
theorem mw_878 : (Cond.static ({ cls := "PolicyCompiler", name := "mixed", desc := "(JJ)J" } : MethodName)) ∈ lw_tbl := List.mem_of_getElem? (i := 981) (by decide +kernel)
set_option maxRecDepth 20000 in
theorem mw_879 : (Cond.code ({ cls := "PolicyCompiler", name := "mixed", desc := "(JJ)J" } : MethodName) prog_1_method_29_code (4 : Nat) (Option.some FieldType.long)) ∈ lw_tbl := List.mem_of_getElem? (i := 982) rfl
set_option maxRecDepth 20000 in
theorem mw_880 : (Cond.constantLong "PolicyCompiler" (229 : Nat) (31 : Int64)) ∈ lw_tbl := List.mem_of_getElem? (i := 983) (by decide +kernel)
set_option maxRecDepth 20000 in
theorem mw_881 : (Cond.methodLink "PolicyCompiler" (225 : Nat) ({ cls := "PolicyCompiler", name := "mixedSlot", desc := "(JLPolicyCompiler$Slot;)J" } : MethodName)) ∈ lw_tbl := List.mem_of_getElem? (i := 984) (by decide +kernel)
set_option maxRecDepth 20000 in
theorem mw_882 : (Cond.static ({ cls := "PolicyCompiler", name := "mixedSlot", desc := "(JLPolicyCompiler$Slot;)J" } : MethodName)) ∈ lw_tbl := List.mem_of_getElem? (i := 985) (by decide +kernel)
set_option maxRecDepth 20000 in
theorem mw_883 : (Cond.code ({ cls := "PolicyCompiler", name := "mixedSlot", desc := "(JLPolicyCompiler$Slot;)J" } : MethodName) prog_1_method_30_code (9 : Nat) (Option.some FieldType.long)) ∈ lw_tbl := List.mem_of_getElem? (i := 986) rfl
set_option maxRecDepth 20000 in
theorem mw_884 : (Cond.methodLink "PolicyCompiler" (231 : Nat) ({ cls := "PolicyCompiler", name := "mixedTable", desc := "(JLPolicyCompiler$Table;LPolicyCompiler$Diagram;)J" } : MethodName)) ∈ lw_tbl := List.mem_of_getElem? (i := 987) (by decide +kernel)
set_option maxRecDepth 20000 in
theorem mw_885 : (Cond.static ({ cls := "PolicyCompiler", name := "mixedTable", desc := "(JLPolicyCompiler$Table;LPolicyCompiler$Diagram;)J" } : MethodName)) ∈ lw_tbl := List.mem_of_getElem? (i := 988) (by decide +kernel)
set_option maxRecDepth 20000 in
theorem mw_886 : (Cond.code ({ cls := "PolicyCompiler", name := "mixedTable", desc := "(JLPolicyCompiler$Table;LPolicyCompiler$Diagram;)J" } : MethodName) prog_1_method_31_code (10 : Nat) (Option.some FieldType.long)) ∈ lw_tbl := List.mem_of_getElem? (i := 989) rfl
set_option maxRecDepth 20000 in
theorem mw_887 : (Cond.methodLink "PolicyCompiler" (235 : Nat) ({ cls := "PolicyCompiler$Diagram", name := "hasAction", desc := "(II)Z" } : MethodName)) ∈ lw_tbl := List.mem_of_getElem? (i := 990) (by decide +kernel)
set_option maxRecDepth 20000 in
theorem mw_888 : (Cond.classLink "PolicyCompilerLaw" (10 : Nat) "PolicyCompilerModel") ∈ lw_tbl := List.mem_of_getElem? (i := 991) (by decide +kernel)
set_option maxRecDepth 20000 in
theorem mw_889 : (Cond.instantiable "PolicyCompilerModel" (43 : Nat)) ∈ lw_tbl := List.mem_of_getElem? (i := 992) (by decide +kernel)
set_option maxRecDepth 20000 in
theorem mw_890 : (Cond.methodLink "PolicyCompilerLaw" (12 : Nat) ({ cls := "PolicyCompilerModel", name := "<init>", desc := "()V" } : MethodName)) ∈ lw_tbl := List.mem_of_getElem? (i := 993) (by decide +kernel)
set_option maxRecDepth 20000 in
theorem mw_891 : (Cond.instanceMethod ({ cls := "PolicyCompilerModel", name := "<init>", desc := "()V" } : MethodName)) ∈ lw_tbl := List.mem_of_getElem? (i := 994) (by decide +kernel)
set_option maxRecDepth 20000 in
theorem mw_892 : (Cond.code ({ cls := "PolicyCompilerModel", name := "<init>", desc := "()V" } : MethodName) prog_12_method_1_code (2 : Nat) (Option.none : Option ClassFile.FieldType)) ∈ lw_tbl := List.mem_of_getElem? (i := 995) rfl
set_option maxRecDepth 20000 in
theorem mw_893 : (Cond.methodLink "PolicyCompilerModel" (1 : Nat) ({ cls := "java/lang/Object", name := "<init>", desc := "()V" } : MethodName)) ∈ lw_tbl := List.mem_of_getElem? (i := 996) (by decide +kernel)
set_option maxRecDepth 20000 in
theorem mw_894 : (Cond.fieldLink "PolicyCompilerModel" (7 : Nat) "PolicyCompilerModel" "now" "[I") ∈ lw_tbl := List.mem_of_getElem? (i := 997) (by decide +kernel)
set_option maxRecDepth 20000 in
theorem mw_895 : (Cond.fieldLink "PolicyCompilerModel" (13 : Nat) "PolicyCompilerModel" "past" "[I") ∈ lw_tbl := List.mem_of_getElem? (i := 998) (by decide +kernel)
set_option maxRecDepth 20000 in
theorem mw_896 : (Cond.fieldLink "PolicyCompilerModel" (102 : Nat) "PolicyCompilerModel" "saved" "I") ∈ lw_tbl := List.mem_of_getElem? (i := 999) (by decide +kernel)
set_option maxRecDepth 20000 in
theorem mw_897 : (Cond.fieldLink "PolicyCompilerModel" (16 : Nat) "PolicyCompilerModel" "errors" "[I") ∈ lw_tbl := List.mem_of_getElem? (i := 1000) (by decide +kernel)
set_option maxRecDepth 20000 in
theorem mw_898 : (Cond.fieldLink "PolicyCompilerModel" (19 : Nat) "PolicyCompilerModel" "text" "[I") ∈ lw_tbl := List.mem_of_getElem? (i := 1001) (by decide +kernel)
set_option maxRecDepth 20000 in
theorem mw_899 : (Cond.fieldLink "PolicyCompilerModel" (131 : Nat) "PolicyCompilerModel" "textLength" "I") ∈ lw_tbl := List.mem_of_getElem? (i := 1002) (by decide +kernel)
set_option maxRecDepth 20000 in
theorem mw_900 : (Cond.fieldLink "PolicyCompilerModel" (22 : Nat) "PolicyCompilerModel" "made" "[I") ∈ lw_tbl := List.mem_of_getElem? (i := 1003) (by decide +kernel)
set_option maxRecDepth 20000 in
theorem mw_901 : (Cond.fieldLink "PolicyCompilerModel" (110 : Nat) "PolicyCompilerModel" "madeMany" "I") ∈ lw_tbl := List.mem_of_getElem? (i := 1004) (by decide +kernel)
set_option maxRecDepth 20000 in
theorem mw_902 : (Cond.fieldLink "PolicyCompilerModel" (25 : Nat) "PolicyCompilerModel" "begin" "[I") ∈ lw_tbl := List.mem_of_getElem? (i := 1005) (by decide +kernel)
set_option maxRecDepth 20000 in
theorem mw_903 : (Cond.fieldLink "PolicyCompilerModel" (28 : Nat) "PolicyCompilerModel" "isPure" "[I") ∈ lw_tbl := List.mem_of_getElem? (i := 1006) (by decide +kernel)
set_option maxRecDepth 20000 in
theorem mw_904 : (Cond.fieldLink "PolicyCompilerModel" (113 : Nat) "PolicyCompilerModel" "operands" "I") ∈ lw_tbl := List.mem_of_getElem? (i := 1007) (by decide +kernel)
set_option maxRecDepth 20000 in
theorem mw_905 : (Cond.fieldLink "PolicyCompilerModel" (137 : Nat) "PolicyCompilerModel" "at" "I") ∈ lw_tbl := List.mem_of_getElem? (i := 1008) (by decide +kernel)
set_option maxRecDepth 20000 in
theorem mw_906 : (Cond.fieldLink "PolicyCompilerModel" (31 : Nat) "PolicyCompilerModel" "open" "[I") ∈ lw_tbl := List.mem_of_getElem? (i := 1009) (by decide +kernel)
set_option maxRecDepth 20000 in
theorem mw_907 : (Cond.fieldLink "PolicyCompilerModel" (34 : Nat) "PolicyCompilerModel" "openAt" "[I") ∈ lw_tbl := List.mem_of_getElem? (i := 1010) (by decide +kernel)
set_option maxRecDepth 20000 in
theorem mw_908 : (Cond.fieldLink "PolicyCompilerModel" (134 : Nat) "PolicyCompilerModel" "opens" "I") ∈ lw_tbl := List.mem_of_getElem? (i := 1011) (by decide +kernel)
set_option maxRecDepth 20000 in
theorem mw_909 : (Cond.fieldLink "PolicyCompilerModel" (37 : Nat) "PolicyCompilerModel" "slotPure" "[I") ∈ lw_tbl := List.mem_of_getElem? (i := 1012) (by decide +kernel)
set_option maxRecDepth 20000 in
theorem mw_910 : (Cond.fieldLink "PolicyCompilerModel" (163 : Nat) "PolicyCompilerModel" "stage" "I") ∈ lw_tbl := List.mem_of_getElem? (i := 1013) (by decide +kernel)
set_option maxRecDepth 20000 in
theorem mw_911 : (Cond.fieldLink "PolicyCompilerModel" (40 : Nat) "PolicyCompilerModel" "one" "[I") ∈ lw_tbl := List.mem_of_getElem? (i := 1014) (by decide +kernel)
set_option maxRecDepth 20000 in
theorem mw_912 : (Cond.fieldLink "PolicyCompilerModel" (43 : Nat) "PolicyCompilerModel" "two" "[I") ∈ lw_tbl := List.mem_of_getElem? (i := 1015) (by decide +kernel)
set_option maxRecDepth 20000 in
theorem mw_913 : (Cond.fieldLink "PolicyCompilerModel" (46 : Nat) "PolicyCompilerModel" "three" "[I") ∈ lw_tbl := List.mem_of_getElem? (i := 1016) (by decide +kernel)
set_option maxRecDepth 20000 in
theorem mw_914 : (Cond.fieldLink "PolicyCompilerModel" (49 : Nat) "PolicyCompilerModel" "pile" "[I") ∈ lw_tbl := List.mem_of_getElem? (i := 1017) (by decide +kernel)
set_option maxRecDepth 20000 in
theorem mw_915 : (Cond.fieldLink "PolicyCompilerModel" (188 : Nat) "PolicyCompilerModel" "piled" "I") ∈ lw_tbl := List.mem_of_getElem? (i := 1018) (by decide +kernel)
set_option maxRecDepth 20000 in
theorem mw_916 : (Cond.fieldLink "PolicyCompilerModel" (52 : Nat) "PolicyCompilerModel" "shown" "[I") ∈ lw_tbl := List.mem_of_getElem? (i := 1019) (by decide +kernel)
set_option maxRecDepth 20000 in
theorem mw_917 : (Cond.fieldLink "PolicyCompilerModel" (194 : Nat) "PolicyCompilerModel" "shownLength" "I") ∈ lw_tbl := List.mem_of_getElem? (i := 1020) (by decide +kernel)
set_option maxRecDepth 20000 in
theorem mw_918 : (Cond.fieldLink "PolicyCompilerModel" (55 : Nat) "PolicyCompilerModel" "sets" "[J") ∈ lw_tbl := List.mem_of_getElem? (i := 1021) (by decide +kernel)
set_option maxRecDepth 20000 in
theorem mw_919 : (Cond.fieldLink "PolicyCompilerModel" (213 : Nat) "PolicyCompilerModel" "setMany" "I") ∈ lw_tbl := List.mem_of_getElem? (i := 1022) (by decide +kernel)
set_option maxRecDepth 20000 in
theorem mw_920 : (Cond.fieldLink "PolicyCompilerModel" (59 : Nat) "PolicyCompilerModel" "far" "[I") ∈ lw_tbl := List.mem_of_getElem? (i := 1023) (by decide +kernel)
set_option maxRecDepth 20000 in
theorem mw_921 : (Cond.fieldLink "PolicyCompilerModel" (62 : Nat) "PolicyCompilerModel" "closed" "[J") ∈ lw_tbl := List.mem_of_getElem? (i := 1024) (by decide +kernel)
set_option maxRecDepth 20000 in
theorem mw_922 : (Cond.fieldLink "PolicyCompilerModel" (65 : Nat) "PolicyCompilerModel" "other" "[J") ∈ lw_tbl := List.mem_of_getElem? (i := 1025) (by decide +kernel)
set_option maxRecDepth 20000 in
theorem mw_923 : (Cond.fieldLink "PolicyCompilerModel" (68 : Nat) "PolicyCompilerModel" "lowActions" "[J") ∈ lw_tbl := List.mem_of_getElem? (i := 1026) (by decide +kernel)
set_option maxRecDepth 20000 in
theorem mw_924 : (Cond.fieldLink "PolicyCompilerModel" (71 : Nat) "PolicyCompilerModel" "highActions" "[J") ∈ lw_tbl := List.mem_of_getElem? (i := 1027) (by decide +kernel)
set_option maxRecDepth 20000 in
theorem mw_925 : (Cond.fieldLink "PolicyCompilerModel" (270 : Nat) "PolicyCompilerModel" "leafMany" "I") ∈ lw_tbl := List.mem_of_getElem? (i := 1028) (by decide +kernel)
set_option maxRecDepth 20000 in
theorem mw_926 : (Cond.fieldLink "PolicyCompilerModel" (74 : Nat) "PolicyCompilerModel" "fieldOf" "[I") ∈ lw_tbl := List.mem_of_getElem? (i := 1029) (by decide +kernel)
set_option maxRecDepth 20000 in
theorem mw_927 : (Cond.fieldLink "PolicyCompilerModel" (77 : Nat) "PolicyCompilerModel" "childOf" "[I") ∈ lw_tbl := List.mem_of_getElem? (i := 1030) (by decide +kernel)
set_option maxRecDepth 20000 in
theorem mw_928 : (Cond.fieldLink "PolicyCompilerModel" (273 : Nat) "PolicyCompilerModel" "testMany" "I") ∈ lw_tbl := List.mem_of_getElem? (i := 1031) (by decide +kernel)
set_option maxRecDepth 20000 in
theorem mw_929 : (Cond.fieldLink "PolicyCompilerModel" (80 : Nat) "PolicyCompilerModel" "usedBy" "[I") ∈ lw_tbl := List.mem_of_getElem? (i := 1032) (by decide +kernel)
set_option maxRecDepth 20000 in
theorem mw_930 : (Cond.fieldLink "PolicyCompilerModel" (83 : Nat) "PolicyCompilerModel" "blocks" "[I") ∈ lw_tbl := List.mem_of_getElem? (i := 1033) (by decide +kernel)
set_option maxRecDepth 20000 in
theorem mw_931 : (Cond.fieldLink "PolicyCompilerModel" (86 : Nat) "PolicyCompilerModel" "rowMatch" "[I") ∈ lw_tbl := List.mem_of_getElem? (i := 1034) (by decide +kernel)
set_option maxRecDepth 20000 in
theorem mw_932 : (Cond.fieldLink "PolicyCompilerModel" (89 : Nat) "PolicyCompilerModel" "rowLeaf" "[I") ∈ lw_tbl := List.mem_of_getElem? (i := 1035) (by decide +kernel)
set_option maxRecDepth 20000 in
theorem mw_933 : (Cond.fieldLink "PolicyCompilerModel" (303 : Nat) "PolicyCompilerModel" "rowMany" "I") ∈ lw_tbl := List.mem_of_getElem? (i := 1036) (by decide +kernel)
set_option maxRecDepth 20000 in
theorem mw_934 : (Cond.fieldLink "PolicyCompilerModel" (92 : Nat) "PolicyCompilerModel" "walkNode" "[I") ∈ lw_tbl := List.mem_of_getElem? (i := 1037) (by decide +kernel)
set_option maxRecDepth 20000 in
theorem mw_935 : (Cond.fieldLink "PolicyCompilerModel" (95 : Nat) "PolicyCompilerModel" "walkMatch" "[I") ∈ lw_tbl := List.mem_of_getElem? (i := 1038) (by decide +kernel)
set_option maxRecDepth 20000 in
theorem mw_936 : (Cond.fieldLink "PolicyCompilerModel" (333 : Nat) "PolicyCompilerModel" "hash" "J") ∈ lw_tbl := List.mem_of_getElem? (i := 1039) (by decide +kernel)
set_option maxRecDepth 20000 in
theorem mw_1024 : (Cond.methodLink "PolicyCompilerLaw" (119 : Nat) ({ cls := "PolicyCompilerModel", name := "undo", desc := "()I" } : MethodName)) ∈ lw_tbl := List.mem_of_getElem? (i := 1127) (by decide +kernel)
set_option maxRecDepth 20000 in
theorem mw_1025 : (Cond.instanceMethod ({ cls := "PolicyCompilerModel", name := "undo", desc := "()I" } : MethodName)) ∈ lw_tbl := List.mem_of_getElem? (i := 1128) (by decide +kernel)
set_option maxRecDepth 20000 in
theorem mw_1026 : (Cond.selects "PolicyCompilerModel" ({ cls := "PolicyCompilerModel", name := "undo", desc := "()I" } : MethodName) ({ cls := "PolicyCompilerModel", name := "undo", desc := "()I" } : MethodName)) ∈ lw_tbl := List.mem_of_getElem? (i := 1129) (by decide +kernel)
set_option maxRecDepth 20000 in
theorem mw_1027 : (Cond.code ({ cls := "PolicyCompilerModel", name := "undo", desc := "()I" } : MethodName) prog_12_method_8_code (2 : Nat) (Option.some FieldType.int)) ∈ lw_tbl := List.mem_of_getElem? (i := 1130) rfl
set_option maxRecDepth 20000 in
theorem mw_1028 : (Cond.methodLink "PolicyCompilerModel" (106 : Nat) ({ cls := "PolicyCompilerModel", name := "fails", desc := "(I)I" } : MethodName)) ∈ lw_tbl := List.mem_of_getElem? (i := 1131) (by decide +kernel)
set_option maxRecDepth 20000 in
theorem mw_1030 : (Cond.instanceMethod ({ cls := "PolicyCompilerModel", name := "fails", desc := "(I)I" } : MethodName)) ∈ lw_tbl := List.mem_of_getElem? (i := 1133) (by decide +kernel)
set_option maxRecDepth 20000 in
theorem mw_1031 : (Cond.code ({ cls := "PolicyCompilerModel", name := "fails", desc := "(I)I" } : MethodName) prog_12_method_4_code (2 : Nat) (Option.some FieldType.int)) ∈ lw_tbl := List.mem_of_getElem? (i := 1134) rfl
set_option maxRecDepth 20000 in
theorem mw_1032 : (Cond.methodLink "PolicyCompilerLaw" (17 : Nat) ({ cls := "PolicyCompilerModel", name := "append", desc := "(I)I" } : MethodName)) ∈ lw_tbl := List.mem_of_getElem? (i := 1135) (by decide +kernel)
set_option maxRecDepth 20000 in
theorem mw_1033 : (Cond.instanceMethod ({ cls := "PolicyCompilerModel", name := "append", desc := "(I)I" } : MethodName)) ∈ lw_tbl := List.mem_of_getElem? (i := 1136) (by decide +kernel)
set_option maxRecDepth 20000 in
theorem mw_1034 : (Cond.selects "PolicyCompilerModel" ({ cls := "PolicyCompilerModel", name := "append", desc := "(I)I" } : MethodName) ({ cls := "PolicyCompilerModel", name := "append", desc := "(I)I" } : MethodName)) ∈ lw_tbl := List.mem_of_getElem? (i := 1137) (by decide +kernel)
set_option maxRecDepth 20000 in
theorem mw_1035 : (Cond.code ({ cls := "PolicyCompilerModel", name := "append", desc := "(I)I" } : MethodName) prog_12_method_14_code (2 : Nat) (Option.some FieldType.int)) ∈ lw_tbl := List.mem_of_getElem? (i := 1138) rfl
set_option maxRecDepth 20000 in
theorem mw_1036 : (Cond.methodLink "PolicyCompilerModel" (98 : Nat) ({ cls := "PolicyCompilerModel", name := "within", desc := "(III)Z" } : MethodName)) ∈ lw_tbl := List.mem_of_getElem? (i := 1139) (by decide +kernel)
set_option maxRecDepth 20000 in
theorem mw_1037 : (Cond.static ({ cls := "PolicyCompilerModel", name := "within", desc := "(III)Z" } : MethodName)) ∈ lw_tbl := List.mem_of_getElem? (i := 1140) (by decide +kernel)
set_option maxRecDepth 20000 in
theorem mw_1038 : (Cond.code ({ cls := "PolicyCompilerModel", name := "within", desc := "(III)Z" } : MethodName) prog_12_method_3_code (3 : Nat) (Option.some FieldType.boolean)) ∈ lw_tbl := List.mem_of_getElem? (i := 1141) rfl
set_option maxRecDepth 20000 in
theorem mw_1039 : (Cond.methodLink "PolicyCompilerLaw" (22 : Nat) ({ cls := "PolicyCompilerModel", name := "clearText", desc := "()I" } : MethodName)) ∈ lw_tbl := List.mem_of_getElem? (i := 1142) (by decide +kernel)
set_option maxRecDepth 20000 in
theorem mw_1040 : (Cond.instanceMethod ({ cls := "PolicyCompilerModel", name := "clearText", desc := "()I" } : MethodName)) ∈ lw_tbl := List.mem_of_getElem? (i := 1143) (by decide +kernel)
set_option maxRecDepth 20000 in
theorem mw_1041 : (Cond.selects "PolicyCompilerModel" ({ cls := "PolicyCompilerModel", name := "clearText", desc := "()I" } : MethodName) ({ cls := "PolicyCompilerModel", name := "clearText", desc := "()I" } : MethodName)) ∈ lw_tbl := List.mem_of_getElem? (i := 1144) (by decide +kernel)
set_option maxRecDepth 20000 in
theorem mw_1042 : (Cond.code ({ cls := "PolicyCompilerModel", name := "clearText", desc := "()I" } : MethodName) prog_12_method_15_code (2 : Nat) (Option.some FieldType.int)) ∈ lw_tbl := List.mem_of_getElem? (i := 1145) rfl
set_option maxRecDepth 20000 in
theorem mw_1043 : (Cond.methodLink "PolicyCompilerLaw" (26 : Nat) ({ cls := "PolicyCompilerModel", name := "parse", desc := "(I)I" } : MethodName)) ∈ lw_tbl := List.mem_of_getElem? (i := 1146) (by decide +kernel)
set_option maxRecDepth 20000 in
theorem mw_1044 : (Cond.instanceMethod ({ cls := "PolicyCompilerModel", name := "parse", desc := "(I)I" } : MethodName)) ∈ lw_tbl := List.mem_of_getElem? (i := 1147) (by decide +kernel)
set_option maxRecDepth 20000 in
theorem mw_1045 : (Cond.selects "PolicyCompilerModel" ({ cls := "PolicyCompilerModel", name := "parse", desc := "(I)I" } : MethodName) ({ cls := "PolicyCompilerModel", name := "parse", desc := "(I)I" } : MethodName)) ∈ lw_tbl := List.mem_of_getElem? (i := 1148) (by decide +kernel)
set_option maxRecDepth 20000 in
theorem mw_1046 : (Cond.code ({ cls := "PolicyCompilerModel", name := "parse", desc := "(I)I" } : MethodName) prog_12_method_26_code (3 : Nat) (Option.some FieldType.int)) ∈ lw_tbl := List.mem_of_getElem? (i := 1149) rfl
set_option maxRecDepth 20000 in
theorem mw_1047 : (Cond.methodLink "PolicyCompilerModel" (179 : Nat) ({ cls := "PolicyCompilerModel", name := "isSlot", desc := "(I)Z" } : MethodName)) ∈ lw_tbl := List.mem_of_getElem? (i := 1150) (by decide +kernel)
set_option maxRecDepth 20000 in
theorem mw_1048 : (Cond.static ({ cls := "PolicyCompilerModel", name := "isSlot", desc := "(I)Z" } : MethodName)) ∈ lw_tbl := List.mem_of_getElem? (i := 1151) (by decide +kernel)
set_option maxRecDepth 20000 in
theorem mw_1049 : (Cond.code ({ cls := "PolicyCompilerModel", name := "isSlot", desc := "(I)Z" } : MethodName) prog_12_method_5_code (1 : Nat) (Option.some FieldType.boolean)) ∈ lw_tbl := List.mem_of_getElem? (i := 1152) rfl
set_option maxRecDepth 20000 in
theorem mw_1050 : (Cond.methodLink "PolicyCompilerModel" (182 : Nat) ({ cls := "PolicyCompilerModel", name := "reads", desc := "()I" } : MethodName)) ∈ lw_tbl := List.mem_of_getElem? (i := 1153) (by decide +kernel)
set_option maxRecDepth 20000 in
theorem mw_1052 : (Cond.instanceMethod ({ cls := "PolicyCompilerModel", name := "reads", desc := "()I" } : MethodName)) ∈ lw_tbl := List.mem_of_getElem? (i := 1155) (by decide +kernel)
set_option maxRecDepth 20000 in
theorem mw_1053 : (Cond.code ({ cls := "PolicyCompilerModel", name := "reads", desc := "()I" } : MethodName) prog_12_method_25_code (2 : Nat) (Option.some FieldType.int)) ∈ lw_tbl := List.mem_of_getElem? (i := 1156) rfl
set_option maxRecDepth 20000 in
theorem mw_1054 : (Cond.methodLink "PolicyCompilerModel" (166 : Nat) ({ cls := "PolicyCompilerModel", name := "isPredicateRow", desc := "(I)Z" } : MethodName)) ∈ lw_tbl := List.mem_of_getElem? (i := 1157) (by decide +kernel)
set_option maxRecDepth 20000 in
theorem mw_1056 : (Cond.instanceMethod ({ cls := "PolicyCompilerModel", name := "isPredicateRow", desc := "(I)Z" } : MethodName)) ∈ lw_tbl := List.mem_of_getElem? (i := 1159) (by decide +kernel)
set_option maxRecDepth 20000 in
theorem mw_1057 : (Cond.code ({ cls := "PolicyCompilerModel", name := "isPredicateRow", desc := "(I)Z" } : MethodName) prog_12_method_11_code (4 : Nat) (Option.some FieldType.boolean)) ∈ lw_tbl := List.mem_of_getElem? (i := 1160) rfl
set_option maxRecDepth 20000 in
theorem mw_1058 : (Cond.methodLink "PolicyCompilerModel" (116 : Nat) ({ cls := "PolicyCompilerModel", name := "signOf", desc := "(II)I" } : MethodName)) ∈ lw_tbl := List.mem_of_getElem? (i := 1161) (by decide +kernel)
set_option maxRecDepth 20000 in
theorem mw_1060 : (Cond.instanceMethod ({ cls := "PolicyCompilerModel", name := "signOf", desc := "(II)I" } : MethodName)) ∈ lw_tbl := List.mem_of_getElem? (i := 1163) (by decide +kernel)
set_option maxRecDepth 20000 in
theorem mw_1061 : (Cond.code ({ cls := "PolicyCompilerModel", name := "signOf", desc := "(II)I" } : MethodName) prog_12_method_6_code (3 : Nat) (Option.some FieldType.int)) ∈ lw_tbl := List.mem_of_getElem? (i := 1164) rfl
set_option maxRecDepth 20000 in
theorem mw_1062 : (Cond.methodLink "PolicyCompilerModel" (120 : Nat) ({ cls := "PolicyCompilerModel", name := "waits", desc := "(IZ)V" } : MethodName)) ∈ lw_tbl := List.mem_of_getElem? (i := 1165) (by decide +kernel)
set_option maxRecDepth 20000 in
theorem mw_1064 : (Cond.instanceMethod ({ cls := "PolicyCompilerModel", name := "waits", desc := "(IZ)V" } : MethodName)) ∈ lw_tbl := List.mem_of_getElem? (i := 1167) (by decide +kernel)
set_option maxRecDepth 20000 in
theorem mw_1065 : (Cond.code ({ cls := "PolicyCompilerModel", name := "waits", desc := "(IZ)V" } : MethodName) prog_12_method_10_code (3 : Nat) (Option.none : Option ClassFile.FieldType)) ∈ lw_tbl := List.mem_of_getElem? (i := 1168) rfl
set_option maxRecDepth 20000 in
theorem mw_1066 : (Cond.methodLink "PolicyCompilerModel" (170 : Nat) ({ cls := "PolicyCompilerModel", name := "atom", desc := "()I" } : MethodName)) ∈ lw_tbl := List.mem_of_getElem? (i := 1169) (by decide +kernel)
set_option maxRecDepth 20000 in
theorem mw_1068 : (Cond.instanceMethod ({ cls := "PolicyCompilerModel", name := "atom", desc := "()I" } : MethodName)) ∈ lw_tbl := List.mem_of_getElem? (i := 1171) (by decide +kernel)
set_option maxRecDepth 20000 in
theorem mw_1069 : (Cond.code ({ cls := "PolicyCompilerModel", name := "atom", desc := "()I" } : MethodName) prog_12_method_20_code (2 : Nat) (Option.some FieldType.int)) ∈ lw_tbl := List.mem_of_getElem? (i := 1172) rfl
set_option maxRecDepth 20000 in
theorem mw_1070 : (Cond.methodLink "PolicyCompilerModel" (140 : Nat) ({ cls := "PolicyCompilerModel", name := "byteAt", desc := "(I)I" } : MethodName)) ∈ lw_tbl := List.mem_of_getElem? (i := 1173) (by decide +kernel)
set_option maxRecDepth 20000 in
theorem mw_1072 : (Cond.instanceMethod ({ cls := "PolicyCompilerModel", name := "byteAt", desc := "(I)I" } : MethodName)) ∈ lw_tbl := List.mem_of_getElem? (i := 1175) (by decide +kernel)
set_option maxRecDepth 20000 in
theorem mw_1073 : (Cond.code ({ cls := "PolicyCompilerModel", name := "byteAt", desc := "(I)I" } : MethodName) prog_12_method_16_code (2 : Nat) (Option.some FieldType.int)) ∈ lw_tbl := List.mem_of_getElem? (i := 1176) rfl
set_option maxRecDepth 20000 in
theorem mw_1074 : (Cond.methodLink "PolicyCompilerModel" (143 : Nat) ({ cls := "PolicyCompilerModel", name := "pushes", desc := "(I)V" } : MethodName)) ∈ lw_tbl := List.mem_of_getElem? (i := 1177) (by decide +kernel)
set_option maxRecDepth 20000 in
theorem mw_1076 : (Cond.instanceMethod ({ cls := "PolicyCompilerModel", name := "pushes", desc := "(I)V" } : MethodName)) ∈ lw_tbl := List.mem_of_getElem? (i := 1179) (by decide +kernel)
set_option maxRecDepth 20000 in
theorem mw_1077 : (Cond.code ({ cls := "PolicyCompilerModel", name := "pushes", desc := "(I)V" } : MethodName) prog_12_method_18_code (2 : Nat) (Option.none : Option ClassFile.FieldType)) ∈ lw_tbl := List.mem_of_getElem? (i := 1180) rfl
set_option maxRecDepth 20000 in
theorem mw_1078 : (Cond.methodLink "PolicyCompilerModel" (146 : Nat) ({ cls := "PolicyCompilerModel", name := "field", desc := "(I)I" } : MethodName)) ∈ lw_tbl := List.mem_of_getElem? (i := 1181) (by decide +kernel)
set_option maxRecDepth 20000 in
theorem mw_1080 : (Cond.instanceMethod ({ cls := "PolicyCompilerModel", name := "field", desc := "(I)I" } : MethodName)) ∈ lw_tbl := List.mem_of_getElem? (i := 1183) (by decide +kernel)
set_option maxRecDepth 20000 in
theorem mw_1081 : (Cond.code ({ cls := "PolicyCompilerModel", name := "field", desc := "(I)I" } : MethodName) prog_12_method_19_code (3 : Nat) (Option.some FieldType.int)) ∈ lw_tbl := List.mem_of_getElem? (i := 1184) rfl
set_option maxRecDepth 20000 in
theorem mw_1082 : (Cond.methodLink "PolicyCompilerModel" (127 : Nat) ({ cls := "PolicyCompilerModel", name := "makes", desc := "(I)V" } : MethodName)) ∈ lw_tbl := List.mem_of_getElem? (i := 1185) (by decide +kernel)
set_option maxRecDepth 20000 in
theorem mw_1084 : (Cond.instanceMethod ({ cls := "PolicyCompilerModel", name := "makes", desc := "(I)V" } : MethodName)) ∈ lw_tbl := List.mem_of_getElem? (i := 1187) (by decide +kernel)
set_option maxRecDepth 20000 in
theorem mw_1085 : (Cond.code ({ cls := "PolicyCompilerModel", name := "makes", desc := "(I)V" } : MethodName) prog_12_method_9_code (2 : Nat) (Option.none : Option ClassFile.FieldType)) ∈ lw_tbl := List.mem_of_getElem? (i := 1188) rfl
set_option maxRecDepth 20000 in
theorem mw_1086 : (Cond.methodLink "PolicyCompilerModel" (149 : Nat) ({ cls := "PolicyCompilerModel", name := "copies", desc := "(I)V" } : MethodName)) ∈ lw_tbl := List.mem_of_getElem? (i := 1189) (by decide +kernel)
set_option maxRecDepth 20000 in
theorem mw_1088 : (Cond.instanceMethod ({ cls := "PolicyCompilerModel", name := "copies", desc := "(I)V" } : MethodName)) ∈ lw_tbl := List.mem_of_getElem? (i := 1191) (by decide +kernel)
set_option maxRecDepth 20000 in
theorem mw_1089 : (Cond.code ({ cls := "PolicyCompilerModel", name := "copies", desc := "(I)V" } : MethodName) prog_12_method_13_code (3 : Nat) (Option.none : Option ClassFile.FieldType)) ∈ lw_tbl := List.mem_of_getElem? (i := 1192) rfl
set_option maxRecDepth 20000 in
theorem mw_1090 : (Cond.methodLink "PolicyCompilerModel" (173 : Nat) ({ cls := "PolicyCompilerModel", name := "endsFactor", desc := "()I" } : MethodName)) ∈ lw_tbl := List.mem_of_getElem? (i := 1193) (by decide +kernel)
set_option maxRecDepth 20000 in
theorem mw_1092 : (Cond.instanceMethod ({ cls := "PolicyCompilerModel", name := "endsFactor", desc := "()I" } : MethodName)) ∈ lw_tbl := List.mem_of_getElem? (i := 1195) (by decide +kernel)
set_option maxRecDepth 20000 in
theorem mw_1093 : (Cond.code ({ cls := "PolicyCompilerModel", name := "endsFactor", desc := "()I" } : MethodName) prog_12_method_21_code (1 : Nat) (Option.some FieldType.int)) ∈ lw_tbl := List.mem_of_getElem? (i := 1196) rfl
set_option maxRecDepth 20000 in
theorem mw_1094 : (Cond.methodLink "PolicyCompilerModel" (152 : Nat) ({ cls := "PolicyCompilerModel", name := "lastOpen", desc := "()I" } : MethodName)) ∈ lw_tbl := List.mem_of_getElem? (i := 1197) (by decide +kernel)
set_option maxRecDepth 20000 in
theorem mw_1096 : (Cond.instanceMethod ({ cls := "PolicyCompilerModel", name := "lastOpen", desc := "()I" } : MethodName)) ∈ lw_tbl := List.mem_of_getElem? (i := 1199) (by decide +kernel)
set_option maxRecDepth 20000 in
theorem mw_1097 : (Cond.code ({ cls := "PolicyCompilerModel", name := "lastOpen", desc := "()I" } : MethodName) prog_12_method_17_code (1 : Nat) (Option.some FieldType.int)) ∈ lw_tbl := List.mem_of_getElem? (i := 1200) rfl
set_option maxRecDepth 20000 in
theorem mw_1098 : (Cond.methodLink "PolicyCompilerModel" (176 : Nat) ({ cls := "PolicyCompilerModel", name := "behind", desc := "()I" } : MethodName)) ∈ lw_tbl := List.mem_of_getElem? (i := 1201) (by decide +kernel)
set_option maxRecDepth 20000 in
theorem mw_1100 : (Cond.instanceMethod ({ cls := "PolicyCompilerModel", name := "behind", desc := "()I" } : MethodName)) ∈ lw_tbl := List.mem_of_getElem? (i := 1203) (by decide +kernel)
set_option maxRecDepth 20000 in
theorem mw_1101 : (Cond.code ({ cls := "PolicyCompilerModel", name := "behind", desc := "()I" } : MethodName) prog_12_method_24_code (4 : Nat) (Option.some FieldType.int)) ∈ lw_tbl := List.mem_of_getElem? (i := 1204) rfl
set_option maxRecDepth 20000 in
theorem mw_1102 : (Cond.methodLink "PolicyCompilerModel" (159 : Nat) ({ cls := "PolicyCompilerModel", name := "joins", desc := "(Z)V" } : MethodName)) ∈ lw_tbl := List.mem_of_getElem? (i := 1205) (by decide +kernel)
set_option maxRecDepth 20000 in
theorem mw_1104 : (Cond.instanceMethod ({ cls := "PolicyCompilerModel", name := "joins", desc := "(Z)V" } : MethodName)) ∈ lw_tbl := List.mem_of_getElem? (i := 1207) (by decide +kernel)
set_option maxRecDepth 20000 in
theorem mw_1105 : (Cond.code ({ cls := "PolicyCompilerModel", name := "joins", desc := "(Z)V" } : MethodName) prog_12_method_23_code (2 : Nat) (Option.none : Option ClassFile.FieldType)) ∈ lw_tbl := List.mem_of_getElem? (i := 1208) rfl
set_option maxRecDepth 20000 in
theorem mw_1106 : (Cond.methodLink "PolicyCompilerModel" (156 : Nat) ({ cls := "PolicyCompilerModel", name := "joinsTwo", desc := "(I)V" } : MethodName)) ∈ lw_tbl := List.mem_of_getElem? (i := 1209) (by decide +kernel)
set_option maxRecDepth 20000 in
theorem mw_1108 : (Cond.instanceMethod ({ cls := "PolicyCompilerModel", name := "joinsTwo", desc := "(I)V" } : MethodName)) ∈ lw_tbl := List.mem_of_getElem? (i := 1211) (by decide +kernel)
set_option maxRecDepth 20000 in
theorem mw_1109 : (Cond.code ({ cls := "PolicyCompilerModel", name := "joinsTwo", desc := "(I)V" } : MethodName) prog_12_method_22_code (2 : Nat) (Option.none : Option ClassFile.FieldType)) ∈ lw_tbl := List.mem_of_getElem? (i := 1212) rfl
set_option maxRecDepth 20000 in
theorem mw_1110 : (Cond.methodLink "PolicyCompilerModel" (185 : Nat) ({ cls := "PolicyCompilerModel", name := "keeps", desc := "(I)I" } : MethodName)) ∈ lw_tbl := List.mem_of_getElem? (i := 1213) (by decide +kernel)
set_option maxRecDepth 20000 in
theorem mw_1112 : (Cond.instanceMethod ({ cls := "PolicyCompilerModel", name := "keeps", desc := "(I)I" } : MethodName)) ∈ lw_tbl := List.mem_of_getElem? (i := 1215) (by decide +kernel)
set_option maxRecDepth 20000 in
theorem mw_1113 : (Cond.code ({ cls := "PolicyCompilerModel", name := "keeps", desc := "(I)I" } : MethodName) prog_12_method_12_code (3 : Nat) (Option.some FieldType.int)) ∈ lw_tbl := List.mem_of_getElem? (i := 1216) rfl
set_option maxRecDepth 20000 in
theorem mw_1114 : (Cond.methodLink "PolicyCompilerModel" (124 : Nat) ({ cls := "PolicyCompilerModel", name := "saves", desc := "()V" } : MethodName)) ∈ lw_tbl := List.mem_of_getElem? (i := 1217) (by decide +kernel)
set_option maxRecDepth 20000 in
theorem mw_1116 : (Cond.instanceMethod ({ cls := "PolicyCompilerModel", name := "saves", desc := "()V" } : MethodName)) ∈ lw_tbl := List.mem_of_getElem? (i := 1219) (by decide +kernel)
set_option maxRecDepth 20000 in
theorem mw_1117 : (Cond.code ({ cls := "PolicyCompilerModel", name := "saves", desc := "()V" } : MethodName) prog_12_method_7_code (2 : Nat) (Option.none : Option ClassFile.FieldType)) ∈ lw_tbl := List.mem_of_getElem? (i := 1220) rfl
set_option maxRecDepth 20000 in
theorem mw_1118 : (Cond.methodLink "PolicyCompilerLaw" (31 : Nat) ({ cls := "PolicyCompilerModel", name := "combine", desc := "(IIII)I" } : MethodName)) ∈ lw_tbl := List.mem_of_getElem? (i := 1221) (by decide +kernel)
set_option maxRecDepth 20000 in
theorem mw_1119 : (Cond.instanceMethod ({ cls := "PolicyCompilerModel", name := "combine", desc := "(IIII)I" } : MethodName)) ∈ lw_tbl := List.mem_of_getElem? (i := 1222) (by decide +kernel)
set_option maxRecDepth 20000 in
theorem mw_1120 : (Cond.selects "PolicyCompilerModel" ({ cls := "PolicyCompilerModel", name := "combine", desc := "(IIII)I" } : MethodName) ({ cls := "PolicyCompilerModel", name := "combine", desc := "(IIII)I" } : MethodName)) ∈ lw_tbl := List.mem_of_getElem? (i := 1223) (by decide +kernel)
set_option maxRecDepth 20000 in
theorem mw_1121 : (Cond.code ({ cls := "PolicyCompilerModel", name := "combine", desc := "(IIII)I" } : MethodName) prog_12_method_27_code (5 : Nat) (Option.some FieldType.int)) ∈ lw_tbl := List.mem_of_getElem? (i := 1224) rfl
set_option maxRecDepth 20000 in
theorem mw_1122 : (Cond.methodLink "PolicyCompilerLaw" (36 : Nat) ({ cls := "PolicyCompilerModel", name := "modify", desc := "(III)I" } : MethodName)) ∈ lw_tbl := List.mem_of_getElem? (i := 1225) (by decide +kernel)
set_option maxRecDepth 20000 in
theorem mw_1123 : (Cond.instanceMethod ({ cls := "PolicyCompilerModel", name := "modify", desc := "(III)I" } : MethodName)) ∈ lw_tbl := List.mem_of_getElem? (i := 1226) (by decide +kernel)
set_option maxRecDepth 20000 in
theorem mw_1124 : (Cond.selects "PolicyCompilerModel" ({ cls := "PolicyCompilerModel", name := "modify", desc := "(III)I" } : MethodName) ({ cls := "PolicyCompilerModel", name := "modify", desc := "(III)I" } : MethodName)) ∈ lw_tbl := List.mem_of_getElem? (i := 1227) (by decide +kernel)
set_option maxRecDepth 20000 in
theorem mw_1125 : (Cond.code ({ cls := "PolicyCompilerModel", name := "modify", desc := "(III)I" } : MethodName) prog_12_method_28_code (4 : Nat) (Option.some FieldType.int)) ∈ lw_tbl := List.mem_of_getElem? (i := 1228) rfl
set_option maxRecDepth 20000 in
theorem mw_1126 : (Cond.methodLink "PolicyCompilerLaw" (40 : Nat) ({ cls := "PolicyCompilerModel", name := "size", desc := "(I)I" } : MethodName)) ∈ lw_tbl := List.mem_of_getElem? (i := 1229) (by decide +kernel)
set_option maxRecDepth 20000 in
theorem mw_1127 : (Cond.instanceMethod ({ cls := "PolicyCompilerModel", name := "size", desc := "(I)I" } : MethodName)) ∈ lw_tbl := List.mem_of_getElem? (i := 1230) (by decide +kernel)
set_option maxRecDepth 20000 in
theorem mw_1128 : (Cond.selects "PolicyCompilerModel" ({ cls := "PolicyCompilerModel", name := "size", desc := "(I)I" } : MethodName) ({ cls := "PolicyCompilerModel", name := "size", desc := "(I)I" } : MethodName)) ∈ lw_tbl := List.mem_of_getElem? (i := 1231) (by decide +kernel)
set_option maxRecDepth 20000 in
theorem mw_1129 : (Cond.code ({ cls := "PolicyCompilerModel", name := "size", desc := "(I)I" } : MethodName) prog_12_method_29_code (2 : Nat) (Option.some FieldType.int)) ∈ lw_tbl := List.mem_of_getElem? (i := 1232) rfl
set_option maxRecDepth 20000 in
theorem mw_1130 : (Cond.methodLink "PolicyCompilerLaw" (44 : Nat) ({ cls := "PolicyCompilerModel", name := "isPredicate", desc := "(I)I" } : MethodName)) ∈ lw_tbl := List.mem_of_getElem? (i := 1233) (by decide +kernel)
set_option maxRecDepth 20000 in
theorem mw_1131 : (Cond.instanceMethod ({ cls := "PolicyCompilerModel", name := "isPredicate", desc := "(I)I" } : MethodName)) ∈ lw_tbl := List.mem_of_getElem? (i := 1234) (by decide +kernel)
set_option maxRecDepth 20000 in
theorem mw_1132 : (Cond.selects "PolicyCompilerModel" ({ cls := "PolicyCompilerModel", name := "isPredicate", desc := "(I)I" } : MethodName) ({ cls := "PolicyCompilerModel", name := "isPredicate", desc := "(I)I" } : MethodName)) ∈ lw_tbl := List.mem_of_getElem? (i := 1235) (by decide +kernel)
set_option maxRecDepth 20000 in
theorem mw_1133 : (Cond.code ({ cls := "PolicyCompilerModel", name := "isPredicate", desc := "(I)I" } : MethodName) prog_12_method_30_code (2 : Nat) (Option.some FieldType.int)) ∈ lw_tbl := List.mem_of_getElem? (i := 1236) rfl
set_option maxRecDepth 20000 in
theorem mw_1134 : (Cond.methodLink "PolicyCompilerLaw" (49 : Nat) ({ cls := "PolicyCompilerModel", name := "printed", desc := "(II)I" } : MethodName)) ∈ lw_tbl := List.mem_of_getElem? (i := 1237) (by decide +kernel)
set_option maxRecDepth 20000 in
theorem mw_1135 : (Cond.instanceMethod ({ cls := "PolicyCompilerModel", name := "printed", desc := "(II)I" } : MethodName)) ∈ lw_tbl := List.mem_of_getElem? (i := 1238) (by decide +kernel)
set_option maxRecDepth 20000 in
theorem mw_1136 : (Cond.selects "PolicyCompilerModel" ({ cls := "PolicyCompilerModel", name := "printed", desc := "(II)I" } : MethodName) ({ cls := "PolicyCompilerModel", name := "printed", desc := "(II)I" } : MethodName)) ∈ lw_tbl := List.mem_of_getElem? (i := 1239) (by decide +kernel)
set_option maxRecDepth 20000 in
theorem mw_1137 : (Cond.code ({ cls := "PolicyCompilerModel", name := "printed", desc := "(II)I" } : MethodName) prog_12_method_37_code (3 : Nat) (Option.some FieldType.int)) ∈ lw_tbl := List.mem_of_getElem? (i := 1240) rfl
set_option maxRecDepth 20000 in
theorem mw_1138 : (Cond.methodLink "PolicyCompilerModel" (210 : Nat) ({ cls := "PolicyCompilerModel", name := "prints", desc := "(I)V" } : MethodName)) ∈ lw_tbl := List.mem_of_getElem? (i := 1241) (by decide +kernel)
set_option maxRecDepth 20000 in
theorem mw_1140 : (Cond.instanceMethod ({ cls := "PolicyCompilerModel", name := "prints", desc := "(I)V" } : MethodName)) ∈ lw_tbl := List.mem_of_getElem? (i := 1243) (by decide +kernel)
set_option maxRecDepth 20000 in
theorem mw_1141 : (Cond.code ({ cls := "PolicyCompilerModel", name := "prints", desc := "(I)V" } : MethodName) prog_12_method_36_code (3 : Nat) (Option.none : Option ClassFile.FieldType)) ∈ lw_tbl := List.mem_of_getElem? (i := 1244) rfl
set_option maxRecDepth 20000 in
theorem mw_1142 : (Cond.methodLink "PolicyCompilerModel" (203 : Nat) ({ cls := "PolicyCompilerModel", name := "laysOperands", desc := "(I)V" } : MethodName)) ∈ lw_tbl := List.mem_of_getElem? (i := 1245) (by decide +kernel)
set_option maxRecDepth 20000 in
theorem mw_1144 : (Cond.instanceMethod ({ cls := "PolicyCompilerModel", name := "laysOperands", desc := "(I)V" } : MethodName)) ∈ lw_tbl := List.mem_of_getElem? (i := 1247) (by decide +kernel)
set_option maxRecDepth 20000 in
theorem mw_1145 : (Cond.code ({ cls := "PolicyCompilerModel", name := "laysOperands", desc := "(I)V" } : MethodName) prog_12_method_31_code (5 : Nat) (Option.none : Option ClassFile.FieldType)) ∈ lw_tbl := List.mem_of_getElem? (i := 1248) rfl
set_option maxRecDepth 20000 in
theorem mw_1146 : (Cond.methodLink "PolicyCompilerModel" (197 : Nat) ({ cls := "PolicyCompilerModel", name := "shows", desc := "(I)V" } : MethodName)) ∈ lw_tbl := List.mem_of_getElem? (i := 1249) (by decide +kernel)
set_option maxRecDepth 20000 in
theorem mw_1148 : (Cond.instanceMethod ({ cls := "PolicyCompilerModel", name := "shows", desc := "(I)V" } : MethodName)) ∈ lw_tbl := List.mem_of_getElem? (i := 1251) (by decide +kernel)
set_option maxRecDepth 20000 in
theorem mw_1149 : (Cond.code ({ cls := "PolicyCompilerModel", name := "shows", desc := "(I)V" } : MethodName) prog_12_method_34_code (2 : Nat) (Option.none : Option ClassFile.FieldType)) ∈ lw_tbl := List.mem_of_getElem? (i := 1252) rfl
set_option maxRecDepth 20000 in
theorem mw_1150 : (Cond.methodLink "PolicyCompilerModel" (206 : Nat) ({ cls := "PolicyCompilerModel", name := "expands", desc := "(II)V" } : MethodName)) ∈ lw_tbl := List.mem_of_getElem? (i := 1253) (by decide +kernel)
set_option maxRecDepth 20000 in
theorem mw_1152 : (Cond.instanceMethod ({ cls := "PolicyCompilerModel", name := "expands", desc := "(II)V" } : MethodName)) ∈ lw_tbl := List.mem_of_getElem? (i := 1255) (by decide +kernel)
set_option maxRecDepth 20000 in
theorem mw_1153 : (Cond.code ({ cls := "PolicyCompilerModel", name := "expands", desc := "(II)V" } : MethodName) prog_12_method_35_code (7 : Nat) (Option.none : Option ClassFile.FieldType)) ∈ lw_tbl := List.mem_of_getElem? (i := 1256) rfl
set_option maxRecDepth 20000 in
theorem mw_1154 : (Cond.methodLink "PolicyCompilerModel" (200 : Nat) ({ cls := "PolicyCompilerModel", name := "pilesOperand", desc := "(IZ)V" } : MethodName)) ∈ lw_tbl := List.mem_of_getElem? (i := 1257) (by decide +kernel)
set_option maxRecDepth 20000 in
theorem mw_1156 : (Cond.instanceMethod ({ cls := "PolicyCompilerModel", name := "pilesOperand", desc := "(IZ)V" } : MethodName)) ∈ lw_tbl := List.mem_of_getElem? (i := 1259) (by decide +kernel)
set_option maxRecDepth 20000 in
theorem mw_1157 : (Cond.code ({ cls := "PolicyCompilerModel", name := "pilesOperand", desc := "(IZ)V" } : MethodName) prog_12_method_33_code (3 : Nat) (Option.none : Option ClassFile.FieldType)) ∈ lw_tbl := List.mem_of_getElem? (i := 1260) rfl
set_option maxRecDepth 20000 in
theorem mw_1158 : (Cond.methodLink "PolicyCompilerModel" (191 : Nat) ({ cls := "PolicyCompilerModel", name := "piles", desc := "(I)V" } : MethodName)) ∈ lw_tbl := List.mem_of_getElem? (i := 1261) (by decide +kernel)
set_option maxRecDepth 20000 in
theorem mw_1160 : (Cond.instanceMethod ({ cls := "PolicyCompilerModel", name := "piles", desc := "(I)V" } : MethodName)) ∈ lw_tbl := List.mem_of_getElem? (i := 1263) (by decide +kernel)
set_option maxRecDepth 20000 in
theorem mw_1161 : (Cond.code ({ cls := "PolicyCompilerModel", name := "piles", desc := "(I)V" } : MethodName) prog_12_method_32_code (2 : Nat) (Option.none : Option ClassFile.FieldType)) ∈ lw_tbl := List.mem_of_getElem? (i := 1264) rfl
set_option maxRecDepth 20000 in
theorem mw_1162 : (Cond.methodLink "PolicyCompilerLaw" (54 : Nat) ({ cls := "PolicyCompilerModel", name := "outputs", desc := "(II)J" } : MethodName)) ∈ lw_tbl := List.mem_of_getElem? (i := 1265) (by decide +kernel)
set_option maxRecDepth 20000 in
theorem mw_1163 : (Cond.instanceMethod ({ cls := "PolicyCompilerModel", name := "outputs", desc := "(II)J" } : MethodName)) ∈ lw_tbl := List.mem_of_getElem? (i := 1266) (by decide +kernel)
set_option maxRecDepth 20000 in
theorem mw_1164 : (Cond.selects "PolicyCompilerModel" ({ cls := "PolicyCompilerModel", name := "outputs", desc := "(II)J" } : MethodName) ({ cls := "PolicyCompilerModel", name := "outputs", desc := "(II)J" } : MethodName)) ∈ lw_tbl := List.mem_of_getElem? (i := 1267) (by decide +kernel)
set_option maxRecDepth 20000 in
theorem mw_1165 : (Cond.code ({ cls := "PolicyCompilerModel", name := "outputs", desc := "(II)J" } : MethodName) prog_12_method_46_code (3 : Nat) (Option.some FieldType.long)) ∈ lw_tbl := List.mem_of_getElem? (i := 1268) rfl
set_option maxRecDepth 20000 in
theorem mw_1166 : (Cond.methodLink "PolicyCompilerModel" (238 : Nat) ({ cls := "PolicyCompilerModel", name := "isPacket", desc := "(I)Z" } : MethodName)) ∈ lw_tbl := List.mem_of_getElem? (i := 1269) (by decide +kernel)
set_option maxRecDepth 20000 in
theorem mw_1167 : (Cond.static ({ cls := "PolicyCompilerModel", name := "isPacket", desc := "(I)Z" } : MethodName)) ∈ lw_tbl := List.mem_of_getElem? (i := 1270) (by decide +kernel)
set_option maxRecDepth 20000 in
theorem mw_1168 : (Cond.code ({ cls := "PolicyCompilerModel", name := "isPacket", desc := "(I)Z" } : MethodName) prog_12_method_45_code (1 : Nat) (Option.some FieldType.boolean)) ∈ lw_tbl := List.mem_of_getElem? (i := 1271) rfl
set_option maxRecDepth 20000 in
theorem mw_1169 : (Cond.methodLink "PolicyCompilerModel" (241 : Nat) ({ cls := "PolicyCompilerModel", name := "outputsOf", desc := "(II)J" } : MethodName)) ∈ lw_tbl := List.mem_of_getElem? (i := 1272) (by decide +kernel)
set_option maxRecDepth 20000 in
theorem mw_1171 : (Cond.instanceMethod ({ cls := "PolicyCompilerModel", name := "outputsOf", desc := "(II)J" } : MethodName)) ∈ lw_tbl := List.mem_of_getElem? (i := 1274) (by decide +kernel)
set_option maxRecDepth 20000 in
theorem mw_1172 : (Cond.code ({ cls := "PolicyCompilerModel", name := "outputsOf", desc := "(II)J" } : MethodName) prog_12_method_44_code (3 : Nat) (Option.some FieldType.long)) ∈ lw_tbl := List.mem_of_getElem? (i := 1275) rfl
set_option maxRecDepth 20000 in
theorem mw_1173 : (Cond.methodLink "PolicyCompilerModel" (235 : Nat) ({ cls := "PolicyCompilerModel", name := "evaluates", desc := "(I)V" } : MethodName)) ∈ lw_tbl := List.mem_of_getElem? (i := 1276) (by decide +kernel)
set_option maxRecDepth 20000 in
theorem mw_1175 : (Cond.instanceMethod ({ cls := "PolicyCompilerModel", name := "evaluates", desc := "(I)V" } : MethodName)) ∈ lw_tbl := List.mem_of_getElem? (i := 1278) (by decide +kernel)
set_option maxRecDepth 20000 in
theorem mw_1176 : (Cond.code ({ cls := "PolicyCompilerModel", name := "evaluates", desc := "(I)V" } : MethodName) prog_12_method_43_code (4 : Nat) (Option.none : Option ClassFile.FieldType)) ∈ lw_tbl := List.mem_of_getElem? (i := 1279) rfl
set_option maxRecDepth 20000 in
theorem mw_1177 : (Cond.methodLink "PolicyCompilerModel" (229 : Nat) ({ cls := "PolicyCompilerModel", name := "simple", desc := "(I)V" } : MethodName)) ∈ lw_tbl := List.mem_of_getElem? (i := 1280) (by decide +kernel)
set_option maxRecDepth 20000 in
theorem mw_1179 : (Cond.instanceMethod ({ cls := "PolicyCompilerModel", name := "simple", desc := "(I)V" } : MethodName)) ∈ lw_tbl := List.mem_of_getElem? (i := 1282) (by decide +kernel)
set_option maxRecDepth 20000 in
theorem mw_1180 : (Cond.code ({ cls := "PolicyCompilerModel", name := "simple", desc := "(I)V" } : MethodName) prog_12_method_39_code (6 : Nat) (Option.none : Option ClassFile.FieldType)) ∈ lw_tbl := List.mem_of_getElem? (i := 1283) rfl
set_option maxRecDepth 20000 in
theorem mw_1181 : (Cond.methodLink "PolicyCompilerModel" (216 : Nat) ({ cls := "PolicyCompilerModel", name := "valueOf", desc := "(II)I" } : MethodName)) ∈ lw_tbl := List.mem_of_getElem? (i := 1284) (by decide +kernel)
set_option maxRecDepth 20000 in
theorem mw_1182 : (Cond.static ({ cls := "PolicyCompilerModel", name := "valueOf", desc := "(II)I" } : MethodName)) ∈ lw_tbl := List.mem_of_getElem? (i := 1285) (by decide +kernel)
set_option maxRecDepth 20000 in
theorem mw_1183 : (Cond.code ({ cls := "PolicyCompilerModel", name := "valueOf", desc := "(II)I" } : MethodName) prog_12_method_38_code (2 : Nat) (Option.some FieldType.int)) ∈ lw_tbl := List.mem_of_getElem? (i := 1286) rfl
set_option maxRecDepth 20000 in
theorem mw_1184 : (Cond.methodLink "PolicyCompilerModel" (232 : Nat) ({ cls := "PolicyCompilerModel", name := "operates", desc := "(I)V" } : MethodName)) ∈ lw_tbl := List.mem_of_getElem? (i := 1287) (by decide +kernel)
set_option maxRecDepth 20000 in
theorem mw_1186 : (Cond.instanceMethod ({ cls := "PolicyCompilerModel", name := "operates", desc := "(I)V" } : MethodName)) ∈ lw_tbl := List.mem_of_getElem? (i := 1289) (by decide +kernel)
set_option maxRecDepth 20000 in
theorem mw_1187 : (Cond.code ({ cls := "PolicyCompilerModel", name := "operates", desc := "(I)V" } : MethodName) prog_12_method_42_code (7 : Nat) (Option.none : Option ClassFile.FieldType)) ∈ lw_tbl := List.mem_of_getElem? (i := 1290) rfl
set_option maxRecDepth 20000 in
theorem mw_1188 : (Cond.methodLink "PolicyCompilerModel" (219 : Nat) ({ cls := "PolicyCompilerModel", name := "turned", desc := "(JI)J" } : MethodName)) ∈ lw_tbl := List.mem_of_getElem? (i := 1291) (by decide +kernel)
set_option maxRecDepth 20000 in
theorem mw_1190 : (Cond.instanceMethod ({ cls := "PolicyCompilerModel", name := "turned", desc := "(JI)J" } : MethodName)) ∈ lw_tbl := List.mem_of_getElem? (i := 1293) (by decide +kernel)
set_option maxRecDepth 20000 in
theorem mw_1191 : (Cond.code ({ cls := "PolicyCompilerModel", name := "turned", desc := "(JI)J" } : MethodName) prog_12_method_40_code (7 : Nat) (Option.some FieldType.long)) ∈ lw_tbl := List.mem_of_getElem? (i := 1294) rfl
set_option maxRecDepth 20000 in
theorem mw_1192 : (Cond.methodLink "PolicyCompilerModel" (225 : Nat) ({ cls := "PolicyCompilerModel", name := "reached", desc := "(II)J" } : MethodName)) ∈ lw_tbl := List.mem_of_getElem? (i := 1295) (by decide +kernel)
set_option maxRecDepth 20000 in
theorem mw_1194 : (Cond.instanceMethod ({ cls := "PolicyCompilerModel", name := "reached", desc := "(II)J" } : MethodName)) ∈ lw_tbl := List.mem_of_getElem? (i := 1297) (by decide +kernel)
set_option maxRecDepth 20000 in
theorem mw_1195 : (Cond.code ({ cls := "PolicyCompilerModel", name := "reached", desc := "(II)J" } : MethodName) prog_12_method_41_code (7 : Nat) (Option.some FieldType.long)) ∈ lw_tbl := List.mem_of_getElem? (i := 1298) rfl
set_option maxRecDepth 20000 in
theorem mw_1196 : (Cond.constantLong "PolicyCompilerModel" (223 : Nat) (-1 : Int64)) ∈ lw_tbl := List.mem_of_getElem? (i := 1299) (by decide +kernel)
set_option maxRecDepth 20000 in
theorem mw_1197 : (Cond.methodLink "PolicyCompilerLaw" (59 : Nat) ({ cls := "PolicyCompilerModel", name := "accepted", desc := "(I)J" } : MethodName)) ∈ lw_tbl := List.mem_of_getElem? (i := 1300) (by decide +kernel)
set_option maxRecDepth 20000 in
theorem mw_1198 : (Cond.instanceMethod ({ cls := "PolicyCompilerModel", name := "accepted", desc := "(I)J" } : MethodName)) ∈ lw_tbl := List.mem_of_getElem? (i := 1301) (by decide +kernel)
set_option maxRecDepth 20000 in
theorem mw_1199 : (Cond.selects "PolicyCompilerModel" ({ cls := "PolicyCompilerModel", name := "accepted", desc := "(I)J" } : MethodName) ({ cls := "PolicyCompilerModel", name := "accepted", desc := "(I)J" } : MethodName)) ∈ lw_tbl := List.mem_of_getElem? (i := 1302) (by decide +kernel)
set_option maxRecDepth 20000 in
theorem mw_1200 : (Cond.code ({ cls := "PolicyCompilerModel", name := "accepted", desc := "(I)J" } : MethodName) prog_12_method_48_code (2 : Nat) (Option.some FieldType.long)) ∈ lw_tbl := List.mem_of_getElem? (i := 1303) rfl
set_option maxRecDepth 20000 in
theorem mw_1201 : (Cond.methodLink "PolicyCompilerModel" (244 : Nat) ({ cls := "PolicyCompilerModel", name := "acceptedOf", desc := "(I)J" } : MethodName)) ∈ lw_tbl := List.mem_of_getElem? (i := 1304) (by decide +kernel)
set_option maxRecDepth 20000 in
theorem mw_1203 : (Cond.instanceMethod ({ cls := "PolicyCompilerModel", name := "acceptedOf", desc := "(I)J" } : MethodName)) ∈ lw_tbl := List.mem_of_getElem? (i := 1306) (by decide +kernel)
set_option maxRecDepth 20000 in
theorem mw_1204 : (Cond.code ({ cls := "PolicyCompilerModel", name := "acceptedOf", desc := "(I)J" } : MethodName) prog_12_method_47_code (5 : Nat) (Option.some FieldType.long)) ∈ lw_tbl := List.mem_of_getElem? (i := 1307) rfl
set_option maxRecDepth 20000 in
theorem mw_1205 : (Cond.methodLink "PolicyCompilerLaw" (63 : Nat) ({ cls := "PolicyCompilerModel", name := "spread", desc := "(I)I" } : MethodName)) ∈ lw_tbl := List.mem_of_getElem? (i := 1308) (by decide +kernel)
set_option maxRecDepth 20000 in
theorem mw_1206 : (Cond.instanceMethod ({ cls := "PolicyCompilerModel", name := "spread", desc := "(I)I" } : MethodName)) ∈ lw_tbl := List.mem_of_getElem? (i := 1309) (by decide +kernel)
set_option maxRecDepth 20000 in
theorem mw_1207 : (Cond.selects "PolicyCompilerModel" ({ cls := "PolicyCompilerModel", name := "spread", desc := "(I)I" } : MethodName) ({ cls := "PolicyCompilerModel", name := "spread", desc := "(I)I" } : MethodName)) ∈ lw_tbl := List.mem_of_getElem? (i := 1310) (by decide +kernel)
set_option maxRecDepth 20000 in
theorem mw_1208 : (Cond.code ({ cls := "PolicyCompilerModel", name := "spread", desc := "(I)I" } : MethodName) prog_12_method_51_code (2 : Nat) (Option.some FieldType.int)) ∈ lw_tbl := List.mem_of_getElem? (i := 1311) rfl
set_option maxRecDepth 20000 in
theorem mw_1209 : (Cond.methodLink "PolicyCompilerModel" (252 : Nat) ({ cls := "PolicyCompilerModel", name := "spreadOf", desc := "(I)I" } : MethodName)) ∈ lw_tbl := List.mem_of_getElem? (i := 1312) (by decide +kernel)
set_option maxRecDepth 20000 in
theorem mw_1211 : (Cond.instanceMethod ({ cls := "PolicyCompilerModel", name := "spreadOf", desc := "(I)I" } : MethodName)) ∈ lw_tbl := List.mem_of_getElem? (i := 1314) (by decide +kernel)
set_option maxRecDepth 20000 in
theorem mw_1212 : (Cond.code ({ cls := "PolicyCompilerModel", name := "spreadOf", desc := "(I)I" } : MethodName) prog_12_method_50_code (4 : Nat) (Option.some FieldType.int)) ∈ lw_tbl := List.mem_of_getElem? (i := 1315) rfl
set_option maxRecDepth 20000 in
theorem mw_1213 : (Cond.methodLink "PolicyCompilerModel" (248 : Nat) ({ cls := "PolicyCompilerModel", name := "ones", desc := "(J)I" } : MethodName)) ∈ lw_tbl := List.mem_of_getElem? (i := 1316) (by decide +kernel)
set_option maxRecDepth 20000 in
theorem mw_1214 : (Cond.static ({ cls := "PolicyCompilerModel", name := "ones", desc := "(J)I" } : MethodName)) ∈ lw_tbl := List.mem_of_getElem? (i := 1317) (by decide +kernel)
set_option maxRecDepth 20000 in
theorem mw_1215 : (Cond.code ({ cls := "PolicyCompilerModel", name := "ones", desc := "(J)I" } : MethodName) prog_12_method_49_code (4 : Nat) (Option.some FieldType.int)) ∈ lw_tbl := List.mem_of_getElem? (i := 1318) rfl
set_option maxRecDepth 20000 in
theorem mw_1216 : (Cond.methodLink "PolicyCompilerLaw" (67 : Nat) ({ cls := "PolicyCompilerModel", name := "rounds", desc := "(I)I" } : MethodName)) ∈ lw_tbl := List.mem_of_getElem? (i := 1319) (by decide +kernel)
set_option maxRecDepth 20000 in
theorem mw_1217 : (Cond.instanceMethod ({ cls := "PolicyCompilerModel", name := "rounds", desc := "(I)I" } : MethodName)) ∈ lw_tbl := List.mem_of_getElem? (i := 1320) (by decide +kernel)
set_option maxRecDepth 20000 in
theorem mw_1218 : (Cond.selects "PolicyCompilerModel" ({ cls := "PolicyCompilerModel", name := "rounds", desc := "(I)I" } : MethodName) ({ cls := "PolicyCompilerModel", name := "rounds", desc := "(I)I" } : MethodName)) ∈ lw_tbl := List.mem_of_getElem? (i := 1321) (by decide +kernel)
set_option maxRecDepth 20000 in
theorem mw_1219 : (Cond.code ({ cls := "PolicyCompilerModel", name := "rounds", desc := "(I)I" } : MethodName) prog_12_method_53_code (2 : Nat) (Option.some FieldType.int)) ∈ lw_tbl := List.mem_of_getElem? (i := 1322) rfl
set_option maxRecDepth 20000 in
theorem mw_1220 : (Cond.methodLink "PolicyCompilerModel" (255 : Nat) ({ cls := "PolicyCompilerModel", name := "roundsOf", desc := "(I)I" } : MethodName)) ∈ lw_tbl := List.mem_of_getElem? (i := 1323) (by decide +kernel)
set_option maxRecDepth 20000 in
theorem mw_1222 : (Cond.instanceMethod ({ cls := "PolicyCompilerModel", name := "roundsOf", desc := "(I)I" } : MethodName)) ∈ lw_tbl := List.mem_of_getElem? (i := 1325) (by decide +kernel)
set_option maxRecDepth 20000 in
theorem mw_1223 : (Cond.code ({ cls := "PolicyCompilerModel", name := "roundsOf", desc := "(I)I" } : MethodName) prog_12_method_52_code (6 : Nat) (Option.some FieldType.int)) ∈ lw_tbl := List.mem_of_getElem? (i := 1326) rfl
set_option maxRecDepth 20000 in
theorem mw_1224 : (Cond.methodLink "PolicyCompilerLaw" (71 : Nat) ({ cls := "PolicyCompilerModel", name := "compare", desc := "(II)I" } : MethodName)) ∈ lw_tbl := List.mem_of_getElem? (i := 1327) (by decide +kernel)
set_option maxRecDepth 20000 in
theorem mw_1225 : (Cond.instanceMethod ({ cls := "PolicyCompilerModel", name := "compare", desc := "(II)I" } : MethodName)) ∈ lw_tbl := List.mem_of_getElem? (i := 1328) (by decide +kernel)
set_option maxRecDepth 20000 in
theorem mw_1226 : (Cond.selects "PolicyCompilerModel" ({ cls := "PolicyCompilerModel", name := "compare", desc := "(II)I" } : MethodName) ({ cls := "PolicyCompilerModel", name := "compare", desc := "(II)I" } : MethodName)) ∈ lw_tbl := List.mem_of_getElem? (i := 1329) (by decide +kernel)
set_option maxRecDepth 20000 in
theorem mw_1227 : (Cond.code ({ cls := "PolicyCompilerModel", name := "compare", desc := "(II)I" } : MethodName) prog_12_method_56_code (3 : Nat) (Option.some FieldType.int)) ∈ lw_tbl := List.mem_of_getElem? (i := 1330) rfl
set_option maxRecDepth 20000 in
theorem mw_1228 : (Cond.methodLink "PolicyCompilerModel" (261 : Nat) ({ cls := "PolicyCompilerModel", name := "compared", desc := "(II)I" } : MethodName)) ∈ lw_tbl := List.mem_of_getElem? (i := 1331) (by decide +kernel)
set_option maxRecDepth 20000 in
theorem mw_1230 : (Cond.instanceMethod ({ cls := "PolicyCompilerModel", name := "compared", desc := "(II)I" } : MethodName)) ∈ lw_tbl := List.mem_of_getElem? (i := 1333) (by decide +kernel)
set_option maxRecDepth 20000 in
theorem mw_1231 : (Cond.code ({ cls := "PolicyCompilerModel", name := "compared", desc := "(II)I" } : MethodName) prog_12_method_55_code (6 : Nat) (Option.some FieldType.int)) ∈ lw_tbl := List.mem_of_getElem? (i := 1334) rfl
set_option maxRecDepth 20000 in
theorem mw_1232 : (Cond.methodLink "PolicyCompilerModel" (258 : Nat) ({ cls := "PolicyCompilerModel", name := "laysBoth", desc := "(II)V" } : MethodName)) ∈ lw_tbl := List.mem_of_getElem? (i := 1335) (by decide +kernel)
set_option maxRecDepth 20000 in
theorem mw_1234 : (Cond.instanceMethod ({ cls := "PolicyCompilerModel", name := "laysBoth", desc := "(II)V" } : MethodName)) ∈ lw_tbl := List.mem_of_getElem? (i := 1337) (by decide +kernel)
set_option maxRecDepth 20000 in
theorem mw_1235 : (Cond.code ({ cls := "PolicyCompilerModel", name := "laysBoth", desc := "(II)V" } : MethodName) prog_12_method_54_code (4 : Nat) (Option.none : Option ClassFile.FieldType)) ∈ lw_tbl := List.mem_of_getElem? (i := 1338) rfl
set_option maxRecDepth 20000 in
theorem mw_1236 : (Cond.methodLink "PolicyCompilerLaw" (75 : Nat) ({ cls := "PolicyCompilerModel", name := "witness", desc := "(II)I" } : MethodName)) ∈ lw_tbl := List.mem_of_getElem? (i := 1339) (by decide +kernel)
set_option maxRecDepth 20000 in
theorem mw_1237 : (Cond.instanceMethod ({ cls := "PolicyCompilerModel", name := "witness", desc := "(II)I" } : MethodName)) ∈ lw_tbl := List.mem_of_getElem? (i := 1340) (by decide +kernel)
set_option maxRecDepth 20000 in
theorem mw_1238 : (Cond.selects "PolicyCompilerModel" ({ cls := "PolicyCompilerModel", name := "witness", desc := "(II)I" } : MethodName) ({ cls := "PolicyCompilerModel", name := "witness", desc := "(II)I" } : MethodName)) ∈ lw_tbl := List.mem_of_getElem? (i := 1341) (by decide +kernel)
set_option maxRecDepth 20000 in
theorem mw_1239 : (Cond.code ({ cls := "PolicyCompilerModel", name := "witness", desc := "(II)I" } : MethodName) prog_12_method_58_code (3 : Nat) (Option.some FieldType.int)) ∈ lw_tbl := List.mem_of_getElem? (i := 1342) rfl
set_option maxRecDepth 20000 in
theorem mw_1240 : (Cond.methodLink "PolicyCompilerModel" (264 : Nat) ({ cls := "PolicyCompilerModel", name := "witnessOf", desc := "(II)I" } : MethodName)) ∈ lw_tbl := List.mem_of_getElem? (i := 1343) (by decide +kernel)
set_option maxRecDepth 20000 in
theorem mw_1242 : (Cond.instanceMethod ({ cls := "PolicyCompilerModel", name := "witnessOf", desc := "(II)I" } : MethodName)) ∈ lw_tbl := List.mem_of_getElem? (i := 1345) (by decide +kernel)
set_option maxRecDepth 20000 in
theorem mw_1243 : (Cond.code ({ cls := "PolicyCompilerModel", name := "witnessOf", desc := "(II)I" } : MethodName) prog_12_method_57_code (4 : Nat) (Option.some FieldType.int)) ∈ lw_tbl := List.mem_of_getElem? (i := 1346) rfl
set_option maxRecDepth 20000 in
theorem mw_1244 : (Cond.methodLink "PolicyCompilerLaw" (79 : Nat) ({ cls := "PolicyCompilerModel", name := "difference", desc := "(II)I" } : MethodName)) ∈ lw_tbl := List.mem_of_getElem? (i := 1347) (by decide +kernel)
set_option maxRecDepth 20000 in
theorem mw_1245 : (Cond.instanceMethod ({ cls := "PolicyCompilerModel", name := "difference", desc := "(II)I" } : MethodName)) ∈ lw_tbl := List.mem_of_getElem? (i := 1348) (by decide +kernel)
set_option maxRecDepth 20000 in
theorem mw_1246 : (Cond.selects "PolicyCompilerModel" ({ cls := "PolicyCompilerModel", name := "difference", desc := "(II)I" } : MethodName) ({ cls := "PolicyCompilerModel", name := "difference", desc := "(II)I" } : MethodName)) ∈ lw_tbl := List.mem_of_getElem? (i := 1349) (by decide +kernel)
set_option maxRecDepth 20000 in
theorem mw_1247 : (Cond.code ({ cls := "PolicyCompilerModel", name := "difference", desc := "(II)I" } : MethodName) prog_12_method_59_code (5 : Nat) (Option.some FieldType.int)) ∈ lw_tbl := List.mem_of_getElem? (i := 1350) rfl
set_option maxRecDepth 20000 in
theorem mw_1248 : (Cond.methodLink "PolicyCompilerLaw" (83 : Nat) ({ cls := "PolicyCompilerModel", name := "diagramSize", desc := "(I)I" } : MethodName)) ∈ lw_tbl := List.mem_of_getElem? (i := 1351) (by decide +kernel)
set_option maxRecDepth 20000 in
theorem mw_1249 : (Cond.instanceMethod ({ cls := "PolicyCompilerModel", name := "diagramSize", desc := "(I)I" } : MethodName)) ∈ lw_tbl := List.mem_of_getElem? (i := 1352) (by decide +kernel)
set_option maxRecDepth 20000 in
theorem mw_1250 : (Cond.selects "PolicyCompilerModel" ({ cls := "PolicyCompilerModel", name := "diagramSize", desc := "(I)I" } : MethodName) ({ cls := "PolicyCompilerModel", name := "diagramSize", desc := "(I)I" } : MethodName)) ∈ lw_tbl := List.mem_of_getElem? (i := 1353) (by decide +kernel)
set_option maxRecDepth 20000 in
theorem mw_1251 : (Cond.code ({ cls := "PolicyCompilerModel", name := "diagramSize", desc := "(I)I" } : MethodName) prog_12_method_68_code (2 : Nat) (Option.some FieldType.int)) ∈ lw_tbl := List.mem_of_getElem? (i := 1354) rfl
set_option maxRecDepth 20000 in
theorem mw_1252 : (Cond.methodLink "PolicyCompilerModel" (294 : Nat) ({ cls := "PolicyCompilerModel", name := "sizeOf", desc := "(I)I" } : MethodName)) ∈ lw_tbl := List.mem_of_getElem? (i := 1355) (by decide +kernel)
set_option maxRecDepth 20000 in
theorem mw_1254 : (Cond.instanceMethod ({ cls := "PolicyCompilerModel", name := "sizeOf", desc := "(I)I" } : MethodName)) ∈ lw_tbl := List.mem_of_getElem? (i := 1357) (by decide +kernel)
set_option maxRecDepth 20000 in
theorem mw_1255 : (Cond.code ({ cls := "PolicyCompilerModel", name := "sizeOf", desc := "(I)I" } : MethodName) prog_12_method_67_code (2 : Nat) (Option.some FieldType.int)) ∈ lw_tbl := List.mem_of_getElem? (i := 1358) rfl
set_option maxRecDepth 20000 in
theorem mw_1256 : (Cond.methodLink "PolicyCompilerModel" (291 : Nat) ({ cls := "PolicyCompilerModel", name := "drawsAlone", desc := "(I)I" } : MethodName)) ∈ lw_tbl := List.mem_of_getElem? (i := 1359) (by decide +kernel)
set_option maxRecDepth 20000 in
theorem mw_1258 : (Cond.instanceMethod ({ cls := "PolicyCompilerModel", name := "drawsAlone", desc := "(I)I" } : MethodName)) ∈ lw_tbl := List.mem_of_getElem? (i := 1361) (by decide +kernel)
set_option maxRecDepth 20000 in
theorem mw_1259 : (Cond.code ({ cls := "PolicyCompilerModel", name := "drawsAlone", desc := "(I)I" } : MethodName) prog_12_method_66_code (2 : Nat) (Option.some FieldType.int)) ∈ lw_tbl := List.mem_of_getElem? (i := 1362) rfl
set_option maxRecDepth 20000 in
theorem mw_1260 : (Cond.methodLink "PolicyCompilerModel" (285 : Nat) ({ cls := "PolicyCompilerModel", name := "clears", desc := "()V" } : MethodName)) ∈ lw_tbl := List.mem_of_getElem? (i := 1363) (by decide +kernel)
set_option maxRecDepth 20000 in
theorem mw_1262 : (Cond.instanceMethod ({ cls := "PolicyCompilerModel", name := "clears", desc := "()V" } : MethodName)) ∈ lw_tbl := List.mem_of_getElem? (i := 1365) (by decide +kernel)
set_option maxRecDepth 20000 in
theorem mw_1263 : (Cond.code ({ cls := "PolicyCompilerModel", name := "clears", desc := "()V" } : MethodName) prog_12_method_65_code (2 : Nat) (Option.none : Option ClassFile.FieldType)) ∈ lw_tbl := List.mem_of_getElem? (i := 1366) rfl
set_option maxRecDepth 20000 in
theorem mw_1264 : (Cond.methodLink "PolicyCompilerModel" (288 : Nat) ({ cls := "PolicyCompilerModel", name := "draws", desc := "(II)I" } : MethodName)) ∈ lw_tbl := List.mem_of_getElem? (i := 1367) (by decide +kernel)
set_option maxRecDepth 20000 in
theorem mw_1266 : (Cond.instanceMethod ({ cls := "PolicyCompilerModel", name := "draws", desc := "(II)I" } : MethodName)) ∈ lw_tbl := List.mem_of_getElem? (i := 1369) (by decide +kernel)
set_option maxRecDepth 20000 in
theorem mw_1267 : (Cond.code ({ cls := "PolicyCompilerModel", name := "draws", desc := "(II)I" } : MethodName) prog_12_method_64_code (6 : Nat) (Option.some FieldType.int)) ∈ lw_tbl := List.mem_of_getElem? (i := 1370) rfl
set_option maxRecDepth 20000 in
theorem mw_1268 : (Cond.methodLink "PolicyCompilerModel" (279 : Nat) ({ cls := "PolicyCompilerModel", name := "leafOf", desc := "(I)I" } : MethodName)) ∈ lw_tbl := List.mem_of_getElem? (i := 1371) (by decide +kernel)
set_option maxRecDepth 20000 in
theorem mw_1270 : (Cond.instanceMethod ({ cls := "PolicyCompilerModel", name := "leafOf", desc := "(I)I" } : MethodName)) ∈ lw_tbl := List.mem_of_getElem? (i := 1373) (by decide +kernel)
set_option maxRecDepth 20000 in
theorem mw_1271 : (Cond.code ({ cls := "PolicyCompilerModel", name := "leafOf", desc := "(I)I" } : MethodName) prog_12_method_61_code (8 : Nat) (Option.some FieldType.int)) ∈ lw_tbl := List.mem_of_getElem? (i := 1374) rfl
set_option maxRecDepth 20000 in
theorem mw_1272 : (Cond.methodLink "PolicyCompilerModel" (267 : Nat) ({ cls := "PolicyCompilerModel", name := "actionOf", desc := "(II)I" } : MethodName)) ∈ lw_tbl := List.mem_of_getElem? (i := 1375) (by decide +kernel)
set_option maxRecDepth 20000 in
theorem mw_1273 : (Cond.static ({ cls := "PolicyCompilerModel", name := "actionOf", desc := "(II)I" } : MethodName)) ∈ lw_tbl := List.mem_of_getElem? (i := 1376) (by decide +kernel)
set_option maxRecDepth 20000 in
theorem mw_1274 : (Cond.code ({ cls := "PolicyCompilerModel", name := "actionOf", desc := "(II)I" } : MethodName) prog_12_method_60_code (4 : Nat) (Option.some FieldType.int)) ∈ lw_tbl := List.mem_of_getElem? (i := 1377) rfl
set_option maxRecDepth 20000 in
theorem mw_1275 : (Cond.methodLink "PolicyCompilerModel" (282 : Nat) ({ cls := "PolicyCompilerModel", name := "nodeOver", desc := "(II)I" } : MethodName)) ∈ lw_tbl := List.mem_of_getElem? (i := 1378) (by decide +kernel)
set_option maxRecDepth 20000 in
theorem mw_1277 : (Cond.instanceMethod ({ cls := "PolicyCompilerModel", name := "nodeOver", desc := "(II)I" } : MethodName)) ∈ lw_tbl := List.mem_of_getElem? (i := 1380) (by decide +kernel)
set_option maxRecDepth 20000 in
theorem mw_1278 : (Cond.code ({ cls := "PolicyCompilerModel", name := "nodeOver", desc := "(II)I" } : MethodName) prog_12_method_62_code (6 : Nat) (Option.some FieldType.int)) ∈ lw_tbl := List.mem_of_getElem? (i := 1381) rfl
set_option maxRecDepth 20000 in
theorem mw_1279 : (Cond.methodLink "PolicyCompilerModel" (276 : Nat) ({ cls := "PolicyCompilerModel", name := "isTest", desc := "(III)Z" } : MethodName)) ∈ lw_tbl := List.mem_of_getElem? (i := 1382) (by decide +kernel)
set_option maxRecDepth 20000 in
theorem mw_1281 : (Cond.instanceMethod ({ cls := "PolicyCompilerModel", name := "isTest", desc := "(III)Z" } : MethodName)) ∈ lw_tbl := List.mem_of_getElem? (i := 1384) (by decide +kernel)
set_option maxRecDepth 20000 in
theorem mw_1282 : (Cond.code ({ cls := "PolicyCompilerModel", name := "isTest", desc := "(III)Z" } : MethodName) prog_12_method_63_code (6 : Nat) (Option.some FieldType.boolean)) ∈ lw_tbl := List.mem_of_getElem? (i := 1385) rfl
set_option maxRecDepth 20000 in
theorem mw_1283 : (Cond.methodLink "PolicyCompilerLaw" (87 : Nat) ({ cls := "PolicyCompilerModel", name := "leaves", desc := "(I)I" } : MethodName)) ∈ lw_tbl := List.mem_of_getElem? (i := 1386) (by decide +kernel)
set_option maxRecDepth 20000 in
theorem mw_1284 : (Cond.instanceMethod ({ cls := "PolicyCompilerModel", name := "leaves", desc := "(I)I" } : MethodName)) ∈ lw_tbl := List.mem_of_getElem? (i := 1387) (by decide +kernel)
set_option maxRecDepth 20000 in
theorem mw_1285 : (Cond.selects "PolicyCompilerModel" ({ cls := "PolicyCompilerModel", name := "leaves", desc := "(I)I" } : MethodName) ({ cls := "PolicyCompilerModel", name := "leaves", desc := "(I)I" } : MethodName)) ∈ lw_tbl := List.mem_of_getElem? (i := 1388) (by decide +kernel)
set_option maxRecDepth 20000 in
theorem mw_1286 : (Cond.code ({ cls := "PolicyCompilerModel", name := "leaves", desc := "(I)I" } : MethodName) prog_12_method_70_code (2 : Nat) (Option.some FieldType.int)) ∈ lw_tbl := List.mem_of_getElem? (i := 1389) rfl
set_option maxRecDepth 20000 in
theorem mw_1287 : (Cond.methodLink "PolicyCompilerModel" (297 : Nat) ({ cls := "PolicyCompilerModel", name := "leavesOf", desc := "(I)I" } : MethodName)) ∈ lw_tbl := List.mem_of_getElem? (i := 1390) (by decide +kernel)
set_option maxRecDepth 20000 in
theorem mw_1289 : (Cond.instanceMethod ({ cls := "PolicyCompilerModel", name := "leavesOf", desc := "(I)I" } : MethodName)) ∈ lw_tbl := List.mem_of_getElem? (i := 1392) (by decide +kernel)
set_option maxRecDepth 20000 in
theorem mw_1290 : (Cond.code ({ cls := "PolicyCompilerModel", name := "leavesOf", desc := "(I)I" } : MethodName) prog_12_method_69_code (2 : Nat) (Option.some FieldType.int)) ∈ lw_tbl := List.mem_of_getElem? (i := 1393) rfl
set_option maxRecDepth 20000 in
theorem mw_1291 : (Cond.methodLink "PolicyCompilerLaw" (91 : Nat) ({ cls := "PolicyCompilerModel", name := "diagramDepth", desc := "(I)I" } : MethodName)) ∈ lw_tbl := List.mem_of_getElem? (i := 1394) (by decide +kernel)
set_option maxRecDepth 20000 in
theorem mw_1292 : (Cond.instanceMethod ({ cls := "PolicyCompilerModel", name := "diagramDepth", desc := "(I)I" } : MethodName)) ∈ lw_tbl := List.mem_of_getElem? (i := 1395) (by decide +kernel)
set_option maxRecDepth 20000 in
theorem mw_1293 : (Cond.selects "PolicyCompilerModel" ({ cls := "PolicyCompilerModel", name := "diagramDepth", desc := "(I)I" } : MethodName) ({ cls := "PolicyCompilerModel", name := "diagramDepth", desc := "(I)I" } : MethodName)) ∈ lw_tbl := List.mem_of_getElem? (i := 1396) (by decide +kernel)
set_option maxRecDepth 20000 in
theorem mw_1294 : (Cond.code ({ cls := "PolicyCompilerModel", name := "diagramDepth", desc := "(I)I" } : MethodName) prog_12_method_72_code (2 : Nat) (Option.some FieldType.int)) ∈ lw_tbl := List.mem_of_getElem? (i := 1397) rfl
set_option maxRecDepth 20000 in
theorem mw_1295 : (Cond.methodLink "PolicyCompilerModel" (300 : Nat) ({ cls := "PolicyCompilerModel", name := "depthOf", desc := "(I)I" } : MethodName)) ∈ lw_tbl := List.mem_of_getElem? (i := 1398) (by decide +kernel)
set_option maxRecDepth 20000 in
theorem mw_1297 : (Cond.instanceMethod ({ cls := "PolicyCompilerModel", name := "depthOf", desc := "(I)I" } : MethodName)) ∈ lw_tbl := List.mem_of_getElem? (i := 1400) (by decide +kernel)
set_option maxRecDepth 20000 in
theorem mw_1298 : (Cond.code ({ cls := "PolicyCompilerModel", name := "depthOf", desc := "(I)I" } : MethodName) prog_12_method_71_code (7 : Nat) (Option.some FieldType.int)) ∈ lw_tbl := List.mem_of_getElem? (i := 1401) rfl
set_option maxRecDepth 20000 in
theorem mw_1299 : (Cond.methodLink "PolicyCompilerLaw" (95 : Nat) ({ cls := "PolicyCompilerModel", name := "sharedNodes", desc := "(II)I" } : MethodName)) ∈ lw_tbl := List.mem_of_getElem? (i := 1402) (by decide +kernel)
set_option maxRecDepth 20000 in
theorem mw_1300 : (Cond.instanceMethod ({ cls := "PolicyCompilerModel", name := "sharedNodes", desc := "(II)I" } : MethodName)) ∈ lw_tbl := List.mem_of_getElem? (i := 1403) (by decide +kernel)
set_option maxRecDepth 20000 in
theorem mw_1301 : (Cond.selects "PolicyCompilerModel" ({ cls := "PolicyCompilerModel", name := "sharedNodes", desc := "(II)I" } : MethodName) ({ cls := "PolicyCompilerModel", name := "sharedNodes", desc := "(II)I" } : MethodName)) ∈ lw_tbl := List.mem_of_getElem? (i := 1404) (by decide +kernel)
set_option maxRecDepth 20000 in
theorem mw_1302 : (Cond.code ({ cls := "PolicyCompilerModel", name := "sharedNodes", desc := "(II)I" } : MethodName) prog_12_method_73_code (7 : Nat) (Option.some FieldType.int)) ∈ lw_tbl := List.mem_of_getElem? (i := 1405) rfl
set_option maxRecDepth 20000 in
theorem mw_1303 : (Cond.methodLink "PolicyCompilerLaw" (99 : Nat) ({ cls := "PolicyCompilerModel", name := "rows", desc := "(I)I" } : MethodName)) ∈ lw_tbl := List.mem_of_getElem? (i := 1406) (by decide +kernel)
set_option maxRecDepth 20000 in
theorem mw_1304 : (Cond.instanceMethod ({ cls := "PolicyCompilerModel", name := "rows", desc := "(I)I" } : MethodName)) ∈ lw_tbl := List.mem_of_getElem? (i := 1407) (by decide +kernel)
set_option maxRecDepth 20000 in
theorem mw_1305 : (Cond.selects "PolicyCompilerModel" ({ cls := "PolicyCompilerModel", name := "rows", desc := "(I)I" } : MethodName) ({ cls := "PolicyCompilerModel", name := "rows", desc := "(I)I" } : MethodName)) ∈ lw_tbl := List.mem_of_getElem? (i := 1408) (by decide +kernel)
set_option maxRecDepth 20000 in
theorem mw_1306 : (Cond.code ({ cls := "PolicyCompilerModel", name := "rows", desc := "(I)I" } : MethodName) prog_12_method_78_code (2 : Nat) (Option.some FieldType.int)) ∈ lw_tbl := List.mem_of_getElem? (i := 1409) rfl
set_option maxRecDepth 20000 in
theorem mw_1307 : (Cond.methodLink "PolicyCompilerModel" (312 : Nat) ({ cls := "PolicyCompilerModel", name := "tabulates", desc := "(I)V" } : MethodName)) ∈ lw_tbl := List.mem_of_getElem? (i := 1410) (by decide +kernel)
set_option maxRecDepth 20000 in
theorem mw_1309 : (Cond.instanceMethod ({ cls := "PolicyCompilerModel", name := "tabulates", desc := "(I)V" } : MethodName)) ∈ lw_tbl := List.mem_of_getElem? (i := 1412) (by decide +kernel)
set_option maxRecDepth 20000 in
theorem mw_1310 : (Cond.code ({ cls := "PolicyCompilerModel", name := "tabulates", desc := "(I)V" } : MethodName) prog_12_method_76_code (8 : Nat) (Option.none : Option ClassFile.FieldType)) ∈ lw_tbl := List.mem_of_getElem? (i := 1413) rfl
set_option maxRecDepth 20000 in
theorem mw_1311 : (Cond.methodLink "PolicyCompilerModel" (306 : Nat) ({ cls := "PolicyCompilerModel", name := "mainOf", desc := "(I)I" } : MethodName)) ∈ lw_tbl := List.mem_of_getElem? (i := 1414) (by decide +kernel)
set_option maxRecDepth 20000 in
theorem mw_1313 : (Cond.instanceMethod ({ cls := "PolicyCompilerModel", name := "mainOf", desc := "(I)I" } : MethodName)) ∈ lw_tbl := List.mem_of_getElem? (i := 1416) (by decide +kernel)
set_option maxRecDepth 20000 in
theorem mw_1314 : (Cond.code ({ cls := "PolicyCompilerModel", name := "mainOf", desc := "(I)I" } : MethodName) prog_12_method_75_code (7 : Nat) (Option.some FieldType.int)) ∈ lw_tbl := List.mem_of_getElem? (i := 1417) rfl
set_option maxRecDepth 20000 in
theorem mw_1315 : (Cond.methodLink "PolicyCompilerModel" (309 : Nat) ({ cls := "PolicyCompilerModel", name := "fives", desc := "(I)I" } : MethodName)) ∈ lw_tbl := List.mem_of_getElem? (i := 1418) (by decide +kernel)
set_option maxRecDepth 20000 in
theorem mw_1316 : (Cond.static ({ cls := "PolicyCompilerModel", name := "fives", desc := "(I)I" } : MethodName)) ∈ lw_tbl := List.mem_of_getElem? (i := 1419) (by decide +kernel)
set_option maxRecDepth 20000 in
theorem mw_1317 : (Cond.code ({ cls := "PolicyCompilerModel", name := "fives", desc := "(I)I" } : MethodName) prog_12_method_74_code (1 : Nat) (Option.some FieldType.int)) ∈ lw_tbl := List.mem_of_getElem? (i := 1420) rfl
set_option maxRecDepth 20000 in
theorem mw_1318 : (Cond.methodLink "PolicyCompilerLaw" (103 : Nat) ({ cls := "PolicyCompilerModel", name := "match", desc := "(III)I" } : MethodName)) ∈ lw_tbl := List.mem_of_getElem? (i := 1421) (by decide +kernel)
set_option maxRecDepth 20000 in
theorem mw_1319 : (Cond.instanceMethod ({ cls := "PolicyCompilerModel", name := "match", desc := "(III)I" } : MethodName)) ∈ lw_tbl := List.mem_of_getElem? (i := 1422) (by decide +kernel)
set_option maxRecDepth 20000 in
theorem mw_1320 : (Cond.selects "PolicyCompilerModel" ({ cls := "PolicyCompilerModel", name := "match", desc := "(III)I" } : MethodName) ({ cls := "PolicyCompilerModel", name := "match", desc := "(III)I" } : MethodName)) ∈ lw_tbl := List.mem_of_getElem? (i := 1423) (by decide +kernel)
set_option maxRecDepth 20000 in
theorem mw_1321 : (Cond.code ({ cls := "PolicyCompilerModel", name := "match", desc := "(III)I" } : MethodName) prog_12_method_80_code (4 : Nat) (Option.some FieldType.int)) ∈ lw_tbl := List.mem_of_getElem? (i := 1424) rfl
set_option maxRecDepth 20000 in
theorem mw_1322 : (Cond.methodLink "PolicyCompilerModel" (315 : Nat) ({ cls := "PolicyCompilerModel", name := "hasRow", desc := "(II)Z" } : MethodName)) ∈ lw_tbl := List.mem_of_getElem? (i := 1425) (by decide +kernel)
set_option maxRecDepth 20000 in
theorem mw_1324 : (Cond.instanceMethod ({ cls := "PolicyCompilerModel", name := "hasRow", desc := "(II)Z" } : MethodName)) ∈ lw_tbl := List.mem_of_getElem? (i := 1427) (by decide +kernel)
set_option maxRecDepth 20000 in
theorem mw_1325 : (Cond.code ({ cls := "PolicyCompilerModel", name := "hasRow", desc := "(II)Z" } : MethodName) prog_12_method_79_code (3 : Nat) (Option.some FieldType.boolean)) ∈ lw_tbl := List.mem_of_getElem? (i := 1428) rfl
set_option maxRecDepth 20000 in
theorem mw_1326 : (Cond.methodLink "PolicyCompilerModel" (319 : Nat) ({ cls := "PolicyCompilerModel", name := "demandOf", desc := "(II)I" } : MethodName)) ∈ lw_tbl := List.mem_of_getElem? (i := 1429) (by decide +kernel)
set_option maxRecDepth 20000 in
theorem mw_1327 : (Cond.static ({ cls := "PolicyCompilerModel", name := "demandOf", desc := "(II)I" } : MethodName)) ∈ lw_tbl := List.mem_of_getElem? (i := 1430) (by decide +kernel)
set_option maxRecDepth 20000 in
theorem mw_1328 : (Cond.code ({ cls := "PolicyCompilerModel", name := "demandOf", desc := "(II)I" } : MethodName) prog_12_method_77_code (2 : Nat) (Option.some FieldType.int)) ∈ lw_tbl := List.mem_of_getElem? (i := 1431) rfl
set_option maxRecDepth 20000 in
theorem mw_1329 : (Cond.methodLink "PolicyCompilerLaw" (107 : Nat) ({ cls := "PolicyCompilerModel", name := "action", desc := "(III)I" } : MethodName)) ∈ lw_tbl := List.mem_of_getElem? (i := 1432) (by decide +kernel)
set_option maxRecDepth 20000 in
theorem mw_1330 : (Cond.instanceMethod ({ cls := "PolicyCompilerModel", name := "action", desc := "(III)I" } : MethodName)) ∈ lw_tbl := List.mem_of_getElem? (i := 1433) (by decide +kernel)
set_option maxRecDepth 20000 in
theorem mw_1331 : (Cond.selects "PolicyCompilerModel" ({ cls := "PolicyCompilerModel", name := "action", desc := "(III)I" } : MethodName) ({ cls := "PolicyCompilerModel", name := "action", desc := "(III)I" } : MethodName)) ∈ lw_tbl := List.mem_of_getElem? (i := 1434) (by decide +kernel)
set_option maxRecDepth 20000 in
theorem mw_1332 : (Cond.code ({ cls := "PolicyCompilerModel", name := "action", desc := "(III)I" } : MethodName) prog_12_method_83_code (4 : Nat) (Option.some FieldType.int)) ∈ lw_tbl := List.mem_of_getElem? (i := 1435) rfl
set_option maxRecDepth 20000 in
theorem mw_1333 : (Cond.methodLink "PolicyCompilerModel" (325 : Nat) ({ cls := "PolicyCompilerModel", name := "actionAt", desc := "(II)I" } : MethodName)) ∈ lw_tbl := List.mem_of_getElem? (i := 1436) (by decide +kernel)
set_option maxRecDepth 20000 in
theorem mw_1335 : (Cond.instanceMethod ({ cls := "PolicyCompilerModel", name := "actionAt", desc := "(II)I" } : MethodName)) ∈ lw_tbl := List.mem_of_getElem? (i := 1438) (by decide +kernel)
set_option maxRecDepth 20000 in
theorem mw_1336 : (Cond.code ({ cls := "PolicyCompilerModel", name := "actionAt", desc := "(II)I" } : MethodName) prog_12_method_82_code (5 : Nat) (Option.some FieldType.int)) ∈ lw_tbl := List.mem_of_getElem? (i := 1439) rfl
set_option maxRecDepth 20000 in
theorem mw_1337 : (Cond.methodLink "PolicyCompilerModel" (322 : Nat) ({ cls := "PolicyCompilerModel", name := "hasAction", desc := "(II)Z" } : MethodName)) ∈ lw_tbl := List.mem_of_getElem? (i := 1440) (by decide +kernel)
set_option maxRecDepth 20000 in
theorem mw_1339 : (Cond.instanceMethod ({ cls := "PolicyCompilerModel", name := "hasAction", desc := "(II)Z" } : MethodName)) ∈ lw_tbl := List.mem_of_getElem? (i := 1442) (by decide +kernel)
set_option maxRecDepth 20000 in
theorem mw_1340 : (Cond.code ({ cls := "PolicyCompilerModel", name := "hasAction", desc := "(II)Z" } : MethodName) prog_12_method_81_code (5 : Nat) (Option.some FieldType.boolean)) ∈ lw_tbl := List.mem_of_getElem? (i := 1443) rfl
set_option maxRecDepth 20000 in
theorem mw_1341 : (Cond.methodLink "PolicyCompilerLaw" (111 : Nat) ({ cls := "PolicyCompilerModel", name := "hit", desc := "(II)I" } : MethodName)) ∈ lw_tbl := List.mem_of_getElem? (i := 1444) (by decide +kernel)
set_option maxRecDepth 20000 in
theorem mw_1342 : (Cond.instanceMethod ({ cls := "PolicyCompilerModel", name := "hit", desc := "(II)I" } : MethodName)) ∈ lw_tbl := List.mem_of_getElem? (i := 1445) (by decide +kernel)
set_option maxRecDepth 20000 in
theorem mw_1343 : (Cond.selects "PolicyCompilerModel" ({ cls := "PolicyCompilerModel", name := "hit", desc := "(II)I" } : MethodName) ({ cls := "PolicyCompilerModel", name := "hit", desc := "(II)I" } : MethodName)) ∈ lw_tbl := List.mem_of_getElem? (i := 1446) (by decide +kernel)
set_option maxRecDepth 20000 in
theorem mw_1344 : (Cond.code ({ cls := "PolicyCompilerModel", name := "hit", desc := "(II)I" } : MethodName) prog_12_method_85_code (3 : Nat) (Option.some FieldType.int)) ∈ lw_tbl := List.mem_of_getElem? (i := 1447) rfl
set_option maxRecDepth 20000 in
theorem mw_1345 : (Cond.methodLink "PolicyCompilerModel" (328 : Nat) ({ cls := "PolicyCompilerModel", name := "hitOf", desc := "(I)I" } : MethodName)) ∈ lw_tbl := List.mem_of_getElem? (i := 1448) (by decide +kernel)
set_option maxRecDepth 20000 in
theorem mw_1347 : (Cond.instanceMethod ({ cls := "PolicyCompilerModel", name := "hitOf", desc := "(I)I" } : MethodName)) ∈ lw_tbl := List.mem_of_getElem? (i := 1450) (by decide +kernel)
set_option maxRecDepth 20000 in
theorem mw_1348 : (Cond.code ({ cls := "PolicyCompilerModel", name := "hitOf", desc := "(I)I" } : MethodName) prog_12_method_84_code (6 : Nat) (Option.some FieldType.int)) ∈ lw_tbl := List.mem_of_getElem? (i := 1451) rfl
set_option maxRecDepth 20000 in
theorem mw_1349 : (Cond.methodLink "PolicyCompilerLaw" (115 : Nat) ({ cls := "PolicyCompilerModel", name := "hits", desc := "(II)I" } : MethodName)) ∈ lw_tbl := List.mem_of_getElem? (i := 1452) (by decide +kernel)
set_option maxRecDepth 20000 in
theorem mw_1350 : (Cond.instanceMethod ({ cls := "PolicyCompilerModel", name := "hits", desc := "(II)I" } : MethodName)) ∈ lw_tbl := List.mem_of_getElem? (i := 1453) (by decide +kernel)
set_option maxRecDepth 20000 in
theorem mw_1351 : (Cond.selects "PolicyCompilerModel" ({ cls := "PolicyCompilerModel", name := "hits", desc := "(II)I" } : MethodName) ({ cls := "PolicyCompilerModel", name := "hits", desc := "(II)I" } : MethodName)) ∈ lw_tbl := List.mem_of_getElem? (i := 1454) (by decide +kernel)
set_option maxRecDepth 20000 in
theorem mw_1352 : (Cond.code ({ cls := "PolicyCompilerModel", name := "hits", desc := "(II)I" } : MethodName) prog_12_method_86_code (5 : Nat) (Option.some FieldType.int)) ∈ lw_tbl := List.mem_of_getElem? (i := 1455) rfl
set_option maxRecDepth 20000 in
theorem mw_1353 : (Cond.methodLink "PolicyCompilerLaw" (123 : Nat) ({ cls := "PolicyCompilerModel", name := "errorCount", desc := "(I)I" } : MethodName)) ∈ lw_tbl := List.mem_of_getElem? (i := 1456) (by decide +kernel)
set_option maxRecDepth 20000 in
theorem mw_1354 : (Cond.instanceMethod ({ cls := "PolicyCompilerModel", name := "errorCount", desc := "(I)I" } : MethodName)) ∈ lw_tbl := List.mem_of_getElem? (i := 1457) (by decide +kernel)
set_option maxRecDepth 20000 in
theorem mw_1355 : (Cond.selects "PolicyCompilerModel" ({ cls := "PolicyCompilerModel", name := "errorCount", desc := "(I)I" } : MethodName) ({ cls := "PolicyCompilerModel", name := "errorCount", desc := "(I)I" } : MethodName)) ∈ lw_tbl := List.mem_of_getElem? (i := 1458) (by decide +kernel)
set_option maxRecDepth 20000 in
theorem mw_1356 : (Cond.code ({ cls := "PolicyCompilerModel", name := "errorCount", desc := "(I)I" } : MethodName) prog_12_method_87_code (2 : Nat) (Option.some FieldType.int)) ∈ lw_tbl := List.mem_of_getElem? (i := 1459) rfl
set_option maxRecDepth 20000 in
theorem mw_1357 : (Cond.methodLink "PolicyCompilerLaw" (128 : Nat) ({ cls := "PolicyCompilerModel", name := "digest", desc := "()J" } : MethodName)) ∈ lw_tbl := List.mem_of_getElem? (i := 1460) (by decide +kernel)
set_option maxRecDepth 20000 in
theorem mw_1358 : (Cond.instanceMethod ({ cls := "PolicyCompilerModel", name := "digest", desc := "()J" } : MethodName)) ∈ lw_tbl := List.mem_of_getElem? (i := 1461) (by decide +kernel)
set_option maxRecDepth 20000 in
theorem mw_1359 : (Cond.selects "PolicyCompilerModel" ({ cls := "PolicyCompilerModel", name := "digest", desc := "()J" } : MethodName) ({ cls := "PolicyCompilerModel", name := "digest", desc := "()J" } : MethodName)) ∈ lw_tbl := List.mem_of_getElem? (i := 1462) (by decide +kernel)
set_option maxRecDepth 20000 in
theorem mw_1360 : (Cond.code ({ cls := "PolicyCompilerModel", name := "digest", desc := "()J" } : MethodName) prog_12_method_90_code (3 : Nat) (Option.some FieldType.long)) ∈ lw_tbl := List.mem_of_getElem? (i := 1463) rfl
set_option maxRecDepth 20000 in
theorem mw_1361 : (Cond.constantLong "PolicyCompilerModel" (341 : Nat) (2729 : Int64)) ∈ lw_tbl := List.mem_of_getElem? (i := 1464) (by decide +kernel)
set_option maxRecDepth 20000 in
theorem mw_1362 : (Cond.methodLink "PolicyCompilerModel" (337 : Nat) ({ cls := "PolicyCompilerModel", name := "mix", desc := "(J)V" } : MethodName)) ∈ lw_tbl := List.mem_of_getElem? (i := 1465) (by decide +kernel)
set_option maxRecDepth 20000 in
theorem mw_1364 : (Cond.instanceMethod ({ cls := "PolicyCompilerModel", name := "mix", desc := "(J)V" } : MethodName)) ∈ lw_tbl := List.mem_of_getElem? (i := 1467) (by decide +kernel)
set_option maxRecDepth 20000 in
theorem mw_1365 : (Cond.code ({ cls := "PolicyCompilerModel", name := "mix", desc := "(J)V" } : MethodName) prog_12_method_88_code (3 : Nat) (Option.none : Option ClassFile.FieldType)) ∈ lw_tbl := List.mem_of_getElem? (i := 1468) rfl
set_option maxRecDepth 20000 in
theorem mw_1366 : (Cond.constantLong "PolicyCompilerModel" (331 : Nat) (31 : Int64)) ∈ lw_tbl := List.mem_of_getElem? (i := 1469) (by decide +kernel)
set_option maxRecDepth 20000 in
theorem mw_1367 : (Cond.methodLink "PolicyCompilerModel" (343 : Nat) ({ cls := "PolicyCompilerModel", name := "mixSlot", desc := "(I)V" } : MethodName)) ∈ lw_tbl := List.mem_of_getElem? (i := 1470) (by decide +kernel)
set_option maxRecDepth 20000 in
theorem mw_1369 : (Cond.instanceMethod ({ cls := "PolicyCompilerModel", name := "mixSlot", desc := "(I)V" } : MethodName)) ∈ lw_tbl := List.mem_of_getElem? (i := 1472) (by decide +kernel)
set_option maxRecDepth 20000 in
theorem mw_1370 : (Cond.code ({ cls := "PolicyCompilerModel", name := "mixSlot", desc := "(I)V" } : MethodName) prog_12_method_89_code (4 : Nat) (Option.none : Option ClassFile.FieldType)) ∈ lw_tbl := List.mem_of_getElem? (i := 1473) rfl
set_option maxRecDepth 20000 in
theorem mp_0 : Cond.selects "PolicyCompiler" ⟨"PolicyCompiler", "fail", "(I)I"⟩ ⟨"PolicyCompiler", "fail", "(I)I"⟩ ∈ lw_tbl := List.mem_of_getElem? (i := 0) (by decide +kernel)
set_option maxRecDepth 20000 in
theorem mp_1 : Cond.selects "PolicyCompiler$Parser" ⟨"PolicyCompiler$Parser", "takeFactor", "(II[LPolicyCompiler$Slot;)V"⟩ ⟨"PolicyCompiler$Parser", "takeFactor", "(II[LPolicyCompiler$Slot;)V"⟩ ∈ lw_tbl := List.mem_of_getElem? (i := 1) (by decide +kernel)
set_option maxRecDepth 20000 in
theorem mp_2 : Cond.selects "PolicyCompiler$Parser" ⟨"PolicyCompiler$Parser", "open", "(II)V"⟩ ⟨"PolicyCompiler$Parser", "open", "(II)V"⟩ ∈ lw_tbl := List.mem_of_getElem? (i := 2) (by decide +kernel)
set_option maxRecDepth 20000 in
theorem mp_3 : Cond.selects "PolicyCompiler$Parser" ⟨"PolicyCompiler$Parser", "endLeaf", "(III)V"⟩ ⟨"PolicyCompiler$Parser", "endLeaf", "(III)V"⟩ ∈ lw_tbl := List.mem_of_getElem? (i := 3) (by decide +kernel)
set_option maxRecDepth 20000 in
theorem mp_4 : Cond.selects "PolicyCompiler$Parser" ⟨"PolicyCompiler$Parser", "pushOperand", "(Z)V"⟩ ⟨"PolicyCompiler$Parser", "pushOperand", "(Z)V"⟩ ∈ lw_tbl := List.mem_of_getElem? (i := 4) (by decide +kernel)
set_option maxRecDepth 20000 in
theorem mp_5 : Cond.selects "PolicyCompiler$Parser" ⟨"PolicyCompiler$Parser", "takeSign", "(II)V"⟩ ⟨"PolicyCompiler$Parser", "takeSign", "(II)V"⟩ ∈ lw_tbl := List.mem_of_getElem? (i := 5) (by decide +kernel)
set_option maxRecDepth 20000 in
theorem mp_6 : Cond.selects "PolicyCompiler$Parser" ⟨"PolicyCompiler$Parser", "takeDigit", "(II)V"⟩ ⟨"PolicyCompiler$Parser", "takeDigit", "(II)V"⟩ ∈ lw_tbl := List.mem_of_getElem? (i := 6) (by decide +kernel)
set_option maxRecDepth 20000 in
theorem mp_7 : Cond.selects "PolicyCompiler$Parser" ⟨"PolicyCompiler$Parser", "takeBehindAtom", "(II)V"⟩ ⟨"PolicyCompiler$Parser", "takeBehindAtom", "(II)V"⟩ ∈ lw_tbl := List.mem_of_getElem? (i := 7) (by decide +kernel)
set_option maxRecDepth 20000 in
theorem mp_8 : Cond.selects "PolicyCompiler$Parser" ⟨"PolicyCompiler$Parser", "popOperand", "()Z"⟩ ⟨"PolicyCompiler$Parser", "popOperand", "()Z"⟩ ∈ lw_tbl := List.mem_of_getElem? (i := 8) (by decide +kernel)
set_option maxRecDepth 20000 in
theorem mp_9 : Cond.selects "PolicyCompiler$Parser" ⟨"PolicyCompiler$Parser", "topIsPredicate", "()Z"⟩ ⟨"PolicyCompiler$Parser", "topIsPredicate", "()Z"⟩ ∈ lw_tbl := List.mem_of_getElem? (i := 9) (by decide +kernel)
set_option maxRecDepth 20000 in
theorem mp_10 : Cond.selects "PolicyCompiler$Parser" ⟨"PolicyCompiler$Parser", "endFactor", "()V"⟩ ⟨"PolicyCompiler$Parser", "endFactor", "()V"⟩ ∈ lw_tbl := List.mem_of_getElem? (i := 10) (by decide +kernel)
set_option maxRecDepth 20000 in
theorem mp_11 : Cond.selects "PolicyCompiler$Parser" ⟨"PolicyCompiler$Parser", "innermost", "()I"⟩ ⟨"PolicyCompiler$Parser", "innermost", "()I"⟩ ∈ lw_tbl := List.mem_of_getElem? (i := 11) (by decide +kernel)
set_option maxRecDepth 20000 in
theorem mp_12 : Cond.selects "PolicyCompiler$Parser" ⟨"PolicyCompiler$Parser", "innermostBegin", "()I"⟩ ⟨"PolicyCompiler$Parser", "innermostBegin", "()I"⟩ ∈ lw_tbl := List.mem_of_getElem? (i := 12) (by decide +kernel)
set_option maxRecDepth 20000 in
theorem mp_13 : Cond.selects "PolicyCompiler$Parser" ⟨"PolicyCompiler$Parser", "endPair", "(II)V"⟩ ⟨"PolicyCompiler$Parser", "endPair", "(II)V"⟩ ∈ lw_tbl := List.mem_of_getElem? (i := 13) (by decide +kernel)
set_option maxRecDepth 20000 in
theorem mp_14 : Cond.selects "PolicyCompiler$Parser" ⟨"PolicyCompiler$Parser", "endUnion", "()V"⟩ ⟨"PolicyCompiler$Parser", "endUnion", "()V"⟩ ∈ lw_tbl := List.mem_of_getElem? (i := 14) (by decide +kernel)
set_option maxRecDepth 20000 in
theorem mp_15 : Cond.selects "PolicyCompiler$Parser" ⟨"PolicyCompiler$Parser", "takeBracket", "(II)V"⟩ ⟨"PolicyCompiler$Parser", "takeBracket", "(II)V"⟩ ∈ lw_tbl := List.mem_of_getElem? (i := 15) (by decide +kernel)
set_option maxRecDepth 20000 in
theorem mp_16 : Cond.selects "PolicyCompiler$Parser" ⟨"PolicyCompiler$Parser", "endChoice", "()V"⟩ ⟨"PolicyCompiler$Parser", "endChoice", "()V"⟩ ∈ lw_tbl := List.mem_of_getElem? (i := 16) (by decide +kernel)
set_option maxRecDepth 20000 in
theorem mp_17 : Cond.selects "PolicyCompiler$Parser" ⟨"PolicyCompiler$Parser", "finish", "(I)V"⟩ ⟨"PolicyCompiler$Parser", "finish", "(I)V"⟩ ∈ lw_tbl := List.mem_of_getElem? (i := 17) (by decide +kernel)
set_option maxRecDepth 20000 in
theorem mp_18 : Cond.selects "PolicyCompiler" ⟨"PolicyCompiler", "store", "(LPolicyCompiler$Policy;I)I"⟩ ⟨"PolicyCompiler", "store", "(LPolicyCompiler$Policy;I)I"⟩ ∈ lw_tbl := List.mem_of_getElem? (i := 18) (by decide +kernel)
set_option maxRecDepth 20000 in
theorem mp_19 : Cond.selects "PolicyCompiler$History" ⟨"PolicyCompiler$History", "dropOldest", "()V"⟩ ⟨"PolicyCompiler$History", "dropOldest", "()V"⟩ ∈ lw_tbl := List.mem_of_getElem? (i := 19) (by decide +kernel)
set_option maxRecDepth 20000 in
theorem mp_20 : Cond.selects "PolicyCompiler$Printout" ⟨"PolicyCompiler$Printout", "measured", "(LPolicyCompiler$Policy;I)I"⟩ ⟨"PolicyCompiler$Printout", "measured", "(LPolicyCompiler$Policy;I)I"⟩ ∈ lw_tbl := List.mem_of_getElem? (i := 20) (by decide +kernel)
set_option maxRecDepth 20000 in
theorem mp_21 : Cond.selects "PolicyCompiler$Policy" ⟨"PolicyCompiler$Policy", "nodeAt", "(I)I"⟩ ⟨"PolicyCompiler$Policy", "nodeAt", "(I)I"⟩ ∈ lw_tbl := List.mem_of_getElem? (i := 21) (by decide +kernel)
set_option maxRecDepth 20000 in
theorem mp_22 : Cond.selects "PolicyCompiler$Printout" ⟨"PolicyCompiler$Printout", "printNode", "(LPolicyCompiler$Policy;I)V"⟩ ⟨"PolicyCompiler$Printout", "printNode", "(LPolicyCompiler$Policy;I)V"⟩ ∈ lw_tbl := List.mem_of_getElem? (i := 22) (by decide +kernel)
set_option maxRecDepth 20000 in
theorem mp_23 : Cond.selects "PolicyCompiler$Printout" ⟨"PolicyCompiler$Printout", "innerPlace", "(I)I"⟩ ⟨"PolicyCompiler$Printout", "innerPlace", "(I)I"⟩ ∈ lw_tbl := List.mem_of_getElem? (i := 23) (by decide +kernel)
set_option maxRecDepth 20000 in
theorem mp_24 : Cond.selects "PolicyCompiler$Printout" ⟨"PolicyCompiler$Printout", "put", "(II)V"⟩ ⟨"PolicyCompiler$Printout", "put", "(II)V"⟩ ∈ lw_tbl := List.mem_of_getElem? (i := 24) (by decide +kernel)
set_option maxRecDepth 20000 in
theorem mp_25 : Cond.selects "PolicyCompiler$Printout" ⟨"PolicyCompiler$Printout", "printLeaf", "(LPolicyCompiler$Policy;II)V"⟩ ⟨"PolicyCompiler$Printout", "printLeaf", "(LPolicyCompiler$Policy;II)V"⟩ ∈ lw_tbl := List.mem_of_getElem? (i := 25) (by decide +kernel)
set_option maxRecDepth 20000 in
theorem mp_26 : Cond.selects "PolicyCompiler$Printout" ⟨"PolicyCompiler$Printout", "printPair", "(LPolicyCompiler$Policy;II)V"⟩ ⟨"PolicyCompiler$Printout", "printPair", "(LPolicyCompiler$Policy;II)V"⟩ ∈ lw_tbl := List.mem_of_getElem? (i := 26) (by decide +kernel)
set_option maxRecDepth 20000 in
theorem mp_27 : Cond.selects "PolicyCompiler$Printout" ⟨"PolicyCompiler$Printout", "placed", "(II)I"⟩ ⟨"PolicyCompiler$Printout", "placed", "(II)I"⟩ ∈ lw_tbl := List.mem_of_getElem? (i := 27) (by decide +kernel)
set_option maxRecDepth 20000 in
theorem mp_28 : Cond.selects "PolicyCompiler$Printout" ⟨"PolicyCompiler$Printout", "printChoice", "(LPolicyCompiler$Policy;I)V"⟩ ⟨"PolicyCompiler$Printout", "printChoice", "(LPolicyCompiler$Policy;I)V"⟩ ∈ lw_tbl := List.mem_of_getElem? (i := 28) (by decide +kernel)
set_option maxRecDepth 20000 in
theorem mp_29 : Cond.selects "PolicyCompiler$Evaluator" ⟨"PolicyCompiler$Evaluator", "evaluateNode", "(LPolicyCompiler$Policy;I)V"⟩ ⟨"PolicyCompiler$Evaluator", "evaluateNode", "(LPolicyCompiler$Policy;I)V"⟩ ∈ lw_tbl := List.mem_of_getElem? (i := 29) (by decide +kernel)
set_option maxRecDepth 20000 in
theorem mp_30 : Cond.selects "PolicyCompiler$Evaluator" ⟨"PolicyCompiler$Evaluator", "unite", "(III)V"⟩ ⟨"PolicyCompiler$Evaluator", "unite", "(III)V"⟩ ∈ lw_tbl := List.mem_of_getElem? (i := 30) (by decide +kernel)
set_option maxRecDepth 20000 in
theorem mp_31 : Cond.selects "PolicyCompiler$Evaluator" ⟨"PolicyCompiler$Evaluator", "imageOf", "(II)J"⟩ ⟨"PolicyCompiler$Evaluator", "imageOf", "(II)J"⟩ ∈ lw_tbl := List.mem_of_getElem? (i := 31) (by decide +kernel)
set_option maxRecDepth 20000 in
theorem mp_32 : Cond.selects "PolicyCompiler$Evaluator" ⟨"PolicyCompiler$Evaluator", "assign", "(IIJ)V"⟩ ⟨"PolicyCompiler$Evaluator", "assign", "(IIJ)V"⟩ ∈ lw_tbl := List.mem_of_getElem? (i := 32) (by decide +kernel)
set_option maxRecDepth 20000 in
theorem mp_33 : Cond.selects "PolicyCompiler$Evaluator" ⟨"PolicyCompiler$Evaluator", "chain", "(III)V"⟩ ⟨"PolicyCompiler$Evaluator", "chain", "(III)V"⟩ ∈ lw_tbl := List.mem_of_getElem? (i := 33) (by decide +kernel)
set_option maxRecDepth 20000 in
theorem mp_34 : Cond.selects "PolicyCompiler$Evaluator" ⟨"PolicyCompiler$Evaluator", "repeat", "(II)V"⟩ ⟨"PolicyCompiler$Evaluator", "repeat", "(II)V"⟩ ∈ lw_tbl := List.mem_of_getElem? (i := 34) (by decide +kernel)
set_option maxRecDepth 20000 in
theorem mp_35 : Cond.selects "PolicyCompiler$Evaluator" ⟨"PolicyCompiler$Evaluator", "negate", "(II)V"⟩ ⟨"PolicyCompiler$Evaluator", "negate", "(II)V"⟩ ∈ lw_tbl := List.mem_of_getElem? (i := 35) (by decide +kernel)
set_option maxRecDepth 20000 in
theorem mp_36 : Cond.selects "PolicyCompiler$Evaluator" ⟨"PolicyCompiler$Evaluator", "choose", "(IIII)V"⟩ ⟨"PolicyCompiler$Evaluator", "choose", "(IIII)V"⟩ ∈ lw_tbl := List.mem_of_getElem? (i := 36) (by decide +kernel)
set_option maxRecDepth 20000 in
theorem mp_37 : Cond.selects "PolicyCompiler$Evaluator" ⟨"PolicyCompiler$Evaluator", "evaluateLeaf", "(LPolicyCompiler$Policy;I)V"⟩ ⟨"PolicyCompiler$Evaluator", "evaluateLeaf", "(LPolicyCompiler$Policy;I)V"⟩ ∈ lw_tbl := List.mem_of_getElem? (i := 37) (by decide +kernel)
set_option maxRecDepth 20000 in
theorem mp_38 : Cond.selects "PolicyCompiler$Diagram" ⟨"PolicyCompiler$Diagram", "leafFor", "(IJ)I"⟩ ⟨"PolicyCompiler$Diagram", "leafFor", "(IJ)I"⟩ ∈ lw_tbl := List.mem_of_getElem? (i := 38) (by decide +kernel)
set_option maxRecDepth 20000 in
theorem mp_39 : Cond.selects "PolicyCompiler$Diagram" ⟨"PolicyCompiler$Diagram", "leafWith", "(JJ)I"⟩ ⟨"PolicyCompiler$Diagram", "leafWith", "(JJ)I"⟩ ∈ lw_tbl := List.mem_of_getElem? (i := 39) (by decide +kernel)
set_option maxRecDepth 20000 in
theorem mp_40 : Cond.selects "PolicyCompiler$Diagram" ⟨"PolicyCompiler$Diagram", "newLeaf", "(JJ)I"⟩ ⟨"PolicyCompiler$Diagram", "newLeaf", "(JJ)I"⟩ ∈ lw_tbl := List.mem_of_getElem? (i := 40) (by decide +kernel)
set_option maxRecDepth 20000 in
theorem mp_41 : Cond.selects "PolicyCompiler$Diagram" ⟨"PolicyCompiler$Diagram", "nodeFor", "(II)I"⟩ ⟨"PolicyCompiler$Diagram", "nodeFor", "(II)I"⟩ ∈ lw_tbl := List.mem_of_getElem? (i := 41) (by decide +kernel)
set_option maxRecDepth 20000 in
theorem mp_42 : Cond.selects "PolicyCompiler$Diagram" ⟨"PolicyCompiler$Diagram", "testWith", "(IIIII)I"⟩ ⟨"PolicyCompiler$Diagram", "testWith", "(IIIII)I"⟩ ∈ lw_tbl := List.mem_of_getElem? (i := 42) (by decide +kernel)
set_option maxRecDepth 20000 in
theorem mp_43 : Cond.selects "PolicyCompiler$Diagram" ⟨"PolicyCompiler$Diagram", "newTest", "(II)I"⟩ ⟨"PolicyCompiler$Diagram", "newTest", "(II)I"⟩ ∈ lw_tbl := List.mem_of_getElem? (i := 43) (by decide +kernel)
set_option maxRecDepth 20000 in
theorem mp_44 : Cond.selects "PolicyCompiler$Diagram" ⟨"PolicyCompiler$Diagram", "depthOf", "(I)I"⟩ ⟨"PolicyCompiler$Diagram", "depthOf", "(I)I"⟩ ∈ lw_tbl := List.mem_of_getElem? (i := 44) (by decide +kernel)
set_option maxRecDepth 20000 in
theorem mp_45 : Cond.selects "PolicyCompiler$Table" ⟨"PolicyCompiler$Table", "addRow", "(II)V"⟩ ⟨"PolicyCompiler$Table", "addRow", "(II)V"⟩ ∈ lw_tbl := List.mem_of_getElem? (i := 45) (by decide +kernel)
set_option maxRecDepth 20000 in
theorem mp_46 : Cond.selects "PolicyCompiler$Diagram" ⟨"PolicyCompiler$Diagram", "valuesLeadingTo", "(II)I"⟩ ⟨"PolicyCompiler$Diagram", "valuesLeadingTo", "(II)I"⟩ ∈ lw_tbl := List.mem_of_getElem? (i := 46) (by decide +kernel)
set_option maxRecDepth 20000 in
theorem mp_47 : Cond.selects "PolicyCompiler$Relation" ⟨"PolicyCompiler$Relation", "stepsFrom", "(I)I"⟩ ⟨"PolicyCompiler$Relation", "stepsFrom", "(I)I"⟩ ∈ lw_tbl := List.mem_of_getElem? (i := 47) (by decide +kernel)
set_option maxRecDepth 20000 in
theorem mp_48 : Cond.selects "PolicyCompiler$Diagram" ⟨"PolicyCompiler$Diagram", "twinOf", "(ILPolicyCompiler$Diagram;)I"⟩ ⟨"PolicyCompiler$Diagram", "twinOf", "(ILPolicyCompiler$Diagram;)I"⟩ ∈ lw_tbl := List.mem_of_getElem? (i := 48) (by decide +kernel)
set_option maxRecDepth 20000 in
theorem mp_49 : Cond.selects "PolicyCompiler$Diagram" ⟨"PolicyCompiler$Diagram", "twinOfChild", "(II)I"⟩ ⟨"PolicyCompiler$Diagram", "twinOfChild", "(II)I"⟩ ∈ lw_tbl := List.mem_of_getElem? (i := 49) (by decide +kernel)
set_option maxRecDepth 20000 in
theorem mp_50 : Cond.selects "PolicyCompilerModel" ⟨"PolicyCompilerModel", "fails", "(I)I"⟩ ⟨"PolicyCompilerModel", "fails", "(I)I"⟩ ∈ lw_tbl := List.mem_of_getElem? (i := 50) (by decide +kernel)
set_option maxRecDepth 20000 in
theorem mp_51 : Cond.selects "PolicyCompilerModel" ⟨"PolicyCompilerModel", "reads", "()I"⟩ ⟨"PolicyCompilerModel", "reads", "()I"⟩ ∈ lw_tbl := List.mem_of_getElem? (i := 51) (by decide +kernel)
set_option maxRecDepth 20000 in
theorem mp_52 : Cond.selects "PolicyCompilerModel" ⟨"PolicyCompilerModel", "isPredicateRow", "(I)Z"⟩ ⟨"PolicyCompilerModel", "isPredicateRow", "(I)Z"⟩ ∈ lw_tbl := List.mem_of_getElem? (i := 52) (by decide +kernel)
set_option maxRecDepth 20000 in
theorem mp_53 : Cond.selects "PolicyCompilerModel" ⟨"PolicyCompilerModel", "signOf", "(II)I"⟩ ⟨"PolicyCompilerModel", "signOf", "(II)I"⟩ ∈ lw_tbl := List.mem_of_getElem? (i := 53) (by decide +kernel)
set_option maxRecDepth 20000 in
theorem mp_54 : Cond.selects "PolicyCompilerModel" ⟨"PolicyCompilerModel", "waits", "(IZ)V"⟩ ⟨"PolicyCompilerModel", "waits", "(IZ)V"⟩ ∈ lw_tbl := List.mem_of_getElem? (i := 54) (by decide +kernel)
set_option maxRecDepth 20000 in
theorem mp_55 : Cond.selects "PolicyCompilerModel" ⟨"PolicyCompilerModel", "atom", "()I"⟩ ⟨"PolicyCompilerModel", "atom", "()I"⟩ ∈ lw_tbl := List.mem_of_getElem? (i := 55) (by decide +kernel)
set_option maxRecDepth 20000 in
theorem mp_56 : Cond.selects "PolicyCompilerModel" ⟨"PolicyCompilerModel", "byteAt", "(I)I"⟩ ⟨"PolicyCompilerModel", "byteAt", "(I)I"⟩ ∈ lw_tbl := List.mem_of_getElem? (i := 56) (by decide +kernel)
set_option maxRecDepth 20000 in
theorem mp_57 : Cond.selects "PolicyCompilerModel" ⟨"PolicyCompilerModel", "pushes", "(I)V"⟩ ⟨"PolicyCompilerModel", "pushes", "(I)V"⟩ ∈ lw_tbl := List.mem_of_getElem? (i := 57) (by decide +kernel)
set_option maxRecDepth 20000 in
theorem mp_58 : Cond.selects "PolicyCompilerModel" ⟨"PolicyCompilerModel", "field", "(I)I"⟩ ⟨"PolicyCompilerModel", "field", "(I)I"⟩ ∈ lw_tbl := List.mem_of_getElem? (i := 58) (by decide +kernel)
set_option maxRecDepth 20000 in
theorem mp_59 : Cond.selects "PolicyCompilerModel" ⟨"PolicyCompilerModel", "makes", "(I)V"⟩ ⟨"PolicyCompilerModel", "makes", "(I)V"⟩ ∈ lw_tbl := List.mem_of_getElem? (i := 59) (by decide +kernel)
set_option maxRecDepth 20000 in
theorem mp_60 : Cond.selects "PolicyCompilerModel" ⟨"PolicyCompilerModel", "copies", "(I)V"⟩ ⟨"PolicyCompilerModel", "copies", "(I)V"⟩ ∈ lw_tbl := List.mem_of_getElem? (i := 60) (by decide +kernel)
set_option maxRecDepth 20000 in
theorem mp_61 : Cond.selects "PolicyCompilerModel" ⟨"PolicyCompilerModel", "endsFactor", "()I"⟩ ⟨"PolicyCompilerModel", "endsFactor", "()I"⟩ ∈ lw_tbl := List.mem_of_getElem? (i := 61) (by decide +kernel)
set_option maxRecDepth 20000 in
theorem mp_62 : Cond.selects "PolicyCompilerModel" ⟨"PolicyCompilerModel", "lastOpen", "()I"⟩ ⟨"PolicyCompilerModel", "lastOpen", "()I"⟩ ∈ lw_tbl := List.mem_of_getElem? (i := 62) (by decide +kernel)
set_option maxRecDepth 20000 in
theorem mp_63 : Cond.selects "PolicyCompilerModel" ⟨"PolicyCompilerModel", "behind", "()I"⟩ ⟨"PolicyCompilerModel", "behind", "()I"⟩ ∈ lw_tbl := List.mem_of_getElem? (i := 63) (by decide +kernel)
set_option maxRecDepth 20000 in
theorem mp_64 : Cond.selects "PolicyCompilerModel" ⟨"PolicyCompilerModel", "joins", "(Z)V"⟩ ⟨"PolicyCompilerModel", "joins", "(Z)V"⟩ ∈ lw_tbl := List.mem_of_getElem? (i := 64) (by decide +kernel)
set_option maxRecDepth 20000 in
theorem mp_65 : Cond.selects "PolicyCompilerModel" ⟨"PolicyCompilerModel", "joinsTwo", "(I)V"⟩ ⟨"PolicyCompilerModel", "joinsTwo", "(I)V"⟩ ∈ lw_tbl := List.mem_of_getElem? (i := 65) (by decide +kernel)
set_option maxRecDepth 20000 in
theorem mp_66 : Cond.selects "PolicyCompilerModel" ⟨"PolicyCompilerModel", "keeps", "(I)I"⟩ ⟨"PolicyCompilerModel", "keeps", "(I)I"⟩ ∈ lw_tbl := List.mem_of_getElem? (i := 66) (by decide +kernel)
set_option maxRecDepth 20000 in
theorem mp_67 : Cond.selects "PolicyCompilerModel" ⟨"PolicyCompilerModel", "saves", "()V"⟩ ⟨"PolicyCompilerModel", "saves", "()V"⟩ ∈ lw_tbl := List.mem_of_getElem? (i := 67) (by decide +kernel)
set_option maxRecDepth 20000 in
theorem mp_68 : Cond.selects "PolicyCompilerModel" ⟨"PolicyCompilerModel", "prints", "(I)V"⟩ ⟨"PolicyCompilerModel", "prints", "(I)V"⟩ ∈ lw_tbl := List.mem_of_getElem? (i := 68) (by decide +kernel)
set_option maxRecDepth 20000 in
theorem mp_69 : Cond.selects "PolicyCompilerModel" ⟨"PolicyCompilerModel", "laysOperands", "(I)V"⟩ ⟨"PolicyCompilerModel", "laysOperands", "(I)V"⟩ ∈ lw_tbl := List.mem_of_getElem? (i := 69) (by decide +kernel)
set_option maxRecDepth 20000 in
theorem mp_70 : Cond.selects "PolicyCompilerModel" ⟨"PolicyCompilerModel", "shows", "(I)V"⟩ ⟨"PolicyCompilerModel", "shows", "(I)V"⟩ ∈ lw_tbl := List.mem_of_getElem? (i := 70) (by decide +kernel)
set_option maxRecDepth 20000 in
theorem mp_71 : Cond.selects "PolicyCompilerModel" ⟨"PolicyCompilerModel", "expands", "(II)V"⟩ ⟨"PolicyCompilerModel", "expands", "(II)V"⟩ ∈ lw_tbl := List.mem_of_getElem? (i := 71) (by decide +kernel)
set_option maxRecDepth 20000 in
theorem mp_72 : Cond.selects "PolicyCompilerModel" ⟨"PolicyCompilerModel", "pilesOperand", "(IZ)V"⟩ ⟨"PolicyCompilerModel", "pilesOperand", "(IZ)V"⟩ ∈ lw_tbl := List.mem_of_getElem? (i := 72) (by decide +kernel)
set_option maxRecDepth 20000 in
theorem mp_73 : Cond.selects "PolicyCompilerModel" ⟨"PolicyCompilerModel", "piles", "(I)V"⟩ ⟨"PolicyCompilerModel", "piles", "(I)V"⟩ ∈ lw_tbl := List.mem_of_getElem? (i := 73) (by decide +kernel)
set_option maxRecDepth 20000 in
theorem mp_74 : Cond.selects "PolicyCompilerModel" ⟨"PolicyCompilerModel", "outputsOf", "(II)J"⟩ ⟨"PolicyCompilerModel", "outputsOf", "(II)J"⟩ ∈ lw_tbl := List.mem_of_getElem? (i := 74) (by decide +kernel)
set_option maxRecDepth 20000 in
theorem mp_75 : Cond.selects "PolicyCompilerModel" ⟨"PolicyCompilerModel", "evaluates", "(I)V"⟩ ⟨"PolicyCompilerModel", "evaluates", "(I)V"⟩ ∈ lw_tbl := List.mem_of_getElem? (i := 75) (by decide +kernel)
set_option maxRecDepth 20000 in
theorem mp_76 : Cond.selects "PolicyCompilerModel" ⟨"PolicyCompilerModel", "simple", "(I)V"⟩ ⟨"PolicyCompilerModel", "simple", "(I)V"⟩ ∈ lw_tbl := List.mem_of_getElem? (i := 76) (by decide +kernel)
set_option maxRecDepth 20000 in
theorem mp_77 : Cond.selects "PolicyCompilerModel" ⟨"PolicyCompilerModel", "operates", "(I)V"⟩ ⟨"PolicyCompilerModel", "operates", "(I)V"⟩ ∈ lw_tbl := List.mem_of_getElem? (i := 77) (by decide +kernel)
set_option maxRecDepth 20000 in
theorem mp_78 : Cond.selects "PolicyCompilerModel" ⟨"PolicyCompilerModel", "turned", "(JI)J"⟩ ⟨"PolicyCompilerModel", "turned", "(JI)J"⟩ ∈ lw_tbl := List.mem_of_getElem? (i := 78) (by decide +kernel)
set_option maxRecDepth 20000 in
theorem mp_79 : Cond.selects "PolicyCompilerModel" ⟨"PolicyCompilerModel", "reached", "(II)J"⟩ ⟨"PolicyCompilerModel", "reached", "(II)J"⟩ ∈ lw_tbl := List.mem_of_getElem? (i := 79) (by decide +kernel)
set_option maxRecDepth 20000 in
theorem mp_80 : Cond.selects "PolicyCompilerModel" ⟨"PolicyCompilerModel", "acceptedOf", "(I)J"⟩ ⟨"PolicyCompilerModel", "acceptedOf", "(I)J"⟩ ∈ lw_tbl := List.mem_of_getElem? (i := 80) (by decide +kernel)
set_option maxRecDepth 20000 in
theorem mp_81 : Cond.selects "PolicyCompilerModel" ⟨"PolicyCompilerModel", "spreadOf", "(I)I"⟩ ⟨"PolicyCompilerModel", "spreadOf", "(I)I"⟩ ∈ lw_tbl := List.mem_of_getElem? (i := 81) (by decide +kernel)
set_option maxRecDepth 20000 in
theorem mp_82 : Cond.selects "PolicyCompilerModel" ⟨"PolicyCompilerModel", "roundsOf", "(I)I"⟩ ⟨"PolicyCompilerModel", "roundsOf", "(I)I"⟩ ∈ lw_tbl := List.mem_of_getElem? (i := 82) (by decide +kernel)
set_option maxRecDepth 20000 in
theorem mp_83 : Cond.selects "PolicyCompilerModel" ⟨"PolicyCompilerModel", "compared", "(II)I"⟩ ⟨"PolicyCompilerModel", "compared", "(II)I"⟩ ∈ lw_tbl := List.mem_of_getElem? (i := 83) (by decide +kernel)
set_option maxRecDepth 20000 in
theorem mp_84 : Cond.selects "PolicyCompilerModel" ⟨"PolicyCompilerModel", "laysBoth", "(II)V"⟩ ⟨"PolicyCompilerModel", "laysBoth", "(II)V"⟩ ∈ lw_tbl := List.mem_of_getElem? (i := 84) (by decide +kernel)
set_option maxRecDepth 20000 in
theorem mp_85 : Cond.selects "PolicyCompilerModel" ⟨"PolicyCompilerModel", "witnessOf", "(II)I"⟩ ⟨"PolicyCompilerModel", "witnessOf", "(II)I"⟩ ∈ lw_tbl := List.mem_of_getElem? (i := 85) (by decide +kernel)
set_option maxRecDepth 20000 in
theorem mp_86 : Cond.selects "PolicyCompilerModel" ⟨"PolicyCompilerModel", "sizeOf", "(I)I"⟩ ⟨"PolicyCompilerModel", "sizeOf", "(I)I"⟩ ∈ lw_tbl := List.mem_of_getElem? (i := 86) (by decide +kernel)
set_option maxRecDepth 20000 in
theorem mp_87 : Cond.selects "PolicyCompilerModel" ⟨"PolicyCompilerModel", "drawsAlone", "(I)I"⟩ ⟨"PolicyCompilerModel", "drawsAlone", "(I)I"⟩ ∈ lw_tbl := List.mem_of_getElem? (i := 87) (by decide +kernel)
set_option maxRecDepth 20000 in
theorem mp_88 : Cond.selects "PolicyCompilerModel" ⟨"PolicyCompilerModel", "clears", "()V"⟩ ⟨"PolicyCompilerModel", "clears", "()V"⟩ ∈ lw_tbl := List.mem_of_getElem? (i := 88) (by decide +kernel)
set_option maxRecDepth 20000 in
theorem mp_89 : Cond.selects "PolicyCompilerModel" ⟨"PolicyCompilerModel", "draws", "(II)I"⟩ ⟨"PolicyCompilerModel", "draws", "(II)I"⟩ ∈ lw_tbl := List.mem_of_getElem? (i := 89) (by decide +kernel)
set_option maxRecDepth 20000 in
theorem mp_90 : Cond.selects "PolicyCompilerModel" ⟨"PolicyCompilerModel", "leafOf", "(I)I"⟩ ⟨"PolicyCompilerModel", "leafOf", "(I)I"⟩ ∈ lw_tbl := List.mem_of_getElem? (i := 90) (by decide +kernel)
set_option maxRecDepth 20000 in
theorem mp_91 : Cond.selects "PolicyCompilerModel" ⟨"PolicyCompilerModel", "nodeOver", "(II)I"⟩ ⟨"PolicyCompilerModel", "nodeOver", "(II)I"⟩ ∈ lw_tbl := List.mem_of_getElem? (i := 91) (by decide +kernel)
set_option maxRecDepth 20000 in
theorem mp_92 : Cond.selects "PolicyCompilerModel" ⟨"PolicyCompilerModel", "isTest", "(III)Z"⟩ ⟨"PolicyCompilerModel", "isTest", "(III)Z"⟩ ∈ lw_tbl := List.mem_of_getElem? (i := 92) (by decide +kernel)
set_option maxRecDepth 20000 in
theorem mp_93 : Cond.selects "PolicyCompilerModel" ⟨"PolicyCompilerModel", "leavesOf", "(I)I"⟩ ⟨"PolicyCompilerModel", "leavesOf", "(I)I"⟩ ∈ lw_tbl := List.mem_of_getElem? (i := 93) (by decide +kernel)
set_option maxRecDepth 20000 in
theorem mp_94 : Cond.selects "PolicyCompilerModel" ⟨"PolicyCompilerModel", "depthOf", "(I)I"⟩ ⟨"PolicyCompilerModel", "depthOf", "(I)I"⟩ ∈ lw_tbl := List.mem_of_getElem? (i := 94) (by decide +kernel)
set_option maxRecDepth 20000 in
theorem mp_95 : Cond.selects "PolicyCompilerModel" ⟨"PolicyCompilerModel", "tabulates", "(I)V"⟩ ⟨"PolicyCompilerModel", "tabulates", "(I)V"⟩ ∈ lw_tbl := List.mem_of_getElem? (i := 95) (by decide +kernel)
set_option maxRecDepth 20000 in
theorem mp_96 : Cond.selects "PolicyCompilerModel" ⟨"PolicyCompilerModel", "mainOf", "(I)I"⟩ ⟨"PolicyCompilerModel", "mainOf", "(I)I"⟩ ∈ lw_tbl := List.mem_of_getElem? (i := 96) (by decide +kernel)
set_option maxRecDepth 20000 in
theorem mp_97 : Cond.selects "PolicyCompilerModel" ⟨"PolicyCompilerModel", "hasRow", "(II)Z"⟩ ⟨"PolicyCompilerModel", "hasRow", "(II)Z"⟩ ∈ lw_tbl := List.mem_of_getElem? (i := 97) (by decide +kernel)
set_option maxRecDepth 20000 in
theorem mp_98 : Cond.selects "PolicyCompilerModel" ⟨"PolicyCompilerModel", "actionAt", "(II)I"⟩ ⟨"PolicyCompilerModel", "actionAt", "(II)I"⟩ ∈ lw_tbl := List.mem_of_getElem? (i := 98) (by decide +kernel)
set_option maxRecDepth 20000 in
theorem mp_99 : Cond.selects "PolicyCompilerModel" ⟨"PolicyCompilerModel", "hasAction", "(II)Z"⟩ ⟨"PolicyCompilerModel", "hasAction", "(II)Z"⟩ ∈ lw_tbl := List.mem_of_getElem? (i := 99) (by decide +kernel)
set_option maxRecDepth 20000 in
theorem mp_100 : Cond.selects "PolicyCompilerModel" ⟨"PolicyCompilerModel", "hitOf", "(I)I"⟩ ⟨"PolicyCompilerModel", "hitOf", "(I)I"⟩ ∈ lw_tbl := List.mem_of_getElem? (i := 100) (by decide +kernel)
set_option maxRecDepth 20000 in
theorem mp_101 : Cond.selects "PolicyCompilerModel" ⟨"PolicyCompilerModel", "mix", "(J)V"⟩ ⟨"PolicyCompilerModel", "mix", "(J)V"⟩ ∈ lw_tbl := List.mem_of_getElem? (i := 101) (by decide +kernel)
set_option maxRecDepth 20000 in
theorem mp_102 : Cond.selects "PolicyCompilerModel" ⟨"PolicyCompilerModel", "mixSlot", "(I)V"⟩ ⟨"PolicyCompilerModel", "mixSlot", "(I)V"⟩ ∈ lw_tbl := List.mem_of_getElem? (i := 102) (by decide +kernel)
