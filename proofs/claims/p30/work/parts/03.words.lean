set_option maxRecDepth 20000 in
theorem mw_0 : (Cond.initialized "PolicyCompilerLaw") ∈ lw_tbl := List.mem_of_getElem? (i := 50) (by decide +kernel)
set_option maxRecDepth 20000 in
theorem mw_1 : (Cond.initialized "PolicyCompiler") ∈ lw_tbl := List.mem_of_getElem? (i := 51) (by decide +kernel)
set_option maxRecDepth 20000 in
theorem mw_2 : (Cond.initialized "PolicyCompiler$History") ∈ lw_tbl := List.mem_of_getElem? (i := 52) (by decide +kernel)
set_option maxRecDepth 20000 in
theorem mw_3 : (Cond.initialized "PolicyCompiler$Policy") ∈ lw_tbl := List.mem_of_getElem? (i := 53) (by decide +kernel)
set_option maxRecDepth 20000 in
theorem mw_4 : (Cond.initialized "PolicyCompiler$Parser") ∈ lw_tbl := List.mem_of_getElem? (i := 54) (by decide +kernel)
set_option maxRecDepth 20000 in
theorem mw_5 : (Cond.initialized "PolicyCompiler$Evaluator") ∈ lw_tbl := List.mem_of_getElem? (i := 55) (by decide +kernel)
set_option maxRecDepth 20000 in
theorem mw_6 : (Cond.initialized "PolicyCompiler$Slot") ∈ lw_tbl := List.mem_of_getElem? (i := 56) (by decide +kernel)
set_option maxRecDepth 20000 in
theorem mw_7 : (Cond.initialized "PolicyCompiler$Printout") ∈ lw_tbl := List.mem_of_getElem? (i := 57) (by decide +kernel)
set_option maxRecDepth 20000 in
theorem mw_8 : (Cond.initialized "PolicyCompiler$Relation") ∈ lw_tbl := List.mem_of_getElem? (i := 58) (by decide +kernel)
set_option maxRecDepth 20000 in
theorem mw_9 : (Cond.initialized "PolicyCompiler$Diagram") ∈ lw_tbl := List.mem_of_getElem? (i := 59) (by decide +kernel)
set_option maxRecDepth 20000 in
theorem mw_10 : (Cond.initialized "PolicyCompiler$Table") ∈ lw_tbl := List.mem_of_getElem? (i := 60) (by decide +kernel)
set_option maxRecDepth 20000 in
theorem mw_11 : (Cond.initialized "java/lang/Long") ∈ lw_tbl := List.mem_of_getElem? (i := 61) (by decide +kernel)
set_option maxRecDepth 20000 in
theorem mw_12 : (Cond.initialized "java/lang/Math") ∈ lw_tbl := List.mem_of_getElem? (i := 62) (by decide +kernel)
set_option maxRecDepth 20000 in
theorem mw_13 : (Cond.classLink "PolicyCompilerLaw" (10 : Nat) "PolicyCompiler") ∈ lw_tbl := List.mem_of_getElem? (i := 63) (by decide +kernel)
set_option maxRecDepth 20000 in
theorem mw_14 : (Cond.instantiable "PolicyCompiler" (8 : Nat)) ∈ lw_tbl := List.mem_of_getElem? (i := 64) (by decide +kernel)
set_option maxRecDepth 20000 in
theorem mw_15 : (Cond.methodLink "PolicyCompilerLaw" (125 : Nat) ({ cls := "PolicyCompiler", name := "<init>", desc := "()V" } : MethodName)) ∈ lw_tbl := List.mem_of_getElem? (i := 65) (by decide +kernel)
set_option maxRecDepth 20000 in
theorem mw_16 : (Cond.instanceMethod ({ cls := "PolicyCompiler", name := "<init>", desc := "()V" } : MethodName)) ∈ lw_tbl := List.mem_of_getElem? (i := 66) (by decide +kernel)
set_option maxRecDepth 20000 in
theorem mw_17 : (Cond.code ({ cls := "PolicyCompiler", name := "<init>", desc := "()V" } : MethodName) prog_1_method_1_code (2 : Nat) (Option.none : Option ClassFile.FieldType)) ∈ lw_tbl := List.mem_of_getElem? (i := 67) rfl
set_option maxRecDepth 20000 in
theorem mw_18 : (Cond.methodLink "PolicyCompiler" (1 : Nat) ({ cls := "java/lang/Object", name := "<init>", desc := "()V" } : MethodName)) ∈ lw_tbl := List.mem_of_getElem? (i := 68) (by decide +kernel)
set_option maxRecDepth 20000 in
theorem mw_19 : (Cond.instanceMethod ({ cls := "java/lang/Object", name := "<init>", desc := "()V" } : MethodName)) ∈ lw_tbl := List.mem_of_getElem? (i := 69) (by decide +kernel)
set_option maxRecDepth 20000 in
theorem mw_20 : (Cond.code ({ cls := "java/lang/Object", name := "<init>", desc := "()V" } : MethodName) object_method_1_code (1 : Nat) (Option.none : Option ClassFile.FieldType)) ∈ lw_tbl := List.mem_of_getElem? (i := 70) rfl
set_option maxRecDepth 20000 in
theorem mw_21 : (Cond.classLink "PolicyCompiler" (17 : Nat) "PolicyCompiler$Slot") ∈ lw_tbl := List.mem_of_getElem? (i := 71) (by decide +kernel)
set_option maxRecDepth 20000 in
theorem mw_22 : (Cond.arrayOver (FieldType.object "PolicyCompiler$Slot")) ∈ lw_tbl := List.mem_of_getElem? (i := 72) (by decide +kernel)
set_option maxRecDepth 20000 in
theorem mw_23 : (Cond.classLink "PolicyCompiler" (23 : Nat) "PolicyCompiler$History") ∈ lw_tbl := List.mem_of_getElem? (i := 73) (by decide +kernel)
set_option maxRecDepth 20000 in
theorem mw_24 : (Cond.instantiable "PolicyCompiler$History" (3 : Nat)) ∈ lw_tbl := List.mem_of_getElem? (i := 74) (by decide +kernel)
set_option maxRecDepth 20000 in
theorem mw_25 : (Cond.methodLink "PolicyCompiler" (25 : Nat) ({ cls := "PolicyCompiler$History", name := "<init>", desc := "()V" } : MethodName)) ∈ lw_tbl := List.mem_of_getElem? (i := 75) (by decide +kernel)
set_option maxRecDepth 20000 in
theorem mw_26 : (Cond.instanceMethod ({ cls := "PolicyCompiler$History", name := "<init>", desc := "()V" } : MethodName)) ∈ lw_tbl := List.mem_of_getElem? (i := 76) (by decide +kernel)
set_option maxRecDepth 20000 in
theorem mw_27 : (Cond.code ({ cls := "PolicyCompiler$History", name := "<init>", desc := "()V" } : MethodName) prog_4_method_1_code (2 : Nat) (Option.none : Option ClassFile.FieldType)) ∈ lw_tbl := List.mem_of_getElem? (i := 77) rfl
set_option maxRecDepth 20000 in
theorem mw_28 : (Cond.methodLink "PolicyCompiler$History" (3 : Nat) ({ cls := "java/lang/Object", name := "<init>", desc := "()V" } : MethodName)) ∈ lw_tbl := List.mem_of_getElem? (i := 78) (by decide +kernel)
set_option maxRecDepth 20000 in
theorem mw_29 : (Cond.classLink "PolicyCompiler$History" (15 : Nat) "PolicyCompiler$Policy") ∈ lw_tbl := List.mem_of_getElem? (i := 79) (by decide +kernel)
set_option maxRecDepth 20000 in
theorem mw_30 : (Cond.arrayOver (FieldType.object "PolicyCompiler$Policy")) ∈ lw_tbl := List.mem_of_getElem? (i := 80) (by decide +kernel)
set_option maxRecDepth 20000 in
theorem mw_31 : (Cond.instantiable "PolicyCompiler$Policy" (4 : Nat)) ∈ lw_tbl := List.mem_of_getElem? (i := 81) (by decide +kernel)
set_option maxRecDepth 20000 in
theorem mw_32 : (Cond.methodLinkNest "PolicyCompiler$History" (25 : Nat) ({ cls := "PolicyCompiler$Policy", name := "<init>", desc := "()V" } : MethodName) "PolicyCompiler") ∈ lw_tbl := List.mem_of_getElem? (i := 82) (by decide +kernel)
set_option maxRecDepth 20000 in
theorem mw_33 : (Cond.instanceMethod ({ cls := "PolicyCompiler$Policy", name := "<init>", desc := "()V" } : MethodName)) ∈ lw_tbl := List.mem_of_getElem? (i := 83) (by decide +kernel)
set_option maxRecDepth 20000 in
theorem mw_34 : (Cond.code ({ cls := "PolicyCompiler$Policy", name := "<init>", desc := "()V" } : MethodName) prog_6_method_1_code (1 : Nat) (Option.none : Option ClassFile.FieldType)) ∈ lw_tbl := List.mem_of_getElem? (i := 84) rfl
set_option maxRecDepth 20000 in
theorem mw_35 : (Cond.methodLink "PolicyCompiler$Policy" (3 : Nat) ({ cls := "java/lang/Object", name := "<init>", desc := "()V" } : MethodName)) ∈ lw_tbl := List.mem_of_getElem? (i := 85) (by decide +kernel)
set_option maxRecDepth 20000 in
theorem mw_36 : (Cond.fieldLink "PolicyCompiler$Policy" (9 : Nat) "PolicyCompiler$Policy" "nodes" "[I") ∈ lw_tbl := List.mem_of_getElem? (i := 86) (by decide +kernel)
set_option maxRecDepth 20000 in
theorem mw_37 : (Cond.fieldLink "PolicyCompiler$Policy" (15 : Nat) "PolicyCompiler$Policy" "begins" "[I") ∈ lw_tbl := List.mem_of_getElem? (i := 87) (by decide +kernel)
set_option maxRecDepth 20000 in
theorem mw_38 : (Cond.fieldLink "PolicyCompiler$Policy" (18 : Nat) "PolicyCompiler$Policy" "count" "I") ∈ lw_tbl := List.mem_of_getElem? (i := 88) (by decide +kernel)
set_option maxRecDepth 20000 in
theorem mw_39 : (Cond.fieldLink "PolicyCompiler$Policy" (22 : Nat) "PolicyCompiler$Policy" "predicate" "Z") ∈ lw_tbl := List.mem_of_getElem? (i := 89) (by decide +kernel)
set_option maxRecDepth 20000 in
theorem mw_49 : (Cond.arrayClass FieldType.int) ∈ lw_tbl := List.mem_of_getElem? (i := 99) (by decide +kernel)
set_option maxRecDepth 20000 in
theorem mw_50 : (Cond.fieldLink "PolicyCompiler$History" (9 : Nat) "PolicyCompiler$History" "changed" "[I") ∈ lw_tbl := List.mem_of_getElem? (i := 100) (by decide +kernel)
set_option maxRecDepth 20000 in
theorem mw_51 : (Cond.fieldLink "PolicyCompiler$History" (17 : Nat) "PolicyCompiler$History" "before" "[LPolicyCompiler$Policy;") ∈ lw_tbl := List.mem_of_getElem? (i := 101) (by decide +kernel)
set_option maxRecDepth 20000 in
theorem mw_52 : (Cond.fieldLink "PolicyCompiler$History" (21 : Nat) "PolicyCompiler$History" "saved" "I") ∈ lw_tbl := List.mem_of_getElem? (i := 102) (by decide +kernel)
set_option maxRecDepth 20000 in
theorem mw_60 : (Cond.classLink "PolicyCompiler" (33 : Nat) "PolicyCompiler$Parser") ∈ lw_tbl := List.mem_of_getElem? (i := 110) (by decide +kernel)
set_option maxRecDepth 20000 in
theorem mw_61 : (Cond.instantiable "PolicyCompiler$Parser" (10 : Nat)) ∈ lw_tbl := List.mem_of_getElem? (i := 111) (by decide +kernel)
set_option maxRecDepth 20000 in
theorem mw_62 : (Cond.methodLinkNest "PolicyCompiler" (35 : Nat) ({ cls := "PolicyCompiler$Parser", name := "<init>", desc := "()V" } : MethodName) "PolicyCompiler") ∈ lw_tbl := List.mem_of_getElem? (i := 112) (by decide +kernel)
set_option maxRecDepth 20000 in
theorem mw_63 : (Cond.instanceMethod ({ cls := "PolicyCompiler$Parser", name := "<init>", desc := "()V" } : MethodName)) ∈ lw_tbl := List.mem_of_getElem? (i := 113) (by decide +kernel)
set_option maxRecDepth 20000 in
theorem mw_64 : (Cond.code ({ cls := "PolicyCompiler$Parser", name := "<init>", desc := "()V" } : MethodName) prog_5_method_1_code (1 : Nat) (Option.none : Option ClassFile.FieldType)) ∈ lw_tbl := List.mem_of_getElem? (i := 114) rfl
set_option maxRecDepth 20000 in
theorem mw_65 : (Cond.methodLink "PolicyCompiler$Parser" (3 : Nat) ({ cls := "java/lang/Object", name := "<init>", desc := "()V" } : MethodName)) ∈ lw_tbl := List.mem_of_getElem? (i := 115) (by decide +kernel)
set_option maxRecDepth 20000 in
theorem mw_66 : (Cond.classLink "PolicyCompiler$Parser" (29 : Nat) "PolicyCompiler$Policy") ∈ lw_tbl := List.mem_of_getElem? (i := 116) (by decide +kernel)
set_option maxRecDepth 20000 in
theorem mw_67 : (Cond.methodLinkNest "PolicyCompiler$Parser" (31 : Nat) ({ cls := "PolicyCompiler$Policy", name := "<init>", desc := "()V" } : MethodName) "PolicyCompiler") ∈ lw_tbl := List.mem_of_getElem? (i := 117) (by decide +kernel)
set_option maxRecDepth 20000 in
theorem mw_68 : (Cond.fieldLink "PolicyCompiler$Parser" (9 : Nat) "PolicyCompiler$Parser" "opened" "[I") ∈ lw_tbl := List.mem_of_getElem? (i := 118) (by decide +kernel)
set_option maxRecDepth 20000 in
theorem mw_69 : (Cond.fieldLink "PolicyCompiler$Parser" (15 : Nat) "PolicyCompiler$Parser" "openedAt" "[I") ∈ lw_tbl := List.mem_of_getElem? (i := 119) (by decide +kernel)
set_option maxRecDepth 20000 in
theorem mw_70 : (Cond.fieldLink "PolicyCompiler$Parser" (18 : Nat) "PolicyCompiler$Parser" "openCount" "I") ∈ lw_tbl := List.mem_of_getElem? (i := 120) (by decide +kernel)
set_option maxRecDepth 20000 in
theorem mw_71 : (Cond.fieldLink "PolicyCompiler$Parser" (22 : Nat) "PolicyCompiler$Parser" "predicates" "[Z") ∈ lw_tbl := List.mem_of_getElem? (i := 121) (by decide +kernel)
set_option maxRecDepth 20000 in
theorem mw_72 : (Cond.fieldLink "PolicyCompiler$Parser" (26 : Nat) "PolicyCompiler$Parser" "operandCount" "I") ∈ lw_tbl := List.mem_of_getElem? (i := 122) (by decide +kernel)
set_option maxRecDepth 20000 in
theorem mw_73 : (Cond.fieldLink "PolicyCompiler$Parser" (32 : Nat) "PolicyCompiler$Parser" "built" "LPolicyCompiler$Policy;") ∈ lw_tbl := List.mem_of_getElem? (i := 123) (by decide +kernel)
set_option maxRecDepth 20000 in
theorem mw_74 : (Cond.fieldLink "PolicyCompiler$Parser" (36 : Nat) "PolicyCompiler$Parser" "state" "I") ∈ lw_tbl := List.mem_of_getElem? (i := 124) (by decide +kernel)
set_option maxRecDepth 20000 in
theorem mw_75 : (Cond.fieldLink "PolicyCompiler$Parser" (39 : Nat) "PolicyCompiler$Parser" "field" "I") ∈ lw_tbl := List.mem_of_getElem? (i := 125) (by decide +kernel)
set_option maxRecDepth 20000 in
theorem mw_76 : (Cond.fieldLink "PolicyCompiler$Parser" (42 : Nat) "PolicyCompiler$Parser" "sign" "I") ∈ lw_tbl := List.mem_of_getElem? (i := 126) (by decide +kernel)
set_option maxRecDepth 20000 in
theorem mw_77 : (Cond.fieldLink "PolicyCompiler$Parser" (45 : Nat) "PolicyCompiler$Parser" "error" "I") ∈ lw_tbl := List.mem_of_getElem? (i := 127) (by decide +kernel)
set_option maxRecDepth 20000 in
theorem mw_99 : (Cond.arrayClass FieldType.boolean) ∈ lw_tbl := List.mem_of_getElem? (i := 149) (by decide +kernel)
set_option maxRecDepth 20000 in
theorem mw_100 : (Cond.classLink "PolicyCompiler" (40 : Nat) "PolicyCompiler$Evaluator") ∈ lw_tbl := List.mem_of_getElem? (i := 150) (by decide +kernel)
set_option maxRecDepth 20000 in
theorem mw_101 : (Cond.instantiable "PolicyCompiler$Evaluator" (1 : Nat)) ∈ lw_tbl := List.mem_of_getElem? (i := 151) (by decide +kernel)
set_option maxRecDepth 20000 in
theorem mw_102 : (Cond.methodLinkNest "PolicyCompiler" (42 : Nat) ({ cls := "PolicyCompiler$Evaluator", name := "<init>", desc := "()V" } : MethodName) "PolicyCompiler") ∈ lw_tbl := List.mem_of_getElem? (i := 152) (by decide +kernel)
set_option maxRecDepth 20000 in
theorem mw_103 : (Cond.instanceMethod ({ cls := "PolicyCompiler$Evaluator", name := "<init>", desc := "()V" } : MethodName)) ∈ lw_tbl := List.mem_of_getElem? (i := 153) (by decide +kernel)
set_option maxRecDepth 20000 in
theorem mw_104 : (Cond.code ({ cls := "PolicyCompiler$Evaluator", name := "<init>", desc := "()V" } : MethodName) prog_3_method_1_code (1 : Nat) (Option.none : Option ClassFile.FieldType)) ∈ lw_tbl := List.mem_of_getElem? (i := 154) rfl
set_option maxRecDepth 20000 in
theorem mw_105 : (Cond.methodLink "PolicyCompiler$Evaluator" (3 : Nat) ({ cls := "java/lang/Object", name := "<init>", desc := "()V" } : MethodName)) ∈ lw_tbl := List.mem_of_getElem? (i := 155) (by decide +kernel)
set_option maxRecDepth 20000 in
theorem mw_106 : (Cond.fieldLink "PolicyCompiler$Evaluator" (9 : Nat) "PolicyCompiler$Evaluator" "images" "[J") ∈ lw_tbl := List.mem_of_getElem? (i := 156) (by decide +kernel)
set_option maxRecDepth 20000 in
theorem mw_110 : (Cond.arrayClass FieldType.long) ∈ lw_tbl := List.mem_of_getElem? (i := 160) (by decide +kernel)
set_option maxRecDepth 20000 in
theorem mw_111 : (Cond.classLink "PolicyCompiler" (47 : Nat) "PolicyCompiler$Policy") ∈ lw_tbl := List.mem_of_getElem? (i := 161) (by decide +kernel)
set_option maxRecDepth 20000 in
theorem mw_112 : (Cond.methodLinkNest "PolicyCompiler" (49 : Nat) ({ cls := "PolicyCompiler$Policy", name := "<init>", desc := "()V" } : MethodName) "PolicyCompiler") ∈ lw_tbl := List.mem_of_getElem? (i := 162) (by decide +kernel)
set_option maxRecDepth 20000 in
theorem mw_113 : (Cond.instantiable "PolicyCompiler$Slot" (6 : Nat)) ∈ lw_tbl := List.mem_of_getElem? (i := 163) (by decide +kernel)
set_option maxRecDepth 20000 in
theorem mw_114 : (Cond.methodLink "PolicyCompiler" (54 : Nat) ({ cls := "PolicyCompiler$Slot", name := "<init>", desc := "()V" } : MethodName)) ∈ lw_tbl := List.mem_of_getElem? (i := 164) (by decide +kernel)
set_option maxRecDepth 20000 in
theorem mw_115 : (Cond.instanceMethod ({ cls := "PolicyCompiler$Slot", name := "<init>", desc := "()V" } : MethodName)) ∈ lw_tbl := List.mem_of_getElem? (i := 165) (by decide +kernel)
set_option maxRecDepth 20000 in
theorem mw_116 : (Cond.code ({ cls := "PolicyCompiler$Slot", name := "<init>", desc := "()V" } : MethodName) prog_9_method_1_code (1 : Nat) (Option.none : Option ClassFile.FieldType)) ∈ lw_tbl := List.mem_of_getElem? (i := 166) rfl
set_option maxRecDepth 20000 in
theorem mw_117 : (Cond.methodLink "PolicyCompiler$Slot" (3 : Nat) ({ cls := "java/lang/Object", name := "<init>", desc := "()V" } : MethodName)) ∈ lw_tbl := List.mem_of_getElem? (i := 167) (by decide +kernel)
set_option maxRecDepth 20000 in
theorem mw_118 : (Cond.classLink "PolicyCompiler$Slot" (9 : Nat) "PolicyCompiler$Policy") ∈ lw_tbl := List.mem_of_getElem? (i := 168) (by decide +kernel)
set_option maxRecDepth 20000 in
theorem mw_119 : (Cond.methodLinkNest "PolicyCompiler$Slot" (11 : Nat) ({ cls := "PolicyCompiler$Policy", name := "<init>", desc := "()V" } : MethodName) "PolicyCompiler") ∈ lw_tbl := List.mem_of_getElem? (i := 169) (by decide +kernel)
set_option maxRecDepth 20000 in
theorem mw_120 : (Cond.classLink "PolicyCompiler$Slot" (18 : Nat) "PolicyCompiler$Printout") ∈ lw_tbl := List.mem_of_getElem? (i := 170) (by decide +kernel)
set_option maxRecDepth 20000 in
theorem mw_121 : (Cond.instantiable "PolicyCompiler$Printout" (5 : Nat)) ∈ lw_tbl := List.mem_of_getElem? (i := 171) (by decide +kernel)
set_option maxRecDepth 20000 in
theorem mw_122 : (Cond.methodLinkNest "PolicyCompiler$Slot" (20 : Nat) ({ cls := "PolicyCompiler$Printout", name := "<init>", desc := "()V" } : MethodName) "PolicyCompiler") ∈ lw_tbl := List.mem_of_getElem? (i := 172) (by decide +kernel)
set_option maxRecDepth 20000 in
theorem mw_123 : (Cond.instanceMethod ({ cls := "PolicyCompiler$Printout", name := "<init>", desc := "()V" } : MethodName)) ∈ lw_tbl := List.mem_of_getElem? (i := 173) (by decide +kernel)
set_option maxRecDepth 20000 in
theorem mw_124 : (Cond.code ({ cls := "PolicyCompiler$Printout", name := "<init>", desc := "()V" } : MethodName) prog_7_method_1_code (1 : Nat) (Option.none : Option ClassFile.FieldType)) ∈ lw_tbl := List.mem_of_getElem? (i := 174) rfl
set_option maxRecDepth 20000 in
theorem mw_125 : (Cond.methodLink "PolicyCompiler$Printout" (3 : Nat) ({ cls := "java/lang/Object", name := "<init>", desc := "()V" } : MethodName)) ∈ lw_tbl := List.mem_of_getElem? (i := 175) (by decide +kernel)
set_option maxRecDepth 20000 in
theorem mw_126 : (Cond.fieldLink "PolicyCompiler$Printout" (11 : Nat) "PolicyCompiler$Printout" "bytes" "[I") ∈ lw_tbl := List.mem_of_getElem? (i := 176) (by decide +kernel)
set_option maxRecDepth 20000 in
theorem mw_127 : (Cond.fieldLink "PolicyCompiler$Printout" (15 : Nat) "PolicyCompiler$Printout" "lengths" "[I") ∈ lw_tbl := List.mem_of_getElem? (i := 177) (by decide +kernel)
set_option maxRecDepth 20000 in
theorem mw_128 : (Cond.fieldLink "PolicyCompiler$Printout" (18 : Nat) "PolicyCompiler$Printout" "wrapped" "[Z") ∈ lw_tbl := List.mem_of_getElem? (i := 178) (by decide +kernel)
set_option maxRecDepth 20000 in
theorem mw_129 : (Cond.fieldLink "PolicyCompiler$Printout" (22 : Nat) "PolicyCompiler$Printout" "places" "[I") ∈ lw_tbl := List.mem_of_getElem? (i := 179) (by decide +kernel)
set_option maxRecDepth 20000 in
theorem mw_130 : (Cond.fieldLink "PolicyCompiler$Printout" (25 : Nat) "PolicyCompiler$Printout" "total" "I") ∈ lw_tbl := List.mem_of_getElem? (i := 180) (by decide +kernel)
set_option maxRecDepth 20000 in
theorem mw_142 : (Cond.classLink "PolicyCompiler$Slot" (25 : Nat) "PolicyCompiler$Relation") ∈ lw_tbl := List.mem_of_getElem? (i := 192) (by decide +kernel)
set_option maxRecDepth 20000 in
theorem mw_143 : (Cond.instantiable "PolicyCompiler$Relation" (1 : Nat)) ∈ lw_tbl := List.mem_of_getElem? (i := 193) (by decide +kernel)
set_option maxRecDepth 20000 in
theorem mw_144 : (Cond.methodLinkNest "PolicyCompiler$Slot" (27 : Nat) ({ cls := "PolicyCompiler$Relation", name := "<init>", desc := "()V" } : MethodName) "PolicyCompiler") ∈ lw_tbl := List.mem_of_getElem? (i := 194) (by decide +kernel)
set_option maxRecDepth 20000 in
theorem mw_145 : (Cond.instanceMethod ({ cls := "PolicyCompiler$Relation", name := "<init>", desc := "()V" } : MethodName)) ∈ lw_tbl := List.mem_of_getElem? (i := 195) (by decide +kernel)
set_option maxRecDepth 20000 in
theorem mw_146 : (Cond.code ({ cls := "PolicyCompiler$Relation", name := "<init>", desc := "()V" } : MethodName) prog_8_method_1_code (1 : Nat) (Option.none : Option ClassFile.FieldType)) ∈ lw_tbl := List.mem_of_getElem? (i := 196) rfl
set_option maxRecDepth 20000 in
theorem mw_147 : (Cond.methodLink "PolicyCompiler$Relation" (3 : Nat) ({ cls := "java/lang/Object", name := "<init>", desc := "()V" } : MethodName)) ∈ lw_tbl := List.mem_of_getElem? (i := 197) (by decide +kernel)
set_option maxRecDepth 20000 in
theorem mw_148 : (Cond.fieldLink "PolicyCompiler$Relation" (9 : Nat) "PolicyCompiler$Relation" "images" "[J") ∈ lw_tbl := List.mem_of_getElem? (i := 198) (by decide +kernel)
set_option maxRecDepth 20000 in
theorem mw_152 : (Cond.classLink "PolicyCompiler$Slot" (32 : Nat) "PolicyCompiler$Diagram") ∈ lw_tbl := List.mem_of_getElem? (i := 202) (by decide +kernel)
set_option maxRecDepth 20000 in
theorem mw_153 : (Cond.instantiable "PolicyCompiler$Diagram" (10 : Nat)) ∈ lw_tbl := List.mem_of_getElem? (i := 203) (by decide +kernel)
set_option maxRecDepth 20000 in
theorem mw_154 : (Cond.methodLinkNest "PolicyCompiler$Slot" (34 : Nat) ({ cls := "PolicyCompiler$Diagram", name := "<init>", desc := "()V" } : MethodName) "PolicyCompiler") ∈ lw_tbl := List.mem_of_getElem? (i := 204) (by decide +kernel)
set_option maxRecDepth 20000 in
theorem mw_155 : (Cond.instanceMethod ({ cls := "PolicyCompiler$Diagram", name := "<init>", desc := "()V" } : MethodName)) ∈ lw_tbl := List.mem_of_getElem? (i := 205) (by decide +kernel)
set_option maxRecDepth 20000 in
theorem mw_156 : (Cond.code ({ cls := "PolicyCompiler$Diagram", name := "<init>", desc := "()V" } : MethodName) prog_2_method_1_code (1 : Nat) (Option.none : Option ClassFile.FieldType)) ∈ lw_tbl := List.mem_of_getElem? (i := 206) rfl
set_option maxRecDepth 20000 in
theorem mw_157 : (Cond.methodLink "PolicyCompiler$Diagram" (3 : Nat) ({ cls := "java/lang/Object", name := "<init>", desc := "()V" } : MethodName)) ∈ lw_tbl := List.mem_of_getElem? (i := 207) (by decide +kernel)
set_option maxRecDepth 20000 in
theorem mw_158 : (Cond.fieldLink "PolicyCompiler$Diagram" (9 : Nat) "PolicyCompiler$Diagram" "lowActions" "[J") ∈ lw_tbl := List.mem_of_getElem? (i := 208) (by decide +kernel)
set_option maxRecDepth 20000 in
theorem mw_159 : (Cond.fieldLink "PolicyCompiler$Diagram" (15 : Nat) "PolicyCompiler$Diagram" "highActions" "[J") ∈ lw_tbl := List.mem_of_getElem? (i := 209) (by decide +kernel)
set_option maxRecDepth 20000 in
theorem mw_160 : (Cond.fieldLink "PolicyCompiler$Diagram" (18 : Nat) "PolicyCompiler$Diagram" "fields" "[I") ∈ lw_tbl := List.mem_of_getElem? (i := 210) (by decide +kernel)
set_option maxRecDepth 20000 in
theorem mw_161 : (Cond.fieldLink "PolicyCompiler$Diagram" (22 : Nat) "PolicyCompiler$Diagram" "depths" "[I") ∈ lw_tbl := List.mem_of_getElem? (i := 211) (by decide +kernel)
set_option maxRecDepth 20000 in
theorem mw_162 : (Cond.fieldLink "PolicyCompiler$Diagram" (25 : Nat) "PolicyCompiler$Diagram" "children" "[I") ∈ lw_tbl := List.mem_of_getElem? (i := 212) (by decide +kernel)
set_option maxRecDepth 20000 in
theorem mw_163 : (Cond.fieldLink "PolicyCompiler$Diagram" (28 : Nat) "PolicyCompiler$Diagram" "leafCount" "I") ∈ lw_tbl := List.mem_of_getElem? (i := 213) (by decide +kernel)
set_option maxRecDepth 20000 in
theorem mw_164 : (Cond.fieldLink "PolicyCompiler$Diagram" (32 : Nat) "PolicyCompiler$Diagram" "nodeCount" "I") ∈ lw_tbl := List.mem_of_getElem? (i := 214) (by decide +kernel)
set_option maxRecDepth 20000 in
theorem mw_165 : (Cond.fieldLink "PolicyCompiler$Diagram" (35 : Nat) "PolicyCompiler$Diagram" "root" "I") ∈ lw_tbl := List.mem_of_getElem? (i := 215) (by decide +kernel)
set_option maxRecDepth 20000 in
theorem mw_166 : (Cond.fieldLink "PolicyCompiler$Diagram" (38 : Nat) "PolicyCompiler$Diagram" "layer" "[I") ∈ lw_tbl := List.mem_of_getElem? (i := 216) (by decide +kernel)
set_option maxRecDepth 20000 in
theorem mw_167 : (Cond.fieldLink "PolicyCompiler$Diagram" (41 : Nat) "PolicyCompiler$Diagram" "twins" "[I") ∈ lw_tbl := List.mem_of_getElem? (i := 217) (by decide +kernel)
set_option maxRecDepth 20000 in
theorem mw_189 : (Cond.classLink "PolicyCompiler$Slot" (39 : Nat) "PolicyCompiler$Table") ∈ lw_tbl := List.mem_of_getElem? (i := 239) (by decide +kernel)
set_option maxRecDepth 20000 in
theorem mw_190 : (Cond.instantiable "PolicyCompiler$Table" (3 : Nat)) ∈ lw_tbl := List.mem_of_getElem? (i := 240) (by decide +kernel)
set_option maxRecDepth 20000 in
theorem mw_191 : (Cond.methodLinkNest "PolicyCompiler$Slot" (41 : Nat) ({ cls := "PolicyCompiler$Table", name := "<init>", desc := "()V" } : MethodName) "PolicyCompiler") ∈ lw_tbl := List.mem_of_getElem? (i := 241) (by decide +kernel)
set_option maxRecDepth 20000 in
theorem mw_192 : (Cond.instanceMethod ({ cls := "PolicyCompiler$Table", name := "<init>", desc := "()V" } : MethodName)) ∈ lw_tbl := List.mem_of_getElem? (i := 242) (by decide +kernel)
set_option maxRecDepth 20000 in
theorem mw_193 : (Cond.code ({ cls := "PolicyCompiler$Table", name := "<init>", desc := "()V" } : MethodName) prog_10_method_1_code (1 : Nat) (Option.none : Option ClassFile.FieldType)) ∈ lw_tbl := List.mem_of_getElem? (i := 243) rfl
set_option maxRecDepth 20000 in
theorem mw_194 : (Cond.methodLink "PolicyCompiler$Table" (3 : Nat) ({ cls := "java/lang/Object", name := "<init>", desc := "()V" } : MethodName)) ∈ lw_tbl := List.mem_of_getElem? (i := 244) (by decide +kernel)
set_option maxRecDepth 20000 in
theorem mw_195 : (Cond.fieldLink "PolicyCompiler$Table" (9 : Nat) "PolicyCompiler$Table" "demands" "[I") ∈ lw_tbl := List.mem_of_getElem? (i := 245) (by decide +kernel)
set_option maxRecDepth 20000 in
theorem mw_196 : (Cond.fieldLink "PolicyCompiler$Table" (15 : Nat) "PolicyCompiler$Table" "rowLeaves" "[I") ∈ lw_tbl := List.mem_of_getElem? (i := 246) (by decide +kernel)
set_option maxRecDepth 20000 in
theorem mw_197 : (Cond.fieldLink "PolicyCompiler$Table" (18 : Nat) "PolicyCompiler$Table" "rowCount" "I") ∈ lw_tbl := List.mem_of_getElem? (i := 247) (by decide +kernel)
set_option maxRecDepth 20000 in
theorem mw_205 : (Cond.methodLink "PolicyCompiler$Slot" (50 : Nat) ({ cls := "PolicyCompiler$Policy", name := "add", desc := "(III)V" } : MethodName)) ∈ lw_tbl := List.mem_of_getElem? (i := 255) (by decide +kernel)
set_option maxRecDepth 20000 in
theorem mw_206 : (Cond.instanceMethod ({ cls := "PolicyCompiler$Policy", name := "add", desc := "(III)V" } : MethodName)) ∈ lw_tbl := List.mem_of_getElem? (i := 256) (by decide +kernel)
set_option maxRecDepth 20000 in
theorem mw_207 : (Cond.selects "PolicyCompiler$Policy" ({ cls := "PolicyCompiler$Policy", name := "add", desc := "(III)V" } : MethodName) ({ cls := "PolicyCompiler$Policy", name := "add", desc := "(III)V" } : MethodName)) ∈ lw_tbl := List.mem_of_getElem? (i := 257) (by decide +kernel)
set_option maxRecDepth 20000 in
theorem mw_208 : (Cond.code ({ cls := "PolicyCompiler$Policy", name := "add", desc := "(III)V" } : MethodName) prog_6_method_3_code (7 : Nat) (Option.none : Option ClassFile.FieldType)) ∈ lw_tbl := List.mem_of_getElem? (i := 258) rfl
set_option maxRecDepth 20000 in
theorem mw_209 : (Cond.methodLink "PolicyCompiler$Policy" (26 : Nat) ({ cls := "PolicyCompiler$Policy", name := "operandsOf", desc := "(I)I" } : MethodName)) ∈ lw_tbl := List.mem_of_getElem? (i := 259) (by decide +kernel)
set_option maxRecDepth 20000 in
theorem mw_210 : (Cond.static ({ cls := "PolicyCompiler$Policy", name := "operandsOf", desc := "(I)I" } : MethodName)) ∈ lw_tbl := List.mem_of_getElem? (i := 260) (by decide +kernel)
set_option maxRecDepth 20000 in
theorem mw_211 : (Cond.code ({ cls := "PolicyCompiler$Policy", name := "operandsOf", desc := "(I)I" } : MethodName) prog_6_method_4_code (1 : Nat) (Option.some FieldType.int)) ∈ lw_tbl := List.mem_of_getElem? (i := 261) rfl
set_option maxRecDepth 20000 in
theorem mw_212 : (Cond.methodLink "PolicyCompiler$Slot" (54 : Nat) ({ cls := "PolicyCompiler$Policy", name := "markPredicate", desc := "(Z)V" } : MethodName)) ∈ lw_tbl := List.mem_of_getElem? (i := 262) (by decide +kernel)
set_option maxRecDepth 20000 in
theorem mw_213 : (Cond.instanceMethod ({ cls := "PolicyCompiler$Policy", name := "markPredicate", desc := "(Z)V" } : MethodName)) ∈ lw_tbl := List.mem_of_getElem? (i := 263) (by decide +kernel)
set_option maxRecDepth 20000 in
theorem mw_214 : (Cond.selects "PolicyCompiler$Policy" ({ cls := "PolicyCompiler$Policy", name := "markPredicate", desc := "(Z)V" } : MethodName) ({ cls := "PolicyCompiler$Policy", name := "markPredicate", desc := "(Z)V" } : MethodName)) ∈ lw_tbl := List.mem_of_getElem? (i := 264) (by decide +kernel)
set_option maxRecDepth 20000 in
theorem mw_215 : (Cond.code ({ cls := "PolicyCompiler$Policy", name := "markPredicate", desc := "(Z)V" } : MethodName) prog_6_method_6_code (2 : Nat) (Option.none : Option ClassFile.FieldType)) ∈ lw_tbl := List.mem_of_getElem? (i := 265) rfl
set_option maxRecDepth 20000 in
theorem mw_216 : (Cond.fieldLink "PolicyCompiler$Slot" (12 : Nat) "PolicyCompiler$Slot" "policy" "LPolicyCompiler$Policy;") ∈ lw_tbl := List.mem_of_getElem? (i := 266) (by decide +kernel)
set_option maxRecDepth 20000 in
theorem mw_217 : (Cond.fieldLink "PolicyCompiler$Slot" (21 : Nat) "PolicyCompiler$Slot" "printout" "LPolicyCompiler$Printout;") ∈ lw_tbl := List.mem_of_getElem? (i := 267) (by decide +kernel)
set_option maxRecDepth 20000 in
theorem mw_218 : (Cond.fieldLink "PolicyCompiler$Slot" (28 : Nat) "PolicyCompiler$Slot" "relation" "LPolicyCompiler$Relation;") ∈ lw_tbl := List.mem_of_getElem? (i := 268) (by decide +kernel)
set_option maxRecDepth 20000 in
theorem mw_219 : (Cond.fieldLink "PolicyCompiler$Slot" (35 : Nat) "PolicyCompiler$Slot" "diagram" "LPolicyCompiler$Diagram;") ∈ lw_tbl := List.mem_of_getElem? (i := 269) (by decide +kernel)
set_option maxRecDepth 20000 in
theorem mw_220 : (Cond.fieldLink "PolicyCompiler$Slot" (42 : Nat) "PolicyCompiler$Slot" "table" "LPolicyCompiler$Table;") ∈ lw_tbl := List.mem_of_getElem? (i := 270) (by decide +kernel)
set_option maxRecDepth 20000 in
theorem mw_221 : (Cond.fieldLink "PolicyCompiler$Slot" (46 : Nat) "PolicyCompiler$Slot" "fresh" "Z") ∈ lw_tbl := List.mem_of_getElem? (i := 271) (by decide +kernel)
set_option maxRecDepth 20000 in
theorem mw_235 : (Cond.fieldLink "PolicyCompiler" (9 : Nat) "PolicyCompiler" "text" "[I") ∈ lw_tbl := List.mem_of_getElem? (i := 285) (by decide +kernel)
set_option maxRecDepth 20000 in
theorem mw_236 : (Cond.fieldLink "PolicyCompiler" (13 : Nat) "PolicyCompiler" "textLength" "I") ∈ lw_tbl := List.mem_of_getElem? (i := 286) (by decide +kernel)
set_option maxRecDepth 20000 in
theorem mw_237 : (Cond.fieldLink "PolicyCompiler" (19 : Nat) "PolicyCompiler" "slots" "[LPolicyCompiler$Slot;") ∈ lw_tbl := List.mem_of_getElem? (i := 287) (by decide +kernel)
set_option maxRecDepth 20000 in
theorem mw_238 : (Cond.fieldLink "PolicyCompiler" (26 : Nat) "PolicyCompiler" "history" "LPolicyCompiler$History;") ∈ lw_tbl := List.mem_of_getElem? (i := 288) (by decide +kernel)
set_option maxRecDepth 20000 in
theorem mw_239 : (Cond.fieldLink "PolicyCompiler" (30 : Nat) "PolicyCompiler" "errors" "[I") ∈ lw_tbl := List.mem_of_getElem? (i := 289) (by decide +kernel)
set_option maxRecDepth 20000 in
theorem mw_240 : (Cond.fieldLink "PolicyCompiler" (36 : Nat) "PolicyCompiler" "parser" "LPolicyCompiler$Parser;") ∈ lw_tbl := List.mem_of_getElem? (i := 290) (by decide +kernel)
set_option maxRecDepth 20000 in
theorem mw_241 : (Cond.fieldLink "PolicyCompiler" (43 : Nat) "PolicyCompiler" "evaluator" "LPolicyCompiler$Evaluator;") ∈ lw_tbl := List.mem_of_getElem? (i := 291) (by decide +kernel)
set_option maxRecDepth 20000 in
theorem mw_242 : (Cond.fieldLink "PolicyCompiler" (50 : Nat) "PolicyCompiler" "draft" "LPolicyCompiler$Policy;") ∈ lw_tbl := List.mem_of_getElem? (i := 292) (by decide +kernel)
set_option maxRecDepth 20000 in
theorem mw_260 : (Cond.methodLink "PolicyCompilerLaw" (58 : Nat) ({ cls := "PolicyCompiler", name := "combine", desc := "(IIII)I" } : MethodName)) ∈ lw_tbl := List.mem_of_getElem? (i := 310) (by decide +kernel)
set_option maxRecDepth 20000 in
theorem mw_261 : (Cond.instanceMethod ({ cls := "PolicyCompiler", name := "combine", desc := "(IIII)I" } : MethodName)) ∈ lw_tbl := List.mem_of_getElem? (i := 311) (by decide +kernel)
set_option maxRecDepth 20000 in
theorem mw_262 : (Cond.selects "PolicyCompiler" ({ cls := "PolicyCompiler", name := "combine", desc := "(IIII)I" } : MethodName) ({ cls := "PolicyCompiler", name := "combine", desc := "(IIII)I" } : MethodName)) ∈ lw_tbl := List.mem_of_getElem? (i := 312) (by decide +kernel)
set_option maxRecDepth 20000 in
theorem mw_263 : (Cond.code ({ cls := "PolicyCompiler", name := "combine", desc := "(IIII)I" } : MethodName) prog_1_method_5_code (7 : Nat) (Option.some FieldType.int)) ∈ lw_tbl := List.mem_of_getElem? (i := 313) rfl
set_option maxRecDepth 20000 in
theorem mw_264 : (Cond.methodLink "PolicyCompiler" (75 : Nat) ({ cls := "PolicyCompiler", name := "isBit", desc := "(I)Z" } : MethodName)) ∈ lw_tbl := List.mem_of_getElem? (i := 314) (by decide +kernel)
set_option maxRecDepth 20000 in
theorem mw_265 : (Cond.static ({ cls := "PolicyCompiler", name := "isBit", desc := "(I)Z" } : MethodName)) ∈ lw_tbl := List.mem_of_getElem? (i := 315) (by decide +kernel)
set_option maxRecDepth 20000 in
theorem mw_266 : (Cond.code ({ cls := "PolicyCompiler", name := "isBit", desc := "(I)Z" } : MethodName) prog_1_method_34_code (1 : Nat) (Option.some FieldType.boolean)) ∈ lw_tbl := List.mem_of_getElem? (i := 316) rfl
set_option maxRecDepth 20000 in
theorem mw_267 : (Cond.methodLink "PolicyCompiler" (59 : Nat) ({ cls := "PolicyCompiler", name := "isSlot", desc := "(I)Z" } : MethodName)) ∈ lw_tbl := List.mem_of_getElem? (i := 317) (by decide +kernel)
set_option maxRecDepth 20000 in
theorem mw_268 : (Cond.static ({ cls := "PolicyCompiler", name := "isSlot", desc := "(I)Z" } : MethodName)) ∈ lw_tbl := List.mem_of_getElem? (i := 318) (by decide +kernel)
set_option maxRecDepth 20000 in
theorem mw_269 : (Cond.code ({ cls := "PolicyCompiler", name := "isSlot", desc := "(I)Z" } : MethodName) prog_1_method_35_code (1 : Nat) (Option.some FieldType.boolean)) ∈ lw_tbl := List.mem_of_getElem? (i := 319) rfl
set_option maxRecDepth 20000 in
theorem mw_270 : (Cond.methodLink "PolicyCompiler" (55 : Nat) ({ cls := "PolicyCompiler", name := "fail", desc := "(I)I" } : MethodName)) ∈ lw_tbl := List.mem_of_getElem? (i := 320) (by decide +kernel)
set_option maxRecDepth 20000 in
theorem mw_272 : (Cond.instanceMethod ({ cls := "PolicyCompiler", name := "fail", desc := "(I)I" } : MethodName)) ∈ lw_tbl := List.mem_of_getElem? (i := 322) (by decide +kernel)
set_option maxRecDepth 20000 in
theorem mw_273 : (Cond.code ({ cls := "PolicyCompiler", name := "fail", desc := "(I)I" } : MethodName) prog_1_method_32_code (3 : Nat) (Option.some FieldType.int)) ∈ lw_tbl := List.mem_of_getElem? (i := 323) rfl
set_option maxRecDepth 20000 in
theorem mw_274 : (Cond.methodLink "PolicyCompiler" (78 : Nat) ({ cls := "PolicyCompiler$Slot", name := "policy", desc := "()LPolicyCompiler$Policy;" } : MethodName)) ∈ lw_tbl := List.mem_of_getElem? (i := 324) (by decide +kernel)
set_option maxRecDepth 20000 in
theorem mw_275 : (Cond.instanceMethod ({ cls := "PolicyCompiler$Slot", name := "policy", desc := "()LPolicyCompiler$Policy;" } : MethodName)) ∈ lw_tbl := List.mem_of_getElem? (i := 325) (by decide +kernel)
set_option maxRecDepth 20000 in
theorem mw_276 : (Cond.selects "PolicyCompiler$Slot" ({ cls := "PolicyCompiler$Slot", name := "policy", desc := "()LPolicyCompiler$Policy;" } : MethodName) ({ cls := "PolicyCompiler$Slot", name := "policy", desc := "()LPolicyCompiler$Policy;" } : MethodName)) ∈ lw_tbl := List.mem_of_getElem? (i := 326) (by decide +kernel)
set_option maxRecDepth 20000 in
theorem mw_277 : (Cond.code ({ cls := "PolicyCompiler$Slot", name := "policy", desc := "()LPolicyCompiler$Policy;" } : MethodName) prog_9_method_4_code (1 : Nat) (Option.some (FieldType.object "PolicyCompiler$Policy"))) ∈ lw_tbl := List.mem_of_getElem? (i := 327) rfl
set_option maxRecDepth 20000 in
theorem mw_278 : (Cond.methodLink "PolicyCompiler" (81 : Nat) ({ cls := "PolicyCompiler$Policy", name := "start", desc := "()V" } : MethodName)) ∈ lw_tbl := List.mem_of_getElem? (i := 328) (by decide +kernel)
set_option maxRecDepth 20000 in
theorem mw_279 : (Cond.instanceMethod ({ cls := "PolicyCompiler$Policy", name := "start", desc := "()V" } : MethodName)) ∈ lw_tbl := List.mem_of_getElem? (i := 329) (by decide +kernel)
set_option maxRecDepth 20000 in
theorem mw_280 : (Cond.selects "PolicyCompiler$Policy" ({ cls := "PolicyCompiler$Policy", name := "start", desc := "()V" } : MethodName) ({ cls := "PolicyCompiler$Policy", name := "start", desc := "()V" } : MethodName)) ∈ lw_tbl := List.mem_of_getElem? (i := 330) (by decide +kernel)
set_option maxRecDepth 20000 in
theorem mw_281 : (Cond.code ({ cls := "PolicyCompiler$Policy", name := "start", desc := "()V" } : MethodName) prog_6_method_2_code (1 : Nat) (Option.none : Option ClassFile.FieldType)) ∈ lw_tbl := List.mem_of_getElem? (i := 331) rfl
set_option maxRecDepth 20000 in
theorem mw_282 : (Cond.methodLink "PolicyCompiler" (84 : Nat) ({ cls := "PolicyCompiler$Policy", name := "addAll", desc := "(LPolicyCompiler$Policy;)V" } : MethodName)) ∈ lw_tbl := List.mem_of_getElem? (i := 332) (by decide +kernel)
set_option maxRecDepth 20000 in
theorem mw_283 : (Cond.instanceMethod ({ cls := "PolicyCompiler$Policy", name := "addAll", desc := "(LPolicyCompiler$Policy;)V" } : MethodName)) ∈ lw_tbl := List.mem_of_getElem? (i := 333) (by decide +kernel)
set_option maxRecDepth 20000 in
theorem mw_284 : (Cond.selects "PolicyCompiler$Policy" ({ cls := "PolicyCompiler$Policy", name := "addAll", desc := "(LPolicyCompiler$Policy;)V" } : MethodName) ({ cls := "PolicyCompiler$Policy", name := "addAll", desc := "(LPolicyCompiler$Policy;)V" } : MethodName)) ∈ lw_tbl := List.mem_of_getElem? (i := 334) (by decide +kernel)
set_option maxRecDepth 20000 in
theorem mw_285 : (Cond.code ({ cls := "PolicyCompiler$Policy", name := "addAll", desc := "(LPolicyCompiler$Policy;)V" } : MethodName) prog_6_method_5_code (4 : Nat) (Option.none : Option ClassFile.FieldType)) ∈ lw_tbl := List.mem_of_getElem? (i := 335) rfl
set_option maxRecDepth 20000 in
theorem mw_286 : (Cond.methodLink "PolicyCompiler" (88 : Nat) ({ cls := "PolicyCompiler$Policy", name := "add", desc := "(III)V" } : MethodName)) ∈ lw_tbl := List.mem_of_getElem? (i := 336) (by decide +kernel)
set_option maxRecDepth 20000 in
theorem mw_287 : (Cond.methodLink "PolicyCompiler" (92 : Nat) ({ cls := "PolicyCompiler$Policy", name := "givesPredicate", desc := "()Z" } : MethodName)) ∈ lw_tbl := List.mem_of_getElem? (i := 337) (by decide +kernel)
set_option maxRecDepth 20000 in
theorem mw_288 : (Cond.instanceMethod ({ cls := "PolicyCompiler$Policy", name := "givesPredicate", desc := "()Z" } : MethodName)) ∈ lw_tbl := List.mem_of_getElem? (i := 338) (by decide +kernel)
set_option maxRecDepth 20000 in
theorem mw_289 : (Cond.selects "PolicyCompiler$Policy" ({ cls := "PolicyCompiler$Policy", name := "givesPredicate", desc := "()Z" } : MethodName) ({ cls := "PolicyCompiler$Policy", name := "givesPredicate", desc := "()Z" } : MethodName)) ∈ lw_tbl := List.mem_of_getElem? (i := 339) (by decide +kernel)
set_option maxRecDepth 20000 in
theorem mw_290 : (Cond.code ({ cls := "PolicyCompiler$Policy", name := "givesPredicate", desc := "()Z" } : MethodName) prog_6_method_7_code (1 : Nat) (Option.some FieldType.boolean)) ∈ lw_tbl := List.mem_of_getElem? (i := 340) rfl
set_option maxRecDepth 20000 in
theorem mw_291 : (Cond.methodLink "PolicyCompiler" (96 : Nat) ({ cls := "PolicyCompiler$Policy", name := "markPredicate", desc := "(Z)V" } : MethodName)) ∈ lw_tbl := List.mem_of_getElem? (i := 341) (by decide +kernel)
set_option maxRecDepth 20000 in
theorem mw_292 : (Cond.methodLink "PolicyCompiler" (71 : Nat) ({ cls := "PolicyCompiler", name := "store", desc := "(LPolicyCompiler$Policy;I)I" } : MethodName)) ∈ lw_tbl := List.mem_of_getElem? (i := 342) (by decide +kernel)
set_option maxRecDepth 20000 in
theorem mw_294 : (Cond.instanceMethod ({ cls := "PolicyCompiler", name := "store", desc := "(LPolicyCompiler$Policy;I)I" } : MethodName)) ∈ lw_tbl := List.mem_of_getElem? (i := 344) (by decide +kernel)
set_option maxRecDepth 20000 in
theorem mw_295 : (Cond.code ({ cls := "PolicyCompiler", name := "store", desc := "(LPolicyCompiler$Policy;I)I" } : MethodName) prog_1_method_33_code (3 : Nat) (Option.some FieldType.int)) ∈ lw_tbl := List.mem_of_getElem? (i := 345) rfl
set_option maxRecDepth 20000 in
theorem mw_296 : (Cond.methodLink "PolicyCompiler" (100 : Nat) ({ cls := "PolicyCompiler$Policy", name := "nodeCount", desc := "()I" } : MethodName)) ∈ lw_tbl := List.mem_of_getElem? (i := 346) (by decide +kernel)
set_option maxRecDepth 20000 in
theorem mw_297 : (Cond.instanceMethod ({ cls := "PolicyCompiler$Policy", name := "nodeCount", desc := "()I" } : MethodName)) ∈ lw_tbl := List.mem_of_getElem? (i := 347) (by decide +kernel)
set_option maxRecDepth 20000 in
theorem mw_298 : (Cond.selects "PolicyCompiler$Policy" ({ cls := "PolicyCompiler$Policy", name := "nodeCount", desc := "()I" } : MethodName) ({ cls := "PolicyCompiler$Policy", name := "nodeCount", desc := "()I" } : MethodName)) ∈ lw_tbl := List.mem_of_getElem? (i := 348) (by decide +kernel)
set_option maxRecDepth 20000 in
theorem mw_299 : (Cond.code ({ cls := "PolicyCompiler$Policy", name := "nodeCount", desc := "()I" } : MethodName) prog_6_method_8_code (1 : Nat) (Option.some FieldType.int)) ∈ lw_tbl := List.mem_of_getElem? (i := 349) rfl
set_option maxRecDepth 20000 in
theorem mw_300 : (Cond.methodLink "PolicyCompiler" (239 : Nat) ({ cls := "PolicyCompiler$History", name := "save", desc := "(ILPolicyCompiler$Policy;)V" } : MethodName)) ∈ lw_tbl := List.mem_of_getElem? (i := 350) (by decide +kernel)
set_option maxRecDepth 20000 in
theorem mw_301 : (Cond.instanceMethod ({ cls := "PolicyCompiler$History", name := "save", desc := "(ILPolicyCompiler$Policy;)V" } : MethodName)) ∈ lw_tbl := List.mem_of_getElem? (i := 351) (by decide +kernel)
set_option maxRecDepth 20000 in
theorem mw_302 : (Cond.selects "PolicyCompiler$History" ({ cls := "PolicyCompiler$History", name := "save", desc := "(ILPolicyCompiler$Policy;)V" } : MethodName) ({ cls := "PolicyCompiler$History", name := "save", desc := "(ILPolicyCompiler$Policy;)V" } : MethodName)) ∈ lw_tbl := List.mem_of_getElem? (i := 352) (by decide +kernel)
set_option maxRecDepth 20000 in
theorem mw_303 : (Cond.code ({ cls := "PolicyCompiler$History", name := "save", desc := "(ILPolicyCompiler$Policy;)V" } : MethodName) prog_4_method_3_code (3 : Nat) (Option.none : Option ClassFile.FieldType)) ∈ lw_tbl := List.mem_of_getElem? (i := 353) rfl
set_option maxRecDepth 20000 in
theorem mw_304 : (Cond.methodLink "PolicyCompiler$History" (26 : Nat) ({ cls := "PolicyCompiler$History", name := "dropOldest", desc := "()V" } : MethodName)) ∈ lw_tbl := List.mem_of_getElem? (i := 354) (by decide +kernel)
set_option maxRecDepth 20000 in
theorem mw_306 : (Cond.instanceMethod ({ cls := "PolicyCompiler$History", name := "dropOldest", desc := "()V" } : MethodName)) ∈ lw_tbl := List.mem_of_getElem? (i := 356) (by decide +kernel)
set_option maxRecDepth 20000 in
theorem mw_307 : (Cond.code ({ cls := "PolicyCompiler$History", name := "dropOldest", desc := "()V" } : MethodName) prog_4_method_4_code (3 : Nat) (Option.none : Option ClassFile.FieldType)) ∈ lw_tbl := List.mem_of_getElem? (i := 357) rfl
set_option maxRecDepth 20000 in
theorem mw_308 : (Cond.methodLink "PolicyCompiler$History" (29 : Nat) ({ cls := "PolicyCompiler$Policy", name := "start", desc := "()V" } : MethodName)) ∈ lw_tbl := List.mem_of_getElem? (i := 358) (by decide +kernel)
set_option maxRecDepth 20000 in
theorem mw_309 : (Cond.methodLink "PolicyCompiler$History" (32 : Nat) ({ cls := "PolicyCompiler$Policy", name := "addAll", desc := "(LPolicyCompiler$Policy;)V" } : MethodName)) ∈ lw_tbl := List.mem_of_getElem? (i := 359) (by decide +kernel)
set_option maxRecDepth 20000 in
theorem mw_310 : (Cond.methodLink "PolicyCompiler$History" (36 : Nat) ({ cls := "PolicyCompiler$Policy", name := "givesPredicate", desc := "()Z" } : MethodName)) ∈ lw_tbl := List.mem_of_getElem? (i := 360) (by decide +kernel)
set_option maxRecDepth 20000 in
theorem mw_311 : (Cond.methodLink "PolicyCompiler$History" (40 : Nat) ({ cls := "PolicyCompiler$Policy", name := "markPredicate", desc := "(Z)V" } : MethodName)) ∈ lw_tbl := List.mem_of_getElem? (i := 361) (by decide +kernel)
set_option maxRecDepth 20000 in
theorem mw_312 : (Cond.methodLink "PolicyCompiler" (210 : Nat) ({ cls := "PolicyCompiler$Slot", name := "hold", desc := "(LPolicyCompiler$Policy;)V" } : MethodName)) ∈ lw_tbl := List.mem_of_getElem? (i := 362) (by decide +kernel)
set_option maxRecDepth 20000 in
theorem mw_313 : (Cond.instanceMethod ({ cls := "PolicyCompiler$Slot", name := "hold", desc := "(LPolicyCompiler$Policy;)V" } : MethodName)) ∈ lw_tbl := List.mem_of_getElem? (i := 363) (by decide +kernel)
set_option maxRecDepth 20000 in
theorem mw_314 : (Cond.selects "PolicyCompiler$Slot" ({ cls := "PolicyCompiler$Slot", name := "hold", desc := "(LPolicyCompiler$Policy;)V" } : MethodName) ({ cls := "PolicyCompiler$Slot", name := "hold", desc := "(LPolicyCompiler$Policy;)V" } : MethodName)) ∈ lw_tbl := List.mem_of_getElem? (i := 364) (by decide +kernel)
set_option maxRecDepth 20000 in
theorem mw_315 : (Cond.code ({ cls := "PolicyCompiler$Slot", name := "hold", desc := "(LPolicyCompiler$Policy;)V" } : MethodName) prog_9_method_2_code (2 : Nat) (Option.none : Option ClassFile.FieldType)) ∈ lw_tbl := List.mem_of_getElem? (i := 365) rfl
set_option maxRecDepth 20000 in
theorem mw_316 : (Cond.methodLink "PolicyCompiler$Slot" (58 : Nat) ({ cls := "PolicyCompiler$Policy", name := "start", desc := "()V" } : MethodName)) ∈ lw_tbl := List.mem_of_getElem? (i := 366) (by decide +kernel)
set_option maxRecDepth 20000 in
theorem mw_317 : (Cond.methodLink "PolicyCompiler$Slot" (61 : Nat) ({ cls := "PolicyCompiler$Policy", name := "addAll", desc := "(LPolicyCompiler$Policy;)V" } : MethodName)) ∈ lw_tbl := List.mem_of_getElem? (i := 367) (by decide +kernel)
set_option maxRecDepth 20000 in
theorem mw_318 : (Cond.methodLink "PolicyCompiler$Slot" (65 : Nat) ({ cls := "PolicyCompiler$Policy", name := "givesPredicate", desc := "()Z" } : MethodName)) ∈ lw_tbl := List.mem_of_getElem? (i := 368) (by decide +kernel)
set_option maxRecDepth 20000 in
theorem mw_319 : (Cond.methodLink "PolicyCompilerLaw" (65 : Nat) ({ cls := "PolicyCompiler", name := "modify", desc := "(III)I" } : MethodName)) ∈ lw_tbl := List.mem_of_getElem? (i := 369) (by decide +kernel)
set_option maxRecDepth 20000 in
theorem mw_320 : (Cond.instanceMethod ({ cls := "PolicyCompiler", name := "modify", desc := "(III)I" } : MethodName)) ∈ lw_tbl := List.mem_of_getElem? (i := 370) (by decide +kernel)
set_option maxRecDepth 20000 in
theorem mw_321 : (Cond.selects "PolicyCompiler" ({ cls := "PolicyCompiler", name := "modify", desc := "(III)I" } : MethodName) ({ cls := "PolicyCompiler", name := "modify", desc := "(III)I" } : MethodName)) ∈ lw_tbl := List.mem_of_getElem? (i := 371) (by decide +kernel)
set_option maxRecDepth 20000 in
theorem mw_322 : (Cond.code ({ cls := "PolicyCompiler", name := "modify", desc := "(III)I" } : MethodName) prog_1_method_6_code (6 : Nat) (Option.some FieldType.int)) ∈ lw_tbl := List.mem_of_getElem? (i := 372) rfl
set_option maxRecDepth 20000 in
theorem mw_323 : (Cond.methodLink "PolicyCompilerLaw" (62 : Nat) ({ cls := "PolicyCompiler", name := "undo", desc := "()I" } : MethodName)) ∈ lw_tbl := List.mem_of_getElem? (i := 373) (by decide +kernel)
set_option maxRecDepth 20000 in
theorem mw_324 : (Cond.instanceMethod ({ cls := "PolicyCompiler", name := "undo", desc := "()I" } : MethodName)) ∈ lw_tbl := List.mem_of_getElem? (i := 374) (by decide +kernel)
set_option maxRecDepth 20000 in
theorem mw_325 : (Cond.selects "PolicyCompiler" ({ cls := "PolicyCompiler", name := "undo", desc := "()I" } : MethodName) ({ cls := "PolicyCompiler", name := "undo", desc := "()I" } : MethodName)) ∈ lw_tbl := List.mem_of_getElem? (i := 375) (by decide +kernel)
set_option maxRecDepth 20000 in
theorem mw_326 : (Cond.code ({ cls := "PolicyCompiler", name := "undo", desc := "()I" } : MethodName) prog_1_method_26_code (2 : Nat) (Option.some FieldType.int)) ∈ lw_tbl := List.mem_of_getElem? (i := 376) rfl
set_option maxRecDepth 20000 in
theorem mw_327 : (Cond.methodLink "PolicyCompiler" (204 : Nat) ({ cls := "PolicyCompiler$History", name := "newestSlot", desc := "()I" } : MethodName)) ∈ lw_tbl := List.mem_of_getElem? (i := 377) (by decide +kernel)
set_option maxRecDepth 20000 in
theorem mw_328 : (Cond.instanceMethod ({ cls := "PolicyCompiler$History", name := "newestSlot", desc := "()I" } : MethodName)) ∈ lw_tbl := List.mem_of_getElem? (i := 378) (by decide +kernel)
set_option maxRecDepth 20000 in
theorem mw_329 : (Cond.selects "PolicyCompiler$History" ({ cls := "PolicyCompiler$History", name := "newestSlot", desc := "()I" } : MethodName) ({ cls := "PolicyCompiler$History", name := "newestSlot", desc := "()I" } : MethodName)) ∈ lw_tbl := List.mem_of_getElem? (i := 379) (by decide +kernel)
set_option maxRecDepth 20000 in
theorem mw_330 : (Cond.code ({ cls := "PolicyCompiler$History", name := "newestSlot", desc := "()I" } : MethodName) prog_4_method_5_code (1 : Nat) (Option.some FieldType.int)) ∈ lw_tbl := List.mem_of_getElem? (i := 380) rfl
set_option maxRecDepth 20000 in
theorem mw_331 : (Cond.methodLink "PolicyCompiler" (207 : Nat) ({ cls := "PolicyCompiler$History", name := "newestPolicy", desc := "()LPolicyCompiler$Policy;" } : MethodName)) ∈ lw_tbl := List.mem_of_getElem? (i := 381) (by decide +kernel)
set_option maxRecDepth 20000 in
theorem mw_332 : (Cond.instanceMethod ({ cls := "PolicyCompiler$History", name := "newestPolicy", desc := "()LPolicyCompiler$Policy;" } : MethodName)) ∈ lw_tbl := List.mem_of_getElem? (i := 382) (by decide +kernel)
set_option maxRecDepth 20000 in
theorem mw_333 : (Cond.selects "PolicyCompiler$History" ({ cls := "PolicyCompiler$History", name := "newestPolicy", desc := "()LPolicyCompiler$Policy;" } : MethodName) ({ cls := "PolicyCompiler$History", name := "newestPolicy", desc := "()LPolicyCompiler$Policy;" } : MethodName)) ∈ lw_tbl := List.mem_of_getElem? (i := 383) (by decide +kernel)
set_option maxRecDepth 20000 in
theorem mw_334 : (Cond.code ({ cls := "PolicyCompiler$History", name := "newestPolicy", desc := "()LPolicyCompiler$Policy;" } : MethodName) prog_4_method_6_code (1 : Nat) (Option.some (FieldType.object "PolicyCompiler$Policy"))) ∈ lw_tbl := List.mem_of_getElem? (i := 384) rfl
set_option maxRecDepth 20000 in
theorem mw_335 : (Cond.methodLink "PolicyCompiler" (213 : Nat) ({ cls := "PolicyCompiler$History", name := "dropNewest", desc := "()V" } : MethodName)) ∈ lw_tbl := List.mem_of_getElem? (i := 385) (by decide +kernel)
set_option maxRecDepth 20000 in
theorem mw_336 : (Cond.instanceMethod ({ cls := "PolicyCompiler$History", name := "dropNewest", desc := "()V" } : MethodName)) ∈ lw_tbl := List.mem_of_getElem? (i := 386) (by decide +kernel)
set_option maxRecDepth 20000 in
theorem mw_337 : (Cond.selects "PolicyCompiler$History" ({ cls := "PolicyCompiler$History", name := "dropNewest", desc := "()V" } : MethodName) ({ cls := "PolicyCompiler$History", name := "dropNewest", desc := "()V" } : MethodName)) ∈ lw_tbl := List.mem_of_getElem? (i := 387) (by decide +kernel)
set_option maxRecDepth 20000 in
theorem mw_338 : (Cond.code ({ cls := "PolicyCompiler$History", name := "dropNewest", desc := "()V" } : MethodName) prog_4_method_7_code (1 : Nat) (Option.none : Option ClassFile.FieldType)) ∈ lw_tbl := List.mem_of_getElem? (i := 388) rfl
set_option maxRecDepth 20000 in
theorem mw_339 : (Cond.methodLink "PolicyCompiler" (216 : Nat) ({ cls := "PolicyCompiler$History", name := "savedCount", desc := "()I" } : MethodName)) ∈ lw_tbl := List.mem_of_getElem? (i := 389) (by decide +kernel)
set_option maxRecDepth 20000 in
theorem mw_340 : (Cond.instanceMethod ({ cls := "PolicyCompiler$History", name := "savedCount", desc := "()I" } : MethodName)) ∈ lw_tbl := List.mem_of_getElem? (i := 390) (by decide +kernel)
set_option maxRecDepth 20000 in
theorem mw_341 : (Cond.selects "PolicyCompiler$History" ({ cls := "PolicyCompiler$History", name := "savedCount", desc := "()I" } : MethodName) ({ cls := "PolicyCompiler$History", name := "savedCount", desc := "()I" } : MethodName)) ∈ lw_tbl := List.mem_of_getElem? (i := 391) (by decide +kernel)
set_option maxRecDepth 20000 in
theorem mw_342 : (Cond.code ({ cls := "PolicyCompiler$History", name := "savedCount", desc := "()I" } : MethodName) prog_4_method_2_code (1 : Nat) (Option.some FieldType.int)) ∈ lw_tbl := List.mem_of_getElem? (i := 392) rfl
set_option maxRecDepth 20000 in
theorem mw_343 : (Cond.methodLink "PolicyCompilerLaw" (136 : Nat) ({ cls := "PolicyCompilerLaw", name := "cell", desc := "([II)I" } : MethodName)) ∈ lw_tbl := List.mem_of_getElem? (i := 393) (by decide +kernel)
set_option maxRecDepth 20000 in
theorem mw_344 : (Cond.static ({ cls := "PolicyCompilerLaw", name := "cell", desc := "([II)I" } : MethodName)) ∈ lw_tbl := List.mem_of_getElem? (i := 394) (by decide +kernel)
set_option maxRecDepth 20000 in
theorem mw_345 : (Cond.code ({ cls := "PolicyCompilerLaw", name := "cell", desc := "([II)I" } : MethodName) method_2_code (2 : Nat) (Option.some FieldType.int)) ∈ lw_tbl := List.mem_of_getElem? (i := 395) rfl
set_option maxRecDepth 20000 in
theorem mw_346 : (Cond.constant "PolicyCompilerLaw" (7 : Nat) (528734635 : Int32)) ∈ lw_tbl := List.mem_of_getElem? (i := 396) (by decide +kernel)
set_option maxRecDepth 20000 in
theorem mw_347 : (Cond.methodLink "PolicyCompilerLaw" (140 : Nat) ({ cls := "PolicyCompilerLaw", name := "low", desc := "(II)I" } : MethodName)) ∈ lw_tbl := List.mem_of_getElem? (i := 397) (by decide +kernel)
set_option maxRecDepth 20000 in
theorem mw_348 : (Cond.static ({ cls := "PolicyCompilerLaw", name := "low", desc := "(II)I" } : MethodName)) ∈ lw_tbl := List.mem_of_getElem? (i := 398) (by decide +kernel)
set_option maxRecDepth 20000 in
theorem mw_349 : (Cond.code ({ cls := "PolicyCompilerLaw", name := "low", desc := "(II)I" } : MethodName) method_3_code (2 : Nat) (Option.some FieldType.int)) ∈ lw_tbl := List.mem_of_getElem? (i := 399) rfl
set_option maxRecDepth 20000 in
theorem mw_350 : (Cond.constant "PolicyCompilerLaw" (8 : Nat) (2147483647 : Int32)) ∈ lw_tbl := List.mem_of_getElem? (i := 400) (by decide +kernel)
set_option maxRecDepth 20000 in
theorem mw_351 : (Cond.methodLink "PolicyCompilerLaw" (143 : Nat) ({ cls := "PolicyCompilerLaw", name := "parsed", desc := "(LPolicyCompiler;JI)I" } : MethodName)) ∈ lw_tbl := List.mem_of_getElem? (i := 401) (by decide +kernel)
set_option maxRecDepth 20000 in
theorem mw_352 : (Cond.static ({ cls := "PolicyCompilerLaw", name := "parsed", desc := "(LPolicyCompiler;JI)I" } : MethodName)) ∈ lw_tbl := List.mem_of_getElem? (i := 402) (by decide +kernel)
set_option maxRecDepth 20000 in
theorem mw_353 : (Cond.code ({ cls := "PolicyCompilerLaw", name := "parsed", desc := "(LPolicyCompiler;JI)I" } : MethodName) method_4_code (7 : Nat) (Option.some FieldType.int)) ∈ lw_tbl := List.mem_of_getElem? (i := 403) rfl
set_option maxRecDepth 20000 in
theorem mw_354 : (Cond.methodLink "PolicyCompilerLaw" (9 : Nat) ({ cls := "PolicyCompiler", name := "clearText", desc := "()I" } : MethodName)) ∈ lw_tbl := List.mem_of_getElem? (i := 404) (by decide +kernel)
set_option maxRecDepth 20000 in
theorem mw_355 : (Cond.instanceMethod ({ cls := "PolicyCompiler", name := "clearText", desc := "()I" } : MethodName)) ∈ lw_tbl := List.mem_of_getElem? (i := 405) (by decide +kernel)
set_option maxRecDepth 20000 in
theorem mw_356 : (Cond.selects "PolicyCompiler" ({ cls := "PolicyCompiler", name := "clearText", desc := "()I" } : MethodName) ({ cls := "PolicyCompiler", name := "clearText", desc := "()I" } : MethodName)) ∈ lw_tbl := List.mem_of_getElem? (i := 406) (by decide +kernel)
set_option maxRecDepth 20000 in
theorem mw_357 : (Cond.code ({ cls := "PolicyCompiler", name := "clearText", desc := "()I" } : MethodName) prog_1_method_3_code (2 : Nat) (Option.some FieldType.int)) ∈ lw_tbl := List.mem_of_getElem? (i := 407) rfl
set_option maxRecDepth 20000 in
theorem mw_358 : (Cond.constantLong "PolicyCompilerLaw" (15 : Nat) (255 : Int64)) ∈ lw_tbl := List.mem_of_getElem? (i := 408) (by decide +kernel)
set_option maxRecDepth 20000 in
theorem mw_359 : (Cond.methodLink "PolicyCompilerLaw" (17 : Nat) ({ cls := "PolicyCompiler", name := "append", desc := "(I)I" } : MethodName)) ∈ lw_tbl := List.mem_of_getElem? (i := 409) (by decide +kernel)
set_option maxRecDepth 20000 in
theorem mw_360 : (Cond.instanceMethod ({ cls := "PolicyCompiler", name := "append", desc := "(I)I" } : MethodName)) ∈ lw_tbl := List.mem_of_getElem? (i := 410) (by decide +kernel)
set_option maxRecDepth 20000 in
theorem mw_361 : (Cond.selects "PolicyCompiler" ({ cls := "PolicyCompiler", name := "append", desc := "(I)I" } : MethodName) ({ cls := "PolicyCompiler", name := "append", desc := "(I)I" } : MethodName)) ∈ lw_tbl := List.mem_of_getElem? (i := 411) (by decide +kernel)
set_option maxRecDepth 20000 in
theorem mw_362 : (Cond.code ({ cls := "PolicyCompiler", name := "append", desc := "(I)I" } : MethodName) prog_1_method_2_code (2 : Nat) (Option.some FieldType.int)) ∈ lw_tbl := List.mem_of_getElem? (i := 412) rfl
set_option maxRecDepth 20000 in
theorem mw_363 : (Cond.methodLink "PolicyCompilerLaw" (21 : Nat) ({ cls := "PolicyCompiler", name := "parse", desc := "(I)I" } : MethodName)) ∈ lw_tbl := List.mem_of_getElem? (i := 413) (by decide +kernel)
set_option maxRecDepth 20000 in
theorem mw_364 : (Cond.instanceMethod ({ cls := "PolicyCompiler", name := "parse", desc := "(I)I" } : MethodName)) ∈ lw_tbl := List.mem_of_getElem? (i := 414) (by decide +kernel)
set_option maxRecDepth 20000 in
theorem mw_365 : (Cond.selects "PolicyCompiler" ({ cls := "PolicyCompiler", name := "parse", desc := "(I)I" } : MethodName) ({ cls := "PolicyCompiler", name := "parse", desc := "(I)I" } : MethodName)) ∈ lw_tbl := List.mem_of_getElem? (i := 415) (by decide +kernel)
set_option maxRecDepth 20000 in
theorem mw_366 : (Cond.code ({ cls := "PolicyCompiler", name := "parse", desc := "(I)I" } : MethodName) prog_1_method_4_code (3 : Nat) (Option.some FieldType.int)) ∈ lw_tbl := List.mem_of_getElem? (i := 416) rfl
set_option maxRecDepth 20000 in
theorem mw_367 : (Cond.methodLink "PolicyCompiler" (63 : Nat) ({ cls := "PolicyCompiler$Parser", name := "read", desc := "([II[LPolicyCompiler$Slot;)I" } : MethodName)) ∈ lw_tbl := List.mem_of_getElem? (i := 417) (by decide +kernel)
set_option maxRecDepth 20000 in
theorem mw_368 : (Cond.instanceMethod ({ cls := "PolicyCompiler$Parser", name := "read", desc := "([II[LPolicyCompiler$Slot;)I" } : MethodName)) ∈ lw_tbl := List.mem_of_getElem? (i := 418) (by decide +kernel)
set_option maxRecDepth 20000 in
theorem mw_369 : (Cond.selects "PolicyCompiler$Parser" ({ cls := "PolicyCompiler$Parser", name := "read", desc := "([II[LPolicyCompiler$Slot;)I" } : MethodName) ({ cls := "PolicyCompiler$Parser", name := "read", desc := "([II[LPolicyCompiler$Slot;)I" } : MethodName)) ∈ lw_tbl := List.mem_of_getElem? (i := 419) (by decide +kernel)
set_option maxRecDepth 20000 in
theorem mw_370 : (Cond.code ({ cls := "PolicyCompiler$Parser", name := "read", desc := "([II[LPolicyCompiler$Slot;)I" } : MethodName) prog_5_method_3_code (5 : Nat) (Option.some FieldType.int)) ∈ lw_tbl := List.mem_of_getElem? (i := 420) rfl
set_option maxRecDepth 20000 in
theorem mw_371 : (Cond.methodLink "PolicyCompiler$Parser" (48 : Nat) ({ cls := "PolicyCompiler$Policy", name := "start", desc := "()V" } : MethodName)) ∈ lw_tbl := List.mem_of_getElem? (i := 421) (by decide +kernel)
set_option maxRecDepth 20000 in
theorem mw_372 : (Cond.methodLink "PolicyCompiler$Parser" (51 : Nat) ({ cls := "PolicyCompiler$Parser", name := "takeFactor", desc := "(II[LPolicyCompiler$Slot;)V" } : MethodName)) ∈ lw_tbl := List.mem_of_getElem? (i := 422) (by decide +kernel)
set_option maxRecDepth 20000 in
theorem mw_374 : (Cond.instanceMethod ({ cls := "PolicyCompiler$Parser", name := "takeFactor", desc := "(II[LPolicyCompiler$Slot;)V" } : MethodName)) ∈ lw_tbl := List.mem_of_getElem? (i := 424) (by decide +kernel)
set_option maxRecDepth 20000 in
theorem mw_375 : (Cond.code ({ cls := "PolicyCompiler$Parser", name := "takeFactor", desc := "(II[LPolicyCompiler$Slot;)V" } : MethodName) prog_5_method_5_code (5 : Nat) (Option.none : Option ClassFile.FieldType)) ∈ lw_tbl := List.mem_of_getElem? (i := 425) rfl
set_option maxRecDepth 20000 in
theorem mw_376 : (Cond.methodLink "PolicyCompiler$Parser" (83 : Nat) ({ cls := "PolicyCompiler$Parser", name := "open", desc := "(II)V" } : MethodName)) ∈ lw_tbl := List.mem_of_getElem? (i := 426) (by decide +kernel)
set_option maxRecDepth 20000 in
theorem mw_378 : (Cond.instanceMethod ({ cls := "PolicyCompiler$Parser", name := "open", desc := "(II)V" } : MethodName)) ∈ lw_tbl := List.mem_of_getElem? (i := 428) (by decide +kernel)
set_option maxRecDepth 20000 in
theorem mw_379 : (Cond.code ({ cls := "PolicyCompiler$Parser", name := "open", desc := "(II)V" } : MethodName) prog_5_method_15_code (3 : Nat) (Option.none : Option ClassFile.FieldType)) ∈ lw_tbl := List.mem_of_getElem? (i := 429) rfl
set_option maxRecDepth 20000 in
theorem mw_380 : (Cond.methodLink "PolicyCompiler$Parser" (86 : Nat) ({ cls := "PolicyCompiler$Parser", name := "endLeaf", desc := "(III)V" } : MethodName)) ∈ lw_tbl := List.mem_of_getElem? (i := 430) (by decide +kernel)
set_option maxRecDepth 20000 in
theorem mw_382 : (Cond.instanceMethod ({ cls := "PolicyCompiler$Parser", name := "endLeaf", desc := "(III)V" } : MethodName)) ∈ lw_tbl := List.mem_of_getElem? (i := 432) (by decide +kernel)
set_option maxRecDepth 20000 in
theorem mw_383 : (Cond.code ({ cls := "PolicyCompiler$Parser", name := "endLeaf", desc := "(III)V" } : MethodName) prog_5_method_8_code (4 : Nat) (Option.none : Option ClassFile.FieldType)) ∈ lw_tbl := List.mem_of_getElem? (i := 433) rfl
set_option maxRecDepth 20000 in
theorem mw_384 : (Cond.methodLink "PolicyCompiler$Parser" (106 : Nat) ({ cls := "PolicyCompiler$Policy", name := "add", desc := "(III)V" } : MethodName)) ∈ lw_tbl := List.mem_of_getElem? (i := 434) (by decide +kernel)
set_option maxRecDepth 20000 in
theorem mw_385 : (Cond.methodLink "PolicyCompiler$Parser" (103 : Nat) ({ cls := "PolicyCompiler$Parser", name := "pushOperand", desc := "(Z)V" } : MethodName)) ∈ lw_tbl := List.mem_of_getElem? (i := 435) (by decide +kernel)
set_option maxRecDepth 20000 in
theorem mw_387 : (Cond.instanceMethod ({ cls := "PolicyCompiler$Parser", name := "pushOperand", desc := "(Z)V" } : MethodName)) ∈ lw_tbl := List.mem_of_getElem? (i := 437) (by decide +kernel)
set_option maxRecDepth 20000 in
theorem mw_388 : (Cond.code ({ cls := "PolicyCompiler$Parser", name := "pushOperand", desc := "(Z)V" } : MethodName) prog_5_method_18_code (2 : Nat) (Option.none : Option ClassFile.FieldType)) ∈ lw_tbl := List.mem_of_getElem? (i := 438) rfl
set_option maxRecDepth 20000 in
theorem mw_389 : (Cond.methodLink "PolicyCompiler$Parser" (90 : Nat) ({ cls := "PolicyCompiler$Slot", name := "policy", desc := "()LPolicyCompiler$Policy;" } : MethodName)) ∈ lw_tbl := List.mem_of_getElem? (i := 439) (by decide +kernel)
set_option maxRecDepth 20000 in
theorem mw_390 : (Cond.methodLink "PolicyCompiler$Parser" (96 : Nat) ({ cls := "PolicyCompiler$Policy", name := "addAll", desc := "(LPolicyCompiler$Policy;)V" } : MethodName)) ∈ lw_tbl := List.mem_of_getElem? (i := 440) (by decide +kernel)
set_option maxRecDepth 20000 in
theorem mw_391 : (Cond.methodLink "PolicyCompiler$Parser" (100 : Nat) ({ cls := "PolicyCompiler$Policy", name := "givesPredicate", desc := "()Z" } : MethodName)) ∈ lw_tbl := List.mem_of_getElem? (i := 441) (by decide +kernel)
set_option maxRecDepth 20000 in
theorem mw_392 : (Cond.methodLink "PolicyCompiler$Parser" (55 : Nat) ({ cls := "PolicyCompiler$Parser", name := "takeSign", desc := "(II)V" } : MethodName)) ∈ lw_tbl := List.mem_of_getElem? (i := 442) (by decide +kernel)
set_option maxRecDepth 20000 in
theorem mw_394 : (Cond.instanceMethod ({ cls := "PolicyCompiler$Parser", name := "takeSign", desc := "(II)V" } : MethodName)) ∈ lw_tbl := List.mem_of_getElem? (i := 444) (by decide +kernel)
set_option maxRecDepth 20000 in
theorem mw_395 : (Cond.code ({ cls := "PolicyCompiler$Parser", name := "takeSign", desc := "(II)V" } : MethodName) prog_5_method_6_code (3 : Nat) (Option.none : Option ClassFile.FieldType)) ∈ lw_tbl := List.mem_of_getElem? (i := 445) rfl
set_option maxRecDepth 20000 in
theorem mw_396 : (Cond.methodLink "PolicyCompiler$Parser" (59 : Nat) ({ cls := "PolicyCompiler$Parser", name := "takeDigit", desc := "(II)V" } : MethodName)) ∈ lw_tbl := List.mem_of_getElem? (i := 446) (by decide +kernel)
set_option maxRecDepth 20000 in
theorem mw_398 : (Cond.instanceMethod ({ cls := "PolicyCompiler$Parser", name := "takeDigit", desc := "(II)V" } : MethodName)) ∈ lw_tbl := List.mem_of_getElem? (i := 448) (by decide +kernel)
set_option maxRecDepth 20000 in
theorem mw_399 : (Cond.code ({ cls := "PolicyCompiler$Parser", name := "takeDigit", desc := "(II)V" } : MethodName) prog_5_method_7_code (3 : Nat) (Option.none : Option ClassFile.FieldType)) ∈ lw_tbl := List.mem_of_getElem? (i := 449) rfl
set_option maxRecDepth 20000 in
theorem mw_400 : (Cond.methodLink "PolicyCompiler$Parser" (62 : Nat) ({ cls := "PolicyCompiler$Parser", name := "takeBehindAtom", desc := "(II)V" } : MethodName)) ∈ lw_tbl := List.mem_of_getElem? (i := 450) (by decide +kernel)
set_option maxRecDepth 20000 in
theorem mw_402 : (Cond.instanceMethod ({ cls := "PolicyCompiler$Parser", name := "takeBehindAtom", desc := "(II)V" } : MethodName)) ∈ lw_tbl := List.mem_of_getElem? (i := 452) (by decide +kernel)
set_option maxRecDepth 20000 in
theorem mw_403 : (Cond.code ({ cls := "PolicyCompiler$Parser", name := "takeBehindAtom", desc := "(II)V" } : MethodName) prog_5_method_9_code (3 : Nat) (Option.none : Option ClassFile.FieldType)) ∈ lw_tbl := List.mem_of_getElem? (i := 453) rfl
set_option maxRecDepth 20000 in
theorem mw_404 : (Cond.methodLink "PolicyCompiler$Parser" (109 : Nat) ({ cls := "PolicyCompiler$Parser", name := "popOperand", desc := "()Z" } : MethodName)) ∈ lw_tbl := List.mem_of_getElem? (i := 454) (by decide +kernel)
set_option maxRecDepth 20000 in
theorem mw_406 : (Cond.instanceMethod ({ cls := "PolicyCompiler$Parser", name := "popOperand", desc := "()Z" } : MethodName)) ∈ lw_tbl := List.mem_of_getElem? (i := 456) (by decide +kernel)
set_option maxRecDepth 20000 in
theorem mw_407 : (Cond.code ({ cls := "PolicyCompiler$Parser", name := "popOperand", desc := "()Z" } : MethodName) prog_5_method_19_code (2 : Nat) (Option.some FieldType.boolean)) ∈ lw_tbl := List.mem_of_getElem? (i := 457) rfl
set_option maxRecDepth 20000 in
theorem mw_408 : (Cond.methodLink "PolicyCompiler$Parser" (75 : Nat) ({ cls := "PolicyCompiler$Parser", name := "topIsPredicate", desc := "()Z" } : MethodName)) ∈ lw_tbl := List.mem_of_getElem? (i := 458) (by decide +kernel)
set_option maxRecDepth 20000 in
theorem mw_410 : (Cond.instanceMethod ({ cls := "PolicyCompiler$Parser", name := "topIsPredicate", desc := "()Z" } : MethodName)) ∈ lw_tbl := List.mem_of_getElem? (i := 460) (by decide +kernel)
set_option maxRecDepth 20000 in
theorem mw_411 : (Cond.code ({ cls := "PolicyCompiler$Parser", name := "topIsPredicate", desc := "()Z" } : MethodName) prog_5_method_20_code (1 : Nat) (Option.some FieldType.boolean)) ∈ lw_tbl := List.mem_of_getElem? (i := 461) rfl
set_option maxRecDepth 20000 in
theorem mw_412 : (Cond.methodLink "PolicyCompiler$Parser" (69 : Nat) ({ cls := "PolicyCompiler$Parser", name := "endFactor", desc := "()V" } : MethodName)) ∈ lw_tbl := List.mem_of_getElem? (i := 462) (by decide +kernel)
set_option maxRecDepth 20000 in
theorem mw_414 : (Cond.instanceMethod ({ cls := "PolicyCompiler$Parser", name := "endFactor", desc := "()V" } : MethodName)) ∈ lw_tbl := List.mem_of_getElem? (i := 464) (by decide +kernel)
set_option maxRecDepth 20000 in
theorem mw_415 : (Cond.code ({ cls := "PolicyCompiler$Parser", name := "endFactor", desc := "()V" } : MethodName) prog_5_method_10_code (2 : Nat) (Option.none : Option ClassFile.FieldType)) ∈ lw_tbl := List.mem_of_getElem? (i := 465) rfl
set_option maxRecDepth 20000 in
theorem mw_416 : (Cond.methodLink "PolicyCompiler$Parser" (118 : Nat) ({ cls := "PolicyCompiler$Parser", name := "innermost", desc := "()I" } : MethodName)) ∈ lw_tbl := List.mem_of_getElem? (i := 466) (by decide +kernel)
set_option maxRecDepth 20000 in
theorem mw_418 : (Cond.instanceMethod ({ cls := "PolicyCompiler$Parser", name := "innermost", desc := "()I" } : MethodName)) ∈ lw_tbl := List.mem_of_getElem? (i := 468) (by decide +kernel)
set_option maxRecDepth 20000 in
theorem mw_419 : (Cond.code ({ cls := "PolicyCompiler$Parser", name := "innermost", desc := "()I" } : MethodName) prog_5_method_16_code (1 : Nat) (Option.some FieldType.int)) ∈ lw_tbl := List.mem_of_getElem? (i := 469) rfl
set_option maxRecDepth 20000 in
theorem mw_420 : (Cond.methodLink "PolicyCompiler$Parser" (122 : Nat) ({ cls := "PolicyCompiler$Parser", name := "innermostBegin", desc := "()I" } : MethodName)) ∈ lw_tbl := List.mem_of_getElem? (i := 470) (by decide +kernel)
set_option maxRecDepth 20000 in
theorem mw_422 : (Cond.instanceMethod ({ cls := "PolicyCompiler$Parser", name := "innermostBegin", desc := "()I" } : MethodName)) ∈ lw_tbl := List.mem_of_getElem? (i := 472) (by decide +kernel)
set_option maxRecDepth 20000 in
theorem mw_423 : (Cond.code ({ cls := "PolicyCompiler$Parser", name := "innermostBegin", desc := "()I" } : MethodName) prog_5_method_17_code (1 : Nat) (Option.some FieldType.int)) ∈ lw_tbl := List.mem_of_getElem? (i := 473) rfl
set_option maxRecDepth 20000 in
theorem mw_424 : (Cond.methodLink "PolicyCompiler$Parser" (112 : Nat) ({ cls := "PolicyCompiler$Parser", name := "endPair", desc := "(II)V" } : MethodName)) ∈ lw_tbl := List.mem_of_getElem? (i := 474) (by decide +kernel)
set_option maxRecDepth 20000 in
theorem mw_426 : (Cond.instanceMethod ({ cls := "PolicyCompiler$Parser", name := "endPair", desc := "(II)V" } : MethodName)) ∈ lw_tbl := List.mem_of_getElem? (i := 476) (by decide +kernel)
set_option maxRecDepth 20000 in
theorem mw_427 : (Cond.code ({ cls := "PolicyCompiler$Parser", name := "endPair", desc := "(II)V" } : MethodName) prog_5_method_12_code (5 : Nat) (Option.none : Option ClassFile.FieldType)) ∈ lw_tbl := List.mem_of_getElem? (i := 477) rfl
set_option maxRecDepth 20000 in
theorem mw_428 : (Cond.methodLink "PolicyCompiler$Parser" (72 : Nat) ({ cls := "PolicyCompiler$Parser", name := "endUnion", desc := "()V" } : MethodName)) ∈ lw_tbl := List.mem_of_getElem? (i := 478) (by decide +kernel)
set_option maxRecDepth 20000 in
theorem mw_430 : (Cond.instanceMethod ({ cls := "PolicyCompiler$Parser", name := "endUnion", desc := "()V" } : MethodName)) ∈ lw_tbl := List.mem_of_getElem? (i := 480) (by decide +kernel)
set_option maxRecDepth 20000 in
theorem mw_431 : (Cond.code ({ cls := "PolicyCompiler$Parser", name := "endUnion", desc := "()V" } : MethodName) prog_5_method_11_code (1 : Nat) (Option.none : Option ClassFile.FieldType)) ∈ lw_tbl := List.mem_of_getElem? (i := 481) rfl
set_option maxRecDepth 20000 in
theorem mw_432 : (Cond.methodLink "PolicyCompiler$Parser" (115 : Nat) ({ cls := "PolicyCompiler$Parser", name := "takeBracket", desc := "(II)V" } : MethodName)) ∈ lw_tbl := List.mem_of_getElem? (i := 482) (by decide +kernel)
set_option maxRecDepth 20000 in
theorem mw_434 : (Cond.instanceMethod ({ cls := "PolicyCompiler$Parser", name := "takeBracket", desc := "(II)V" } : MethodName)) ∈ lw_tbl := List.mem_of_getElem? (i := 484) (by decide +kernel)
set_option maxRecDepth 20000 in
theorem mw_435 : (Cond.code ({ cls := "PolicyCompiler$Parser", name := "takeBracket", desc := "(II)V" } : MethodName) prog_5_method_13_code (4 : Nat) (Option.none : Option ClassFile.FieldType)) ∈ lw_tbl := List.mem_of_getElem? (i := 485) rfl
set_option maxRecDepth 20000 in
theorem mw_436 : (Cond.methodLink "PolicyCompiler$Parser" (125 : Nat) ({ cls := "PolicyCompiler$Parser", name := "endChoice", desc := "()V" } : MethodName)) ∈ lw_tbl := List.mem_of_getElem? (i := 486) (by decide +kernel)
set_option maxRecDepth 20000 in
theorem mw_438 : (Cond.instanceMethod ({ cls := "PolicyCompiler$Parser", name := "endChoice", desc := "()V" } : MethodName)) ∈ lw_tbl := List.mem_of_getElem? (i := 488) (by decide +kernel)
set_option maxRecDepth 20000 in
theorem mw_439 : (Cond.code ({ cls := "PolicyCompiler$Parser", name := "endChoice", desc := "()V" } : MethodName) prog_5_method_14_code (3 : Nat) (Option.none : Option ClassFile.FieldType)) ∈ lw_tbl := List.mem_of_getElem? (i := 489) rfl
set_option maxRecDepth 20000 in
theorem mw_440 : (Cond.methodLink "PolicyCompiler$Parser" (65 : Nat) ({ cls := "PolicyCompiler$Parser", name := "finish", desc := "(I)V" } : MethodName)) ∈ lw_tbl := List.mem_of_getElem? (i := 490) (by decide +kernel)
set_option maxRecDepth 20000 in
theorem mw_442 : (Cond.instanceMethod ({ cls := "PolicyCompiler$Parser", name := "finish", desc := "(I)V" } : MethodName)) ∈ lw_tbl := List.mem_of_getElem? (i := 492) (by decide +kernel)
set_option maxRecDepth 20000 in
theorem mw_443 : (Cond.code ({ cls := "PolicyCompiler$Parser", name := "finish", desc := "(I)V" } : MethodName) prog_5_method_4_code (2 : Nat) (Option.none : Option ClassFile.FieldType)) ∈ lw_tbl := List.mem_of_getElem? (i := 493) rfl
set_option maxRecDepth 20000 in
theorem mw_444 : (Cond.methodLink "PolicyCompiler$Parser" (79 : Nat) ({ cls := "PolicyCompiler$Policy", name := "markPredicate", desc := "(Z)V" } : MethodName)) ∈ lw_tbl := List.mem_of_getElem? (i := 494) (by decide +kernel)
set_option maxRecDepth 20000 in
theorem mw_445 : (Cond.methodLink "PolicyCompiler" (67 : Nat) ({ cls := "PolicyCompiler$Parser", name := "result", desc := "()LPolicyCompiler$Policy;" } : MethodName)) ∈ lw_tbl := List.mem_of_getElem? (i := 495) (by decide +kernel)
set_option maxRecDepth 20000 in
theorem mw_446 : (Cond.instanceMethod ({ cls := "PolicyCompiler$Parser", name := "result", desc := "()LPolicyCompiler$Policy;" } : MethodName)) ∈ lw_tbl := List.mem_of_getElem? (i := 496) (by decide +kernel)
set_option maxRecDepth 20000 in
theorem mw_447 : (Cond.selects "PolicyCompiler$Parser" ({ cls := "PolicyCompiler$Parser", name := "result", desc := "()LPolicyCompiler$Policy;" } : MethodName) ({ cls := "PolicyCompiler$Parser", name := "result", desc := "()LPolicyCompiler$Policy;" } : MethodName)) ∈ lw_tbl := List.mem_of_getElem? (i := 497) (by decide +kernel)
set_option maxRecDepth 20000 in
theorem mw_448 : (Cond.code ({ cls := "PolicyCompiler$Parser", name := "result", desc := "()LPolicyCompiler$Policy;" } : MethodName) prog_5_method_2_code (1 : Nat) (Option.some (FieldType.object "PolicyCompiler$Policy"))) ∈ lw_tbl := List.mem_of_getElem? (i := 498) rfl
set_option maxRecDepth 20000 in
theorem mw_449 : (Cond.methodLink "PolicyCompilerLaw" (153 : Nat) ({ cls := "PolicyCompilerLaw", name := "filled", desc := "(JIII)J" } : MethodName)) ∈ lw_tbl := List.mem_of_getElem? (i := 499) (by decide +kernel)
set_option maxRecDepth 20000 in
theorem mw_450 : (Cond.static ({ cls := "PolicyCompilerLaw", name := "filled", desc := "(JIII)J" } : MethodName)) ∈ lw_tbl := List.mem_of_getElem? (i := 500) (by decide +kernel)
set_option maxRecDepth 20000 in
theorem mw_451 : (Cond.code ({ cls := "PolicyCompilerLaw", name := "filled", desc := "(JIII)J" } : MethodName) method_6_code (10 : Nat) (Option.some FieldType.long)) ∈ lw_tbl := List.mem_of_getElem? (i := 501) rfl
set_option maxRecDepth 20000 in
theorem mw_452 : (Cond.constantLong "PolicyCompilerLaw" (24 : Nat) (65 : Int64)) ∈ lw_tbl := List.mem_of_getElem? (i := 502) (by decide +kernel)
set_option maxRecDepth 20000 in
theorem mw_453 : (Cond.methodLink "PolicyCompilerLaw" (26 : Nat) ({ cls := "PolicyCompilerLaw", name := "letter", desc := "(I)J" } : MethodName)) ∈ lw_tbl := List.mem_of_getElem? (i := 503) (by decide +kernel)
set_option maxRecDepth 20000 in
theorem mw_454 : (Cond.static ({ cls := "PolicyCompilerLaw", name := "letter", desc := "(I)J" } : MethodName)) ∈ lw_tbl := List.mem_of_getElem? (i := 504) (by decide +kernel)
set_option maxRecDepth 20000 in
theorem mw_455 : (Cond.code ({ cls := "PolicyCompilerLaw", name := "letter", desc := "(I)J" } : MethodName) method_5_code (1 : Nat) (Option.some FieldType.long)) ∈ lw_tbl := List.mem_of_getElem? (i := 505) rfl
set_option maxRecDepth 20000 in
theorem mw_456 : (Cond.constantLong "PolicyCompilerLaw" (32 : Nat) (66 : Int64)) ∈ lw_tbl := List.mem_of_getElem? (i := 506) (by decide +kernel)
set_option maxRecDepth 20000 in
theorem mw_457 : (Cond.constantLong "PolicyCompilerLaw" (34 : Nat) (67 : Int64)) ∈ lw_tbl := List.mem_of_getElem? (i := 507) (by decide +kernel)
set_option maxRecDepth 20000 in
theorem mw_458 : (Cond.methodLink "PolicyCompilerLaw" (50 : Nat) ({ cls := "PolicyCompilerLaw", name := "print", desc := "(LPolicyCompiler;)J" } : MethodName)) ∈ lw_tbl := List.mem_of_getElem? (i := 508) (by decide +kernel)
set_option maxRecDepth 20000 in
theorem mw_459 : (Cond.static ({ cls := "PolicyCompilerLaw", name := "print", desc := "(LPolicyCompiler;)J" } : MethodName)) ∈ lw_tbl := List.mem_of_getElem? (i := 509) (by decide +kernel)
set_option maxRecDepth 20000 in
theorem mw_460 : (Cond.code ({ cls := "PolicyCompilerLaw", name := "print", desc := "(LPolicyCompiler;)J" } : MethodName) method_8_code (6 : Nat) (Option.some FieldType.long)) ∈ lw_tbl := List.mem_of_getElem? (i := 510) rfl
set_option maxRecDepth 20000 in
theorem mw_461 : (Cond.constantLong "PolicyCompilerLaw" (36 : Nat) (7 : Int64)) ∈ lw_tbl := List.mem_of_getElem? (i := 511) (by decide +kernel)
set_option maxRecDepth 20000 in
theorem mw_462 : (Cond.constantLong "PolicyCompilerLaw" (38 : Nat) (31 : Int64)) ∈ lw_tbl := List.mem_of_getElem? (i := 512) (by decide +kernel)
set_option maxRecDepth 20000 in
theorem mw_463 : (Cond.methodLink "PolicyCompilerLaw" (40 : Nat) ({ cls := "PolicyCompiler", name := "size", desc := "(I)I" } : MethodName)) ∈ lw_tbl := List.mem_of_getElem? (i := 513) (by decide +kernel)
set_option maxRecDepth 20000 in
theorem mw_464 : (Cond.instanceMethod ({ cls := "PolicyCompiler", name := "size", desc := "(I)I" } : MethodName)) ∈ lw_tbl := List.mem_of_getElem? (i := 514) (by decide +kernel)
set_option maxRecDepth 20000 in
theorem mw_465 : (Cond.selects "PolicyCompiler" ({ cls := "PolicyCompiler", name := "size", desc := "(I)I" } : MethodName) ({ cls := "PolicyCompiler", name := "size", desc := "(I)I" } : MethodName)) ∈ lw_tbl := List.mem_of_getElem? (i := 515) (by decide +kernel)
set_option maxRecDepth 20000 in
theorem mw_466 : (Cond.code ({ cls := "PolicyCompiler", name := "size", desc := "(I)I" } : MethodName) prog_1_method_7_code (2 : Nat) (Option.some FieldType.int)) ∈ lw_tbl := List.mem_of_getElem? (i := 516) rfl
set_option maxRecDepth 20000 in
theorem mw_467 : (Cond.methodLink "PolicyCompilerLaw" (43 : Nat) ({ cls := "PolicyCompiler", name := "isPredicate", desc := "(I)I" } : MethodName)) ∈ lw_tbl := List.mem_of_getElem? (i := 517) (by decide +kernel)
set_option maxRecDepth 20000 in
theorem mw_468 : (Cond.instanceMethod ({ cls := "PolicyCompiler", name := "isPredicate", desc := "(I)I" } : MethodName)) ∈ lw_tbl := List.mem_of_getElem? (i := 518) (by decide +kernel)
set_option maxRecDepth 20000 in
theorem mw_469 : (Cond.selects "PolicyCompiler" ({ cls := "PolicyCompiler", name := "isPredicate", desc := "(I)I" } : MethodName) ({ cls := "PolicyCompiler", name := "isPredicate", desc := "(I)I" } : MethodName)) ∈ lw_tbl := List.mem_of_getElem? (i := 519) (by decide +kernel)
set_option maxRecDepth 20000 in
theorem mw_470 : (Cond.code ({ cls := "PolicyCompiler", name := "isPredicate", desc := "(I)I" } : MethodName) prog_1_method_8_code (2 : Nat) (Option.some FieldType.int)) ∈ lw_tbl := List.mem_of_getElem? (i := 520) rfl
set_option maxRecDepth 20000 in
theorem mw_471 : (Cond.methodLink "PolicyCompilerLaw" (46 : Nat) ({ cls := "PolicyCompiler", name := "printed", desc := "(II)I" } : MethodName)) ∈ lw_tbl := List.mem_of_getElem? (i := 521) (by decide +kernel)
set_option maxRecDepth 20000 in
theorem mw_472 : (Cond.instanceMethod ({ cls := "PolicyCompiler", name := "printed", desc := "(II)I" } : MethodName)) ∈ lw_tbl := List.mem_of_getElem? (i := 522) (by decide +kernel)
set_option maxRecDepth 20000 in
theorem mw_473 : (Cond.selects "PolicyCompiler" ({ cls := "PolicyCompiler", name := "printed", desc := "(II)I" } : MethodName) ({ cls := "PolicyCompiler", name := "printed", desc := "(II)I" } : MethodName)) ∈ lw_tbl := List.mem_of_getElem? (i := 523) (by decide +kernel)
set_option maxRecDepth 20000 in
theorem mw_474 : (Cond.code ({ cls := "PolicyCompiler", name := "printed", desc := "(II)I" } : MethodName) prog_1_method_9_code (4 : Nat) (Option.some FieldType.int)) ∈ lw_tbl := List.mem_of_getElem? (i := 524) rfl
set_option maxRecDepth 20000 in
theorem mw_475 : (Cond.methodLink "PolicyCompiler" (104 : Nat) ({ cls := "PolicyCompiler$Slot", name := "upToDate", desc := "(LPolicyCompiler$Evaluator;)LPolicyCompiler$Slot;" } : MethodName)) ∈ lw_tbl := List.mem_of_getElem? (i := 525) (by decide +kernel)
set_option maxRecDepth 20000 in
theorem mw_476 : (Cond.instanceMethod ({ cls := "PolicyCompiler$Slot", name := "upToDate", desc := "(LPolicyCompiler$Evaluator;)LPolicyCompiler$Slot;" } : MethodName)) ∈ lw_tbl := List.mem_of_getElem? (i := 526) (by decide +kernel)
set_option maxRecDepth 20000 in
theorem mw_477 : (Cond.selects "PolicyCompiler$Slot" ({ cls := "PolicyCompiler$Slot", name := "upToDate", desc := "(LPolicyCompiler$Evaluator;)LPolicyCompiler$Slot;" } : MethodName) ({ cls := "PolicyCompiler$Slot", name := "upToDate", desc := "(LPolicyCompiler$Evaluator;)LPolicyCompiler$Slot;" } : MethodName)) ∈ lw_tbl := List.mem_of_getElem? (i := 527) (by decide +kernel)
set_option maxRecDepth 20000 in
theorem mw_478 : (Cond.code ({ cls := "PolicyCompiler$Slot", name := "upToDate", desc := "(LPolicyCompiler$Evaluator;)LPolicyCompiler$Slot;" } : MethodName) prog_9_method_3_code (2 : Nat) (Option.some (FieldType.object "PolicyCompiler$Slot"))) ∈ lw_tbl := List.mem_of_getElem? (i := 528) rfl
set_option maxRecDepth 20000 in
theorem mw_479 : (Cond.methodLink "PolicyCompiler$Slot" (69 : Nat) ({ cls := "PolicyCompiler$Printout", name := "print", desc := "(LPolicyCompiler$Policy;)V" } : MethodName)) ∈ lw_tbl := List.mem_of_getElem? (i := 529) (by decide +kernel)
set_option maxRecDepth 20000 in
theorem mw_480 : (Cond.instanceMethod ({ cls := "PolicyCompiler$Printout", name := "print", desc := "(LPolicyCompiler$Policy;)V" } : MethodName)) ∈ lw_tbl := List.mem_of_getElem? (i := 530) (by decide +kernel)
set_option maxRecDepth 20000 in
theorem mw_481 : (Cond.selects "PolicyCompiler$Printout" ({ cls := "PolicyCompiler$Printout", name := "print", desc := "(LPolicyCompiler$Policy;)V" } : MethodName) ({ cls := "PolicyCompiler$Printout", name := "print", desc := "(LPolicyCompiler$Policy;)V" } : MethodName)) ∈ lw_tbl := List.mem_of_getElem? (i := 531) (by decide +kernel)
set_option maxRecDepth 20000 in
theorem mw_482 : (Cond.code ({ cls := "PolicyCompiler$Printout", name := "print", desc := "(LPolicyCompiler$Policy;)V" } : MethodName) prog_7_method_4_code (4 : Nat) (Option.none : Option ClassFile.FieldType)) ∈ lw_tbl := List.mem_of_getElem? (i := 532) rfl
set_option maxRecDepth 20000 in
theorem mw_483 : (Cond.methodLink "PolicyCompiler$Printout" (29 : Nat) ({ cls := "PolicyCompiler$Policy", name := "nodeCount", desc := "()I" } : MethodName)) ∈ lw_tbl := List.mem_of_getElem? (i := 533) (by decide +kernel)
set_option maxRecDepth 20000 in
theorem mw_484 : (Cond.methodLink "PolicyCompiler$Printout" (35 : Nat) ({ cls := "PolicyCompiler$Printout", name := "measured", desc := "(LPolicyCompiler$Policy;I)I" } : MethodName)) ∈ lw_tbl := List.mem_of_getElem? (i := 534) (by decide +kernel)
set_option maxRecDepth 20000 in
theorem mw_486 : (Cond.instanceMethod ({ cls := "PolicyCompiler$Printout", name := "measured", desc := "(LPolicyCompiler$Policy;I)I" } : MethodName)) ∈ lw_tbl := List.mem_of_getElem? (i := 536) (by decide +kernel)
set_option maxRecDepth 20000 in
theorem mw_487 : (Cond.code ({ cls := "PolicyCompiler$Printout", name := "measured", desc := "(LPolicyCompiler$Policy;I)I" } : MethodName) prog_7_method_5_code (8 : Nat) (Option.some FieldType.int)) ∈ lw_tbl := List.mem_of_getElem? (i := 537) rfl
set_option maxRecDepth 20000 in
theorem mw_488 : (Cond.methodLink "PolicyCompiler$Printout" (43 : Nat) ({ cls := "PolicyCompiler$Policy", name := "kindAt", desc := "(I)I" } : MethodName)) ∈ lw_tbl := List.mem_of_getElem? (i := 538) (by decide +kernel)
set_option maxRecDepth 20000 in
theorem mw_489 : (Cond.instanceMethod ({ cls := "PolicyCompiler$Policy", name := "kindAt", desc := "(I)I" } : MethodName)) ∈ lw_tbl := List.mem_of_getElem? (i := 539) (by decide +kernel)
set_option maxRecDepth 20000 in
theorem mw_490 : (Cond.selects "PolicyCompiler$Policy" ({ cls := "PolicyCompiler$Policy", name := "kindAt", desc := "(I)I" } : MethodName) ({ cls := "PolicyCompiler$Policy", name := "kindAt", desc := "(I)I" } : MethodName)) ∈ lw_tbl := List.mem_of_getElem? (i := 540) (by decide +kernel)
set_option maxRecDepth 20000 in
theorem mw_491 : (Cond.code ({ cls := "PolicyCompiler$Policy", name := "kindAt", desc := "(I)I" } : MethodName) prog_6_method_10_code (2 : Nat) (Option.some FieldType.int)) ∈ lw_tbl := List.mem_of_getElem? (i := 541) rfl
set_option maxRecDepth 20000 in
theorem mw_492 : (Cond.methodLink "PolicyCompiler$Policy" (30 : Nat) ({ cls := "PolicyCompiler$Policy", name := "nodeAt", desc := "(I)I" } : MethodName)) ∈ lw_tbl := List.mem_of_getElem? (i := 542) (by decide +kernel)
set_option maxRecDepth 20000 in
theorem mw_494 : (Cond.instanceMethod ({ cls := "PolicyCompiler$Policy", name := "nodeAt", desc := "(I)I" } : MethodName)) ∈ lw_tbl := List.mem_of_getElem? (i := 544) (by decide +kernel)
set_option maxRecDepth 20000 in
theorem mw_495 : (Cond.code ({ cls := "PolicyCompiler$Policy", name := "nodeAt", desc := "(I)I" } : MethodName) prog_6_method_9_code (2 : Nat) (Option.some FieldType.int)) ∈ lw_tbl := List.mem_of_getElem? (i := 545) rfl
set_option maxRecDepth 20000 in
theorem mw_496 : (Cond.methodLink "PolicyCompiler$Printout" (47 : Nat) ({ cls := "PolicyCompiler$Policy", name := "operandsOf", desc := "(I)I" } : MethodName)) ∈ lw_tbl := List.mem_of_getElem? (i := 546) (by decide +kernel)
set_option maxRecDepth 20000 in
theorem mw_497 : (Cond.methodLink "PolicyCompiler$Printout" (50 : Nat) ({ cls := "PolicyCompiler$Printout", name := "ownLength", desc := "(I)I" } : MethodName)) ∈ lw_tbl := List.mem_of_getElem? (i := 547) (by decide +kernel)
set_option maxRecDepth 20000 in
theorem mw_498 : (Cond.static ({ cls := "PolicyCompiler$Printout", name := "ownLength", desc := "(I)I" } : MethodName)) ∈ lw_tbl := List.mem_of_getElem? (i := 548) (by decide +kernel)
set_option maxRecDepth 20000 in
theorem mw_499 : (Cond.code ({ cls := "PolicyCompiler$Printout", name := "ownLength", desc := "(I)I" } : MethodName) prog_7_method_6_code (1 : Nat) (Option.some FieldType.int)) ∈ lw_tbl := List.mem_of_getElem? (i := 549) rfl
set_option maxRecDepth 20000 in
theorem mw_500 : (Cond.methodLink "PolicyCompiler$Printout" (53 : Nat) ({ cls := "PolicyCompiler$Policy", name := "operandAt", desc := "(II)I" } : MethodName)) ∈ lw_tbl := List.mem_of_getElem? (i := 550) (by decide +kernel)
set_option maxRecDepth 20000 in
theorem mw_501 : (Cond.instanceMethod ({ cls := "PolicyCompiler$Policy", name := "operandAt", desc := "(II)I" } : MethodName)) ∈ lw_tbl := List.mem_of_getElem? (i := 551) (by decide +kernel)
set_option maxRecDepth 20000 in
theorem mw_502 : (Cond.selects "PolicyCompiler$Policy" ({ cls := "PolicyCompiler$Policy", name := "operandAt", desc := "(II)I" } : MethodName) ({ cls := "PolicyCompiler$Policy", name := "operandAt", desc := "(II)I" } : MethodName)) ∈ lw_tbl := List.mem_of_getElem? (i := 552) (by decide +kernel)
set_option maxRecDepth 20000 in
theorem mw_503 : (Cond.code ({ cls := "PolicyCompiler$Policy", name := "operandAt", desc := "(II)I" } : MethodName) prog_6_method_13_code (5 : Nat) (Option.some FieldType.int)) ∈ lw_tbl := List.mem_of_getElem? (i := 553) rfl
set_option maxRecDepth 20000 in
theorem mw_504 : (Cond.methodLink "PolicyCompiler$Printout" (57 : Nat) ({ cls := "PolicyCompiler$Printout", name := "needsParentheses", desc := "(IIZ)Z" } : MethodName)) ∈ lw_tbl := List.mem_of_getElem? (i := 554) (by decide +kernel)
set_option maxRecDepth 20000 in
theorem mw_505 : (Cond.static ({ cls := "PolicyCompiler$Printout", name := "needsParentheses", desc := "(IIZ)Z" } : MethodName)) ∈ lw_tbl := List.mem_of_getElem? (i := 555) (by decide +kernel)
set_option maxRecDepth 20000 in
theorem mw_506 : (Cond.code ({ cls := "PolicyCompiler$Printout", name := "needsParentheses", desc := "(IIZ)Z" } : MethodName) prog_7_method_7_code (3 : Nat) (Option.some FieldType.boolean)) ∈ lw_tbl := List.mem_of_getElem? (i := 556) rfl
set_option maxRecDepth 20000 in
theorem mw_507 : (Cond.methodLink "PolicyCompiler$Printout" (39 : Nat) ({ cls := "PolicyCompiler$Printout", name := "printNode", desc := "(LPolicyCompiler$Policy;I)V" } : MethodName)) ∈ lw_tbl := List.mem_of_getElem? (i := 557) (by decide +kernel)
set_option maxRecDepth 20000 in
theorem mw_509 : (Cond.instanceMethod ({ cls := "PolicyCompiler$Printout", name := "printNode", desc := "(LPolicyCompiler$Policy;I)V" } : MethodName)) ∈ lw_tbl := List.mem_of_getElem? (i := 559) (by decide +kernel)
set_option maxRecDepth 20000 in
theorem mw_510 : (Cond.code ({ cls := "PolicyCompiler$Printout", name := "printNode", desc := "(LPolicyCompiler$Policy;I)V" } : MethodName) prog_7_method_8_code (4 : Nat) (Option.none : Option ClassFile.FieldType)) ∈ lw_tbl := List.mem_of_getElem? (i := 560) rfl
set_option maxRecDepth 20000 in
theorem mw_511 : (Cond.methodLink "PolicyCompiler$Printout" (61 : Nat) ({ cls := "PolicyCompiler$Printout", name := "innerPlace", desc := "(I)I" } : MethodName)) ∈ lw_tbl := List.mem_of_getElem? (i := 561) (by decide +kernel)
set_option maxRecDepth 20000 in
theorem mw_513 : (Cond.instanceMethod ({ cls := "PolicyCompiler$Printout", name := "innerPlace", desc := "(I)I" } : MethodName)) ∈ lw_tbl := List.mem_of_getElem? (i := 563) (by decide +kernel)
set_option maxRecDepth 20000 in
theorem mw_514 : (Cond.code ({ cls := "PolicyCompiler$Printout", name := "innerPlace", desc := "(I)I" } : MethodName) prog_7_method_13_code (2 : Nat) (Option.some FieldType.int)) ∈ lw_tbl := List.mem_of_getElem? (i := 564) rfl
set_option maxRecDepth 20000 in
theorem mw_515 : (Cond.methodLink "PolicyCompiler$Printout" (64 : Nat) ({ cls := "PolicyCompiler$Printout", name := "put", desc := "(II)V" } : MethodName)) ∈ lw_tbl := List.mem_of_getElem? (i := 565) (by decide +kernel)
set_option maxRecDepth 20000 in
theorem mw_517 : (Cond.instanceMethod ({ cls := "PolicyCompiler$Printout", name := "put", desc := "(II)V" } : MethodName)) ∈ lw_tbl := List.mem_of_getElem? (i := 567) (by decide +kernel)
set_option maxRecDepth 20000 in
theorem mw_518 : (Cond.code ({ cls := "PolicyCompiler$Printout", name := "put", desc := "(II)V" } : MethodName) prog_7_method_14_code (3 : Nat) (Option.none : Option ClassFile.FieldType)) ∈ lw_tbl := List.mem_of_getElem? (i := 568) rfl
set_option maxRecDepth 20000 in
theorem mw_519 : (Cond.methodLink "PolicyCompiler$Printout" (68 : Nat) ({ cls := "PolicyCompiler$Printout", name := "printLeaf", desc := "(LPolicyCompiler$Policy;II)V" } : MethodName)) ∈ lw_tbl := List.mem_of_getElem? (i := 569) (by decide +kernel)
set_option maxRecDepth 20000 in
theorem mw_521 : (Cond.instanceMethod ({ cls := "PolicyCompiler$Printout", name := "printLeaf", desc := "(LPolicyCompiler$Policy;II)V" } : MethodName)) ∈ lw_tbl := List.mem_of_getElem? (i := 571) (by decide +kernel)
set_option maxRecDepth 20000 in
theorem mw_522 : (Cond.code ({ cls := "PolicyCompiler$Printout", name := "printLeaf", desc := "(LPolicyCompiler$Policy;II)V" } : MethodName) prog_7_method_9_code (5 : Nat) (Option.none : Option ClassFile.FieldType)) ∈ lw_tbl := List.mem_of_getElem? (i := 572) rfl
set_option maxRecDepth 20000 in
theorem mw_523 : (Cond.methodLink "PolicyCompiler$Printout" (81 : Nat) ({ cls := "PolicyCompiler$Policy", name := "fieldAt", desc := "(I)I" } : MethodName)) ∈ lw_tbl := List.mem_of_getElem? (i := 573) (by decide +kernel)
set_option maxRecDepth 20000 in
theorem mw_524 : (Cond.instanceMethod ({ cls := "PolicyCompiler$Policy", name := "fieldAt", desc := "(I)I" } : MethodName)) ∈ lw_tbl := List.mem_of_getElem? (i := 574) (by decide +kernel)
set_option maxRecDepth 20000 in
theorem mw_525 : (Cond.selects "PolicyCompiler$Policy" ({ cls := "PolicyCompiler$Policy", name := "fieldAt", desc := "(I)I" } : MethodName) ({ cls := "PolicyCompiler$Policy", name := "fieldAt", desc := "(I)I" } : MethodName)) ∈ lw_tbl := List.mem_of_getElem? (i := 575) (by decide +kernel)
set_option maxRecDepth 20000 in
theorem mw_526 : (Cond.code ({ cls := "PolicyCompiler$Policy", name := "fieldAt", desc := "(I)I" } : MethodName) prog_6_method_11_code (2 : Nat) (Option.some FieldType.int)) ∈ lw_tbl := List.mem_of_getElem? (i := 576) rfl
set_option maxRecDepth 20000 in
theorem mw_527 : (Cond.methodLink "PolicyCompiler$Printout" (84 : Nat) ({ cls := "PolicyCompiler$Policy", name := "valueAt", desc := "(I)I" } : MethodName)) ∈ lw_tbl := List.mem_of_getElem? (i := 577) (by decide +kernel)
set_option maxRecDepth 20000 in
theorem mw_528 : (Cond.instanceMethod ({ cls := "PolicyCompiler$Policy", name := "valueAt", desc := "(I)I" } : MethodName)) ∈ lw_tbl := List.mem_of_getElem? (i := 578) (by decide +kernel)
set_option maxRecDepth 20000 in
theorem mw_529 : (Cond.selects "PolicyCompiler$Policy" ({ cls := "PolicyCompiler$Policy", name := "valueAt", desc := "(I)I" } : MethodName) ({ cls := "PolicyCompiler$Policy", name := "valueAt", desc := "(I)I" } : MethodName)) ∈ lw_tbl := List.mem_of_getElem? (i := 579) (by decide +kernel)
set_option maxRecDepth 20000 in
theorem mw_530 : (Cond.code ({ cls := "PolicyCompiler$Policy", name := "valueAt", desc := "(I)I" } : MethodName) prog_6_method_12_code (2 : Nat) (Option.some FieldType.int)) ∈ lw_tbl := List.mem_of_getElem? (i := 580) rfl
set_option maxRecDepth 20000 in
theorem mw_531 : (Cond.methodLink "PolicyCompiler$Printout" (72 : Nat) ({ cls := "PolicyCompiler$Printout", name := "printPair", desc := "(LPolicyCompiler$Policy;II)V" } : MethodName)) ∈ lw_tbl := List.mem_of_getElem? (i := 581) (by decide +kernel)
set_option maxRecDepth 20000 in
theorem mw_533 : (Cond.instanceMethod ({ cls := "PolicyCompiler$Printout", name := "printPair", desc := "(LPolicyCompiler$Policy;II)V" } : MethodName)) ∈ lw_tbl := List.mem_of_getElem? (i := 583) (by decide +kernel)
set_option maxRecDepth 20000 in
theorem mw_534 : (Cond.code ({ cls := "PolicyCompiler$Printout", name := "printPair", desc := "(LPolicyCompiler$Policy;II)V" } : MethodName) prog_7_method_10_code (5 : Nat) (Option.none : Option ClassFile.FieldType)) ∈ lw_tbl := List.mem_of_getElem? (i := 584) rfl
set_option maxRecDepth 20000 in
theorem mw_535 : (Cond.methodLink "PolicyCompiler$Printout" (75 : Nat) ({ cls := "PolicyCompiler$Printout", name := "placed", desc := "(II)I" } : MethodName)) ∈ lw_tbl := List.mem_of_getElem? (i := 585) (by decide +kernel)
set_option maxRecDepth 20000 in
theorem mw_537 : (Cond.instanceMethod ({ cls := "PolicyCompiler$Printout", name := "placed", desc := "(II)I" } : MethodName)) ∈ lw_tbl := List.mem_of_getElem? (i := 587) (by decide +kernel)
set_option maxRecDepth 20000 in
theorem mw_538 : (Cond.code ({ cls := "PolicyCompiler$Printout", name := "placed", desc := "(II)I" } : MethodName) prog_7_method_12_code (4 : Nat) (Option.some FieldType.int)) ∈ lw_tbl := List.mem_of_getElem? (i := 588) rfl
set_option maxRecDepth 20000 in
theorem mw_539 : (Cond.methodLink "PolicyCompiler$Printout" (78 : Nat) ({ cls := "PolicyCompiler$Printout", name := "printChoice", desc := "(LPolicyCompiler$Policy;I)V" } : MethodName)) ∈ lw_tbl := List.mem_of_getElem? (i := 589) (by decide +kernel)
set_option maxRecDepth 20000 in
theorem mw_541 : (Cond.instanceMethod ({ cls := "PolicyCompiler$Printout", name := "printChoice", desc := "(LPolicyCompiler$Policy;I)V" } : MethodName)) ∈ lw_tbl := List.mem_of_getElem? (i := 591) (by decide +kernel)
set_option maxRecDepth 20000 in
theorem mw_542 : (Cond.code ({ cls := "PolicyCompiler$Printout", name := "printChoice", desc := "(LPolicyCompiler$Policy;I)V" } : MethodName) prog_7_method_11_code (6 : Nat) (Option.none : Option ClassFile.FieldType)) ∈ lw_tbl := List.mem_of_getElem? (i := 592) rfl
set_option maxRecDepth 20000 in
theorem mw_543 : (Cond.methodLink "PolicyCompiler$Slot" (72 : Nat) ({ cls := "PolicyCompiler$Evaluator", name := "evaluate", desc := "(LPolicyCompiler$Policy;LPolicyCompiler$Relation;)V" } : MethodName)) ∈ lw_tbl := List.mem_of_getElem? (i := 593) (by decide +kernel)
set_option maxRecDepth 20000 in
theorem mw_544 : (Cond.instanceMethod ({ cls := "PolicyCompiler$Evaluator", name := "evaluate", desc := "(LPolicyCompiler$Policy;LPolicyCompiler$Relation;)V" } : MethodName)) ∈ lw_tbl := List.mem_of_getElem? (i := 594) (by decide +kernel)
set_option maxRecDepth 20000 in
theorem mw_545 : (Cond.selects "PolicyCompiler$Evaluator" ({ cls := "PolicyCompiler$Evaluator", name := "evaluate", desc := "(LPolicyCompiler$Policy;LPolicyCompiler$Relation;)V" } : MethodName) ({ cls := "PolicyCompiler$Evaluator", name := "evaluate", desc := "(LPolicyCompiler$Policy;LPolicyCompiler$Relation;)V" } : MethodName)) ∈ lw_tbl := List.mem_of_getElem? (i := 595) (by decide +kernel)
set_option maxRecDepth 20000 in
theorem mw_546 : (Cond.code ({ cls := "PolicyCompiler$Evaluator", name := "evaluate", desc := "(LPolicyCompiler$Policy;LPolicyCompiler$Relation;)V" } : MethodName) prog_3_method_2_code (5 : Nat) (Option.none : Option ClassFile.FieldType)) ∈ lw_tbl := List.mem_of_getElem? (i := 596) rfl
set_option maxRecDepth 20000 in
theorem mw_547 : (Cond.methodLink "PolicyCompiler$Evaluator" (15 : Nat) ({ cls := "PolicyCompiler$Policy", name := "nodeCount", desc := "()I" } : MethodName)) ∈ lw_tbl := List.mem_of_getElem? (i := 597) (by decide +kernel)
set_option maxRecDepth 20000 in
theorem mw_548 : (Cond.methodLink "PolicyCompiler$Evaluator" (21 : Nat) ({ cls := "PolicyCompiler$Evaluator", name := "evaluateNode", desc := "(LPolicyCompiler$Policy;I)V" } : MethodName)) ∈ lw_tbl := List.mem_of_getElem? (i := 598) (by decide +kernel)
set_option maxRecDepth 20000 in
theorem mw_550 : (Cond.instanceMethod ({ cls := "PolicyCompiler$Evaluator", name := "evaluateNode", desc := "(LPolicyCompiler$Policy;I)V" } : MethodName)) ∈ lw_tbl := List.mem_of_getElem? (i := 600) (by decide +kernel)
set_option maxRecDepth 20000 in
theorem mw_551 : (Cond.code ({ cls := "PolicyCompiler$Evaluator", name := "evaluateNode", desc := "(LPolicyCompiler$Policy;I)V" } : MethodName) prog_3_method_3_code (4 : Nat) (Option.none : Option ClassFile.FieldType)) ∈ lw_tbl := List.mem_of_getElem? (i := 601) rfl
set_option maxRecDepth 20000 in
theorem mw_552 : (Cond.methodLink "PolicyCompiler$Evaluator" (35 : Nat) ({ cls := "PolicyCompiler$Policy", name := "operandAt", desc := "(II)I" } : MethodName)) ∈ lw_tbl := List.mem_of_getElem? (i := 602) (by decide +kernel)
set_option maxRecDepth 20000 in
theorem mw_553 : (Cond.methodLink "PolicyCompiler$Evaluator" (39 : Nat) ({ cls := "PolicyCompiler$Policy", name := "kindAt", desc := "(I)I" } : MethodName)) ∈ lw_tbl := List.mem_of_getElem? (i := 603) (by decide +kernel)
set_option maxRecDepth 20000 in
theorem mw_554 : (Cond.methodLink "PolicyCompiler$Evaluator" (43 : Nat) ({ cls := "PolicyCompiler$Evaluator", name := "unite", desc := "(III)V" } : MethodName)) ∈ lw_tbl := List.mem_of_getElem? (i := 604) (by decide +kernel)
set_option maxRecDepth 20000 in
theorem mw_556 : (Cond.instanceMethod ({ cls := "PolicyCompiler$Evaluator", name := "unite", desc := "(III)V" } : MethodName)) ∈ lw_tbl := List.mem_of_getElem? (i := 606) (by decide +kernel)
set_option maxRecDepth 20000 in
theorem mw_557 : (Cond.code ({ cls := "PolicyCompiler$Evaluator", name := "unite", desc := "(III)V" } : MethodName) prog_3_method_5_code (5 : Nat) (Option.none : Option ClassFile.FieldType)) ∈ lw_tbl := List.mem_of_getElem? (i := 607) rfl
set_option maxRecDepth 20000 in
theorem mw_558 : (Cond.methodLink "PolicyCompiler$Evaluator" (25 : Nat) ({ cls := "PolicyCompiler$Evaluator", name := "imageOf", desc := "(II)J" } : MethodName)) ∈ lw_tbl := List.mem_of_getElem? (i := 608) (by decide +kernel)
set_option maxRecDepth 20000 in
theorem mw_560 : (Cond.instanceMethod ({ cls := "PolicyCompiler$Evaluator", name := "imageOf", desc := "(II)J" } : MethodName)) ∈ lw_tbl := List.mem_of_getElem? (i := 610) (by decide +kernel)
set_option maxRecDepth 20000 in
theorem mw_561 : (Cond.code ({ cls := "PolicyCompiler$Evaluator", name := "imageOf", desc := "(II)J" } : MethodName) prog_3_method_10_code (4 : Nat) (Option.some FieldType.long)) ∈ lw_tbl := List.mem_of_getElem? (i := 611) rfl
set_option maxRecDepth 20000 in
theorem mw_562 : (Cond.methodLink "PolicyCompiler$Evaluator" (81 : Nat) ({ cls := "PolicyCompiler$Evaluator", name := "assign", desc := "(IIJ)V" } : MethodName)) ∈ lw_tbl := List.mem_of_getElem? (i := 612) (by decide +kernel)
set_option maxRecDepth 20000 in
theorem mw_564 : (Cond.instanceMethod ({ cls := "PolicyCompiler$Evaluator", name := "assign", desc := "(IIJ)V" } : MethodName)) ∈ lw_tbl := List.mem_of_getElem? (i := 614) (by decide +kernel)
set_option maxRecDepth 20000 in
theorem mw_565 : (Cond.code ({ cls := "PolicyCompiler$Evaluator", name := "assign", desc := "(IIJ)V" } : MethodName) prog_3_method_11_code (6 : Nat) (Option.none : Option ClassFile.FieldType)) ∈ lw_tbl := List.mem_of_getElem? (i := 615) rfl
set_option maxRecDepth 20000 in
theorem mw_566 : (Cond.methodLink "PolicyCompiler$Evaluator" (47 : Nat) ({ cls := "PolicyCompiler$Evaluator", name := "chain", desc := "(III)V" } : MethodName)) ∈ lw_tbl := List.mem_of_getElem? (i := 616) (by decide +kernel)
set_option maxRecDepth 20000 in
theorem mw_568 : (Cond.instanceMethod ({ cls := "PolicyCompiler$Evaluator", name := "chain", desc := "(III)V" } : MethodName)) ∈ lw_tbl := List.mem_of_getElem? (i := 618) (by decide +kernel)
set_option maxRecDepth 20000 in
theorem mw_569 : (Cond.code ({ cls := "PolicyCompiler$Evaluator", name := "chain", desc := "(III)V" } : MethodName) prog_3_method_6_code (5 : Nat) (Option.none : Option ClassFile.FieldType)) ∈ lw_tbl := List.mem_of_getElem? (i := 619) rfl
set_option maxRecDepth 20000 in
theorem mw_570 : (Cond.methodLinkNest "PolicyCompiler$Evaluator" (84 : Nat) ({ cls := "PolicyCompiler", name := "imageOfSet", desc := "([JIJ)J" } : MethodName) "PolicyCompiler") ∈ lw_tbl := List.mem_of_getElem? (i := 620) (by decide +kernel)
set_option maxRecDepth 20000 in
theorem mw_571 : (Cond.static ({ cls := "PolicyCompiler", name := "imageOfSet", desc := "([JIJ)J" } : MethodName)) ∈ lw_tbl := List.mem_of_getElem? (i := 621) (by decide +kernel)
set_option maxRecDepth 20000 in
theorem mw_572 : (Cond.code ({ cls := "PolicyCompiler", name := "imageOfSet", desc := "([JIJ)J" } : MethodName) prog_1_method_43_code (11 : Nat) (Option.some FieldType.long)) ∈ lw_tbl := List.mem_of_getElem? (i := 622) rfl
set_option maxRecDepth 20000 in
theorem mw_573 : (Cond.methodLink "PolicyCompiler" (246 : Nat) ({ cls := "java/lang/Long", name := "bitCount", desc := "(J)I" } : MethodName)) ∈ lw_tbl := List.mem_of_getElem? (i := 623) (by decide +kernel)
set_option maxRecDepth 20000 in
theorem mw_574 : (Cond.static ({ cls := "java/lang/Long", name := "bitCount", desc := "(J)I" } : MethodName)) ∈ lw_tbl := List.mem_of_getElem? (i := 624) (by decide +kernel)
set_option maxRecDepth 20000 in
theorem mw_575 : (Cond.code ({ cls := "java/lang/Long", name := "bitCount", desc := "(J)I" } : MethodName) prog_13_method_50_code (2 : Nat) (Option.some FieldType.int)) ∈ lw_tbl := List.mem_of_getElem? (i := 625) rfl
set_option maxRecDepth 20000 in
theorem mw_576 : (Cond.constantLong "java/lang/Long" (314 : Nat) (6148914691236517205 : Int64)) ∈ lw_tbl := List.mem_of_getElem? (i := 626) (by decide +kernel)
set_option maxRecDepth 20000 in
theorem mw_577 : (Cond.constantLong "java/lang/Long" (316 : Nat) (3689348814741910323 : Int64)) ∈ lw_tbl := List.mem_of_getElem? (i := 627) (by decide +kernel)
set_option maxRecDepth 20000 in
theorem mw_578 : (Cond.constantLong "java/lang/Long" (318 : Nat) (1085102592571150095 : Int64)) ∈ lw_tbl := List.mem_of_getElem? (i := 628) (by decide +kernel)
set_option maxRecDepth 20000 in
theorem mw_579 : (Cond.methodLink "PolicyCompiler" (150 : Nat) ({ cls := "PolicyCompiler", name := "lowestOf", desc := "(J)I" } : MethodName)) ∈ lw_tbl := List.mem_of_getElem? (i := 629) (by decide +kernel)
set_option maxRecDepth 20000 in
theorem mw_580 : (Cond.static ({ cls := "PolicyCompiler", name := "lowestOf", desc := "(J)I" } : MethodName)) ∈ lw_tbl := List.mem_of_getElem? (i := 630) (by decide +kernel)
set_option maxRecDepth 20000 in
theorem mw_581 : (Cond.code ({ cls := "PolicyCompiler", name := "lowestOf", desc := "(J)I" } : MethodName) prog_1_method_42_code (2 : Nat) (Option.some FieldType.int)) ∈ lw_tbl := List.mem_of_getElem? (i := 631) rfl
set_option maxRecDepth 20000 in
theorem mw_582 : (Cond.methodLink "PolicyCompiler$Evaluator" (50 : Nat) ({ cls := "PolicyCompiler$Evaluator", name := "repeat", desc := "(II)V" } : MethodName)) ∈ lw_tbl := List.mem_of_getElem? (i := 632) (by decide +kernel)
set_option maxRecDepth 20000 in
theorem mw_584 : (Cond.instanceMethod ({ cls := "PolicyCompiler$Evaluator", name := "repeat", desc := "(II)V" } : MethodName)) ∈ lw_tbl := List.mem_of_getElem? (i := 634) (by decide +kernel)
set_option maxRecDepth 20000 in
theorem mw_585 : (Cond.code ({ cls := "PolicyCompiler$Evaluator", name := "repeat", desc := "(II)V" } : MethodName) prog_3_method_7_code (9 : Nat) (Option.none : Option ClassFile.FieldType)) ∈ lw_tbl := List.mem_of_getElem? (i := 635) rfl
set_option maxRecDepth 20000 in
theorem mw_586 : (Cond.methodLinkNest "PolicyCompiler$Evaluator" (77 : Nat) ({ cls := "PolicyCompiler", name := "alone", desc := "(I)J" } : MethodName) "PolicyCompiler") ∈ lw_tbl := List.mem_of_getElem? (i := 636) (by decide +kernel)
set_option maxRecDepth 20000 in
theorem mw_587 : (Cond.static ({ cls := "PolicyCompiler", name := "alone", desc := "(I)J" } : MethodName)) ∈ lw_tbl := List.mem_of_getElem? (i := 637) (by decide +kernel)
set_option maxRecDepth 20000 in
theorem mw_588 : (Cond.code ({ cls := "PolicyCompiler", name := "alone", desc := "(I)J" } : MethodName) prog_1_method_40_code (1 : Nat) (Option.some FieldType.long)) ∈ lw_tbl := List.mem_of_getElem? (i := 638) rfl
set_option maxRecDepth 20000 in
theorem mw_589 : (Cond.methodLinkNest "PolicyCompiler$Evaluator" (88 : Nat) ({ cls := "PolicyCompiler", name := "holds", desc := "(JI)Z" } : MethodName) "PolicyCompiler") ∈ lw_tbl := List.mem_of_getElem? (i := 639) (by decide +kernel)
set_option maxRecDepth 20000 in
theorem mw_590 : (Cond.static ({ cls := "PolicyCompiler", name := "holds", desc := "(JI)Z" } : MethodName)) ∈ lw_tbl := List.mem_of_getElem? (i := 640) (by decide +kernel)
set_option maxRecDepth 20000 in
theorem mw_591 : (Cond.code ({ cls := "PolicyCompiler", name := "holds", desc := "(JI)Z" } : MethodName) prog_1_method_41_code (3 : Nat) (Option.some FieldType.boolean)) ∈ lw_tbl := List.mem_of_getElem? (i := 641) rfl
set_option maxRecDepth 20000 in
theorem mw_592 : (Cond.methodLink "PolicyCompiler$Evaluator" (54 : Nat) ({ cls := "PolicyCompiler$Evaluator", name := "negate", desc := "(II)V" } : MethodName)) ∈ lw_tbl := List.mem_of_getElem? (i := 642) (by decide +kernel)
set_option maxRecDepth 20000 in
theorem mw_594 : (Cond.instanceMethod ({ cls := "PolicyCompiler$Evaluator", name := "negate", desc := "(II)V" } : MethodName)) ∈ lw_tbl := List.mem_of_getElem? (i := 644) (by decide +kernel)
set_option maxRecDepth 20000 in
theorem mw_595 : (Cond.code ({ cls := "PolicyCompiler$Evaluator", name := "negate", desc := "(II)V" } : MethodName) prog_3_method_8_code (4 : Nat) (Option.none : Option ClassFile.FieldType)) ∈ lw_tbl := List.mem_of_getElem? (i := 645) rfl
set_option maxRecDepth 20000 in
theorem mw_596 : (Cond.methodLink "PolicyCompiler$Evaluator" (57 : Nat) ({ cls := "PolicyCompiler$Evaluator", name := "choose", desc := "(IIII)V" } : MethodName)) ∈ lw_tbl := List.mem_of_getElem? (i := 646) (by decide +kernel)
set_option maxRecDepth 20000 in
theorem mw_598 : (Cond.instanceMethod ({ cls := "PolicyCompiler$Evaluator", name := "choose", desc := "(IIII)V" } : MethodName)) ∈ lw_tbl := List.mem_of_getElem? (i := 648) (by decide +kernel)
set_option maxRecDepth 20000 in
theorem mw_599 : (Cond.code ({ cls := "PolicyCompiler$Evaluator", name := "choose", desc := "(IIII)V" } : MethodName) prog_3_method_9_code (6 : Nat) (Option.none : Option ClassFile.FieldType)) ∈ lw_tbl := List.mem_of_getElem? (i := 649) rfl
set_option maxRecDepth 20000 in
theorem mw_600 : (Cond.methodLink "PolicyCompiler$Evaluator" (61 : Nat) ({ cls := "PolicyCompiler$Evaluator", name := "evaluateLeaf", desc := "(LPolicyCompiler$Policy;I)V" } : MethodName)) ∈ lw_tbl := List.mem_of_getElem? (i := 650) (by decide +kernel)
set_option maxRecDepth 20000 in
theorem mw_602 : (Cond.instanceMethod ({ cls := "PolicyCompiler$Evaluator", name := "evaluateLeaf", desc := "(LPolicyCompiler$Policy;I)V" } : MethodName)) ∈ lw_tbl := List.mem_of_getElem? (i := 652) (by decide +kernel)
set_option maxRecDepth 20000 in
theorem mw_603 : (Cond.code ({ cls := "PolicyCompiler$Evaluator", name := "evaluateLeaf", desc := "(LPolicyCompiler$Policy;I)V" } : MethodName) prog_3_method_4_code (9 : Nat) (Option.none : Option ClassFile.FieldType)) ∈ lw_tbl := List.mem_of_getElem? (i := 653) rfl
set_option maxRecDepth 20000 in
theorem mw_604 : (Cond.methodLink "PolicyCompiler$Evaluator" (64 : Nat) ({ cls := "PolicyCompiler$Policy", name := "fieldAt", desc := "(I)I" } : MethodName)) ∈ lw_tbl := List.mem_of_getElem? (i := 654) (by decide +kernel)
set_option maxRecDepth 20000 in
theorem mw_605 : (Cond.methodLink "PolicyCompiler$Evaluator" (67 : Nat) ({ cls := "PolicyCompiler$Policy", name := "valueAt", desc := "(I)I" } : MethodName)) ∈ lw_tbl := List.mem_of_getElem? (i := 655) (by decide +kernel)
set_option maxRecDepth 20000 in
theorem mw_606 : (Cond.methodLinkNest "PolicyCompiler$Evaluator" (70 : Nat) ({ cls := "PolicyCompiler", name := "valueOf", desc := "(II)I" } : MethodName) "PolicyCompiler") ∈ lw_tbl := List.mem_of_getElem? (i := 656) (by decide +kernel)
set_option maxRecDepth 20000 in
theorem mw_607 : (Cond.static ({ cls := "PolicyCompiler", name := "valueOf", desc := "(II)I" } : MethodName)) ∈ lw_tbl := List.mem_of_getElem? (i := 657) (by decide +kernel)
set_option maxRecDepth 20000 in
theorem mw_608 : (Cond.code ({ cls := "PolicyCompiler", name := "valueOf", desc := "(II)I" } : MethodName) prog_1_method_38_code (2 : Nat) (Option.some FieldType.int)) ∈ lw_tbl := List.mem_of_getElem? (i := 658) rfl
set_option maxRecDepth 20000 in
theorem mw_609 : (Cond.methodLink "PolicyCompiler" (243 : Nat) ({ cls := "PolicyCompiler", name := "shiftOf", desc := "(I)I" } : MethodName)) ∈ lw_tbl := List.mem_of_getElem? (i := 659) (by decide +kernel)
set_option maxRecDepth 20000 in
theorem mw_610 : (Cond.static ({ cls := "PolicyCompiler", name := "shiftOf", desc := "(I)I" } : MethodName)) ∈ lw_tbl := List.mem_of_getElem? (i := 660) (by decide +kernel)
set_option maxRecDepth 20000 in
theorem mw_611 : (Cond.code ({ cls := "PolicyCompiler", name := "shiftOf", desc := "(I)I" } : MethodName) prog_1_method_37_code (1 : Nat) (Option.some FieldType.int)) ∈ lw_tbl := List.mem_of_getElem? (i := 661) rfl
set_option maxRecDepth 20000 in
theorem mw_612 : (Cond.methodLinkNest "PolicyCompiler$Evaluator" (73 : Nat) ({ cls := "PolicyCompiler", name := "withValue", desc := "(III)I" } : MethodName) "PolicyCompiler") ∈ lw_tbl := List.mem_of_getElem? (i := 662) (by decide +kernel)
set_option maxRecDepth 20000 in
theorem mw_613 : (Cond.static ({ cls := "PolicyCompiler", name := "withValue", desc := "(III)I" } : MethodName)) ∈ lw_tbl := List.mem_of_getElem? (i := 663) (by decide +kernel)
set_option maxRecDepth 20000 in
theorem mw_614 : (Cond.code ({ cls := "PolicyCompiler", name := "withValue", desc := "(III)I" } : MethodName) prog_1_method_39_code (4 : Nat) (Option.some FieldType.int)) ∈ lw_tbl := List.mem_of_getElem? (i := 664) rfl
set_option maxRecDepth 20000 in
theorem mw_615 : (Cond.methodLink "PolicyCompiler$Evaluator" (29 : Nat) ({ cls := "PolicyCompiler$Relation", name := "assign", desc := "(IJ)V" } : MethodName)) ∈ lw_tbl := List.mem_of_getElem? (i := 665) (by decide +kernel)
set_option maxRecDepth 20000 in
theorem mw_616 : (Cond.instanceMethod ({ cls := "PolicyCompiler$Relation", name := "assign", desc := "(IJ)V" } : MethodName)) ∈ lw_tbl := List.mem_of_getElem? (i := 666) (by decide +kernel)
set_option maxRecDepth 20000 in
theorem mw_617 : (Cond.selects "PolicyCompiler$Relation" ({ cls := "PolicyCompiler$Relation", name := "assign", desc := "(IJ)V" } : MethodName) ({ cls := "PolicyCompiler$Relation", name := "assign", desc := "(IJ)V" } : MethodName)) ∈ lw_tbl := List.mem_of_getElem? (i := 667) (by decide +kernel)
set_option maxRecDepth 20000 in
theorem mw_618 : (Cond.code ({ cls := "PolicyCompiler$Relation", name := "assign", desc := "(IJ)V" } : MethodName) prog_8_method_2_code (4 : Nat) (Option.none : Option ClassFile.FieldType)) ∈ lw_tbl := List.mem_of_getElem? (i := 668) rfl
set_option maxRecDepth 20000 in
theorem mw_619 : (Cond.methodLinkNest "PolicyCompiler$Relation" (15 : Nat) ({ cls := "PolicyCompiler", name := "isPacket", desc := "(I)Z" } : MethodName) "PolicyCompiler") ∈ lw_tbl := List.mem_of_getElem? (i := 669) (by decide +kernel)
set_option maxRecDepth 20000 in
theorem mw_620 : (Cond.static ({ cls := "PolicyCompiler", name := "isPacket", desc := "(I)Z" } : MethodName)) ∈ lw_tbl := List.mem_of_getElem? (i := 670) (by decide +kernel)
set_option maxRecDepth 20000 in
theorem mw_621 : (Cond.code ({ cls := "PolicyCompiler", name := "isPacket", desc := "(I)Z" } : MethodName) prog_1_method_36_code (1 : Nat) (Option.some FieldType.boolean)) ∈ lw_tbl := List.mem_of_getElem? (i := 671) rfl
set_option maxRecDepth 20000 in
theorem mw_622 : (Cond.methodLink "PolicyCompiler$Slot" (78 : Nat) ({ cls := "PolicyCompiler$Diagram", name := "build", desc := "(LPolicyCompiler$Relation;)V" } : MethodName)) ∈ lw_tbl := List.mem_of_getElem? (i := 672) (by decide +kernel)
set_option maxRecDepth 20000 in
theorem mw_623 : (Cond.instanceMethod ({ cls := "PolicyCompiler$Diagram", name := "build", desc := "(LPolicyCompiler$Relation;)V" } : MethodName)) ∈ lw_tbl := List.mem_of_getElem? (i := 673) (by decide +kernel)
set_option maxRecDepth 20000 in
theorem mw_624 : (Cond.selects "PolicyCompiler$Diagram" ({ cls := "PolicyCompiler$Diagram", name := "build", desc := "(LPolicyCompiler$Relation;)V" } : MethodName) ({ cls := "PolicyCompiler$Diagram", name := "build", desc := "(LPolicyCompiler$Relation;)V" } : MethodName)) ∈ lw_tbl := List.mem_of_getElem? (i := 674) (by decide +kernel)
set_option maxRecDepth 20000 in
theorem mw_625 : (Cond.code ({ cls := "PolicyCompiler$Diagram", name := "build", desc := "(LPolicyCompiler$Relation;)V" } : MethodName) prog_2_method_10_code (5 : Nat) (Option.none : Option ClassFile.FieldType)) ∈ lw_tbl := List.mem_of_getElem? (i := 675) rfl
set_option maxRecDepth 20000 in
theorem mw_626 : (Cond.methodLink "PolicyCompiler$Diagram" (48 : Nat) ({ cls := "PolicyCompiler$Relation", name := "imageOf", desc := "(I)J" } : MethodName)) ∈ lw_tbl := List.mem_of_getElem? (i := 676) (by decide +kernel)
set_option maxRecDepth 20000 in
theorem mw_627 : (Cond.instanceMethod ({ cls := "PolicyCompiler$Relation", name := "imageOf", desc := "(I)J" } : MethodName)) ∈ lw_tbl := List.mem_of_getElem? (i := 677) (by decide +kernel)
set_option maxRecDepth 20000 in
theorem mw_628 : (Cond.selects "PolicyCompiler$Relation" ({ cls := "PolicyCompiler$Relation", name := "imageOf", desc := "(I)J" } : MethodName) ({ cls := "PolicyCompiler$Relation", name := "imageOf", desc := "(I)J" } : MethodName)) ∈ lw_tbl := List.mem_of_getElem? (i := 678) (by decide +kernel)
set_option maxRecDepth 20000 in
theorem mw_629 : (Cond.code ({ cls := "PolicyCompiler$Relation", name := "imageOf", desc := "(I)J" } : MethodName) prog_8_method_3_code (2 : Nat) (Option.some FieldType.long)) ∈ lw_tbl := List.mem_of_getElem? (i := 679) rfl
set_option maxRecDepth 20000 in
theorem mw_630 : (Cond.methodLink "PolicyCompiler$Diagram" (54 : Nat) ({ cls := "PolicyCompiler$Diagram", name := "leafFor", desc := "(IJ)I" } : MethodName)) ∈ lw_tbl := List.mem_of_getElem? (i := 680) (by decide +kernel)
set_option maxRecDepth 20000 in
theorem mw_632 : (Cond.instanceMethod ({ cls := "PolicyCompiler$Diagram", name := "leafFor", desc := "(IJ)I" } : MethodName)) ∈ lw_tbl := List.mem_of_getElem? (i := 682) (by decide +kernel)
set_option maxRecDepth 20000 in
theorem mw_633 : (Cond.code ({ cls := "PolicyCompiler$Diagram", name := "leafFor", desc := "(IJ)I" } : MethodName) prog_2_method_11_code (13 : Nat) (Option.some FieldType.int)) ∈ lw_tbl := List.mem_of_getElem? (i := 683) rfl
set_option maxRecDepth 20000 in
theorem mw_634 : (Cond.methodLink "PolicyCompiler$Diagram" (62 : Nat) ({ cls := "java/lang/Long", name := "bitCount", desc := "(J)I" } : MethodName)) ∈ lw_tbl := List.mem_of_getElem? (i := 684) (by decide +kernel)
set_option maxRecDepth 20000 in
theorem mw_635 : (Cond.methodLinkNest "PolicyCompiler$Diagram" (68 : Nat) ({ cls := "PolicyCompiler", name := "lowestOf", desc := "(J)I" } : MethodName) "PolicyCompiler") ∈ lw_tbl := List.mem_of_getElem? (i := 685) (by decide +kernel)
set_option maxRecDepth 20000 in
theorem mw_636 : (Cond.methodLinkNest "PolicyCompiler$Diagram" (71 : Nat) ({ cls := "PolicyCompiler", name := "actionFrom", desc := "(II)I" } : MethodName) "PolicyCompiler") ∈ lw_tbl := List.mem_of_getElem? (i := 686) (by decide +kernel)
set_option maxRecDepth 20000 in
theorem mw_637 : (Cond.static ({ cls := "PolicyCompiler", name := "actionFrom", desc := "(II)I" } : MethodName)) ∈ lw_tbl := List.mem_of_getElem? (i := 687) (by decide +kernel)
set_option maxRecDepth 20000 in
theorem mw_638 : (Cond.code ({ cls := "PolicyCompiler", name := "actionFrom", desc := "(II)I" } : MethodName) prog_1_method_46_code (5 : Nat) (Option.some FieldType.int)) ∈ lw_tbl := List.mem_of_getElem? (i := 688) rfl
set_option maxRecDepth 20000 in
theorem mw_639 : (Cond.methodLink "PolicyCompiler" (251 : Nat) ({ cls := "PolicyCompiler", name := "valueOf", desc := "(II)I" } : MethodName)) ∈ lw_tbl := List.mem_of_getElem? (i := 689) (by decide +kernel)
set_option maxRecDepth 20000 in
theorem mw_640 : (Cond.methodLink "PolicyCompiler" (254 : Nat) ({ cls := "PolicyCompiler", name := "weightOf", desc := "(I)I" } : MethodName)) ∈ lw_tbl := List.mem_of_getElem? (i := 690) (by decide +kernel)
set_option maxRecDepth 20000 in
theorem mw_641 : (Cond.static ({ cls := "PolicyCompiler", name := "weightOf", desc := "(I)I" } : MethodName)) ∈ lw_tbl := List.mem_of_getElem? (i := 691) (by decide +kernel)
set_option maxRecDepth 20000 in
theorem mw_642 : (Cond.code ({ cls := "PolicyCompiler", name := "weightOf", desc := "(I)I" } : MethodName) prog_1_method_44_code (1 : Nat) (Option.some FieldType.int)) ∈ lw_tbl := List.mem_of_getElem? (i := 692) rfl
set_option maxRecDepth 20000 in
theorem mw_643 : (Cond.methodLink "PolicyCompiler$Diagram" (74 : Nat) ({ cls := "PolicyCompiler$Diagram", name := "leafWith", desc := "(JJ)I" } : MethodName)) ∈ lw_tbl := List.mem_of_getElem? (i := 693) (by decide +kernel)
set_option maxRecDepth 20000 in
theorem mw_645 : (Cond.instanceMethod ({ cls := "PolicyCompiler$Diagram", name := "leafWith", desc := "(JJ)I" } : MethodName)) ∈ lw_tbl := List.mem_of_getElem? (i := 695) (by decide +kernel)
set_option maxRecDepth 20000 in
theorem mw_646 : (Cond.code ({ cls := "PolicyCompiler$Diagram", name := "leafWith", desc := "(JJ)I" } : MethodName) prog_2_method_12_code (6 : Nat) (Option.some FieldType.int)) ∈ lw_tbl := List.mem_of_getElem? (i := 696) rfl
set_option maxRecDepth 20000 in
theorem mw_647 : (Cond.methodLink "PolicyCompiler$Diagram" (78 : Nat) ({ cls := "PolicyCompiler$Diagram", name := "newLeaf", desc := "(JJ)I" } : MethodName)) ∈ lw_tbl := List.mem_of_getElem? (i := 697) (by decide +kernel)
set_option maxRecDepth 20000 in
theorem mw_649 : (Cond.instanceMethod ({ cls := "PolicyCompiler$Diagram", name := "newLeaf", desc := "(JJ)I" } : MethodName)) ∈ lw_tbl := List.mem_of_getElem? (i := 699) (by decide +kernel)
set_option maxRecDepth 20000 in
theorem mw_650 : (Cond.code ({ cls := "PolicyCompiler$Diagram", name := "newLeaf", desc := "(JJ)I" } : MethodName) prog_2_method_13_code (5 : Nat) (Option.some FieldType.int)) ∈ lw_tbl := List.mem_of_getElem? (i := 700) rfl
set_option maxRecDepth 20000 in
theorem mw_651 : (Cond.methodLink "PolicyCompiler$Diagram" (58 : Nat) ({ cls := "PolicyCompiler$Diagram", name := "nodeFor", desc := "(II)I" } : MethodName)) ∈ lw_tbl := List.mem_of_getElem? (i := 701) (by decide +kernel)
set_option maxRecDepth 20000 in
theorem mw_653 : (Cond.instanceMethod ({ cls := "PolicyCompiler$Diagram", name := "nodeFor", desc := "(II)I" } : MethodName)) ∈ lw_tbl := List.mem_of_getElem? (i := 703) (by decide +kernel)
set_option maxRecDepth 20000 in
theorem mw_654 : (Cond.code ({ cls := "PolicyCompiler$Diagram", name := "nodeFor", desc := "(II)I" } : MethodName) prog_2_method_14_code (8 : Nat) (Option.some FieldType.int)) ∈ lw_tbl := List.mem_of_getElem? (i := 704) rfl
set_option maxRecDepth 20000 in
theorem mw_655 : (Cond.methodLink "PolicyCompiler$Diagram" (81 : Nat) ({ cls := "PolicyCompiler$Diagram", name := "testWith", desc := "(IIIII)I" } : MethodName)) ∈ lw_tbl := List.mem_of_getElem? (i := 705) (by decide +kernel)
set_option maxRecDepth 20000 in
theorem mw_657 : (Cond.instanceMethod ({ cls := "PolicyCompiler$Diagram", name := "testWith", desc := "(IIIII)I" } : MethodName)) ∈ lw_tbl := List.mem_of_getElem? (i := 707) (by decide +kernel)
set_option maxRecDepth 20000 in
theorem mw_658 : (Cond.code ({ cls := "PolicyCompiler$Diagram", name := "testWith", desc := "(IIIII)I" } : MethodName) prog_2_method_15_code (7 : Nat) (Option.some FieldType.int)) ∈ lw_tbl := List.mem_of_getElem? (i := 708) rfl
set_option maxRecDepth 20000 in
theorem mw_659 : (Cond.methodLink "PolicyCompiler$Diagram" (88 : Nat) ({ cls := "PolicyCompiler$Diagram", name := "childOf", desc := "(II)I" } : MethodName)) ∈ lw_tbl := List.mem_of_getElem? (i := 709) (by decide +kernel)
set_option maxRecDepth 20000 in
theorem mw_660 : (Cond.instanceMethod ({ cls := "PolicyCompiler$Diagram", name := "childOf", desc := "(II)I" } : MethodName)) ∈ lw_tbl := List.mem_of_getElem? (i := 710) (by decide +kernel)
set_option maxRecDepth 20000 in
theorem mw_661 : (Cond.selects "PolicyCompiler$Diagram" ({ cls := "PolicyCompiler$Diagram", name := "childOf", desc := "(II)I" } : MethodName) ({ cls := "PolicyCompiler$Diagram", name := "childOf", desc := "(II)I" } : MethodName)) ∈ lw_tbl := List.mem_of_getElem? (i := 711) (by decide +kernel)
set_option maxRecDepth 20000 in
theorem mw_662 : (Cond.code ({ cls := "PolicyCompiler$Diagram", name := "childOf", desc := "(II)I" } : MethodName) prog_2_method_9_code (4 : Nat) (Option.some FieldType.int)) ∈ lw_tbl := List.mem_of_getElem? (i := 712) rfl
set_option maxRecDepth 20000 in
theorem mw_663 : (Cond.methodLink "PolicyCompiler$Diagram" (85 : Nat) ({ cls := "PolicyCompiler$Diagram", name := "newTest", desc := "(II)I" } : MethodName)) ∈ lw_tbl := List.mem_of_getElem? (i := 713) (by decide +kernel)
set_option maxRecDepth 20000 in
theorem mw_665 : (Cond.instanceMethod ({ cls := "PolicyCompiler$Diagram", name := "newTest", desc := "(II)I" } : MethodName)) ∈ lw_tbl := List.mem_of_getElem? (i := 715) (by decide +kernel)
set_option maxRecDepth 20000 in
theorem mw_666 : (Cond.code ({ cls := "PolicyCompiler$Diagram", name := "newTest", desc := "(II)I" } : MethodName) prog_2_method_16_code (6 : Nat) (Option.some FieldType.int)) ∈ lw_tbl := List.mem_of_getElem? (i := 716) rfl
set_option maxRecDepth 20000 in
theorem mw_667 : (Cond.methodLink "PolicyCompiler$Diagram" (44 : Nat) ({ cls := "PolicyCompiler$Diagram", name := "depthOf", desc := "(I)I" } : MethodName)) ∈ lw_tbl := List.mem_of_getElem? (i := 717) (by decide +kernel)
set_option maxRecDepth 20000 in
theorem mw_669 : (Cond.instanceMethod ({ cls := "PolicyCompiler$Diagram", name := "depthOf", desc := "(I)I" } : MethodName)) ∈ lw_tbl := List.mem_of_getElem? (i := 719) (by decide +kernel)
set_option maxRecDepth 20000 in
theorem mw_670 : (Cond.code ({ cls := "PolicyCompiler$Diagram", name := "depthOf", desc := "(I)I" } : MethodName) prog_2_method_5_code (2 : Nat) (Option.some FieldType.int)) ∈ lw_tbl := List.mem_of_getElem? (i := 720) rfl
set_option maxRecDepth 20000 in
theorem mw_671 : (Cond.methodLink "PolicyCompiler$Diagram" (91 : Nat) ({ cls := "java/lang/Math", name := "max", desc := "(II)I" } : MethodName)) ∈ lw_tbl := List.mem_of_getElem? (i := 721) (by decide +kernel)
set_option maxRecDepth 20000 in
theorem mw_672 : (Cond.static ({ cls := "java/lang/Math", name := "max", desc := "(II)I" } : MethodName)) ∈ lw_tbl := List.mem_of_getElem? (i := 722) (by decide +kernel)
set_option maxRecDepth 20000 in
theorem mw_673 : (Cond.code ({ cls := "java/lang/Math", name := "max", desc := "(II)I" } : MethodName) prog_14_method_65_code (2 : Nat) (Option.some FieldType.int)) ∈ lw_tbl := List.mem_of_getElem? (i := 723) rfl
set_option maxRecDepth 20000 in
theorem mw_674 : (Cond.methodLink "PolicyCompiler$Slot" (82 : Nat) ({ cls := "PolicyCompiler$Table", name := "build", desc := "(LPolicyCompiler$Diagram;)V" } : MethodName)) ∈ lw_tbl := List.mem_of_getElem? (i := 724) (by decide +kernel)
set_option maxRecDepth 20000 in
theorem mw_675 : (Cond.instanceMethod ({ cls := "PolicyCompiler$Table", name := "build", desc := "(LPolicyCompiler$Diagram;)V" } : MethodName)) ∈ lw_tbl := List.mem_of_getElem? (i := 725) (by decide +kernel)
set_option maxRecDepth 20000 in
theorem mw_676 : (Cond.selects "PolicyCompiler$Table" ({ cls := "PolicyCompiler$Table", name := "build", desc := "(LPolicyCompiler$Diagram;)V" } : MethodName) ({ cls := "PolicyCompiler$Table", name := "build", desc := "(LPolicyCompiler$Diagram;)V" } : MethodName)) ∈ lw_tbl := List.mem_of_getElem? (i := 726) (by decide +kernel)
set_option maxRecDepth 20000 in
theorem mw_677 : (Cond.code ({ cls := "PolicyCompiler$Table", name := "build", desc := "(LPolicyCompiler$Diagram;)V" } : MethodName) prog_10_method_6_code (4 : Nat) (Option.none : Option ClassFile.FieldType)) ∈ lw_tbl := List.mem_of_getElem? (i := 727) rfl
set_option maxRecDepth 20000 in
theorem mw_678 : (Cond.methodLink "PolicyCompiler$Table" (22 : Nat) ({ cls := "PolicyCompiler$Diagram", name := "rootNode", desc := "()I" } : MethodName)) ∈ lw_tbl := List.mem_of_getElem? (i := 728) (by decide +kernel)
set_option maxRecDepth 20000 in
theorem mw_679 : (Cond.instanceMethod ({ cls := "PolicyCompiler$Diagram", name := "rootNode", desc := "()I" } : MethodName)) ∈ lw_tbl := List.mem_of_getElem? (i := 729) (by decide +kernel)
set_option maxRecDepth 20000 in
theorem mw_680 : (Cond.selects "PolicyCompiler$Diagram" ({ cls := "PolicyCompiler$Diagram", name := "rootNode", desc := "()I" } : MethodName) ({ cls := "PolicyCompiler$Diagram", name := "rootNode", desc := "()I" } : MethodName)) ∈ lw_tbl := List.mem_of_getElem? (i := 730) (by decide +kernel)
set_option maxRecDepth 20000 in
theorem mw_681 : (Cond.code ({ cls := "PolicyCompiler$Diagram", name := "rootNode", desc := "()I" } : MethodName) prog_2_method_6_code (1 : Nat) (Option.some FieldType.int)) ∈ lw_tbl := List.mem_of_getElem? (i := 731) rfl
set_option maxRecDepth 20000 in
theorem mw_682 : (Cond.methodLink "PolicyCompiler$Table" (28 : Nat) ({ cls := "PolicyCompiler$Table", name := "visit", desc := "(LPolicyCompiler$Table;LPolicyCompiler$Diagram;III)V" } : MethodName)) ∈ lw_tbl := List.mem_of_getElem? (i := 732) (by decide +kernel)
set_option maxRecDepth 20000 in
theorem mw_683 : (Cond.static ({ cls := "PolicyCompiler$Table", name := "visit", desc := "(LPolicyCompiler$Table;LPolicyCompiler$Diagram;III)V" } : MethodName)) ∈ lw_tbl := List.mem_of_getElem? (i := 733) (by decide +kernel)
set_option maxRecDepth 20000 in
theorem mw_684 : (Cond.code ({ cls := "PolicyCompiler$Table", name := "visit", desc := "(LPolicyCompiler$Table;LPolicyCompiler$Diagram;III)V" } : MethodName) prog_10_method_7_code (9 : Nat) (Option.none : Option ClassFile.FieldType)) ∈ lw_tbl := List.mem_of_getElem? (i := 734) rfl
set_option maxRecDepth 20000 in
theorem mw_685 : (Cond.methodLink "PolicyCompiler$Table" (36 : Nat) ({ cls := "PolicyCompiler$Diagram", name := "isLeaf", desc := "(I)Z" } : MethodName)) ∈ lw_tbl := List.mem_of_getElem? (i := 735) (by decide +kernel)
set_option maxRecDepth 20000 in
theorem mw_686 : (Cond.instanceMethod ({ cls := "PolicyCompiler$Diagram", name := "isLeaf", desc := "(I)Z" } : MethodName)) ∈ lw_tbl := List.mem_of_getElem? (i := 736) (by decide +kernel)
set_option maxRecDepth 20000 in
theorem mw_687 : (Cond.selects "PolicyCompiler$Diagram" ({ cls := "PolicyCompiler$Diagram", name := "isLeaf", desc := "(I)Z" } : MethodName) ({ cls := "PolicyCompiler$Diagram", name := "isLeaf", desc := "(I)Z" } : MethodName)) ∈ lw_tbl := List.mem_of_getElem? (i := 737) (by decide +kernel)
set_option maxRecDepth 20000 in
theorem mw_688 : (Cond.code ({ cls := "PolicyCompiler$Diagram", name := "isLeaf", desc := "(I)Z" } : MethodName) prog_2_method_7_code (2 : Nat) (Option.some FieldType.boolean)) ∈ lw_tbl := List.mem_of_getElem? (i := 738) rfl
set_option maxRecDepth 20000 in
theorem mw_689 : (Cond.methodLink "PolicyCompiler$Table" (40 : Nat) ({ cls := "PolicyCompiler$Table", name := "addRow", desc := "(II)V" } : MethodName)) ∈ lw_tbl := List.mem_of_getElem? (i := 739) (by decide +kernel)
set_option maxRecDepth 20000 in
theorem mw_691 : (Cond.instanceMethod ({ cls := "PolicyCompiler$Table", name := "addRow", desc := "(II)V" } : MethodName)) ∈ lw_tbl := List.mem_of_getElem? (i := 741) (by decide +kernel)
set_option maxRecDepth 20000 in
theorem mw_692 : (Cond.code ({ cls := "PolicyCompiler$Table", name := "addRow", desc := "(II)V" } : MethodName) prog_10_method_8_code (3 : Nat) (Option.none : Option ClassFile.FieldType)) ∈ lw_tbl := List.mem_of_getElem? (i := 742) rfl
set_option maxRecDepth 20000 in
theorem mw_693 : (Cond.methodLink "PolicyCompiler$Table" (44 : Nat) ({ cls := "PolicyCompiler$Diagram", name := "fieldOf", desc := "(I)I" } : MethodName)) ∈ lw_tbl := List.mem_of_getElem? (i := 743) (by decide +kernel)
set_option maxRecDepth 20000 in
theorem mw_694 : (Cond.instanceMethod ({ cls := "PolicyCompiler$Diagram", name := "fieldOf", desc := "(I)I" } : MethodName)) ∈ lw_tbl := List.mem_of_getElem? (i := 744) (by decide +kernel)
set_option maxRecDepth 20000 in
theorem mw_695 : (Cond.selects "PolicyCompiler$Diagram" ({ cls := "PolicyCompiler$Diagram", name := "fieldOf", desc := "(I)I" } : MethodName) ({ cls := "PolicyCompiler$Diagram", name := "fieldOf", desc := "(I)I" } : MethodName)) ∈ lw_tbl := List.mem_of_getElem? (i := 745) (by decide +kernel)
set_option maxRecDepth 20000 in
theorem mw_696 : (Cond.code ({ cls := "PolicyCompiler$Diagram", name := "fieldOf", desc := "(I)I" } : MethodName) prog_2_method_8_code (2 : Nat) (Option.some FieldType.int)) ∈ lw_tbl := List.mem_of_getElem? (i := 746) rfl
set_option maxRecDepth 20000 in
theorem mw_697 : (Cond.methodLink "PolicyCompiler$Table" (47 : Nat) ({ cls := "PolicyCompiler$Diagram", name := "mainChildOf", desc := "(I)I" } : MethodName)) ∈ lw_tbl := List.mem_of_getElem? (i := 747) (by decide +kernel)
set_option maxRecDepth 20000 in
theorem mw_698 : (Cond.instanceMethod ({ cls := "PolicyCompiler$Diagram", name := "mainChildOf", desc := "(I)I" } : MethodName)) ∈ lw_tbl := List.mem_of_getElem? (i := 748) (by decide +kernel)
set_option maxRecDepth 20000 in
theorem mw_699 : (Cond.selects "PolicyCompiler$Diagram" ({ cls := "PolicyCompiler$Diagram", name := "mainChildOf", desc := "(I)I" } : MethodName) ({ cls := "PolicyCompiler$Diagram", name := "mainChildOf", desc := "(I)I" } : MethodName)) ∈ lw_tbl := List.mem_of_getElem? (i := 749) (by decide +kernel)
set_option maxRecDepth 20000 in
theorem mw_700 : (Cond.code ({ cls := "PolicyCompiler$Diagram", name := "mainChildOf", desc := "(I)I" } : MethodName) prog_2_method_17_code (7 : Nat) (Option.some FieldType.int)) ∈ lw_tbl := List.mem_of_getElem? (i := 750) rfl
set_option maxRecDepth 20000 in
theorem mw_701 : (Cond.methodLink "PolicyCompiler$Diagram" (96 : Nat) ({ cls := "PolicyCompiler$Diagram", name := "valuesLeadingTo", desc := "(II)I" } : MethodName)) ∈ lw_tbl := List.mem_of_getElem? (i := 751) (by decide +kernel)
set_option maxRecDepth 20000 in
theorem mw_703 : (Cond.instanceMethod ({ cls := "PolicyCompiler$Diagram", name := "valuesLeadingTo", desc := "(II)I" } : MethodName)) ∈ lw_tbl := List.mem_of_getElem? (i := 753) (by decide +kernel)
set_option maxRecDepth 20000 in
theorem mw_704 : (Cond.code ({ cls := "PolicyCompiler$Diagram", name := "valuesLeadingTo", desc := "(II)I" } : MethodName) prog_2_method_18_code (5 : Nat) (Option.some FieldType.int)) ∈ lw_tbl := List.mem_of_getElem? (i := 754) rfl
set_option maxRecDepth 20000 in
theorem mw_705 : (Cond.methodLink "PolicyCompiler$Table" (50 : Nat) ({ cls := "PolicyCompiler$Diagram", name := "childOf", desc := "(II)I" } : MethodName)) ∈ lw_tbl := List.mem_of_getElem? (i := 755) (by decide +kernel)
set_option maxRecDepth 20000 in
theorem mw_706 : (Cond.methodLinkNest "PolicyCompiler$Table" (54 : Nat) ({ cls := "PolicyCompiler", name := "weightOf", desc := "(I)I" } : MethodName) "PolicyCompiler") ∈ lw_tbl := List.mem_of_getElem? (i := 756) (by decide +kernel)
set_option maxRecDepth 20000 in
theorem mw_707 : (Cond.methodLink "PolicyCompiler$Table" (32 : Nat) ({ cls := "PolicyCompiler$Diagram", name := "actionTotal", desc := "(I)I" } : MethodName)) ∈ lw_tbl := List.mem_of_getElem? (i := 757) (by decide +kernel)
set_option maxRecDepth 20000 in
theorem mw_708 : (Cond.instanceMethod ({ cls := "PolicyCompiler$Diagram", name := "actionTotal", desc := "(I)I" } : MethodName)) ∈ lw_tbl := List.mem_of_getElem? (i := 758) (by decide +kernel)
set_option maxRecDepth 20000 in
theorem mw_709 : (Cond.selects "PolicyCompiler$Diagram" ({ cls := "PolicyCompiler$Diagram", name := "actionTotal", desc := "(I)I" } : MethodName) ({ cls := "PolicyCompiler$Diagram", name := "actionTotal", desc := "(I)I" } : MethodName)) ∈ lw_tbl := List.mem_of_getElem? (i := 759) (by decide +kernel)
set_option maxRecDepth 20000 in
theorem mw_710 : (Cond.code ({ cls := "PolicyCompiler$Diagram", name := "actionTotal", desc := "(I)I" } : MethodName) prog_2_method_23_code (2 : Nat) (Option.some FieldType.int)) ∈ lw_tbl := List.mem_of_getElem? (i := 760) rfl
set_option maxRecDepth 20000 in
theorem mw_711 : (Cond.methodLink "PolicyCompiler" (108 : Nat) ({ cls := "PolicyCompiler$Slot", name := "printout", desc := "()LPolicyCompiler$Printout;" } : MethodName)) ∈ lw_tbl := List.mem_of_getElem? (i := 761) (by decide +kernel)
set_option maxRecDepth 20000 in
theorem mw_712 : (Cond.instanceMethod ({ cls := "PolicyCompiler$Slot", name := "printout", desc := "()LPolicyCompiler$Printout;" } : MethodName)) ∈ lw_tbl := List.mem_of_getElem? (i := 762) (by decide +kernel)
set_option maxRecDepth 20000 in
theorem mw_713 : (Cond.selects "PolicyCompiler$Slot" ({ cls := "PolicyCompiler$Slot", name := "printout", desc := "()LPolicyCompiler$Printout;" } : MethodName) ({ cls := "PolicyCompiler$Slot", name := "printout", desc := "()LPolicyCompiler$Printout;" } : MethodName)) ∈ lw_tbl := List.mem_of_getElem? (i := 763) (by decide +kernel)
set_option maxRecDepth 20000 in
theorem mw_714 : (Cond.code ({ cls := "PolicyCompiler$Slot", name := "printout", desc := "()LPolicyCompiler$Printout;" } : MethodName) prog_9_method_5_code (1 : Nat) (Option.some (FieldType.object "PolicyCompiler$Printout"))) ∈ lw_tbl := List.mem_of_getElem? (i := 764) rfl
set_option maxRecDepth 20000 in
theorem mw_715 : (Cond.methodLink "PolicyCompiler" (112 : Nat) ({ cls := "PolicyCompiler$Printout", name := "byteCount", desc := "()I" } : MethodName)) ∈ lw_tbl := List.mem_of_getElem? (i := 765) (by decide +kernel)
set_option maxRecDepth 20000 in
theorem mw_716 : (Cond.instanceMethod ({ cls := "PolicyCompiler$Printout", name := "byteCount", desc := "()I" } : MethodName)) ∈ lw_tbl := List.mem_of_getElem? (i := 766) (by decide +kernel)
set_option maxRecDepth 20000 in
theorem mw_717 : (Cond.selects "PolicyCompiler$Printout" ({ cls := "PolicyCompiler$Printout", name := "byteCount", desc := "()I" } : MethodName) ({ cls := "PolicyCompiler$Printout", name := "byteCount", desc := "()I" } : MethodName)) ∈ lw_tbl := List.mem_of_getElem? (i := 767) (by decide +kernel)
set_option maxRecDepth 20000 in
theorem mw_718 : (Cond.code ({ cls := "PolicyCompiler$Printout", name := "byteCount", desc := "()I" } : MethodName) prog_7_method_2_code (1 : Nat) (Option.some FieldType.int)) ∈ lw_tbl := List.mem_of_getElem? (i := 768) rfl
set_option maxRecDepth 20000 in
theorem mw_719 : (Cond.methodLink "PolicyCompiler" (117 : Nat) ({ cls := "PolicyCompiler$Printout", name := "byteAt", desc := "(I)I" } : MethodName)) ∈ lw_tbl := List.mem_of_getElem? (i := 769) (by decide +kernel)
set_option maxRecDepth 20000 in
theorem mw_720 : (Cond.instanceMethod ({ cls := "PolicyCompiler$Printout", name := "byteAt", desc := "(I)I" } : MethodName)) ∈ lw_tbl := List.mem_of_getElem? (i := 770) (by decide +kernel)
set_option maxRecDepth 20000 in
theorem mw_721 : (Cond.selects "PolicyCompiler$Printout" ({ cls := "PolicyCompiler$Printout", name := "byteAt", desc := "(I)I" } : MethodName) ({ cls := "PolicyCompiler$Printout", name := "byteAt", desc := "(I)I" } : MethodName)) ∈ lw_tbl := List.mem_of_getElem? (i := 771) (by decide +kernel)
set_option maxRecDepth 20000 in
theorem mw_722 : (Cond.code ({ cls := "PolicyCompiler$Printout", name := "byteAt", desc := "(I)I" } : MethodName) prog_7_method_3_code (2 : Nat) (Option.some FieldType.int)) ∈ lw_tbl := List.mem_of_getElem? (i := 772) rfl
set_option maxRecDepth 20000 in
theorem mw_723 : (Cond.methodLink "PolicyCompilerLaw" (157 : Nat) ({ cls := "PolicyCompilerLaw", name := "isJoined", desc := "(LPolicyCompiler;IIII)Z" } : MethodName)) ∈ lw_tbl := List.mem_of_getElem? (i := 773) (by decide +kernel)
set_option maxRecDepth 20000 in
theorem mw_724 : (Cond.static ({ cls := "PolicyCompilerLaw", name := "isJoined", desc := "(LPolicyCompiler;IIII)Z" } : MethodName)) ∈ lw_tbl := List.mem_of_getElem? (i := 774) (by decide +kernel)
set_option maxRecDepth 20000 in
theorem mw_725 : (Cond.code ({ cls := "PolicyCompilerLaw", name := "isJoined", desc := "(LPolicyCompiler;IIII)Z" } : MethodName) method_9_code (14 : Nat) (Option.some FieldType.boolean)) ∈ lw_tbl := List.mem_of_getElem? (i := 775) rfl
set_option maxRecDepth 20000 in
theorem mw_726 : (Cond.methodLink "PolicyCompilerLaw" (54 : Nat) ({ cls := "PolicyCompiler", name := "outputs", desc := "(II)J" } : MethodName)) ∈ lw_tbl := List.mem_of_getElem? (i := 776) (by decide +kernel)
set_option maxRecDepth 20000 in
theorem mw_727 : (Cond.instanceMethod ({ cls := "PolicyCompiler", name := "outputs", desc := "(II)J" } : MethodName)) ∈ lw_tbl := List.mem_of_getElem? (i := 777) (by decide +kernel)
set_option maxRecDepth 20000 in
theorem mw_728 : (Cond.selects "PolicyCompiler" ({ cls := "PolicyCompiler", name := "outputs", desc := "(II)J" } : MethodName) ({ cls := "PolicyCompiler", name := "outputs", desc := "(II)J" } : MethodName)) ∈ lw_tbl := List.mem_of_getElem? (i := 778) (by decide +kernel)
set_option maxRecDepth 20000 in
theorem mw_729 : (Cond.code ({ cls := "PolicyCompiler", name := "outputs", desc := "(II)J" } : MethodName) prog_1_method_10_code (3 : Nat) (Option.some FieldType.long)) ∈ lw_tbl := List.mem_of_getElem? (i := 779) rfl
set_option maxRecDepth 20000 in
theorem mw_730 : (Cond.methodLink "PolicyCompiler" (120 : Nat) ({ cls := "PolicyCompiler", name := "isPacket", desc := "(I)Z" } : MethodName)) ∈ lw_tbl := List.mem_of_getElem? (i := 780) (by decide +kernel)
set_option maxRecDepth 20000 in
theorem mw_731 : (Cond.methodLink "PolicyCompiler" (123 : Nat) ({ cls := "PolicyCompiler$Slot", name := "relation", desc := "()LPolicyCompiler$Relation;" } : MethodName)) ∈ lw_tbl := List.mem_of_getElem? (i := 781) (by decide +kernel)
set_option maxRecDepth 20000 in
theorem mw_732 : (Cond.instanceMethod ({ cls := "PolicyCompiler$Slot", name := "relation", desc := "()LPolicyCompiler$Relation;" } : MethodName)) ∈ lw_tbl := List.mem_of_getElem? (i := 782) (by decide +kernel)
set_option maxRecDepth 20000 in
theorem mw_733 : (Cond.selects "PolicyCompiler$Slot" ({ cls := "PolicyCompiler$Slot", name := "relation", desc := "()LPolicyCompiler$Relation;" } : MethodName) ({ cls := "PolicyCompiler$Slot", name := "relation", desc := "()LPolicyCompiler$Relation;" } : MethodName)) ∈ lw_tbl := List.mem_of_getElem? (i := 783) (by decide +kernel)
set_option maxRecDepth 20000 in
theorem mw_734 : (Cond.code ({ cls := "PolicyCompiler$Slot", name := "relation", desc := "()LPolicyCompiler$Relation;" } : MethodName) prog_9_method_6_code (1 : Nat) (Option.some (FieldType.object "PolicyCompiler$Relation"))) ∈ lw_tbl := List.mem_of_getElem? (i := 784) rfl
set_option maxRecDepth 20000 in
theorem mw_735 : (Cond.methodLink "PolicyCompiler" (127 : Nat) ({ cls := "PolicyCompiler$Relation", name := "imageOf", desc := "(I)J" } : MethodName)) ∈ lw_tbl := List.mem_of_getElem? (i := 785) (by decide +kernel)
set_option maxRecDepth 20000 in
theorem mw_736 : (Cond.methodLink "PolicyCompilerLaw" (161 : Nat) ({ cls := "PolicyCompilerLaw", name := "isChanged", desc := "(LPolicyCompiler;II)Z" } : MethodName)) ∈ lw_tbl := List.mem_of_getElem? (i := 786) (by decide +kernel)
set_option maxRecDepth 20000 in
theorem mw_737 : (Cond.static ({ cls := "PolicyCompilerLaw", name := "isChanged", desc := "(LPolicyCompiler;II)Z" } : MethodName)) ∈ lw_tbl := List.mem_of_getElem? (i := 787) (by decide +kernel)
set_option maxRecDepth 20000 in
theorem mw_738 : (Cond.code ({ cls := "PolicyCompilerLaw", name := "isChanged", desc := "(LPolicyCompiler;II)Z" } : MethodName) method_10_code (14 : Nat) (Option.some FieldType.boolean)) ∈ lw_tbl := List.mem_of_getElem? (i := 788) rfl
set_option maxRecDepth 20000 in
theorem mw_739 : (Cond.constantLong "PolicyCompilerLaw" (69 : Nat) (-1 : Int64)) ∈ lw_tbl := List.mem_of_getElem? (i := 789) (by decide +kernel)
set_option maxRecDepth 20000 in
theorem mw_740 : (Cond.methodLink "PolicyCompilerLaw" (71 : Nat) ({ cls := "PolicyCompiler", name := "rounds", desc := "(I)I" } : MethodName)) ∈ lw_tbl := List.mem_of_getElem? (i := 790) (by decide +kernel)
set_option maxRecDepth 20000 in
theorem mw_741 : (Cond.instanceMethod ({ cls := "PolicyCompiler", name := "rounds", desc := "(I)I" } : MethodName)) ∈ lw_tbl := List.mem_of_getElem? (i := 791) (by decide +kernel)
set_option maxRecDepth 20000 in
theorem mw_742 : (Cond.selects "PolicyCompiler" ({ cls := "PolicyCompiler", name := "rounds", desc := "(I)I" } : MethodName) ({ cls := "PolicyCompiler", name := "rounds", desc := "(I)I" } : MethodName)) ∈ lw_tbl := List.mem_of_getElem? (i := 792) (by decide +kernel)
set_option maxRecDepth 20000 in
theorem mw_743 : (Cond.code ({ cls := "PolicyCompiler", name := "rounds", desc := "(I)I" } : MethodName) prog_1_method_13_code (2 : Nat) (Option.some FieldType.int)) ∈ lw_tbl := List.mem_of_getElem? (i := 793) rfl
set_option maxRecDepth 20000 in
theorem mw_744 : (Cond.methodLink "PolicyCompiler" (140 : Nat) ({ cls := "PolicyCompiler$Relation", name := "mostSteps", desc := "()I" } : MethodName)) ∈ lw_tbl := List.mem_of_getElem? (i := 794) (by decide +kernel)
set_option maxRecDepth 20000 in
theorem mw_745 : (Cond.instanceMethod ({ cls := "PolicyCompiler$Relation", name := "mostSteps", desc := "()I" } : MethodName)) ∈ lw_tbl := List.mem_of_getElem? (i := 795) (by decide +kernel)
set_option maxRecDepth 20000 in
theorem mw_746 : (Cond.selects "PolicyCompiler$Relation" ({ cls := "PolicyCompiler$Relation", name := "mostSteps", desc := "()I" } : MethodName) ({ cls := "PolicyCompiler$Relation", name := "mostSteps", desc := "()I" } : MethodName)) ∈ lw_tbl := List.mem_of_getElem? (i := 796) (by decide +kernel)
set_option maxRecDepth 20000 in
theorem mw_747 : (Cond.code ({ cls := "PolicyCompiler$Relation", name := "mostSteps", desc := "()I" } : MethodName) prog_8_method_6_code (3 : Nat) (Option.some FieldType.int)) ∈ lw_tbl := List.mem_of_getElem? (i := 797) rfl
set_option maxRecDepth 20000 in
theorem mw_748 : (Cond.methodLink "PolicyCompiler$Relation" (35 : Nat) ({ cls := "PolicyCompiler$Relation", name := "stepsFrom", desc := "(I)I" } : MethodName)) ∈ lw_tbl := List.mem_of_getElem? (i := 798) (by decide +kernel)
set_option maxRecDepth 20000 in
theorem mw_750 : (Cond.instanceMethod ({ cls := "PolicyCompiler$Relation", name := "stepsFrom", desc := "(I)I" } : MethodName)) ∈ lw_tbl := List.mem_of_getElem? (i := 800) (by decide +kernel)
set_option maxRecDepth 20000 in
theorem mw_751 : (Cond.code ({ cls := "PolicyCompiler$Relation", name := "stepsFrom", desc := "(I)I" } : MethodName) prog_8_method_7_code (8 : Nat) (Option.some FieldType.int)) ∈ lw_tbl := List.mem_of_getElem? (i := 801) rfl
set_option maxRecDepth 20000 in
theorem mw_752 : (Cond.methodLinkNest "PolicyCompiler$Relation" (19 : Nat) ({ cls := "PolicyCompiler", name := "alone", desc := "(I)J" } : MethodName) "PolicyCompiler") ∈ lw_tbl := List.mem_of_getElem? (i := 802) (by decide +kernel)
set_option maxRecDepth 20000 in
theorem mw_753 : (Cond.methodLinkNest "PolicyCompiler$Relation" (39 : Nat) ({ cls := "PolicyCompiler", name := "imageOfSet", desc := "([JIJ)J" } : MethodName) "PolicyCompiler") ∈ lw_tbl := List.mem_of_getElem? (i := 803) (by decide +kernel)
set_option maxRecDepth 20000 in
theorem mw_754 : (Cond.constantLong "PolicyCompiler$Relation" (43 : Nat) (-1 : Int64)) ∈ lw_tbl := List.mem_of_getElem? (i := 804) (by decide +kernel)
set_option maxRecDepth 20000 in
theorem mw_755 : (Cond.methodLink "PolicyCompiler$Relation" (29 : Nat) ({ cls := "java/lang/Math", name := "max", desc := "(II)I" } : MethodName)) ∈ lw_tbl := List.mem_of_getElem? (i := 805) (by decide +kernel)
set_option maxRecDepth 20000 in
theorem mw_756 : (Cond.methodLink "PolicyCompilerLaw" (133 : Nat) ({ cls := "PolicyCompilerLaw", name := "isCompared", desc := "(LPolicyCompiler;II)Z" } : MethodName)) ∈ lw_tbl := List.mem_of_getElem? (i := 806) (by decide +kernel)
set_option maxRecDepth 20000 in
theorem mw_757 : (Cond.static ({ cls := "PolicyCompilerLaw", name := "isCompared", desc := "(LPolicyCompiler;II)Z" } : MethodName)) ∈ lw_tbl := List.mem_of_getElem? (i := 807) (by decide +kernel)
set_option maxRecDepth 20000 in
theorem mw_758 : (Cond.code ({ cls := "PolicyCompilerLaw", name := "isCompared", desc := "(LPolicyCompiler;II)Z" } : MethodName) method_11_code (12 : Nat) (Option.some FieldType.boolean)) ∈ lw_tbl := List.mem_of_getElem? (i := 808) rfl
set_option maxRecDepth 20000 in
theorem mw_759 : (Cond.methodLink "PolicyCompilerLaw" (74 : Nat) ({ cls := "PolicyCompiler", name := "compare", desc := "(II)I" } : MethodName)) ∈ lw_tbl := List.mem_of_getElem? (i := 809) (by decide +kernel)
set_option maxRecDepth 20000 in
theorem mw_760 : (Cond.instanceMethod ({ cls := "PolicyCompiler", name := "compare", desc := "(II)I" } : MethodName)) ∈ lw_tbl := List.mem_of_getElem? (i := 810) (by decide +kernel)
set_option maxRecDepth 20000 in
theorem mw_761 : (Cond.selects "PolicyCompiler" ({ cls := "PolicyCompiler", name := "compare", desc := "(II)I" } : MethodName) ({ cls := "PolicyCompiler", name := "compare", desc := "(II)I" } : MethodName)) ∈ lw_tbl := List.mem_of_getElem? (i := 811) (by decide +kernel)
set_option maxRecDepth 20000 in
theorem mw_762 : (Cond.code ({ cls := "PolicyCompiler", name := "compare", desc := "(II)I" } : MethodName) prog_1_method_14_code (3 : Nat) (Option.some FieldType.int)) ∈ lw_tbl := List.mem_of_getElem? (i := 812) rfl
set_option maxRecDepth 20000 in
theorem mw_763 : (Cond.methodLink "PolicyCompiler" (143 : Nat) ({ cls := "PolicyCompiler$Relation", name := "orderTo", desc := "(LPolicyCompiler$Relation;)I" } : MethodName)) ∈ lw_tbl := List.mem_of_getElem? (i := 813) (by decide +kernel)
set_option maxRecDepth 20000 in
theorem mw_764 : (Cond.instanceMethod ({ cls := "PolicyCompiler$Relation", name := "orderTo", desc := "(LPolicyCompiler$Relation;)I" } : MethodName)) ∈ lw_tbl := List.mem_of_getElem? (i := 814) (by decide +kernel)
set_option maxRecDepth 20000 in
theorem mw_765 : (Cond.selects "PolicyCompiler$Relation" ({ cls := "PolicyCompiler$Relation", name := "orderTo", desc := "(LPolicyCompiler$Relation;)I" } : MethodName) ({ cls := "PolicyCompiler$Relation", name := "orderTo", desc := "(LPolicyCompiler$Relation;)I" } : MethodName)) ∈ lw_tbl := List.mem_of_getElem? (i := 815) (by decide +kernel)
set_option maxRecDepth 20000 in
theorem mw_766 : (Cond.code ({ cls := "PolicyCompiler$Relation", name := "orderTo", desc := "(LPolicyCompiler$Relation;)I" } : MethodName) prog_8_method_8_code (5 : Nat) (Option.some FieldType.int)) ∈ lw_tbl := List.mem_of_getElem? (i := 816) rfl
set_option maxRecDepth 20000 in
theorem mw_767 : (Cond.methodLink "PolicyCompilerLaw" (77 : Nat) ({ cls := "PolicyCompiler", name := "witness", desc := "(II)I" } : MethodName)) ∈ lw_tbl := List.mem_of_getElem? (i := 817) (by decide +kernel)
set_option maxRecDepth 20000 in
theorem mw_768 : (Cond.instanceMethod ({ cls := "PolicyCompiler", name := "witness", desc := "(II)I" } : MethodName)) ∈ lw_tbl := List.mem_of_getElem? (i := 818) (by decide +kernel)
set_option maxRecDepth 20000 in
theorem mw_769 : (Cond.selects "PolicyCompiler" ({ cls := "PolicyCompiler", name := "witness", desc := "(II)I" } : MethodName) ({ cls := "PolicyCompiler", name := "witness", desc := "(II)I" } : MethodName)) ∈ lw_tbl := List.mem_of_getElem? (i := 819) (by decide +kernel)
set_option maxRecDepth 20000 in
theorem mw_770 : (Cond.code ({ cls := "PolicyCompiler", name := "witness", desc := "(II)I" } : MethodName) prog_1_method_15_code (3 : Nat) (Option.some FieldType.int)) ∈ lw_tbl := List.mem_of_getElem? (i := 820) rfl
set_option maxRecDepth 20000 in
theorem mw_771 : (Cond.methodLink "PolicyCompiler" (147 : Nat) ({ cls := "PolicyCompiler$Relation", name := "firstUnlike", desc := "(LPolicyCompiler$Relation;)I" } : MethodName)) ∈ lw_tbl := List.mem_of_getElem? (i := 821) (by decide +kernel)
set_option maxRecDepth 20000 in
theorem mw_772 : (Cond.instanceMethod ({ cls := "PolicyCompiler$Relation", name := "firstUnlike", desc := "(LPolicyCompiler$Relation;)I" } : MethodName)) ∈ lw_tbl := List.mem_of_getElem? (i := 822) (by decide +kernel)
set_option maxRecDepth 20000 in
theorem mw_773 : (Cond.selects "PolicyCompiler$Relation" ({ cls := "PolicyCompiler$Relation", name := "firstUnlike", desc := "(LPolicyCompiler$Relation;)I" } : MethodName) ({ cls := "PolicyCompiler$Relation", name := "firstUnlike", desc := "(LPolicyCompiler$Relation;)I" } : MethodName)) ∈ lw_tbl := List.mem_of_getElem? (i := 823) (by decide +kernel)
set_option maxRecDepth 20000 in
theorem mw_774 : (Cond.code ({ cls := "PolicyCompiler$Relation", name := "firstUnlike", desc := "(LPolicyCompiler$Relation;)I" } : MethodName) prog_8_method_9_code (3 : Nat) (Option.some FieldType.int)) ∈ lw_tbl := List.mem_of_getElem? (i := 824) rfl
set_option maxRecDepth 20000 in
theorem mw_775 : (Cond.methodLink "PolicyCompilerLaw" (80 : Nat) ({ cls := "PolicyCompiler", name := "difference", desc := "(II)I" } : MethodName)) ∈ lw_tbl := List.mem_of_getElem? (i := 825) (by decide +kernel)
set_option maxRecDepth 20000 in
theorem mw_776 : (Cond.instanceMethod ({ cls := "PolicyCompiler", name := "difference", desc := "(II)I" } : MethodName)) ∈ lw_tbl := List.mem_of_getElem? (i := 826) (by decide +kernel)
set_option maxRecDepth 20000 in
theorem mw_777 : (Cond.selects "PolicyCompiler" ({ cls := "PolicyCompiler", name := "difference", desc := "(II)I" } : MethodName) ({ cls := "PolicyCompiler", name := "difference", desc := "(II)I" } : MethodName)) ∈ lw_tbl := List.mem_of_getElem? (i := 827) (by decide +kernel)
set_option maxRecDepth 20000 in
theorem mw_778 : (Cond.code ({ cls := "PolicyCompiler", name := "difference", desc := "(II)I" } : MethodName) prog_1_method_16_code (6 : Nat) (Option.some FieldType.int)) ∈ lw_tbl := List.mem_of_getElem? (i := 828) rfl
set_option maxRecDepth 20000 in
theorem mw_779 : (Cond.methodLink "PolicyCompilerLaw" (130 : Nat) ({ cls := "PolicyCompilerLaw", name := "isHit", desc := "(LPolicyCompiler;II)Z" } : MethodName)) ∈ lw_tbl := List.mem_of_getElem? (i := 829) (by decide +kernel)
set_option maxRecDepth 20000 in
theorem mw_780 : (Cond.static ({ cls := "PolicyCompilerLaw", name := "isHit", desc := "(LPolicyCompiler;II)Z" } : MethodName)) ∈ lw_tbl := List.mem_of_getElem? (i := 830) (by decide +kernel)
set_option maxRecDepth 20000 in
theorem mw_781 : (Cond.code ({ cls := "PolicyCompilerLaw", name := "isHit", desc := "(LPolicyCompiler;II)Z" } : MethodName) method_12_code (17 : Nat) (Option.some FieldType.boolean)) ∈ lw_tbl := List.mem_of_getElem? (i := 831) rfl
set_option maxRecDepth 20000 in
theorem mw_782 : (Cond.methodLink "PolicyCompilerLaw" (83 : Nat) ({ cls := "PolicyCompiler", name := "rows", desc := "(I)I" } : MethodName)) ∈ lw_tbl := List.mem_of_getElem? (i := 832) (by decide +kernel)
set_option maxRecDepth 20000 in
theorem mw_783 : (Cond.instanceMethod ({ cls := "PolicyCompiler", name := "rows", desc := "(I)I" } : MethodName)) ∈ lw_tbl := List.mem_of_getElem? (i := 833) (by decide +kernel)
set_option maxRecDepth 20000 in
theorem mw_784 : (Cond.selects "PolicyCompiler" ({ cls := "PolicyCompiler", name := "rows", desc := "(I)I" } : MethodName) ({ cls := "PolicyCompiler", name := "rows", desc := "(I)I" } : MethodName)) ∈ lw_tbl := List.mem_of_getElem? (i := 834) (by decide +kernel)
set_option maxRecDepth 20000 in
theorem mw_785 : (Cond.code ({ cls := "PolicyCompiler", name := "rows", desc := "(I)I" } : MethodName) prog_1_method_21_code (2 : Nat) (Option.some FieldType.int)) ∈ lw_tbl := List.mem_of_getElem? (i := 835) rfl
set_option maxRecDepth 20000 in
theorem mw_786 : (Cond.methodLink "PolicyCompiler" (173 : Nat) ({ cls := "PolicyCompiler$Slot", name := "table", desc := "()LPolicyCompiler$Table;" } : MethodName)) ∈ lw_tbl := List.mem_of_getElem? (i := 836) (by decide +kernel)
set_option maxRecDepth 20000 in
theorem mw_787 : (Cond.instanceMethod ({ cls := "PolicyCompiler$Slot", name := "table", desc := "()LPolicyCompiler$Table;" } : MethodName)) ∈ lw_tbl := List.mem_of_getElem? (i := 837) (by decide +kernel)
set_option maxRecDepth 20000 in
theorem mw_788 : (Cond.selects "PolicyCompiler$Slot" ({ cls := "PolicyCompiler$Slot", name := "table", desc := "()LPolicyCompiler$Table;" } : MethodName) ({ cls := "PolicyCompiler$Slot", name := "table", desc := "()LPolicyCompiler$Table;" } : MethodName)) ∈ lw_tbl := List.mem_of_getElem? (i := 838) (by decide +kernel)
set_option maxRecDepth 20000 in
theorem mw_789 : (Cond.code ({ cls := "PolicyCompiler$Slot", name := "table", desc := "()LPolicyCompiler$Table;" } : MethodName) prog_9_method_8_code (1 : Nat) (Option.some (FieldType.object "PolicyCompiler$Table"))) ∈ lw_tbl := List.mem_of_getElem? (i := 839) rfl
set_option maxRecDepth 20000 in
theorem mw_790 : (Cond.methodLink "PolicyCompiler" (177 : Nat) ({ cls := "PolicyCompiler$Table", name := "rowTotal", desc := "()I" } : MethodName)) ∈ lw_tbl := List.mem_of_getElem? (i := 840) (by decide +kernel)
set_option maxRecDepth 20000 in
theorem mw_791 : (Cond.instanceMethod ({ cls := "PolicyCompiler$Table", name := "rowTotal", desc := "()I" } : MethodName)) ∈ lw_tbl := List.mem_of_getElem? (i := 841) (by decide +kernel)
set_option maxRecDepth 20000 in
theorem mw_792 : (Cond.selects "PolicyCompiler$Table" ({ cls := "PolicyCompiler$Table", name := "rowTotal", desc := "()I" } : MethodName) ({ cls := "PolicyCompiler$Table", name := "rowTotal", desc := "()I" } : MethodName)) ∈ lw_tbl := List.mem_of_getElem? (i := 842) (by decide +kernel)
set_option maxRecDepth 20000 in
theorem mw_793 : (Cond.code ({ cls := "PolicyCompiler$Table", name := "rowTotal", desc := "()I" } : MethodName) prog_10_method_2_code (1 : Nat) (Option.some FieldType.int)) ∈ lw_tbl := List.mem_of_getElem? (i := 843) rfl
set_option maxRecDepth 20000 in
theorem mw_794 : (Cond.methodLink "PolicyCompilerLaw" (86 : Nat) ({ cls := "PolicyCompiler", name := "hit", desc := "(II)I" } : MethodName)) ∈ lw_tbl := List.mem_of_getElem? (i := 844) (by decide +kernel)
set_option maxRecDepth 20000 in
theorem mw_795 : (Cond.instanceMethod ({ cls := "PolicyCompiler", name := "hit", desc := "(II)I" } : MethodName)) ∈ lw_tbl := List.mem_of_getElem? (i := 845) (by decide +kernel)
set_option maxRecDepth 20000 in
theorem mw_796 : (Cond.selects "PolicyCompiler" ({ cls := "PolicyCompiler", name := "hit", desc := "(II)I" } : MethodName) ({ cls := "PolicyCompiler", name := "hit", desc := "(II)I" } : MethodName)) ∈ lw_tbl := List.mem_of_getElem? (i := 846) (by decide +kernel)
set_option maxRecDepth 20000 in
theorem mw_797 : (Cond.code ({ cls := "PolicyCompiler", name := "hit", desc := "(II)I" } : MethodName) prog_1_method_24_code (3 : Nat) (Option.some FieldType.int)) ∈ lw_tbl := List.mem_of_getElem? (i := 847) rfl
set_option maxRecDepth 20000 in
theorem mw_798 : (Cond.methodLink "PolicyCompiler" (201 : Nat) ({ cls := "PolicyCompiler$Table", name := "firstRowFor", desc := "(I)I" } : MethodName)) ∈ lw_tbl := List.mem_of_getElem? (i := 848) (by decide +kernel)
set_option maxRecDepth 20000 in
theorem mw_799 : (Cond.instanceMethod ({ cls := "PolicyCompiler$Table", name := "firstRowFor", desc := "(I)I" } : MethodName)) ∈ lw_tbl := List.mem_of_getElem? (i := 849) (by decide +kernel)
set_option maxRecDepth 20000 in
theorem mw_800 : (Cond.selects "PolicyCompiler$Table" ({ cls := "PolicyCompiler$Table", name := "firstRowFor", desc := "(I)I" } : MethodName) ({ cls := "PolicyCompiler$Table", name := "firstRowFor", desc := "(I)I" } : MethodName)) ∈ lw_tbl := List.mem_of_getElem? (i := 850) (by decide +kernel)
set_option maxRecDepth 20000 in
theorem mw_801 : (Cond.code ({ cls := "PolicyCompiler$Table", name := "firstRowFor", desc := "(I)I" } : MethodName) prog_10_method_9_code (3 : Nat) (Option.some FieldType.int)) ∈ lw_tbl := List.mem_of_getElem? (i := 851) rfl
set_option maxRecDepth 20000 in
theorem mw_802 : (Cond.methodLink "PolicyCompiler$Table" (57 : Nat) ({ cls := "PolicyCompiler$Table", name := "meets", desc := "(II)Z" } : MethodName)) ∈ lw_tbl := List.mem_of_getElem? (i := 852) (by decide +kernel)
set_option maxRecDepth 20000 in
theorem mw_803 : (Cond.static ({ cls := "PolicyCompiler$Table", name := "meets", desc := "(II)Z" } : MethodName)) ∈ lw_tbl := List.mem_of_getElem? (i := 853) (by decide +kernel)
set_option maxRecDepth 20000 in
theorem mw_804 : (Cond.code ({ cls := "PolicyCompiler$Table", name := "meets", desc := "(II)Z" } : MethodName) prog_10_method_10_code (4 : Nat) (Option.some FieldType.boolean)) ∈ lw_tbl := List.mem_of_getElem? (i := 854) rfl
set_option maxRecDepth 20000 in
theorem mw_805 : (Cond.methodLinkNest "PolicyCompiler$Table" (61 : Nat) ({ cls := "PolicyCompiler", name := "entryOf", desc := "(II)I" } : MethodName) "PolicyCompiler") ∈ lw_tbl := List.mem_of_getElem? (i := 855) (by decide +kernel)
set_option maxRecDepth 20000 in
theorem mw_806 : (Cond.static ({ cls := "PolicyCompiler", name := "entryOf", desc := "(II)I" } : MethodName)) ∈ lw_tbl := List.mem_of_getElem? (i := 856) (by decide +kernel)
set_option maxRecDepth 20000 in
theorem mw_807 : (Cond.code ({ cls := "PolicyCompiler", name := "entryOf", desc := "(II)I" } : MethodName) prog_1_method_45_code (3 : Nat) (Option.some FieldType.int)) ∈ lw_tbl := List.mem_of_getElem? (i := 857) rfl
set_option maxRecDepth 20000 in
theorem mw_808 : (Cond.methodLinkNest "PolicyCompiler$Table" (64 : Nat) ({ cls := "PolicyCompiler", name := "valueOf", desc := "(II)I" } : MethodName) "PolicyCompiler") ∈ lw_tbl := List.mem_of_getElem? (i := 858) (by decide +kernel)
set_option maxRecDepth 20000 in
theorem mw_809 : (Cond.methodLink "PolicyCompilerLaw" (89 : Nat) ({ cls := "PolicyCompiler", name := "action", desc := "(III)I" } : MethodName)) ∈ lw_tbl := List.mem_of_getElem? (i := 859) (by decide +kernel)
set_option maxRecDepth 20000 in
theorem mw_810 : (Cond.instanceMethod ({ cls := "PolicyCompiler", name := "action", desc := "(III)I" } : MethodName)) ∈ lw_tbl := List.mem_of_getElem? (i := 860) (by decide +kernel)
set_option maxRecDepth 20000 in
theorem mw_811 : (Cond.selects "PolicyCompiler" ({ cls := "PolicyCompiler", name := "action", desc := "(III)I" } : MethodName) ({ cls := "PolicyCompiler", name := "action", desc := "(III)I" } : MethodName)) ∈ lw_tbl := List.mem_of_getElem? (i := 861) (by decide +kernel)
set_option maxRecDepth 20000 in
theorem mw_812 : (Cond.code ({ cls := "PolicyCompiler", name := "action", desc := "(III)I" } : MethodName) prog_1_method_23_code (7 : Nat) (Option.some FieldType.int)) ∈ lw_tbl := List.mem_of_getElem? (i := 862) rfl
set_option maxRecDepth 20000 in
theorem mw_813 : (Cond.methodLink "PolicyCompiler" (182 : Nat) ({ cls := "PolicyCompiler$Table", name := "hasRow", desc := "(I)Z" } : MethodName)) ∈ lw_tbl := List.mem_of_getElem? (i := 863) (by decide +kernel)
set_option maxRecDepth 20000 in
theorem mw_814 : (Cond.instanceMethod ({ cls := "PolicyCompiler$Table", name := "hasRow", desc := "(I)Z" } : MethodName)) ∈ lw_tbl := List.mem_of_getElem? (i := 864) (by decide +kernel)
set_option maxRecDepth 20000 in
theorem mw_815 : (Cond.selects "PolicyCompiler$Table" ({ cls := "PolicyCompiler$Table", name := "hasRow", desc := "(I)Z" } : MethodName) ({ cls := "PolicyCompiler$Table", name := "hasRow", desc := "(I)Z" } : MethodName)) ∈ lw_tbl := List.mem_of_getElem? (i := 865) (by decide +kernel)
set_option maxRecDepth 20000 in
theorem mw_816 : (Cond.code ({ cls := "PolicyCompiler$Table", name := "hasRow", desc := "(I)Z" } : MethodName) prog_10_method_3_code (2 : Nat) (Option.some FieldType.boolean)) ∈ lw_tbl := List.mem_of_getElem? (i := 866) rfl
set_option maxRecDepth 20000 in
theorem mw_817 : (Cond.methodLink "PolicyCompiler" (154 : Nat) ({ cls := "PolicyCompiler$Slot", name := "diagram", desc := "()LPolicyCompiler$Diagram;" } : MethodName)) ∈ lw_tbl := List.mem_of_getElem? (i := 867) (by decide +kernel)
set_option maxRecDepth 20000 in
theorem mw_818 : (Cond.instanceMethod ({ cls := "PolicyCompiler$Slot", name := "diagram", desc := "()LPolicyCompiler$Diagram;" } : MethodName)) ∈ lw_tbl := List.mem_of_getElem? (i := 868) (by decide +kernel)
set_option maxRecDepth 20000 in
theorem mw_819 : (Cond.selects "PolicyCompiler$Slot" ({ cls := "PolicyCompiler$Slot", name := "diagram", desc := "()LPolicyCompiler$Diagram;" } : MethodName) ({ cls := "PolicyCompiler$Slot", name := "diagram", desc := "()LPolicyCompiler$Diagram;" } : MethodName)) ∈ lw_tbl := List.mem_of_getElem? (i := 869) (by decide +kernel)
set_option maxRecDepth 20000 in
theorem mw_820 : (Cond.code ({ cls := "PolicyCompiler$Slot", name := "diagram", desc := "()LPolicyCompiler$Diagram;" } : MethodName) prog_9_method_7_code (1 : Nat) (Option.some (FieldType.object "PolicyCompiler$Diagram"))) ∈ lw_tbl := List.mem_of_getElem? (i := 870) rfl
set_option maxRecDepth 20000 in
theorem mw_821 : (Cond.methodLink "PolicyCompiler" (192 : Nat) ({ cls := "PolicyCompiler$Table", name := "leafOf", desc := "(I)I" } : MethodName)) ∈ lw_tbl := List.mem_of_getElem? (i := 871) (by decide +kernel)
set_option maxRecDepth 20000 in
theorem mw_822 : (Cond.instanceMethod ({ cls := "PolicyCompiler$Table", name := "leafOf", desc := "(I)I" } : MethodName)) ∈ lw_tbl := List.mem_of_getElem? (i := 872) (by decide +kernel)
set_option maxRecDepth 20000 in
theorem mw_823 : (Cond.selects "PolicyCompiler$Table" ({ cls := "PolicyCompiler$Table", name := "leafOf", desc := "(I)I" } : MethodName) ({ cls := "PolicyCompiler$Table", name := "leafOf", desc := "(I)I" } : MethodName)) ∈ lw_tbl := List.mem_of_getElem? (i := 873) (by decide +kernel)
set_option maxRecDepth 20000 in
theorem mw_824 : (Cond.code ({ cls := "PolicyCompiler$Table", name := "leafOf", desc := "(I)I" } : MethodName) prog_10_method_5_code (2 : Nat) (Option.some FieldType.int)) ∈ lw_tbl := List.mem_of_getElem? (i := 874) rfl
set_option maxRecDepth 20000 in
theorem mw_825 : (Cond.methodLink "PolicyCompiler" (195 : Nat) ({ cls := "PolicyCompiler$Diagram", name := "actionTotal", desc := "(I)I" } : MethodName)) ∈ lw_tbl := List.mem_of_getElem? (i := 875) (by decide +kernel)
set_option maxRecDepth 20000 in
theorem mw_826 : (Cond.methodLink "PolicyCompiler" (198 : Nat) ({ cls := "PolicyCompiler$Diagram", name := "actionAt", desc := "(II)I" } : MethodName)) ∈ lw_tbl := List.mem_of_getElem? (i := 876) (by decide +kernel)
set_option maxRecDepth 20000 in
theorem mw_827 : (Cond.instanceMethod ({ cls := "PolicyCompiler$Diagram", name := "actionAt", desc := "(II)I" } : MethodName)) ∈ lw_tbl := List.mem_of_getElem? (i := 877) (by decide +kernel)
set_option maxRecDepth 20000 in
theorem mw_828 : (Cond.selects "PolicyCompiler$Diagram" ({ cls := "PolicyCompiler$Diagram", name := "actionAt", desc := "(II)I" } : MethodName) ({ cls := "PolicyCompiler$Diagram", name := "actionAt", desc := "(II)I" } : MethodName)) ∈ lw_tbl := List.mem_of_getElem? (i := 878) (by decide +kernel)
set_option maxRecDepth 20000 in
theorem mw_829 : (Cond.code ({ cls := "PolicyCompiler$Diagram", name := "actionAt", desc := "(II)I" } : MethodName) prog_2_method_24_code (5 : Nat) (Option.some FieldType.int)) ∈ lw_tbl := List.mem_of_getElem? (i := 879) rfl
set_option maxRecDepth 20000 in
theorem mw_830 : (Cond.methodLink "PolicyCompiler$Diagram" (113 : Nat) ({ cls := "PolicyCompiler$Diagram", name := "hasAction", desc := "(II)Z" } : MethodName)) ∈ lw_tbl := List.mem_of_getElem? (i := 880) (by decide +kernel)
set_option maxRecDepth 20000 in
theorem mw_831 : (Cond.instanceMethod ({ cls := "PolicyCompiler$Diagram", name := "hasAction", desc := "(II)Z" } : MethodName)) ∈ lw_tbl := List.mem_of_getElem? (i := 881) (by decide +kernel)
set_option maxRecDepth 20000 in
theorem mw_832 : (Cond.selects "PolicyCompiler$Diagram" ({ cls := "PolicyCompiler$Diagram", name := "hasAction", desc := "(II)Z" } : MethodName) ({ cls := "PolicyCompiler$Diagram", name := "hasAction", desc := "(II)Z" } : MethodName)) ∈ lw_tbl := List.mem_of_getElem? (i := 882) (by decide +kernel)
set_option maxRecDepth 20000 in
theorem mw_833 : (Cond.code ({ cls := "PolicyCompiler$Diagram", name := "hasAction", desc := "(II)Z" } : MethodName) prog_2_method_22_code (3 : Nat) (Option.some FieldType.boolean)) ∈ lw_tbl := List.mem_of_getElem? (i := 883) rfl
set_option maxRecDepth 20000 in
theorem mw_834 : (Cond.methodLinkNest "PolicyCompiler$Diagram" (109 : Nat) ({ cls := "PolicyCompiler", name := "holds", desc := "(JI)Z" } : MethodName) "PolicyCompiler") ∈ lw_tbl := List.mem_of_getElem? (i := 884) (by decide +kernel)
set_option maxRecDepth 20000 in
theorem mw_835 : (Cond.methodLink "PolicyCompilerLaw" (92 : Nat) ({ cls := "PolicyCompiler", name := "match", desc := "(III)I" } : MethodName)) ∈ lw_tbl := List.mem_of_getElem? (i := 885) (by decide +kernel)
set_option maxRecDepth 20000 in
theorem mw_836 : (Cond.instanceMethod ({ cls := "PolicyCompiler", name := "match", desc := "(III)I" } : MethodName)) ∈ lw_tbl := List.mem_of_getElem? (i := 886) (by decide +kernel)
set_option maxRecDepth 20000 in
theorem mw_837 : (Cond.selects "PolicyCompiler" ({ cls := "PolicyCompiler", name := "match", desc := "(III)I" } : MethodName) ({ cls := "PolicyCompiler", name := "match", desc := "(III)I" } : MethodName)) ∈ lw_tbl := List.mem_of_getElem? (i := 887) (by decide +kernel)
set_option maxRecDepth 20000 in
theorem mw_838 : (Cond.code ({ cls := "PolicyCompiler", name := "match", desc := "(III)I" } : MethodName) prog_1_method_22_code (5 : Nat) (Option.some FieldType.int)) ∈ lw_tbl := List.mem_of_getElem? (i := 888) rfl
set_option maxRecDepth 20000 in
theorem mw_839 : (Cond.methodLink "PolicyCompiler" (185 : Nat) ({ cls := "PolicyCompiler$Table", name := "demandsOf", desc := "(I)I" } : MethodName)) ∈ lw_tbl := List.mem_of_getElem? (i := 889) (by decide +kernel)
set_option maxRecDepth 20000 in
theorem mw_840 : (Cond.instanceMethod ({ cls := "PolicyCompiler$Table", name := "demandsOf", desc := "(I)I" } : MethodName)) ∈ lw_tbl := List.mem_of_getElem? (i := 890) (by decide +kernel)
set_option maxRecDepth 20000 in
theorem mw_841 : (Cond.selects "PolicyCompiler$Table" ({ cls := "PolicyCompiler$Table", name := "demandsOf", desc := "(I)I" } : MethodName) ({ cls := "PolicyCompiler$Table", name := "demandsOf", desc := "(I)I" } : MethodName)) ∈ lw_tbl := List.mem_of_getElem? (i := 891) (by decide +kernel)
set_option maxRecDepth 20000 in
theorem mw_842 : (Cond.code ({ cls := "PolicyCompiler$Table", name := "demandsOf", desc := "(I)I" } : MethodName) prog_10_method_4_code (2 : Nat) (Option.some FieldType.int)) ∈ lw_tbl := List.mem_of_getElem? (i := 892) rfl
set_option maxRecDepth 20000 in
theorem mw_843 : (Cond.methodLink "PolicyCompiler" (188 : Nat) ({ cls := "PolicyCompiler", name := "entryOf", desc := "(II)I" } : MethodName)) ∈ lw_tbl := List.mem_of_getElem? (i := 893) (by decide +kernel)
set_option maxRecDepth 20000 in
theorem mw_844 : (Cond.methodLink "PolicyCompilerLaw" (95 : Nat) ({ cls := "PolicyCompiler", name := "hits", desc := "(II)I" } : MethodName)) ∈ lw_tbl := List.mem_of_getElem? (i := 894) (by decide +kernel)
set_option maxRecDepth 20000 in
theorem mw_845 : (Cond.instanceMethod ({ cls := "PolicyCompiler", name := "hits", desc := "(II)I" } : MethodName)) ∈ lw_tbl := List.mem_of_getElem? (i := 895) (by decide +kernel)
set_option maxRecDepth 20000 in
theorem mw_846 : (Cond.selects "PolicyCompiler" ({ cls := "PolicyCompiler", name := "hits", desc := "(II)I" } : MethodName) ({ cls := "PolicyCompiler", name := "hits", desc := "(II)I" } : MethodName)) ∈ lw_tbl := List.mem_of_getElem? (i := 896) (by decide +kernel)
set_option maxRecDepth 20000 in
theorem mw_847 : (Cond.code ({ cls := "PolicyCompiler", name := "hits", desc := "(II)I" } : MethodName) prog_1_method_25_code (6 : Nat) (Option.some FieldType.int)) ∈ lw_tbl := List.mem_of_getElem? (i := 897) rfl
set_option maxRecDepth 20000 in
theorem mw_848 : (Cond.methodLink "PolicyCompilerLaw" (126 : Nat) ({ cls := "PolicyCompilerLaw", name := "isDrawn", desc := "(LPolicyCompiler;II)Z" } : MethodName)) ∈ lw_tbl := List.mem_of_getElem? (i := 898) (by decide +kernel)
set_option maxRecDepth 20000 in
theorem mw_849 : (Cond.static ({ cls := "PolicyCompilerLaw", name := "isDrawn", desc := "(LPolicyCompiler;II)Z" } : MethodName)) ∈ lw_tbl := List.mem_of_getElem? (i := 899) (by decide +kernel)
set_option maxRecDepth 20000 in
theorem mw_850 : (Cond.code ({ cls := "PolicyCompilerLaw", name := "isDrawn", desc := "(LPolicyCompiler;II)Z" } : MethodName) method_13_code (10 : Nat) (Option.some FieldType.boolean)) ∈ lw_tbl := List.mem_of_getElem? (i := 900) rfl
set_option maxRecDepth 20000 in
theorem mw_851 : (Cond.methodLink "PolicyCompilerLaw" (98 : Nat) ({ cls := "PolicyCompiler", name := "diagramSize", desc := "(I)I" } : MethodName)) ∈ lw_tbl := List.mem_of_getElem? (i := 901) (by decide +kernel)
set_option maxRecDepth 20000 in
theorem mw_852 : (Cond.instanceMethod ({ cls := "PolicyCompiler", name := "diagramSize", desc := "(I)I" } : MethodName)) ∈ lw_tbl := List.mem_of_getElem? (i := 902) (by decide +kernel)
set_option maxRecDepth 20000 in
theorem mw_853 : (Cond.selects "PolicyCompiler" ({ cls := "PolicyCompiler", name := "diagramSize", desc := "(I)I" } : MethodName) ({ cls := "PolicyCompiler", name := "diagramSize", desc := "(I)I" } : MethodName)) ∈ lw_tbl := List.mem_of_getElem? (i := 903) (by decide +kernel)
set_option maxRecDepth 20000 in
theorem mw_854 : (Cond.code ({ cls := "PolicyCompiler", name := "diagramSize", desc := "(I)I" } : MethodName) prog_1_method_17_code (2 : Nat) (Option.some FieldType.int)) ∈ lw_tbl := List.mem_of_getElem? (i := 904) rfl
set_option maxRecDepth 20000 in
theorem mw_855 : (Cond.methodLink "PolicyCompiler" (158 : Nat) ({ cls := "PolicyCompiler$Diagram", name := "nodeTotal", desc := "()I" } : MethodName)) ∈ lw_tbl := List.mem_of_getElem? (i := 905) (by decide +kernel)
set_option maxRecDepth 20000 in
theorem mw_856 : (Cond.instanceMethod ({ cls := "PolicyCompiler$Diagram", name := "nodeTotal", desc := "()I" } : MethodName)) ∈ lw_tbl := List.mem_of_getElem? (i := 906) (by decide +kernel)
set_option maxRecDepth 20000 in
theorem mw_857 : (Cond.selects "PolicyCompiler$Diagram" ({ cls := "PolicyCompiler$Diagram", name := "nodeTotal", desc := "()I" } : MethodName) ({ cls := "PolicyCompiler$Diagram", name := "nodeTotal", desc := "()I" } : MethodName)) ∈ lw_tbl := List.mem_of_getElem? (i := 907) (by decide +kernel)
set_option maxRecDepth 20000 in
theorem mw_858 : (Cond.code ({ cls := "PolicyCompiler$Diagram", name := "nodeTotal", desc := "()I" } : MethodName) prog_2_method_2_code (1 : Nat) (Option.some FieldType.int)) ∈ lw_tbl := List.mem_of_getElem? (i := 908) rfl
set_option maxRecDepth 20000 in
theorem mw_859 : (Cond.methodLink "PolicyCompilerLaw" (101 : Nat) ({ cls := "PolicyCompiler", name := "leaves", desc := "(I)I" } : MethodName)) ∈ lw_tbl := List.mem_of_getElem? (i := 909) (by decide +kernel)
set_option maxRecDepth 20000 in
theorem mw_860 : (Cond.instanceMethod ({ cls := "PolicyCompiler", name := "leaves", desc := "(I)I" } : MethodName)) ∈ lw_tbl := List.mem_of_getElem? (i := 910) (by decide +kernel)
set_option maxRecDepth 20000 in
theorem mw_861 : (Cond.selects "PolicyCompiler" ({ cls := "PolicyCompiler", name := "leaves", desc := "(I)I" } : MethodName) ({ cls := "PolicyCompiler", name := "leaves", desc := "(I)I" } : MethodName)) ∈ lw_tbl := List.mem_of_getElem? (i := 911) (by decide +kernel)
set_option maxRecDepth 20000 in
theorem mw_862 : (Cond.code ({ cls := "PolicyCompiler", name := "leaves", desc := "(I)I" } : MethodName) prog_1_method_18_code (2 : Nat) (Option.some FieldType.int)) ∈ lw_tbl := List.mem_of_getElem? (i := 912) rfl
set_option maxRecDepth 20000 in
theorem mw_863 : (Cond.methodLink "PolicyCompiler" (163 : Nat) ({ cls := "PolicyCompiler$Diagram", name := "leafTotal", desc := "()I" } : MethodName)) ∈ lw_tbl := List.mem_of_getElem? (i := 913) (by decide +kernel)
set_option maxRecDepth 20000 in
theorem mw_864 : (Cond.instanceMethod ({ cls := "PolicyCompiler$Diagram", name := "leafTotal", desc := "()I" } : MethodName)) ∈ lw_tbl := List.mem_of_getElem? (i := 914) (by decide +kernel)
set_option maxRecDepth 20000 in
theorem mw_865 : (Cond.selects "PolicyCompiler$Diagram" ({ cls := "PolicyCompiler$Diagram", name := "leafTotal", desc := "()I" } : MethodName) ({ cls := "PolicyCompiler$Diagram", name := "leafTotal", desc := "()I" } : MethodName)) ∈ lw_tbl := List.mem_of_getElem? (i := 915) (by decide +kernel)
set_option maxRecDepth 20000 in
theorem mw_866 : (Cond.code ({ cls := "PolicyCompiler$Diagram", name := "leafTotal", desc := "()I" } : MethodName) prog_2_method_3_code (1 : Nat) (Option.some FieldType.int)) ∈ lw_tbl := List.mem_of_getElem? (i := 916) rfl
set_option maxRecDepth 20000 in
theorem mw_867 : (Cond.methodLink "PolicyCompilerLaw" (104 : Nat) ({ cls := "PolicyCompiler", name := "diagramDepth", desc := "(I)I" } : MethodName)) ∈ lw_tbl := List.mem_of_getElem? (i := 917) (by decide +kernel)
set_option maxRecDepth 20000 in
theorem mw_868 : (Cond.instanceMethod ({ cls := "PolicyCompiler", name := "diagramDepth", desc := "(I)I" } : MethodName)) ∈ lw_tbl := List.mem_of_getElem? (i := 918) (by decide +kernel)
set_option maxRecDepth 20000 in
theorem mw_869 : (Cond.selects "PolicyCompiler" ({ cls := "PolicyCompiler", name := "diagramDepth", desc := "(I)I" } : MethodName) ({ cls := "PolicyCompiler", name := "diagramDepth", desc := "(I)I" } : MethodName)) ∈ lw_tbl := List.mem_of_getElem? (i := 919) (by decide +kernel)
set_option maxRecDepth 20000 in
theorem mw_870 : (Cond.code ({ cls := "PolicyCompiler", name := "diagramDepth", desc := "(I)I" } : MethodName) prog_1_method_19_code (2 : Nat) (Option.some FieldType.int)) ∈ lw_tbl := List.mem_of_getElem? (i := 920) rfl
set_option maxRecDepth 20000 in
theorem mw_871 : (Cond.methodLink "PolicyCompiler" (166 : Nat) ({ cls := "PolicyCompiler$Diagram", name := "longestWay", desc := "()I" } : MethodName)) ∈ lw_tbl := List.mem_of_getElem? (i := 921) (by decide +kernel)
set_option maxRecDepth 20000 in
theorem mw_872 : (Cond.instanceMethod ({ cls := "PolicyCompiler$Diagram", name := "longestWay", desc := "()I" } : MethodName)) ∈ lw_tbl := List.mem_of_getElem? (i := 922) (by decide +kernel)
set_option maxRecDepth 20000 in
theorem mw_873 : (Cond.selects "PolicyCompiler$Diagram" ({ cls := "PolicyCompiler$Diagram", name := "longestWay", desc := "()I" } : MethodName) ({ cls := "PolicyCompiler$Diagram", name := "longestWay", desc := "()I" } : MethodName)) ∈ lw_tbl := List.mem_of_getElem? (i := 923) (by decide +kernel)
set_option maxRecDepth 20000 in
theorem mw_874 : (Cond.code ({ cls := "PolicyCompiler$Diagram", name := "longestWay", desc := "()I" } : MethodName) prog_2_method_4_code (1 : Nat) (Option.some FieldType.int)) ∈ lw_tbl := List.mem_of_getElem? (i := 924) rfl
set_option maxRecDepth 20000 in
theorem mw_875 : (Cond.methodLink "PolicyCompilerLaw" (107 : Nat) ({ cls := "PolicyCompiler", name := "sharedNodes", desc := "(II)I" } : MethodName)) ∈ lw_tbl := List.mem_of_getElem? (i := 925) (by decide +kernel)
set_option maxRecDepth 20000 in
theorem mw_876 : (Cond.instanceMethod ({ cls := "PolicyCompiler", name := "sharedNodes", desc := "(II)I" } : MethodName)) ∈ lw_tbl := List.mem_of_getElem? (i := 926) (by decide +kernel)
set_option maxRecDepth 20000 in
theorem mw_877 : (Cond.selects "PolicyCompiler" ({ cls := "PolicyCompiler", name := "sharedNodes", desc := "(II)I" } : MethodName) ({ cls := "PolicyCompiler", name := "sharedNodes", desc := "(II)I" } : MethodName)) ∈ lw_tbl := List.mem_of_getElem? (i := 927) (by decide +kernel)
set_option maxRecDepth 20000 in
theorem mw_878 : (Cond.code ({ cls := "PolicyCompiler", name := "sharedNodes", desc := "(II)I" } : MethodName) prog_1_method_20_code (3 : Nat) (Option.some FieldType.int)) ∈ lw_tbl := List.mem_of_getElem? (i := 928) rfl
set_option maxRecDepth 20000 in
theorem mw_879 : (Cond.methodLink "PolicyCompiler" (169 : Nat) ({ cls := "PolicyCompiler$Diagram", name := "twinsIn", desc := "(LPolicyCompiler$Diagram;)I" } : MethodName)) ∈ lw_tbl := List.mem_of_getElem? (i := 929) (by decide +kernel)
set_option maxRecDepth 20000 in
theorem mw_880 : (Cond.instanceMethod ({ cls := "PolicyCompiler$Diagram", name := "twinsIn", desc := "(LPolicyCompiler$Diagram;)I" } : MethodName)) ∈ lw_tbl := List.mem_of_getElem? (i := 930) (by decide +kernel)
set_option maxRecDepth 20000 in
theorem mw_881 : (Cond.selects "PolicyCompiler$Diagram" ({ cls := "PolicyCompiler$Diagram", name := "twinsIn", desc := "(LPolicyCompiler$Diagram;)I" } : MethodName) ({ cls := "PolicyCompiler$Diagram", name := "twinsIn", desc := "(LPolicyCompiler$Diagram;)I" } : MethodName)) ∈ lw_tbl := List.mem_of_getElem? (i := 931) (by decide +kernel)
set_option maxRecDepth 20000 in
theorem mw_882 : (Cond.code ({ cls := "PolicyCompiler$Diagram", name := "twinsIn", desc := "(LPolicyCompiler$Diagram;)I" } : MethodName) prog_2_method_19_code (4 : Nat) (Option.some FieldType.int)) ∈ lw_tbl := List.mem_of_getElem? (i := 932) rfl
set_option maxRecDepth 20000 in
theorem mw_883 : (Cond.methodLink "PolicyCompiler$Diagram" (99 : Nat) ({ cls := "PolicyCompiler$Diagram", name := "twinOf", desc := "(ILPolicyCompiler$Diagram;)I" } : MethodName)) ∈ lw_tbl := List.mem_of_getElem? (i := 933) (by decide +kernel)
set_option maxRecDepth 20000 in
theorem mw_885 : (Cond.instanceMethod ({ cls := "PolicyCompiler$Diagram", name := "twinOf", desc := "(ILPolicyCompiler$Diagram;)I" } : MethodName)) ∈ lw_tbl := List.mem_of_getElem? (i := 935) (by decide +kernel)
set_option maxRecDepth 20000 in
theorem mw_886 : (Cond.code ({ cls := "PolicyCompiler$Diagram", name := "twinOf", desc := "(ILPolicyCompiler$Diagram;)I" } : MethodName) prog_2_method_20_code (3 : Nat) (Option.some FieldType.int)) ∈ lw_tbl := List.mem_of_getElem? (i := 936) rfl
set_option maxRecDepth 20000 in
theorem mw_887 : (Cond.methodLink "PolicyCompiler$Diagram" (103 : Nat) ({ cls := "PolicyCompiler$Diagram", name := "fieldOf", desc := "(I)I" } : MethodName)) ∈ lw_tbl := List.mem_of_getElem? (i := 937) (by decide +kernel)
set_option maxRecDepth 20000 in
theorem mw_888 : (Cond.methodLink "PolicyCompiler$Diagram" (106 : Nat) ({ cls := "PolicyCompiler$Diagram", name := "twinOfChild", desc := "(II)I" } : MethodName)) ∈ lw_tbl := List.mem_of_getElem? (i := 938) (by decide +kernel)
set_option maxRecDepth 20000 in
theorem mw_890 : (Cond.instanceMethod ({ cls := "PolicyCompiler$Diagram", name := "twinOfChild", desc := "(II)I" } : MethodName)) ∈ lw_tbl := List.mem_of_getElem? (i := 940) (by decide +kernel)
set_option maxRecDepth 20000 in
theorem mw_891 : (Cond.code ({ cls := "PolicyCompiler$Diagram", name := "twinOfChild", desc := "(II)I" } : MethodName) prog_2_method_21_code (4 : Nat) (Option.some FieldType.int)) ∈ lw_tbl := List.mem_of_getElem? (i := 941) rfl
set_option maxRecDepth 20000 in
theorem mw_892 : (Cond.methodLink "PolicyCompilerLaw" (110 : Nat) ({ cls := "PolicyCompiler", name := "accepted", desc := "(I)J" } : MethodName)) ∈ lw_tbl := List.mem_of_getElem? (i := 942) (by decide +kernel)
set_option maxRecDepth 20000 in
theorem mw_893 : (Cond.instanceMethod ({ cls := "PolicyCompiler", name := "accepted", desc := "(I)J" } : MethodName)) ∈ lw_tbl := List.mem_of_getElem? (i := 943) (by decide +kernel)
set_option maxRecDepth 20000 in
theorem mw_894 : (Cond.selects "PolicyCompiler" ({ cls := "PolicyCompiler", name := "accepted", desc := "(I)J" } : MethodName) ({ cls := "PolicyCompiler", name := "accepted", desc := "(I)J" } : MethodName)) ∈ lw_tbl := List.mem_of_getElem? (i := 944) (by decide +kernel)
set_option maxRecDepth 20000 in
theorem mw_895 : (Cond.code ({ cls := "PolicyCompiler", name := "accepted", desc := "(I)J" } : MethodName) prog_1_method_11_code (2 : Nat) (Option.some FieldType.long)) ∈ lw_tbl := List.mem_of_getElem? (i := 945) rfl
set_option maxRecDepth 20000 in
theorem mw_896 : (Cond.methodLink "PolicyCompiler" (133 : Nat) ({ cls := "PolicyCompiler$Relation", name := "domain", desc := "()J" } : MethodName)) ∈ lw_tbl := List.mem_of_getElem? (i := 946) (by decide +kernel)
set_option maxRecDepth 20000 in
theorem mw_897 : (Cond.instanceMethod ({ cls := "PolicyCompiler$Relation", name := "domain", desc := "()J" } : MethodName)) ∈ lw_tbl := List.mem_of_getElem? (i := 947) (by decide +kernel)
set_option maxRecDepth 20000 in
theorem mw_898 : (Cond.selects "PolicyCompiler$Relation" ({ cls := "PolicyCompiler$Relation", name := "domain", desc := "()J" } : MethodName) ({ cls := "PolicyCompiler$Relation", name := "domain", desc := "()J" } : MethodName)) ∈ lw_tbl := List.mem_of_getElem? (i := 948) (by decide +kernel)
set_option maxRecDepth 20000 in
theorem mw_899 : (Cond.code ({ cls := "PolicyCompiler$Relation", name := "domain", desc := "()J" } : MethodName) prog_8_method_4_code (4 : Nat) (Option.some FieldType.long)) ∈ lw_tbl := List.mem_of_getElem? (i := 949) rfl
set_option maxRecDepth 20000 in
theorem mw_900 : (Cond.methodLink "PolicyCompilerLaw" (113 : Nat) ({ cls := "PolicyCompilerLaw", name := "ones", desc := "(J)I" } : MethodName)) ∈ lw_tbl := List.mem_of_getElem? (i := 950) (by decide +kernel)
set_option maxRecDepth 20000 in
theorem mw_901 : (Cond.static ({ cls := "PolicyCompilerLaw", name := "ones", desc := "(J)I" } : MethodName)) ∈ lw_tbl := List.mem_of_getElem? (i := 951) (by decide +kernel)
set_option maxRecDepth 20000 in
theorem mw_902 : (Cond.code ({ cls := "PolicyCompilerLaw", name := "ones", desc := "(J)I" } : MethodName) method_7_code (5 : Nat) (Option.some FieldType.int)) ∈ lw_tbl := List.mem_of_getElem? (i := 952) rfl
set_option maxRecDepth 20000 in
theorem mw_903 : (Cond.methodLink "PolicyCompilerLaw" (117 : Nat) ({ cls := "PolicyCompiler", name := "spread", desc := "(I)I" } : MethodName)) ∈ lw_tbl := List.mem_of_getElem? (i := 953) (by decide +kernel)
set_option maxRecDepth 20000 in
theorem mw_904 : (Cond.instanceMethod ({ cls := "PolicyCompiler", name := "spread", desc := "(I)I" } : MethodName)) ∈ lw_tbl := List.mem_of_getElem? (i := 954) (by decide +kernel)
set_option maxRecDepth 20000 in
theorem mw_905 : (Cond.selects "PolicyCompiler" ({ cls := "PolicyCompiler", name := "spread", desc := "(I)I" } : MethodName) ({ cls := "PolicyCompiler", name := "spread", desc := "(I)I" } : MethodName)) ∈ lw_tbl := List.mem_of_getElem? (i := 955) (by decide +kernel)
set_option maxRecDepth 20000 in
theorem mw_906 : (Cond.code ({ cls := "PolicyCompiler", name := "spread", desc := "(I)I" } : MethodName) prog_1_method_12_code (2 : Nat) (Option.some FieldType.int)) ∈ lw_tbl := List.mem_of_getElem? (i := 956) rfl
set_option maxRecDepth 20000 in
theorem mw_907 : (Cond.methodLink "PolicyCompiler" (137 : Nat) ({ cls := "PolicyCompiler$Relation", name := "widest", desc := "()I" } : MethodName)) ∈ lw_tbl := List.mem_of_getElem? (i := 957) (by decide +kernel)
set_option maxRecDepth 20000 in
theorem mw_908 : (Cond.instanceMethod ({ cls := "PolicyCompiler$Relation", name := "widest", desc := "()I" } : MethodName)) ∈ lw_tbl := List.mem_of_getElem? (i := 958) (by decide +kernel)
set_option maxRecDepth 20000 in
theorem mw_909 : (Cond.selects "PolicyCompiler$Relation" ({ cls := "PolicyCompiler$Relation", name := "widest", desc := "()I" } : MethodName) ({ cls := "PolicyCompiler$Relation", name := "widest", desc := "()I" } : MethodName)) ∈ lw_tbl := List.mem_of_getElem? (i := 959) (by decide +kernel)
set_option maxRecDepth 20000 in
theorem mw_910 : (Cond.code ({ cls := "PolicyCompiler$Relation", name := "widest", desc := "()I" } : MethodName) prog_8_method_5_code (3 : Nat) (Option.some FieldType.int)) ∈ lw_tbl := List.mem_of_getElem? (i := 960) rfl
set_option maxRecDepth 20000 in
theorem mw_911 : (Cond.methodLink "PolicyCompiler$Relation" (23 : Nat) ({ cls := "java/lang/Long", name := "bitCount", desc := "(J)I" } : MethodName)) ∈ lw_tbl := List.mem_of_getElem? (i := 961) (by decide +kernel)
set_option maxRecDepth 20000 in
theorem mw_912 : (Cond.methodLink "PolicyCompilerLaw" (164 : Nat) ({ cls := "PolicyCompilerLaw", name := "refused", desc := "(LPolicyCompiler;)Z" } : MethodName)) ∈ lw_tbl := List.mem_of_getElem? (i := 962) (by decide +kernel)
set_option maxRecDepth 20000 in
theorem mw_913 : (Cond.static ({ cls := "PolicyCompilerLaw", name := "refused", desc := "(LPolicyCompiler;)Z" } : MethodName)) ∈ lw_tbl := List.mem_of_getElem? (i := 963) (by decide +kernel)
set_option maxRecDepth 20000 in
theorem mw_914 : (Cond.code ({ cls := "PolicyCompilerLaw", name := "refused", desc := "(LPolicyCompiler;)Z" } : MethodName) method_14_code (5 : Nat) (Option.some FieldType.boolean)) ∈ lw_tbl := List.mem_of_getElem? (i := 964) rfl
set_option maxRecDepth 20000 in
theorem mw_915 : (Cond.methodLink "PolicyCompilerLaw" (120 : Nat) ({ cls := "PolicyCompiler", name := "errorCount", desc := "(I)I" } : MethodName)) ∈ lw_tbl := List.mem_of_getElem? (i := 965) (by decide +kernel)
set_option maxRecDepth 20000 in
theorem mw_916 : (Cond.instanceMethod ({ cls := "PolicyCompiler", name := "errorCount", desc := "(I)I" } : MethodName)) ∈ lw_tbl := List.mem_of_getElem? (i := 966) (by decide +kernel)
set_option maxRecDepth 20000 in
theorem mw_917 : (Cond.selects "PolicyCompiler" ({ cls := "PolicyCompiler", name := "errorCount", desc := "(I)I" } : MethodName) ({ cls := "PolicyCompiler", name := "errorCount", desc := "(I)I" } : MethodName)) ∈ lw_tbl := List.mem_of_getElem? (i := 967) (by decide +kernel)
set_option maxRecDepth 20000 in
theorem mw_918 : (Cond.code ({ cls := "PolicyCompiler", name := "errorCount", desc := "(I)I" } : MethodName) prog_1_method_27_code (2 : Nat) (Option.some FieldType.int)) ∈ lw_tbl := List.mem_of_getElem? (i := 968) rfl
set_option maxRecDepth 20000 in
theorem mw_919 : (Cond.constantLong "PolicyCompilerLaw" (123 : Nat) (-2 : Int64)) ∈ lw_tbl := List.mem_of_getElem? (i := 969) (by decide +kernel)
set_option maxRecDepth 20000 in
theorem mw_920 : (Cond.constantLong "PolicyCompilerLaw" (147 : Nat) (2900650496696658755 : Int64)) ∈ lw_tbl := List.mem_of_getElem? (i := 970) (by decide +kernel)
set_option maxRecDepth 20000 in
theorem mw_921 : (Cond.constantLong "PolicyCompilerLaw" (149 : Nat) (279898631747 : Int64)) ∈ lw_tbl := List.mem_of_getElem? (i := 971) (by decide +kernel)
set_option maxRecDepth 20000 in
theorem mw_922 : (Cond.constantLong "PolicyCompilerLaw" (151 : Nat) (25685962834854749 : Int64)) ∈ lw_tbl := List.mem_of_getElem? (i := 972) (by decide +kernel)
set_option maxRecDepth 20000 in
theorem mp_0 : Cond.selects "PolicyCompiler" ⟨"PolicyCompiler", "fail", "(I)I"⟩ ⟨"PolicyCompiler", "fail", "(I)I"⟩ ∈ lw_tbl := List.mem_of_getElem? (i := 0) (by decide +kernel)
set_option maxRecDepth 20000 in
theorem mp_1 : Cond.selects "PolicyCompiler" ⟨"PolicyCompiler", "store", "(LPolicyCompiler$Policy;I)I"⟩ ⟨"PolicyCompiler", "store", "(LPolicyCompiler$Policy;I)I"⟩ ∈ lw_tbl := List.mem_of_getElem? (i := 1) (by decide +kernel)
set_option maxRecDepth 20000 in
theorem mp_2 : Cond.selects "PolicyCompiler$History" ⟨"PolicyCompiler$History", "dropOldest", "()V"⟩ ⟨"PolicyCompiler$History", "dropOldest", "()V"⟩ ∈ lw_tbl := List.mem_of_getElem? (i := 2) (by decide +kernel)
set_option maxRecDepth 20000 in
theorem mp_3 : Cond.selects "PolicyCompiler$Parser" ⟨"PolicyCompiler$Parser", "takeFactor", "(II[LPolicyCompiler$Slot;)V"⟩ ⟨"PolicyCompiler$Parser", "takeFactor", "(II[LPolicyCompiler$Slot;)V"⟩ ∈ lw_tbl := List.mem_of_getElem? (i := 3) (by decide +kernel)
set_option maxRecDepth 20000 in
theorem mp_4 : Cond.selects "PolicyCompiler$Parser" ⟨"PolicyCompiler$Parser", "open", "(II)V"⟩ ⟨"PolicyCompiler$Parser", "open", "(II)V"⟩ ∈ lw_tbl := List.mem_of_getElem? (i := 4) (by decide +kernel)
set_option maxRecDepth 20000 in
theorem mp_5 : Cond.selects "PolicyCompiler$Parser" ⟨"PolicyCompiler$Parser", "endLeaf", "(III)V"⟩ ⟨"PolicyCompiler$Parser", "endLeaf", "(III)V"⟩ ∈ lw_tbl := List.mem_of_getElem? (i := 5) (by decide +kernel)
set_option maxRecDepth 20000 in
theorem mp_6 : Cond.selects "PolicyCompiler$Parser" ⟨"PolicyCompiler$Parser", "pushOperand", "(Z)V"⟩ ⟨"PolicyCompiler$Parser", "pushOperand", "(Z)V"⟩ ∈ lw_tbl := List.mem_of_getElem? (i := 6) (by decide +kernel)
set_option maxRecDepth 20000 in
theorem mp_7 : Cond.selects "PolicyCompiler$Parser" ⟨"PolicyCompiler$Parser", "takeSign", "(II)V"⟩ ⟨"PolicyCompiler$Parser", "takeSign", "(II)V"⟩ ∈ lw_tbl := List.mem_of_getElem? (i := 7) (by decide +kernel)
set_option maxRecDepth 20000 in
theorem mp_8 : Cond.selects "PolicyCompiler$Parser" ⟨"PolicyCompiler$Parser", "takeDigit", "(II)V"⟩ ⟨"PolicyCompiler$Parser", "takeDigit", "(II)V"⟩ ∈ lw_tbl := List.mem_of_getElem? (i := 8) (by decide +kernel)
set_option maxRecDepth 20000 in
theorem mp_9 : Cond.selects "PolicyCompiler$Parser" ⟨"PolicyCompiler$Parser", "takeBehindAtom", "(II)V"⟩ ⟨"PolicyCompiler$Parser", "takeBehindAtom", "(II)V"⟩ ∈ lw_tbl := List.mem_of_getElem? (i := 9) (by decide +kernel)
set_option maxRecDepth 20000 in
theorem mp_10 : Cond.selects "PolicyCompiler$Parser" ⟨"PolicyCompiler$Parser", "popOperand", "()Z"⟩ ⟨"PolicyCompiler$Parser", "popOperand", "()Z"⟩ ∈ lw_tbl := List.mem_of_getElem? (i := 10) (by decide +kernel)
set_option maxRecDepth 20000 in
theorem mp_11 : Cond.selects "PolicyCompiler$Parser" ⟨"PolicyCompiler$Parser", "topIsPredicate", "()Z"⟩ ⟨"PolicyCompiler$Parser", "topIsPredicate", "()Z"⟩ ∈ lw_tbl := List.mem_of_getElem? (i := 11) (by decide +kernel)
set_option maxRecDepth 20000 in
theorem mp_12 : Cond.selects "PolicyCompiler$Parser" ⟨"PolicyCompiler$Parser", "endFactor", "()V"⟩ ⟨"PolicyCompiler$Parser", "endFactor", "()V"⟩ ∈ lw_tbl := List.mem_of_getElem? (i := 12) (by decide +kernel)
set_option maxRecDepth 20000 in
theorem mp_13 : Cond.selects "PolicyCompiler$Parser" ⟨"PolicyCompiler$Parser", "innermost", "()I"⟩ ⟨"PolicyCompiler$Parser", "innermost", "()I"⟩ ∈ lw_tbl := List.mem_of_getElem? (i := 13) (by decide +kernel)
set_option maxRecDepth 20000 in
theorem mp_14 : Cond.selects "PolicyCompiler$Parser" ⟨"PolicyCompiler$Parser", "innermostBegin", "()I"⟩ ⟨"PolicyCompiler$Parser", "innermostBegin", "()I"⟩ ∈ lw_tbl := List.mem_of_getElem? (i := 14) (by decide +kernel)
set_option maxRecDepth 20000 in
theorem mp_15 : Cond.selects "PolicyCompiler$Parser" ⟨"PolicyCompiler$Parser", "endPair", "(II)V"⟩ ⟨"PolicyCompiler$Parser", "endPair", "(II)V"⟩ ∈ lw_tbl := List.mem_of_getElem? (i := 15) (by decide +kernel)
set_option maxRecDepth 20000 in
theorem mp_16 : Cond.selects "PolicyCompiler$Parser" ⟨"PolicyCompiler$Parser", "endUnion", "()V"⟩ ⟨"PolicyCompiler$Parser", "endUnion", "()V"⟩ ∈ lw_tbl := List.mem_of_getElem? (i := 16) (by decide +kernel)
set_option maxRecDepth 20000 in
theorem mp_17 : Cond.selects "PolicyCompiler$Parser" ⟨"PolicyCompiler$Parser", "takeBracket", "(II)V"⟩ ⟨"PolicyCompiler$Parser", "takeBracket", "(II)V"⟩ ∈ lw_tbl := List.mem_of_getElem? (i := 17) (by decide +kernel)
set_option maxRecDepth 20000 in
theorem mp_18 : Cond.selects "PolicyCompiler$Parser" ⟨"PolicyCompiler$Parser", "endChoice", "()V"⟩ ⟨"PolicyCompiler$Parser", "endChoice", "()V"⟩ ∈ lw_tbl := List.mem_of_getElem? (i := 18) (by decide +kernel)
set_option maxRecDepth 20000 in
theorem mp_19 : Cond.selects "PolicyCompiler$Parser" ⟨"PolicyCompiler$Parser", "finish", "(I)V"⟩ ⟨"PolicyCompiler$Parser", "finish", "(I)V"⟩ ∈ lw_tbl := List.mem_of_getElem? (i := 19) (by decide +kernel)
set_option maxRecDepth 20000 in
theorem mp_20 : Cond.selects "PolicyCompiler$Printout" ⟨"PolicyCompiler$Printout", "measured", "(LPolicyCompiler$Policy;I)I"⟩ ⟨"PolicyCompiler$Printout", "measured", "(LPolicyCompiler$Policy;I)I"⟩ ∈ lw_tbl := List.mem_of_getElem? (i := 20) (by decide +kernel)
set_option maxRecDepth 20000 in
theorem mp_21 : Cond.selects "PolicyCompiler$Policy" ⟨"PolicyCompiler$Policy", "nodeAt", "(I)I"⟩ ⟨"PolicyCompiler$Policy", "nodeAt", "(I)I"⟩ ∈ lw_tbl := List.mem_of_getElem? (i := 21) (by decide +kernel)
set_option maxRecDepth 20000 in
theorem mp_22 : Cond.selects "PolicyCompiler$Printout" ⟨"PolicyCompiler$Printout", "printNode", "(LPolicyCompiler$Policy;I)V"⟩ ⟨"PolicyCompiler$Printout", "printNode", "(LPolicyCompiler$Policy;I)V"⟩ ∈ lw_tbl := List.mem_of_getElem? (i := 22) (by decide +kernel)
set_option maxRecDepth 20000 in
theorem mp_23 : Cond.selects "PolicyCompiler$Printout" ⟨"PolicyCompiler$Printout", "innerPlace", "(I)I"⟩ ⟨"PolicyCompiler$Printout", "innerPlace", "(I)I"⟩ ∈ lw_tbl := List.mem_of_getElem? (i := 23) (by decide +kernel)
set_option maxRecDepth 20000 in
theorem mp_24 : Cond.selects "PolicyCompiler$Printout" ⟨"PolicyCompiler$Printout", "put", "(II)V"⟩ ⟨"PolicyCompiler$Printout", "put", "(II)V"⟩ ∈ lw_tbl := List.mem_of_getElem? (i := 24) (by decide +kernel)
set_option maxRecDepth 20000 in
theorem mp_25 : Cond.selects "PolicyCompiler$Printout" ⟨"PolicyCompiler$Printout", "printLeaf", "(LPolicyCompiler$Policy;II)V"⟩ ⟨"PolicyCompiler$Printout", "printLeaf", "(LPolicyCompiler$Policy;II)V"⟩ ∈ lw_tbl := List.mem_of_getElem? (i := 25) (by decide +kernel)
set_option maxRecDepth 20000 in
theorem mp_26 : Cond.selects "PolicyCompiler$Printout" ⟨"PolicyCompiler$Printout", "printPair", "(LPolicyCompiler$Policy;II)V"⟩ ⟨"PolicyCompiler$Printout", "printPair", "(LPolicyCompiler$Policy;II)V"⟩ ∈ lw_tbl := List.mem_of_getElem? (i := 26) (by decide +kernel)
set_option maxRecDepth 20000 in
theorem mp_27 : Cond.selects "PolicyCompiler$Printout" ⟨"PolicyCompiler$Printout", "placed", "(II)I"⟩ ⟨"PolicyCompiler$Printout", "placed", "(II)I"⟩ ∈ lw_tbl := List.mem_of_getElem? (i := 27) (by decide +kernel)
set_option maxRecDepth 20000 in
theorem mp_28 : Cond.selects "PolicyCompiler$Printout" ⟨"PolicyCompiler$Printout", "printChoice", "(LPolicyCompiler$Policy;I)V"⟩ ⟨"PolicyCompiler$Printout", "printChoice", "(LPolicyCompiler$Policy;I)V"⟩ ∈ lw_tbl := List.mem_of_getElem? (i := 28) (by decide +kernel)
set_option maxRecDepth 20000 in
theorem mp_29 : Cond.selects "PolicyCompiler$Evaluator" ⟨"PolicyCompiler$Evaluator", "evaluateNode", "(LPolicyCompiler$Policy;I)V"⟩ ⟨"PolicyCompiler$Evaluator", "evaluateNode", "(LPolicyCompiler$Policy;I)V"⟩ ∈ lw_tbl := List.mem_of_getElem? (i := 29) (by decide +kernel)
set_option maxRecDepth 20000 in
theorem mp_30 : Cond.selects "PolicyCompiler$Evaluator" ⟨"PolicyCompiler$Evaluator", "unite", "(III)V"⟩ ⟨"PolicyCompiler$Evaluator", "unite", "(III)V"⟩ ∈ lw_tbl := List.mem_of_getElem? (i := 30) (by decide +kernel)
set_option maxRecDepth 20000 in
theorem mp_31 : Cond.selects "PolicyCompiler$Evaluator" ⟨"PolicyCompiler$Evaluator", "imageOf", "(II)J"⟩ ⟨"PolicyCompiler$Evaluator", "imageOf", "(II)J"⟩ ∈ lw_tbl := List.mem_of_getElem? (i := 31) (by decide +kernel)
set_option maxRecDepth 20000 in
theorem mp_32 : Cond.selects "PolicyCompiler$Evaluator" ⟨"PolicyCompiler$Evaluator", "assign", "(IIJ)V"⟩ ⟨"PolicyCompiler$Evaluator", "assign", "(IIJ)V"⟩ ∈ lw_tbl := List.mem_of_getElem? (i := 32) (by decide +kernel)
set_option maxRecDepth 20000 in
theorem mp_33 : Cond.selects "PolicyCompiler$Evaluator" ⟨"PolicyCompiler$Evaluator", "chain", "(III)V"⟩ ⟨"PolicyCompiler$Evaluator", "chain", "(III)V"⟩ ∈ lw_tbl := List.mem_of_getElem? (i := 33) (by decide +kernel)
set_option maxRecDepth 20000 in
theorem mp_34 : Cond.selects "PolicyCompiler$Evaluator" ⟨"PolicyCompiler$Evaluator", "repeat", "(II)V"⟩ ⟨"PolicyCompiler$Evaluator", "repeat", "(II)V"⟩ ∈ lw_tbl := List.mem_of_getElem? (i := 34) (by decide +kernel)
set_option maxRecDepth 20000 in
theorem mp_35 : Cond.selects "PolicyCompiler$Evaluator" ⟨"PolicyCompiler$Evaluator", "negate", "(II)V"⟩ ⟨"PolicyCompiler$Evaluator", "negate", "(II)V"⟩ ∈ lw_tbl := List.mem_of_getElem? (i := 35) (by decide +kernel)
set_option maxRecDepth 20000 in
theorem mp_36 : Cond.selects "PolicyCompiler$Evaluator" ⟨"PolicyCompiler$Evaluator", "choose", "(IIII)V"⟩ ⟨"PolicyCompiler$Evaluator", "choose", "(IIII)V"⟩ ∈ lw_tbl := List.mem_of_getElem? (i := 36) (by decide +kernel)
set_option maxRecDepth 20000 in
theorem mp_37 : Cond.selects "PolicyCompiler$Evaluator" ⟨"PolicyCompiler$Evaluator", "evaluateLeaf", "(LPolicyCompiler$Policy;I)V"⟩ ⟨"PolicyCompiler$Evaluator", "evaluateLeaf", "(LPolicyCompiler$Policy;I)V"⟩ ∈ lw_tbl := List.mem_of_getElem? (i := 37) (by decide +kernel)
set_option maxRecDepth 20000 in
theorem mp_38 : Cond.selects "PolicyCompiler$Diagram" ⟨"PolicyCompiler$Diagram", "leafFor", "(IJ)I"⟩ ⟨"PolicyCompiler$Diagram", "leafFor", "(IJ)I"⟩ ∈ lw_tbl := List.mem_of_getElem? (i := 38) (by decide +kernel)
set_option maxRecDepth 20000 in
theorem mp_39 : Cond.selects "PolicyCompiler$Diagram" ⟨"PolicyCompiler$Diagram", "leafWith", "(JJ)I"⟩ ⟨"PolicyCompiler$Diagram", "leafWith", "(JJ)I"⟩ ∈ lw_tbl := List.mem_of_getElem? (i := 39) (by decide +kernel)
set_option maxRecDepth 20000 in
theorem mp_40 : Cond.selects "PolicyCompiler$Diagram" ⟨"PolicyCompiler$Diagram", "newLeaf", "(JJ)I"⟩ ⟨"PolicyCompiler$Diagram", "newLeaf", "(JJ)I"⟩ ∈ lw_tbl := List.mem_of_getElem? (i := 40) (by decide +kernel)
set_option maxRecDepth 20000 in
theorem mp_41 : Cond.selects "PolicyCompiler$Diagram" ⟨"PolicyCompiler$Diagram", "nodeFor", "(II)I"⟩ ⟨"PolicyCompiler$Diagram", "nodeFor", "(II)I"⟩ ∈ lw_tbl := List.mem_of_getElem? (i := 41) (by decide +kernel)
set_option maxRecDepth 20000 in
theorem mp_42 : Cond.selects "PolicyCompiler$Diagram" ⟨"PolicyCompiler$Diagram", "testWith", "(IIIII)I"⟩ ⟨"PolicyCompiler$Diagram", "testWith", "(IIIII)I"⟩ ∈ lw_tbl := List.mem_of_getElem? (i := 42) (by decide +kernel)
set_option maxRecDepth 20000 in
theorem mp_43 : Cond.selects "PolicyCompiler$Diagram" ⟨"PolicyCompiler$Diagram", "newTest", "(II)I"⟩ ⟨"PolicyCompiler$Diagram", "newTest", "(II)I"⟩ ∈ lw_tbl := List.mem_of_getElem? (i := 43) (by decide +kernel)
set_option maxRecDepth 20000 in
theorem mp_44 : Cond.selects "PolicyCompiler$Diagram" ⟨"PolicyCompiler$Diagram", "depthOf", "(I)I"⟩ ⟨"PolicyCompiler$Diagram", "depthOf", "(I)I"⟩ ∈ lw_tbl := List.mem_of_getElem? (i := 44) (by decide +kernel)
set_option maxRecDepth 20000 in
theorem mp_45 : Cond.selects "PolicyCompiler$Table" ⟨"PolicyCompiler$Table", "addRow", "(II)V"⟩ ⟨"PolicyCompiler$Table", "addRow", "(II)V"⟩ ∈ lw_tbl := List.mem_of_getElem? (i := 45) (by decide +kernel)
set_option maxRecDepth 20000 in
theorem mp_46 : Cond.selects "PolicyCompiler$Diagram" ⟨"PolicyCompiler$Diagram", "valuesLeadingTo", "(II)I"⟩ ⟨"PolicyCompiler$Diagram", "valuesLeadingTo", "(II)I"⟩ ∈ lw_tbl := List.mem_of_getElem? (i := 46) (by decide +kernel)
set_option maxRecDepth 20000 in
theorem mp_47 : Cond.selects "PolicyCompiler$Relation" ⟨"PolicyCompiler$Relation", "stepsFrom", "(I)I"⟩ ⟨"PolicyCompiler$Relation", "stepsFrom", "(I)I"⟩ ∈ lw_tbl := List.mem_of_getElem? (i := 47) (by decide +kernel)
set_option maxRecDepth 20000 in
theorem mp_48 : Cond.selects "PolicyCompiler$Diagram" ⟨"PolicyCompiler$Diagram", "twinOf", "(ILPolicyCompiler$Diagram;)I"⟩ ⟨"PolicyCompiler$Diagram", "twinOf", "(ILPolicyCompiler$Diagram;)I"⟩ ∈ lw_tbl := List.mem_of_getElem? (i := 48) (by decide +kernel)
set_option maxRecDepth 20000 in
theorem mp_49 : Cond.selects "PolicyCompiler$Diagram" ⟨"PolicyCompiler$Diagram", "twinOfChild", "(II)I"⟩ ⟨"PolicyCompiler$Diagram", "twinOfChild", "(II)I"⟩ ∈ lw_tbl := List.mem_of_getElem? (i := 49) (by decide +kernel)
