section
-- ===== PART A: goes FIRST, ahead of the names: the tables' words, and 'selects' of the private methods out of them =====
/-- a private method of a class that the tables say can be made, by its rows of tables_1 -/
def lw_okq (q : MethodName × Nat) : Prop := (q.1.cls ≠ "java/lang/invoke/MethodHandle" ∧ q.1.cls ≠ "java/lang/invoke/VarHandle") ∧ Cond.instantiable q.1.cls q.2 ∈ tables_1 ∧ Cond.privateMethod q.1 ∈ tables_1 ∧ Cond.instanceMethod q.1 ∈ tables_1
theorem lw_p0 : lw_okq (⟨"PolicyCompiler", "fail", "(I)I"⟩, 8) := ⟨⟨by decide +kernel, by decide +kernel⟩, List.mem_of_getElem? (i := 15) (by decide +kernel), List.mem_of_getElem? (i := 266) (by decide +kernel), List.mem_of_getElem? (i := 267) (by decide +kernel)⟩
theorem lw_p1 : lw_okq (⟨"PolicyCompiler$Parser", "takeFactor", "(II[LPolicyCompiler$Slot;)V"⟩, 10) := ⟨⟨by decide +kernel, by decide +kernel⟩, List.mem_of_getElem? (i := 62) (by decide +kernel), List.mem_of_getElem? (i := 289) (by decide +kernel), List.mem_of_getElem? (i := 290) (by decide +kernel)⟩
theorem lw_p2 : lw_okq (⟨"PolicyCompiler$Parser", "open", "(II)V"⟩, 10) := ⟨⟨by decide +kernel, by decide +kernel⟩, List.mem_of_getElem? (i := 62) (by decide +kernel), List.mem_of_getElem? (i := 293) (by decide +kernel), List.mem_of_getElem? (i := 294) (by decide +kernel)⟩
theorem lw_p3 : lw_okq (⟨"PolicyCompiler$Parser", "endLeaf", "(III)V"⟩, 10) := ⟨⟨by decide +kernel, by decide +kernel⟩, List.mem_of_getElem? (i := 62) (by decide +kernel), List.mem_of_getElem? (i := 297) (by decide +kernel), List.mem_of_getElem? (i := 298) (by decide +kernel)⟩
theorem lw_p4 : lw_okq (⟨"PolicyCompiler$Parser", "pushOperand", "(Z)V"⟩, 10) := ⟨⟨by decide +kernel, by decide +kernel⟩, List.mem_of_getElem? (i := 62) (by decide +kernel), List.mem_of_getElem? (i := 302) (by decide +kernel), List.mem_of_getElem? (i := 303) (by decide +kernel)⟩
theorem lw_p5 : lw_okq (⟨"PolicyCompiler$Parser", "takeSign", "(II)V"⟩, 10) := ⟨⟨by decide +kernel, by decide +kernel⟩, List.mem_of_getElem? (i := 62) (by decide +kernel), List.mem_of_getElem? (i := 318) (by decide +kernel), List.mem_of_getElem? (i := 319) (by decide +kernel)⟩
theorem lw_p6 : lw_okq (⟨"PolicyCompiler$Parser", "takeDigit", "(II)V"⟩, 10) := ⟨⟨by decide +kernel, by decide +kernel⟩, List.mem_of_getElem? (i := 62) (by decide +kernel), List.mem_of_getElem? (i := 322) (by decide +kernel), List.mem_of_getElem? (i := 323) (by decide +kernel)⟩
theorem lw_p7 : lw_okq (⟨"PolicyCompiler$Parser", "takeBehindAtom", "(II)V"⟩, 10) := ⟨⟨by decide +kernel, by decide +kernel⟩, List.mem_of_getElem? (i := 62) (by decide +kernel), List.mem_of_getElem? (i := 326) (by decide +kernel), List.mem_of_getElem? (i := 327) (by decide +kernel)⟩
theorem lw_p8 : lw_okq (⟨"PolicyCompiler$Parser", "popOperand", "()Z"⟩, 10) := ⟨⟨by decide +kernel, by decide +kernel⟩, List.mem_of_getElem? (i := 62) (by decide +kernel), List.mem_of_getElem? (i := 330) (by decide +kernel), List.mem_of_getElem? (i := 331) (by decide +kernel)⟩
theorem lw_p9 : lw_okq (⟨"PolicyCompiler$Parser", "topIsPredicate", "()Z"⟩, 10) := ⟨⟨by decide +kernel, by decide +kernel⟩, List.mem_of_getElem? (i := 62) (by decide +kernel), List.mem_of_getElem? (i := 334) (by decide +kernel), List.mem_of_getElem? (i := 335) (by decide +kernel)⟩
theorem lw_p10 : lw_okq (⟨"PolicyCompiler$Parser", "endFactor", "()V"⟩, 10) := ⟨⟨by decide +kernel, by decide +kernel⟩, List.mem_of_getElem? (i := 62) (by decide +kernel), List.mem_of_getElem? (i := 338) (by decide +kernel), List.mem_of_getElem? (i := 339) (by decide +kernel)⟩
theorem lw_p11 : lw_okq (⟨"PolicyCompiler$Parser", "innermost", "()I"⟩, 10) := ⟨⟨by decide +kernel, by decide +kernel⟩, List.mem_of_getElem? (i := 62) (by decide +kernel), List.mem_of_getElem? (i := 342) (by decide +kernel), List.mem_of_getElem? (i := 343) (by decide +kernel)⟩
theorem lw_p12 : lw_okq (⟨"PolicyCompiler$Parser", "innermostBegin", "()I"⟩, 10) := ⟨⟨by decide +kernel, by decide +kernel⟩, List.mem_of_getElem? (i := 62) (by decide +kernel), List.mem_of_getElem? (i := 346) (by decide +kernel), List.mem_of_getElem? (i := 347) (by decide +kernel)⟩
theorem lw_p13 : lw_okq (⟨"PolicyCompiler$Parser", "endPair", "(II)V"⟩, 10) := ⟨⟨by decide +kernel, by decide +kernel⟩, List.mem_of_getElem? (i := 62) (by decide +kernel), List.mem_of_getElem? (i := 350) (by decide +kernel), List.mem_of_getElem? (i := 351) (by decide +kernel)⟩
theorem lw_p14 : lw_okq (⟨"PolicyCompiler$Parser", "endUnion", "()V"⟩, 10) := ⟨⟨by decide +kernel, by decide +kernel⟩, List.mem_of_getElem? (i := 62) (by decide +kernel), List.mem_of_getElem? (i := 354) (by decide +kernel), List.mem_of_getElem? (i := 355) (by decide +kernel)⟩
theorem lw_p15 : lw_okq (⟨"PolicyCompiler$Parser", "takeBracket", "(II)V"⟩, 10) := ⟨⟨by decide +kernel, by decide +kernel⟩, List.mem_of_getElem? (i := 62) (by decide +kernel), List.mem_of_getElem? (i := 358) (by decide +kernel), List.mem_of_getElem? (i := 359) (by decide +kernel)⟩
def lw_privs_1 : List (MethodName × Nat) := [(⟨"PolicyCompiler", "fail", "(I)I"⟩, 8), (⟨"PolicyCompiler$Parser", "takeFactor", "(II[LPolicyCompiler$Slot;)V"⟩, 10), (⟨"PolicyCompiler$Parser", "open", "(II)V"⟩, 10), (⟨"PolicyCompiler$Parser", "endLeaf", "(III)V"⟩, 10), (⟨"PolicyCompiler$Parser", "pushOperand", "(Z)V"⟩, 10), (⟨"PolicyCompiler$Parser", "takeSign", "(II)V"⟩, 10), (⟨"PolicyCompiler$Parser", "takeDigit", "(II)V"⟩, 10), (⟨"PolicyCompiler$Parser", "takeBehindAtom", "(II)V"⟩, 10), (⟨"PolicyCompiler$Parser", "popOperand", "()Z"⟩, 10), (⟨"PolicyCompiler$Parser", "topIsPredicate", "()Z"⟩, 10), (⟨"PolicyCompiler$Parser", "endFactor", "()V"⟩, 10), (⟨"PolicyCompiler$Parser", "innermost", "()I"⟩, 10), (⟨"PolicyCompiler$Parser", "innermostBegin", "()I"⟩, 10), (⟨"PolicyCompiler$Parser", "endPair", "(II)V"⟩, 10), (⟨"PolicyCompiler$Parser", "endUnion", "()V"⟩, 10), (⟨"PolicyCompiler$Parser", "takeBracket", "(II)V"⟩, 10)]
theorem lw_r1 : ∀ q ∈ lw_privs_1, lw_okq q := List.forall_mem_cons.mpr ⟨lw_p0, List.forall_mem_cons.mpr ⟨lw_p1, List.forall_mem_cons.mpr ⟨lw_p2, List.forall_mem_cons.mpr ⟨lw_p3, List.forall_mem_cons.mpr ⟨lw_p4, List.forall_mem_cons.mpr ⟨lw_p5, List.forall_mem_cons.mpr ⟨lw_p6, List.forall_mem_cons.mpr ⟨lw_p7, List.forall_mem_cons.mpr ⟨lw_p8, List.forall_mem_cons.mpr ⟨lw_p9, List.forall_mem_cons.mpr ⟨lw_p10, List.forall_mem_cons.mpr ⟨lw_p11, List.forall_mem_cons.mpr ⟨lw_p12, List.forall_mem_cons.mpr ⟨lw_p13, List.forall_mem_cons.mpr ⟨lw_p14, List.forall_mem_cons.mpr ⟨lw_p15, fun _ h => absurd h List.not_mem_nil⟩⟩⟩⟩⟩⟩⟩⟩⟩⟩⟩⟩⟩⟩⟩⟩
theorem lw_p16 : lw_okq (⟨"PolicyCompiler$Parser", "endChoice", "()V"⟩, 10) := ⟨⟨by decide +kernel, by decide +kernel⟩, List.mem_of_getElem? (i := 62) (by decide +kernel), List.mem_of_getElem? (i := 362) (by decide +kernel), List.mem_of_getElem? (i := 363) (by decide +kernel)⟩
theorem lw_p17 : lw_okq (⟨"PolicyCompiler$Parser", "finish", "(I)V"⟩, 10) := ⟨⟨by decide +kernel, by decide +kernel⟩, List.mem_of_getElem? (i := 62) (by decide +kernel), List.mem_of_getElem? (i := 366) (by decide +kernel), List.mem_of_getElem? (i := 367) (by decide +kernel)⟩
theorem lw_p18 : lw_okq (⟨"PolicyCompiler", "store", "(LPolicyCompiler$Policy;I)I"⟩, 8) := ⟨⟨by decide +kernel, by decide +kernel⟩, List.mem_of_getElem? (i := 15) (by decide +kernel), List.mem_of_getElem? (i := 375) (by decide +kernel), List.mem_of_getElem? (i := 376) (by decide +kernel)⟩
theorem lw_p19 : lw_okq (⟨"PolicyCompiler$History", "dropOldest", "()V"⟩, 3) := ⟨⟨by decide +kernel, by decide +kernel⟩, List.mem_of_getElem? (i := 25) (by decide +kernel), List.mem_of_getElem? (i := 388) (by decide +kernel), List.mem_of_getElem? (i := 389) (by decide +kernel)⟩
theorem lw_p20 : lw_okq (⟨"PolicyCompiler$Printout", "measured", "(LPolicyCompiler$Policy;I)I"⟩, 5) := ⟨⟨by decide +kernel, by decide +kernel⟩, List.mem_of_getElem? (i := 122) (by decide +kernel), List.mem_of_getElem? (i := 440) (by decide +kernel), List.mem_of_getElem? (i := 441) (by decide +kernel)⟩
theorem lw_p21 : lw_okq (⟨"PolicyCompiler$Policy", "nodeAt", "(I)I"⟩, 4) := ⟨⟨by decide +kernel, by decide +kernel⟩, List.mem_of_getElem? (i := 32) (by decide +kernel), List.mem_of_getElem? (i := 448) (by decide +kernel), List.mem_of_getElem? (i := 449) (by decide +kernel)⟩
theorem lw_p22 : lw_okq (⟨"PolicyCompiler$Printout", "printNode", "(LPolicyCompiler$Policy;I)V"⟩, 5) := ⟨⟨by decide +kernel, by decide +kernel⟩, List.mem_of_getElem? (i := 122) (by decide +kernel), List.mem_of_getElem? (i := 463) (by decide +kernel), List.mem_of_getElem? (i := 464) (by decide +kernel)⟩
theorem lw_p23 : lw_okq (⟨"PolicyCompiler$Printout", "innerPlace", "(I)I"⟩, 5) := ⟨⟨by decide +kernel, by decide +kernel⟩, List.mem_of_getElem? (i := 122) (by decide +kernel), List.mem_of_getElem? (i := 467) (by decide +kernel), List.mem_of_getElem? (i := 468) (by decide +kernel)⟩
theorem lw_p24 : lw_okq (⟨"PolicyCompiler$Printout", "put", "(II)V"⟩, 5) := ⟨⟨by decide +kernel, by decide +kernel⟩, List.mem_of_getElem? (i := 122) (by decide +kernel), List.mem_of_getElem? (i := 471) (by decide +kernel), List.mem_of_getElem? (i := 472) (by decide +kernel)⟩
theorem lw_p25 : lw_okq (⟨"PolicyCompiler$Printout", "printLeaf", "(LPolicyCompiler$Policy;II)V"⟩, 5) := ⟨⟨by decide +kernel, by decide +kernel⟩, List.mem_of_getElem? (i := 122) (by decide +kernel), List.mem_of_getElem? (i := 475) (by decide +kernel), List.mem_of_getElem? (i := 476) (by decide +kernel)⟩
theorem lw_p26 : lw_okq (⟨"PolicyCompiler$Printout", "printPair", "(LPolicyCompiler$Policy;II)V"⟩, 5) := ⟨⟨by decide +kernel, by decide +kernel⟩, List.mem_of_getElem? (i := 122) (by decide +kernel), List.mem_of_getElem? (i := 487) (by decide +kernel), List.mem_of_getElem? (i := 488) (by decide +kernel)⟩
theorem lw_p27 : lw_okq (⟨"PolicyCompiler$Printout", "placed", "(II)I"⟩, 5) := ⟨⟨by decide +kernel, by decide +kernel⟩, List.mem_of_getElem? (i := 122) (by decide +kernel), List.mem_of_getElem? (i := 491) (by decide +kernel), List.mem_of_getElem? (i := 492) (by decide +kernel)⟩
theorem lw_p28 : lw_okq (⟨"PolicyCompiler$Printout", "printChoice", "(LPolicyCompiler$Policy;I)V"⟩, 5) := ⟨⟨by decide +kernel, by decide +kernel⟩, List.mem_of_getElem? (i := 122) (by decide +kernel), List.mem_of_getElem? (i := 495) (by decide +kernel), List.mem_of_getElem? (i := 496) (by decide +kernel)⟩
theorem lw_p29 : lw_okq (⟨"PolicyCompiler$Evaluator", "evaluateNode", "(LPolicyCompiler$Policy;I)V"⟩, 1) := ⟨⟨by decide +kernel, by decide +kernel⟩, List.mem_of_getElem? (i := 102) (by decide +kernel), List.mem_of_getElem? (i := 504) (by decide +kernel), List.mem_of_getElem? (i := 505) (by decide +kernel)⟩
theorem lw_p30 : lw_okq (⟨"PolicyCompiler$Evaluator", "unite", "(III)V"⟩, 1) := ⟨⟨by decide +kernel, by decide +kernel⟩, List.mem_of_getElem? (i := 102) (by decide +kernel), List.mem_of_getElem? (i := 510) (by decide +kernel), List.mem_of_getElem? (i := 511) (by decide +kernel)⟩
theorem lw_p31 : lw_okq (⟨"PolicyCompiler$Evaluator", "imageOf", "(II)J"⟩, 1) := ⟨⟨by decide +kernel, by decide +kernel⟩, List.mem_of_getElem? (i := 102) (by decide +kernel), List.mem_of_getElem? (i := 514) (by decide +kernel), List.mem_of_getElem? (i := 515) (by decide +kernel)⟩
def lw_privs_2 : List (MethodName × Nat) := [(⟨"PolicyCompiler$Parser", "endChoice", "()V"⟩, 10), (⟨"PolicyCompiler$Parser", "finish", "(I)V"⟩, 10), (⟨"PolicyCompiler", "store", "(LPolicyCompiler$Policy;I)I"⟩, 8), (⟨"PolicyCompiler$History", "dropOldest", "()V"⟩, 3), (⟨"PolicyCompiler$Printout", "measured", "(LPolicyCompiler$Policy;I)I"⟩, 5), (⟨"PolicyCompiler$Policy", "nodeAt", "(I)I"⟩, 4), (⟨"PolicyCompiler$Printout", "printNode", "(LPolicyCompiler$Policy;I)V"⟩, 5), (⟨"PolicyCompiler$Printout", "innerPlace", "(I)I"⟩, 5), (⟨"PolicyCompiler$Printout", "put", "(II)V"⟩, 5), (⟨"PolicyCompiler$Printout", "printLeaf", "(LPolicyCompiler$Policy;II)V"⟩, 5), (⟨"PolicyCompiler$Printout", "printPair", "(LPolicyCompiler$Policy;II)V"⟩, 5), (⟨"PolicyCompiler$Printout", "placed", "(II)I"⟩, 5), (⟨"PolicyCompiler$Printout", "printChoice", "(LPolicyCompiler$Policy;I)V"⟩, 5), (⟨"PolicyCompiler$Evaluator", "evaluateNode", "(LPolicyCompiler$Policy;I)V"⟩, 1), (⟨"PolicyCompiler$Evaluator", "unite", "(III)V"⟩, 1), (⟨"PolicyCompiler$Evaluator", "imageOf", "(II)J"⟩, 1)]
theorem lw_r2 : ∀ q ∈ lw_privs_2, lw_okq q := List.forall_mem_cons.mpr ⟨lw_p16, List.forall_mem_cons.mpr ⟨lw_p17, List.forall_mem_cons.mpr ⟨lw_p18, List.forall_mem_cons.mpr ⟨lw_p19, List.forall_mem_cons.mpr ⟨lw_p20, List.forall_mem_cons.mpr ⟨lw_p21, List.forall_mem_cons.mpr ⟨lw_p22, List.forall_mem_cons.mpr ⟨lw_p23, List.forall_mem_cons.mpr ⟨lw_p24, List.forall_mem_cons.mpr ⟨lw_p25, List.forall_mem_cons.mpr ⟨lw_p26, List.forall_mem_cons.mpr ⟨lw_p27, List.forall_mem_cons.mpr ⟨lw_p28, List.forall_mem_cons.mpr ⟨lw_p29, List.forall_mem_cons.mpr ⟨lw_p30, List.forall_mem_cons.mpr ⟨lw_p31, fun _ h => absurd h List.not_mem_nil⟩⟩⟩⟩⟩⟩⟩⟩⟩⟩⟩⟩⟩⟩⟩⟩
theorem lw_p32 : lw_okq (⟨"PolicyCompiler$Evaluator", "assign", "(IIJ)V"⟩, 1) := ⟨⟨by decide +kernel, by decide +kernel⟩, List.mem_of_getElem? (i := 102) (by decide +kernel), List.mem_of_getElem? (i := 518) (by decide +kernel), List.mem_of_getElem? (i := 519) (by decide +kernel)⟩
theorem lw_p33 : lw_okq (⟨"PolicyCompiler$Evaluator", "chain", "(III)V"⟩, 1) := ⟨⟨by decide +kernel, by decide +kernel⟩, List.mem_of_getElem? (i := 102) (by decide +kernel), List.mem_of_getElem? (i := 522) (by decide +kernel), List.mem_of_getElem? (i := 523) (by decide +kernel)⟩
theorem lw_p34 : lw_okq (⟨"PolicyCompiler$Evaluator", "repeat", "(II)V"⟩, 1) := ⟨⟨by decide +kernel, by decide +kernel⟩, List.mem_of_getElem? (i := 102) (by decide +kernel), List.mem_of_getElem? (i := 538) (by decide +kernel), List.mem_of_getElem? (i := 539) (by decide +kernel)⟩
theorem lw_p35 : lw_okq (⟨"PolicyCompiler$Evaluator", "negate", "(II)V"⟩, 1) := ⟨⟨by decide +kernel, by decide +kernel⟩, List.mem_of_getElem? (i := 102) (by decide +kernel), List.mem_of_getElem? (i := 548) (by decide +kernel), List.mem_of_getElem? (i := 549) (by decide +kernel)⟩
theorem lw_p36 : lw_okq (⟨"PolicyCompiler$Evaluator", "choose", "(IIII)V"⟩, 1) := ⟨⟨by decide +kernel, by decide +kernel⟩, List.mem_of_getElem? (i := 102) (by decide +kernel), List.mem_of_getElem? (i := 552) (by decide +kernel), List.mem_of_getElem? (i := 553) (by decide +kernel)⟩
theorem lw_p37 : lw_okq (⟨"PolicyCompiler$Evaluator", "evaluateLeaf", "(LPolicyCompiler$Policy;I)V"⟩, 1) := ⟨⟨by decide +kernel, by decide +kernel⟩, List.mem_of_getElem? (i := 102) (by decide +kernel), List.mem_of_getElem? (i := 556) (by decide +kernel), List.mem_of_getElem? (i := 557) (by decide +kernel)⟩
theorem lw_p38 : lw_okq (⟨"PolicyCompiler$Diagram", "leafFor", "(IJ)I"⟩, 10) := ⟨⟨by decide +kernel, by decide +kernel⟩, List.mem_of_getElem? (i := 154) (by decide +kernel), List.mem_of_getElem? (i := 586) (by decide +kernel), List.mem_of_getElem? (i := 587) (by decide +kernel)⟩
theorem lw_p39 : lw_okq (⟨"PolicyCompiler$Diagram", "leafWith", "(JJ)I"⟩, 10) := ⟨⟨by decide +kernel, by decide +kernel⟩, List.mem_of_getElem? (i := 154) (by decide +kernel), List.mem_of_getElem? (i := 599) (by decide +kernel), List.mem_of_getElem? (i := 600) (by decide +kernel)⟩
theorem lw_p40 : lw_okq (⟨"PolicyCompiler$Diagram", "newLeaf", "(JJ)I"⟩, 10) := ⟨⟨by decide +kernel, by decide +kernel⟩, List.mem_of_getElem? (i := 154) (by decide +kernel), List.mem_of_getElem? (i := 603) (by decide +kernel), List.mem_of_getElem? (i := 604) (by decide +kernel)⟩
theorem lw_p41 : lw_okq (⟨"PolicyCompiler$Diagram", "nodeFor", "(II)I"⟩, 10) := ⟨⟨by decide +kernel, by decide +kernel⟩, List.mem_of_getElem? (i := 154) (by decide +kernel), List.mem_of_getElem? (i := 607) (by decide +kernel), List.mem_of_getElem? (i := 608) (by decide +kernel)⟩
theorem lw_p42 : lw_okq (⟨"PolicyCompiler$Diagram", "testWith", "(IIIII)I"⟩, 10) := ⟨⟨by decide +kernel, by decide +kernel⟩, List.mem_of_getElem? (i := 154) (by decide +kernel), List.mem_of_getElem? (i := 611) (by decide +kernel), List.mem_of_getElem? (i := 612) (by decide +kernel)⟩
theorem lw_p43 : lw_okq (⟨"PolicyCompiler$Diagram", "newTest", "(II)I"⟩, 10) := ⟨⟨by decide +kernel, by decide +kernel⟩, List.mem_of_getElem? (i := 154) (by decide +kernel), List.mem_of_getElem? (i := 619) (by decide +kernel), List.mem_of_getElem? (i := 620) (by decide +kernel)⟩
theorem lw_p44 : lw_okq (⟨"PolicyCompiler$Diagram", "depthOf", "(I)I"⟩, 10) := ⟨⟨by decide +kernel, by decide +kernel⟩, List.mem_of_getElem? (i := 154) (by decide +kernel), List.mem_of_getElem? (i := 623) (by decide +kernel), List.mem_of_getElem? (i := 624) (by decide +kernel)⟩
theorem lw_p45 : lw_okq (⟨"PolicyCompiler$Table", "addRow", "(II)V"⟩, 3) := ⟨⟨by decide +kernel, by decide +kernel⟩, List.mem_of_getElem? (i := 191) (by decide +kernel), List.mem_of_getElem? (i := 645) (by decide +kernel), List.mem_of_getElem? (i := 646) (by decide +kernel)⟩
theorem lw_p46 : lw_okq (⟨"PolicyCompiler$Diagram", "valuesLeadingTo", "(II)I"⟩, 10) := ⟨⟨by decide +kernel, by decide +kernel⟩, List.mem_of_getElem? (i := 154) (by decide +kernel), List.mem_of_getElem? (i := 657) (by decide +kernel), List.mem_of_getElem? (i := 658) (by decide +kernel)⟩
theorem lw_p47 : lw_okq (⟨"PolicyCompiler$Relation", "stepsFrom", "(I)I"⟩, 1) := ⟨⟨by decide +kernel, by decide +kernel⟩, List.mem_of_getElem? (i := 144) (by decide +kernel), List.mem_of_getElem? (i := 716) (by decide +kernel), List.mem_of_getElem? (i := 717) (by decide +kernel)⟩
def lw_privs_3 : List (MethodName × Nat) := [(⟨"PolicyCompiler$Evaluator", "assign", "(IIJ)V"⟩, 1), (⟨"PolicyCompiler$Evaluator", "chain", "(III)V"⟩, 1), (⟨"PolicyCompiler$Evaluator", "repeat", "(II)V"⟩, 1), (⟨"PolicyCompiler$Evaluator", "negate", "(II)V"⟩, 1), (⟨"PolicyCompiler$Evaluator", "choose", "(IIII)V"⟩, 1), (⟨"PolicyCompiler$Evaluator", "evaluateLeaf", "(LPolicyCompiler$Policy;I)V"⟩, 1), (⟨"PolicyCompiler$Diagram", "leafFor", "(IJ)I"⟩, 10), (⟨"PolicyCompiler$Diagram", "leafWith", "(JJ)I"⟩, 10), (⟨"PolicyCompiler$Diagram", "newLeaf", "(JJ)I"⟩, 10), (⟨"PolicyCompiler$Diagram", "nodeFor", "(II)I"⟩, 10), (⟨"PolicyCompiler$Diagram", "testWith", "(IIIII)I"⟩, 10), (⟨"PolicyCompiler$Diagram", "newTest", "(II)I"⟩, 10), (⟨"PolicyCompiler$Diagram", "depthOf", "(I)I"⟩, 10), (⟨"PolicyCompiler$Table", "addRow", "(II)V"⟩, 3), (⟨"PolicyCompiler$Diagram", "valuesLeadingTo", "(II)I"⟩, 10), (⟨"PolicyCompiler$Relation", "stepsFrom", "(I)I"⟩, 1)]
theorem lw_r3 : ∀ q ∈ lw_privs_3, lw_okq q := List.forall_mem_cons.mpr ⟨lw_p32, List.forall_mem_cons.mpr ⟨lw_p33, List.forall_mem_cons.mpr ⟨lw_p34, List.forall_mem_cons.mpr ⟨lw_p35, List.forall_mem_cons.mpr ⟨lw_p36, List.forall_mem_cons.mpr ⟨lw_p37, List.forall_mem_cons.mpr ⟨lw_p38, List.forall_mem_cons.mpr ⟨lw_p39, List.forall_mem_cons.mpr ⟨lw_p40, List.forall_mem_cons.mpr ⟨lw_p41, List.forall_mem_cons.mpr ⟨lw_p42, List.forall_mem_cons.mpr ⟨lw_p43, List.forall_mem_cons.mpr ⟨lw_p44, List.forall_mem_cons.mpr ⟨lw_p45, List.forall_mem_cons.mpr ⟨lw_p46, List.forall_mem_cons.mpr ⟨lw_p47, fun _ h => absurd h List.not_mem_nil⟩⟩⟩⟩⟩⟩⟩⟩⟩⟩⟩⟩⟩⟩⟩⟩
theorem lw_p48 : lw_okq (⟨"PolicyCompiler$Diagram", "twinOf", "(ILPolicyCompiler$Diagram;)I"⟩, 10) := ⟨⟨by decide +kernel, by decide +kernel⟩, List.mem_of_getElem? (i := 154) (by decide +kernel), List.mem_of_getElem? (i := 778) (by decide +kernel), List.mem_of_getElem? (i := 779) (by decide +kernel)⟩
theorem lw_p49 : lw_okq (⟨"PolicyCompiler$Diagram", "twinOfChild", "(II)I"⟩, 10) := ⟨⟨by decide +kernel, by decide +kernel⟩, List.mem_of_getElem? (i := 154) (by decide +kernel), List.mem_of_getElem? (i := 783) (by decide +kernel), List.mem_of_getElem? (i := 784) (by decide +kernel)⟩
theorem lw_p50 : lw_okq (⟨"PolicyCompilerModel", "fails", "(I)I"⟩, 43) := ⟨⟨by decide +kernel, by decide +kernel⟩, List.mem_of_getElem? (i := 889) (by decide +kernel), List.mem_of_getElem? (i := 1029) (by decide +kernel), List.mem_of_getElem? (i := 1030) (by decide +kernel)⟩
theorem lw_p51 : lw_okq (⟨"PolicyCompilerModel", "reads", "()I"⟩, 43) := ⟨⟨by decide +kernel, by decide +kernel⟩, List.mem_of_getElem? (i := 889) (by decide +kernel), List.mem_of_getElem? (i := 1051) (by decide +kernel), List.mem_of_getElem? (i := 1052) (by decide +kernel)⟩
theorem lw_p52 : lw_okq (⟨"PolicyCompilerModel", "isPredicateRow", "(I)Z"⟩, 43) := ⟨⟨by decide +kernel, by decide +kernel⟩, List.mem_of_getElem? (i := 889) (by decide +kernel), List.mem_of_getElem? (i := 1055) (by decide +kernel), List.mem_of_getElem? (i := 1056) (by decide +kernel)⟩
theorem lw_p53 : lw_okq (⟨"PolicyCompilerModel", "signOf", "(II)I"⟩, 43) := ⟨⟨by decide +kernel, by decide +kernel⟩, List.mem_of_getElem? (i := 889) (by decide +kernel), List.mem_of_getElem? (i := 1059) (by decide +kernel), List.mem_of_getElem? (i := 1060) (by decide +kernel)⟩
theorem lw_p54 : lw_okq (⟨"PolicyCompilerModel", "waits", "(IZ)V"⟩, 43) := ⟨⟨by decide +kernel, by decide +kernel⟩, List.mem_of_getElem? (i := 889) (by decide +kernel), List.mem_of_getElem? (i := 1063) (by decide +kernel), List.mem_of_getElem? (i := 1064) (by decide +kernel)⟩
theorem lw_p55 : lw_okq (⟨"PolicyCompilerModel", "atom", "()I"⟩, 43) := ⟨⟨by decide +kernel, by decide +kernel⟩, List.mem_of_getElem? (i := 889) (by decide +kernel), List.mem_of_getElem? (i := 1067) (by decide +kernel), List.mem_of_getElem? (i := 1068) (by decide +kernel)⟩
theorem lw_p56 : lw_okq (⟨"PolicyCompilerModel", "byteAt", "(I)I"⟩, 43) := ⟨⟨by decide +kernel, by decide +kernel⟩, List.mem_of_getElem? (i := 889) (by decide +kernel), List.mem_of_getElem? (i := 1071) (by decide +kernel), List.mem_of_getElem? (i := 1072) (by decide +kernel)⟩
theorem lw_p57 : lw_okq (⟨"PolicyCompilerModel", "pushes", "(I)V"⟩, 43) := ⟨⟨by decide +kernel, by decide +kernel⟩, List.mem_of_getElem? (i := 889) (by decide +kernel), List.mem_of_getElem? (i := 1075) (by decide +kernel), List.mem_of_getElem? (i := 1076) (by decide +kernel)⟩
theorem lw_p58 : lw_okq (⟨"PolicyCompilerModel", "field", "(I)I"⟩, 43) := ⟨⟨by decide +kernel, by decide +kernel⟩, List.mem_of_getElem? (i := 889) (by decide +kernel), List.mem_of_getElem? (i := 1079) (by decide +kernel), List.mem_of_getElem? (i := 1080) (by decide +kernel)⟩
theorem lw_p59 : lw_okq (⟨"PolicyCompilerModel", "makes", "(I)V"⟩, 43) := ⟨⟨by decide +kernel, by decide +kernel⟩, List.mem_of_getElem? (i := 889) (by decide +kernel), List.mem_of_getElem? (i := 1083) (by decide +kernel), List.mem_of_getElem? (i := 1084) (by decide +kernel)⟩
theorem lw_p60 : lw_okq (⟨"PolicyCompilerModel", "copies", "(I)V"⟩, 43) := ⟨⟨by decide +kernel, by decide +kernel⟩, List.mem_of_getElem? (i := 889) (by decide +kernel), List.mem_of_getElem? (i := 1087) (by decide +kernel), List.mem_of_getElem? (i := 1088) (by decide +kernel)⟩
theorem lw_p61 : lw_okq (⟨"PolicyCompilerModel", "endsFactor", "()I"⟩, 43) := ⟨⟨by decide +kernel, by decide +kernel⟩, List.mem_of_getElem? (i := 889) (by decide +kernel), List.mem_of_getElem? (i := 1091) (by decide +kernel), List.mem_of_getElem? (i := 1092) (by decide +kernel)⟩
theorem lw_p62 : lw_okq (⟨"PolicyCompilerModel", "lastOpen", "()I"⟩, 43) := ⟨⟨by decide +kernel, by decide +kernel⟩, List.mem_of_getElem? (i := 889) (by decide +kernel), List.mem_of_getElem? (i := 1095) (by decide +kernel), List.mem_of_getElem? (i := 1096) (by decide +kernel)⟩
theorem lw_p63 : lw_okq (⟨"PolicyCompilerModel", "behind", "()I"⟩, 43) := ⟨⟨by decide +kernel, by decide +kernel⟩, List.mem_of_getElem? (i := 889) (by decide +kernel), List.mem_of_getElem? (i := 1099) (by decide +kernel), List.mem_of_getElem? (i := 1100) (by decide +kernel)⟩
def lw_privs_4 : List (MethodName × Nat) := [(⟨"PolicyCompiler$Diagram", "twinOf", "(ILPolicyCompiler$Diagram;)I"⟩, 10), (⟨"PolicyCompiler$Diagram", "twinOfChild", "(II)I"⟩, 10), (⟨"PolicyCompilerModel", "fails", "(I)I"⟩, 43), (⟨"PolicyCompilerModel", "reads", "()I"⟩, 43), (⟨"PolicyCompilerModel", "isPredicateRow", "(I)Z"⟩, 43), (⟨"PolicyCompilerModel", "signOf", "(II)I"⟩, 43), (⟨"PolicyCompilerModel", "waits", "(IZ)V"⟩, 43), (⟨"PolicyCompilerModel", "atom", "()I"⟩, 43), (⟨"PolicyCompilerModel", "byteAt", "(I)I"⟩, 43), (⟨"PolicyCompilerModel", "pushes", "(I)V"⟩, 43), (⟨"PolicyCompilerModel", "field", "(I)I"⟩, 43), (⟨"PolicyCompilerModel", "makes", "(I)V"⟩, 43), (⟨"PolicyCompilerModel", "copies", "(I)V"⟩, 43), (⟨"PolicyCompilerModel", "endsFactor", "()I"⟩, 43), (⟨"PolicyCompilerModel", "lastOpen", "()I"⟩, 43), (⟨"PolicyCompilerModel", "behind", "()I"⟩, 43)]
theorem lw_r4 : ∀ q ∈ lw_privs_4, lw_okq q := List.forall_mem_cons.mpr ⟨lw_p48, List.forall_mem_cons.mpr ⟨lw_p49, List.forall_mem_cons.mpr ⟨lw_p50, List.forall_mem_cons.mpr ⟨lw_p51, List.forall_mem_cons.mpr ⟨lw_p52, List.forall_mem_cons.mpr ⟨lw_p53, List.forall_mem_cons.mpr ⟨lw_p54, List.forall_mem_cons.mpr ⟨lw_p55, List.forall_mem_cons.mpr ⟨lw_p56, List.forall_mem_cons.mpr ⟨lw_p57, List.forall_mem_cons.mpr ⟨lw_p58, List.forall_mem_cons.mpr ⟨lw_p59, List.forall_mem_cons.mpr ⟨lw_p60, List.forall_mem_cons.mpr ⟨lw_p61, List.forall_mem_cons.mpr ⟨lw_p62, List.forall_mem_cons.mpr ⟨lw_p63, fun _ h => absurd h List.not_mem_nil⟩⟩⟩⟩⟩⟩⟩⟩⟩⟩⟩⟩⟩⟩⟩⟩
theorem lw_p64 : lw_okq (⟨"PolicyCompilerModel", "joins", "(Z)V"⟩, 43) := ⟨⟨by decide +kernel, by decide +kernel⟩, List.mem_of_getElem? (i := 889) (by decide +kernel), List.mem_of_getElem? (i := 1103) (by decide +kernel), List.mem_of_getElem? (i := 1104) (by decide +kernel)⟩
theorem lw_p65 : lw_okq (⟨"PolicyCompilerModel", "joinsTwo", "(I)V"⟩, 43) := ⟨⟨by decide +kernel, by decide +kernel⟩, List.mem_of_getElem? (i := 889) (by decide +kernel), List.mem_of_getElem? (i := 1107) (by decide +kernel), List.mem_of_getElem? (i := 1108) (by decide +kernel)⟩
theorem lw_p66 : lw_okq (⟨"PolicyCompilerModel", "keeps", "(I)I"⟩, 43) := ⟨⟨by decide +kernel, by decide +kernel⟩, List.mem_of_getElem? (i := 889) (by decide +kernel), List.mem_of_getElem? (i := 1111) (by decide +kernel), List.mem_of_getElem? (i := 1112) (by decide +kernel)⟩
theorem lw_p67 : lw_okq (⟨"PolicyCompilerModel", "saves", "()V"⟩, 43) := ⟨⟨by decide +kernel, by decide +kernel⟩, List.mem_of_getElem? (i := 889) (by decide +kernel), List.mem_of_getElem? (i := 1115) (by decide +kernel), List.mem_of_getElem? (i := 1116) (by decide +kernel)⟩
theorem lw_p68 : lw_okq (⟨"PolicyCompilerModel", "prints", "(I)V"⟩, 43) := ⟨⟨by decide +kernel, by decide +kernel⟩, List.mem_of_getElem? (i := 889) (by decide +kernel), List.mem_of_getElem? (i := 1139) (by decide +kernel), List.mem_of_getElem? (i := 1140) (by decide +kernel)⟩
theorem lw_p69 : lw_okq (⟨"PolicyCompilerModel", "laysOperands", "(I)V"⟩, 43) := ⟨⟨by decide +kernel, by decide +kernel⟩, List.mem_of_getElem? (i := 889) (by decide +kernel), List.mem_of_getElem? (i := 1143) (by decide +kernel), List.mem_of_getElem? (i := 1144) (by decide +kernel)⟩
theorem lw_p70 : lw_okq (⟨"PolicyCompilerModel", "shows", "(I)V"⟩, 43) := ⟨⟨by decide +kernel, by decide +kernel⟩, List.mem_of_getElem? (i := 889) (by decide +kernel), List.mem_of_getElem? (i := 1147) (by decide +kernel), List.mem_of_getElem? (i := 1148) (by decide +kernel)⟩
theorem lw_p71 : lw_okq (⟨"PolicyCompilerModel", "expands", "(II)V"⟩, 43) := ⟨⟨by decide +kernel, by decide +kernel⟩, List.mem_of_getElem? (i := 889) (by decide +kernel), List.mem_of_getElem? (i := 1151) (by decide +kernel), List.mem_of_getElem? (i := 1152) (by decide +kernel)⟩
theorem lw_p72 : lw_okq (⟨"PolicyCompilerModel", "pilesOperand", "(IZ)V"⟩, 43) := ⟨⟨by decide +kernel, by decide +kernel⟩, List.mem_of_getElem? (i := 889) (by decide +kernel), List.mem_of_getElem? (i := 1155) (by decide +kernel), List.mem_of_getElem? (i := 1156) (by decide +kernel)⟩
theorem lw_p73 : lw_okq (⟨"PolicyCompilerModel", "piles", "(I)V"⟩, 43) := ⟨⟨by decide +kernel, by decide +kernel⟩, List.mem_of_getElem? (i := 889) (by decide +kernel), List.mem_of_getElem? (i := 1159) (by decide +kernel), List.mem_of_getElem? (i := 1160) (by decide +kernel)⟩
theorem lw_p74 : lw_okq (⟨"PolicyCompilerModel", "outputsOf", "(II)J"⟩, 43) := ⟨⟨by decide +kernel, by decide +kernel⟩, List.mem_of_getElem? (i := 889) (by decide +kernel), List.mem_of_getElem? (i := 1170) (by decide +kernel), List.mem_of_getElem? (i := 1171) (by decide +kernel)⟩
theorem lw_p75 : lw_okq (⟨"PolicyCompilerModel", "evaluates", "(I)V"⟩, 43) := ⟨⟨by decide +kernel, by decide +kernel⟩, List.mem_of_getElem? (i := 889) (by decide +kernel), List.mem_of_getElem? (i := 1174) (by decide +kernel), List.mem_of_getElem? (i := 1175) (by decide +kernel)⟩
theorem lw_p76 : lw_okq (⟨"PolicyCompilerModel", "simple", "(I)V"⟩, 43) := ⟨⟨by decide +kernel, by decide +kernel⟩, List.mem_of_getElem? (i := 889) (by decide +kernel), List.mem_of_getElem? (i := 1178) (by decide +kernel), List.mem_of_getElem? (i := 1179) (by decide +kernel)⟩
theorem lw_p77 : lw_okq (⟨"PolicyCompilerModel", "operates", "(I)V"⟩, 43) := ⟨⟨by decide +kernel, by decide +kernel⟩, List.mem_of_getElem? (i := 889) (by decide +kernel), List.mem_of_getElem? (i := 1185) (by decide +kernel), List.mem_of_getElem? (i := 1186) (by decide +kernel)⟩
theorem lw_p78 : lw_okq (⟨"PolicyCompilerModel", "turned", "(JI)J"⟩, 43) := ⟨⟨by decide +kernel, by decide +kernel⟩, List.mem_of_getElem? (i := 889) (by decide +kernel), List.mem_of_getElem? (i := 1189) (by decide +kernel), List.mem_of_getElem? (i := 1190) (by decide +kernel)⟩
theorem lw_p79 : lw_okq (⟨"PolicyCompilerModel", "reached", "(II)J"⟩, 43) := ⟨⟨by decide +kernel, by decide +kernel⟩, List.mem_of_getElem? (i := 889) (by decide +kernel), List.mem_of_getElem? (i := 1193) (by decide +kernel), List.mem_of_getElem? (i := 1194) (by decide +kernel)⟩
def lw_privs_5 : List (MethodName × Nat) := [(⟨"PolicyCompilerModel", "joins", "(Z)V"⟩, 43), (⟨"PolicyCompilerModel", "joinsTwo", "(I)V"⟩, 43), (⟨"PolicyCompilerModel", "keeps", "(I)I"⟩, 43), (⟨"PolicyCompilerModel", "saves", "()V"⟩, 43), (⟨"PolicyCompilerModel", "prints", "(I)V"⟩, 43), (⟨"PolicyCompilerModel", "laysOperands", "(I)V"⟩, 43), (⟨"PolicyCompilerModel", "shows", "(I)V"⟩, 43), (⟨"PolicyCompilerModel", "expands", "(II)V"⟩, 43), (⟨"PolicyCompilerModel", "pilesOperand", "(IZ)V"⟩, 43), (⟨"PolicyCompilerModel", "piles", "(I)V"⟩, 43), (⟨"PolicyCompilerModel", "outputsOf", "(II)J"⟩, 43), (⟨"PolicyCompilerModel", "evaluates", "(I)V"⟩, 43), (⟨"PolicyCompilerModel", "simple", "(I)V"⟩, 43), (⟨"PolicyCompilerModel", "operates", "(I)V"⟩, 43), (⟨"PolicyCompilerModel", "turned", "(JI)J"⟩, 43), (⟨"PolicyCompilerModel", "reached", "(II)J"⟩, 43)]
theorem lw_r5 : ∀ q ∈ lw_privs_5, lw_okq q := List.forall_mem_cons.mpr ⟨lw_p64, List.forall_mem_cons.mpr ⟨lw_p65, List.forall_mem_cons.mpr ⟨lw_p66, List.forall_mem_cons.mpr ⟨lw_p67, List.forall_mem_cons.mpr ⟨lw_p68, List.forall_mem_cons.mpr ⟨lw_p69, List.forall_mem_cons.mpr ⟨lw_p70, List.forall_mem_cons.mpr ⟨lw_p71, List.forall_mem_cons.mpr ⟨lw_p72, List.forall_mem_cons.mpr ⟨lw_p73, List.forall_mem_cons.mpr ⟨lw_p74, List.forall_mem_cons.mpr ⟨lw_p75, List.forall_mem_cons.mpr ⟨lw_p76, List.forall_mem_cons.mpr ⟨lw_p77, List.forall_mem_cons.mpr ⟨lw_p78, List.forall_mem_cons.mpr ⟨lw_p79, fun _ h => absurd h List.not_mem_nil⟩⟩⟩⟩⟩⟩⟩⟩⟩⟩⟩⟩⟩⟩⟩⟩
theorem lw_p80 : lw_okq (⟨"PolicyCompilerModel", "acceptedOf", "(I)J"⟩, 43) := ⟨⟨by decide +kernel, by decide +kernel⟩, List.mem_of_getElem? (i := 889) (by decide +kernel), List.mem_of_getElem? (i := 1202) (by decide +kernel), List.mem_of_getElem? (i := 1203) (by decide +kernel)⟩
theorem lw_p81 : lw_okq (⟨"PolicyCompilerModel", "spreadOf", "(I)I"⟩, 43) := ⟨⟨by decide +kernel, by decide +kernel⟩, List.mem_of_getElem? (i := 889) (by decide +kernel), List.mem_of_getElem? (i := 1210) (by decide +kernel), List.mem_of_getElem? (i := 1211) (by decide +kernel)⟩
theorem lw_p82 : lw_okq (⟨"PolicyCompilerModel", "roundsOf", "(I)I"⟩, 43) := ⟨⟨by decide +kernel, by decide +kernel⟩, List.mem_of_getElem? (i := 889) (by decide +kernel), List.mem_of_getElem? (i := 1221) (by decide +kernel), List.mem_of_getElem? (i := 1222) (by decide +kernel)⟩
theorem lw_p83 : lw_okq (⟨"PolicyCompilerModel", "compared", "(II)I"⟩, 43) := ⟨⟨by decide +kernel, by decide +kernel⟩, List.mem_of_getElem? (i := 889) (by decide +kernel), List.mem_of_getElem? (i := 1229) (by decide +kernel), List.mem_of_getElem? (i := 1230) (by decide +kernel)⟩
theorem lw_p84 : lw_okq (⟨"PolicyCompilerModel", "laysBoth", "(II)V"⟩, 43) := ⟨⟨by decide +kernel, by decide +kernel⟩, List.mem_of_getElem? (i := 889) (by decide +kernel), List.mem_of_getElem? (i := 1233) (by decide +kernel), List.mem_of_getElem? (i := 1234) (by decide +kernel)⟩
theorem lw_p85 : lw_okq (⟨"PolicyCompilerModel", "witnessOf", "(II)I"⟩, 43) := ⟨⟨by decide +kernel, by decide +kernel⟩, List.mem_of_getElem? (i := 889) (by decide +kernel), List.mem_of_getElem? (i := 1241) (by decide +kernel), List.mem_of_getElem? (i := 1242) (by decide +kernel)⟩
theorem lw_p86 : lw_okq (⟨"PolicyCompilerModel", "sizeOf", "(I)I"⟩, 43) := ⟨⟨by decide +kernel, by decide +kernel⟩, List.mem_of_getElem? (i := 889) (by decide +kernel), List.mem_of_getElem? (i := 1253) (by decide +kernel), List.mem_of_getElem? (i := 1254) (by decide +kernel)⟩
theorem lw_p87 : lw_okq (⟨"PolicyCompilerModel", "drawsAlone", "(I)I"⟩, 43) := ⟨⟨by decide +kernel, by decide +kernel⟩, List.mem_of_getElem? (i := 889) (by decide +kernel), List.mem_of_getElem? (i := 1257) (by decide +kernel), List.mem_of_getElem? (i := 1258) (by decide +kernel)⟩
theorem lw_p88 : lw_okq (⟨"PolicyCompilerModel", "clears", "()V"⟩, 43) := ⟨⟨by decide +kernel, by decide +kernel⟩, List.mem_of_getElem? (i := 889) (by decide +kernel), List.mem_of_getElem? (i := 1261) (by decide +kernel), List.mem_of_getElem? (i := 1262) (by decide +kernel)⟩
theorem lw_p89 : lw_okq (⟨"PolicyCompilerModel", "draws", "(II)I"⟩, 43) := ⟨⟨by decide +kernel, by decide +kernel⟩, List.mem_of_getElem? (i := 889) (by decide +kernel), List.mem_of_getElem? (i := 1265) (by decide +kernel), List.mem_of_getElem? (i := 1266) (by decide +kernel)⟩
theorem lw_p90 : lw_okq (⟨"PolicyCompilerModel", "leafOf", "(I)I"⟩, 43) := ⟨⟨by decide +kernel, by decide +kernel⟩, List.mem_of_getElem? (i := 889) (by decide +kernel), List.mem_of_getElem? (i := 1269) (by decide +kernel), List.mem_of_getElem? (i := 1270) (by decide +kernel)⟩
theorem lw_p91 : lw_okq (⟨"PolicyCompilerModel", "nodeOver", "(II)I"⟩, 43) := ⟨⟨by decide +kernel, by decide +kernel⟩, List.mem_of_getElem? (i := 889) (by decide +kernel), List.mem_of_getElem? (i := 1276) (by decide +kernel), List.mem_of_getElem? (i := 1277) (by decide +kernel)⟩
theorem lw_p92 : lw_okq (⟨"PolicyCompilerModel", "isTest", "(III)Z"⟩, 43) := ⟨⟨by decide +kernel, by decide +kernel⟩, List.mem_of_getElem? (i := 889) (by decide +kernel), List.mem_of_getElem? (i := 1280) (by decide +kernel), List.mem_of_getElem? (i := 1281) (by decide +kernel)⟩
theorem lw_p93 : lw_okq (⟨"PolicyCompilerModel", "leavesOf", "(I)I"⟩, 43) := ⟨⟨by decide +kernel, by decide +kernel⟩, List.mem_of_getElem? (i := 889) (by decide +kernel), List.mem_of_getElem? (i := 1288) (by decide +kernel), List.mem_of_getElem? (i := 1289) (by decide +kernel)⟩
theorem lw_p94 : lw_okq (⟨"PolicyCompilerModel", "depthOf", "(I)I"⟩, 43) := ⟨⟨by decide +kernel, by decide +kernel⟩, List.mem_of_getElem? (i := 889) (by decide +kernel), List.mem_of_getElem? (i := 1296) (by decide +kernel), List.mem_of_getElem? (i := 1297) (by decide +kernel)⟩
theorem lw_p95 : lw_okq (⟨"PolicyCompilerModel", "tabulates", "(I)V"⟩, 43) := ⟨⟨by decide +kernel, by decide +kernel⟩, List.mem_of_getElem? (i := 889) (by decide +kernel), List.mem_of_getElem? (i := 1308) (by decide +kernel), List.mem_of_getElem? (i := 1309) (by decide +kernel)⟩
def lw_privs_6 : List (MethodName × Nat) := [(⟨"PolicyCompilerModel", "acceptedOf", "(I)J"⟩, 43), (⟨"PolicyCompilerModel", "spreadOf", "(I)I"⟩, 43), (⟨"PolicyCompilerModel", "roundsOf", "(I)I"⟩, 43), (⟨"PolicyCompilerModel", "compared", "(II)I"⟩, 43), (⟨"PolicyCompilerModel", "laysBoth", "(II)V"⟩, 43), (⟨"PolicyCompilerModel", "witnessOf", "(II)I"⟩, 43), (⟨"PolicyCompilerModel", "sizeOf", "(I)I"⟩, 43), (⟨"PolicyCompilerModel", "drawsAlone", "(I)I"⟩, 43), (⟨"PolicyCompilerModel", "clears", "()V"⟩, 43), (⟨"PolicyCompilerModel", "draws", "(II)I"⟩, 43), (⟨"PolicyCompilerModel", "leafOf", "(I)I"⟩, 43), (⟨"PolicyCompilerModel", "nodeOver", "(II)I"⟩, 43), (⟨"PolicyCompilerModel", "isTest", "(III)Z"⟩, 43), (⟨"PolicyCompilerModel", "leavesOf", "(I)I"⟩, 43), (⟨"PolicyCompilerModel", "depthOf", "(I)I"⟩, 43), (⟨"PolicyCompilerModel", "tabulates", "(I)V"⟩, 43)]
theorem lw_r6 : ∀ q ∈ lw_privs_6, lw_okq q := List.forall_mem_cons.mpr ⟨lw_p80, List.forall_mem_cons.mpr ⟨lw_p81, List.forall_mem_cons.mpr ⟨lw_p82, List.forall_mem_cons.mpr ⟨lw_p83, List.forall_mem_cons.mpr ⟨lw_p84, List.forall_mem_cons.mpr ⟨lw_p85, List.forall_mem_cons.mpr ⟨lw_p86, List.forall_mem_cons.mpr ⟨lw_p87, List.forall_mem_cons.mpr ⟨lw_p88, List.forall_mem_cons.mpr ⟨lw_p89, List.forall_mem_cons.mpr ⟨lw_p90, List.forall_mem_cons.mpr ⟨lw_p91, List.forall_mem_cons.mpr ⟨lw_p92, List.forall_mem_cons.mpr ⟨lw_p93, List.forall_mem_cons.mpr ⟨lw_p94, List.forall_mem_cons.mpr ⟨lw_p95, fun _ h => absurd h List.not_mem_nil⟩⟩⟩⟩⟩⟩⟩⟩⟩⟩⟩⟩⟩⟩⟩⟩
theorem lw_p96 : lw_okq (⟨"PolicyCompilerModel", "mainOf", "(I)I"⟩, 43) := ⟨⟨by decide +kernel, by decide +kernel⟩, List.mem_of_getElem? (i := 889) (by decide +kernel), List.mem_of_getElem? (i := 1312) (by decide +kernel), List.mem_of_getElem? (i := 1313) (by decide +kernel)⟩
theorem lw_p97 : lw_okq (⟨"PolicyCompilerModel", "hasRow", "(II)Z"⟩, 43) := ⟨⟨by decide +kernel, by decide +kernel⟩, List.mem_of_getElem? (i := 889) (by decide +kernel), List.mem_of_getElem? (i := 1323) (by decide +kernel), List.mem_of_getElem? (i := 1324) (by decide +kernel)⟩
theorem lw_p98 : lw_okq (⟨"PolicyCompilerModel", "actionAt", "(II)I"⟩, 43) := ⟨⟨by decide +kernel, by decide +kernel⟩, List.mem_of_getElem? (i := 889) (by decide +kernel), List.mem_of_getElem? (i := 1334) (by decide +kernel), List.mem_of_getElem? (i := 1335) (by decide +kernel)⟩
theorem lw_p99 : lw_okq (⟨"PolicyCompilerModel", "hasAction", "(II)Z"⟩, 43) := ⟨⟨by decide +kernel, by decide +kernel⟩, List.mem_of_getElem? (i := 889) (by decide +kernel), List.mem_of_getElem? (i := 1338) (by decide +kernel), List.mem_of_getElem? (i := 1339) (by decide +kernel)⟩
theorem lw_p100 : lw_okq (⟨"PolicyCompilerModel", "hitOf", "(I)I"⟩, 43) := ⟨⟨by decide +kernel, by decide +kernel⟩, List.mem_of_getElem? (i := 889) (by decide +kernel), List.mem_of_getElem? (i := 1346) (by decide +kernel), List.mem_of_getElem? (i := 1347) (by decide +kernel)⟩
theorem lw_p101 : lw_okq (⟨"PolicyCompilerModel", "mix", "(J)V"⟩, 43) := ⟨⟨by decide +kernel, by decide +kernel⟩, List.mem_of_getElem? (i := 889) (by decide +kernel), List.mem_of_getElem? (i := 1363) (by decide +kernel), List.mem_of_getElem? (i := 1364) (by decide +kernel)⟩
theorem lw_p102 : lw_okq (⟨"PolicyCompilerModel", "mixSlot", "(I)V"⟩, 43) := ⟨⟨by decide +kernel, by decide +kernel⟩, List.mem_of_getElem? (i := 889) (by decide +kernel), List.mem_of_getElem? (i := 1368) (by decide +kernel), List.mem_of_getElem? (i := 1369) (by decide +kernel)⟩
def lw_privs_7 : List (MethodName × Nat) := [(⟨"PolicyCompilerModel", "mainOf", "(I)I"⟩, 43), (⟨"PolicyCompilerModel", "hasRow", "(II)Z"⟩, 43), (⟨"PolicyCompilerModel", "actionAt", "(II)I"⟩, 43), (⟨"PolicyCompilerModel", "hasAction", "(II)Z"⟩, 43), (⟨"PolicyCompilerModel", "hitOf", "(I)I"⟩, 43), (⟨"PolicyCompilerModel", "mix", "(J)V"⟩, 43), (⟨"PolicyCompilerModel", "mixSlot", "(I)V"⟩, 43)]
theorem lw_r7 : ∀ q ∈ lw_privs_7, lw_okq q := List.forall_mem_cons.mpr ⟨lw_p96, List.forall_mem_cons.mpr ⟨lw_p97, List.forall_mem_cons.mpr ⟨lw_p98, List.forall_mem_cons.mpr ⟨lw_p99, List.forall_mem_cons.mpr ⟨lw_p100, List.forall_mem_cons.mpr ⟨lw_p101, List.forall_mem_cons.mpr ⟨lw_p102, fun _ h => absurd h List.not_mem_nil⟩⟩⟩⟩⟩⟩⟩
def lw_privs : List (MethodName × Nat) := lw_privs_1 ++ (lw_privs_2 ++ (lw_privs_3 ++ (lw_privs_4 ++ (lw_privs_5 ++ (lw_privs_6 ++ (lw_privs_7))))))
def lw_tbl : List Cond := k2_sels lw_privs ++ tables_1
theorem lw_privs_ok : ∀ q ∈ lw_privs, lw_okq q := by
  show ∀ q ∈ lw_privs_1 ++ (lw_privs_2 ++ (lw_privs_3 ++ (lw_privs_4 ++ (lw_privs_5 ++ (lw_privs_6 ++ (lw_privs_7)))))), lw_okq q
  exact List.forall_mem_append.mpr ⟨lw_r1, List.forall_mem_append.mpr ⟨lw_r2, List.forall_mem_append.mpr ⟨lw_r3, List.forall_mem_append.mpr ⟨lw_r4, List.forall_mem_append.mpr ⟨lw_r5, List.forall_mem_append.mpr ⟨lw_r6, lw_r7⟩⟩⟩⟩⟩⟩
end
section
def RX0 : String := "PolicyCompiler$Diagram"
def TX0 : u_T := fun k => match k with
  | 0 => ("PolicyCompiler$Diagram", "lowActions", "[J", true)
  | 1 => ("PolicyCompiler$Diagram", "highActions", "[J", true)
  | 2 => ("PolicyCompiler$Diagram", "fields", "[I", true)
  | 3 => ("PolicyCompiler$Diagram", "depths", "[I", true)
  | 4 => ("PolicyCompiler$Diagram", "children", "[I", true)
  | 5 => ("PolicyCompiler$Diagram", "leafCount", "I", false)
  | 6 => ("PolicyCompiler$Diagram", "nodeCount", "I", false)
  | 7 => ("PolicyCompiler$Diagram", "root", "I", false)
  | 8 => ("PolicyCompiler$Diagram", "layer", "[I", true)
  | _ => ("PolicyCompiler$Diagram", "twins", "[I", true)
def tyX0 : Nat → FieldType := fun k => match k with
  | 0 => .array .long
  | 1 => .array .long
  | 2 => .array .int
  | 3 => .array .int
  | 4 => .array .int
  | 5 => .int
  | 6 => .int
  | 7 => .int
  | 8 => .array .int
  | _ => .array .int
abbrev wsX00 : List Cond := u_ws RX0 TX0 10
theorem nmX0 : ∀ a, a < 10 → ∀ b, b < 10 → a ≠ b → (TX0 a).2.1 ≠ (TX0 b).2.1 := by decide +kernel
theorem tyX0_ok : ∀ k, k < 10 → parseFieldDescriptor (TX0 k).2.2.1 = some (tyX0 k) := by decide +kernel
abbrev cX0_init : ByteArray := prog_2_method_1_code
def yX0_init : MethodName := ⟨RX0, "<init>", "()V"⟩
abbrev cX0_nodeTotal : ByteArray := prog_2_method_2_code
def yX0_nodeTotal : MethodName := ⟨RX0, "nodeTotal", "()I"⟩
abbrev cX0_leafTotal : ByteArray := prog_2_method_3_code
def yX0_leafTotal : MethodName := ⟨RX0, "leafTotal", "()I"⟩
abbrev cX0_longestWay : ByteArray := prog_2_method_4_code
def yX0_longestWay : MethodName := ⟨RX0, "longestWay", "()I"⟩
abbrev cX0_depthOf : ByteArray := prog_2_method_5_code
def yX0_depthOf : MethodName := ⟨RX0, "depthOf", "(I)I"⟩
abbrev cX0_rootNode : ByteArray := prog_2_method_6_code
def yX0_rootNode : MethodName := ⟨RX0, "rootNode", "()I"⟩
abbrev cX0_isLeaf : ByteArray := prog_2_method_7_code
def yX0_isLeaf : MethodName := ⟨RX0, "isLeaf", "(I)Z"⟩
abbrev cX0_fieldOf : ByteArray := prog_2_method_8_code
def yX0_fieldOf : MethodName := ⟨RX0, "fieldOf", "(I)I"⟩
abbrev cX0_childOf : ByteArray := prog_2_method_9_code
def yX0_childOf : MethodName := ⟨RX0, "childOf", "(II)I"⟩
abbrev cX0_build : ByteArray := prog_2_method_10_code
def yX0_build : MethodName := ⟨RX0, "build", "(LPolicyCompiler$Relation;)V"⟩
abbrev cX0_leafFor : ByteArray := prog_2_method_11_code
def yX0_leafFor : MethodName := ⟨RX0, "leafFor", "(IJ)I"⟩
abbrev cX0_leafWith : ByteArray := prog_2_method_12_code
def yX0_leafWith : MethodName := ⟨RX0, "leafWith", "(JJ)I"⟩
abbrev cX0_newLeaf : ByteArray := prog_2_method_13_code
def yX0_newLeaf : MethodName := ⟨RX0, "newLeaf", "(JJ)I"⟩
abbrev cX0_nodeFor : ByteArray := prog_2_method_14_code
def yX0_nodeFor : MethodName := ⟨RX0, "nodeFor", "(II)I"⟩
abbrev cX0_testWith : ByteArray := prog_2_method_15_code
def yX0_testWith : MethodName := ⟨RX0, "testWith", "(IIIII)I"⟩
abbrev cX0_newTest : ByteArray := prog_2_method_16_code
def yX0_newTest : MethodName := ⟨RX0, "newTest", "(II)I"⟩
abbrev cX0_mainChildOf : ByteArray := prog_2_method_17_code
def yX0_mainChildOf : MethodName := ⟨RX0, "mainChildOf", "(I)I"⟩
abbrev cX0_valuesLeadingTo : ByteArray := prog_2_method_18_code
def yX0_valuesLeadingTo : MethodName := ⟨RX0, "valuesLeadingTo", "(II)I"⟩
abbrev cX0_twinsIn : ByteArray := prog_2_method_19_code
def yX0_twinsIn : MethodName := ⟨RX0, "twinsIn", "(LPolicyCompiler$Diagram;)I"⟩
abbrev cX0_twinOf : ByteArray := prog_2_method_20_code
def yX0_twinOf : MethodName := ⟨RX0, "twinOf", "(ILPolicyCompiler$Diagram;)I"⟩
abbrev cX0_twinOfChild : ByteArray := prog_2_method_21_code
def yX0_twinOfChild : MethodName := ⟨RX0, "twinOfChild", "(II)I"⟩
abbrev cX0_hasAction : ByteArray := prog_2_method_22_code
def yX0_hasAction : MethodName := ⟨RX0, "hasAction", "(II)Z"⟩
abbrev cX0_actionTotal : ByteArray := prog_2_method_23_code
def yX0_actionTotal : MethodName := ⟨RX0, "actionTotal", "(I)I"⟩
abbrev cX0_actionAt : ByteArray := prog_2_method_24_code
def yX0_actionAt : MethodName := ⟨RX0, "actionAt", "(II)I"⟩
def RX1 : String := "PolicyCompiler$Evaluator"
def TX1 : u_T := fun k => match k with
  | _ => ("PolicyCompiler$Evaluator", "images", "[J", true)
def tyX1 : Nat → FieldType := fun k => match k with
  | _ => .array .long
abbrev wsX10 : List Cond := u_ws RX1 TX1 1
theorem nmX1 : ∀ a, a < 1 → ∀ b, b < 1 → a ≠ b → (TX1 a).2.1 ≠ (TX1 b).2.1 := by decide +kernel
theorem tyX1_ok : ∀ k, k < 1 → parseFieldDescriptor (TX1 k).2.2.1 = some (tyX1 k) := by decide +kernel
abbrev cX1_init : ByteArray := prog_3_method_1_code
def yX1_init : MethodName := ⟨RX1, "<init>", "()V"⟩
abbrev cX1_evaluate : ByteArray := prog_3_method_2_code
def yX1_evaluate : MethodName := ⟨RX1, "evaluate", "(LPolicyCompiler$Policy;LPolicyCompiler$Relation;)V"⟩
abbrev cX1_evaluateNode : ByteArray := prog_3_method_3_code
def yX1_evaluateNode : MethodName := ⟨RX1, "evaluateNode", "(LPolicyCompiler$Policy;I)V"⟩
abbrev cX1_evaluateLeaf : ByteArray := prog_3_method_4_code
def yX1_evaluateLeaf : MethodName := ⟨RX1, "evaluateLeaf", "(LPolicyCompiler$Policy;I)V"⟩
abbrev cX1_unite : ByteArray := prog_3_method_5_code
def yX1_unite : MethodName := ⟨RX1, "unite", "(III)V"⟩
abbrev cX1_chain : ByteArray := prog_3_method_6_code
def yX1_chain : MethodName := ⟨RX1, "chain", "(III)V"⟩
abbrev cX1_repeat : ByteArray := prog_3_method_7_code
def yX1_repeat : MethodName := ⟨RX1, "repeat", "(II)V"⟩
abbrev cX1_negate : ByteArray := prog_3_method_8_code
def yX1_negate : MethodName := ⟨RX1, "negate", "(II)V"⟩
abbrev cX1_choose : ByteArray := prog_3_method_9_code
def yX1_choose : MethodName := ⟨RX1, "choose", "(IIII)V"⟩
abbrev cX1_imageOf : ByteArray := prog_3_method_10_code
def yX1_imageOf : MethodName := ⟨RX1, "imageOf", "(II)J"⟩
abbrev cX1_assign : ByteArray := prog_3_method_11_code
def yX1_assign : MethodName := ⟨RX1, "assign", "(IIJ)V"⟩
def RX2 : String := "PolicyCompiler$History"
def TX2 : u_T := fun k => match k with
  | 0 => ("PolicyCompiler$History", "changed", "[I", true)
  | 1 => ("PolicyCompiler$History", "before", "[LPolicyCompiler$Policy;", true)
  | _ => ("PolicyCompiler$History", "saved", "I", false)
def tyX2 : Nat → FieldType := fun k => match k with
  | 0 => .array .int
  | 1 => .array (.object "PolicyCompiler$Policy")
  | _ => .int
abbrev wsX20 : List Cond := u_ws RX2 TX2 3
theorem nmX2 : ∀ a, a < 3 → ∀ b, b < 3 → a ≠ b → (TX2 a).2.1 ≠ (TX2 b).2.1 := by decide +kernel
theorem tyX2_ok : ∀ k, k < 3 → parseFieldDescriptor (TX2 k).2.2.1 = some (tyX2 k) := by decide +kernel
abbrev cX2_init : ByteArray := prog_4_method_1_code
def yX2_init : MethodName := ⟨RX2, "<init>", "()V"⟩
abbrev cX2_savedCount : ByteArray := prog_4_method_2_code
def yX2_savedCount : MethodName := ⟨RX2, "savedCount", "()I"⟩
abbrev cX2_save : ByteArray := prog_4_method_3_code
def yX2_save : MethodName := ⟨RX2, "save", "(ILPolicyCompiler$Policy;)V"⟩
abbrev cX2_dropOldest : ByteArray := prog_4_method_4_code
def yX2_dropOldest : MethodName := ⟨RX2, "dropOldest", "()V"⟩
abbrev cX2_newestSlot : ByteArray := prog_4_method_5_code
def yX2_newestSlot : MethodName := ⟨RX2, "newestSlot", "()I"⟩
abbrev cX2_newestPolicy : ByteArray := prog_4_method_6_code
def yX2_newestPolicy : MethodName := ⟨RX2, "newestPolicy", "()LPolicyCompiler$Policy;"⟩
abbrev cX2_dropNewest : ByteArray := prog_4_method_7_code
def yX2_dropNewest : MethodName := ⟨RX2, "dropNewest", "()V"⟩
def RX3 : String := "PolicyCompiler$Parser"
def TX3 : u_T := fun k => match k with
  | 0 => ("PolicyCompiler$Parser", "opened", "[I", true)
  | 1 => ("PolicyCompiler$Parser", "openedAt", "[I", true)
  | 2 => ("PolicyCompiler$Parser", "openCount", "I", false)
  | 3 => ("PolicyCompiler$Parser", "predicates", "[Z", true)
  | 4 => ("PolicyCompiler$Parser", "operandCount", "I", false)
  | 5 => ("PolicyCompiler$Parser", "built", "LPolicyCompiler$Policy;", true)
  | 6 => ("PolicyCompiler$Parser", "state", "I", false)
  | 7 => ("PolicyCompiler$Parser", "field", "I", false)
  | 8 => ("PolicyCompiler$Parser", "sign", "I", false)
  | _ => ("PolicyCompiler$Parser", "error", "I", false)
def tyX3 : Nat → FieldType := fun k => match k with
  | 0 => .array .int
  | 1 => .array .int
  | 2 => .int
  | 3 => .array .boolean
  | 4 => .int
  | 5 => .object "PolicyCompiler$Policy"
  | 6 => .int
  | 7 => .int
  | 8 => .int
  | _ => .int
abbrev wsX30 : List Cond := u_ws RX3 TX3 10
theorem nmX3 : ∀ a, a < 10 → ∀ b, b < 10 → a ≠ b → (TX3 a).2.1 ≠ (TX3 b).2.1 := by decide +kernel
theorem tyX3_ok : ∀ k, k < 10 → parseFieldDescriptor (TX3 k).2.2.1 = some (tyX3 k) := by decide +kernel
abbrev cX3_init : ByteArray := prog_5_method_1_code
def yX3_init : MethodName := ⟨RX3, "<init>", "()V"⟩
abbrev cX3_result : ByteArray := prog_5_method_2_code
def yX3_result : MethodName := ⟨RX3, "result", "()LPolicyCompiler$Policy;"⟩
abbrev cX3_read : ByteArray := prog_5_method_3_code
def yX3_read : MethodName := ⟨RX3, "read", "([II[LPolicyCompiler$Slot;)I"⟩
abbrev cX3_finish : ByteArray := prog_5_method_4_code
def yX3_finish : MethodName := ⟨RX3, "finish", "(I)V"⟩
abbrev cX3_takeFactor : ByteArray := prog_5_method_5_code
def yX3_takeFactor : MethodName := ⟨RX3, "takeFactor", "(II[LPolicyCompiler$Slot;)V"⟩
abbrev cX3_takeSign : ByteArray := prog_5_method_6_code
def yX3_takeSign : MethodName := ⟨RX3, "takeSign", "(II)V"⟩
abbrev cX3_takeDigit : ByteArray := prog_5_method_7_code
def yX3_takeDigit : MethodName := ⟨RX3, "takeDigit", "(II)V"⟩
abbrev cX3_endLeaf : ByteArray := prog_5_method_8_code
def yX3_endLeaf : MethodName := ⟨RX3, "endLeaf", "(III)V"⟩
abbrev cX3_takeBehindAtom : ByteArray := prog_5_method_9_code
def yX3_takeBehindAtom : MethodName := ⟨RX3, "takeBehindAtom", "(II)V"⟩
abbrev cX3_endFactor : ByteArray := prog_5_method_10_code
def yX3_endFactor : MethodName := ⟨RX3, "endFactor", "()V"⟩
abbrev cX3_endUnion : ByteArray := prog_5_method_11_code
def yX3_endUnion : MethodName := ⟨RX3, "endUnion", "()V"⟩
abbrev cX3_endPair : ByteArray := prog_5_method_12_code
def yX3_endPair : MethodName := ⟨RX3, "endPair", "(II)V"⟩
abbrev cX3_takeBracket : ByteArray := prog_5_method_13_code
def yX3_takeBracket : MethodName := ⟨RX3, "takeBracket", "(II)V"⟩
abbrev cX3_endChoice : ByteArray := prog_5_method_14_code
def yX3_endChoice : MethodName := ⟨RX3, "endChoice", "()V"⟩
abbrev cX3_open : ByteArray := prog_5_method_15_code
def yX3_open : MethodName := ⟨RX3, "open", "(II)V"⟩
abbrev cX3_innermost : ByteArray := prog_5_method_16_code
def yX3_innermost : MethodName := ⟨RX3, "innermost", "()I"⟩
abbrev cX3_innermostBegin : ByteArray := prog_5_method_17_code
def yX3_innermostBegin : MethodName := ⟨RX3, "innermostBegin", "()I"⟩
abbrev cX3_pushOperand : ByteArray := prog_5_method_18_code
def yX3_pushOperand : MethodName := ⟨RX3, "pushOperand", "(Z)V"⟩
abbrev cX3_popOperand : ByteArray := prog_5_method_19_code
def yX3_popOperand : MethodName := ⟨RX3, "popOperand", "()Z"⟩
abbrev cX3_topIsPredicate : ByteArray := prog_5_method_20_code
def yX3_topIsPredicate : MethodName := ⟨RX3, "topIsPredicate", "()Z"⟩
def RX4 : String := "PolicyCompiler$Policy"
def TX4 : u_T := fun k => match k with
  | 0 => ("PolicyCompiler$Policy", "nodes", "[I", true)
  | 1 => ("PolicyCompiler$Policy", "begins", "[I", true)
  | 2 => ("PolicyCompiler$Policy", "count", "I", false)
  | _ => ("PolicyCompiler$Policy", "predicate", "Z", false)
def tyX4 : Nat → FieldType := fun k => match k with
  | 0 => .array .int
  | 1 => .array .int
  | 2 => .int
  | _ => .boolean
abbrev wsX40 : List Cond := u_ws RX4 TX4 4
theorem nmX4 : ∀ a, a < 4 → ∀ b, b < 4 → a ≠ b → (TX4 a).2.1 ≠ (TX4 b).2.1 := by decide +kernel
theorem tyX4_ok : ∀ k, k < 4 → parseFieldDescriptor (TX4 k).2.2.1 = some (tyX4 k) := by decide +kernel
abbrev cX4_init : ByteArray := prog_6_method_1_code
def yX4_init : MethodName := ⟨RX4, "<init>", "()V"⟩
abbrev cX4_start : ByteArray := prog_6_method_2_code
def yX4_start : MethodName := ⟨RX4, "start", "()V"⟩
abbrev cX4_add : ByteArray := prog_6_method_3_code
def yX4_add : MethodName := ⟨RX4, "add", "(III)V"⟩
abbrev cX4_operandsOf : ByteArray := prog_6_method_4_code
def yX4_operandsOf : MethodName := ⟨RX4, "operandsOf", "(I)I"⟩
abbrev cX4_addAll : ByteArray := prog_6_method_5_code
def yX4_addAll : MethodName := ⟨RX4, "addAll", "(LPolicyCompiler$Policy;)V"⟩
abbrev cX4_markPredicate : ByteArray := prog_6_method_6_code
def yX4_markPredicate : MethodName := ⟨RX4, "markPredicate", "(Z)V"⟩
abbrev cX4_givesPredicate : ByteArray := prog_6_method_7_code
def yX4_givesPredicate : MethodName := ⟨RX4, "givesPredicate", "()Z"⟩
abbrev cX4_nodeCount : ByteArray := prog_6_method_8_code
def yX4_nodeCount : MethodName := ⟨RX4, "nodeCount", "()I"⟩
abbrev cX4_nodeAt : ByteArray := prog_6_method_9_code
def yX4_nodeAt : MethodName := ⟨RX4, "nodeAt", "(I)I"⟩
abbrev cX4_kindAt : ByteArray := prog_6_method_10_code
def yX4_kindAt : MethodName := ⟨RX4, "kindAt", "(I)I"⟩
abbrev cX4_fieldAt : ByteArray := prog_6_method_11_code
def yX4_fieldAt : MethodName := ⟨RX4, "fieldAt", "(I)I"⟩
abbrev cX4_valueAt : ByteArray := prog_6_method_12_code
def yX4_valueAt : MethodName := ⟨RX4, "valueAt", "(I)I"⟩
abbrev cX4_operandAt : ByteArray := prog_6_method_13_code
def yX4_operandAt : MethodName := ⟨RX4, "operandAt", "(II)I"⟩
def RX5 : String := "PolicyCompiler$Printout"
def TX5 : u_T := fun k => match k with
  | 0 => ("PolicyCompiler$Printout", "bytes", "[I", true)
  | 1 => ("PolicyCompiler$Printout", "lengths", "[I", true)
  | 2 => ("PolicyCompiler$Printout", "wrapped", "[Z", true)
  | 3 => ("PolicyCompiler$Printout", "places", "[I", true)
  | _ => ("PolicyCompiler$Printout", "total", "I", false)
def tyX5 : Nat → FieldType := fun k => match k with
  | 0 => .array .int
  | 1 => .array .int
  | 2 => .array .boolean
  | 3 => .array .int
  | _ => .int
abbrev wsX50 : List Cond := u_ws RX5 TX5 5
theorem nmX5 : ∀ a, a < 5 → ∀ b, b < 5 → a ≠ b → (TX5 a).2.1 ≠ (TX5 b).2.1 := by decide +kernel
theorem tyX5_ok : ∀ k, k < 5 → parseFieldDescriptor (TX5 k).2.2.1 = some (tyX5 k) := by decide +kernel
abbrev cX5_init : ByteArray := prog_7_method_1_code
def yX5_init : MethodName := ⟨RX5, "<init>", "()V"⟩
abbrev cX5_byteCount : ByteArray := prog_7_method_2_code
def yX5_byteCount : MethodName := ⟨RX5, "byteCount", "()I"⟩
abbrev cX5_byteAt : ByteArray := prog_7_method_3_code
def yX5_byteAt : MethodName := ⟨RX5, "byteAt", "(I)I"⟩
abbrev cX5_print : ByteArray := prog_7_method_4_code
def yX5_print : MethodName := ⟨RX5, "print", "(LPolicyCompiler$Policy;)V"⟩
abbrev cX5_measured : ByteArray := prog_7_method_5_code
def yX5_measured : MethodName := ⟨RX5, "measured", "(LPolicyCompiler$Policy;I)I"⟩
abbrev cX5_ownLength : ByteArray := prog_7_method_6_code
def yX5_ownLength : MethodName := ⟨RX5, "ownLength", "(I)I"⟩
abbrev cX5_needsParentheses : ByteArray := prog_7_method_7_code
def yX5_needsParentheses : MethodName := ⟨RX5, "needsParentheses", "(IIZ)Z"⟩
abbrev cX5_printNode : ByteArray := prog_7_method_8_code
def yX5_printNode : MethodName := ⟨RX5, "printNode", "(LPolicyCompiler$Policy;I)V"⟩
abbrev cX5_printLeaf : ByteArray := prog_7_method_9_code
def yX5_printLeaf : MethodName := ⟨RX5, "printLeaf", "(LPolicyCompiler$Policy;II)V"⟩
abbrev cX5_printPair : ByteArray := prog_7_method_10_code
def yX5_printPair : MethodName := ⟨RX5, "printPair", "(LPolicyCompiler$Policy;II)V"⟩
abbrev cX5_printChoice : ByteArray := prog_7_method_11_code
def yX5_printChoice : MethodName := ⟨RX5, "printChoice", "(LPolicyCompiler$Policy;I)V"⟩
abbrev cX5_placed : ByteArray := prog_7_method_12_code
def yX5_placed : MethodName := ⟨RX5, "placed", "(II)I"⟩
abbrev cX5_innerPlace : ByteArray := prog_7_method_13_code
def yX5_innerPlace : MethodName := ⟨RX5, "innerPlace", "(I)I"⟩
abbrev cX5_put : ByteArray := prog_7_method_14_code
def yX5_put : MethodName := ⟨RX5, "put", "(II)V"⟩
def RX6 : String := "PolicyCompiler$Relation"
def TX6 : u_T := fun k => match k with
  | _ => ("PolicyCompiler$Relation", "images", "[J", true)
def tyX6 : Nat → FieldType := fun k => match k with
  | _ => .array .long
abbrev wsX60 : List Cond := u_ws RX6 TX6 1
theorem nmX6 : ∀ a, a < 1 → ∀ b, b < 1 → a ≠ b → (TX6 a).2.1 ≠ (TX6 b).2.1 := by decide +kernel
theorem tyX6_ok : ∀ k, k < 1 → parseFieldDescriptor (TX6 k).2.2.1 = some (tyX6 k) := by decide +kernel
abbrev cX6_init : ByteArray := prog_8_method_1_code
def yX6_init : MethodName := ⟨RX6, "<init>", "()V"⟩
abbrev cX6_assign : ByteArray := prog_8_method_2_code
def yX6_assign : MethodName := ⟨RX6, "assign", "(IJ)V"⟩
abbrev cX6_imageOf : ByteArray := prog_8_method_3_code
def yX6_imageOf : MethodName := ⟨RX6, "imageOf", "(I)J"⟩
abbrev cX6_domain : ByteArray := prog_8_method_4_code
def yX6_domain : MethodName := ⟨RX6, "domain", "()J"⟩
abbrev cX6_widest : ByteArray := prog_8_method_5_code
def yX6_widest : MethodName := ⟨RX6, "widest", "()I"⟩
abbrev cX6_mostSteps : ByteArray := prog_8_method_6_code
def yX6_mostSteps : MethodName := ⟨RX6, "mostSteps", "()I"⟩
abbrev cX6_stepsFrom : ByteArray := prog_8_method_7_code
def yX6_stepsFrom : MethodName := ⟨RX6, "stepsFrom", "(I)I"⟩
abbrev cX6_orderTo : ByteArray := prog_8_method_8_code
def yX6_orderTo : MethodName := ⟨RX6, "orderTo", "(LPolicyCompiler$Relation;)I"⟩
abbrev cX6_firstUnlike : ByteArray := prog_8_method_9_code
def yX6_firstUnlike : MethodName := ⟨RX6, "firstUnlike", "(LPolicyCompiler$Relation;)I"⟩
def RX7 : String := "PolicyCompiler$Slot"
def TX7 : u_T := fun k => match k with
  | 0 => ("PolicyCompiler$Slot", "policy", "LPolicyCompiler$Policy;", true)
  | 1 => ("PolicyCompiler$Slot", "printout", "LPolicyCompiler$Printout;", true)
  | 2 => ("PolicyCompiler$Slot", "relation", "LPolicyCompiler$Relation;", true)
  | 3 => ("PolicyCompiler$Slot", "diagram", "LPolicyCompiler$Diagram;", true)
  | 4 => ("PolicyCompiler$Slot", "table", "LPolicyCompiler$Table;", true)
  | _ => ("PolicyCompiler$Slot", "fresh", "Z", false)
def tyX7 : Nat → FieldType := fun k => match k with
  | 0 => .object "PolicyCompiler$Policy"
  | 1 => .object "PolicyCompiler$Printout"
  | 2 => .object "PolicyCompiler$Relation"
  | 3 => .object "PolicyCompiler$Diagram"
  | 4 => .object "PolicyCompiler$Table"
  | _ => .boolean
abbrev wsX70 : List Cond := u_ws RX7 TX7 6
theorem nmX7 : ∀ a, a < 6 → ∀ b, b < 6 → a ≠ b → (TX7 a).2.1 ≠ (TX7 b).2.1 := by decide +kernel
theorem tyX7_ok : ∀ k, k < 6 → parseFieldDescriptor (TX7 k).2.2.1 = some (tyX7 k) := by decide +kernel
abbrev cX7_init : ByteArray := prog_9_method_1_code
def yX7_init : MethodName := ⟨RX7, "<init>", "()V"⟩
abbrev cX7_hold : ByteArray := prog_9_method_2_code
def yX7_hold : MethodName := ⟨RX7, "hold", "(LPolicyCompiler$Policy;)V"⟩
abbrev cX7_upToDate : ByteArray := prog_9_method_3_code
def yX7_upToDate : MethodName := ⟨RX7, "upToDate", "(LPolicyCompiler$Evaluator;)LPolicyCompiler$Slot;"⟩
abbrev cX7_policy : ByteArray := prog_9_method_4_code
def yX7_policy : MethodName := ⟨RX7, "policy", "()LPolicyCompiler$Policy;"⟩
abbrev cX7_printout : ByteArray := prog_9_method_5_code
def yX7_printout : MethodName := ⟨RX7, "printout", "()LPolicyCompiler$Printout;"⟩
abbrev cX7_relation : ByteArray := prog_9_method_6_code
def yX7_relation : MethodName := ⟨RX7, "relation", "()LPolicyCompiler$Relation;"⟩
abbrev cX7_diagram : ByteArray := prog_9_method_7_code
def yX7_diagram : MethodName := ⟨RX7, "diagram", "()LPolicyCompiler$Diagram;"⟩
abbrev cX7_table : ByteArray := prog_9_method_8_code
def yX7_table : MethodName := ⟨RX7, "table", "()LPolicyCompiler$Table;"⟩
def RX8 : String := "PolicyCompiler$Table"
def TX8 : u_T := fun k => match k with
  | 0 => ("PolicyCompiler$Table", "demands", "[I", true)
  | 1 => ("PolicyCompiler$Table", "rowLeaves", "[I", true)
  | _ => ("PolicyCompiler$Table", "rowCount", "I", false)
def tyX8 : Nat → FieldType := fun k => match k with
  | 0 => .array .int
  | 1 => .array .int
  | _ => .int
abbrev wsX80 : List Cond := u_ws RX8 TX8 3
theorem nmX8 : ∀ a, a < 3 → ∀ b, b < 3 → a ≠ b → (TX8 a).2.1 ≠ (TX8 b).2.1 := by decide +kernel
theorem tyX8_ok : ∀ k, k < 3 → parseFieldDescriptor (TX8 k).2.2.1 = some (tyX8 k) := by decide +kernel
abbrev cX8_init : ByteArray := prog_10_method_1_code
def yX8_init : MethodName := ⟨RX8, "<init>", "()V"⟩
abbrev cX8_rowTotal : ByteArray := prog_10_method_2_code
def yX8_rowTotal : MethodName := ⟨RX8, "rowTotal", "()I"⟩
abbrev cX8_hasRow : ByteArray := prog_10_method_3_code
def yX8_hasRow : MethodName := ⟨RX8, "hasRow", "(I)Z"⟩
abbrev cX8_demandsOf : ByteArray := prog_10_method_4_code
def yX8_demandsOf : MethodName := ⟨RX8, "demandsOf", "(I)I"⟩
abbrev cX8_leafOf : ByteArray := prog_10_method_5_code
def yX8_leafOf : MethodName := ⟨RX8, "leafOf", "(I)I"⟩
abbrev cX8_build : ByteArray := prog_10_method_6_code
def yX8_build : MethodName := ⟨RX8, "build", "(LPolicyCompiler$Diagram;)V"⟩
abbrev cX8_visit : ByteArray := prog_10_method_7_code
def yX8_visit : MethodName := ⟨RX8, "visit", "(LPolicyCompiler$Table;LPolicyCompiler$Diagram;III)V"⟩
abbrev cX8_addRow : ByteArray := prog_10_method_8_code
def yX8_addRow : MethodName := ⟨RX8, "addRow", "(II)V"⟩
abbrev cX8_firstRowFor : ByteArray := prog_10_method_9_code
def yX8_firstRowFor : MethodName := ⟨RX8, "firstRowFor", "(I)I"⟩
abbrev cX8_meets : ByteArray := prog_10_method_10_code
def yX8_meets : MethodName := ⟨RX8, "meets", "(II)Z"⟩
def RX9 : String := "PolicyCompiler"
def TX9 : u_T := fun k => match k with
  | 0 => ("PolicyCompiler", "text", "[I", true)
  | 1 => ("PolicyCompiler", "textLength", "I", false)
  | 2 => ("PolicyCompiler", "slots", "[LPolicyCompiler$Slot;", true)
  | 3 => ("PolicyCompiler", "history", "LPolicyCompiler$History;", true)
  | 4 => ("PolicyCompiler", "errors", "[I", true)
  | 5 => ("PolicyCompiler", "parser", "LPolicyCompiler$Parser;", true)
  | 6 => ("PolicyCompiler", "evaluator", "LPolicyCompiler$Evaluator;", true)
  | _ => ("PolicyCompiler", "draft", "LPolicyCompiler$Policy;", true)
def tyX9 : Nat → FieldType := fun k => match k with
  | 0 => .array .int
  | 1 => .int
  | 2 => .array (.object "PolicyCompiler$Slot")
  | 3 => .object "PolicyCompiler$History"
  | 4 => .array .int
  | 5 => .object "PolicyCompiler$Parser"
  | 6 => .object "PolicyCompiler$Evaluator"
  | _ => .object "PolicyCompiler$Policy"
abbrev wsX90 : List Cond := u_ws RX9 TX9 8
theorem nmX9 : ∀ a, a < 8 → ∀ b, b < 8 → a ≠ b → (TX9 a).2.1 ≠ (TX9 b).2.1 := by decide +kernel
theorem tyX9_ok : ∀ k, k < 8 → parseFieldDescriptor (TX9 k).2.2.1 = some (tyX9 k) := by decide +kernel
abbrev cX9_init : ByteArray := prog_1_method_1_code
def yX9_init : MethodName := ⟨RX9, "<init>", "()V"⟩
abbrev cX9_append : ByteArray := prog_1_method_2_code
def yX9_append : MethodName := ⟨RX9, "append", "(I)I"⟩
abbrev cX9_clearText : ByteArray := prog_1_method_3_code
def yX9_clearText : MethodName := ⟨RX9, "clearText", "()I"⟩
abbrev cX9_parse : ByteArray := prog_1_method_4_code
def yX9_parse : MethodName := ⟨RX9, "parse", "(I)I"⟩
abbrev cX9_combine : ByteArray := prog_1_method_5_code
def yX9_combine : MethodName := ⟨RX9, "combine", "(IIII)I"⟩
abbrev cX9_modify : ByteArray := prog_1_method_6_code
def yX9_modify : MethodName := ⟨RX9, "modify", "(III)I"⟩
abbrev cX9_size : ByteArray := prog_1_method_7_code
def yX9_size : MethodName := ⟨RX9, "size", "(I)I"⟩
abbrev cX9_isPredicate : ByteArray := prog_1_method_8_code
def yX9_isPredicate : MethodName := ⟨RX9, "isPredicate", "(I)I"⟩
abbrev cX9_printed : ByteArray := prog_1_method_9_code
def yX9_printed : MethodName := ⟨RX9, "printed", "(II)I"⟩
abbrev cX9_outputs : ByteArray := prog_1_method_10_code
def yX9_outputs : MethodName := ⟨RX9, "outputs", "(II)J"⟩
abbrev cX9_accepted : ByteArray := prog_1_method_11_code
def yX9_accepted : MethodName := ⟨RX9, "accepted", "(I)J"⟩
abbrev cX9_spread : ByteArray := prog_1_method_12_code
def yX9_spread : MethodName := ⟨RX9, "spread", "(I)I"⟩
abbrev cX9_rounds : ByteArray := prog_1_method_13_code
def yX9_rounds : MethodName := ⟨RX9, "rounds", "(I)I"⟩
abbrev cX9_compare : ByteArray := prog_1_method_14_code
def yX9_compare : MethodName := ⟨RX9, "compare", "(II)I"⟩
abbrev cX9_witness : ByteArray := prog_1_method_15_code
def yX9_witness : MethodName := ⟨RX9, "witness", "(II)I"⟩
abbrev cX9_difference : ByteArray := prog_1_method_16_code
def yX9_difference : MethodName := ⟨RX9, "difference", "(II)I"⟩
abbrev cX9_diagramSize : ByteArray := prog_1_method_17_code
def yX9_diagramSize : MethodName := ⟨RX9, "diagramSize", "(I)I"⟩
abbrev cX9_leaves : ByteArray := prog_1_method_18_code
def yX9_leaves : MethodName := ⟨RX9, "leaves", "(I)I"⟩
abbrev cX9_diagramDepth : ByteArray := prog_1_method_19_code
def yX9_diagramDepth : MethodName := ⟨RX9, "diagramDepth", "(I)I"⟩
abbrev cX9_sharedNodes : ByteArray := prog_1_method_20_code
def yX9_sharedNodes : MethodName := ⟨RX9, "sharedNodes", "(II)I"⟩
abbrev cX9_rows : ByteArray := prog_1_method_21_code
def yX9_rows : MethodName := ⟨RX9, "rows", "(I)I"⟩
abbrev cX9_match : ByteArray := prog_1_method_22_code
def yX9_match : MethodName := ⟨RX9, "match", "(III)I"⟩
abbrev cX9_action : ByteArray := prog_1_method_23_code
def yX9_action : MethodName := ⟨RX9, "action", "(III)I"⟩
abbrev cX9_hit : ByteArray := prog_1_method_24_code
def yX9_hit : MethodName := ⟨RX9, "hit", "(II)I"⟩
abbrev cX9_hits : ByteArray := prog_1_method_25_code
def yX9_hits : MethodName := ⟨RX9, "hits", "(II)I"⟩
abbrev cX9_undo : ByteArray := prog_1_method_26_code
def yX9_undo : MethodName := ⟨RX9, "undo", "()I"⟩
abbrev cX9_errorCount : ByteArray := prog_1_method_27_code
def yX9_errorCount : MethodName := ⟨RX9, "errorCount", "(I)I"⟩
abbrev cX9_digest : ByteArray := prog_1_method_28_code
def yX9_digest : MethodName := ⟨RX9, "digest", "()J"⟩
abbrev cX9_mixed : ByteArray := prog_1_method_29_code
def yX9_mixed : MethodName := ⟨RX9, "mixed", "(JJ)J"⟩
abbrev cX9_mixedSlot : ByteArray := prog_1_method_30_code
def yX9_mixedSlot : MethodName := ⟨RX9, "mixedSlot", "(JLPolicyCompiler$Slot;)J"⟩
abbrev cX9_mixedTable : ByteArray := prog_1_method_31_code
def yX9_mixedTable : MethodName := ⟨RX9, "mixedTable", "(JLPolicyCompiler$Table;LPolicyCompiler$Diagram;)J"⟩
abbrev cX9_fail : ByteArray := prog_1_method_32_code
def yX9_fail : MethodName := ⟨RX9, "fail", "(I)I"⟩
abbrev cX9_store : ByteArray := prog_1_method_33_code
def yX9_store : MethodName := ⟨RX9, "store", "(LPolicyCompiler$Policy;I)I"⟩
abbrev cX9_isBit : ByteArray := prog_1_method_34_code
def yX9_isBit : MethodName := ⟨RX9, "isBit", "(I)Z"⟩
abbrev cX9_isSlot : ByteArray := prog_1_method_35_code
def yX9_isSlot : MethodName := ⟨RX9, "isSlot", "(I)Z"⟩
abbrev cX9_isPacket : ByteArray := prog_1_method_36_code
def yX9_isPacket : MethodName := ⟨RX9, "isPacket", "(I)Z"⟩
abbrev cX9_shiftOf : ByteArray := prog_1_method_37_code
def yX9_shiftOf : MethodName := ⟨RX9, "shiftOf", "(I)I"⟩
abbrev cX9_valueOf : ByteArray := prog_1_method_38_code
def yX9_valueOf : MethodName := ⟨RX9, "valueOf", "(II)I"⟩
abbrev cX9_withValue : ByteArray := prog_1_method_39_code
def yX9_withValue : MethodName := ⟨RX9, "withValue", "(III)I"⟩
abbrev cX9_alone : ByteArray := prog_1_method_40_code
def yX9_alone : MethodName := ⟨RX9, "alone", "(I)J"⟩
abbrev cX9_holds : ByteArray := prog_1_method_41_code
def yX9_holds : MethodName := ⟨RX9, "holds", "(JI)Z"⟩
abbrev cX9_lowestOf : ByteArray := prog_1_method_42_code
def yX9_lowestOf : MethodName := ⟨RX9, "lowestOf", "(J)I"⟩
abbrev cX9_imageOfSet : ByteArray := prog_1_method_43_code
def yX9_imageOfSet : MethodName := ⟨RX9, "imageOfSet", "([JIJ)J"⟩
abbrev cX9_weightOf : ByteArray := prog_1_method_44_code
def yX9_weightOf : MethodName := ⟨RX9, "weightOf", "(I)I"⟩
abbrev cX9_entryOf : ByteArray := prog_1_method_45_code
def yX9_entryOf : MethodName := ⟨RX9, "entryOf", "(II)I"⟩
abbrev cX9_actionFrom : ByteArray := prog_1_method_46_code
def yX9_actionFrom : MethodName := ⟨RX9, "actionFrom", "(II)I"⟩
def RX10 : String := "PolicyCompilerModel"
def TX10 : u_T := fun k => match k with
  | 0 => ("PolicyCompilerModel", "now", "[I", true)
  | 1 => ("PolicyCompilerModel", "past", "[I", true)
  | 2 => ("PolicyCompilerModel", "saved", "I", false)
  | 3 => ("PolicyCompilerModel", "errors", "[I", true)
  | 4 => ("PolicyCompilerModel", "text", "[I", true)
  | 5 => ("PolicyCompilerModel", "textLength", "I", false)
  | 6 => ("PolicyCompilerModel", "made", "[I", true)
  | 7 => ("PolicyCompilerModel", "madeMany", "I", false)
  | 8 => ("PolicyCompilerModel", "begin", "[I", true)
  | 9 => ("PolicyCompilerModel", "isPure", "[I", true)
  | 10 => ("PolicyCompilerModel", "operands", "I", false)
  | 11 => ("PolicyCompilerModel", "at", "I", false)
  | 12 => ("PolicyCompilerModel", "open", "[I", true)
  | 13 => ("PolicyCompilerModel", "openAt", "[I", true)
  | 14 => ("PolicyCompilerModel", "opens", "I", false)
  | 15 => ("PolicyCompilerModel", "slotPure", "[I", true)
  | 16 => ("PolicyCompilerModel", "stage", "I", false)
  | 17 => ("PolicyCompilerModel", "one", "[I", true)
  | 18 => ("PolicyCompilerModel", "two", "[I", true)
  | 19 => ("PolicyCompilerModel", "three", "[I", true)
  | 20 => ("PolicyCompilerModel", "pile", "[I", true)
  | 21 => ("PolicyCompilerModel", "piled", "I", false)
  | 22 => ("PolicyCompilerModel", "shown", "[I", true)
  | 23 => ("PolicyCompilerModel", "shownLength", "I", false)
  | 24 => ("PolicyCompilerModel", "sets", "[J", true)
  | 25 => ("PolicyCompilerModel", "setMany", "I", false)
  | 26 => ("PolicyCompilerModel", "far", "[I", true)
  | 27 => ("PolicyCompilerModel", "closed", "[J", true)
  | 28 => ("PolicyCompilerModel", "other", "[J", true)
  | 29 => ("PolicyCompilerModel", "lowActions", "[J", true)
  | 30 => ("PolicyCompilerModel", "highActions", "[J", true)
  | 31 => ("PolicyCompilerModel", "leafMany", "I", false)
  | 32 => ("PolicyCompilerModel", "fieldOf", "[I", true)
  | 33 => ("PolicyCompilerModel", "childOf", "[I", true)
  | 34 => ("PolicyCompilerModel", "testMany", "I", false)
  | 35 => ("PolicyCompilerModel", "usedBy", "[I", true)
  | 36 => ("PolicyCompilerModel", "blocks", "[I", true)
  | 37 => ("PolicyCompilerModel", "rowMatch", "[I", true)
  | 38 => ("PolicyCompilerModel", "rowLeaf", "[I", true)
  | 39 => ("PolicyCompilerModel", "rowMany", "I", false)
  | 40 => ("PolicyCompilerModel", "walkNode", "[I", true)
  | 41 => ("PolicyCompilerModel", "walkMatch", "[I", true)
  | _ => ("PolicyCompilerModel", "hash", "J", false)
def tyX10 : Nat → FieldType := fun k => match k with
  | 0 => .array .int
  | 1 => .array .int
  | 2 => .int
  | 3 => .array .int
  | 4 => .array .int
  | 5 => .int
  | 6 => .array .int
  | 7 => .int
  | 8 => .array .int
  | 9 => .array .int
  | 10 => .int
  | 11 => .int
  | 12 => .array .int
  | 13 => .array .int
  | 14 => .int
  | 15 => .array .int
  | 16 => .int
  | 17 => .array .int
  | 18 => .array .int
  | 19 => .array .int
  | 20 => .array .int
  | 21 => .int
  | 22 => .array .int
  | 23 => .int
  | 24 => .array .long
  | 25 => .int
  | 26 => .array .int
  | 27 => .array .long
  | 28 => .array .long
  | 29 => .array .long
  | 30 => .array .long
  | 31 => .int
  | 32 => .array .int
  | 33 => .array .int
  | 34 => .int
  | 35 => .array .int
  | 36 => .array .int
  | 37 => .array .int
  | 38 => .array .int
  | 39 => .int
  | 40 => .array .int
  | 41 => .array .int
  | _ => .long
abbrev wsX100 : List Cond := u_ws RX10 TX10 43
theorem nmX10 : ∀ a, a < 43 → ∀ b, b < 43 → a ≠ b → (TX10 a).2.1 ≠ (TX10 b).2.1 := by decide +kernel
theorem tyX10_ok : ∀ k, k < 43 → parseFieldDescriptor (TX10 k).2.2.1 = some (tyX10 k) := by decide +kernel
abbrev cX10_init : ByteArray := prog_12_method_1_code
def yX10_init : MethodName := ⟨RX10, "<init>", "()V"⟩
abbrev cX10_within : ByteArray := prog_12_method_3_code
def yX10_within : MethodName := ⟨RX10, "within", "(III)Z"⟩
abbrev cX10_fails : ByteArray := prog_12_method_4_code
def yX10_fails : MethodName := ⟨RX10, "fails", "(I)I"⟩
abbrev cX10_isSlot : ByteArray := prog_12_method_5_code
def yX10_isSlot : MethodName := ⟨RX10, "isSlot", "(I)Z"⟩
abbrev cX10_signOf : ByteArray := prog_12_method_6_code
def yX10_signOf : MethodName := ⟨RX10, "signOf", "(II)I"⟩
abbrev cX10_saves : ByteArray := prog_12_method_7_code
def yX10_saves : MethodName := ⟨RX10, "saves", "()V"⟩
abbrev cX10_undo : ByteArray := prog_12_method_8_code
def yX10_undo : MethodName := ⟨RX10, "undo", "()I"⟩
abbrev cX10_makes : ByteArray := prog_12_method_9_code
def yX10_makes : MethodName := ⟨RX10, "makes", "(I)V"⟩
abbrev cX10_waits : ByteArray := prog_12_method_10_code
def yX10_waits : MethodName := ⟨RX10, "waits", "(IZ)V"⟩
abbrev cX10_isPredicateRow : ByteArray := prog_12_method_11_code
def yX10_isPredicateRow : MethodName := ⟨RX10, "isPredicateRow", "(I)Z"⟩
abbrev cX10_keeps : ByteArray := prog_12_method_12_code
def yX10_keeps : MethodName := ⟨RX10, "keeps", "(I)I"⟩
abbrev cX10_copies : ByteArray := prog_12_method_13_code
def yX10_copies : MethodName := ⟨RX10, "copies", "(I)V"⟩
abbrev cX10_append : ByteArray := prog_12_method_14_code
def yX10_append : MethodName := ⟨RX10, "append", "(I)I"⟩
abbrev cX10_clearText : ByteArray := prog_12_method_15_code
def yX10_clearText : MethodName := ⟨RX10, "clearText", "()I"⟩
abbrev cX10_byteAt : ByteArray := prog_12_method_16_code
def yX10_byteAt : MethodName := ⟨RX10, "byteAt", "(I)I"⟩
abbrev cX10_lastOpen : ByteArray := prog_12_method_17_code
def yX10_lastOpen : MethodName := ⟨RX10, "lastOpen", "()I"⟩
abbrev cX10_pushes : ByteArray := prog_12_method_18_code
def yX10_pushes : MethodName := ⟨RX10, "pushes", "(I)V"⟩
abbrev cX10_field : ByteArray := prog_12_method_19_code
def yX10_field : MethodName := ⟨RX10, "field", "(I)I"⟩
abbrev cX10_atom : ByteArray := prog_12_method_20_code
def yX10_atom : MethodName := ⟨RX10, "atom", "()I"⟩
abbrev cX10_endsFactor : ByteArray := prog_12_method_21_code
def yX10_endsFactor : MethodName := ⟨RX10, "endsFactor", "()I"⟩
abbrev cX10_joinsTwo : ByteArray := prog_12_method_22_code
def yX10_joinsTwo : MethodName := ⟨RX10, "joinsTwo", "(I)V"⟩
abbrev cX10_joins : ByteArray := prog_12_method_23_code
def yX10_joins : MethodName := ⟨RX10, "joins", "(Z)V"⟩
abbrev cX10_behind : ByteArray := prog_12_method_24_code
def yX10_behind : MethodName := ⟨RX10, "behind", "()I"⟩
abbrev cX10_reads : ByteArray := prog_12_method_25_code
def yX10_reads : MethodName := ⟨RX10, "reads", "()I"⟩
abbrev cX10_parse : ByteArray := prog_12_method_26_code
def yX10_parse : MethodName := ⟨RX10, "parse", "(I)I"⟩
abbrev cX10_combine : ByteArray := prog_12_method_27_code
def yX10_combine : MethodName := ⟨RX10, "combine", "(IIII)I"⟩
abbrev cX10_modify : ByteArray := prog_12_method_28_code
def yX10_modify : MethodName := ⟨RX10, "modify", "(III)I"⟩
abbrev cX10_size : ByteArray := prog_12_method_29_code
def yX10_size : MethodName := ⟨RX10, "size", "(I)I"⟩
abbrev cX10_isPredicate : ByteArray := prog_12_method_30_code
def yX10_isPredicate : MethodName := ⟨RX10, "isPredicate", "(I)I"⟩
abbrev cX10_laysOperands : ByteArray := prog_12_method_31_code
def yX10_laysOperands : MethodName := ⟨RX10, "laysOperands", "(I)V"⟩
abbrev cX10_piles : ByteArray := prog_12_method_32_code
def yX10_piles : MethodName := ⟨RX10, "piles", "(I)V"⟩
abbrev cX10_pilesOperand : ByteArray := prog_12_method_33_code
def yX10_pilesOperand : MethodName := ⟨RX10, "pilesOperand", "(IZ)V"⟩
abbrev cX10_shows : ByteArray := prog_12_method_34_code
def yX10_shows : MethodName := ⟨RX10, "shows", "(I)V"⟩
abbrev cX10_expands : ByteArray := prog_12_method_35_code
def yX10_expands : MethodName := ⟨RX10, "expands", "(II)V"⟩
abbrev cX10_prints : ByteArray := prog_12_method_36_code
def yX10_prints : MethodName := ⟨RX10, "prints", "(I)V"⟩
abbrev cX10_printed : ByteArray := prog_12_method_37_code
def yX10_printed : MethodName := ⟨RX10, "printed", "(II)I"⟩
abbrev cX10_valueOf : ByteArray := prog_12_method_38_code
def yX10_valueOf : MethodName := ⟨RX10, "valueOf", "(II)I"⟩
abbrev cX10_simple : ByteArray := prog_12_method_39_code
def yX10_simple : MethodName := ⟨RX10, "simple", "(I)V"⟩
abbrev cX10_turned : ByteArray := prog_12_method_40_code
def yX10_turned : MethodName := ⟨RX10, "turned", "(JI)J"⟩
abbrev cX10_reached : ByteArray := prog_12_method_41_code
def yX10_reached : MethodName := ⟨RX10, "reached", "(II)J"⟩
abbrev cX10_operates : ByteArray := prog_12_method_42_code
def yX10_operates : MethodName := ⟨RX10, "operates", "(I)V"⟩
abbrev cX10_evaluates : ByteArray := prog_12_method_43_code
def yX10_evaluates : MethodName := ⟨RX10, "evaluates", "(I)V"⟩
abbrev cX10_outputsOf : ByteArray := prog_12_method_44_code
def yX10_outputsOf : MethodName := ⟨RX10, "outputsOf", "(II)J"⟩
abbrev cX10_isPacket : ByteArray := prog_12_method_45_code
def yX10_isPacket : MethodName := ⟨RX10, "isPacket", "(I)Z"⟩
abbrev cX10_outputs : ByteArray := prog_12_method_46_code
def yX10_outputs : MethodName := ⟨RX10, "outputs", "(II)J"⟩
abbrev cX10_acceptedOf : ByteArray := prog_12_method_47_code
def yX10_acceptedOf : MethodName := ⟨RX10, "acceptedOf", "(I)J"⟩
abbrev cX10_accepted : ByteArray := prog_12_method_48_code
def yX10_accepted : MethodName := ⟨RX10, "accepted", "(I)J"⟩
abbrev cX10_ones : ByteArray := prog_12_method_49_code
def yX10_ones : MethodName := ⟨RX10, "ones", "(J)I"⟩
abbrev cX10_spreadOf : ByteArray := prog_12_method_50_code
def yX10_spreadOf : MethodName := ⟨RX10, "spreadOf", "(I)I"⟩
abbrev cX10_spread : ByteArray := prog_12_method_51_code
def yX10_spread : MethodName := ⟨RX10, "spread", "(I)I"⟩
abbrev cX10_roundsOf : ByteArray := prog_12_method_52_code
def yX10_roundsOf : MethodName := ⟨RX10, "roundsOf", "(I)I"⟩
abbrev cX10_rounds : ByteArray := prog_12_method_53_code
def yX10_rounds : MethodName := ⟨RX10, "rounds", "(I)I"⟩
abbrev cX10_laysBoth : ByteArray := prog_12_method_54_code
def yX10_laysBoth : MethodName := ⟨RX10, "laysBoth", "(II)V"⟩
abbrev cX10_compared : ByteArray := prog_12_method_55_code
def yX10_compared : MethodName := ⟨RX10, "compared", "(II)I"⟩
abbrev cX10_compare : ByteArray := prog_12_method_56_code
def yX10_compare : MethodName := ⟨RX10, "compare", "(II)I"⟩
abbrev cX10_witnessOf : ByteArray := prog_12_method_57_code
def yX10_witnessOf : MethodName := ⟨RX10, "witnessOf", "(II)I"⟩
abbrev cX10_witness : ByteArray := prog_12_method_58_code
def yX10_witness : MethodName := ⟨RX10, "witness", "(II)I"⟩
abbrev cX10_difference : ByteArray := prog_12_method_59_code
def yX10_difference : MethodName := ⟨RX10, "difference", "(II)I"⟩
abbrev cX10_actionOf : ByteArray := prog_12_method_60_code
def yX10_actionOf : MethodName := ⟨RX10, "actionOf", "(II)I"⟩
abbrev cX10_leafOf : ByteArray := prog_12_method_61_code
def yX10_leafOf : MethodName := ⟨RX10, "leafOf", "(I)I"⟩
abbrev cX10_nodeOver : ByteArray := prog_12_method_62_code
def yX10_nodeOver : MethodName := ⟨RX10, "nodeOver", "(II)I"⟩
abbrev cX10_isTest : ByteArray := prog_12_method_63_code
def yX10_isTest : MethodName := ⟨RX10, "isTest", "(III)Z"⟩
abbrev cX10_draws : ByteArray := prog_12_method_64_code
def yX10_draws : MethodName := ⟨RX10, "draws", "(II)I"⟩
abbrev cX10_clears : ByteArray := prog_12_method_65_code
def yX10_clears : MethodName := ⟨RX10, "clears", "()V"⟩
abbrev cX10_drawsAlone : ByteArray := prog_12_method_66_code
def yX10_drawsAlone : MethodName := ⟨RX10, "drawsAlone", "(I)I"⟩
abbrev cX10_sizeOf : ByteArray := prog_12_method_67_code
def yX10_sizeOf : MethodName := ⟨RX10, "sizeOf", "(I)I"⟩
abbrev cX10_diagramSize : ByteArray := prog_12_method_68_code
def yX10_diagramSize : MethodName := ⟨RX10, "diagramSize", "(I)I"⟩
abbrev cX10_leavesOf : ByteArray := prog_12_method_69_code
def yX10_leavesOf : MethodName := ⟨RX10, "leavesOf", "(I)I"⟩
abbrev cX10_leaves : ByteArray := prog_12_method_70_code
def yX10_leaves : MethodName := ⟨RX10, "leaves", "(I)I"⟩
abbrev cX10_depthOf : ByteArray := prog_12_method_71_code
def yX10_depthOf : MethodName := ⟨RX10, "depthOf", "(I)I"⟩
abbrev cX10_diagramDepth : ByteArray := prog_12_method_72_code
def yX10_diagramDepth : MethodName := ⟨RX10, "diagramDepth", "(I)I"⟩
abbrev cX10_sharedNodes : ByteArray := prog_12_method_73_code
def yX10_sharedNodes : MethodName := ⟨RX10, "sharedNodes", "(II)I"⟩
abbrev cX10_fives : ByteArray := prog_12_method_74_code
def yX10_fives : MethodName := ⟨RX10, "fives", "(I)I"⟩
abbrev cX10_mainOf : ByteArray := prog_12_method_75_code
def yX10_mainOf : MethodName := ⟨RX10, "mainOf", "(I)I"⟩
abbrev cX10_tabulates : ByteArray := prog_12_method_76_code
def yX10_tabulates : MethodName := ⟨RX10, "tabulates", "(I)V"⟩
abbrev cX10_demandOf : ByteArray := prog_12_method_77_code
def yX10_demandOf : MethodName := ⟨RX10, "demandOf", "(II)I"⟩
abbrev cX10_rows : ByteArray := prog_12_method_78_code
def yX10_rows : MethodName := ⟨RX10, "rows", "(I)I"⟩
abbrev cX10_hasRow : ByteArray := prog_12_method_79_code
def yX10_hasRow : MethodName := ⟨RX10, "hasRow", "(II)Z"⟩
abbrev cX10_match : ByteArray := prog_12_method_80_code
def yX10_match : MethodName := ⟨RX10, "match", "(III)I"⟩
abbrev cX10_hasAction : ByteArray := prog_12_method_81_code
def yX10_hasAction : MethodName := ⟨RX10, "hasAction", "(II)Z"⟩
abbrev cX10_actionAt : ByteArray := prog_12_method_82_code
def yX10_actionAt : MethodName := ⟨RX10, "actionAt", "(II)I"⟩
abbrev cX10_action : ByteArray := prog_12_method_83_code
def yX10_action : MethodName := ⟨RX10, "action", "(III)I"⟩
abbrev cX10_hitOf : ByteArray := prog_12_method_84_code
def yX10_hitOf : MethodName := ⟨RX10, "hitOf", "(I)I"⟩
abbrev cX10_hit : ByteArray := prog_12_method_85_code
def yX10_hit : MethodName := ⟨RX10, "hit", "(II)I"⟩
abbrev cX10_hits : ByteArray := prog_12_method_86_code
def yX10_hits : MethodName := ⟨RX10, "hits", "(II)I"⟩
abbrev cX10_errorCount : ByteArray := prog_12_method_87_code
def yX10_errorCount : MethodName := ⟨RX10, "errorCount", "(I)I"⟩
abbrev cX10_mix : ByteArray := prog_12_method_88_code
def yX10_mix : MethodName := ⟨RX10, "mix", "(J)V"⟩
abbrev cX10_mixSlot : ByteArray := prog_12_method_89_code
def yX10_mixSlot : MethodName := ⟨RX10, "mixSlot", "(I)V"⟩
abbrev cX10_digest : ByteArray := prog_12_method_90_code
def yX10_digest : MethodName := ⟨RX10, "digest", "()J"⟩
def RJ13 : String := "java/lang/Long"
def TJ13 : u_T := fun k => match k with
  | _ => ("", "", "", false)
def tyJ13 : Nat → FieldType := fun k => match k with
  | _ => .int
abbrev wsJ130 : List Cond := u_ws RJ13 TJ13 0
theorem nmJ13 : ∀ a, a < 0 → ∀ b, b < 0 → a ≠ b → (TJ13 a).2.1 ≠ (TJ13 b).2.1 := by decide +kernel
theorem tyJ13_ok : ∀ k, k < 0 → parseFieldDescriptor (TJ13 k).2.2.1 = some (tyJ13 k) := by decide +kernel
abbrev cJ13_bitCount_95d88 : ByteArray := prog_13_method_50_code
def yJ13_bitCount_95d88 : MethodName := ⟨RJ13, "bitCount", "(J)I"⟩
def RJ9 : String := "java/lang/Math"
def TJ9 : u_T := fun k => match k with
  | _ => ("", "", "", false)
def tyJ9 : Nat → FieldType := fun k => match k with
  | _ => .int
abbrev wsJ90 : List Cond := u_ws RJ9 TJ9 0
theorem nmJ9 : ∀ a, a < 0 → ∀ b, b < 0 → a ≠ b → (TJ9 a).2.1 ≠ (TJ9 b).2.1 := by decide +kernel
theorem tyJ9_ok : ∀ k, k < 0 → parseFieldDescriptor (TJ9 k).2.2.1 = some (tyJ9 k) := by decide +kernel
abbrev cJ9_max_7cf53 : ByteArray := prog_14_method_65_code
def yJ9_max_7cf53 : MethodName := ⟨RJ9, "max", "(II)I"⟩
def RL : String := "PolicyCompilerLaw"
abbrev cL_law : ByteArray := code
def yL_law : MethodName := ⟨RL, "law", "([I)Z"⟩
abbrev vwCl : List vw_C := [(RX0, TX0, 10), (RX1, TX1, 1), (RX2, TX2, 3), (RX3, TX3, 10), (RX4, TX4, 4), (RX5, TX5, 5), (RX6, TX6, 1), (RX7, TX7, 6), (RX8, TX8, 3), (RX9, TX9, 8), (RX10, TX10, 43)]
theorem inX0 : ∀ w ∈ wsX00, w ∈ lw_tbl := fun w h => by
  have e : wsX00 = [272, 274, 276, 278, 280, 282, 284, 286, 288, 290].filterMap (fun i => lw_tbl[i]?) := by decide +kernel
  rw [e] at h
  obtain ⟨i, -, hi⟩ := List.mem_filterMap.mp h
  exact List.mem_of_getElem? hi
theorem inX1 : ∀ w ∈ wsX10, w ∈ lw_tbl := fun w h => by
  have e : wsX10 = [211].filterMap (fun i => lw_tbl[i]?) := by decide +kernel
  rw [e] at h
  obtain ⟨i, -, hi⟩ := List.mem_filterMap.mp h
  exact List.mem_of_getElem? hi
theorem inX2 : ∀ w ∈ wsX20, w ∈ lw_tbl := fun w h => by
  have e : wsX20 = [157, 159, 161].filterMap (fun i => lw_tbl[i]?) := by decide +kernel
  rw [e] at h
  obtain ⟨i, -, hi⟩ := List.mem_filterMap.mp h
  exact List.mem_of_getElem? hi
theorem inX3 : ∀ w ∈ wsX30, w ∈ lw_tbl := fun w h => by
  have e : wsX30 = [182, 184, 186, 188, 190, 192, 194, 196, 198, 200].filterMap (fun i => lw_tbl[i]?) := by decide +kernel
  rw [e] at h
  obtain ⟨i, -, hi⟩ := List.mem_filterMap.mp h
  exact List.mem_of_getElem? hi
theorem inX4 : ∀ w ∈ wsX40, w ∈ lw_tbl := fun w h => by
  have e : wsX40 = [144, 146, 148, 150].filterMap (fun i => lw_tbl[i]?) := by decide +kernel
  rw [e] at h
  obtain ⟨i, -, hi⟩ := List.mem_filterMap.mp h
  exact List.mem_of_getElem? hi
theorem inX5 : ∀ w ∈ wsX50, w ∈ lw_tbl := fun w h => by
  have e : wsX50 = [235, 237, 239, 241, 243].filterMap (fun i => lw_tbl[i]?) := by decide +kernel
  rw [e] at h
  obtain ⟨i, -, hi⟩ := List.mem_filterMap.mp h
  exact List.mem_of_getElem? hi
theorem inX6 : ∀ w ∈ wsX60, w ∈ lw_tbl := fun w h => by
  have e : wsX60 = [253].filterMap (fun i => lw_tbl[i]?) := by decide +kernel
  rw [e] at h
  obtain ⟨i, -, hi⟩ := List.mem_filterMap.mp h
  exact List.mem_of_getElem? hi
theorem inX7 : ∀ w ∈ wsX70, w ∈ lw_tbl := fun w h => by
  have e : wsX70 = [326, 328, 330, 332, 334, 336].filterMap (fun i => lw_tbl[i]?) := by decide +kernel
  rw [e] at h
  obtain ⟨i, -, hi⟩ := List.mem_filterMap.mp h
  exact List.mem_of_getElem? hi
theorem inX8 : ∀ w ∈ wsX80, w ∈ lw_tbl := fun w h => by
  have e : wsX80 = [302, 304, 306].filterMap (fun i => lw_tbl[i]?) := by decide +kernel
  rw [e] at h
  obtain ⟨i, -, hi⟩ := List.mem_filterMap.mp h
  exact List.mem_of_getElem? hi
theorem inX9 : ∀ w ∈ wsX90, w ∈ lw_tbl := fun w h => by
  have e : wsX90 = [347, 349, 351, 353, 355, 357, 359, 361].filterMap (fun i => lw_tbl[i]?) := by decide +kernel
  rw [e] at h
  obtain ⟨i, -, hi⟩ := List.mem_filterMap.mp h
  exact List.mem_of_getElem? hi
theorem inX10 : ∀ w ∈ wsX100, w ∈ lw_tbl := fun w h => by
  have e : wsX100 = [1040, 1042, 1044, 1046, 1048, 1050, 1052, 1054, 1056, 1058, 1060, 1062, 1064, 1066, 1068, 1070, 1072, 1074, 1076, 1078, 1080, 1082, 1084, 1086, 1088, 1090, 1092, 1094, 1096, 1098, 1100, 1102, 1104, 1106, 1108, 1110, 1112, 1114, 1116, 1118, 1120, 1122, 1124].filterMap (fun i => lw_tbl[i]?) := by decide +kernel
  rw [e] at h
  obtain ⟨i, -, hi⟩ := List.mem_filterMap.mp h
  exact List.mem_of_getElem? hi
end
section
set_option maxRecDepth 20000 in
theorem mw_0 : (Cond.initialized "PolicyCompilerLaw") ∈ lw_tbl := List.mem_of_getElem? (i := 103) (by decide +kernel)
set_option maxRecDepth 20000 in
theorem mw_1 : (Cond.initialized "PolicyCompiler") ∈ lw_tbl := List.mem_of_getElem? (i := 104) (by decide +kernel)
set_option maxRecDepth 20000 in
theorem mw_2 : (Cond.initialized "PolicyCompiler$History") ∈ lw_tbl := List.mem_of_getElem? (i := 105) (by decide +kernel)
set_option maxRecDepth 20000 in
theorem mw_3 : (Cond.initialized "PolicyCompiler$Policy") ∈ lw_tbl := List.mem_of_getElem? (i := 106) (by decide +kernel)
set_option maxRecDepth 20000 in
theorem mw_4 : (Cond.initialized "PolicyCompiler$Parser") ∈ lw_tbl := List.mem_of_getElem? (i := 107) (by decide +kernel)
set_option maxRecDepth 20000 in
theorem mw_5 : (Cond.initialized "PolicyCompiler$Evaluator") ∈ lw_tbl := List.mem_of_getElem? (i := 108) (by decide +kernel)
set_option maxRecDepth 20000 in
theorem mw_6 : (Cond.initialized "PolicyCompiler$Slot") ∈ lw_tbl := List.mem_of_getElem? (i := 109) (by decide +kernel)
set_option maxRecDepth 20000 in
theorem mw_7 : (Cond.initialized "PolicyCompiler$Printout") ∈ lw_tbl := List.mem_of_getElem? (i := 110) (by decide +kernel)
set_option maxRecDepth 20000 in
theorem mw_8 : (Cond.initialized "PolicyCompiler$Relation") ∈ lw_tbl := List.mem_of_getElem? (i := 111) (by decide +kernel)
set_option maxRecDepth 20000 in
theorem mw_9 : (Cond.initialized "PolicyCompiler$Diagram") ∈ lw_tbl := List.mem_of_getElem? (i := 112) (by decide +kernel)
set_option maxRecDepth 20000 in
theorem mw_10 : (Cond.initialized "PolicyCompiler$Table") ∈ lw_tbl := List.mem_of_getElem? (i := 113) (by decide +kernel)
set_option maxRecDepth 20000 in
theorem mw_11 : (Cond.initialized "PolicyCompilerModel") ∈ lw_tbl := List.mem_of_getElem? (i := 114) (by decide +kernel)
set_option maxRecDepth 20000 in
theorem mw_12 : (Cond.initialized "java/lang/Long") ∈ lw_tbl := List.mem_of_getElem? (i := 115) (by decide +kernel)
set_option maxRecDepth 20000 in
theorem mw_13 : (Cond.initialized "java/lang/Math") ∈ lw_tbl := List.mem_of_getElem? (i := 116) (by decide +kernel)
set_option maxRecDepth 20000 in
theorem mw_14 : (Cond.classLink "PolicyCompilerLaw" (7 : Nat) "PolicyCompiler") ∈ lw_tbl := List.mem_of_getElem? (i := 117) (by decide +kernel)
set_option maxRecDepth 20000 in
theorem mw_15 : (Cond.instantiable "PolicyCompiler" (8 : Nat)) ∈ lw_tbl := List.mem_of_getElem? (i := 118) (by decide +kernel)
set_option maxRecDepth 20000 in
theorem mw_16 : (Cond.methodLink "PolicyCompilerLaw" (9 : Nat) ({ cls := "PolicyCompiler", name := "<init>", desc := "()V" } : MethodName)) ∈ lw_tbl := List.mem_of_getElem? (i := 119) (by decide +kernel)
set_option maxRecDepth 20000 in
theorem mw_17 : (Cond.instanceMethod ({ cls := "PolicyCompiler", name := "<init>", desc := "()V" } : MethodName)) ∈ lw_tbl := List.mem_of_getElem? (i := 120) (by decide +kernel)
set_option maxRecDepth 20000 in
theorem mw_18 : (Cond.code ({ cls := "PolicyCompiler", name := "<init>", desc := "()V" } : MethodName) prog_1_method_1_code (2 : Nat) (Option.none : Option ClassFile.FieldType)) ∈ lw_tbl := List.mem_of_getElem? (i := 121) rfl
set_option maxRecDepth 20000 in
theorem mw_19 : (Cond.methodLink "PolicyCompiler" (1 : Nat) ({ cls := "java/lang/Object", name := "<init>", desc := "()V" } : MethodName)) ∈ lw_tbl := List.mem_of_getElem? (i := 122) (by decide +kernel)
set_option maxRecDepth 20000 in
theorem mw_20 : (Cond.instanceMethod ({ cls := "java/lang/Object", name := "<init>", desc := "()V" } : MethodName)) ∈ lw_tbl := List.mem_of_getElem? (i := 123) (by decide +kernel)
set_option maxRecDepth 20000 in
theorem mw_21 : (Cond.code ({ cls := "java/lang/Object", name := "<init>", desc := "()V" } : MethodName) object_method_1_code (1 : Nat) (Option.none : Option ClassFile.FieldType)) ∈ lw_tbl := List.mem_of_getElem? (i := 124) rfl
set_option maxRecDepth 20000 in
theorem mw_22 : (Cond.classLink "PolicyCompiler" (17 : Nat) "PolicyCompiler$Slot") ∈ lw_tbl := List.mem_of_getElem? (i := 125) (by decide +kernel)
set_option maxRecDepth 20000 in
theorem mw_23 : (Cond.arrayOver (FieldType.object "PolicyCompiler$Slot")) ∈ lw_tbl := List.mem_of_getElem? (i := 126) (by decide +kernel)
set_option maxRecDepth 20000 in
theorem mw_24 : (Cond.classLink "PolicyCompiler" (23 : Nat) "PolicyCompiler$History") ∈ lw_tbl := List.mem_of_getElem? (i := 127) (by decide +kernel)
set_option maxRecDepth 20000 in
theorem mw_25 : (Cond.instantiable "PolicyCompiler$History" (3 : Nat)) ∈ lw_tbl := List.mem_of_getElem? (i := 128) (by decide +kernel)
set_option maxRecDepth 20000 in
theorem mw_26 : (Cond.methodLink "PolicyCompiler" (25 : Nat) ({ cls := "PolicyCompiler$History", name := "<init>", desc := "()V" } : MethodName)) ∈ lw_tbl := List.mem_of_getElem? (i := 129) (by decide +kernel)
set_option maxRecDepth 20000 in
theorem mw_27 : (Cond.instanceMethod ({ cls := "PolicyCompiler$History", name := "<init>", desc := "()V" } : MethodName)) ∈ lw_tbl := List.mem_of_getElem? (i := 130) (by decide +kernel)
set_option maxRecDepth 20000 in
theorem mw_28 : (Cond.code ({ cls := "PolicyCompiler$History", name := "<init>", desc := "()V" } : MethodName) prog_4_method_1_code (2 : Nat) (Option.none : Option ClassFile.FieldType)) ∈ lw_tbl := List.mem_of_getElem? (i := 131) rfl
set_option maxRecDepth 20000 in
theorem mw_29 : (Cond.methodLink "PolicyCompiler$History" (3 : Nat) ({ cls := "java/lang/Object", name := "<init>", desc := "()V" } : MethodName)) ∈ lw_tbl := List.mem_of_getElem? (i := 132) (by decide +kernel)
set_option maxRecDepth 20000 in
theorem mw_30 : (Cond.classLink "PolicyCompiler$History" (15 : Nat) "PolicyCompiler$Policy") ∈ lw_tbl := List.mem_of_getElem? (i := 133) (by decide +kernel)
set_option maxRecDepth 20000 in
theorem mw_31 : (Cond.arrayOver (FieldType.object "PolicyCompiler$Policy")) ∈ lw_tbl := List.mem_of_getElem? (i := 134) (by decide +kernel)
set_option maxRecDepth 20000 in
theorem mw_32 : (Cond.instantiable "PolicyCompiler$Policy" (4 : Nat)) ∈ lw_tbl := List.mem_of_getElem? (i := 135) (by decide +kernel)
set_option maxRecDepth 20000 in
theorem mw_33 : (Cond.methodLinkNest "PolicyCompiler$History" (25 : Nat) ({ cls := "PolicyCompiler$Policy", name := "<init>", desc := "()V" } : MethodName) "PolicyCompiler") ∈ lw_tbl := List.mem_of_getElem? (i := 136) (by decide +kernel)
set_option maxRecDepth 20000 in
theorem mw_34 : (Cond.instanceMethod ({ cls := "PolicyCompiler$Policy", name := "<init>", desc := "()V" } : MethodName)) ∈ lw_tbl := List.mem_of_getElem? (i := 137) (by decide +kernel)
set_option maxRecDepth 20000 in
theorem mw_35 : (Cond.code ({ cls := "PolicyCompiler$Policy", name := "<init>", desc := "()V" } : MethodName) prog_6_method_1_code (1 : Nat) (Option.none : Option ClassFile.FieldType)) ∈ lw_tbl := List.mem_of_getElem? (i := 138) rfl
set_option maxRecDepth 20000 in
theorem mw_36 : (Cond.methodLink "PolicyCompiler$Policy" (3 : Nat) ({ cls := "java/lang/Object", name := "<init>", desc := "()V" } : MethodName)) ∈ lw_tbl := List.mem_of_getElem? (i := 139) (by decide +kernel)
set_option maxRecDepth 20000 in
theorem mw_37 : (Cond.fieldLink "PolicyCompiler$Policy" (9 : Nat) "PolicyCompiler$Policy" "nodes" "[I") ∈ lw_tbl := List.mem_of_getElem? (i := 140) (by decide +kernel)
set_option maxRecDepth 20000 in
theorem mw_38 : (Cond.fieldLink "PolicyCompiler$Policy" (15 : Nat) "PolicyCompiler$Policy" "begins" "[I") ∈ lw_tbl := List.mem_of_getElem? (i := 141) (by decide +kernel)
set_option maxRecDepth 20000 in
theorem mw_39 : (Cond.fieldLink "PolicyCompiler$Policy" (18 : Nat) "PolicyCompiler$Policy" "count" "I") ∈ lw_tbl := List.mem_of_getElem? (i := 142) (by decide +kernel)
set_option maxRecDepth 20000 in
theorem mw_40 : (Cond.fieldLink "PolicyCompiler$Policy" (22 : Nat) "PolicyCompiler$Policy" "predicate" "Z") ∈ lw_tbl := List.mem_of_getElem? (i := 143) (by decide +kernel)
set_option maxRecDepth 20000 in
theorem mw_50 : (Cond.arrayClass FieldType.int) ∈ lw_tbl := List.mem_of_getElem? (i := 153) (by decide +kernel)
set_option maxRecDepth 20000 in
theorem mw_51 : (Cond.fieldLink "PolicyCompiler$History" (9 : Nat) "PolicyCompiler$History" "changed" "[I") ∈ lw_tbl := List.mem_of_getElem? (i := 154) (by decide +kernel)
set_option maxRecDepth 20000 in
theorem mw_52 : (Cond.fieldLink "PolicyCompiler$History" (17 : Nat) "PolicyCompiler$History" "before" "[LPolicyCompiler$Policy;") ∈ lw_tbl := List.mem_of_getElem? (i := 155) (by decide +kernel)
set_option maxRecDepth 20000 in
theorem mw_53 : (Cond.fieldLink "PolicyCompiler$History" (21 : Nat) "PolicyCompiler$History" "saved" "I") ∈ lw_tbl := List.mem_of_getElem? (i := 156) (by decide +kernel)
set_option maxRecDepth 20000 in
theorem mw_61 : (Cond.classLink "PolicyCompiler" (33 : Nat) "PolicyCompiler$Parser") ∈ lw_tbl := List.mem_of_getElem? (i := 164) (by decide +kernel)
set_option maxRecDepth 20000 in
theorem mw_62 : (Cond.instantiable "PolicyCompiler$Parser" (10 : Nat)) ∈ lw_tbl := List.mem_of_getElem? (i := 165) (by decide +kernel)
set_option maxRecDepth 20000 in
theorem mw_63 : (Cond.methodLinkNest "PolicyCompiler" (35 : Nat) ({ cls := "PolicyCompiler$Parser", name := "<init>", desc := "()V" } : MethodName) "PolicyCompiler") ∈ lw_tbl := List.mem_of_getElem? (i := 166) (by decide +kernel)
set_option maxRecDepth 20000 in
theorem mw_64 : (Cond.instanceMethod ({ cls := "PolicyCompiler$Parser", name := "<init>", desc := "()V" } : MethodName)) ∈ lw_tbl := List.mem_of_getElem? (i := 167) (by decide +kernel)
set_option maxRecDepth 20000 in
theorem mw_65 : (Cond.code ({ cls := "PolicyCompiler$Parser", name := "<init>", desc := "()V" } : MethodName) prog_5_method_1_code (1 : Nat) (Option.none : Option ClassFile.FieldType)) ∈ lw_tbl := List.mem_of_getElem? (i := 168) rfl
set_option maxRecDepth 20000 in
theorem mw_66 : (Cond.methodLink "PolicyCompiler$Parser" (3 : Nat) ({ cls := "java/lang/Object", name := "<init>", desc := "()V" } : MethodName)) ∈ lw_tbl := List.mem_of_getElem? (i := 169) (by decide +kernel)
set_option maxRecDepth 20000 in
theorem mw_67 : (Cond.classLink "PolicyCompiler$Parser" (29 : Nat) "PolicyCompiler$Policy") ∈ lw_tbl := List.mem_of_getElem? (i := 170) (by decide +kernel)
set_option maxRecDepth 20000 in
theorem mw_68 : (Cond.methodLinkNest "PolicyCompiler$Parser" (31 : Nat) ({ cls := "PolicyCompiler$Policy", name := "<init>", desc := "()V" } : MethodName) "PolicyCompiler") ∈ lw_tbl := List.mem_of_getElem? (i := 171) (by decide +kernel)
set_option maxRecDepth 20000 in
theorem mw_69 : (Cond.fieldLink "PolicyCompiler$Parser" (9 : Nat) "PolicyCompiler$Parser" "opened" "[I") ∈ lw_tbl := List.mem_of_getElem? (i := 172) (by decide +kernel)
set_option maxRecDepth 20000 in
theorem mw_70 : (Cond.fieldLink "PolicyCompiler$Parser" (15 : Nat) "PolicyCompiler$Parser" "openedAt" "[I") ∈ lw_tbl := List.mem_of_getElem? (i := 173) (by decide +kernel)
set_option maxRecDepth 20000 in
theorem mw_71 : (Cond.fieldLink "PolicyCompiler$Parser" (18 : Nat) "PolicyCompiler$Parser" "openCount" "I") ∈ lw_tbl := List.mem_of_getElem? (i := 174) (by decide +kernel)
set_option maxRecDepth 20000 in
theorem mw_72 : (Cond.fieldLink "PolicyCompiler$Parser" (22 : Nat) "PolicyCompiler$Parser" "predicates" "[Z") ∈ lw_tbl := List.mem_of_getElem? (i := 175) (by decide +kernel)
set_option maxRecDepth 20000 in
theorem mw_73 : (Cond.fieldLink "PolicyCompiler$Parser" (26 : Nat) "PolicyCompiler$Parser" "operandCount" "I") ∈ lw_tbl := List.mem_of_getElem? (i := 176) (by decide +kernel)
set_option maxRecDepth 20000 in
theorem mw_74 : (Cond.fieldLink "PolicyCompiler$Parser" (32 : Nat) "PolicyCompiler$Parser" "built" "LPolicyCompiler$Policy;") ∈ lw_tbl := List.mem_of_getElem? (i := 177) (by decide +kernel)
set_option maxRecDepth 20000 in
theorem mw_75 : (Cond.fieldLink "PolicyCompiler$Parser" (36 : Nat) "PolicyCompiler$Parser" "state" "I") ∈ lw_tbl := List.mem_of_getElem? (i := 178) (by decide +kernel)
set_option maxRecDepth 20000 in
theorem mw_76 : (Cond.fieldLink "PolicyCompiler$Parser" (39 : Nat) "PolicyCompiler$Parser" "field" "I") ∈ lw_tbl := List.mem_of_getElem? (i := 179) (by decide +kernel)
set_option maxRecDepth 20000 in
theorem mw_77 : (Cond.fieldLink "PolicyCompiler$Parser" (42 : Nat) "PolicyCompiler$Parser" "sign" "I") ∈ lw_tbl := List.mem_of_getElem? (i := 180) (by decide +kernel)
set_option maxRecDepth 20000 in
theorem mw_78 : (Cond.fieldLink "PolicyCompiler$Parser" (45 : Nat) "PolicyCompiler$Parser" "error" "I") ∈ lw_tbl := List.mem_of_getElem? (i := 181) (by decide +kernel)
set_option maxRecDepth 20000 in
theorem mw_100 : (Cond.arrayClass FieldType.boolean) ∈ lw_tbl := List.mem_of_getElem? (i := 203) (by decide +kernel)
set_option maxRecDepth 20000 in
theorem mw_101 : (Cond.classLink "PolicyCompiler" (40 : Nat) "PolicyCompiler$Evaluator") ∈ lw_tbl := List.mem_of_getElem? (i := 204) (by decide +kernel)
set_option maxRecDepth 20000 in
theorem mw_102 : (Cond.instantiable "PolicyCompiler$Evaluator" (1 : Nat)) ∈ lw_tbl := List.mem_of_getElem? (i := 205) (by decide +kernel)
set_option maxRecDepth 20000 in
theorem mw_103 : (Cond.methodLinkNest "PolicyCompiler" (42 : Nat) ({ cls := "PolicyCompiler$Evaluator", name := "<init>", desc := "()V" } : MethodName) "PolicyCompiler") ∈ lw_tbl := List.mem_of_getElem? (i := 206) (by decide +kernel)
set_option maxRecDepth 20000 in
theorem mw_104 : (Cond.instanceMethod ({ cls := "PolicyCompiler$Evaluator", name := "<init>", desc := "()V" } : MethodName)) ∈ lw_tbl := List.mem_of_getElem? (i := 207) (by decide +kernel)
set_option maxRecDepth 20000 in
theorem mw_105 : (Cond.code ({ cls := "PolicyCompiler$Evaluator", name := "<init>", desc := "()V" } : MethodName) prog_3_method_1_code (1 : Nat) (Option.none : Option ClassFile.FieldType)) ∈ lw_tbl := List.mem_of_getElem? (i := 208) rfl
set_option maxRecDepth 20000 in
theorem mw_106 : (Cond.methodLink "PolicyCompiler$Evaluator" (3 : Nat) ({ cls := "java/lang/Object", name := "<init>", desc := "()V" } : MethodName)) ∈ lw_tbl := List.mem_of_getElem? (i := 209) (by decide +kernel)
set_option maxRecDepth 20000 in
theorem mw_107 : (Cond.fieldLink "PolicyCompiler$Evaluator" (9 : Nat) "PolicyCompiler$Evaluator" "images" "[J") ∈ lw_tbl := List.mem_of_getElem? (i := 210) (by decide +kernel)
set_option maxRecDepth 20000 in
theorem mw_111 : (Cond.arrayClass FieldType.long) ∈ lw_tbl := List.mem_of_getElem? (i := 214) (by decide +kernel)
set_option maxRecDepth 20000 in
theorem mw_112 : (Cond.classLink "PolicyCompiler" (47 : Nat) "PolicyCompiler$Policy") ∈ lw_tbl := List.mem_of_getElem? (i := 215) (by decide +kernel)
set_option maxRecDepth 20000 in
theorem mw_113 : (Cond.methodLinkNest "PolicyCompiler" (49 : Nat) ({ cls := "PolicyCompiler$Policy", name := "<init>", desc := "()V" } : MethodName) "PolicyCompiler") ∈ lw_tbl := List.mem_of_getElem? (i := 216) (by decide +kernel)
set_option maxRecDepth 20000 in
theorem mw_114 : (Cond.instantiable "PolicyCompiler$Slot" (6 : Nat)) ∈ lw_tbl := List.mem_of_getElem? (i := 217) (by decide +kernel)
set_option maxRecDepth 20000 in
theorem mw_115 : (Cond.methodLink "PolicyCompiler" (54 : Nat) ({ cls := "PolicyCompiler$Slot", name := "<init>", desc := "()V" } : MethodName)) ∈ lw_tbl := List.mem_of_getElem? (i := 218) (by decide +kernel)
set_option maxRecDepth 20000 in
theorem mw_116 : (Cond.instanceMethod ({ cls := "PolicyCompiler$Slot", name := "<init>", desc := "()V" } : MethodName)) ∈ lw_tbl := List.mem_of_getElem? (i := 219) (by decide +kernel)
set_option maxRecDepth 20000 in
theorem mw_117 : (Cond.code ({ cls := "PolicyCompiler$Slot", name := "<init>", desc := "()V" } : MethodName) prog_9_method_1_code (1 : Nat) (Option.none : Option ClassFile.FieldType)) ∈ lw_tbl := List.mem_of_getElem? (i := 220) rfl
set_option maxRecDepth 20000 in
theorem mw_118 : (Cond.methodLink "PolicyCompiler$Slot" (3 : Nat) ({ cls := "java/lang/Object", name := "<init>", desc := "()V" } : MethodName)) ∈ lw_tbl := List.mem_of_getElem? (i := 221) (by decide +kernel)
set_option maxRecDepth 20000 in
theorem mw_119 : (Cond.classLink "PolicyCompiler$Slot" (9 : Nat) "PolicyCompiler$Policy") ∈ lw_tbl := List.mem_of_getElem? (i := 222) (by decide +kernel)
set_option maxRecDepth 20000 in
theorem mw_120 : (Cond.methodLinkNest "PolicyCompiler$Slot" (11 : Nat) ({ cls := "PolicyCompiler$Policy", name := "<init>", desc := "()V" } : MethodName) "PolicyCompiler") ∈ lw_tbl := List.mem_of_getElem? (i := 223) (by decide +kernel)
set_option maxRecDepth 20000 in
theorem mw_121 : (Cond.classLink "PolicyCompiler$Slot" (18 : Nat) "PolicyCompiler$Printout") ∈ lw_tbl := List.mem_of_getElem? (i := 224) (by decide +kernel)
set_option maxRecDepth 20000 in
theorem mw_122 : (Cond.instantiable "PolicyCompiler$Printout" (5 : Nat)) ∈ lw_tbl := List.mem_of_getElem? (i := 225) (by decide +kernel)
set_option maxRecDepth 20000 in
theorem mw_123 : (Cond.methodLinkNest "PolicyCompiler$Slot" (20 : Nat) ({ cls := "PolicyCompiler$Printout", name := "<init>", desc := "()V" } : MethodName) "PolicyCompiler") ∈ lw_tbl := List.mem_of_getElem? (i := 226) (by decide +kernel)
set_option maxRecDepth 20000 in
theorem mw_124 : (Cond.instanceMethod ({ cls := "PolicyCompiler$Printout", name := "<init>", desc := "()V" } : MethodName)) ∈ lw_tbl := List.mem_of_getElem? (i := 227) (by decide +kernel)
set_option maxRecDepth 20000 in
theorem mw_125 : (Cond.code ({ cls := "PolicyCompiler$Printout", name := "<init>", desc := "()V" } : MethodName) prog_7_method_1_code (1 : Nat) (Option.none : Option ClassFile.FieldType)) ∈ lw_tbl := List.mem_of_getElem? (i := 228) rfl
set_option maxRecDepth 20000 in
theorem mw_126 : (Cond.methodLink "PolicyCompiler$Printout" (3 : Nat) ({ cls := "java/lang/Object", name := "<init>", desc := "()V" } : MethodName)) ∈ lw_tbl := List.mem_of_getElem? (i := 229) (by decide +kernel)
set_option maxRecDepth 20000 in
theorem mw_127 : (Cond.fieldLink "PolicyCompiler$Printout" (11 : Nat) "PolicyCompiler$Printout" "bytes" "[I") ∈ lw_tbl := List.mem_of_getElem? (i := 230) (by decide +kernel)
set_option maxRecDepth 20000 in
theorem mw_128 : (Cond.fieldLink "PolicyCompiler$Printout" (15 : Nat) "PolicyCompiler$Printout" "lengths" "[I") ∈ lw_tbl := List.mem_of_getElem? (i := 231) (by decide +kernel)
set_option maxRecDepth 20000 in
theorem mw_129 : (Cond.fieldLink "PolicyCompiler$Printout" (18 : Nat) "PolicyCompiler$Printout" "wrapped" "[Z") ∈ lw_tbl := List.mem_of_getElem? (i := 232) (by decide +kernel)
set_option maxRecDepth 20000 in
theorem mw_130 : (Cond.fieldLink "PolicyCompiler$Printout" (22 : Nat) "PolicyCompiler$Printout" "places" "[I") ∈ lw_tbl := List.mem_of_getElem? (i := 233) (by decide +kernel)
set_option maxRecDepth 20000 in
theorem mw_131 : (Cond.fieldLink "PolicyCompiler$Printout" (25 : Nat) "PolicyCompiler$Printout" "total" "I") ∈ lw_tbl := List.mem_of_getElem? (i := 234) (by decide +kernel)
set_option maxRecDepth 20000 in
theorem mw_143 : (Cond.classLink "PolicyCompiler$Slot" (25 : Nat) "PolicyCompiler$Relation") ∈ lw_tbl := List.mem_of_getElem? (i := 246) (by decide +kernel)
set_option maxRecDepth 20000 in
theorem mw_144 : (Cond.instantiable "PolicyCompiler$Relation" (1 : Nat)) ∈ lw_tbl := List.mem_of_getElem? (i := 247) (by decide +kernel)
set_option maxRecDepth 20000 in
theorem mw_145 : (Cond.methodLinkNest "PolicyCompiler$Slot" (27 : Nat) ({ cls := "PolicyCompiler$Relation", name := "<init>", desc := "()V" } : MethodName) "PolicyCompiler") ∈ lw_tbl := List.mem_of_getElem? (i := 248) (by decide +kernel)
set_option maxRecDepth 20000 in
theorem mw_146 : (Cond.instanceMethod ({ cls := "PolicyCompiler$Relation", name := "<init>", desc := "()V" } : MethodName)) ∈ lw_tbl := List.mem_of_getElem? (i := 249) (by decide +kernel)
set_option maxRecDepth 20000 in
theorem mw_147 : (Cond.code ({ cls := "PolicyCompiler$Relation", name := "<init>", desc := "()V" } : MethodName) prog_8_method_1_code (1 : Nat) (Option.none : Option ClassFile.FieldType)) ∈ lw_tbl := List.mem_of_getElem? (i := 250) rfl
set_option maxRecDepth 20000 in
theorem mw_148 : (Cond.methodLink "PolicyCompiler$Relation" (3 : Nat) ({ cls := "java/lang/Object", name := "<init>", desc := "()V" } : MethodName)) ∈ lw_tbl := List.mem_of_getElem? (i := 251) (by decide +kernel)
set_option maxRecDepth 20000 in
theorem mw_149 : (Cond.fieldLink "PolicyCompiler$Relation" (9 : Nat) "PolicyCompiler$Relation" "images" "[J") ∈ lw_tbl := List.mem_of_getElem? (i := 252) (by decide +kernel)
set_option maxRecDepth 20000 in
theorem mw_153 : (Cond.classLink "PolicyCompiler$Slot" (32 : Nat) "PolicyCompiler$Diagram") ∈ lw_tbl := List.mem_of_getElem? (i := 256) (by decide +kernel)
set_option maxRecDepth 20000 in
theorem mw_154 : (Cond.instantiable "PolicyCompiler$Diagram" (10 : Nat)) ∈ lw_tbl := List.mem_of_getElem? (i := 257) (by decide +kernel)
set_option maxRecDepth 20000 in
theorem mw_155 : (Cond.methodLinkNest "PolicyCompiler$Slot" (34 : Nat) ({ cls := "PolicyCompiler$Diagram", name := "<init>", desc := "()V" } : MethodName) "PolicyCompiler") ∈ lw_tbl := List.mem_of_getElem? (i := 258) (by decide +kernel)
set_option maxRecDepth 20000 in
theorem mw_156 : (Cond.instanceMethod ({ cls := "PolicyCompiler$Diagram", name := "<init>", desc := "()V" } : MethodName)) ∈ lw_tbl := List.mem_of_getElem? (i := 259) (by decide +kernel)
set_option maxRecDepth 20000 in
theorem mw_157 : (Cond.code ({ cls := "PolicyCompiler$Diagram", name := "<init>", desc := "()V" } : MethodName) prog_2_method_1_code (1 : Nat) (Option.none : Option ClassFile.FieldType)) ∈ lw_tbl := List.mem_of_getElem? (i := 260) rfl
set_option maxRecDepth 20000 in
theorem mw_158 : (Cond.methodLink "PolicyCompiler$Diagram" (3 : Nat) ({ cls := "java/lang/Object", name := "<init>", desc := "()V" } : MethodName)) ∈ lw_tbl := List.mem_of_getElem? (i := 261) (by decide +kernel)
set_option maxRecDepth 20000 in
theorem mw_159 : (Cond.fieldLink "PolicyCompiler$Diagram" (9 : Nat) "PolicyCompiler$Diagram" "lowActions" "[J") ∈ lw_tbl := List.mem_of_getElem? (i := 262) (by decide +kernel)
set_option maxRecDepth 20000 in
theorem mw_160 : (Cond.fieldLink "PolicyCompiler$Diagram" (15 : Nat) "PolicyCompiler$Diagram" "highActions" "[J") ∈ lw_tbl := List.mem_of_getElem? (i := 263) (by decide +kernel)
set_option maxRecDepth 20000 in
theorem mw_161 : (Cond.fieldLink "PolicyCompiler$Diagram" (18 : Nat) "PolicyCompiler$Diagram" "fields" "[I") ∈ lw_tbl := List.mem_of_getElem? (i := 264) (by decide +kernel)
set_option maxRecDepth 20000 in
theorem mw_162 : (Cond.fieldLink "PolicyCompiler$Diagram" (22 : Nat) "PolicyCompiler$Diagram" "depths" "[I") ∈ lw_tbl := List.mem_of_getElem? (i := 265) (by decide +kernel)
set_option maxRecDepth 20000 in
theorem mw_163 : (Cond.fieldLink "PolicyCompiler$Diagram" (25 : Nat) "PolicyCompiler$Diagram" "children" "[I") ∈ lw_tbl := List.mem_of_getElem? (i := 266) (by decide +kernel)
set_option maxRecDepth 20000 in
theorem mw_164 : (Cond.fieldLink "PolicyCompiler$Diagram" (28 : Nat) "PolicyCompiler$Diagram" "leafCount" "I") ∈ lw_tbl := List.mem_of_getElem? (i := 267) (by decide +kernel)
set_option maxRecDepth 20000 in
theorem mw_165 : (Cond.fieldLink "PolicyCompiler$Diagram" (32 : Nat) "PolicyCompiler$Diagram" "nodeCount" "I") ∈ lw_tbl := List.mem_of_getElem? (i := 268) (by decide +kernel)
set_option maxRecDepth 20000 in
theorem mw_166 : (Cond.fieldLink "PolicyCompiler$Diagram" (35 : Nat) "PolicyCompiler$Diagram" "root" "I") ∈ lw_tbl := List.mem_of_getElem? (i := 269) (by decide +kernel)
set_option maxRecDepth 20000 in
theorem mw_167 : (Cond.fieldLink "PolicyCompiler$Diagram" (38 : Nat) "PolicyCompiler$Diagram" "layer" "[I") ∈ lw_tbl := List.mem_of_getElem? (i := 270) (by decide +kernel)
set_option maxRecDepth 20000 in
theorem mw_168 : (Cond.fieldLink "PolicyCompiler$Diagram" (41 : Nat) "PolicyCompiler$Diagram" "twins" "[I") ∈ lw_tbl := List.mem_of_getElem? (i := 271) (by decide +kernel)
set_option maxRecDepth 20000 in
theorem mw_190 : (Cond.classLink "PolicyCompiler$Slot" (39 : Nat) "PolicyCompiler$Table") ∈ lw_tbl := List.mem_of_getElem? (i := 293) (by decide +kernel)
set_option maxRecDepth 20000 in
theorem mw_191 : (Cond.instantiable "PolicyCompiler$Table" (3 : Nat)) ∈ lw_tbl := List.mem_of_getElem? (i := 294) (by decide +kernel)
set_option maxRecDepth 20000 in
theorem mw_192 : (Cond.methodLinkNest "PolicyCompiler$Slot" (41 : Nat) ({ cls := "PolicyCompiler$Table", name := "<init>", desc := "()V" } : MethodName) "PolicyCompiler") ∈ lw_tbl := List.mem_of_getElem? (i := 295) (by decide +kernel)
set_option maxRecDepth 20000 in
theorem mw_193 : (Cond.instanceMethod ({ cls := "PolicyCompiler$Table", name := "<init>", desc := "()V" } : MethodName)) ∈ lw_tbl := List.mem_of_getElem? (i := 296) (by decide +kernel)
set_option maxRecDepth 20000 in
theorem mw_194 : (Cond.code ({ cls := "PolicyCompiler$Table", name := "<init>", desc := "()V" } : MethodName) prog_10_method_1_code (1 : Nat) (Option.none : Option ClassFile.FieldType)) ∈ lw_tbl := List.mem_of_getElem? (i := 297) rfl
set_option maxRecDepth 20000 in
theorem mw_195 : (Cond.methodLink "PolicyCompiler$Table" (3 : Nat) ({ cls := "java/lang/Object", name := "<init>", desc := "()V" } : MethodName)) ∈ lw_tbl := List.mem_of_getElem? (i := 298) (by decide +kernel)
set_option maxRecDepth 20000 in
theorem mw_196 : (Cond.fieldLink "PolicyCompiler$Table" (9 : Nat) "PolicyCompiler$Table" "demands" "[I") ∈ lw_tbl := List.mem_of_getElem? (i := 299) (by decide +kernel)
set_option maxRecDepth 20000 in
theorem mw_197 : (Cond.fieldLink "PolicyCompiler$Table" (15 : Nat) "PolicyCompiler$Table" "rowLeaves" "[I") ∈ lw_tbl := List.mem_of_getElem? (i := 300) (by decide +kernel)
set_option maxRecDepth 20000 in
theorem mw_198 : (Cond.fieldLink "PolicyCompiler$Table" (18 : Nat) "PolicyCompiler$Table" "rowCount" "I") ∈ lw_tbl := List.mem_of_getElem? (i := 301) (by decide +kernel)
set_option maxRecDepth 20000 in
theorem mw_206 : (Cond.methodLink "PolicyCompiler$Slot" (50 : Nat) ({ cls := "PolicyCompiler$Policy", name := "add", desc := "(III)V" } : MethodName)) ∈ lw_tbl := List.mem_of_getElem? (i := 309) (by decide +kernel)
set_option maxRecDepth 20000 in
theorem mw_207 : (Cond.instanceMethod ({ cls := "PolicyCompiler$Policy", name := "add", desc := "(III)V" } : MethodName)) ∈ lw_tbl := List.mem_of_getElem? (i := 310) (by decide +kernel)
set_option maxRecDepth 20000 in
theorem mw_208 : (Cond.selects "PolicyCompiler$Policy" ({ cls := "PolicyCompiler$Policy", name := "add", desc := "(III)V" } : MethodName) ({ cls := "PolicyCompiler$Policy", name := "add", desc := "(III)V" } : MethodName)) ∈ lw_tbl := List.mem_of_getElem? (i := 311) (by decide +kernel)
set_option maxRecDepth 20000 in
theorem mw_209 : (Cond.code ({ cls := "PolicyCompiler$Policy", name := "add", desc := "(III)V" } : MethodName) prog_6_method_3_code (7 : Nat) (Option.none : Option ClassFile.FieldType)) ∈ lw_tbl := List.mem_of_getElem? (i := 312) rfl
set_option maxRecDepth 20000 in
theorem mw_210 : (Cond.methodLink "PolicyCompiler$Policy" (26 : Nat) ({ cls := "PolicyCompiler$Policy", name := "operandsOf", desc := "(I)I" } : MethodName)) ∈ lw_tbl := List.mem_of_getElem? (i := 313) (by decide +kernel)
set_option maxRecDepth 20000 in
theorem mw_211 : (Cond.static ({ cls := "PolicyCompiler$Policy", name := "operandsOf", desc := "(I)I" } : MethodName)) ∈ lw_tbl := List.mem_of_getElem? (i := 314) (by decide +kernel)
set_option maxRecDepth 20000 in
theorem mw_212 : (Cond.code ({ cls := "PolicyCompiler$Policy", name := "operandsOf", desc := "(I)I" } : MethodName) prog_6_method_4_code (1 : Nat) (Option.some FieldType.int)) ∈ lw_tbl := List.mem_of_getElem? (i := 315) rfl
set_option maxRecDepth 20000 in
theorem mw_213 : (Cond.methodLink "PolicyCompiler$Slot" (54 : Nat) ({ cls := "PolicyCompiler$Policy", name := "markPredicate", desc := "(Z)V" } : MethodName)) ∈ lw_tbl := List.mem_of_getElem? (i := 316) (by decide +kernel)
set_option maxRecDepth 20000 in
theorem mw_214 : (Cond.instanceMethod ({ cls := "PolicyCompiler$Policy", name := "markPredicate", desc := "(Z)V" } : MethodName)) ∈ lw_tbl := List.mem_of_getElem? (i := 317) (by decide +kernel)
set_option maxRecDepth 20000 in
theorem mw_215 : (Cond.selects "PolicyCompiler$Policy" ({ cls := "PolicyCompiler$Policy", name := "markPredicate", desc := "(Z)V" } : MethodName) ({ cls := "PolicyCompiler$Policy", name := "markPredicate", desc := "(Z)V" } : MethodName)) ∈ lw_tbl := List.mem_of_getElem? (i := 318) (by decide +kernel)
set_option maxRecDepth 20000 in
theorem mw_216 : (Cond.code ({ cls := "PolicyCompiler$Policy", name := "markPredicate", desc := "(Z)V" } : MethodName) prog_6_method_6_code (2 : Nat) (Option.none : Option ClassFile.FieldType)) ∈ lw_tbl := List.mem_of_getElem? (i := 319) rfl
set_option maxRecDepth 20000 in
theorem mw_217 : (Cond.fieldLink "PolicyCompiler$Slot" (12 : Nat) "PolicyCompiler$Slot" "policy" "LPolicyCompiler$Policy;") ∈ lw_tbl := List.mem_of_getElem? (i := 320) (by decide +kernel)
set_option maxRecDepth 20000 in
theorem mw_218 : (Cond.fieldLink "PolicyCompiler$Slot" (21 : Nat) "PolicyCompiler$Slot" "printout" "LPolicyCompiler$Printout;") ∈ lw_tbl := List.mem_of_getElem? (i := 321) (by decide +kernel)
set_option maxRecDepth 20000 in
theorem mw_219 : (Cond.fieldLink "PolicyCompiler$Slot" (28 : Nat) "PolicyCompiler$Slot" "relation" "LPolicyCompiler$Relation;") ∈ lw_tbl := List.mem_of_getElem? (i := 322) (by decide +kernel)
set_option maxRecDepth 20000 in
theorem mw_220 : (Cond.fieldLink "PolicyCompiler$Slot" (35 : Nat) "PolicyCompiler$Slot" "diagram" "LPolicyCompiler$Diagram;") ∈ lw_tbl := List.mem_of_getElem? (i := 323) (by decide +kernel)
set_option maxRecDepth 20000 in
theorem mw_221 : (Cond.fieldLink "PolicyCompiler$Slot" (42 : Nat) "PolicyCompiler$Slot" "table" "LPolicyCompiler$Table;") ∈ lw_tbl := List.mem_of_getElem? (i := 324) (by decide +kernel)
set_option maxRecDepth 20000 in
theorem mw_222 : (Cond.fieldLink "PolicyCompiler$Slot" (46 : Nat) "PolicyCompiler$Slot" "fresh" "Z") ∈ lw_tbl := List.mem_of_getElem? (i := 325) (by decide +kernel)
set_option maxRecDepth 20000 in
theorem mw_236 : (Cond.fieldLink "PolicyCompiler" (9 : Nat) "PolicyCompiler" "text" "[I") ∈ lw_tbl := List.mem_of_getElem? (i := 339) (by decide +kernel)
set_option maxRecDepth 20000 in
theorem mw_237 : (Cond.fieldLink "PolicyCompiler" (13 : Nat) "PolicyCompiler" "textLength" "I") ∈ lw_tbl := List.mem_of_getElem? (i := 340) (by decide +kernel)
set_option maxRecDepth 20000 in
theorem mw_238 : (Cond.fieldLink "PolicyCompiler" (19 : Nat) "PolicyCompiler" "slots" "[LPolicyCompiler$Slot;") ∈ lw_tbl := List.mem_of_getElem? (i := 341) (by decide +kernel)
set_option maxRecDepth 20000 in
theorem mw_239 : (Cond.fieldLink "PolicyCompiler" (26 : Nat) "PolicyCompiler" "history" "LPolicyCompiler$History;") ∈ lw_tbl := List.mem_of_getElem? (i := 342) (by decide +kernel)
set_option maxRecDepth 20000 in
theorem mw_240 : (Cond.fieldLink "PolicyCompiler" (30 : Nat) "PolicyCompiler" "errors" "[I") ∈ lw_tbl := List.mem_of_getElem? (i := 343) (by decide +kernel)
set_option maxRecDepth 20000 in
theorem mw_241 : (Cond.fieldLink "PolicyCompiler" (36 : Nat) "PolicyCompiler" "parser" "LPolicyCompiler$Parser;") ∈ lw_tbl := List.mem_of_getElem? (i := 344) (by decide +kernel)
set_option maxRecDepth 20000 in
theorem mw_242 : (Cond.fieldLink "PolicyCompiler" (43 : Nat) "PolicyCompiler" "evaluator" "LPolicyCompiler$Evaluator;") ∈ lw_tbl := List.mem_of_getElem? (i := 345) (by decide +kernel)
set_option maxRecDepth 20000 in
theorem mw_243 : (Cond.fieldLink "PolicyCompiler" (50 : Nat) "PolicyCompiler" "draft" "LPolicyCompiler$Policy;") ∈ lw_tbl := List.mem_of_getElem? (i := 346) (by decide +kernel)
set_option maxRecDepth 20000 in
theorem mw_261 : (Cond.methodLink "PolicyCompilerLaw" (13 : Nat) ({ cls := "PolicyCompiler", name := "append", desc := "(I)I" } : MethodName)) ∈ lw_tbl := List.mem_of_getElem? (i := 364) (by decide +kernel)
set_option maxRecDepth 20000 in
theorem mw_262 : (Cond.instanceMethod ({ cls := "PolicyCompiler", name := "append", desc := "(I)I" } : MethodName)) ∈ lw_tbl := List.mem_of_getElem? (i := 365) (by decide +kernel)
set_option maxRecDepth 20000 in
theorem mw_263 : (Cond.selects "PolicyCompiler" ({ cls := "PolicyCompiler", name := "append", desc := "(I)I" } : MethodName) ({ cls := "PolicyCompiler", name := "append", desc := "(I)I" } : MethodName)) ∈ lw_tbl := List.mem_of_getElem? (i := 366) (by decide +kernel)
set_option maxRecDepth 20000 in
theorem mw_264 : (Cond.code ({ cls := "PolicyCompiler", name := "append", desc := "(I)I" } : MethodName) prog_1_method_2_code (2 : Nat) (Option.some FieldType.int)) ∈ lw_tbl := List.mem_of_getElem? (i := 367) rfl
set_option maxRecDepth 20000 in
theorem mw_265 : (Cond.methodLink "PolicyCompiler" (55 : Nat) ({ cls := "PolicyCompiler", name := "fail", desc := "(I)I" } : MethodName)) ∈ lw_tbl := List.mem_of_getElem? (i := 368) (by decide +kernel)
set_option maxRecDepth 20000 in
theorem mw_267 : (Cond.instanceMethod ({ cls := "PolicyCompiler", name := "fail", desc := "(I)I" } : MethodName)) ∈ lw_tbl := List.mem_of_getElem? (i := 370) (by decide +kernel)
set_option maxRecDepth 20000 in
theorem mw_268 : (Cond.code ({ cls := "PolicyCompiler", name := "fail", desc := "(I)I" } : MethodName) prog_1_method_32_code (3 : Nat) (Option.some FieldType.int)) ∈ lw_tbl := List.mem_of_getElem? (i := 371) rfl
set_option maxRecDepth 20000 in
theorem mw_269 : (Cond.methodLink "PolicyCompilerLaw" (18 : Nat) ({ cls := "PolicyCompiler", name := "clearText", desc := "()I" } : MethodName)) ∈ lw_tbl := List.mem_of_getElem? (i := 372) (by decide +kernel)
set_option maxRecDepth 20000 in
theorem mw_270 : (Cond.instanceMethod ({ cls := "PolicyCompiler", name := "clearText", desc := "()I" } : MethodName)) ∈ lw_tbl := List.mem_of_getElem? (i := 373) (by decide +kernel)
set_option maxRecDepth 20000 in
theorem mw_271 : (Cond.selects "PolicyCompiler" ({ cls := "PolicyCompiler", name := "clearText", desc := "()I" } : MethodName) ({ cls := "PolicyCompiler", name := "clearText", desc := "()I" } : MethodName)) ∈ lw_tbl := List.mem_of_getElem? (i := 374) (by decide +kernel)
set_option maxRecDepth 20000 in
theorem mw_272 : (Cond.code ({ cls := "PolicyCompiler", name := "clearText", desc := "()I" } : MethodName) prog_1_method_3_code (2 : Nat) (Option.some FieldType.int)) ∈ lw_tbl := List.mem_of_getElem? (i := 375) rfl
set_option maxRecDepth 20000 in
theorem mw_273 : (Cond.methodLink "PolicyCompilerLaw" (23 : Nat) ({ cls := "PolicyCompiler", name := "parse", desc := "(I)I" } : MethodName)) ∈ lw_tbl := List.mem_of_getElem? (i := 376) (by decide +kernel)
set_option maxRecDepth 20000 in
theorem mw_274 : (Cond.instanceMethod ({ cls := "PolicyCompiler", name := "parse", desc := "(I)I" } : MethodName)) ∈ lw_tbl := List.mem_of_getElem? (i := 377) (by decide +kernel)
set_option maxRecDepth 20000 in
theorem mw_275 : (Cond.selects "PolicyCompiler" ({ cls := "PolicyCompiler", name := "parse", desc := "(I)I" } : MethodName) ({ cls := "PolicyCompiler", name := "parse", desc := "(I)I" } : MethodName)) ∈ lw_tbl := List.mem_of_getElem? (i := 378) (by decide +kernel)
set_option maxRecDepth 20000 in
theorem mw_276 : (Cond.code ({ cls := "PolicyCompiler", name := "parse", desc := "(I)I" } : MethodName) prog_1_method_4_code (3 : Nat) (Option.some FieldType.int)) ∈ lw_tbl := List.mem_of_getElem? (i := 379) rfl
set_option maxRecDepth 20000 in
theorem mw_277 : (Cond.methodLink "PolicyCompiler" (59 : Nat) ({ cls := "PolicyCompiler", name := "isSlot", desc := "(I)Z" } : MethodName)) ∈ lw_tbl := List.mem_of_getElem? (i := 380) (by decide +kernel)
set_option maxRecDepth 20000 in
theorem mw_278 : (Cond.static ({ cls := "PolicyCompiler", name := "isSlot", desc := "(I)Z" } : MethodName)) ∈ lw_tbl := List.mem_of_getElem? (i := 381) (by decide +kernel)
set_option maxRecDepth 20000 in
theorem mw_279 : (Cond.code ({ cls := "PolicyCompiler", name := "isSlot", desc := "(I)Z" } : MethodName) prog_1_method_35_code (1 : Nat) (Option.some FieldType.boolean)) ∈ lw_tbl := List.mem_of_getElem? (i := 382) rfl
set_option maxRecDepth 20000 in
theorem mw_280 : (Cond.methodLink "PolicyCompiler" (63 : Nat) ({ cls := "PolicyCompiler$Parser", name := "read", desc := "([II[LPolicyCompiler$Slot;)I" } : MethodName)) ∈ lw_tbl := List.mem_of_getElem? (i := 383) (by decide +kernel)
set_option maxRecDepth 20000 in
theorem mw_281 : (Cond.instanceMethod ({ cls := "PolicyCompiler$Parser", name := "read", desc := "([II[LPolicyCompiler$Slot;)I" } : MethodName)) ∈ lw_tbl := List.mem_of_getElem? (i := 384) (by decide +kernel)
set_option maxRecDepth 20000 in
theorem mw_282 : (Cond.selects "PolicyCompiler$Parser" ({ cls := "PolicyCompiler$Parser", name := "read", desc := "([II[LPolicyCompiler$Slot;)I" } : MethodName) ({ cls := "PolicyCompiler$Parser", name := "read", desc := "([II[LPolicyCompiler$Slot;)I" } : MethodName)) ∈ lw_tbl := List.mem_of_getElem? (i := 385) (by decide +kernel)
set_option maxRecDepth 20000 in
theorem mw_283 : (Cond.code ({ cls := "PolicyCompiler$Parser", name := "read", desc := "([II[LPolicyCompiler$Slot;)I" } : MethodName) prog_5_method_3_code (5 : Nat) (Option.some FieldType.int)) ∈ lw_tbl := List.mem_of_getElem? (i := 386) rfl
set_option maxRecDepth 20000 in
theorem mw_284 : (Cond.methodLink "PolicyCompiler$Parser" (48 : Nat) ({ cls := "PolicyCompiler$Policy", name := "start", desc := "()V" } : MethodName)) ∈ lw_tbl := List.mem_of_getElem? (i := 387) (by decide +kernel)
set_option maxRecDepth 20000 in
theorem mw_285 : (Cond.instanceMethod ({ cls := "PolicyCompiler$Policy", name := "start", desc := "()V" } : MethodName)) ∈ lw_tbl := List.mem_of_getElem? (i := 388) (by decide +kernel)
set_option maxRecDepth 20000 in
theorem mw_286 : (Cond.selects "PolicyCompiler$Policy" ({ cls := "PolicyCompiler$Policy", name := "start", desc := "()V" } : MethodName) ({ cls := "PolicyCompiler$Policy", name := "start", desc := "()V" } : MethodName)) ∈ lw_tbl := List.mem_of_getElem? (i := 389) (by decide +kernel)
set_option maxRecDepth 20000 in
theorem mw_287 : (Cond.code ({ cls := "PolicyCompiler$Policy", name := "start", desc := "()V" } : MethodName) prog_6_method_2_code (1 : Nat) (Option.none : Option ClassFile.FieldType)) ∈ lw_tbl := List.mem_of_getElem? (i := 390) rfl
set_option maxRecDepth 20000 in
theorem mw_288 : (Cond.methodLink "PolicyCompiler$Parser" (51 : Nat) ({ cls := "PolicyCompiler$Parser", name := "takeFactor", desc := "(II[LPolicyCompiler$Slot;)V" } : MethodName)) ∈ lw_tbl := List.mem_of_getElem? (i := 391) (by decide +kernel)
set_option maxRecDepth 20000 in
theorem mw_290 : (Cond.instanceMethod ({ cls := "PolicyCompiler$Parser", name := "takeFactor", desc := "(II[LPolicyCompiler$Slot;)V" } : MethodName)) ∈ lw_tbl := List.mem_of_getElem? (i := 393) (by decide +kernel)
set_option maxRecDepth 20000 in
theorem mw_291 : (Cond.code ({ cls := "PolicyCompiler$Parser", name := "takeFactor", desc := "(II[LPolicyCompiler$Slot;)V" } : MethodName) prog_5_method_5_code (5 : Nat) (Option.none : Option ClassFile.FieldType)) ∈ lw_tbl := List.mem_of_getElem? (i := 394) rfl
set_option maxRecDepth 20000 in
theorem mw_292 : (Cond.methodLink "PolicyCompiler$Parser" (83 : Nat) ({ cls := "PolicyCompiler$Parser", name := "open", desc := "(II)V" } : MethodName)) ∈ lw_tbl := List.mem_of_getElem? (i := 395) (by decide +kernel)
set_option maxRecDepth 20000 in
theorem mw_294 : (Cond.instanceMethod ({ cls := "PolicyCompiler$Parser", name := "open", desc := "(II)V" } : MethodName)) ∈ lw_tbl := List.mem_of_getElem? (i := 397) (by decide +kernel)
set_option maxRecDepth 20000 in
theorem mw_295 : (Cond.code ({ cls := "PolicyCompiler$Parser", name := "open", desc := "(II)V" } : MethodName) prog_5_method_15_code (3 : Nat) (Option.none : Option ClassFile.FieldType)) ∈ lw_tbl := List.mem_of_getElem? (i := 398) rfl
set_option maxRecDepth 20000 in
theorem mw_296 : (Cond.methodLink "PolicyCompiler$Parser" (86 : Nat) ({ cls := "PolicyCompiler$Parser", name := "endLeaf", desc := "(III)V" } : MethodName)) ∈ lw_tbl := List.mem_of_getElem? (i := 399) (by decide +kernel)
set_option maxRecDepth 20000 in
theorem mw_298 : (Cond.instanceMethod ({ cls := "PolicyCompiler$Parser", name := "endLeaf", desc := "(III)V" } : MethodName)) ∈ lw_tbl := List.mem_of_getElem? (i := 401) (by decide +kernel)
set_option maxRecDepth 20000 in
theorem mw_299 : (Cond.code ({ cls := "PolicyCompiler$Parser", name := "endLeaf", desc := "(III)V" } : MethodName) prog_5_method_8_code (4 : Nat) (Option.none : Option ClassFile.FieldType)) ∈ lw_tbl := List.mem_of_getElem? (i := 402) rfl
set_option maxRecDepth 20000 in
theorem mw_300 : (Cond.methodLink "PolicyCompiler$Parser" (106 : Nat) ({ cls := "PolicyCompiler$Policy", name := "add", desc := "(III)V" } : MethodName)) ∈ lw_tbl := List.mem_of_getElem? (i := 403) (by decide +kernel)
set_option maxRecDepth 20000 in
theorem mw_301 : (Cond.methodLink "PolicyCompiler$Parser" (103 : Nat) ({ cls := "PolicyCompiler$Parser", name := "pushOperand", desc := "(Z)V" } : MethodName)) ∈ lw_tbl := List.mem_of_getElem? (i := 404) (by decide +kernel)
set_option maxRecDepth 20000 in
theorem mw_303 : (Cond.instanceMethod ({ cls := "PolicyCompiler$Parser", name := "pushOperand", desc := "(Z)V" } : MethodName)) ∈ lw_tbl := List.mem_of_getElem? (i := 406) (by decide +kernel)
set_option maxRecDepth 20000 in
theorem mw_304 : (Cond.code ({ cls := "PolicyCompiler$Parser", name := "pushOperand", desc := "(Z)V" } : MethodName) prog_5_method_18_code (2 : Nat) (Option.none : Option ClassFile.FieldType)) ∈ lw_tbl := List.mem_of_getElem? (i := 407) rfl
set_option maxRecDepth 20000 in
theorem mw_305 : (Cond.methodLink "PolicyCompiler$Parser" (90 : Nat) ({ cls := "PolicyCompiler$Slot", name := "policy", desc := "()LPolicyCompiler$Policy;" } : MethodName)) ∈ lw_tbl := List.mem_of_getElem? (i := 408) (by decide +kernel)
set_option maxRecDepth 20000 in
theorem mw_306 : (Cond.instanceMethod ({ cls := "PolicyCompiler$Slot", name := "policy", desc := "()LPolicyCompiler$Policy;" } : MethodName)) ∈ lw_tbl := List.mem_of_getElem? (i := 409) (by decide +kernel)
set_option maxRecDepth 20000 in
theorem mw_307 : (Cond.selects "PolicyCompiler$Slot" ({ cls := "PolicyCompiler$Slot", name := "policy", desc := "()LPolicyCompiler$Policy;" } : MethodName) ({ cls := "PolicyCompiler$Slot", name := "policy", desc := "()LPolicyCompiler$Policy;" } : MethodName)) ∈ lw_tbl := List.mem_of_getElem? (i := 410) (by decide +kernel)
set_option maxRecDepth 20000 in
theorem mw_308 : (Cond.code ({ cls := "PolicyCompiler$Slot", name := "policy", desc := "()LPolicyCompiler$Policy;" } : MethodName) prog_9_method_4_code (1 : Nat) (Option.some (FieldType.object "PolicyCompiler$Policy"))) ∈ lw_tbl := List.mem_of_getElem? (i := 411) rfl
set_option maxRecDepth 20000 in
theorem mw_309 : (Cond.methodLink "PolicyCompiler$Parser" (96 : Nat) ({ cls := "PolicyCompiler$Policy", name := "addAll", desc := "(LPolicyCompiler$Policy;)V" } : MethodName)) ∈ lw_tbl := List.mem_of_getElem? (i := 412) (by decide +kernel)
set_option maxRecDepth 20000 in
theorem mw_310 : (Cond.instanceMethod ({ cls := "PolicyCompiler$Policy", name := "addAll", desc := "(LPolicyCompiler$Policy;)V" } : MethodName)) ∈ lw_tbl := List.mem_of_getElem? (i := 413) (by decide +kernel)
set_option maxRecDepth 20000 in
theorem mw_311 : (Cond.selects "PolicyCompiler$Policy" ({ cls := "PolicyCompiler$Policy", name := "addAll", desc := "(LPolicyCompiler$Policy;)V" } : MethodName) ({ cls := "PolicyCompiler$Policy", name := "addAll", desc := "(LPolicyCompiler$Policy;)V" } : MethodName)) ∈ lw_tbl := List.mem_of_getElem? (i := 414) (by decide +kernel)
set_option maxRecDepth 20000 in
theorem mw_312 : (Cond.code ({ cls := "PolicyCompiler$Policy", name := "addAll", desc := "(LPolicyCompiler$Policy;)V" } : MethodName) prog_6_method_5_code (4 : Nat) (Option.none : Option ClassFile.FieldType)) ∈ lw_tbl := List.mem_of_getElem? (i := 415) rfl
set_option maxRecDepth 20000 in
theorem mw_313 : (Cond.methodLink "PolicyCompiler$Parser" (100 : Nat) ({ cls := "PolicyCompiler$Policy", name := "givesPredicate", desc := "()Z" } : MethodName)) ∈ lw_tbl := List.mem_of_getElem? (i := 416) (by decide +kernel)
set_option maxRecDepth 20000 in
theorem mw_314 : (Cond.instanceMethod ({ cls := "PolicyCompiler$Policy", name := "givesPredicate", desc := "()Z" } : MethodName)) ∈ lw_tbl := List.mem_of_getElem? (i := 417) (by decide +kernel)
set_option maxRecDepth 20000 in
theorem mw_315 : (Cond.selects "PolicyCompiler$Policy" ({ cls := "PolicyCompiler$Policy", name := "givesPredicate", desc := "()Z" } : MethodName) ({ cls := "PolicyCompiler$Policy", name := "givesPredicate", desc := "()Z" } : MethodName)) ∈ lw_tbl := List.mem_of_getElem? (i := 418) (by decide +kernel)
set_option maxRecDepth 20000 in
theorem mw_316 : (Cond.code ({ cls := "PolicyCompiler$Policy", name := "givesPredicate", desc := "()Z" } : MethodName) prog_6_method_7_code (1 : Nat) (Option.some FieldType.boolean)) ∈ lw_tbl := List.mem_of_getElem? (i := 419) rfl
set_option maxRecDepth 20000 in
theorem mw_317 : (Cond.methodLink "PolicyCompiler$Parser" (55 : Nat) ({ cls := "PolicyCompiler$Parser", name := "takeSign", desc := "(II)V" } : MethodName)) ∈ lw_tbl := List.mem_of_getElem? (i := 420) (by decide +kernel)
set_option maxRecDepth 20000 in
theorem mw_319 : (Cond.instanceMethod ({ cls := "PolicyCompiler$Parser", name := "takeSign", desc := "(II)V" } : MethodName)) ∈ lw_tbl := List.mem_of_getElem? (i := 422) (by decide +kernel)
set_option maxRecDepth 20000 in
theorem mw_320 : (Cond.code ({ cls := "PolicyCompiler$Parser", name := "takeSign", desc := "(II)V" } : MethodName) prog_5_method_6_code (3 : Nat) (Option.none : Option ClassFile.FieldType)) ∈ lw_tbl := List.mem_of_getElem? (i := 423) rfl
set_option maxRecDepth 20000 in
theorem mw_321 : (Cond.methodLink "PolicyCompiler$Parser" (59 : Nat) ({ cls := "PolicyCompiler$Parser", name := "takeDigit", desc := "(II)V" } : MethodName)) ∈ lw_tbl := List.mem_of_getElem? (i := 424) (by decide +kernel)
set_option maxRecDepth 20000 in
theorem mw_323 : (Cond.instanceMethod ({ cls := "PolicyCompiler$Parser", name := "takeDigit", desc := "(II)V" } : MethodName)) ∈ lw_tbl := List.mem_of_getElem? (i := 426) (by decide +kernel)
set_option maxRecDepth 20000 in
theorem mw_324 : (Cond.code ({ cls := "PolicyCompiler$Parser", name := "takeDigit", desc := "(II)V" } : MethodName) prog_5_method_7_code (3 : Nat) (Option.none : Option ClassFile.FieldType)) ∈ lw_tbl := List.mem_of_getElem? (i := 427) rfl
set_option maxRecDepth 20000 in
theorem mw_325 : (Cond.methodLink "PolicyCompiler$Parser" (62 : Nat) ({ cls := "PolicyCompiler$Parser", name := "takeBehindAtom", desc := "(II)V" } : MethodName)) ∈ lw_tbl := List.mem_of_getElem? (i := 428) (by decide +kernel)
set_option maxRecDepth 20000 in
theorem mw_327 : (Cond.instanceMethod ({ cls := "PolicyCompiler$Parser", name := "takeBehindAtom", desc := "(II)V" } : MethodName)) ∈ lw_tbl := List.mem_of_getElem? (i := 430) (by decide +kernel)
set_option maxRecDepth 20000 in
theorem mw_328 : (Cond.code ({ cls := "PolicyCompiler$Parser", name := "takeBehindAtom", desc := "(II)V" } : MethodName) prog_5_method_9_code (3 : Nat) (Option.none : Option ClassFile.FieldType)) ∈ lw_tbl := List.mem_of_getElem? (i := 431) rfl
set_option maxRecDepth 20000 in
theorem mw_329 : (Cond.methodLink "PolicyCompiler$Parser" (109 : Nat) ({ cls := "PolicyCompiler$Parser", name := "popOperand", desc := "()Z" } : MethodName)) ∈ lw_tbl := List.mem_of_getElem? (i := 432) (by decide +kernel)
set_option maxRecDepth 20000 in
theorem mw_331 : (Cond.instanceMethod ({ cls := "PolicyCompiler$Parser", name := "popOperand", desc := "()Z" } : MethodName)) ∈ lw_tbl := List.mem_of_getElem? (i := 434) (by decide +kernel)
set_option maxRecDepth 20000 in
theorem mw_332 : (Cond.code ({ cls := "PolicyCompiler$Parser", name := "popOperand", desc := "()Z" } : MethodName) prog_5_method_19_code (2 : Nat) (Option.some FieldType.boolean)) ∈ lw_tbl := List.mem_of_getElem? (i := 435) rfl
set_option maxRecDepth 20000 in
theorem mw_333 : (Cond.methodLink "PolicyCompiler$Parser" (75 : Nat) ({ cls := "PolicyCompiler$Parser", name := "topIsPredicate", desc := "()Z" } : MethodName)) ∈ lw_tbl := List.mem_of_getElem? (i := 436) (by decide +kernel)
set_option maxRecDepth 20000 in
theorem mw_335 : (Cond.instanceMethod ({ cls := "PolicyCompiler$Parser", name := "topIsPredicate", desc := "()Z" } : MethodName)) ∈ lw_tbl := List.mem_of_getElem? (i := 438) (by decide +kernel)
set_option maxRecDepth 20000 in
theorem mw_336 : (Cond.code ({ cls := "PolicyCompiler$Parser", name := "topIsPredicate", desc := "()Z" } : MethodName) prog_5_method_20_code (1 : Nat) (Option.some FieldType.boolean)) ∈ lw_tbl := List.mem_of_getElem? (i := 439) rfl
set_option maxRecDepth 20000 in
theorem mw_337 : (Cond.methodLink "PolicyCompiler$Parser" (69 : Nat) ({ cls := "PolicyCompiler$Parser", name := "endFactor", desc := "()V" } : MethodName)) ∈ lw_tbl := List.mem_of_getElem? (i := 440) (by decide +kernel)
set_option maxRecDepth 20000 in
theorem mw_339 : (Cond.instanceMethod ({ cls := "PolicyCompiler$Parser", name := "endFactor", desc := "()V" } : MethodName)) ∈ lw_tbl := List.mem_of_getElem? (i := 442) (by decide +kernel)
set_option maxRecDepth 20000 in
theorem mw_340 : (Cond.code ({ cls := "PolicyCompiler$Parser", name := "endFactor", desc := "()V" } : MethodName) prog_5_method_10_code (2 : Nat) (Option.none : Option ClassFile.FieldType)) ∈ lw_tbl := List.mem_of_getElem? (i := 443) rfl
set_option maxRecDepth 20000 in
theorem mw_341 : (Cond.methodLink "PolicyCompiler$Parser" (118 : Nat) ({ cls := "PolicyCompiler$Parser", name := "innermost", desc := "()I" } : MethodName)) ∈ lw_tbl := List.mem_of_getElem? (i := 444) (by decide +kernel)
set_option maxRecDepth 20000 in
theorem mw_343 : (Cond.instanceMethod ({ cls := "PolicyCompiler$Parser", name := "innermost", desc := "()I" } : MethodName)) ∈ lw_tbl := List.mem_of_getElem? (i := 446) (by decide +kernel)
set_option maxRecDepth 20000 in
theorem mw_344 : (Cond.code ({ cls := "PolicyCompiler$Parser", name := "innermost", desc := "()I" } : MethodName) prog_5_method_16_code (1 : Nat) (Option.some FieldType.int)) ∈ lw_tbl := List.mem_of_getElem? (i := 447) rfl
set_option maxRecDepth 20000 in
theorem mw_345 : (Cond.methodLink "PolicyCompiler$Parser" (122 : Nat) ({ cls := "PolicyCompiler$Parser", name := "innermostBegin", desc := "()I" } : MethodName)) ∈ lw_tbl := List.mem_of_getElem? (i := 448) (by decide +kernel)
set_option maxRecDepth 20000 in
theorem mw_347 : (Cond.instanceMethod ({ cls := "PolicyCompiler$Parser", name := "innermostBegin", desc := "()I" } : MethodName)) ∈ lw_tbl := List.mem_of_getElem? (i := 450) (by decide +kernel)
set_option maxRecDepth 20000 in
theorem mw_348 : (Cond.code ({ cls := "PolicyCompiler$Parser", name := "innermostBegin", desc := "()I" } : MethodName) prog_5_method_17_code (1 : Nat) (Option.some FieldType.int)) ∈ lw_tbl := List.mem_of_getElem? (i := 451) rfl
set_option maxRecDepth 20000 in
theorem mw_349 : (Cond.methodLink "PolicyCompiler$Parser" (112 : Nat) ({ cls := "PolicyCompiler$Parser", name := "endPair", desc := "(II)V" } : MethodName)) ∈ lw_tbl := List.mem_of_getElem? (i := 452) (by decide +kernel)
set_option maxRecDepth 20000 in
theorem mw_351 : (Cond.instanceMethod ({ cls := "PolicyCompiler$Parser", name := "endPair", desc := "(II)V" } : MethodName)) ∈ lw_tbl := List.mem_of_getElem? (i := 454) (by decide +kernel)
set_option maxRecDepth 20000 in
theorem mw_352 : (Cond.code ({ cls := "PolicyCompiler$Parser", name := "endPair", desc := "(II)V" } : MethodName) prog_5_method_12_code (5 : Nat) (Option.none : Option ClassFile.FieldType)) ∈ lw_tbl := List.mem_of_getElem? (i := 455) rfl
set_option maxRecDepth 20000 in
theorem mw_353 : (Cond.methodLink "PolicyCompiler$Parser" (72 : Nat) ({ cls := "PolicyCompiler$Parser", name := "endUnion", desc := "()V" } : MethodName)) ∈ lw_tbl := List.mem_of_getElem? (i := 456) (by decide +kernel)
set_option maxRecDepth 20000 in
theorem mw_355 : (Cond.instanceMethod ({ cls := "PolicyCompiler$Parser", name := "endUnion", desc := "()V" } : MethodName)) ∈ lw_tbl := List.mem_of_getElem? (i := 458) (by decide +kernel)
set_option maxRecDepth 20000 in
theorem mw_356 : (Cond.code ({ cls := "PolicyCompiler$Parser", name := "endUnion", desc := "()V" } : MethodName) prog_5_method_11_code (1 : Nat) (Option.none : Option ClassFile.FieldType)) ∈ lw_tbl := List.mem_of_getElem? (i := 459) rfl
set_option maxRecDepth 20000 in
theorem mw_357 : (Cond.methodLink "PolicyCompiler$Parser" (115 : Nat) ({ cls := "PolicyCompiler$Parser", name := "takeBracket", desc := "(II)V" } : MethodName)) ∈ lw_tbl := List.mem_of_getElem? (i := 460) (by decide +kernel)
set_option maxRecDepth 20000 in
theorem mw_359 : (Cond.instanceMethod ({ cls := "PolicyCompiler$Parser", name := "takeBracket", desc := "(II)V" } : MethodName)) ∈ lw_tbl := List.mem_of_getElem? (i := 462) (by decide +kernel)
set_option maxRecDepth 20000 in
theorem mw_360 : (Cond.code ({ cls := "PolicyCompiler$Parser", name := "takeBracket", desc := "(II)V" } : MethodName) prog_5_method_13_code (4 : Nat) (Option.none : Option ClassFile.FieldType)) ∈ lw_tbl := List.mem_of_getElem? (i := 463) rfl
set_option maxRecDepth 20000 in
theorem mw_361 : (Cond.methodLink "PolicyCompiler$Parser" (125 : Nat) ({ cls := "PolicyCompiler$Parser", name := "endChoice", desc := "()V" } : MethodName)) ∈ lw_tbl := List.mem_of_getElem? (i := 464) (by decide +kernel)
set_option maxRecDepth 20000 in
theorem mw_363 : (Cond.instanceMethod ({ cls := "PolicyCompiler$Parser", name := "endChoice", desc := "()V" } : MethodName)) ∈ lw_tbl := List.mem_of_getElem? (i := 466) (by decide +kernel)
set_option maxRecDepth 20000 in
theorem mw_364 : (Cond.code ({ cls := "PolicyCompiler$Parser", name := "endChoice", desc := "()V" } : MethodName) prog_5_method_14_code (3 : Nat) (Option.none : Option ClassFile.FieldType)) ∈ lw_tbl := List.mem_of_getElem? (i := 467) rfl
set_option maxRecDepth 20000 in
theorem mw_365 : (Cond.methodLink "PolicyCompiler$Parser" (65 : Nat) ({ cls := "PolicyCompiler$Parser", name := "finish", desc := "(I)V" } : MethodName)) ∈ lw_tbl := List.mem_of_getElem? (i := 468) (by decide +kernel)
set_option maxRecDepth 20000 in
theorem mw_367 : (Cond.instanceMethod ({ cls := "PolicyCompiler$Parser", name := "finish", desc := "(I)V" } : MethodName)) ∈ lw_tbl := List.mem_of_getElem? (i := 470) (by decide +kernel)
set_option maxRecDepth 20000 in
theorem mw_368 : (Cond.code ({ cls := "PolicyCompiler$Parser", name := "finish", desc := "(I)V" } : MethodName) prog_5_method_4_code (2 : Nat) (Option.none : Option ClassFile.FieldType)) ∈ lw_tbl := List.mem_of_getElem? (i := 471) rfl
set_option maxRecDepth 20000 in
theorem mw_369 : (Cond.methodLink "PolicyCompiler$Parser" (79 : Nat) ({ cls := "PolicyCompiler$Policy", name := "markPredicate", desc := "(Z)V" } : MethodName)) ∈ lw_tbl := List.mem_of_getElem? (i := 472) (by decide +kernel)
set_option maxRecDepth 20000 in
theorem mw_370 : (Cond.methodLink "PolicyCompiler" (67 : Nat) ({ cls := "PolicyCompiler$Parser", name := "result", desc := "()LPolicyCompiler$Policy;" } : MethodName)) ∈ lw_tbl := List.mem_of_getElem? (i := 473) (by decide +kernel)
set_option maxRecDepth 20000 in
theorem mw_371 : (Cond.instanceMethod ({ cls := "PolicyCompiler$Parser", name := "result", desc := "()LPolicyCompiler$Policy;" } : MethodName)) ∈ lw_tbl := List.mem_of_getElem? (i := 474) (by decide +kernel)
set_option maxRecDepth 20000 in
theorem mw_372 : (Cond.selects "PolicyCompiler$Parser" ({ cls := "PolicyCompiler$Parser", name := "result", desc := "()LPolicyCompiler$Policy;" } : MethodName) ({ cls := "PolicyCompiler$Parser", name := "result", desc := "()LPolicyCompiler$Policy;" } : MethodName)) ∈ lw_tbl := List.mem_of_getElem? (i := 475) (by decide +kernel)
set_option maxRecDepth 20000 in
theorem mw_373 : (Cond.code ({ cls := "PolicyCompiler$Parser", name := "result", desc := "()LPolicyCompiler$Policy;" } : MethodName) prog_5_method_2_code (1 : Nat) (Option.some (FieldType.object "PolicyCompiler$Policy"))) ∈ lw_tbl := List.mem_of_getElem? (i := 476) rfl
set_option maxRecDepth 20000 in
theorem mw_374 : (Cond.methodLink "PolicyCompiler" (71 : Nat) ({ cls := "PolicyCompiler", name := "store", desc := "(LPolicyCompiler$Policy;I)I" } : MethodName)) ∈ lw_tbl := List.mem_of_getElem? (i := 477) (by decide +kernel)
set_option maxRecDepth 20000 in
theorem mw_376 : (Cond.instanceMethod ({ cls := "PolicyCompiler", name := "store", desc := "(LPolicyCompiler$Policy;I)I" } : MethodName)) ∈ lw_tbl := List.mem_of_getElem? (i := 479) (by decide +kernel)
set_option maxRecDepth 20000 in
theorem mw_377 : (Cond.code ({ cls := "PolicyCompiler", name := "store", desc := "(LPolicyCompiler$Policy;I)I" } : MethodName) prog_1_method_33_code (3 : Nat) (Option.some FieldType.int)) ∈ lw_tbl := List.mem_of_getElem? (i := 480) rfl
set_option maxRecDepth 20000 in
theorem mw_378 : (Cond.methodLink "PolicyCompiler" (100 : Nat) ({ cls := "PolicyCompiler$Policy", name := "nodeCount", desc := "()I" } : MethodName)) ∈ lw_tbl := List.mem_of_getElem? (i := 481) (by decide +kernel)
set_option maxRecDepth 20000 in
theorem mw_379 : (Cond.instanceMethod ({ cls := "PolicyCompiler$Policy", name := "nodeCount", desc := "()I" } : MethodName)) ∈ lw_tbl := List.mem_of_getElem? (i := 482) (by decide +kernel)
set_option maxRecDepth 20000 in
theorem mw_380 : (Cond.selects "PolicyCompiler$Policy" ({ cls := "PolicyCompiler$Policy", name := "nodeCount", desc := "()I" } : MethodName) ({ cls := "PolicyCompiler$Policy", name := "nodeCount", desc := "()I" } : MethodName)) ∈ lw_tbl := List.mem_of_getElem? (i := 483) (by decide +kernel)
set_option maxRecDepth 20000 in
theorem mw_381 : (Cond.code ({ cls := "PolicyCompiler$Policy", name := "nodeCount", desc := "()I" } : MethodName) prog_6_method_8_code (1 : Nat) (Option.some FieldType.int)) ∈ lw_tbl := List.mem_of_getElem? (i := 484) rfl
set_option maxRecDepth 20000 in
theorem mw_382 : (Cond.methodLink "PolicyCompiler" (78 : Nat) ({ cls := "PolicyCompiler$Slot", name := "policy", desc := "()LPolicyCompiler$Policy;" } : MethodName)) ∈ lw_tbl := List.mem_of_getElem? (i := 485) (by decide +kernel)
set_option maxRecDepth 20000 in
theorem mw_383 : (Cond.methodLink "PolicyCompiler" (239 : Nat) ({ cls := "PolicyCompiler$History", name := "save", desc := "(ILPolicyCompiler$Policy;)V" } : MethodName)) ∈ lw_tbl := List.mem_of_getElem? (i := 486) (by decide +kernel)
set_option maxRecDepth 20000 in
theorem mw_384 : (Cond.instanceMethod ({ cls := "PolicyCompiler$History", name := "save", desc := "(ILPolicyCompiler$Policy;)V" } : MethodName)) ∈ lw_tbl := List.mem_of_getElem? (i := 487) (by decide +kernel)
set_option maxRecDepth 20000 in
theorem mw_385 : (Cond.selects "PolicyCompiler$History" ({ cls := "PolicyCompiler$History", name := "save", desc := "(ILPolicyCompiler$Policy;)V" } : MethodName) ({ cls := "PolicyCompiler$History", name := "save", desc := "(ILPolicyCompiler$Policy;)V" } : MethodName)) ∈ lw_tbl := List.mem_of_getElem? (i := 488) (by decide +kernel)
set_option maxRecDepth 20000 in
theorem mw_386 : (Cond.code ({ cls := "PolicyCompiler$History", name := "save", desc := "(ILPolicyCompiler$Policy;)V" } : MethodName) prog_4_method_3_code (3 : Nat) (Option.none : Option ClassFile.FieldType)) ∈ lw_tbl := List.mem_of_getElem? (i := 489) rfl
set_option maxRecDepth 20000 in
theorem mw_387 : (Cond.methodLink "PolicyCompiler$History" (26 : Nat) ({ cls := "PolicyCompiler$History", name := "dropOldest", desc := "()V" } : MethodName)) ∈ lw_tbl := List.mem_of_getElem? (i := 490) (by decide +kernel)
set_option maxRecDepth 20000 in
theorem mw_389 : (Cond.instanceMethod ({ cls := "PolicyCompiler$History", name := "dropOldest", desc := "()V" } : MethodName)) ∈ lw_tbl := List.mem_of_getElem? (i := 492) (by decide +kernel)
set_option maxRecDepth 20000 in
theorem mw_390 : (Cond.code ({ cls := "PolicyCompiler$History", name := "dropOldest", desc := "()V" } : MethodName) prog_4_method_4_code (3 : Nat) (Option.none : Option ClassFile.FieldType)) ∈ lw_tbl := List.mem_of_getElem? (i := 493) rfl
set_option maxRecDepth 20000 in
theorem mw_391 : (Cond.methodLink "PolicyCompiler$History" (29 : Nat) ({ cls := "PolicyCompiler$Policy", name := "start", desc := "()V" } : MethodName)) ∈ lw_tbl := List.mem_of_getElem? (i := 494) (by decide +kernel)
set_option maxRecDepth 20000 in
theorem mw_392 : (Cond.methodLink "PolicyCompiler$History" (32 : Nat) ({ cls := "PolicyCompiler$Policy", name := "addAll", desc := "(LPolicyCompiler$Policy;)V" } : MethodName)) ∈ lw_tbl := List.mem_of_getElem? (i := 495) (by decide +kernel)
set_option maxRecDepth 20000 in
theorem mw_393 : (Cond.methodLink "PolicyCompiler$History" (36 : Nat) ({ cls := "PolicyCompiler$Policy", name := "givesPredicate", desc := "()Z" } : MethodName)) ∈ lw_tbl := List.mem_of_getElem? (i := 496) (by decide +kernel)
set_option maxRecDepth 20000 in
theorem mw_394 : (Cond.methodLink "PolicyCompiler$History" (40 : Nat) ({ cls := "PolicyCompiler$Policy", name := "markPredicate", desc := "(Z)V" } : MethodName)) ∈ lw_tbl := List.mem_of_getElem? (i := 497) (by decide +kernel)
set_option maxRecDepth 20000 in
theorem mw_395 : (Cond.methodLink "PolicyCompiler" (213 : Nat) ({ cls := "PolicyCompiler$Slot", name := "hold", desc := "(LPolicyCompiler$Policy;)V" } : MethodName)) ∈ lw_tbl := List.mem_of_getElem? (i := 498) (by decide +kernel)
set_option maxRecDepth 20000 in
theorem mw_396 : (Cond.instanceMethod ({ cls := "PolicyCompiler$Slot", name := "hold", desc := "(LPolicyCompiler$Policy;)V" } : MethodName)) ∈ lw_tbl := List.mem_of_getElem? (i := 499) (by decide +kernel)
set_option maxRecDepth 20000 in
theorem mw_397 : (Cond.selects "PolicyCompiler$Slot" ({ cls := "PolicyCompiler$Slot", name := "hold", desc := "(LPolicyCompiler$Policy;)V" } : MethodName) ({ cls := "PolicyCompiler$Slot", name := "hold", desc := "(LPolicyCompiler$Policy;)V" } : MethodName)) ∈ lw_tbl := List.mem_of_getElem? (i := 500) (by decide +kernel)
set_option maxRecDepth 20000 in
theorem mw_398 : (Cond.code ({ cls := "PolicyCompiler$Slot", name := "hold", desc := "(LPolicyCompiler$Policy;)V" } : MethodName) prog_9_method_2_code (2 : Nat) (Option.none : Option ClassFile.FieldType)) ∈ lw_tbl := List.mem_of_getElem? (i := 501) rfl
set_option maxRecDepth 20000 in
theorem mw_399 : (Cond.methodLink "PolicyCompiler$Slot" (58 : Nat) ({ cls := "PolicyCompiler$Policy", name := "start", desc := "()V" } : MethodName)) ∈ lw_tbl := List.mem_of_getElem? (i := 502) (by decide +kernel)
set_option maxRecDepth 20000 in
theorem mw_400 : (Cond.methodLink "PolicyCompiler$Slot" (61 : Nat) ({ cls := "PolicyCompiler$Policy", name := "addAll", desc := "(LPolicyCompiler$Policy;)V" } : MethodName)) ∈ lw_tbl := List.mem_of_getElem? (i := 503) (by decide +kernel)
set_option maxRecDepth 20000 in
theorem mw_401 : (Cond.methodLink "PolicyCompiler$Slot" (65 : Nat) ({ cls := "PolicyCompiler$Policy", name := "givesPredicate", desc := "()Z" } : MethodName)) ∈ lw_tbl := List.mem_of_getElem? (i := 504) (by decide +kernel)
set_option maxRecDepth 20000 in
theorem mw_402 : (Cond.methodLink "PolicyCompilerLaw" (27 : Nat) ({ cls := "PolicyCompiler", name := "combine", desc := "(IIII)I" } : MethodName)) ∈ lw_tbl := List.mem_of_getElem? (i := 505) (by decide +kernel)
set_option maxRecDepth 20000 in
theorem mw_403 : (Cond.instanceMethod ({ cls := "PolicyCompiler", name := "combine", desc := "(IIII)I" } : MethodName)) ∈ lw_tbl := List.mem_of_getElem? (i := 506) (by decide +kernel)
set_option maxRecDepth 20000 in
theorem mw_404 : (Cond.selects "PolicyCompiler" ({ cls := "PolicyCompiler", name := "combine", desc := "(IIII)I" } : MethodName) ({ cls := "PolicyCompiler", name := "combine", desc := "(IIII)I" } : MethodName)) ∈ lw_tbl := List.mem_of_getElem? (i := 507) (by decide +kernel)
set_option maxRecDepth 20000 in
theorem mw_405 : (Cond.code ({ cls := "PolicyCompiler", name := "combine", desc := "(IIII)I" } : MethodName) prog_1_method_5_code (7 : Nat) (Option.some FieldType.int)) ∈ lw_tbl := List.mem_of_getElem? (i := 508) rfl
set_option maxRecDepth 20000 in
theorem mw_406 : (Cond.methodLink "PolicyCompiler" (75 : Nat) ({ cls := "PolicyCompiler", name := "isBit", desc := "(I)Z" } : MethodName)) ∈ lw_tbl := List.mem_of_getElem? (i := 509) (by decide +kernel)
set_option maxRecDepth 20000 in
theorem mw_407 : (Cond.static ({ cls := "PolicyCompiler", name := "isBit", desc := "(I)Z" } : MethodName)) ∈ lw_tbl := List.mem_of_getElem? (i := 510) (by decide +kernel)
set_option maxRecDepth 20000 in
theorem mw_408 : (Cond.code ({ cls := "PolicyCompiler", name := "isBit", desc := "(I)Z" } : MethodName) prog_1_method_34_code (1 : Nat) (Option.some FieldType.boolean)) ∈ lw_tbl := List.mem_of_getElem? (i := 511) rfl
set_option maxRecDepth 20000 in
theorem mw_409 : (Cond.methodLink "PolicyCompiler" (81 : Nat) ({ cls := "PolicyCompiler$Policy", name := "start", desc := "()V" } : MethodName)) ∈ lw_tbl := List.mem_of_getElem? (i := 512) (by decide +kernel)
set_option maxRecDepth 20000 in
theorem mw_410 : (Cond.methodLink "PolicyCompiler" (84 : Nat) ({ cls := "PolicyCompiler$Policy", name := "addAll", desc := "(LPolicyCompiler$Policy;)V" } : MethodName)) ∈ lw_tbl := List.mem_of_getElem? (i := 513) (by decide +kernel)
set_option maxRecDepth 20000 in
theorem mw_411 : (Cond.methodLink "PolicyCompiler" (88 : Nat) ({ cls := "PolicyCompiler$Policy", name := "add", desc := "(III)V" } : MethodName)) ∈ lw_tbl := List.mem_of_getElem? (i := 514) (by decide +kernel)
set_option maxRecDepth 20000 in
theorem mw_412 : (Cond.methodLink "PolicyCompiler" (92 : Nat) ({ cls := "PolicyCompiler$Policy", name := "givesPredicate", desc := "()Z" } : MethodName)) ∈ lw_tbl := List.mem_of_getElem? (i := 515) (by decide +kernel)
set_option maxRecDepth 20000 in
theorem mw_413 : (Cond.methodLink "PolicyCompiler" (96 : Nat) ({ cls := "PolicyCompiler$Policy", name := "markPredicate", desc := "(Z)V" } : MethodName)) ∈ lw_tbl := List.mem_of_getElem? (i := 516) (by decide +kernel)
set_option maxRecDepth 20000 in
theorem mw_414 : (Cond.methodLink "PolicyCompilerLaw" (32 : Nat) ({ cls := "PolicyCompiler", name := "modify", desc := "(III)I" } : MethodName)) ∈ lw_tbl := List.mem_of_getElem? (i := 517) (by decide +kernel)
set_option maxRecDepth 20000 in
theorem mw_415 : (Cond.instanceMethod ({ cls := "PolicyCompiler", name := "modify", desc := "(III)I" } : MethodName)) ∈ lw_tbl := List.mem_of_getElem? (i := 518) (by decide +kernel)
set_option maxRecDepth 20000 in
theorem mw_416 : (Cond.selects "PolicyCompiler" ({ cls := "PolicyCompiler", name := "modify", desc := "(III)I" } : MethodName) ({ cls := "PolicyCompiler", name := "modify", desc := "(III)I" } : MethodName)) ∈ lw_tbl := List.mem_of_getElem? (i := 519) (by decide +kernel)
set_option maxRecDepth 20000 in
theorem mw_417 : (Cond.code ({ cls := "PolicyCompiler", name := "modify", desc := "(III)I" } : MethodName) prog_1_method_6_code (6 : Nat) (Option.some FieldType.int)) ∈ lw_tbl := List.mem_of_getElem? (i := 520) rfl
set_option maxRecDepth 20000 in
theorem mw_418 : (Cond.methodLink "PolicyCompilerLaw" (37 : Nat) ({ cls := "PolicyCompiler", name := "size", desc := "(I)I" } : MethodName)) ∈ lw_tbl := List.mem_of_getElem? (i := 521) (by decide +kernel)
set_option maxRecDepth 20000 in
theorem mw_419 : (Cond.instanceMethod ({ cls := "PolicyCompiler", name := "size", desc := "(I)I" } : MethodName)) ∈ lw_tbl := List.mem_of_getElem? (i := 522) (by decide +kernel)
set_option maxRecDepth 20000 in
theorem mw_420 : (Cond.selects "PolicyCompiler" ({ cls := "PolicyCompiler", name := "size", desc := "(I)I" } : MethodName) ({ cls := "PolicyCompiler", name := "size", desc := "(I)I" } : MethodName)) ∈ lw_tbl := List.mem_of_getElem? (i := 523) (by decide +kernel)
set_option maxRecDepth 20000 in
theorem mw_421 : (Cond.code ({ cls := "PolicyCompiler", name := "size", desc := "(I)I" } : MethodName) prog_1_method_7_code (2 : Nat) (Option.some FieldType.int)) ∈ lw_tbl := List.mem_of_getElem? (i := 524) rfl
set_option maxRecDepth 20000 in
theorem mw_422 : (Cond.methodLink "PolicyCompilerLaw" (41 : Nat) ({ cls := "PolicyCompiler", name := "isPredicate", desc := "(I)I" } : MethodName)) ∈ lw_tbl := List.mem_of_getElem? (i := 525) (by decide +kernel)
set_option maxRecDepth 20000 in
theorem mw_423 : (Cond.instanceMethod ({ cls := "PolicyCompiler", name := "isPredicate", desc := "(I)I" } : MethodName)) ∈ lw_tbl := List.mem_of_getElem? (i := 526) (by decide +kernel)
set_option maxRecDepth 20000 in
theorem mw_424 : (Cond.selects "PolicyCompiler" ({ cls := "PolicyCompiler", name := "isPredicate", desc := "(I)I" } : MethodName) ({ cls := "PolicyCompiler", name := "isPredicate", desc := "(I)I" } : MethodName)) ∈ lw_tbl := List.mem_of_getElem? (i := 527) (by decide +kernel)
set_option maxRecDepth 20000 in
theorem mw_425 : (Cond.code ({ cls := "PolicyCompiler", name := "isPredicate", desc := "(I)I" } : MethodName) prog_1_method_8_code (2 : Nat) (Option.some FieldType.int)) ∈ lw_tbl := List.mem_of_getElem? (i := 528) rfl
set_option maxRecDepth 20000 in
theorem mw_426 : (Cond.methodLink "PolicyCompilerLaw" (45 : Nat) ({ cls := "PolicyCompiler", name := "printed", desc := "(II)I" } : MethodName)) ∈ lw_tbl := List.mem_of_getElem? (i := 529) (by decide +kernel)
set_option maxRecDepth 20000 in
theorem mw_427 : (Cond.instanceMethod ({ cls := "PolicyCompiler", name := "printed", desc := "(II)I" } : MethodName)) ∈ lw_tbl := List.mem_of_getElem? (i := 530) (by decide +kernel)
set_option maxRecDepth 20000 in
theorem mw_428 : (Cond.selects "PolicyCompiler" ({ cls := "PolicyCompiler", name := "printed", desc := "(II)I" } : MethodName) ({ cls := "PolicyCompiler", name := "printed", desc := "(II)I" } : MethodName)) ∈ lw_tbl := List.mem_of_getElem? (i := 531) (by decide +kernel)
set_option maxRecDepth 20000 in
theorem mw_429 : (Cond.code ({ cls := "PolicyCompiler", name := "printed", desc := "(II)I" } : MethodName) prog_1_method_9_code (4 : Nat) (Option.some FieldType.int)) ∈ lw_tbl := List.mem_of_getElem? (i := 532) rfl
set_option maxRecDepth 20000 in
theorem mw_430 : (Cond.methodLink "PolicyCompiler" (104 : Nat) ({ cls := "PolicyCompiler$Slot", name := "upToDate", desc := "(LPolicyCompiler$Evaluator;)LPolicyCompiler$Slot;" } : MethodName)) ∈ lw_tbl := List.mem_of_getElem? (i := 533) (by decide +kernel)
set_option maxRecDepth 20000 in
theorem mw_431 : (Cond.instanceMethod ({ cls := "PolicyCompiler$Slot", name := "upToDate", desc := "(LPolicyCompiler$Evaluator;)LPolicyCompiler$Slot;" } : MethodName)) ∈ lw_tbl := List.mem_of_getElem? (i := 534) (by decide +kernel)
set_option maxRecDepth 20000 in
theorem mw_432 : (Cond.selects "PolicyCompiler$Slot" ({ cls := "PolicyCompiler$Slot", name := "upToDate", desc := "(LPolicyCompiler$Evaluator;)LPolicyCompiler$Slot;" } : MethodName) ({ cls := "PolicyCompiler$Slot", name := "upToDate", desc := "(LPolicyCompiler$Evaluator;)LPolicyCompiler$Slot;" } : MethodName)) ∈ lw_tbl := List.mem_of_getElem? (i := 535) (by decide +kernel)
set_option maxRecDepth 20000 in
theorem mw_433 : (Cond.code ({ cls := "PolicyCompiler$Slot", name := "upToDate", desc := "(LPolicyCompiler$Evaluator;)LPolicyCompiler$Slot;" } : MethodName) prog_9_method_3_code (2 : Nat) (Option.some (FieldType.object "PolicyCompiler$Slot"))) ∈ lw_tbl := List.mem_of_getElem? (i := 536) rfl
set_option maxRecDepth 20000 in
theorem mw_434 : (Cond.methodLink "PolicyCompiler$Slot" (69 : Nat) ({ cls := "PolicyCompiler$Printout", name := "print", desc := "(LPolicyCompiler$Policy;)V" } : MethodName)) ∈ lw_tbl := List.mem_of_getElem? (i := 537) (by decide +kernel)
set_option maxRecDepth 20000 in
theorem mw_435 : (Cond.instanceMethod ({ cls := "PolicyCompiler$Printout", name := "print", desc := "(LPolicyCompiler$Policy;)V" } : MethodName)) ∈ lw_tbl := List.mem_of_getElem? (i := 538) (by decide +kernel)
set_option maxRecDepth 20000 in
theorem mw_436 : (Cond.selects "PolicyCompiler$Printout" ({ cls := "PolicyCompiler$Printout", name := "print", desc := "(LPolicyCompiler$Policy;)V" } : MethodName) ({ cls := "PolicyCompiler$Printout", name := "print", desc := "(LPolicyCompiler$Policy;)V" } : MethodName)) ∈ lw_tbl := List.mem_of_getElem? (i := 539) (by decide +kernel)
set_option maxRecDepth 20000 in
theorem mw_437 : (Cond.code ({ cls := "PolicyCompiler$Printout", name := "print", desc := "(LPolicyCompiler$Policy;)V" } : MethodName) prog_7_method_4_code (4 : Nat) (Option.none : Option ClassFile.FieldType)) ∈ lw_tbl := List.mem_of_getElem? (i := 540) rfl
set_option maxRecDepth 20000 in
theorem mw_438 : (Cond.methodLink "PolicyCompiler$Printout" (29 : Nat) ({ cls := "PolicyCompiler$Policy", name := "nodeCount", desc := "()I" } : MethodName)) ∈ lw_tbl := List.mem_of_getElem? (i := 541) (by decide +kernel)
set_option maxRecDepth 20000 in
theorem mw_439 : (Cond.methodLink "PolicyCompiler$Printout" (35 : Nat) ({ cls := "PolicyCompiler$Printout", name := "measured", desc := "(LPolicyCompiler$Policy;I)I" } : MethodName)) ∈ lw_tbl := List.mem_of_getElem? (i := 542) (by decide +kernel)
set_option maxRecDepth 20000 in
theorem mw_441 : (Cond.instanceMethod ({ cls := "PolicyCompiler$Printout", name := "measured", desc := "(LPolicyCompiler$Policy;I)I" } : MethodName)) ∈ lw_tbl := List.mem_of_getElem? (i := 544) (by decide +kernel)
set_option maxRecDepth 20000 in
theorem mw_442 : (Cond.code ({ cls := "PolicyCompiler$Printout", name := "measured", desc := "(LPolicyCompiler$Policy;I)I" } : MethodName) prog_7_method_5_code (8 : Nat) (Option.some FieldType.int)) ∈ lw_tbl := List.mem_of_getElem? (i := 545) rfl
set_option maxRecDepth 20000 in
theorem mw_443 : (Cond.methodLink "PolicyCompiler$Printout" (43 : Nat) ({ cls := "PolicyCompiler$Policy", name := "kindAt", desc := "(I)I" } : MethodName)) ∈ lw_tbl := List.mem_of_getElem? (i := 546) (by decide +kernel)
set_option maxRecDepth 20000 in
theorem mw_444 : (Cond.instanceMethod ({ cls := "PolicyCompiler$Policy", name := "kindAt", desc := "(I)I" } : MethodName)) ∈ lw_tbl := List.mem_of_getElem? (i := 547) (by decide +kernel)
set_option maxRecDepth 20000 in
theorem mw_445 : (Cond.selects "PolicyCompiler$Policy" ({ cls := "PolicyCompiler$Policy", name := "kindAt", desc := "(I)I" } : MethodName) ({ cls := "PolicyCompiler$Policy", name := "kindAt", desc := "(I)I" } : MethodName)) ∈ lw_tbl := List.mem_of_getElem? (i := 548) (by decide +kernel)
set_option maxRecDepth 20000 in
theorem mw_446 : (Cond.code ({ cls := "PolicyCompiler$Policy", name := "kindAt", desc := "(I)I" } : MethodName) prog_6_method_10_code (2 : Nat) (Option.some FieldType.int)) ∈ lw_tbl := List.mem_of_getElem? (i := 549) rfl
set_option maxRecDepth 20000 in
theorem mw_447 : (Cond.methodLink "PolicyCompiler$Policy" (30 : Nat) ({ cls := "PolicyCompiler$Policy", name := "nodeAt", desc := "(I)I" } : MethodName)) ∈ lw_tbl := List.mem_of_getElem? (i := 550) (by decide +kernel)
set_option maxRecDepth 20000 in
theorem mw_449 : (Cond.instanceMethod ({ cls := "PolicyCompiler$Policy", name := "nodeAt", desc := "(I)I" } : MethodName)) ∈ lw_tbl := List.mem_of_getElem? (i := 552) (by decide +kernel)
set_option maxRecDepth 20000 in
theorem mw_450 : (Cond.code ({ cls := "PolicyCompiler$Policy", name := "nodeAt", desc := "(I)I" } : MethodName) prog_6_method_9_code (2 : Nat) (Option.some FieldType.int)) ∈ lw_tbl := List.mem_of_getElem? (i := 553) rfl
set_option maxRecDepth 20000 in
theorem mw_451 : (Cond.methodLink "PolicyCompiler$Printout" (47 : Nat) ({ cls := "PolicyCompiler$Policy", name := "operandsOf", desc := "(I)I" } : MethodName)) ∈ lw_tbl := List.mem_of_getElem? (i := 554) (by decide +kernel)
set_option maxRecDepth 20000 in
theorem mw_452 : (Cond.methodLink "PolicyCompiler$Printout" (50 : Nat) ({ cls := "PolicyCompiler$Printout", name := "ownLength", desc := "(I)I" } : MethodName)) ∈ lw_tbl := List.mem_of_getElem? (i := 555) (by decide +kernel)
set_option maxRecDepth 20000 in
theorem mw_453 : (Cond.static ({ cls := "PolicyCompiler$Printout", name := "ownLength", desc := "(I)I" } : MethodName)) ∈ lw_tbl := List.mem_of_getElem? (i := 556) (by decide +kernel)
set_option maxRecDepth 20000 in
theorem mw_454 : (Cond.code ({ cls := "PolicyCompiler$Printout", name := "ownLength", desc := "(I)I" } : MethodName) prog_7_method_6_code (1 : Nat) (Option.some FieldType.int)) ∈ lw_tbl := List.mem_of_getElem? (i := 557) rfl
set_option maxRecDepth 20000 in
theorem mw_455 : (Cond.methodLink "PolicyCompiler$Printout" (53 : Nat) ({ cls := "PolicyCompiler$Policy", name := "operandAt", desc := "(II)I" } : MethodName)) ∈ lw_tbl := List.mem_of_getElem? (i := 558) (by decide +kernel)
set_option maxRecDepth 20000 in
theorem mw_456 : (Cond.instanceMethod ({ cls := "PolicyCompiler$Policy", name := "operandAt", desc := "(II)I" } : MethodName)) ∈ lw_tbl := List.mem_of_getElem? (i := 559) (by decide +kernel)
set_option maxRecDepth 20000 in
theorem mw_457 : (Cond.selects "PolicyCompiler$Policy" ({ cls := "PolicyCompiler$Policy", name := "operandAt", desc := "(II)I" } : MethodName) ({ cls := "PolicyCompiler$Policy", name := "operandAt", desc := "(II)I" } : MethodName)) ∈ lw_tbl := List.mem_of_getElem? (i := 560) (by decide +kernel)
set_option maxRecDepth 20000 in
theorem mw_458 : (Cond.code ({ cls := "PolicyCompiler$Policy", name := "operandAt", desc := "(II)I" } : MethodName) prog_6_method_13_code (5 : Nat) (Option.some FieldType.int)) ∈ lw_tbl := List.mem_of_getElem? (i := 561) rfl
set_option maxRecDepth 20000 in
theorem mw_459 : (Cond.methodLink "PolicyCompiler$Printout" (57 : Nat) ({ cls := "PolicyCompiler$Printout", name := "needsParentheses", desc := "(IIZ)Z" } : MethodName)) ∈ lw_tbl := List.mem_of_getElem? (i := 562) (by decide +kernel)
set_option maxRecDepth 20000 in
theorem mw_460 : (Cond.static ({ cls := "PolicyCompiler$Printout", name := "needsParentheses", desc := "(IIZ)Z" } : MethodName)) ∈ lw_tbl := List.mem_of_getElem? (i := 563) (by decide +kernel)
set_option maxRecDepth 20000 in
theorem mw_461 : (Cond.code ({ cls := "PolicyCompiler$Printout", name := "needsParentheses", desc := "(IIZ)Z" } : MethodName) prog_7_method_7_code (3 : Nat) (Option.some FieldType.boolean)) ∈ lw_tbl := List.mem_of_getElem? (i := 564) rfl
set_option maxRecDepth 20000 in
theorem mw_462 : (Cond.methodLink "PolicyCompiler$Printout" (39 : Nat) ({ cls := "PolicyCompiler$Printout", name := "printNode", desc := "(LPolicyCompiler$Policy;I)V" } : MethodName)) ∈ lw_tbl := List.mem_of_getElem? (i := 565) (by decide +kernel)
set_option maxRecDepth 20000 in
theorem mw_464 : (Cond.instanceMethod ({ cls := "PolicyCompiler$Printout", name := "printNode", desc := "(LPolicyCompiler$Policy;I)V" } : MethodName)) ∈ lw_tbl := List.mem_of_getElem? (i := 567) (by decide +kernel)
set_option maxRecDepth 20000 in
theorem mw_465 : (Cond.code ({ cls := "PolicyCompiler$Printout", name := "printNode", desc := "(LPolicyCompiler$Policy;I)V" } : MethodName) prog_7_method_8_code (4 : Nat) (Option.none : Option ClassFile.FieldType)) ∈ lw_tbl := List.mem_of_getElem? (i := 568) rfl
set_option maxRecDepth 20000 in
theorem mw_466 : (Cond.methodLink "PolicyCompiler$Printout" (61 : Nat) ({ cls := "PolicyCompiler$Printout", name := "innerPlace", desc := "(I)I" } : MethodName)) ∈ lw_tbl := List.mem_of_getElem? (i := 569) (by decide +kernel)
set_option maxRecDepth 20000 in
theorem mw_468 : (Cond.instanceMethod ({ cls := "PolicyCompiler$Printout", name := "innerPlace", desc := "(I)I" } : MethodName)) ∈ lw_tbl := List.mem_of_getElem? (i := 571) (by decide +kernel)
set_option maxRecDepth 20000 in
theorem mw_469 : (Cond.code ({ cls := "PolicyCompiler$Printout", name := "innerPlace", desc := "(I)I" } : MethodName) prog_7_method_13_code (2 : Nat) (Option.some FieldType.int)) ∈ lw_tbl := List.mem_of_getElem? (i := 572) rfl
set_option maxRecDepth 20000 in
theorem mw_470 : (Cond.methodLink "PolicyCompiler$Printout" (64 : Nat) ({ cls := "PolicyCompiler$Printout", name := "put", desc := "(II)V" } : MethodName)) ∈ lw_tbl := List.mem_of_getElem? (i := 573) (by decide +kernel)
set_option maxRecDepth 20000 in
theorem mw_472 : (Cond.instanceMethod ({ cls := "PolicyCompiler$Printout", name := "put", desc := "(II)V" } : MethodName)) ∈ lw_tbl := List.mem_of_getElem? (i := 575) (by decide +kernel)
set_option maxRecDepth 20000 in
theorem mw_473 : (Cond.code ({ cls := "PolicyCompiler$Printout", name := "put", desc := "(II)V" } : MethodName) prog_7_method_14_code (3 : Nat) (Option.none : Option ClassFile.FieldType)) ∈ lw_tbl := List.mem_of_getElem? (i := 576) rfl
set_option maxRecDepth 20000 in
theorem mw_474 : (Cond.methodLink "PolicyCompiler$Printout" (68 : Nat) ({ cls := "PolicyCompiler$Printout", name := "printLeaf", desc := "(LPolicyCompiler$Policy;II)V" } : MethodName)) ∈ lw_tbl := List.mem_of_getElem? (i := 577) (by decide +kernel)
set_option maxRecDepth 20000 in
theorem mw_476 : (Cond.instanceMethod ({ cls := "PolicyCompiler$Printout", name := "printLeaf", desc := "(LPolicyCompiler$Policy;II)V" } : MethodName)) ∈ lw_tbl := List.mem_of_getElem? (i := 579) (by decide +kernel)
set_option maxRecDepth 20000 in
theorem mw_477 : (Cond.code ({ cls := "PolicyCompiler$Printout", name := "printLeaf", desc := "(LPolicyCompiler$Policy;II)V" } : MethodName) prog_7_method_9_code (5 : Nat) (Option.none : Option ClassFile.FieldType)) ∈ lw_tbl := List.mem_of_getElem? (i := 580) rfl
set_option maxRecDepth 20000 in
theorem mw_478 : (Cond.methodLink "PolicyCompiler$Printout" (81 : Nat) ({ cls := "PolicyCompiler$Policy", name := "fieldAt", desc := "(I)I" } : MethodName)) ∈ lw_tbl := List.mem_of_getElem? (i := 581) (by decide +kernel)
set_option maxRecDepth 20000 in
theorem mw_479 : (Cond.instanceMethod ({ cls := "PolicyCompiler$Policy", name := "fieldAt", desc := "(I)I" } : MethodName)) ∈ lw_tbl := List.mem_of_getElem? (i := 582) (by decide +kernel)
set_option maxRecDepth 20000 in
theorem mw_480 : (Cond.selects "PolicyCompiler$Policy" ({ cls := "PolicyCompiler$Policy", name := "fieldAt", desc := "(I)I" } : MethodName) ({ cls := "PolicyCompiler$Policy", name := "fieldAt", desc := "(I)I" } : MethodName)) ∈ lw_tbl := List.mem_of_getElem? (i := 583) (by decide +kernel)
set_option maxRecDepth 20000 in
theorem mw_481 : (Cond.code ({ cls := "PolicyCompiler$Policy", name := "fieldAt", desc := "(I)I" } : MethodName) prog_6_method_11_code (2 : Nat) (Option.some FieldType.int)) ∈ lw_tbl := List.mem_of_getElem? (i := 584) rfl
set_option maxRecDepth 20000 in
theorem mw_482 : (Cond.methodLink "PolicyCompiler$Printout" (84 : Nat) ({ cls := "PolicyCompiler$Policy", name := "valueAt", desc := "(I)I" } : MethodName)) ∈ lw_tbl := List.mem_of_getElem? (i := 585) (by decide +kernel)
set_option maxRecDepth 20000 in
theorem mw_483 : (Cond.instanceMethod ({ cls := "PolicyCompiler$Policy", name := "valueAt", desc := "(I)I" } : MethodName)) ∈ lw_tbl := List.mem_of_getElem? (i := 586) (by decide +kernel)
set_option maxRecDepth 20000 in
theorem mw_484 : (Cond.selects "PolicyCompiler$Policy" ({ cls := "PolicyCompiler$Policy", name := "valueAt", desc := "(I)I" } : MethodName) ({ cls := "PolicyCompiler$Policy", name := "valueAt", desc := "(I)I" } : MethodName)) ∈ lw_tbl := List.mem_of_getElem? (i := 587) (by decide +kernel)
set_option maxRecDepth 20000 in
theorem mw_485 : (Cond.code ({ cls := "PolicyCompiler$Policy", name := "valueAt", desc := "(I)I" } : MethodName) prog_6_method_12_code (2 : Nat) (Option.some FieldType.int)) ∈ lw_tbl := List.mem_of_getElem? (i := 588) rfl
set_option maxRecDepth 20000 in
theorem mw_486 : (Cond.methodLink "PolicyCompiler$Printout" (72 : Nat) ({ cls := "PolicyCompiler$Printout", name := "printPair", desc := "(LPolicyCompiler$Policy;II)V" } : MethodName)) ∈ lw_tbl := List.mem_of_getElem? (i := 589) (by decide +kernel)
set_option maxRecDepth 20000 in
theorem mw_488 : (Cond.instanceMethod ({ cls := "PolicyCompiler$Printout", name := "printPair", desc := "(LPolicyCompiler$Policy;II)V" } : MethodName)) ∈ lw_tbl := List.mem_of_getElem? (i := 591) (by decide +kernel)
set_option maxRecDepth 20000 in
theorem mw_489 : (Cond.code ({ cls := "PolicyCompiler$Printout", name := "printPair", desc := "(LPolicyCompiler$Policy;II)V" } : MethodName) prog_7_method_10_code (5 : Nat) (Option.none : Option ClassFile.FieldType)) ∈ lw_tbl := List.mem_of_getElem? (i := 592) rfl
set_option maxRecDepth 20000 in
theorem mw_490 : (Cond.methodLink "PolicyCompiler$Printout" (75 : Nat) ({ cls := "PolicyCompiler$Printout", name := "placed", desc := "(II)I" } : MethodName)) ∈ lw_tbl := List.mem_of_getElem? (i := 593) (by decide +kernel)
set_option maxRecDepth 20000 in
theorem mw_492 : (Cond.instanceMethod ({ cls := "PolicyCompiler$Printout", name := "placed", desc := "(II)I" } : MethodName)) ∈ lw_tbl := List.mem_of_getElem? (i := 595) (by decide +kernel)
set_option maxRecDepth 20000 in
theorem mw_493 : (Cond.code ({ cls := "PolicyCompiler$Printout", name := "placed", desc := "(II)I" } : MethodName) prog_7_method_12_code (4 : Nat) (Option.some FieldType.int)) ∈ lw_tbl := List.mem_of_getElem? (i := 596) rfl
set_option maxRecDepth 20000 in
theorem mw_494 : (Cond.methodLink "PolicyCompiler$Printout" (78 : Nat) ({ cls := "PolicyCompiler$Printout", name := "printChoice", desc := "(LPolicyCompiler$Policy;I)V" } : MethodName)) ∈ lw_tbl := List.mem_of_getElem? (i := 597) (by decide +kernel)
set_option maxRecDepth 20000 in
theorem mw_496 : (Cond.instanceMethod ({ cls := "PolicyCompiler$Printout", name := "printChoice", desc := "(LPolicyCompiler$Policy;I)V" } : MethodName)) ∈ lw_tbl := List.mem_of_getElem? (i := 599) (by decide +kernel)
set_option maxRecDepth 20000 in
theorem mw_497 : (Cond.code ({ cls := "PolicyCompiler$Printout", name := "printChoice", desc := "(LPolicyCompiler$Policy;I)V" } : MethodName) prog_7_method_11_code (6 : Nat) (Option.none : Option ClassFile.FieldType)) ∈ lw_tbl := List.mem_of_getElem? (i := 600) rfl
set_option maxRecDepth 20000 in
theorem mw_498 : (Cond.methodLink "PolicyCompiler$Slot" (72 : Nat) ({ cls := "PolicyCompiler$Evaluator", name := "evaluate", desc := "(LPolicyCompiler$Policy;LPolicyCompiler$Relation;)V" } : MethodName)) ∈ lw_tbl := List.mem_of_getElem? (i := 601) (by decide +kernel)
set_option maxRecDepth 20000 in
theorem mw_499 : (Cond.instanceMethod ({ cls := "PolicyCompiler$Evaluator", name := "evaluate", desc := "(LPolicyCompiler$Policy;LPolicyCompiler$Relation;)V" } : MethodName)) ∈ lw_tbl := List.mem_of_getElem? (i := 602) (by decide +kernel)
set_option maxRecDepth 20000 in
theorem mw_500 : (Cond.selects "PolicyCompiler$Evaluator" ({ cls := "PolicyCompiler$Evaluator", name := "evaluate", desc := "(LPolicyCompiler$Policy;LPolicyCompiler$Relation;)V" } : MethodName) ({ cls := "PolicyCompiler$Evaluator", name := "evaluate", desc := "(LPolicyCompiler$Policy;LPolicyCompiler$Relation;)V" } : MethodName)) ∈ lw_tbl := List.mem_of_getElem? (i := 603) (by decide +kernel)
set_option maxRecDepth 20000 in
theorem mw_501 : (Cond.code ({ cls := "PolicyCompiler$Evaluator", name := "evaluate", desc := "(LPolicyCompiler$Policy;LPolicyCompiler$Relation;)V" } : MethodName) prog_3_method_2_code (5 : Nat) (Option.none : Option ClassFile.FieldType)) ∈ lw_tbl := List.mem_of_getElem? (i := 604) rfl
set_option maxRecDepth 20000 in
theorem mw_502 : (Cond.methodLink "PolicyCompiler$Evaluator" (15 : Nat) ({ cls := "PolicyCompiler$Policy", name := "nodeCount", desc := "()I" } : MethodName)) ∈ lw_tbl := List.mem_of_getElem? (i := 605) (by decide +kernel)
set_option maxRecDepth 20000 in
theorem mw_503 : (Cond.methodLink "PolicyCompiler$Evaluator" (21 : Nat) ({ cls := "PolicyCompiler$Evaluator", name := "evaluateNode", desc := "(LPolicyCompiler$Policy;I)V" } : MethodName)) ∈ lw_tbl := List.mem_of_getElem? (i := 606) (by decide +kernel)
set_option maxRecDepth 20000 in
theorem mw_505 : (Cond.instanceMethod ({ cls := "PolicyCompiler$Evaluator", name := "evaluateNode", desc := "(LPolicyCompiler$Policy;I)V" } : MethodName)) ∈ lw_tbl := List.mem_of_getElem? (i := 608) (by decide +kernel)
set_option maxRecDepth 20000 in
theorem mw_506 : (Cond.code ({ cls := "PolicyCompiler$Evaluator", name := "evaluateNode", desc := "(LPolicyCompiler$Policy;I)V" } : MethodName) prog_3_method_3_code (4 : Nat) (Option.none : Option ClassFile.FieldType)) ∈ lw_tbl := List.mem_of_getElem? (i := 609) rfl
set_option maxRecDepth 20000 in
theorem mw_507 : (Cond.methodLink "PolicyCompiler$Evaluator" (35 : Nat) ({ cls := "PolicyCompiler$Policy", name := "operandAt", desc := "(II)I" } : MethodName)) ∈ lw_tbl := List.mem_of_getElem? (i := 610) (by decide +kernel)
set_option maxRecDepth 20000 in
theorem mw_508 : (Cond.methodLink "PolicyCompiler$Evaluator" (39 : Nat) ({ cls := "PolicyCompiler$Policy", name := "kindAt", desc := "(I)I" } : MethodName)) ∈ lw_tbl := List.mem_of_getElem? (i := 611) (by decide +kernel)
set_option maxRecDepth 20000 in
theorem mw_509 : (Cond.methodLink "PolicyCompiler$Evaluator" (43 : Nat) ({ cls := "PolicyCompiler$Evaluator", name := "unite", desc := "(III)V" } : MethodName)) ∈ lw_tbl := List.mem_of_getElem? (i := 612) (by decide +kernel)
set_option maxRecDepth 20000 in
theorem mw_511 : (Cond.instanceMethod ({ cls := "PolicyCompiler$Evaluator", name := "unite", desc := "(III)V" } : MethodName)) ∈ lw_tbl := List.mem_of_getElem? (i := 614) (by decide +kernel)
set_option maxRecDepth 20000 in
theorem mw_512 : (Cond.code ({ cls := "PolicyCompiler$Evaluator", name := "unite", desc := "(III)V" } : MethodName) prog_3_method_5_code (5 : Nat) (Option.none : Option ClassFile.FieldType)) ∈ lw_tbl := List.mem_of_getElem? (i := 615) rfl
set_option maxRecDepth 20000 in
theorem mw_513 : (Cond.methodLink "PolicyCompiler$Evaluator" (25 : Nat) ({ cls := "PolicyCompiler$Evaluator", name := "imageOf", desc := "(II)J" } : MethodName)) ∈ lw_tbl := List.mem_of_getElem? (i := 616) (by decide +kernel)
set_option maxRecDepth 20000 in
theorem mw_515 : (Cond.instanceMethod ({ cls := "PolicyCompiler$Evaluator", name := "imageOf", desc := "(II)J" } : MethodName)) ∈ lw_tbl := List.mem_of_getElem? (i := 618) (by decide +kernel)
set_option maxRecDepth 20000 in
theorem mw_516 : (Cond.code ({ cls := "PolicyCompiler$Evaluator", name := "imageOf", desc := "(II)J" } : MethodName) prog_3_method_10_code (4 : Nat) (Option.some FieldType.long)) ∈ lw_tbl := List.mem_of_getElem? (i := 619) rfl
set_option maxRecDepth 20000 in
theorem mw_517 : (Cond.methodLink "PolicyCompiler$Evaluator" (81 : Nat) ({ cls := "PolicyCompiler$Evaluator", name := "assign", desc := "(IIJ)V" } : MethodName)) ∈ lw_tbl := List.mem_of_getElem? (i := 620) (by decide +kernel)
set_option maxRecDepth 20000 in
theorem mw_519 : (Cond.instanceMethod ({ cls := "PolicyCompiler$Evaluator", name := "assign", desc := "(IIJ)V" } : MethodName)) ∈ lw_tbl := List.mem_of_getElem? (i := 622) (by decide +kernel)
set_option maxRecDepth 20000 in
theorem mw_520 : (Cond.code ({ cls := "PolicyCompiler$Evaluator", name := "assign", desc := "(IIJ)V" } : MethodName) prog_3_method_11_code (6 : Nat) (Option.none : Option ClassFile.FieldType)) ∈ lw_tbl := List.mem_of_getElem? (i := 623) rfl
set_option maxRecDepth 20000 in
theorem mw_521 : (Cond.methodLink "PolicyCompiler$Evaluator" (47 : Nat) ({ cls := "PolicyCompiler$Evaluator", name := "chain", desc := "(III)V" } : MethodName)) ∈ lw_tbl := List.mem_of_getElem? (i := 624) (by decide +kernel)
set_option maxRecDepth 20000 in
theorem mw_523 : (Cond.instanceMethod ({ cls := "PolicyCompiler$Evaluator", name := "chain", desc := "(III)V" } : MethodName)) ∈ lw_tbl := List.mem_of_getElem? (i := 626) (by decide +kernel)
set_option maxRecDepth 20000 in
theorem mw_524 : (Cond.code ({ cls := "PolicyCompiler$Evaluator", name := "chain", desc := "(III)V" } : MethodName) prog_3_method_6_code (5 : Nat) (Option.none : Option ClassFile.FieldType)) ∈ lw_tbl := List.mem_of_getElem? (i := 627) rfl
set_option maxRecDepth 20000 in
theorem mw_525 : (Cond.methodLinkNest "PolicyCompiler$Evaluator" (84 : Nat) ({ cls := "PolicyCompiler", name := "imageOfSet", desc := "([JIJ)J" } : MethodName) "PolicyCompiler") ∈ lw_tbl := List.mem_of_getElem? (i := 628) (by decide +kernel)
set_option maxRecDepth 20000 in
theorem mw_526 : (Cond.static ({ cls := "PolicyCompiler", name := "imageOfSet", desc := "([JIJ)J" } : MethodName)) ∈ lw_tbl := List.mem_of_getElem? (i := 629) (by decide +kernel)
set_option maxRecDepth 20000 in
theorem mw_527 : (Cond.code ({ cls := "PolicyCompiler", name := "imageOfSet", desc := "([JIJ)J" } : MethodName) prog_1_method_43_code (11 : Nat) (Option.some FieldType.long)) ∈ lw_tbl := List.mem_of_getElem? (i := 630) rfl
set_option maxRecDepth 20000 in
theorem mw_528 : (Cond.methodLink "PolicyCompiler" (246 : Nat) ({ cls := "java/lang/Long", name := "bitCount", desc := "(J)I" } : MethodName)) ∈ lw_tbl := List.mem_of_getElem? (i := 631) (by decide +kernel)
set_option maxRecDepth 20000 in
theorem mw_529 : (Cond.static ({ cls := "java/lang/Long", name := "bitCount", desc := "(J)I" } : MethodName)) ∈ lw_tbl := List.mem_of_getElem? (i := 632) (by decide +kernel)
set_option maxRecDepth 20000 in
theorem mw_530 : (Cond.code ({ cls := "java/lang/Long", name := "bitCount", desc := "(J)I" } : MethodName) prog_13_method_50_code (2 : Nat) (Option.some FieldType.int)) ∈ lw_tbl := List.mem_of_getElem? (i := 633) rfl
set_option maxRecDepth 20000 in
theorem mw_531 : (Cond.constantLong "java/lang/Long" (314 : Nat) (6148914691236517205 : Int64)) ∈ lw_tbl := List.mem_of_getElem? (i := 634) (by decide +kernel)
set_option maxRecDepth 20000 in
theorem mw_532 : (Cond.constantLong "java/lang/Long" (316 : Nat) (3689348814741910323 : Int64)) ∈ lw_tbl := List.mem_of_getElem? (i := 635) (by decide +kernel)
set_option maxRecDepth 20000 in
theorem mw_533 : (Cond.constantLong "java/lang/Long" (318 : Nat) (1085102592571150095 : Int64)) ∈ lw_tbl := List.mem_of_getElem? (i := 636) (by decide +kernel)
set_option maxRecDepth 20000 in
theorem mw_534 : (Cond.methodLink "PolicyCompiler" (150 : Nat) ({ cls := "PolicyCompiler", name := "lowestOf", desc := "(J)I" } : MethodName)) ∈ lw_tbl := List.mem_of_getElem? (i := 637) (by decide +kernel)
set_option maxRecDepth 20000 in
theorem mw_535 : (Cond.static ({ cls := "PolicyCompiler", name := "lowestOf", desc := "(J)I" } : MethodName)) ∈ lw_tbl := List.mem_of_getElem? (i := 638) (by decide +kernel)
set_option maxRecDepth 20000 in
theorem mw_536 : (Cond.code ({ cls := "PolicyCompiler", name := "lowestOf", desc := "(J)I" } : MethodName) prog_1_method_42_code (2 : Nat) (Option.some FieldType.int)) ∈ lw_tbl := List.mem_of_getElem? (i := 639) rfl
set_option maxRecDepth 20000 in
theorem mw_537 : (Cond.methodLink "PolicyCompiler$Evaluator" (50 : Nat) ({ cls := "PolicyCompiler$Evaluator", name := "repeat", desc := "(II)V" } : MethodName)) ∈ lw_tbl := List.mem_of_getElem? (i := 640) (by decide +kernel)
set_option maxRecDepth 20000 in
theorem mw_539 : (Cond.instanceMethod ({ cls := "PolicyCompiler$Evaluator", name := "repeat", desc := "(II)V" } : MethodName)) ∈ lw_tbl := List.mem_of_getElem? (i := 642) (by decide +kernel)
set_option maxRecDepth 20000 in
theorem mw_540 : (Cond.code ({ cls := "PolicyCompiler$Evaluator", name := "repeat", desc := "(II)V" } : MethodName) prog_3_method_7_code (9 : Nat) (Option.none : Option ClassFile.FieldType)) ∈ lw_tbl := List.mem_of_getElem? (i := 643) rfl
set_option maxRecDepth 20000 in
theorem mw_541 : (Cond.methodLinkNest "PolicyCompiler$Evaluator" (77 : Nat) ({ cls := "PolicyCompiler", name := "alone", desc := "(I)J" } : MethodName) "PolicyCompiler") ∈ lw_tbl := List.mem_of_getElem? (i := 644) (by decide +kernel)
set_option maxRecDepth 20000 in
theorem mw_542 : (Cond.static ({ cls := "PolicyCompiler", name := "alone", desc := "(I)J" } : MethodName)) ∈ lw_tbl := List.mem_of_getElem? (i := 645) (by decide +kernel)
set_option maxRecDepth 20000 in
theorem mw_543 : (Cond.code ({ cls := "PolicyCompiler", name := "alone", desc := "(I)J" } : MethodName) prog_1_method_40_code (1 : Nat) (Option.some FieldType.long)) ∈ lw_tbl := List.mem_of_getElem? (i := 646) rfl
set_option maxRecDepth 20000 in
theorem mw_544 : (Cond.methodLinkNest "PolicyCompiler$Evaluator" (88 : Nat) ({ cls := "PolicyCompiler", name := "holds", desc := "(JI)Z" } : MethodName) "PolicyCompiler") ∈ lw_tbl := List.mem_of_getElem? (i := 647) (by decide +kernel)
set_option maxRecDepth 20000 in
theorem mw_545 : (Cond.static ({ cls := "PolicyCompiler", name := "holds", desc := "(JI)Z" } : MethodName)) ∈ lw_tbl := List.mem_of_getElem? (i := 648) (by decide +kernel)
set_option maxRecDepth 20000 in
theorem mw_546 : (Cond.code ({ cls := "PolicyCompiler", name := "holds", desc := "(JI)Z" } : MethodName) prog_1_method_41_code (3 : Nat) (Option.some FieldType.boolean)) ∈ lw_tbl := List.mem_of_getElem? (i := 649) rfl
set_option maxRecDepth 20000 in
theorem mw_547 : (Cond.methodLink "PolicyCompiler$Evaluator" (54 : Nat) ({ cls := "PolicyCompiler$Evaluator", name := "negate", desc := "(II)V" } : MethodName)) ∈ lw_tbl := List.mem_of_getElem? (i := 650) (by decide +kernel)
set_option maxRecDepth 20000 in
theorem mw_549 : (Cond.instanceMethod ({ cls := "PolicyCompiler$Evaluator", name := "negate", desc := "(II)V" } : MethodName)) ∈ lw_tbl := List.mem_of_getElem? (i := 652) (by decide +kernel)
set_option maxRecDepth 20000 in
theorem mw_550 : (Cond.code ({ cls := "PolicyCompiler$Evaluator", name := "negate", desc := "(II)V" } : MethodName) prog_3_method_8_code (4 : Nat) (Option.none : Option ClassFile.FieldType)) ∈ lw_tbl := List.mem_of_getElem? (i := 653) rfl
set_option maxRecDepth 20000 in
theorem mw_551 : (Cond.methodLink "PolicyCompiler$Evaluator" (57 : Nat) ({ cls := "PolicyCompiler$Evaluator", name := "choose", desc := "(IIII)V" } : MethodName)) ∈ lw_tbl := List.mem_of_getElem? (i := 654) (by decide +kernel)
set_option maxRecDepth 20000 in
theorem mw_553 : (Cond.instanceMethod ({ cls := "PolicyCompiler$Evaluator", name := "choose", desc := "(IIII)V" } : MethodName)) ∈ lw_tbl := List.mem_of_getElem? (i := 656) (by decide +kernel)
set_option maxRecDepth 20000 in
theorem mw_554 : (Cond.code ({ cls := "PolicyCompiler$Evaluator", name := "choose", desc := "(IIII)V" } : MethodName) prog_3_method_9_code (6 : Nat) (Option.none : Option ClassFile.FieldType)) ∈ lw_tbl := List.mem_of_getElem? (i := 657) rfl
set_option maxRecDepth 20000 in
theorem mw_555 : (Cond.methodLink "PolicyCompiler$Evaluator" (61 : Nat) ({ cls := "PolicyCompiler$Evaluator", name := "evaluateLeaf", desc := "(LPolicyCompiler$Policy;I)V" } : MethodName)) ∈ lw_tbl := List.mem_of_getElem? (i := 658) (by decide +kernel)
set_option maxRecDepth 20000 in
theorem mw_557 : (Cond.instanceMethod ({ cls := "PolicyCompiler$Evaluator", name := "evaluateLeaf", desc := "(LPolicyCompiler$Policy;I)V" } : MethodName)) ∈ lw_tbl := List.mem_of_getElem? (i := 660) (by decide +kernel)
set_option maxRecDepth 20000 in
theorem mw_558 : (Cond.code ({ cls := "PolicyCompiler$Evaluator", name := "evaluateLeaf", desc := "(LPolicyCompiler$Policy;I)V" } : MethodName) prog_3_method_4_code (9 : Nat) (Option.none : Option ClassFile.FieldType)) ∈ lw_tbl := List.mem_of_getElem? (i := 661) rfl
set_option maxRecDepth 20000 in
theorem mw_559 : (Cond.methodLink "PolicyCompiler$Evaluator" (64 : Nat) ({ cls := "PolicyCompiler$Policy", name := "fieldAt", desc := "(I)I" } : MethodName)) ∈ lw_tbl := List.mem_of_getElem? (i := 662) (by decide +kernel)
set_option maxRecDepth 20000 in
theorem mw_560 : (Cond.methodLink "PolicyCompiler$Evaluator" (67 : Nat) ({ cls := "PolicyCompiler$Policy", name := "valueAt", desc := "(I)I" } : MethodName)) ∈ lw_tbl := List.mem_of_getElem? (i := 663) (by decide +kernel)
set_option maxRecDepth 20000 in
theorem mw_561 : (Cond.methodLinkNest "PolicyCompiler$Evaluator" (70 : Nat) ({ cls := "PolicyCompiler", name := "valueOf", desc := "(II)I" } : MethodName) "PolicyCompiler") ∈ lw_tbl := List.mem_of_getElem? (i := 664) (by decide +kernel)
set_option maxRecDepth 20000 in
theorem mw_562 : (Cond.static ({ cls := "PolicyCompiler", name := "valueOf", desc := "(II)I" } : MethodName)) ∈ lw_tbl := List.mem_of_getElem? (i := 665) (by decide +kernel)
set_option maxRecDepth 20000 in
theorem mw_563 : (Cond.code ({ cls := "PolicyCompiler", name := "valueOf", desc := "(II)I" } : MethodName) prog_1_method_38_code (2 : Nat) (Option.some FieldType.int)) ∈ lw_tbl := List.mem_of_getElem? (i := 666) rfl
set_option maxRecDepth 20000 in
theorem mw_564 : (Cond.methodLink "PolicyCompiler" (243 : Nat) ({ cls := "PolicyCompiler", name := "shiftOf", desc := "(I)I" } : MethodName)) ∈ lw_tbl := List.mem_of_getElem? (i := 667) (by decide +kernel)
set_option maxRecDepth 20000 in
theorem mw_565 : (Cond.static ({ cls := "PolicyCompiler", name := "shiftOf", desc := "(I)I" } : MethodName)) ∈ lw_tbl := List.mem_of_getElem? (i := 668) (by decide +kernel)
set_option maxRecDepth 20000 in
theorem mw_566 : (Cond.code ({ cls := "PolicyCompiler", name := "shiftOf", desc := "(I)I" } : MethodName) prog_1_method_37_code (1 : Nat) (Option.some FieldType.int)) ∈ lw_tbl := List.mem_of_getElem? (i := 669) rfl
set_option maxRecDepth 20000 in
theorem mw_567 : (Cond.methodLinkNest "PolicyCompiler$Evaluator" (73 : Nat) ({ cls := "PolicyCompiler", name := "withValue", desc := "(III)I" } : MethodName) "PolicyCompiler") ∈ lw_tbl := List.mem_of_getElem? (i := 670) (by decide +kernel)
set_option maxRecDepth 20000 in
theorem mw_568 : (Cond.static ({ cls := "PolicyCompiler", name := "withValue", desc := "(III)I" } : MethodName)) ∈ lw_tbl := List.mem_of_getElem? (i := 671) (by decide +kernel)
set_option maxRecDepth 20000 in
theorem mw_569 : (Cond.code ({ cls := "PolicyCompiler", name := "withValue", desc := "(III)I" } : MethodName) prog_1_method_39_code (4 : Nat) (Option.some FieldType.int)) ∈ lw_tbl := List.mem_of_getElem? (i := 672) rfl
set_option maxRecDepth 20000 in
theorem mw_570 : (Cond.methodLink "PolicyCompiler$Evaluator" (29 : Nat) ({ cls := "PolicyCompiler$Relation", name := "assign", desc := "(IJ)V" } : MethodName)) ∈ lw_tbl := List.mem_of_getElem? (i := 673) (by decide +kernel)
set_option maxRecDepth 20000 in
theorem mw_571 : (Cond.instanceMethod ({ cls := "PolicyCompiler$Relation", name := "assign", desc := "(IJ)V" } : MethodName)) ∈ lw_tbl := List.mem_of_getElem? (i := 674) (by decide +kernel)
set_option maxRecDepth 20000 in
theorem mw_572 : (Cond.selects "PolicyCompiler$Relation" ({ cls := "PolicyCompiler$Relation", name := "assign", desc := "(IJ)V" } : MethodName) ({ cls := "PolicyCompiler$Relation", name := "assign", desc := "(IJ)V" } : MethodName)) ∈ lw_tbl := List.mem_of_getElem? (i := 675) (by decide +kernel)
set_option maxRecDepth 20000 in
theorem mw_573 : (Cond.code ({ cls := "PolicyCompiler$Relation", name := "assign", desc := "(IJ)V" } : MethodName) prog_8_method_2_code (4 : Nat) (Option.none : Option ClassFile.FieldType)) ∈ lw_tbl := List.mem_of_getElem? (i := 676) rfl
set_option maxRecDepth 20000 in
theorem mw_574 : (Cond.methodLinkNest "PolicyCompiler$Relation" (15 : Nat) ({ cls := "PolicyCompiler", name := "isPacket", desc := "(I)Z" } : MethodName) "PolicyCompiler") ∈ lw_tbl := List.mem_of_getElem? (i := 677) (by decide +kernel)
set_option maxRecDepth 20000 in
theorem mw_575 : (Cond.static ({ cls := "PolicyCompiler", name := "isPacket", desc := "(I)Z" } : MethodName)) ∈ lw_tbl := List.mem_of_getElem? (i := 678) (by decide +kernel)
set_option maxRecDepth 20000 in
theorem mw_576 : (Cond.code ({ cls := "PolicyCompiler", name := "isPacket", desc := "(I)Z" } : MethodName) prog_1_method_36_code (1 : Nat) (Option.some FieldType.boolean)) ∈ lw_tbl := List.mem_of_getElem? (i := 679) rfl
set_option maxRecDepth 20000 in
theorem mw_577 : (Cond.methodLink "PolicyCompiler$Slot" (78 : Nat) ({ cls := "PolicyCompiler$Diagram", name := "build", desc := "(LPolicyCompiler$Relation;)V" } : MethodName)) ∈ lw_tbl := List.mem_of_getElem? (i := 680) (by decide +kernel)
set_option maxRecDepth 20000 in
theorem mw_578 : (Cond.instanceMethod ({ cls := "PolicyCompiler$Diagram", name := "build", desc := "(LPolicyCompiler$Relation;)V" } : MethodName)) ∈ lw_tbl := List.mem_of_getElem? (i := 681) (by decide +kernel)
set_option maxRecDepth 20000 in
theorem mw_579 : (Cond.selects "PolicyCompiler$Diagram" ({ cls := "PolicyCompiler$Diagram", name := "build", desc := "(LPolicyCompiler$Relation;)V" } : MethodName) ({ cls := "PolicyCompiler$Diagram", name := "build", desc := "(LPolicyCompiler$Relation;)V" } : MethodName)) ∈ lw_tbl := List.mem_of_getElem? (i := 682) (by decide +kernel)
set_option maxRecDepth 20000 in
theorem mw_580 : (Cond.code ({ cls := "PolicyCompiler$Diagram", name := "build", desc := "(LPolicyCompiler$Relation;)V" } : MethodName) prog_2_method_10_code (5 : Nat) (Option.none : Option ClassFile.FieldType)) ∈ lw_tbl := List.mem_of_getElem? (i := 683) rfl
set_option maxRecDepth 20000 in
theorem mw_581 : (Cond.methodLink "PolicyCompiler$Diagram" (48 : Nat) ({ cls := "PolicyCompiler$Relation", name := "imageOf", desc := "(I)J" } : MethodName)) ∈ lw_tbl := List.mem_of_getElem? (i := 684) (by decide +kernel)
set_option maxRecDepth 20000 in
theorem mw_582 : (Cond.instanceMethod ({ cls := "PolicyCompiler$Relation", name := "imageOf", desc := "(I)J" } : MethodName)) ∈ lw_tbl := List.mem_of_getElem? (i := 685) (by decide +kernel)
set_option maxRecDepth 20000 in
theorem mw_583 : (Cond.selects "PolicyCompiler$Relation" ({ cls := "PolicyCompiler$Relation", name := "imageOf", desc := "(I)J" } : MethodName) ({ cls := "PolicyCompiler$Relation", name := "imageOf", desc := "(I)J" } : MethodName)) ∈ lw_tbl := List.mem_of_getElem? (i := 686) (by decide +kernel)
set_option maxRecDepth 20000 in
theorem mw_584 : (Cond.code ({ cls := "PolicyCompiler$Relation", name := "imageOf", desc := "(I)J" } : MethodName) prog_8_method_3_code (2 : Nat) (Option.some FieldType.long)) ∈ lw_tbl := List.mem_of_getElem? (i := 687) rfl
set_option maxRecDepth 20000 in
theorem mw_585 : (Cond.methodLink "PolicyCompiler$Diagram" (54 : Nat) ({ cls := "PolicyCompiler$Diagram", name := "leafFor", desc := "(IJ)I" } : MethodName)) ∈ lw_tbl := List.mem_of_getElem? (i := 688) (by decide +kernel)
set_option maxRecDepth 20000 in
theorem mw_587 : (Cond.instanceMethod ({ cls := "PolicyCompiler$Diagram", name := "leafFor", desc := "(IJ)I" } : MethodName)) ∈ lw_tbl := List.mem_of_getElem? (i := 690) (by decide +kernel)
set_option maxRecDepth 20000 in
theorem mw_588 : (Cond.code ({ cls := "PolicyCompiler$Diagram", name := "leafFor", desc := "(IJ)I" } : MethodName) prog_2_method_11_code (13 : Nat) (Option.some FieldType.int)) ∈ lw_tbl := List.mem_of_getElem? (i := 691) rfl
set_option maxRecDepth 20000 in
theorem mw_589 : (Cond.methodLink "PolicyCompiler$Diagram" (62 : Nat) ({ cls := "java/lang/Long", name := "bitCount", desc := "(J)I" } : MethodName)) ∈ lw_tbl := List.mem_of_getElem? (i := 692) (by decide +kernel)
set_option maxRecDepth 20000 in
theorem mw_590 : (Cond.methodLinkNest "PolicyCompiler$Diagram" (68 : Nat) ({ cls := "PolicyCompiler", name := "lowestOf", desc := "(J)I" } : MethodName) "PolicyCompiler") ∈ lw_tbl := List.mem_of_getElem? (i := 693) (by decide +kernel)
set_option maxRecDepth 20000 in
theorem mw_591 : (Cond.methodLinkNest "PolicyCompiler$Diagram" (71 : Nat) ({ cls := "PolicyCompiler", name := "actionFrom", desc := "(II)I" } : MethodName) "PolicyCompiler") ∈ lw_tbl := List.mem_of_getElem? (i := 694) (by decide +kernel)
set_option maxRecDepth 20000 in
theorem mw_592 : (Cond.static ({ cls := "PolicyCompiler", name := "actionFrom", desc := "(II)I" } : MethodName)) ∈ lw_tbl := List.mem_of_getElem? (i := 695) (by decide +kernel)
set_option maxRecDepth 20000 in
theorem mw_593 : (Cond.code ({ cls := "PolicyCompiler", name := "actionFrom", desc := "(II)I" } : MethodName) prog_1_method_46_code (5 : Nat) (Option.some FieldType.int)) ∈ lw_tbl := List.mem_of_getElem? (i := 696) rfl
set_option maxRecDepth 20000 in
theorem mw_594 : (Cond.methodLink "PolicyCompiler" (251 : Nat) ({ cls := "PolicyCompiler", name := "valueOf", desc := "(II)I" } : MethodName)) ∈ lw_tbl := List.mem_of_getElem? (i := 697) (by decide +kernel)
set_option maxRecDepth 20000 in
theorem mw_595 : (Cond.methodLink "PolicyCompiler" (254 : Nat) ({ cls := "PolicyCompiler", name := "weightOf", desc := "(I)I" } : MethodName)) ∈ lw_tbl := List.mem_of_getElem? (i := 698) (by decide +kernel)
set_option maxRecDepth 20000 in
theorem mw_596 : (Cond.static ({ cls := "PolicyCompiler", name := "weightOf", desc := "(I)I" } : MethodName)) ∈ lw_tbl := List.mem_of_getElem? (i := 699) (by decide +kernel)
set_option maxRecDepth 20000 in
theorem mw_597 : (Cond.code ({ cls := "PolicyCompiler", name := "weightOf", desc := "(I)I" } : MethodName) prog_1_method_44_code (1 : Nat) (Option.some FieldType.int)) ∈ lw_tbl := List.mem_of_getElem? (i := 700) rfl
set_option maxRecDepth 20000 in
theorem mw_598 : (Cond.methodLink "PolicyCompiler$Diagram" (74 : Nat) ({ cls := "PolicyCompiler$Diagram", name := "leafWith", desc := "(JJ)I" } : MethodName)) ∈ lw_tbl := List.mem_of_getElem? (i := 701) (by decide +kernel)
set_option maxRecDepth 20000 in
theorem mw_600 : (Cond.instanceMethod ({ cls := "PolicyCompiler$Diagram", name := "leafWith", desc := "(JJ)I" } : MethodName)) ∈ lw_tbl := List.mem_of_getElem? (i := 703) (by decide +kernel)
set_option maxRecDepth 20000 in
theorem mw_601 : (Cond.code ({ cls := "PolicyCompiler$Diagram", name := "leafWith", desc := "(JJ)I" } : MethodName) prog_2_method_12_code (6 : Nat) (Option.some FieldType.int)) ∈ lw_tbl := List.mem_of_getElem? (i := 704) rfl
set_option maxRecDepth 20000 in
theorem mw_602 : (Cond.methodLink "PolicyCompiler$Diagram" (78 : Nat) ({ cls := "PolicyCompiler$Diagram", name := "newLeaf", desc := "(JJ)I" } : MethodName)) ∈ lw_tbl := List.mem_of_getElem? (i := 705) (by decide +kernel)
set_option maxRecDepth 20000 in
theorem mw_604 : (Cond.instanceMethod ({ cls := "PolicyCompiler$Diagram", name := "newLeaf", desc := "(JJ)I" } : MethodName)) ∈ lw_tbl := List.mem_of_getElem? (i := 707) (by decide +kernel)
set_option maxRecDepth 20000 in
theorem mw_605 : (Cond.code ({ cls := "PolicyCompiler$Diagram", name := "newLeaf", desc := "(JJ)I" } : MethodName) prog_2_method_13_code (5 : Nat) (Option.some FieldType.int)) ∈ lw_tbl := List.mem_of_getElem? (i := 708) rfl
set_option maxRecDepth 20000 in
theorem mw_606 : (Cond.methodLink "PolicyCompiler$Diagram" (58 : Nat) ({ cls := "PolicyCompiler$Diagram", name := "nodeFor", desc := "(II)I" } : MethodName)) ∈ lw_tbl := List.mem_of_getElem? (i := 709) (by decide +kernel)
set_option maxRecDepth 20000 in
theorem mw_608 : (Cond.instanceMethod ({ cls := "PolicyCompiler$Diagram", name := "nodeFor", desc := "(II)I" } : MethodName)) ∈ lw_tbl := List.mem_of_getElem? (i := 711) (by decide +kernel)
set_option maxRecDepth 20000 in
theorem mw_609 : (Cond.code ({ cls := "PolicyCompiler$Diagram", name := "nodeFor", desc := "(II)I" } : MethodName) prog_2_method_14_code (8 : Nat) (Option.some FieldType.int)) ∈ lw_tbl := List.mem_of_getElem? (i := 712) rfl
set_option maxRecDepth 20000 in
theorem mw_610 : (Cond.methodLink "PolicyCompiler$Diagram" (81 : Nat) ({ cls := "PolicyCompiler$Diagram", name := "testWith", desc := "(IIIII)I" } : MethodName)) ∈ lw_tbl := List.mem_of_getElem? (i := 713) (by decide +kernel)
set_option maxRecDepth 20000 in
theorem mw_612 : (Cond.instanceMethod ({ cls := "PolicyCompiler$Diagram", name := "testWith", desc := "(IIIII)I" } : MethodName)) ∈ lw_tbl := List.mem_of_getElem? (i := 715) (by decide +kernel)
set_option maxRecDepth 20000 in
theorem mw_613 : (Cond.code ({ cls := "PolicyCompiler$Diagram", name := "testWith", desc := "(IIIII)I" } : MethodName) prog_2_method_15_code (7 : Nat) (Option.some FieldType.int)) ∈ lw_tbl := List.mem_of_getElem? (i := 716) rfl
set_option maxRecDepth 20000 in
theorem mw_614 : (Cond.methodLink "PolicyCompiler$Diagram" (88 : Nat) ({ cls := "PolicyCompiler$Diagram", name := "childOf", desc := "(II)I" } : MethodName)) ∈ lw_tbl := List.mem_of_getElem? (i := 717) (by decide +kernel)
set_option maxRecDepth 20000 in
theorem mw_615 : (Cond.instanceMethod ({ cls := "PolicyCompiler$Diagram", name := "childOf", desc := "(II)I" } : MethodName)) ∈ lw_tbl := List.mem_of_getElem? (i := 718) (by decide +kernel)
set_option maxRecDepth 20000 in
theorem mw_616 : (Cond.selects "PolicyCompiler$Diagram" ({ cls := "PolicyCompiler$Diagram", name := "childOf", desc := "(II)I" } : MethodName) ({ cls := "PolicyCompiler$Diagram", name := "childOf", desc := "(II)I" } : MethodName)) ∈ lw_tbl := List.mem_of_getElem? (i := 719) (by decide +kernel)
set_option maxRecDepth 20000 in
theorem mw_617 : (Cond.code ({ cls := "PolicyCompiler$Diagram", name := "childOf", desc := "(II)I" } : MethodName) prog_2_method_9_code (4 : Nat) (Option.some FieldType.int)) ∈ lw_tbl := List.mem_of_getElem? (i := 720) rfl
set_option maxRecDepth 20000 in
theorem mw_618 : (Cond.methodLink "PolicyCompiler$Diagram" (85 : Nat) ({ cls := "PolicyCompiler$Diagram", name := "newTest", desc := "(II)I" } : MethodName)) ∈ lw_tbl := List.mem_of_getElem? (i := 721) (by decide +kernel)
set_option maxRecDepth 20000 in
theorem mw_620 : (Cond.instanceMethod ({ cls := "PolicyCompiler$Diagram", name := "newTest", desc := "(II)I" } : MethodName)) ∈ lw_tbl := List.mem_of_getElem? (i := 723) (by decide +kernel)
set_option maxRecDepth 20000 in
theorem mw_621 : (Cond.code ({ cls := "PolicyCompiler$Diagram", name := "newTest", desc := "(II)I" } : MethodName) prog_2_method_16_code (6 : Nat) (Option.some FieldType.int)) ∈ lw_tbl := List.mem_of_getElem? (i := 724) rfl
set_option maxRecDepth 20000 in
theorem mw_622 : (Cond.methodLink "PolicyCompiler$Diagram" (44 : Nat) ({ cls := "PolicyCompiler$Diagram", name := "depthOf", desc := "(I)I" } : MethodName)) ∈ lw_tbl := List.mem_of_getElem? (i := 725) (by decide +kernel)
set_option maxRecDepth 20000 in
theorem mw_624 : (Cond.instanceMethod ({ cls := "PolicyCompiler$Diagram", name := "depthOf", desc := "(I)I" } : MethodName)) ∈ lw_tbl := List.mem_of_getElem? (i := 727) (by decide +kernel)
set_option maxRecDepth 20000 in
theorem mw_625 : (Cond.code ({ cls := "PolicyCompiler$Diagram", name := "depthOf", desc := "(I)I" } : MethodName) prog_2_method_5_code (2 : Nat) (Option.some FieldType.int)) ∈ lw_tbl := List.mem_of_getElem? (i := 728) rfl
set_option maxRecDepth 20000 in
theorem mw_626 : (Cond.methodLink "PolicyCompiler$Diagram" (91 : Nat) ({ cls := "java/lang/Math", name := "max", desc := "(II)I" } : MethodName)) ∈ lw_tbl := List.mem_of_getElem? (i := 729) (by decide +kernel)
set_option maxRecDepth 20000 in
theorem mw_627 : (Cond.static ({ cls := "java/lang/Math", name := "max", desc := "(II)I" } : MethodName)) ∈ lw_tbl := List.mem_of_getElem? (i := 730) (by decide +kernel)
set_option maxRecDepth 20000 in
theorem mw_628 : (Cond.code ({ cls := "java/lang/Math", name := "max", desc := "(II)I" } : MethodName) prog_14_method_65_code (2 : Nat) (Option.some FieldType.int)) ∈ lw_tbl := List.mem_of_getElem? (i := 731) rfl
set_option maxRecDepth 20000 in
theorem mw_629 : (Cond.methodLink "PolicyCompiler$Slot" (82 : Nat) ({ cls := "PolicyCompiler$Table", name := "build", desc := "(LPolicyCompiler$Diagram;)V" } : MethodName)) ∈ lw_tbl := List.mem_of_getElem? (i := 732) (by decide +kernel)
set_option maxRecDepth 20000 in
theorem mw_630 : (Cond.instanceMethod ({ cls := "PolicyCompiler$Table", name := "build", desc := "(LPolicyCompiler$Diagram;)V" } : MethodName)) ∈ lw_tbl := List.mem_of_getElem? (i := 733) (by decide +kernel)
set_option maxRecDepth 20000 in
theorem mw_631 : (Cond.selects "PolicyCompiler$Table" ({ cls := "PolicyCompiler$Table", name := "build", desc := "(LPolicyCompiler$Diagram;)V" } : MethodName) ({ cls := "PolicyCompiler$Table", name := "build", desc := "(LPolicyCompiler$Diagram;)V" } : MethodName)) ∈ lw_tbl := List.mem_of_getElem? (i := 734) (by decide +kernel)
set_option maxRecDepth 20000 in
theorem mw_632 : (Cond.code ({ cls := "PolicyCompiler$Table", name := "build", desc := "(LPolicyCompiler$Diagram;)V" } : MethodName) prog_10_method_6_code (4 : Nat) (Option.none : Option ClassFile.FieldType)) ∈ lw_tbl := List.mem_of_getElem? (i := 735) rfl
set_option maxRecDepth 20000 in
theorem mw_633 : (Cond.methodLink "PolicyCompiler$Table" (22 : Nat) ({ cls := "PolicyCompiler$Diagram", name := "rootNode", desc := "()I" } : MethodName)) ∈ lw_tbl := List.mem_of_getElem? (i := 736) (by decide +kernel)
set_option maxRecDepth 20000 in
theorem mw_634 : (Cond.instanceMethod ({ cls := "PolicyCompiler$Diagram", name := "rootNode", desc := "()I" } : MethodName)) ∈ lw_tbl := List.mem_of_getElem? (i := 737) (by decide +kernel)
set_option maxRecDepth 20000 in
theorem mw_635 : (Cond.selects "PolicyCompiler$Diagram" ({ cls := "PolicyCompiler$Diagram", name := "rootNode", desc := "()I" } : MethodName) ({ cls := "PolicyCompiler$Diagram", name := "rootNode", desc := "()I" } : MethodName)) ∈ lw_tbl := List.mem_of_getElem? (i := 738) (by decide +kernel)
set_option maxRecDepth 20000 in
theorem mw_636 : (Cond.code ({ cls := "PolicyCompiler$Diagram", name := "rootNode", desc := "()I" } : MethodName) prog_2_method_6_code (1 : Nat) (Option.some FieldType.int)) ∈ lw_tbl := List.mem_of_getElem? (i := 739) rfl
set_option maxRecDepth 20000 in
theorem mw_637 : (Cond.methodLink "PolicyCompiler$Table" (28 : Nat) ({ cls := "PolicyCompiler$Table", name := "visit", desc := "(LPolicyCompiler$Table;LPolicyCompiler$Diagram;III)V" } : MethodName)) ∈ lw_tbl := List.mem_of_getElem? (i := 740) (by decide +kernel)
set_option maxRecDepth 20000 in
theorem mw_638 : (Cond.static ({ cls := "PolicyCompiler$Table", name := "visit", desc := "(LPolicyCompiler$Table;LPolicyCompiler$Diagram;III)V" } : MethodName)) ∈ lw_tbl := List.mem_of_getElem? (i := 741) (by decide +kernel)
set_option maxRecDepth 20000 in
theorem mw_639 : (Cond.code ({ cls := "PolicyCompiler$Table", name := "visit", desc := "(LPolicyCompiler$Table;LPolicyCompiler$Diagram;III)V" } : MethodName) prog_10_method_7_code (9 : Nat) (Option.none : Option ClassFile.FieldType)) ∈ lw_tbl := List.mem_of_getElem? (i := 742) rfl
set_option maxRecDepth 20000 in
theorem mw_640 : (Cond.methodLink "PolicyCompiler$Table" (36 : Nat) ({ cls := "PolicyCompiler$Diagram", name := "isLeaf", desc := "(I)Z" } : MethodName)) ∈ lw_tbl := List.mem_of_getElem? (i := 743) (by decide +kernel)
set_option maxRecDepth 20000 in
theorem mw_641 : (Cond.instanceMethod ({ cls := "PolicyCompiler$Diagram", name := "isLeaf", desc := "(I)Z" } : MethodName)) ∈ lw_tbl := List.mem_of_getElem? (i := 744) (by decide +kernel)
set_option maxRecDepth 20000 in
theorem mw_642 : (Cond.selects "PolicyCompiler$Diagram" ({ cls := "PolicyCompiler$Diagram", name := "isLeaf", desc := "(I)Z" } : MethodName) ({ cls := "PolicyCompiler$Diagram", name := "isLeaf", desc := "(I)Z" } : MethodName)) ∈ lw_tbl := List.mem_of_getElem? (i := 745) (by decide +kernel)
set_option maxRecDepth 20000 in
theorem mw_643 : (Cond.code ({ cls := "PolicyCompiler$Diagram", name := "isLeaf", desc := "(I)Z" } : MethodName) prog_2_method_7_code (2 : Nat) (Option.some FieldType.boolean)) ∈ lw_tbl := List.mem_of_getElem? (i := 746) rfl
set_option maxRecDepth 20000 in
theorem mw_644 : (Cond.methodLink "PolicyCompiler$Table" (40 : Nat) ({ cls := "PolicyCompiler$Table", name := "addRow", desc := "(II)V" } : MethodName)) ∈ lw_tbl := List.mem_of_getElem? (i := 747) (by decide +kernel)
set_option maxRecDepth 20000 in
theorem mw_646 : (Cond.instanceMethod ({ cls := "PolicyCompiler$Table", name := "addRow", desc := "(II)V" } : MethodName)) ∈ lw_tbl := List.mem_of_getElem? (i := 749) (by decide +kernel)
set_option maxRecDepth 20000 in
theorem mw_647 : (Cond.code ({ cls := "PolicyCompiler$Table", name := "addRow", desc := "(II)V" } : MethodName) prog_10_method_8_code (3 : Nat) (Option.none : Option ClassFile.FieldType)) ∈ lw_tbl := List.mem_of_getElem? (i := 750) rfl
set_option maxRecDepth 20000 in
theorem mw_648 : (Cond.methodLink "PolicyCompiler$Table" (44 : Nat) ({ cls := "PolicyCompiler$Diagram", name := "fieldOf", desc := "(I)I" } : MethodName)) ∈ lw_tbl := List.mem_of_getElem? (i := 751) (by decide +kernel)
set_option maxRecDepth 20000 in
theorem mw_649 : (Cond.instanceMethod ({ cls := "PolicyCompiler$Diagram", name := "fieldOf", desc := "(I)I" } : MethodName)) ∈ lw_tbl := List.mem_of_getElem? (i := 752) (by decide +kernel)
set_option maxRecDepth 20000 in
theorem mw_650 : (Cond.selects "PolicyCompiler$Diagram" ({ cls := "PolicyCompiler$Diagram", name := "fieldOf", desc := "(I)I" } : MethodName) ({ cls := "PolicyCompiler$Diagram", name := "fieldOf", desc := "(I)I" } : MethodName)) ∈ lw_tbl := List.mem_of_getElem? (i := 753) (by decide +kernel)
set_option maxRecDepth 20000 in
theorem mw_651 : (Cond.code ({ cls := "PolicyCompiler$Diagram", name := "fieldOf", desc := "(I)I" } : MethodName) prog_2_method_8_code (2 : Nat) (Option.some FieldType.int)) ∈ lw_tbl := List.mem_of_getElem? (i := 754) rfl
set_option maxRecDepth 20000 in
theorem mw_652 : (Cond.methodLink "PolicyCompiler$Table" (47 : Nat) ({ cls := "PolicyCompiler$Diagram", name := "mainChildOf", desc := "(I)I" } : MethodName)) ∈ lw_tbl := List.mem_of_getElem? (i := 755) (by decide +kernel)
set_option maxRecDepth 20000 in
theorem mw_653 : (Cond.instanceMethod ({ cls := "PolicyCompiler$Diagram", name := "mainChildOf", desc := "(I)I" } : MethodName)) ∈ lw_tbl := List.mem_of_getElem? (i := 756) (by decide +kernel)
set_option maxRecDepth 20000 in
theorem mw_654 : (Cond.selects "PolicyCompiler$Diagram" ({ cls := "PolicyCompiler$Diagram", name := "mainChildOf", desc := "(I)I" } : MethodName) ({ cls := "PolicyCompiler$Diagram", name := "mainChildOf", desc := "(I)I" } : MethodName)) ∈ lw_tbl := List.mem_of_getElem? (i := 757) (by decide +kernel)
set_option maxRecDepth 20000 in
theorem mw_655 : (Cond.code ({ cls := "PolicyCompiler$Diagram", name := "mainChildOf", desc := "(I)I" } : MethodName) prog_2_method_17_code (7 : Nat) (Option.some FieldType.int)) ∈ lw_tbl := List.mem_of_getElem? (i := 758) rfl
set_option maxRecDepth 20000 in
theorem mw_656 : (Cond.methodLink "PolicyCompiler$Diagram" (96 : Nat) ({ cls := "PolicyCompiler$Diagram", name := "valuesLeadingTo", desc := "(II)I" } : MethodName)) ∈ lw_tbl := List.mem_of_getElem? (i := 759) (by decide +kernel)
set_option maxRecDepth 20000 in
theorem mw_658 : (Cond.instanceMethod ({ cls := "PolicyCompiler$Diagram", name := "valuesLeadingTo", desc := "(II)I" } : MethodName)) ∈ lw_tbl := List.mem_of_getElem? (i := 761) (by decide +kernel)
set_option maxRecDepth 20000 in
theorem mw_659 : (Cond.code ({ cls := "PolicyCompiler$Diagram", name := "valuesLeadingTo", desc := "(II)I" } : MethodName) prog_2_method_18_code (5 : Nat) (Option.some FieldType.int)) ∈ lw_tbl := List.mem_of_getElem? (i := 762) rfl
set_option maxRecDepth 20000 in
theorem mw_660 : (Cond.methodLink "PolicyCompiler$Table" (50 : Nat) ({ cls := "PolicyCompiler$Diagram", name := "childOf", desc := "(II)I" } : MethodName)) ∈ lw_tbl := List.mem_of_getElem? (i := 763) (by decide +kernel)
set_option maxRecDepth 20000 in
theorem mw_661 : (Cond.methodLinkNest "PolicyCompiler$Table" (54 : Nat) ({ cls := "PolicyCompiler", name := "weightOf", desc := "(I)I" } : MethodName) "PolicyCompiler") ∈ lw_tbl := List.mem_of_getElem? (i := 764) (by decide +kernel)
set_option maxRecDepth 20000 in
theorem mw_662 : (Cond.methodLink "PolicyCompiler$Table" (32 : Nat) ({ cls := "PolicyCompiler$Diagram", name := "actionTotal", desc := "(I)I" } : MethodName)) ∈ lw_tbl := List.mem_of_getElem? (i := 765) (by decide +kernel)
set_option maxRecDepth 20000 in
theorem mw_663 : (Cond.instanceMethod ({ cls := "PolicyCompiler$Diagram", name := "actionTotal", desc := "(I)I" } : MethodName)) ∈ lw_tbl := List.mem_of_getElem? (i := 766) (by decide +kernel)
set_option maxRecDepth 20000 in
theorem mw_664 : (Cond.selects "PolicyCompiler$Diagram" ({ cls := "PolicyCompiler$Diagram", name := "actionTotal", desc := "(I)I" } : MethodName) ({ cls := "PolicyCompiler$Diagram", name := "actionTotal", desc := "(I)I" } : MethodName)) ∈ lw_tbl := List.mem_of_getElem? (i := 767) (by decide +kernel)
set_option maxRecDepth 20000 in
theorem mw_665 : (Cond.code ({ cls := "PolicyCompiler$Diagram", name := "actionTotal", desc := "(I)I" } : MethodName) prog_2_method_23_code (2 : Nat) (Option.some FieldType.int)) ∈ lw_tbl := List.mem_of_getElem? (i := 768) rfl
set_option maxRecDepth 20000 in
theorem mw_666 : (Cond.methodLink "PolicyCompiler" (108 : Nat) ({ cls := "PolicyCompiler$Slot", name := "printout", desc := "()LPolicyCompiler$Printout;" } : MethodName)) ∈ lw_tbl := List.mem_of_getElem? (i := 769) (by decide +kernel)
set_option maxRecDepth 20000 in
theorem mw_667 : (Cond.instanceMethod ({ cls := "PolicyCompiler$Slot", name := "printout", desc := "()LPolicyCompiler$Printout;" } : MethodName)) ∈ lw_tbl := List.mem_of_getElem? (i := 770) (by decide +kernel)
set_option maxRecDepth 20000 in
theorem mw_668 : (Cond.selects "PolicyCompiler$Slot" ({ cls := "PolicyCompiler$Slot", name := "printout", desc := "()LPolicyCompiler$Printout;" } : MethodName) ({ cls := "PolicyCompiler$Slot", name := "printout", desc := "()LPolicyCompiler$Printout;" } : MethodName)) ∈ lw_tbl := List.mem_of_getElem? (i := 771) (by decide +kernel)
set_option maxRecDepth 20000 in
theorem mw_669 : (Cond.code ({ cls := "PolicyCompiler$Slot", name := "printout", desc := "()LPolicyCompiler$Printout;" } : MethodName) prog_9_method_5_code (1 : Nat) (Option.some (FieldType.object "PolicyCompiler$Printout"))) ∈ lw_tbl := List.mem_of_getElem? (i := 772) rfl
set_option maxRecDepth 20000 in
theorem mw_670 : (Cond.methodLink "PolicyCompiler" (112 : Nat) ({ cls := "PolicyCompiler$Printout", name := "byteCount", desc := "()I" } : MethodName)) ∈ lw_tbl := List.mem_of_getElem? (i := 773) (by decide +kernel)
set_option maxRecDepth 20000 in
theorem mw_671 : (Cond.instanceMethod ({ cls := "PolicyCompiler$Printout", name := "byteCount", desc := "()I" } : MethodName)) ∈ lw_tbl := List.mem_of_getElem? (i := 774) (by decide +kernel)
set_option maxRecDepth 20000 in
theorem mw_672 : (Cond.selects "PolicyCompiler$Printout" ({ cls := "PolicyCompiler$Printout", name := "byteCount", desc := "()I" } : MethodName) ({ cls := "PolicyCompiler$Printout", name := "byteCount", desc := "()I" } : MethodName)) ∈ lw_tbl := List.mem_of_getElem? (i := 775) (by decide +kernel)
set_option maxRecDepth 20000 in
theorem mw_673 : (Cond.code ({ cls := "PolicyCompiler$Printout", name := "byteCount", desc := "()I" } : MethodName) prog_7_method_2_code (1 : Nat) (Option.some FieldType.int)) ∈ lw_tbl := List.mem_of_getElem? (i := 776) rfl
set_option maxRecDepth 20000 in
theorem mw_674 : (Cond.methodLink "PolicyCompiler" (117 : Nat) ({ cls := "PolicyCompiler$Printout", name := "byteAt", desc := "(I)I" } : MethodName)) ∈ lw_tbl := List.mem_of_getElem? (i := 777) (by decide +kernel)
set_option maxRecDepth 20000 in
theorem mw_675 : (Cond.instanceMethod ({ cls := "PolicyCompiler$Printout", name := "byteAt", desc := "(I)I" } : MethodName)) ∈ lw_tbl := List.mem_of_getElem? (i := 778) (by decide +kernel)
set_option maxRecDepth 20000 in
theorem mw_676 : (Cond.selects "PolicyCompiler$Printout" ({ cls := "PolicyCompiler$Printout", name := "byteAt", desc := "(I)I" } : MethodName) ({ cls := "PolicyCompiler$Printout", name := "byteAt", desc := "(I)I" } : MethodName)) ∈ lw_tbl := List.mem_of_getElem? (i := 779) (by decide +kernel)
set_option maxRecDepth 20000 in
theorem mw_677 : (Cond.code ({ cls := "PolicyCompiler$Printout", name := "byteAt", desc := "(I)I" } : MethodName) prog_7_method_3_code (2 : Nat) (Option.some FieldType.int)) ∈ lw_tbl := List.mem_of_getElem? (i := 780) rfl
set_option maxRecDepth 20000 in
theorem mw_678 : (Cond.methodLink "PolicyCompilerLaw" (50 : Nat) ({ cls := "PolicyCompiler", name := "outputs", desc := "(II)J" } : MethodName)) ∈ lw_tbl := List.mem_of_getElem? (i := 781) (by decide +kernel)
set_option maxRecDepth 20000 in
theorem mw_679 : (Cond.instanceMethod ({ cls := "PolicyCompiler", name := "outputs", desc := "(II)J" } : MethodName)) ∈ lw_tbl := List.mem_of_getElem? (i := 782) (by decide +kernel)
set_option maxRecDepth 20000 in
theorem mw_680 : (Cond.selects "PolicyCompiler" ({ cls := "PolicyCompiler", name := "outputs", desc := "(II)J" } : MethodName) ({ cls := "PolicyCompiler", name := "outputs", desc := "(II)J" } : MethodName)) ∈ lw_tbl := List.mem_of_getElem? (i := 783) (by decide +kernel)
set_option maxRecDepth 20000 in
theorem mw_681 : (Cond.code ({ cls := "PolicyCompiler", name := "outputs", desc := "(II)J" } : MethodName) prog_1_method_10_code (3 : Nat) (Option.some FieldType.long)) ∈ lw_tbl := List.mem_of_getElem? (i := 784) rfl
set_option maxRecDepth 20000 in
theorem mw_682 : (Cond.methodLink "PolicyCompiler" (120 : Nat) ({ cls := "PolicyCompiler", name := "isPacket", desc := "(I)Z" } : MethodName)) ∈ lw_tbl := List.mem_of_getElem? (i := 785) (by decide +kernel)
set_option maxRecDepth 20000 in
theorem mw_683 : (Cond.methodLink "PolicyCompiler" (123 : Nat) ({ cls := "PolicyCompiler$Slot", name := "relation", desc := "()LPolicyCompiler$Relation;" } : MethodName)) ∈ lw_tbl := List.mem_of_getElem? (i := 786) (by decide +kernel)
set_option maxRecDepth 20000 in
theorem mw_684 : (Cond.instanceMethod ({ cls := "PolicyCompiler$Slot", name := "relation", desc := "()LPolicyCompiler$Relation;" } : MethodName)) ∈ lw_tbl := List.mem_of_getElem? (i := 787) (by decide +kernel)
set_option maxRecDepth 20000 in
theorem mw_685 : (Cond.selects "PolicyCompiler$Slot" ({ cls := "PolicyCompiler$Slot", name := "relation", desc := "()LPolicyCompiler$Relation;" } : MethodName) ({ cls := "PolicyCompiler$Slot", name := "relation", desc := "()LPolicyCompiler$Relation;" } : MethodName)) ∈ lw_tbl := List.mem_of_getElem? (i := 788) (by decide +kernel)
set_option maxRecDepth 20000 in
theorem mw_686 : (Cond.code ({ cls := "PolicyCompiler$Slot", name := "relation", desc := "()LPolicyCompiler$Relation;" } : MethodName) prog_9_method_6_code (1 : Nat) (Option.some (FieldType.object "PolicyCompiler$Relation"))) ∈ lw_tbl := List.mem_of_getElem? (i := 789) rfl
set_option maxRecDepth 20000 in
theorem mw_687 : (Cond.methodLink "PolicyCompiler" (127 : Nat) ({ cls := "PolicyCompiler$Relation", name := "imageOf", desc := "(I)J" } : MethodName)) ∈ lw_tbl := List.mem_of_getElem? (i := 790) (by decide +kernel)
set_option maxRecDepth 20000 in
theorem mw_688 : (Cond.methodLink "PolicyCompilerLaw" (55 : Nat) ({ cls := "PolicyCompiler", name := "accepted", desc := "(I)J" } : MethodName)) ∈ lw_tbl := List.mem_of_getElem? (i := 791) (by decide +kernel)
set_option maxRecDepth 20000 in
theorem mw_689 : (Cond.instanceMethod ({ cls := "PolicyCompiler", name := "accepted", desc := "(I)J" } : MethodName)) ∈ lw_tbl := List.mem_of_getElem? (i := 792) (by decide +kernel)
set_option maxRecDepth 20000 in
theorem mw_690 : (Cond.selects "PolicyCompiler" ({ cls := "PolicyCompiler", name := "accepted", desc := "(I)J" } : MethodName) ({ cls := "PolicyCompiler", name := "accepted", desc := "(I)J" } : MethodName)) ∈ lw_tbl := List.mem_of_getElem? (i := 793) (by decide +kernel)
set_option maxRecDepth 20000 in
theorem mw_691 : (Cond.code ({ cls := "PolicyCompiler", name := "accepted", desc := "(I)J" } : MethodName) prog_1_method_11_code (2 : Nat) (Option.some FieldType.long)) ∈ lw_tbl := List.mem_of_getElem? (i := 794) rfl
set_option maxRecDepth 20000 in
theorem mw_692 : (Cond.methodLink "PolicyCompiler" (133 : Nat) ({ cls := "PolicyCompiler$Relation", name := "domain", desc := "()J" } : MethodName)) ∈ lw_tbl := List.mem_of_getElem? (i := 795) (by decide +kernel)
set_option maxRecDepth 20000 in
theorem mw_693 : (Cond.instanceMethod ({ cls := "PolicyCompiler$Relation", name := "domain", desc := "()J" } : MethodName)) ∈ lw_tbl := List.mem_of_getElem? (i := 796) (by decide +kernel)
set_option maxRecDepth 20000 in
theorem mw_694 : (Cond.selects "PolicyCompiler$Relation" ({ cls := "PolicyCompiler$Relation", name := "domain", desc := "()J" } : MethodName) ({ cls := "PolicyCompiler$Relation", name := "domain", desc := "()J" } : MethodName)) ∈ lw_tbl := List.mem_of_getElem? (i := 797) (by decide +kernel)
set_option maxRecDepth 20000 in
theorem mw_695 : (Cond.code ({ cls := "PolicyCompiler$Relation", name := "domain", desc := "()J" } : MethodName) prog_8_method_4_code (4 : Nat) (Option.some FieldType.long)) ∈ lw_tbl := List.mem_of_getElem? (i := 798) rfl
set_option maxRecDepth 20000 in
theorem mw_696 : (Cond.methodLinkNest "PolicyCompiler$Relation" (19 : Nat) ({ cls := "PolicyCompiler", name := "alone", desc := "(I)J" } : MethodName) "PolicyCompiler") ∈ lw_tbl := List.mem_of_getElem? (i := 799) (by decide +kernel)
set_option maxRecDepth 20000 in
theorem mw_697 : (Cond.methodLink "PolicyCompilerLaw" (60 : Nat) ({ cls := "PolicyCompiler", name := "spread", desc := "(I)I" } : MethodName)) ∈ lw_tbl := List.mem_of_getElem? (i := 800) (by decide +kernel)
set_option maxRecDepth 20000 in
theorem mw_698 : (Cond.instanceMethod ({ cls := "PolicyCompiler", name := "spread", desc := "(I)I" } : MethodName)) ∈ lw_tbl := List.mem_of_getElem? (i := 801) (by decide +kernel)
set_option maxRecDepth 20000 in
theorem mw_699 : (Cond.selects "PolicyCompiler" ({ cls := "PolicyCompiler", name := "spread", desc := "(I)I" } : MethodName) ({ cls := "PolicyCompiler", name := "spread", desc := "(I)I" } : MethodName)) ∈ lw_tbl := List.mem_of_getElem? (i := 802) (by decide +kernel)
set_option maxRecDepth 20000 in
theorem mw_700 : (Cond.code ({ cls := "PolicyCompiler", name := "spread", desc := "(I)I" } : MethodName) prog_1_method_12_code (2 : Nat) (Option.some FieldType.int)) ∈ lw_tbl := List.mem_of_getElem? (i := 803) rfl
set_option maxRecDepth 20000 in
theorem mw_701 : (Cond.methodLink "PolicyCompiler" (137 : Nat) ({ cls := "PolicyCompiler$Relation", name := "widest", desc := "()I" } : MethodName)) ∈ lw_tbl := List.mem_of_getElem? (i := 804) (by decide +kernel)
set_option maxRecDepth 20000 in
theorem mw_702 : (Cond.instanceMethod ({ cls := "PolicyCompiler$Relation", name := "widest", desc := "()I" } : MethodName)) ∈ lw_tbl := List.mem_of_getElem? (i := 805) (by decide +kernel)
set_option maxRecDepth 20000 in
theorem mw_703 : (Cond.selects "PolicyCompiler$Relation" ({ cls := "PolicyCompiler$Relation", name := "widest", desc := "()I" } : MethodName) ({ cls := "PolicyCompiler$Relation", name := "widest", desc := "()I" } : MethodName)) ∈ lw_tbl := List.mem_of_getElem? (i := 806) (by decide +kernel)
set_option maxRecDepth 20000 in
theorem mw_704 : (Cond.code ({ cls := "PolicyCompiler$Relation", name := "widest", desc := "()I" } : MethodName) prog_8_method_5_code (3 : Nat) (Option.some FieldType.int)) ∈ lw_tbl := List.mem_of_getElem? (i := 807) rfl
set_option maxRecDepth 20000 in
theorem mw_705 : (Cond.methodLink "PolicyCompiler$Relation" (23 : Nat) ({ cls := "java/lang/Long", name := "bitCount", desc := "(J)I" } : MethodName)) ∈ lw_tbl := List.mem_of_getElem? (i := 808) (by decide +kernel)
set_option maxRecDepth 20000 in
theorem mw_706 : (Cond.methodLink "PolicyCompiler$Relation" (29 : Nat) ({ cls := "java/lang/Math", name := "max", desc := "(II)I" } : MethodName)) ∈ lw_tbl := List.mem_of_getElem? (i := 809) (by decide +kernel)
set_option maxRecDepth 20000 in
theorem mw_707 : (Cond.methodLink "PolicyCompilerLaw" (64 : Nat) ({ cls := "PolicyCompiler", name := "rounds", desc := "(I)I" } : MethodName)) ∈ lw_tbl := List.mem_of_getElem? (i := 810) (by decide +kernel)
set_option maxRecDepth 20000 in
theorem mw_708 : (Cond.instanceMethod ({ cls := "PolicyCompiler", name := "rounds", desc := "(I)I" } : MethodName)) ∈ lw_tbl := List.mem_of_getElem? (i := 811) (by decide +kernel)
set_option maxRecDepth 20000 in
theorem mw_709 : (Cond.selects "PolicyCompiler" ({ cls := "PolicyCompiler", name := "rounds", desc := "(I)I" } : MethodName) ({ cls := "PolicyCompiler", name := "rounds", desc := "(I)I" } : MethodName)) ∈ lw_tbl := List.mem_of_getElem? (i := 812) (by decide +kernel)
set_option maxRecDepth 20000 in
theorem mw_710 : (Cond.code ({ cls := "PolicyCompiler", name := "rounds", desc := "(I)I" } : MethodName) prog_1_method_13_code (2 : Nat) (Option.some FieldType.int)) ∈ lw_tbl := List.mem_of_getElem? (i := 813) rfl
set_option maxRecDepth 20000 in
theorem mw_711 : (Cond.methodLink "PolicyCompiler" (140 : Nat) ({ cls := "PolicyCompiler$Relation", name := "mostSteps", desc := "()I" } : MethodName)) ∈ lw_tbl := List.mem_of_getElem? (i := 814) (by decide +kernel)
set_option maxRecDepth 20000 in
theorem mw_712 : (Cond.instanceMethod ({ cls := "PolicyCompiler$Relation", name := "mostSteps", desc := "()I" } : MethodName)) ∈ lw_tbl := List.mem_of_getElem? (i := 815) (by decide +kernel)
set_option maxRecDepth 20000 in
theorem mw_713 : (Cond.selects "PolicyCompiler$Relation" ({ cls := "PolicyCompiler$Relation", name := "mostSteps", desc := "()I" } : MethodName) ({ cls := "PolicyCompiler$Relation", name := "mostSteps", desc := "()I" } : MethodName)) ∈ lw_tbl := List.mem_of_getElem? (i := 816) (by decide +kernel)
set_option maxRecDepth 20000 in
theorem mw_714 : (Cond.code ({ cls := "PolicyCompiler$Relation", name := "mostSteps", desc := "()I" } : MethodName) prog_8_method_6_code (3 : Nat) (Option.some FieldType.int)) ∈ lw_tbl := List.mem_of_getElem? (i := 817) rfl
set_option maxRecDepth 20000 in
theorem mw_715 : (Cond.methodLink "PolicyCompiler$Relation" (35 : Nat) ({ cls := "PolicyCompiler$Relation", name := "stepsFrom", desc := "(I)I" } : MethodName)) ∈ lw_tbl := List.mem_of_getElem? (i := 818) (by decide +kernel)
set_option maxRecDepth 20000 in
theorem mw_717 : (Cond.instanceMethod ({ cls := "PolicyCompiler$Relation", name := "stepsFrom", desc := "(I)I" } : MethodName)) ∈ lw_tbl := List.mem_of_getElem? (i := 820) (by decide +kernel)
set_option maxRecDepth 20000 in
theorem mw_718 : (Cond.code ({ cls := "PolicyCompiler$Relation", name := "stepsFrom", desc := "(I)I" } : MethodName) prog_8_method_7_code (8 : Nat) (Option.some FieldType.int)) ∈ lw_tbl := List.mem_of_getElem? (i := 821) rfl
set_option maxRecDepth 20000 in
theorem mw_719 : (Cond.methodLinkNest "PolicyCompiler$Relation" (39 : Nat) ({ cls := "PolicyCompiler", name := "imageOfSet", desc := "([JIJ)J" } : MethodName) "PolicyCompiler") ∈ lw_tbl := List.mem_of_getElem? (i := 822) (by decide +kernel)
set_option maxRecDepth 20000 in
theorem mw_720 : (Cond.constantLong "PolicyCompiler$Relation" (43 : Nat) (-1 : Int64)) ∈ lw_tbl := List.mem_of_getElem? (i := 823) (by decide +kernel)
set_option maxRecDepth 20000 in
theorem mw_721 : (Cond.methodLink "PolicyCompilerLaw" (68 : Nat) ({ cls := "PolicyCompiler", name := "compare", desc := "(II)I" } : MethodName)) ∈ lw_tbl := List.mem_of_getElem? (i := 824) (by decide +kernel)
set_option maxRecDepth 20000 in
theorem mw_722 : (Cond.instanceMethod ({ cls := "PolicyCompiler", name := "compare", desc := "(II)I" } : MethodName)) ∈ lw_tbl := List.mem_of_getElem? (i := 825) (by decide +kernel)
set_option maxRecDepth 20000 in
theorem mw_723 : (Cond.selects "PolicyCompiler" ({ cls := "PolicyCompiler", name := "compare", desc := "(II)I" } : MethodName) ({ cls := "PolicyCompiler", name := "compare", desc := "(II)I" } : MethodName)) ∈ lw_tbl := List.mem_of_getElem? (i := 826) (by decide +kernel)
set_option maxRecDepth 20000 in
theorem mw_724 : (Cond.code ({ cls := "PolicyCompiler", name := "compare", desc := "(II)I" } : MethodName) prog_1_method_14_code (3 : Nat) (Option.some FieldType.int)) ∈ lw_tbl := List.mem_of_getElem? (i := 827) rfl
set_option maxRecDepth 20000 in
theorem mw_725 : (Cond.methodLink "PolicyCompiler" (143 : Nat) ({ cls := "PolicyCompiler$Relation", name := "orderTo", desc := "(LPolicyCompiler$Relation;)I" } : MethodName)) ∈ lw_tbl := List.mem_of_getElem? (i := 828) (by decide +kernel)
set_option maxRecDepth 20000 in
theorem mw_726 : (Cond.instanceMethod ({ cls := "PolicyCompiler$Relation", name := "orderTo", desc := "(LPolicyCompiler$Relation;)I" } : MethodName)) ∈ lw_tbl := List.mem_of_getElem? (i := 829) (by decide +kernel)
set_option maxRecDepth 20000 in
theorem mw_727 : (Cond.selects "PolicyCompiler$Relation" ({ cls := "PolicyCompiler$Relation", name := "orderTo", desc := "(LPolicyCompiler$Relation;)I" } : MethodName) ({ cls := "PolicyCompiler$Relation", name := "orderTo", desc := "(LPolicyCompiler$Relation;)I" } : MethodName)) ∈ lw_tbl := List.mem_of_getElem? (i := 830) (by decide +kernel)
set_option maxRecDepth 20000 in
theorem mw_728 : (Cond.code ({ cls := "PolicyCompiler$Relation", name := "orderTo", desc := "(LPolicyCompiler$Relation;)I" } : MethodName) prog_8_method_8_code (5 : Nat) (Option.some FieldType.int)) ∈ lw_tbl := List.mem_of_getElem? (i := 831) rfl
set_option maxRecDepth 20000 in
theorem mw_729 : (Cond.methodLink "PolicyCompilerLaw" (72 : Nat) ({ cls := "PolicyCompiler", name := "witness", desc := "(II)I" } : MethodName)) ∈ lw_tbl := List.mem_of_getElem? (i := 832) (by decide +kernel)
set_option maxRecDepth 20000 in
theorem mw_730 : (Cond.instanceMethod ({ cls := "PolicyCompiler", name := "witness", desc := "(II)I" } : MethodName)) ∈ lw_tbl := List.mem_of_getElem? (i := 833) (by decide +kernel)
set_option maxRecDepth 20000 in
theorem mw_731 : (Cond.selects "PolicyCompiler" ({ cls := "PolicyCompiler", name := "witness", desc := "(II)I" } : MethodName) ({ cls := "PolicyCompiler", name := "witness", desc := "(II)I" } : MethodName)) ∈ lw_tbl := List.mem_of_getElem? (i := 834) (by decide +kernel)
set_option maxRecDepth 20000 in
theorem mw_732 : (Cond.code ({ cls := "PolicyCompiler", name := "witness", desc := "(II)I" } : MethodName) prog_1_method_15_code (3 : Nat) (Option.some FieldType.int)) ∈ lw_tbl := List.mem_of_getElem? (i := 835) rfl
set_option maxRecDepth 20000 in
theorem mw_733 : (Cond.methodLink "PolicyCompiler" (147 : Nat) ({ cls := "PolicyCompiler$Relation", name := "firstUnlike", desc := "(LPolicyCompiler$Relation;)I" } : MethodName)) ∈ lw_tbl := List.mem_of_getElem? (i := 836) (by decide +kernel)
set_option maxRecDepth 20000 in
theorem mw_734 : (Cond.instanceMethod ({ cls := "PolicyCompiler$Relation", name := "firstUnlike", desc := "(LPolicyCompiler$Relation;)I" } : MethodName)) ∈ lw_tbl := List.mem_of_getElem? (i := 837) (by decide +kernel)
set_option maxRecDepth 20000 in
theorem mw_735 : (Cond.selects "PolicyCompiler$Relation" ({ cls := "PolicyCompiler$Relation", name := "firstUnlike", desc := "(LPolicyCompiler$Relation;)I" } : MethodName) ({ cls := "PolicyCompiler$Relation", name := "firstUnlike", desc := "(LPolicyCompiler$Relation;)I" } : MethodName)) ∈ lw_tbl := List.mem_of_getElem? (i := 838) (by decide +kernel)
set_option maxRecDepth 20000 in
theorem mw_736 : (Cond.code ({ cls := "PolicyCompiler$Relation", name := "firstUnlike", desc := "(LPolicyCompiler$Relation;)I" } : MethodName) prog_8_method_9_code (3 : Nat) (Option.some FieldType.int)) ∈ lw_tbl := List.mem_of_getElem? (i := 839) rfl
set_option maxRecDepth 20000 in
theorem mw_737 : (Cond.methodLink "PolicyCompilerLaw" (76 : Nat) ({ cls := "PolicyCompiler", name := "difference", desc := "(II)I" } : MethodName)) ∈ lw_tbl := List.mem_of_getElem? (i := 840) (by decide +kernel)
set_option maxRecDepth 20000 in
theorem mw_738 : (Cond.instanceMethod ({ cls := "PolicyCompiler", name := "difference", desc := "(II)I" } : MethodName)) ∈ lw_tbl := List.mem_of_getElem? (i := 841) (by decide +kernel)
set_option maxRecDepth 20000 in
theorem mw_739 : (Cond.selects "PolicyCompiler" ({ cls := "PolicyCompiler", name := "difference", desc := "(II)I" } : MethodName) ({ cls := "PolicyCompiler", name := "difference", desc := "(II)I" } : MethodName)) ∈ lw_tbl := List.mem_of_getElem? (i := 842) (by decide +kernel)
set_option maxRecDepth 20000 in
theorem mw_740 : (Cond.code ({ cls := "PolicyCompiler", name := "difference", desc := "(II)I" } : MethodName) prog_1_method_16_code (6 : Nat) (Option.some FieldType.int)) ∈ lw_tbl := List.mem_of_getElem? (i := 843) rfl
set_option maxRecDepth 20000 in
theorem mw_741 : (Cond.methodLink "PolicyCompilerLaw" (80 : Nat) ({ cls := "PolicyCompiler", name := "diagramSize", desc := "(I)I" } : MethodName)) ∈ lw_tbl := List.mem_of_getElem? (i := 844) (by decide +kernel)
set_option maxRecDepth 20000 in
theorem mw_742 : (Cond.instanceMethod ({ cls := "PolicyCompiler", name := "diagramSize", desc := "(I)I" } : MethodName)) ∈ lw_tbl := List.mem_of_getElem? (i := 845) (by decide +kernel)
set_option maxRecDepth 20000 in
theorem mw_743 : (Cond.selects "PolicyCompiler" ({ cls := "PolicyCompiler", name := "diagramSize", desc := "(I)I" } : MethodName) ({ cls := "PolicyCompiler", name := "diagramSize", desc := "(I)I" } : MethodName)) ∈ lw_tbl := List.mem_of_getElem? (i := 846) (by decide +kernel)
set_option maxRecDepth 20000 in
theorem mw_744 : (Cond.code ({ cls := "PolicyCompiler", name := "diagramSize", desc := "(I)I" } : MethodName) prog_1_method_17_code (2 : Nat) (Option.some FieldType.int)) ∈ lw_tbl := List.mem_of_getElem? (i := 847) rfl
set_option maxRecDepth 20000 in
theorem mw_745 : (Cond.methodLink "PolicyCompiler" (154 : Nat) ({ cls := "PolicyCompiler$Slot", name := "diagram", desc := "()LPolicyCompiler$Diagram;" } : MethodName)) ∈ lw_tbl := List.mem_of_getElem? (i := 848) (by decide +kernel)
set_option maxRecDepth 20000 in
theorem mw_746 : (Cond.instanceMethod ({ cls := "PolicyCompiler$Slot", name := "diagram", desc := "()LPolicyCompiler$Diagram;" } : MethodName)) ∈ lw_tbl := List.mem_of_getElem? (i := 849) (by decide +kernel)
set_option maxRecDepth 20000 in
theorem mw_747 : (Cond.selects "PolicyCompiler$Slot" ({ cls := "PolicyCompiler$Slot", name := "diagram", desc := "()LPolicyCompiler$Diagram;" } : MethodName) ({ cls := "PolicyCompiler$Slot", name := "diagram", desc := "()LPolicyCompiler$Diagram;" } : MethodName)) ∈ lw_tbl := List.mem_of_getElem? (i := 850) (by decide +kernel)
set_option maxRecDepth 20000 in
theorem mw_748 : (Cond.code ({ cls := "PolicyCompiler$Slot", name := "diagram", desc := "()LPolicyCompiler$Diagram;" } : MethodName) prog_9_method_7_code (1 : Nat) (Option.some (FieldType.object "PolicyCompiler$Diagram"))) ∈ lw_tbl := List.mem_of_getElem? (i := 851) rfl
set_option maxRecDepth 20000 in
theorem mw_749 : (Cond.methodLink "PolicyCompiler" (158 : Nat) ({ cls := "PolicyCompiler$Diagram", name := "nodeTotal", desc := "()I" } : MethodName)) ∈ lw_tbl := List.mem_of_getElem? (i := 852) (by decide +kernel)
set_option maxRecDepth 20000 in
theorem mw_750 : (Cond.instanceMethod ({ cls := "PolicyCompiler$Diagram", name := "nodeTotal", desc := "()I" } : MethodName)) ∈ lw_tbl := List.mem_of_getElem? (i := 853) (by decide +kernel)
set_option maxRecDepth 20000 in
theorem mw_751 : (Cond.selects "PolicyCompiler$Diagram" ({ cls := "PolicyCompiler$Diagram", name := "nodeTotal", desc := "()I" } : MethodName) ({ cls := "PolicyCompiler$Diagram", name := "nodeTotal", desc := "()I" } : MethodName)) ∈ lw_tbl := List.mem_of_getElem? (i := 854) (by decide +kernel)
set_option maxRecDepth 20000 in
theorem mw_752 : (Cond.code ({ cls := "PolicyCompiler$Diagram", name := "nodeTotal", desc := "()I" } : MethodName) prog_2_method_2_code (1 : Nat) (Option.some FieldType.int)) ∈ lw_tbl := List.mem_of_getElem? (i := 855) rfl
set_option maxRecDepth 20000 in
theorem mw_753 : (Cond.methodLink "PolicyCompilerLaw" (84 : Nat) ({ cls := "PolicyCompiler", name := "leaves", desc := "(I)I" } : MethodName)) ∈ lw_tbl := List.mem_of_getElem? (i := 856) (by decide +kernel)
set_option maxRecDepth 20000 in
theorem mw_754 : (Cond.instanceMethod ({ cls := "PolicyCompiler", name := "leaves", desc := "(I)I" } : MethodName)) ∈ lw_tbl := List.mem_of_getElem? (i := 857) (by decide +kernel)
set_option maxRecDepth 20000 in
theorem mw_755 : (Cond.selects "PolicyCompiler" ({ cls := "PolicyCompiler", name := "leaves", desc := "(I)I" } : MethodName) ({ cls := "PolicyCompiler", name := "leaves", desc := "(I)I" } : MethodName)) ∈ lw_tbl := List.mem_of_getElem? (i := 858) (by decide +kernel)
set_option maxRecDepth 20000 in
theorem mw_756 : (Cond.code ({ cls := "PolicyCompiler", name := "leaves", desc := "(I)I" } : MethodName) prog_1_method_18_code (2 : Nat) (Option.some FieldType.int)) ∈ lw_tbl := List.mem_of_getElem? (i := 859) rfl
set_option maxRecDepth 20000 in
theorem mw_757 : (Cond.methodLink "PolicyCompiler" (163 : Nat) ({ cls := "PolicyCompiler$Diagram", name := "leafTotal", desc := "()I" } : MethodName)) ∈ lw_tbl := List.mem_of_getElem? (i := 860) (by decide +kernel)
set_option maxRecDepth 20000 in
theorem mw_758 : (Cond.instanceMethod ({ cls := "PolicyCompiler$Diagram", name := "leafTotal", desc := "()I" } : MethodName)) ∈ lw_tbl := List.mem_of_getElem? (i := 861) (by decide +kernel)
set_option maxRecDepth 20000 in
theorem mw_759 : (Cond.selects "PolicyCompiler$Diagram" ({ cls := "PolicyCompiler$Diagram", name := "leafTotal", desc := "()I" } : MethodName) ({ cls := "PolicyCompiler$Diagram", name := "leafTotal", desc := "()I" } : MethodName)) ∈ lw_tbl := List.mem_of_getElem? (i := 862) (by decide +kernel)
set_option maxRecDepth 20000 in
theorem mw_760 : (Cond.code ({ cls := "PolicyCompiler$Diagram", name := "leafTotal", desc := "()I" } : MethodName) prog_2_method_3_code (1 : Nat) (Option.some FieldType.int)) ∈ lw_tbl := List.mem_of_getElem? (i := 863) rfl
set_option maxRecDepth 20000 in
theorem mw_761 : (Cond.methodLink "PolicyCompilerLaw" (88 : Nat) ({ cls := "PolicyCompiler", name := "diagramDepth", desc := "(I)I" } : MethodName)) ∈ lw_tbl := List.mem_of_getElem? (i := 864) (by decide +kernel)
set_option maxRecDepth 20000 in
theorem mw_762 : (Cond.instanceMethod ({ cls := "PolicyCompiler", name := "diagramDepth", desc := "(I)I" } : MethodName)) ∈ lw_tbl := List.mem_of_getElem? (i := 865) (by decide +kernel)
set_option maxRecDepth 20000 in
theorem mw_763 : (Cond.selects "PolicyCompiler" ({ cls := "PolicyCompiler", name := "diagramDepth", desc := "(I)I" } : MethodName) ({ cls := "PolicyCompiler", name := "diagramDepth", desc := "(I)I" } : MethodName)) ∈ lw_tbl := List.mem_of_getElem? (i := 866) (by decide +kernel)
set_option maxRecDepth 20000 in
theorem mw_764 : (Cond.code ({ cls := "PolicyCompiler", name := "diagramDepth", desc := "(I)I" } : MethodName) prog_1_method_19_code (2 : Nat) (Option.some FieldType.int)) ∈ lw_tbl := List.mem_of_getElem? (i := 867) rfl
set_option maxRecDepth 20000 in
theorem mw_765 : (Cond.methodLink "PolicyCompiler" (166 : Nat) ({ cls := "PolicyCompiler$Diagram", name := "longestWay", desc := "()I" } : MethodName)) ∈ lw_tbl := List.mem_of_getElem? (i := 868) (by decide +kernel)
set_option maxRecDepth 20000 in
theorem mw_766 : (Cond.instanceMethod ({ cls := "PolicyCompiler$Diagram", name := "longestWay", desc := "()I" } : MethodName)) ∈ lw_tbl := List.mem_of_getElem? (i := 869) (by decide +kernel)
set_option maxRecDepth 20000 in
theorem mw_767 : (Cond.selects "PolicyCompiler$Diagram" ({ cls := "PolicyCompiler$Diagram", name := "longestWay", desc := "()I" } : MethodName) ({ cls := "PolicyCompiler$Diagram", name := "longestWay", desc := "()I" } : MethodName)) ∈ lw_tbl := List.mem_of_getElem? (i := 870) (by decide +kernel)
set_option maxRecDepth 20000 in
theorem mw_768 : (Cond.code ({ cls := "PolicyCompiler$Diagram", name := "longestWay", desc := "()I" } : MethodName) prog_2_method_4_code (1 : Nat) (Option.some FieldType.int)) ∈ lw_tbl := List.mem_of_getElem? (i := 871) rfl
set_option maxRecDepth 20000 in
theorem mw_769 : (Cond.methodLink "PolicyCompilerLaw" (92 : Nat) ({ cls := "PolicyCompiler", name := "sharedNodes", desc := "(II)I" } : MethodName)) ∈ lw_tbl := List.mem_of_getElem? (i := 872) (by decide +kernel)
set_option maxRecDepth 20000 in
theorem mw_770 : (Cond.instanceMethod ({ cls := "PolicyCompiler", name := "sharedNodes", desc := "(II)I" } : MethodName)) ∈ lw_tbl := List.mem_of_getElem? (i := 873) (by decide +kernel)
set_option maxRecDepth 20000 in
theorem mw_771 : (Cond.selects "PolicyCompiler" ({ cls := "PolicyCompiler", name := "sharedNodes", desc := "(II)I" } : MethodName) ({ cls := "PolicyCompiler", name := "sharedNodes", desc := "(II)I" } : MethodName)) ∈ lw_tbl := List.mem_of_getElem? (i := 874) (by decide +kernel)
set_option maxRecDepth 20000 in
theorem mw_772 : (Cond.code ({ cls := "PolicyCompiler", name := "sharedNodes", desc := "(II)I" } : MethodName) prog_1_method_20_code (3 : Nat) (Option.some FieldType.int)) ∈ lw_tbl := List.mem_of_getElem? (i := 875) rfl
set_option maxRecDepth 20000 in
theorem mw_773 : (Cond.methodLink "PolicyCompiler" (169 : Nat) ({ cls := "PolicyCompiler$Diagram", name := "twinsIn", desc := "(LPolicyCompiler$Diagram;)I" } : MethodName)) ∈ lw_tbl := List.mem_of_getElem? (i := 876) (by decide +kernel)
set_option maxRecDepth 20000 in
theorem mw_774 : (Cond.instanceMethod ({ cls := "PolicyCompiler$Diagram", name := "twinsIn", desc := "(LPolicyCompiler$Diagram;)I" } : MethodName)) ∈ lw_tbl := List.mem_of_getElem? (i := 877) (by decide +kernel)
set_option maxRecDepth 20000 in
theorem mw_775 : (Cond.selects "PolicyCompiler$Diagram" ({ cls := "PolicyCompiler$Diagram", name := "twinsIn", desc := "(LPolicyCompiler$Diagram;)I" } : MethodName) ({ cls := "PolicyCompiler$Diagram", name := "twinsIn", desc := "(LPolicyCompiler$Diagram;)I" } : MethodName)) ∈ lw_tbl := List.mem_of_getElem? (i := 878) (by decide +kernel)
set_option maxRecDepth 20000 in
theorem mw_776 : (Cond.code ({ cls := "PolicyCompiler$Diagram", name := "twinsIn", desc := "(LPolicyCompiler$Diagram;)I" } : MethodName) prog_2_method_19_code (4 : Nat) (Option.some FieldType.int)) ∈ lw_tbl := List.mem_of_getElem? (i := 879) rfl
set_option maxRecDepth 20000 in
theorem mw_777 : (Cond.methodLink "PolicyCompiler$Diagram" (99 : Nat) ({ cls := "PolicyCompiler$Diagram", name := "twinOf", desc := "(ILPolicyCompiler$Diagram;)I" } : MethodName)) ∈ lw_tbl := List.mem_of_getElem? (i := 880) (by decide +kernel)
set_option maxRecDepth 20000 in
theorem mw_779 : (Cond.instanceMethod ({ cls := "PolicyCompiler$Diagram", name := "twinOf", desc := "(ILPolicyCompiler$Diagram;)I" } : MethodName)) ∈ lw_tbl := List.mem_of_getElem? (i := 882) (by decide +kernel)
set_option maxRecDepth 20000 in
theorem mw_780 : (Cond.code ({ cls := "PolicyCompiler$Diagram", name := "twinOf", desc := "(ILPolicyCompiler$Diagram;)I" } : MethodName) prog_2_method_20_code (3 : Nat) (Option.some FieldType.int)) ∈ lw_tbl := List.mem_of_getElem? (i := 883) rfl
set_option maxRecDepth 20000 in
theorem mw_781 : (Cond.methodLink "PolicyCompiler$Diagram" (103 : Nat) ({ cls := "PolicyCompiler$Diagram", name := "fieldOf", desc := "(I)I" } : MethodName)) ∈ lw_tbl := List.mem_of_getElem? (i := 884) (by decide +kernel)
set_option maxRecDepth 20000 in
theorem mw_782 : (Cond.methodLink "PolicyCompiler$Diagram" (106 : Nat) ({ cls := "PolicyCompiler$Diagram", name := "twinOfChild", desc := "(II)I" } : MethodName)) ∈ lw_tbl := List.mem_of_getElem? (i := 885) (by decide +kernel)
set_option maxRecDepth 20000 in
theorem mw_784 : (Cond.instanceMethod ({ cls := "PolicyCompiler$Diagram", name := "twinOfChild", desc := "(II)I" } : MethodName)) ∈ lw_tbl := List.mem_of_getElem? (i := 887) (by decide +kernel)
set_option maxRecDepth 20000 in
theorem mw_785 : (Cond.code ({ cls := "PolicyCompiler$Diagram", name := "twinOfChild", desc := "(II)I" } : MethodName) prog_2_method_21_code (4 : Nat) (Option.some FieldType.int)) ∈ lw_tbl := List.mem_of_getElem? (i := 888) rfl
set_option maxRecDepth 20000 in
theorem mw_786 : (Cond.methodLink "PolicyCompilerLaw" (96 : Nat) ({ cls := "PolicyCompiler", name := "rows", desc := "(I)I" } : MethodName)) ∈ lw_tbl := List.mem_of_getElem? (i := 889) (by decide +kernel)
set_option maxRecDepth 20000 in
theorem mw_787 : (Cond.instanceMethod ({ cls := "PolicyCompiler", name := "rows", desc := "(I)I" } : MethodName)) ∈ lw_tbl := List.mem_of_getElem? (i := 890) (by decide +kernel)
set_option maxRecDepth 20000 in
theorem mw_788 : (Cond.selects "PolicyCompiler" ({ cls := "PolicyCompiler", name := "rows", desc := "(I)I" } : MethodName) ({ cls := "PolicyCompiler", name := "rows", desc := "(I)I" } : MethodName)) ∈ lw_tbl := List.mem_of_getElem? (i := 891) (by decide +kernel)
set_option maxRecDepth 20000 in
theorem mw_789 : (Cond.code ({ cls := "PolicyCompiler", name := "rows", desc := "(I)I" } : MethodName) prog_1_method_21_code (2 : Nat) (Option.some FieldType.int)) ∈ lw_tbl := List.mem_of_getElem? (i := 892) rfl
set_option maxRecDepth 20000 in
theorem mw_790 : (Cond.methodLink "PolicyCompiler" (173 : Nat) ({ cls := "PolicyCompiler$Slot", name := "table", desc := "()LPolicyCompiler$Table;" } : MethodName)) ∈ lw_tbl := List.mem_of_getElem? (i := 893) (by decide +kernel)
set_option maxRecDepth 20000 in
theorem mw_791 : (Cond.instanceMethod ({ cls := "PolicyCompiler$Slot", name := "table", desc := "()LPolicyCompiler$Table;" } : MethodName)) ∈ lw_tbl := List.mem_of_getElem? (i := 894) (by decide +kernel)
set_option maxRecDepth 20000 in
theorem mw_792 : (Cond.selects "PolicyCompiler$Slot" ({ cls := "PolicyCompiler$Slot", name := "table", desc := "()LPolicyCompiler$Table;" } : MethodName) ({ cls := "PolicyCompiler$Slot", name := "table", desc := "()LPolicyCompiler$Table;" } : MethodName)) ∈ lw_tbl := List.mem_of_getElem? (i := 895) (by decide +kernel)
set_option maxRecDepth 20000 in
theorem mw_793 : (Cond.code ({ cls := "PolicyCompiler$Slot", name := "table", desc := "()LPolicyCompiler$Table;" } : MethodName) prog_9_method_8_code (1 : Nat) (Option.some (FieldType.object "PolicyCompiler$Table"))) ∈ lw_tbl := List.mem_of_getElem? (i := 896) rfl
set_option maxRecDepth 20000 in
theorem mw_794 : (Cond.methodLink "PolicyCompiler" (177 : Nat) ({ cls := "PolicyCompiler$Table", name := "rowTotal", desc := "()I" } : MethodName)) ∈ lw_tbl := List.mem_of_getElem? (i := 897) (by decide +kernel)
set_option maxRecDepth 20000 in
theorem mw_795 : (Cond.instanceMethod ({ cls := "PolicyCompiler$Table", name := "rowTotal", desc := "()I" } : MethodName)) ∈ lw_tbl := List.mem_of_getElem? (i := 898) (by decide +kernel)
set_option maxRecDepth 20000 in
theorem mw_796 : (Cond.selects "PolicyCompiler$Table" ({ cls := "PolicyCompiler$Table", name := "rowTotal", desc := "()I" } : MethodName) ({ cls := "PolicyCompiler$Table", name := "rowTotal", desc := "()I" } : MethodName)) ∈ lw_tbl := List.mem_of_getElem? (i := 899) (by decide +kernel)
set_option maxRecDepth 20000 in
theorem mw_797 : (Cond.code ({ cls := "PolicyCompiler$Table", name := "rowTotal", desc := "()I" } : MethodName) prog_10_method_2_code (1 : Nat) (Option.some FieldType.int)) ∈ lw_tbl := List.mem_of_getElem? (i := 900) rfl
set_option maxRecDepth 20000 in
theorem mw_798 : (Cond.methodLink "PolicyCompilerLaw" (100 : Nat) ({ cls := "PolicyCompiler", name := "match", desc := "(III)I" } : MethodName)) ∈ lw_tbl := List.mem_of_getElem? (i := 901) (by decide +kernel)
set_option maxRecDepth 20000 in
theorem mw_799 : (Cond.instanceMethod ({ cls := "PolicyCompiler", name := "match", desc := "(III)I" } : MethodName)) ∈ lw_tbl := List.mem_of_getElem? (i := 902) (by decide +kernel)
set_option maxRecDepth 20000 in
theorem mw_800 : (Cond.selects "PolicyCompiler" ({ cls := "PolicyCompiler", name := "match", desc := "(III)I" } : MethodName) ({ cls := "PolicyCompiler", name := "match", desc := "(III)I" } : MethodName)) ∈ lw_tbl := List.mem_of_getElem? (i := 903) (by decide +kernel)
set_option maxRecDepth 20000 in
theorem mw_801 : (Cond.code ({ cls := "PolicyCompiler", name := "match", desc := "(III)I" } : MethodName) prog_1_method_22_code (5 : Nat) (Option.some FieldType.int)) ∈ lw_tbl := List.mem_of_getElem? (i := 904) rfl
set_option maxRecDepth 20000 in
theorem mw_802 : (Cond.methodLink "PolicyCompiler" (182 : Nat) ({ cls := "PolicyCompiler$Table", name := "hasRow", desc := "(I)Z" } : MethodName)) ∈ lw_tbl := List.mem_of_getElem? (i := 905) (by decide +kernel)
set_option maxRecDepth 20000 in
theorem mw_803 : (Cond.instanceMethod ({ cls := "PolicyCompiler$Table", name := "hasRow", desc := "(I)Z" } : MethodName)) ∈ lw_tbl := List.mem_of_getElem? (i := 906) (by decide +kernel)
set_option maxRecDepth 20000 in
theorem mw_804 : (Cond.selects "PolicyCompiler$Table" ({ cls := "PolicyCompiler$Table", name := "hasRow", desc := "(I)Z" } : MethodName) ({ cls := "PolicyCompiler$Table", name := "hasRow", desc := "(I)Z" } : MethodName)) ∈ lw_tbl := List.mem_of_getElem? (i := 907) (by decide +kernel)
set_option maxRecDepth 20000 in
theorem mw_805 : (Cond.code ({ cls := "PolicyCompiler$Table", name := "hasRow", desc := "(I)Z" } : MethodName) prog_10_method_3_code (2 : Nat) (Option.some FieldType.boolean)) ∈ lw_tbl := List.mem_of_getElem? (i := 908) rfl
set_option maxRecDepth 20000 in
theorem mw_806 : (Cond.methodLink "PolicyCompiler" (185 : Nat) ({ cls := "PolicyCompiler$Table", name := "demandsOf", desc := "(I)I" } : MethodName)) ∈ lw_tbl := List.mem_of_getElem? (i := 909) (by decide +kernel)
set_option maxRecDepth 20000 in
theorem mw_807 : (Cond.instanceMethod ({ cls := "PolicyCompiler$Table", name := "demandsOf", desc := "(I)I" } : MethodName)) ∈ lw_tbl := List.mem_of_getElem? (i := 910) (by decide +kernel)
set_option maxRecDepth 20000 in
theorem mw_808 : (Cond.selects "PolicyCompiler$Table" ({ cls := "PolicyCompiler$Table", name := "demandsOf", desc := "(I)I" } : MethodName) ({ cls := "PolicyCompiler$Table", name := "demandsOf", desc := "(I)I" } : MethodName)) ∈ lw_tbl := List.mem_of_getElem? (i := 911) (by decide +kernel)
set_option maxRecDepth 20000 in
theorem mw_809 : (Cond.code ({ cls := "PolicyCompiler$Table", name := "demandsOf", desc := "(I)I" } : MethodName) prog_10_method_4_code (2 : Nat) (Option.some FieldType.int)) ∈ lw_tbl := List.mem_of_getElem? (i := 912) rfl
set_option maxRecDepth 20000 in
theorem mw_810 : (Cond.methodLink "PolicyCompiler" (188 : Nat) ({ cls := "PolicyCompiler", name := "entryOf", desc := "(II)I" } : MethodName)) ∈ lw_tbl := List.mem_of_getElem? (i := 913) (by decide +kernel)
set_option maxRecDepth 20000 in
theorem mw_811 : (Cond.static ({ cls := "PolicyCompiler", name := "entryOf", desc := "(II)I" } : MethodName)) ∈ lw_tbl := List.mem_of_getElem? (i := 914) (by decide +kernel)
set_option maxRecDepth 20000 in
theorem mw_812 : (Cond.code ({ cls := "PolicyCompiler", name := "entryOf", desc := "(II)I" } : MethodName) prog_1_method_45_code (3 : Nat) (Option.some FieldType.int)) ∈ lw_tbl := List.mem_of_getElem? (i := 915) rfl
set_option maxRecDepth 20000 in
theorem mw_813 : (Cond.methodLink "PolicyCompilerLaw" (104 : Nat) ({ cls := "PolicyCompiler", name := "action", desc := "(III)I" } : MethodName)) ∈ lw_tbl := List.mem_of_getElem? (i := 916) (by decide +kernel)
set_option maxRecDepth 20000 in
theorem mw_814 : (Cond.instanceMethod ({ cls := "PolicyCompiler", name := "action", desc := "(III)I" } : MethodName)) ∈ lw_tbl := List.mem_of_getElem? (i := 917) (by decide +kernel)
set_option maxRecDepth 20000 in
theorem mw_815 : (Cond.selects "PolicyCompiler" ({ cls := "PolicyCompiler", name := "action", desc := "(III)I" } : MethodName) ({ cls := "PolicyCompiler", name := "action", desc := "(III)I" } : MethodName)) ∈ lw_tbl := List.mem_of_getElem? (i := 918) (by decide +kernel)
set_option maxRecDepth 20000 in
theorem mw_816 : (Cond.code ({ cls := "PolicyCompiler", name := "action", desc := "(III)I" } : MethodName) prog_1_method_23_code (7 : Nat) (Option.some FieldType.int)) ∈ lw_tbl := List.mem_of_getElem? (i := 919) rfl
set_option maxRecDepth 20000 in
theorem mw_817 : (Cond.methodLink "PolicyCompiler" (192 : Nat) ({ cls := "PolicyCompiler$Table", name := "leafOf", desc := "(I)I" } : MethodName)) ∈ lw_tbl := List.mem_of_getElem? (i := 920) (by decide +kernel)
set_option maxRecDepth 20000 in
theorem mw_818 : (Cond.instanceMethod ({ cls := "PolicyCompiler$Table", name := "leafOf", desc := "(I)I" } : MethodName)) ∈ lw_tbl := List.mem_of_getElem? (i := 921) (by decide +kernel)
set_option maxRecDepth 20000 in
theorem mw_819 : (Cond.selects "PolicyCompiler$Table" ({ cls := "PolicyCompiler$Table", name := "leafOf", desc := "(I)I" } : MethodName) ({ cls := "PolicyCompiler$Table", name := "leafOf", desc := "(I)I" } : MethodName)) ∈ lw_tbl := List.mem_of_getElem? (i := 922) (by decide +kernel)
set_option maxRecDepth 20000 in
theorem mw_820 : (Cond.code ({ cls := "PolicyCompiler$Table", name := "leafOf", desc := "(I)I" } : MethodName) prog_10_method_5_code (2 : Nat) (Option.some FieldType.int)) ∈ lw_tbl := List.mem_of_getElem? (i := 923) rfl
set_option maxRecDepth 20000 in
theorem mw_821 : (Cond.methodLink "PolicyCompiler" (195 : Nat) ({ cls := "PolicyCompiler$Diagram", name := "actionTotal", desc := "(I)I" } : MethodName)) ∈ lw_tbl := List.mem_of_getElem? (i := 924) (by decide +kernel)
set_option maxRecDepth 20000 in
theorem mw_822 : (Cond.methodLink "PolicyCompiler" (198 : Nat) ({ cls := "PolicyCompiler$Diagram", name := "actionAt", desc := "(II)I" } : MethodName)) ∈ lw_tbl := List.mem_of_getElem? (i := 925) (by decide +kernel)
set_option maxRecDepth 20000 in
theorem mw_823 : (Cond.instanceMethod ({ cls := "PolicyCompiler$Diagram", name := "actionAt", desc := "(II)I" } : MethodName)) ∈ lw_tbl := List.mem_of_getElem? (i := 926) (by decide +kernel)
set_option maxRecDepth 20000 in
theorem mw_824 : (Cond.selects "PolicyCompiler$Diagram" ({ cls := "PolicyCompiler$Diagram", name := "actionAt", desc := "(II)I" } : MethodName) ({ cls := "PolicyCompiler$Diagram", name := "actionAt", desc := "(II)I" } : MethodName)) ∈ lw_tbl := List.mem_of_getElem? (i := 927) (by decide +kernel)
set_option maxRecDepth 20000 in
theorem mw_825 : (Cond.code ({ cls := "PolicyCompiler$Diagram", name := "actionAt", desc := "(II)I" } : MethodName) prog_2_method_24_code (5 : Nat) (Option.some FieldType.int)) ∈ lw_tbl := List.mem_of_getElem? (i := 928) rfl
set_option maxRecDepth 20000 in
theorem mw_826 : (Cond.methodLink "PolicyCompiler$Diagram" (113 : Nat) ({ cls := "PolicyCompiler$Diagram", name := "hasAction", desc := "(II)Z" } : MethodName)) ∈ lw_tbl := List.mem_of_getElem? (i := 929) (by decide +kernel)
set_option maxRecDepth 20000 in
theorem mw_827 : (Cond.instanceMethod ({ cls := "PolicyCompiler$Diagram", name := "hasAction", desc := "(II)Z" } : MethodName)) ∈ lw_tbl := List.mem_of_getElem? (i := 930) (by decide +kernel)
set_option maxRecDepth 20000 in
theorem mw_828 : (Cond.selects "PolicyCompiler$Diagram" ({ cls := "PolicyCompiler$Diagram", name := "hasAction", desc := "(II)Z" } : MethodName) ({ cls := "PolicyCompiler$Diagram", name := "hasAction", desc := "(II)Z" } : MethodName)) ∈ lw_tbl := List.mem_of_getElem? (i := 931) (by decide +kernel)
set_option maxRecDepth 20000 in
theorem mw_829 : (Cond.code ({ cls := "PolicyCompiler$Diagram", name := "hasAction", desc := "(II)Z" } : MethodName) prog_2_method_22_code (3 : Nat) (Option.some FieldType.boolean)) ∈ lw_tbl := List.mem_of_getElem? (i := 932) rfl
set_option maxRecDepth 20000 in
theorem mw_830 : (Cond.methodLinkNest "PolicyCompiler$Diagram" (109 : Nat) ({ cls := "PolicyCompiler", name := "holds", desc := "(JI)Z" } : MethodName) "PolicyCompiler") ∈ lw_tbl := List.mem_of_getElem? (i := 933) (by decide +kernel)
set_option maxRecDepth 20000 in
theorem mw_831 : (Cond.methodLink "PolicyCompilerLaw" (108 : Nat) ({ cls := "PolicyCompiler", name := "hit", desc := "(II)I" } : MethodName)) ∈ lw_tbl := List.mem_of_getElem? (i := 934) (by decide +kernel)
set_option maxRecDepth 20000 in
theorem mw_832 : (Cond.instanceMethod ({ cls := "PolicyCompiler", name := "hit", desc := "(II)I" } : MethodName)) ∈ lw_tbl := List.mem_of_getElem? (i := 935) (by decide +kernel)
set_option maxRecDepth 20000 in
theorem mw_833 : (Cond.selects "PolicyCompiler" ({ cls := "PolicyCompiler", name := "hit", desc := "(II)I" } : MethodName) ({ cls := "PolicyCompiler", name := "hit", desc := "(II)I" } : MethodName)) ∈ lw_tbl := List.mem_of_getElem? (i := 936) (by decide +kernel)
set_option maxRecDepth 20000 in
theorem mw_834 : (Cond.code ({ cls := "PolicyCompiler", name := "hit", desc := "(II)I" } : MethodName) prog_1_method_24_code (3 : Nat) (Option.some FieldType.int)) ∈ lw_tbl := List.mem_of_getElem? (i := 937) rfl
set_option maxRecDepth 20000 in
theorem mw_835 : (Cond.methodLink "PolicyCompiler" (201 : Nat) ({ cls := "PolicyCompiler$Table", name := "firstRowFor", desc := "(I)I" } : MethodName)) ∈ lw_tbl := List.mem_of_getElem? (i := 938) (by decide +kernel)
set_option maxRecDepth 20000 in
theorem mw_836 : (Cond.instanceMethod ({ cls := "PolicyCompiler$Table", name := "firstRowFor", desc := "(I)I" } : MethodName)) ∈ lw_tbl := List.mem_of_getElem? (i := 939) (by decide +kernel)
set_option maxRecDepth 20000 in
theorem mw_837 : (Cond.selects "PolicyCompiler$Table" ({ cls := "PolicyCompiler$Table", name := "firstRowFor", desc := "(I)I" } : MethodName) ({ cls := "PolicyCompiler$Table", name := "firstRowFor", desc := "(I)I" } : MethodName)) ∈ lw_tbl := List.mem_of_getElem? (i := 940) (by decide +kernel)
set_option maxRecDepth 20000 in
theorem mw_838 : (Cond.code ({ cls := "PolicyCompiler$Table", name := "firstRowFor", desc := "(I)I" } : MethodName) prog_10_method_9_code (3 : Nat) (Option.some FieldType.int)) ∈ lw_tbl := List.mem_of_getElem? (i := 941) rfl
set_option maxRecDepth 20000 in
theorem mw_839 : (Cond.methodLink "PolicyCompiler$Table" (57 : Nat) ({ cls := "PolicyCompiler$Table", name := "meets", desc := "(II)Z" } : MethodName)) ∈ lw_tbl := List.mem_of_getElem? (i := 942) (by decide +kernel)
set_option maxRecDepth 20000 in
theorem mw_840 : (Cond.static ({ cls := "PolicyCompiler$Table", name := "meets", desc := "(II)Z" } : MethodName)) ∈ lw_tbl := List.mem_of_getElem? (i := 943) (by decide +kernel)
set_option maxRecDepth 20000 in
theorem mw_841 : (Cond.code ({ cls := "PolicyCompiler$Table", name := "meets", desc := "(II)Z" } : MethodName) prog_10_method_10_code (4 : Nat) (Option.some FieldType.boolean)) ∈ lw_tbl := List.mem_of_getElem? (i := 944) rfl
set_option maxRecDepth 20000 in
theorem mw_842 : (Cond.methodLinkNest "PolicyCompiler$Table" (61 : Nat) ({ cls := "PolicyCompiler", name := "entryOf", desc := "(II)I" } : MethodName) "PolicyCompiler") ∈ lw_tbl := List.mem_of_getElem? (i := 945) (by decide +kernel)
set_option maxRecDepth 20000 in
theorem mw_843 : (Cond.methodLinkNest "PolicyCompiler$Table" (64 : Nat) ({ cls := "PolicyCompiler", name := "valueOf", desc := "(II)I" } : MethodName) "PolicyCompiler") ∈ lw_tbl := List.mem_of_getElem? (i := 946) (by decide +kernel)
set_option maxRecDepth 20000 in
theorem mw_844 : (Cond.methodLink "PolicyCompilerLaw" (112 : Nat) ({ cls := "PolicyCompiler", name := "hits", desc := "(II)I" } : MethodName)) ∈ lw_tbl := List.mem_of_getElem? (i := 947) (by decide +kernel)
set_option maxRecDepth 20000 in
theorem mw_845 : (Cond.instanceMethod ({ cls := "PolicyCompiler", name := "hits", desc := "(II)I" } : MethodName)) ∈ lw_tbl := List.mem_of_getElem? (i := 948) (by decide +kernel)
set_option maxRecDepth 20000 in
theorem mw_846 : (Cond.selects "PolicyCompiler" ({ cls := "PolicyCompiler", name := "hits", desc := "(II)I" } : MethodName) ({ cls := "PolicyCompiler", name := "hits", desc := "(II)I" } : MethodName)) ∈ lw_tbl := List.mem_of_getElem? (i := 949) (by decide +kernel)
set_option maxRecDepth 20000 in
theorem mw_847 : (Cond.code ({ cls := "PolicyCompiler", name := "hits", desc := "(II)I" } : MethodName) prog_1_method_25_code (6 : Nat) (Option.some FieldType.int)) ∈ lw_tbl := List.mem_of_getElem? (i := 950) rfl
set_option maxRecDepth 20000 in
theorem mw_848 : (Cond.methodLink "PolicyCompilerLaw" (116 : Nat) ({ cls := "PolicyCompiler", name := "undo", desc := "()I" } : MethodName)) ∈ lw_tbl := List.mem_of_getElem? (i := 951) (by decide +kernel)
set_option maxRecDepth 20000 in
theorem mw_849 : (Cond.instanceMethod ({ cls := "PolicyCompiler", name := "undo", desc := "()I" } : MethodName)) ∈ lw_tbl := List.mem_of_getElem? (i := 952) (by decide +kernel)
set_option maxRecDepth 20000 in
theorem mw_850 : (Cond.selects "PolicyCompiler" ({ cls := "PolicyCompiler", name := "undo", desc := "()I" } : MethodName) ({ cls := "PolicyCompiler", name := "undo", desc := "()I" } : MethodName)) ∈ lw_tbl := List.mem_of_getElem? (i := 953) (by decide +kernel)
set_option maxRecDepth 20000 in
theorem mw_851 : (Cond.code ({ cls := "PolicyCompiler", name := "undo", desc := "()I" } : MethodName) prog_1_method_26_code (1 : Nat) (Option.some FieldType.int)) ∈ lw_tbl := List.mem_of_getElem? (i := 954) rfl
set_option maxRecDepth 20000 in
theorem mw_852 : (Cond.methodLink "PolicyCompiler" (204 : Nat) ({ cls := "PolicyCompiler$History", name := "savedCount", desc := "()I" } : MethodName)) ∈ lw_tbl := List.mem_of_getElem? (i := 955) (by decide +kernel)
set_option maxRecDepth 20000 in
theorem mw_853 : (Cond.instanceMethod ({ cls := "PolicyCompiler$History", name := "savedCount", desc := "()I" } : MethodName)) ∈ lw_tbl := List.mem_of_getElem? (i := 956) (by decide +kernel)
set_option maxRecDepth 20000 in
theorem mw_854 : (Cond.selects "PolicyCompiler$History" ({ cls := "PolicyCompiler$History", name := "savedCount", desc := "()I" } : MethodName) ({ cls := "PolicyCompiler$History", name := "savedCount", desc := "()I" } : MethodName)) ∈ lw_tbl := List.mem_of_getElem? (i := 957) (by decide +kernel)
set_option maxRecDepth 20000 in
theorem mw_855 : (Cond.code ({ cls := "PolicyCompiler$History", name := "savedCount", desc := "()I" } : MethodName) prog_4_method_2_code (1 : Nat) (Option.some FieldType.int)) ∈ lw_tbl := List.mem_of_getElem? (i := 958) rfl
set_option maxRecDepth 20000 in
theorem mw_856 : (Cond.methodLink "PolicyCompiler" (207 : Nat) ({ cls := "PolicyCompiler$History", name := "newestSlot", desc := "()I" } : MethodName)) ∈ lw_tbl := List.mem_of_getElem? (i := 959) (by decide +kernel)
set_option maxRecDepth 20000 in
theorem mw_857 : (Cond.instanceMethod ({ cls := "PolicyCompiler$History", name := "newestSlot", desc := "()I" } : MethodName)) ∈ lw_tbl := List.mem_of_getElem? (i := 960) (by decide +kernel)
set_option maxRecDepth 20000 in
theorem mw_858 : (Cond.selects "PolicyCompiler$History" ({ cls := "PolicyCompiler$History", name := "newestSlot", desc := "()I" } : MethodName) ({ cls := "PolicyCompiler$History", name := "newestSlot", desc := "()I" } : MethodName)) ∈ lw_tbl := List.mem_of_getElem? (i := 961) (by decide +kernel)
set_option maxRecDepth 20000 in
theorem mw_859 : (Cond.code ({ cls := "PolicyCompiler$History", name := "newestSlot", desc := "()I" } : MethodName) prog_4_method_5_code (1 : Nat) (Option.some FieldType.int)) ∈ lw_tbl := List.mem_of_getElem? (i := 962) rfl
set_option maxRecDepth 20000 in
theorem mw_860 : (Cond.methodLink "PolicyCompiler" (210 : Nat) ({ cls := "PolicyCompiler$History", name := "newestPolicy", desc := "()LPolicyCompiler$Policy;" } : MethodName)) ∈ lw_tbl := List.mem_of_getElem? (i := 963) (by decide +kernel)
set_option maxRecDepth 20000 in
theorem mw_861 : (Cond.instanceMethod ({ cls := "PolicyCompiler$History", name := "newestPolicy", desc := "()LPolicyCompiler$Policy;" } : MethodName)) ∈ lw_tbl := List.mem_of_getElem? (i := 964) (by decide +kernel)
set_option maxRecDepth 20000 in
theorem mw_862 : (Cond.selects "PolicyCompiler$History" ({ cls := "PolicyCompiler$History", name := "newestPolicy", desc := "()LPolicyCompiler$Policy;" } : MethodName) ({ cls := "PolicyCompiler$History", name := "newestPolicy", desc := "()LPolicyCompiler$Policy;" } : MethodName)) ∈ lw_tbl := List.mem_of_getElem? (i := 965) (by decide +kernel)
set_option maxRecDepth 20000 in
theorem mw_863 : (Cond.code ({ cls := "PolicyCompiler$History", name := "newestPolicy", desc := "()LPolicyCompiler$Policy;" } : MethodName) prog_4_method_6_code (1 : Nat) (Option.some (FieldType.object "PolicyCompiler$Policy"))) ∈ lw_tbl := List.mem_of_getElem? (i := 966) rfl
set_option maxRecDepth 20000 in
theorem mw_864 : (Cond.methodLink "PolicyCompiler" (216 : Nat) ({ cls := "PolicyCompiler$History", name := "dropNewest", desc := "()V" } : MethodName)) ∈ lw_tbl := List.mem_of_getElem? (i := 967) (by decide +kernel)
set_option maxRecDepth 20000 in
theorem mw_865 : (Cond.instanceMethod ({ cls := "PolicyCompiler$History", name := "dropNewest", desc := "()V" } : MethodName)) ∈ lw_tbl := List.mem_of_getElem? (i := 968) (by decide +kernel)
set_option maxRecDepth 20000 in
theorem mw_866 : (Cond.selects "PolicyCompiler$History" ({ cls := "PolicyCompiler$History", name := "dropNewest", desc := "()V" } : MethodName) ({ cls := "PolicyCompiler$History", name := "dropNewest", desc := "()V" } : MethodName)) ∈ lw_tbl := List.mem_of_getElem? (i := 969) (by decide +kernel)
set_option maxRecDepth 20000 in
theorem mw_867 : (Cond.code ({ cls := "PolicyCompiler$History", name := "dropNewest", desc := "()V" } : MethodName) prog_4_method_7_code (1 : Nat) (Option.none : Option ClassFile.FieldType)) ∈ lw_tbl := List.mem_of_getElem? (i := 970) rfl
set_option maxRecDepth 20000 in
theorem mw_868 : (Cond.methodLink "PolicyCompilerLaw" (120 : Nat) ({ cls := "PolicyCompiler", name := "errorCount", desc := "(I)I" } : MethodName)) ∈ lw_tbl := List.mem_of_getElem? (i := 971) (by decide +kernel)
set_option maxRecDepth 20000 in
theorem mw_869 : (Cond.instanceMethod ({ cls := "PolicyCompiler", name := "errorCount", desc := "(I)I" } : MethodName)) ∈ lw_tbl := List.mem_of_getElem? (i := 972) (by decide +kernel)
set_option maxRecDepth 20000 in
theorem mw_870 : (Cond.selects "PolicyCompiler" ({ cls := "PolicyCompiler", name := "errorCount", desc := "(I)I" } : MethodName) ({ cls := "PolicyCompiler", name := "errorCount", desc := "(I)I" } : MethodName)) ∈ lw_tbl := List.mem_of_getElem? (i := 973) (by decide +kernel)
set_option maxRecDepth 20000 in
theorem mw_871 : (Cond.code ({ cls := "PolicyCompiler", name := "errorCount", desc := "(I)I" } : MethodName) prog_1_method_27_code (2 : Nat) (Option.some FieldType.int)) ∈ lw_tbl := List.mem_of_getElem? (i := 974) rfl
set_option maxRecDepth 20000 in
theorem mw_872 : (Cond.methodLink "PolicyCompilerLaw" (124 : Nat) ({ cls := "PolicyCompiler", name := "digest", desc := "()J" } : MethodName)) ∈ lw_tbl := List.mem_of_getElem? (i := 975) (by decide +kernel)
set_option maxRecDepth 20000 in
theorem mw_873 : (Cond.instanceMethod ({ cls := "PolicyCompiler", name := "digest", desc := "()J" } : MethodName)) ∈ lw_tbl := List.mem_of_getElem? (i := 976) (by decide +kernel)
set_option maxRecDepth 20000 in
theorem mw_874 : (Cond.selects "PolicyCompiler" ({ cls := "PolicyCompiler", name := "digest", desc := "()J" } : MethodName) ({ cls := "PolicyCompiler", name := "digest", desc := "()J" } : MethodName)) ∈ lw_tbl := List.mem_of_getElem? (i := 977) (by decide +kernel)
set_option maxRecDepth 20000 in
theorem mw_875 : (Cond.code ({ cls := "PolicyCompiler", name := "digest", desc := "()J" } : MethodName) prog_1_method_28_code (5 : Nat) (Option.some FieldType.long)) ∈ lw_tbl := List.mem_of_getElem? (i := 978) rfl
set_option maxRecDepth 20000 in
theorem mw_876 : (Cond.constantLong "PolicyCompiler" (219 : Nat) (2729 : Int64)) ∈ lw_tbl := List.mem_of_getElem? (i := 979) (by decide +kernel)
set_option maxRecDepth 20000 in
theorem mw_877 : (Cond.methodLink "PolicyCompiler" (221 : Nat) ({ cls := "PolicyCompiler", name := "mixed", desc := "(JJ)J" } : MethodName)) ∈ lw_tbl := List.mem_of_getElem? (i := 980) (by decide +kernel)
set_option maxRecDepth 20000 in
theorem mw_878 : (Cond.static ({ cls := "PolicyCompiler", name := "mixed", desc := "(JJ)J" } : MethodName)) ∈ lw_tbl := List.mem_of_getElem? (i := 981) (by decide +kernel)
set_option maxRecDepth 20000 in
theorem mw_879 : (Cond.code ({ cls := "PolicyCompiler", name := "mixed", desc := "(JJ)J" } : MethodName) prog_1_method_29_code (4 : Nat) (Option.some FieldType.long)) ∈ lw_tbl := List.mem_of_getElem? (i := 982) rfl
set_option maxRecDepth 20000 in
theorem mw_880 : (Cond.constantLong "PolicyCompiler" (229 : Nat) (31 : Int64)) ∈ lw_tbl := List.mem_of_getElem? (i := 983) (by decide +kernel)
set_option maxRecDepth 20000 in
theorem mw_881 : (Cond.methodLink "PolicyCompiler" (225 : Nat) ({ cls := "PolicyCompiler", name := "mixedSlot", desc := "(JLPolicyCompiler$Slot;)J" } : MethodName)) ∈ lw_tbl := List.mem_of_getElem? (i := 984) (by decide +kernel)
set_option maxRecDepth 20000 in
theorem mw_882 : (Cond.static ({ cls := "PolicyCompiler", name := "mixedSlot", desc := "(JLPolicyCompiler$Slot;)J" } : MethodName)) ∈ lw_tbl := List.mem_of_getElem? (i := 985) (by decide +kernel)
set_option maxRecDepth 20000 in
theorem mw_883 : (Cond.code ({ cls := "PolicyCompiler", name := "mixedSlot", desc := "(JLPolicyCompiler$Slot;)J" } : MethodName) prog_1_method_30_code (9 : Nat) (Option.some FieldType.long)) ∈ lw_tbl := List.mem_of_getElem? (i := 986) rfl
set_option maxRecDepth 20000 in
theorem mw_884 : (Cond.methodLink "PolicyCompiler" (231 : Nat) ({ cls := "PolicyCompiler", name := "mixedTable", desc := "(JLPolicyCompiler$Table;LPolicyCompiler$Diagram;)J" } : MethodName)) ∈ lw_tbl := List.mem_of_getElem? (i := 987) (by decide +kernel)
set_option maxRecDepth 20000 in
theorem mw_885 : (Cond.static ({ cls := "PolicyCompiler", name := "mixedTable", desc := "(JLPolicyCompiler$Table;LPolicyCompiler$Diagram;)J" } : MethodName)) ∈ lw_tbl := List.mem_of_getElem? (i := 988) (by decide +kernel)
set_option maxRecDepth 20000 in
theorem mw_886 : (Cond.code ({ cls := "PolicyCompiler", name := "mixedTable", desc := "(JLPolicyCompiler$Table;LPolicyCompiler$Diagram;)J" } : MethodName) prog_1_method_31_code (10 : Nat) (Option.some FieldType.long)) ∈ lw_tbl := List.mem_of_getElem? (i := 989) rfl
set_option maxRecDepth 20000 in
theorem mw_887 : (Cond.methodLink "PolicyCompiler" (235 : Nat) ({ cls := "PolicyCompiler$Diagram", name := "hasAction", desc := "(II)Z" } : MethodName)) ∈ lw_tbl := List.mem_of_getElem? (i := 990) (by decide +kernel)
set_option maxRecDepth 20000 in
theorem mw_888 : (Cond.classLink "PolicyCompilerLaw" (10 : Nat) "PolicyCompilerModel") ∈ lw_tbl := List.mem_of_getElem? (i := 991) (by decide +kernel)
set_option maxRecDepth 20000 in
theorem mw_889 : (Cond.instantiable "PolicyCompilerModel" (43 : Nat)) ∈ lw_tbl := List.mem_of_getElem? (i := 992) (by decide +kernel)
set_option maxRecDepth 20000 in
theorem mw_890 : (Cond.methodLink "PolicyCompilerLaw" (12 : Nat) ({ cls := "PolicyCompilerModel", name := "<init>", desc := "()V" } : MethodName)) ∈ lw_tbl := List.mem_of_getElem? (i := 993) (by decide +kernel)
set_option maxRecDepth 20000 in
theorem mw_891 : (Cond.instanceMethod ({ cls := "PolicyCompilerModel", name := "<init>", desc := "()V" } : MethodName)) ∈ lw_tbl := List.mem_of_getElem? (i := 994) (by decide +kernel)
set_option maxRecDepth 20000 in
theorem mw_892 : (Cond.code ({ cls := "PolicyCompilerModel", name := "<init>", desc := "()V" } : MethodName) prog_12_method_1_code (2 : Nat) (Option.none : Option ClassFile.FieldType)) ∈ lw_tbl := List.mem_of_getElem? (i := 995) rfl
set_option maxRecDepth 20000 in
theorem mw_893 : (Cond.methodLink "PolicyCompilerModel" (1 : Nat) ({ cls := "java/lang/Object", name := "<init>", desc := "()V" } : MethodName)) ∈ lw_tbl := List.mem_of_getElem? (i := 996) (by decide +kernel)
set_option maxRecDepth 20000 in
theorem mw_894 : (Cond.fieldLink "PolicyCompilerModel" (7 : Nat) "PolicyCompilerModel" "now" "[I") ∈ lw_tbl := List.mem_of_getElem? (i := 997) (by decide +kernel)
set_option maxRecDepth 20000 in
theorem mw_895 : (Cond.fieldLink "PolicyCompilerModel" (13 : Nat) "PolicyCompilerModel" "past" "[I") ∈ lw_tbl := List.mem_of_getElem? (i := 998) (by decide +kernel)
set_option maxRecDepth 20000 in
theorem mw_896 : (Cond.fieldLink "PolicyCompilerModel" (102 : Nat) "PolicyCompilerModel" "saved" "I") ∈ lw_tbl := List.mem_of_getElem? (i := 999) (by decide +kernel)
set_option maxRecDepth 20000 in
theorem mw_897 : (Cond.fieldLink "PolicyCompilerModel" (16 : Nat) "PolicyCompilerModel" "errors" "[I") ∈ lw_tbl := List.mem_of_getElem? (i := 1000) (by decide +kernel)
set_option maxRecDepth 20000 in
theorem mw_898 : (Cond.fieldLink "PolicyCompilerModel" (19 : Nat) "PolicyCompilerModel" "text" "[I") ∈ lw_tbl := List.mem_of_getElem? (i := 1001) (by decide +kernel)
set_option maxRecDepth 20000 in
theorem mw_899 : (Cond.fieldLink "PolicyCompilerModel" (131 : Nat) "PolicyCompilerModel" "textLength" "I") ∈ lw_tbl := List.mem_of_getElem? (i := 1002) (by decide +kernel)
set_option maxRecDepth 20000 in
theorem mw_900 : (Cond.fieldLink "PolicyCompilerModel" (22 : Nat) "PolicyCompilerModel" "made" "[I") ∈ lw_tbl := List.mem_of_getElem? (i := 1003) (by decide +kernel)
set_option maxRecDepth 20000 in
theorem mw_901 : (Cond.fieldLink "PolicyCompilerModel" (110 : Nat) "PolicyCompilerModel" "madeMany" "I") ∈ lw_tbl := List.mem_of_getElem? (i := 1004) (by decide +kernel)
set_option maxRecDepth 20000 in
theorem mw_902 : (Cond.fieldLink "PolicyCompilerModel" (25 : Nat) "PolicyCompilerModel" "begin" "[I") ∈ lw_tbl := List.mem_of_getElem? (i := 1005) (by decide +kernel)
set_option maxRecDepth 20000 in
theorem mw_903 : (Cond.fieldLink "PolicyCompilerModel" (28 : Nat) "PolicyCompilerModel" "isPure" "[I") ∈ lw_tbl := List.mem_of_getElem? (i := 1006) (by decide +kernel)
set_option maxRecDepth 20000 in
theorem mw_904 : (Cond.fieldLink "PolicyCompilerModel" (113 : Nat) "PolicyCompilerModel" "operands" "I") ∈ lw_tbl := List.mem_of_getElem? (i := 1007) (by decide +kernel)
set_option maxRecDepth 20000 in
theorem mw_905 : (Cond.fieldLink "PolicyCompilerModel" (137 : Nat) "PolicyCompilerModel" "at" "I") ∈ lw_tbl := List.mem_of_getElem? (i := 1008) (by decide +kernel)
set_option maxRecDepth 20000 in
theorem mw_906 : (Cond.fieldLink "PolicyCompilerModel" (31 : Nat) "PolicyCompilerModel" "open" "[I") ∈ lw_tbl := List.mem_of_getElem? (i := 1009) (by decide +kernel)
set_option maxRecDepth 20000 in
theorem mw_907 : (Cond.fieldLink "PolicyCompilerModel" (34 : Nat) "PolicyCompilerModel" "openAt" "[I") ∈ lw_tbl := List.mem_of_getElem? (i := 1010) (by decide +kernel)
set_option maxRecDepth 20000 in
theorem mw_908 : (Cond.fieldLink "PolicyCompilerModel" (134 : Nat) "PolicyCompilerModel" "opens" "I") ∈ lw_tbl := List.mem_of_getElem? (i := 1011) (by decide +kernel)
set_option maxRecDepth 20000 in
theorem mw_909 : (Cond.fieldLink "PolicyCompilerModel" (37 : Nat) "PolicyCompilerModel" "slotPure" "[I") ∈ lw_tbl := List.mem_of_getElem? (i := 1012) (by decide +kernel)
set_option maxRecDepth 20000 in
theorem mw_910 : (Cond.fieldLink "PolicyCompilerModel" (163 : Nat) "PolicyCompilerModel" "stage" "I") ∈ lw_tbl := List.mem_of_getElem? (i := 1013) (by decide +kernel)
set_option maxRecDepth 20000 in
theorem mw_911 : (Cond.fieldLink "PolicyCompilerModel" (40 : Nat) "PolicyCompilerModel" "one" "[I") ∈ lw_tbl := List.mem_of_getElem? (i := 1014) (by decide +kernel)
set_option maxRecDepth 20000 in
theorem mw_912 : (Cond.fieldLink "PolicyCompilerModel" (43 : Nat) "PolicyCompilerModel" "two" "[I") ∈ lw_tbl := List.mem_of_getElem? (i := 1015) (by decide +kernel)
set_option maxRecDepth 20000 in
theorem mw_913 : (Cond.fieldLink "PolicyCompilerModel" (46 : Nat) "PolicyCompilerModel" "three" "[I") ∈ lw_tbl := List.mem_of_getElem? (i := 1016) (by decide +kernel)
set_option maxRecDepth 20000 in
theorem mw_914 : (Cond.fieldLink "PolicyCompilerModel" (49 : Nat) "PolicyCompilerModel" "pile" "[I") ∈ lw_tbl := List.mem_of_getElem? (i := 1017) (by decide +kernel)
set_option maxRecDepth 20000 in
theorem mw_915 : (Cond.fieldLink "PolicyCompilerModel" (188 : Nat) "PolicyCompilerModel" "piled" "I") ∈ lw_tbl := List.mem_of_getElem? (i := 1018) (by decide +kernel)
set_option maxRecDepth 20000 in
theorem mw_916 : (Cond.fieldLink "PolicyCompilerModel" (52 : Nat) "PolicyCompilerModel" "shown" "[I") ∈ lw_tbl := List.mem_of_getElem? (i := 1019) (by decide +kernel)
set_option maxRecDepth 20000 in
theorem mw_917 : (Cond.fieldLink "PolicyCompilerModel" (194 : Nat) "PolicyCompilerModel" "shownLength" "I") ∈ lw_tbl := List.mem_of_getElem? (i := 1020) (by decide +kernel)
set_option maxRecDepth 20000 in
theorem mw_918 : (Cond.fieldLink "PolicyCompilerModel" (55 : Nat) "PolicyCompilerModel" "sets" "[J") ∈ lw_tbl := List.mem_of_getElem? (i := 1021) (by decide +kernel)
set_option maxRecDepth 20000 in
theorem mw_919 : (Cond.fieldLink "PolicyCompilerModel" (213 : Nat) "PolicyCompilerModel" "setMany" "I") ∈ lw_tbl := List.mem_of_getElem? (i := 1022) (by decide +kernel)
set_option maxRecDepth 20000 in
theorem mw_920 : (Cond.fieldLink "PolicyCompilerModel" (59 : Nat) "PolicyCompilerModel" "far" "[I") ∈ lw_tbl := List.mem_of_getElem? (i := 1023) (by decide +kernel)
set_option maxRecDepth 20000 in
theorem mw_921 : (Cond.fieldLink "PolicyCompilerModel" (62 : Nat) "PolicyCompilerModel" "closed" "[J") ∈ lw_tbl := List.mem_of_getElem? (i := 1024) (by decide +kernel)
set_option maxRecDepth 20000 in
theorem mw_922 : (Cond.fieldLink "PolicyCompilerModel" (65 : Nat) "PolicyCompilerModel" "other" "[J") ∈ lw_tbl := List.mem_of_getElem? (i := 1025) (by decide +kernel)
set_option maxRecDepth 20000 in
theorem mw_923 : (Cond.fieldLink "PolicyCompilerModel" (68 : Nat) "PolicyCompilerModel" "lowActions" "[J") ∈ lw_tbl := List.mem_of_getElem? (i := 1026) (by decide +kernel)
set_option maxRecDepth 20000 in
theorem mw_924 : (Cond.fieldLink "PolicyCompilerModel" (71 : Nat) "PolicyCompilerModel" "highActions" "[J") ∈ lw_tbl := List.mem_of_getElem? (i := 1027) (by decide +kernel)
set_option maxRecDepth 20000 in
theorem mw_925 : (Cond.fieldLink "PolicyCompilerModel" (270 : Nat) "PolicyCompilerModel" "leafMany" "I") ∈ lw_tbl := List.mem_of_getElem? (i := 1028) (by decide +kernel)
set_option maxRecDepth 20000 in
theorem mw_926 : (Cond.fieldLink "PolicyCompilerModel" (74 : Nat) "PolicyCompilerModel" "fieldOf" "[I") ∈ lw_tbl := List.mem_of_getElem? (i := 1029) (by decide +kernel)
set_option maxRecDepth 20000 in
theorem mw_927 : (Cond.fieldLink "PolicyCompilerModel" (77 : Nat) "PolicyCompilerModel" "childOf" "[I") ∈ lw_tbl := List.mem_of_getElem? (i := 1030) (by decide +kernel)
set_option maxRecDepth 20000 in
theorem mw_928 : (Cond.fieldLink "PolicyCompilerModel" (273 : Nat) "PolicyCompilerModel" "testMany" "I") ∈ lw_tbl := List.mem_of_getElem? (i := 1031) (by decide +kernel)
set_option maxRecDepth 20000 in
theorem mw_929 : (Cond.fieldLink "PolicyCompilerModel" (80 : Nat) "PolicyCompilerModel" "usedBy" "[I") ∈ lw_tbl := List.mem_of_getElem? (i := 1032) (by decide +kernel)
set_option maxRecDepth 20000 in
theorem mw_930 : (Cond.fieldLink "PolicyCompilerModel" (83 : Nat) "PolicyCompilerModel" "blocks" "[I") ∈ lw_tbl := List.mem_of_getElem? (i := 1033) (by decide +kernel)
set_option maxRecDepth 20000 in
theorem mw_931 : (Cond.fieldLink "PolicyCompilerModel" (86 : Nat) "PolicyCompilerModel" "rowMatch" "[I") ∈ lw_tbl := List.mem_of_getElem? (i := 1034) (by decide +kernel)
set_option maxRecDepth 20000 in
theorem mw_932 : (Cond.fieldLink "PolicyCompilerModel" (89 : Nat) "PolicyCompilerModel" "rowLeaf" "[I") ∈ lw_tbl := List.mem_of_getElem? (i := 1035) (by decide +kernel)
set_option maxRecDepth 20000 in
theorem mw_933 : (Cond.fieldLink "PolicyCompilerModel" (303 : Nat) "PolicyCompilerModel" "rowMany" "I") ∈ lw_tbl := List.mem_of_getElem? (i := 1036) (by decide +kernel)
set_option maxRecDepth 20000 in
theorem mw_934 : (Cond.fieldLink "PolicyCompilerModel" (92 : Nat) "PolicyCompilerModel" "walkNode" "[I") ∈ lw_tbl := List.mem_of_getElem? (i := 1037) (by decide +kernel)
set_option maxRecDepth 20000 in
theorem mw_935 : (Cond.fieldLink "PolicyCompilerModel" (95 : Nat) "PolicyCompilerModel" "walkMatch" "[I") ∈ lw_tbl := List.mem_of_getElem? (i := 1038) (by decide +kernel)
set_option maxRecDepth 20000 in
theorem mw_936 : (Cond.fieldLink "PolicyCompilerModel" (333 : Nat) "PolicyCompilerModel" "hash" "J") ∈ lw_tbl := List.mem_of_getElem? (i := 1039) (by decide +kernel)
set_option maxRecDepth 20000 in
theorem mw_1024 : (Cond.methodLink "PolicyCompilerLaw" (119 : Nat) ({ cls := "PolicyCompilerModel", name := "undo", desc := "()I" } : MethodName)) ∈ lw_tbl := List.mem_of_getElem? (i := 1127) (by decide +kernel)
set_option maxRecDepth 20000 in
theorem mw_1025 : (Cond.instanceMethod ({ cls := "PolicyCompilerModel", name := "undo", desc := "()I" } : MethodName)) ∈ lw_tbl := List.mem_of_getElem? (i := 1128) (by decide +kernel)
set_option maxRecDepth 20000 in
theorem mw_1026 : (Cond.selects "PolicyCompilerModel" ({ cls := "PolicyCompilerModel", name := "undo", desc := "()I" } : MethodName) ({ cls := "PolicyCompilerModel", name := "undo", desc := "()I" } : MethodName)) ∈ lw_tbl := List.mem_of_getElem? (i := 1129) (by decide +kernel)
set_option maxRecDepth 20000 in
theorem mw_1027 : (Cond.code ({ cls := "PolicyCompilerModel", name := "undo", desc := "()I" } : MethodName) prog_12_method_8_code (2 : Nat) (Option.some FieldType.int)) ∈ lw_tbl := List.mem_of_getElem? (i := 1130) rfl
set_option maxRecDepth 20000 in
theorem mw_1028 : (Cond.methodLink "PolicyCompilerModel" (106 : Nat) ({ cls := "PolicyCompilerModel", name := "fails", desc := "(I)I" } : MethodName)) ∈ lw_tbl := List.mem_of_getElem? (i := 1131) (by decide +kernel)
set_option maxRecDepth 20000 in
theorem mw_1030 : (Cond.instanceMethod ({ cls := "PolicyCompilerModel", name := "fails", desc := "(I)I" } : MethodName)) ∈ lw_tbl := List.mem_of_getElem? (i := 1133) (by decide +kernel)
set_option maxRecDepth 20000 in
theorem mw_1031 : (Cond.code ({ cls := "PolicyCompilerModel", name := "fails", desc := "(I)I" } : MethodName) prog_12_method_4_code (2 : Nat) (Option.some FieldType.int)) ∈ lw_tbl := List.mem_of_getElem? (i := 1134) rfl
set_option maxRecDepth 20000 in
theorem mw_1032 : (Cond.methodLink "PolicyCompilerLaw" (17 : Nat) ({ cls := "PolicyCompilerModel", name := "append", desc := "(I)I" } : MethodName)) ∈ lw_tbl := List.mem_of_getElem? (i := 1135) (by decide +kernel)
set_option maxRecDepth 20000 in
theorem mw_1033 : (Cond.instanceMethod ({ cls := "PolicyCompilerModel", name := "append", desc := "(I)I" } : MethodName)) ∈ lw_tbl := List.mem_of_getElem? (i := 1136) (by decide +kernel)
set_option maxRecDepth 20000 in
theorem mw_1034 : (Cond.selects "PolicyCompilerModel" ({ cls := "PolicyCompilerModel", name := "append", desc := "(I)I" } : MethodName) ({ cls := "PolicyCompilerModel", name := "append", desc := "(I)I" } : MethodName)) ∈ lw_tbl := List.mem_of_getElem? (i := 1137) (by decide +kernel)
set_option maxRecDepth 20000 in
theorem mw_1035 : (Cond.code ({ cls := "PolicyCompilerModel", name := "append", desc := "(I)I" } : MethodName) prog_12_method_14_code (2 : Nat) (Option.some FieldType.int)) ∈ lw_tbl := List.mem_of_getElem? (i := 1138) rfl
set_option maxRecDepth 20000 in
theorem mw_1036 : (Cond.methodLink "PolicyCompilerModel" (98 : Nat) ({ cls := "PolicyCompilerModel", name := "within", desc := "(III)Z" } : MethodName)) ∈ lw_tbl := List.mem_of_getElem? (i := 1139) (by decide +kernel)
set_option maxRecDepth 20000 in
theorem mw_1037 : (Cond.static ({ cls := "PolicyCompilerModel", name := "within", desc := "(III)Z" } : MethodName)) ∈ lw_tbl := List.mem_of_getElem? (i := 1140) (by decide +kernel)
set_option maxRecDepth 20000 in
theorem mw_1038 : (Cond.code ({ cls := "PolicyCompilerModel", name := "within", desc := "(III)Z" } : MethodName) prog_12_method_3_code (3 : Nat) (Option.some FieldType.boolean)) ∈ lw_tbl := List.mem_of_getElem? (i := 1141) rfl
set_option maxRecDepth 20000 in
theorem mw_1039 : (Cond.methodLink "PolicyCompilerLaw" (22 : Nat) ({ cls := "PolicyCompilerModel", name := "clearText", desc := "()I" } : MethodName)) ∈ lw_tbl := List.mem_of_getElem? (i := 1142) (by decide +kernel)
set_option maxRecDepth 20000 in
theorem mw_1040 : (Cond.instanceMethod ({ cls := "PolicyCompilerModel", name := "clearText", desc := "()I" } : MethodName)) ∈ lw_tbl := List.mem_of_getElem? (i := 1143) (by decide +kernel)
set_option maxRecDepth 20000 in
theorem mw_1041 : (Cond.selects "PolicyCompilerModel" ({ cls := "PolicyCompilerModel", name := "clearText", desc := "()I" } : MethodName) ({ cls := "PolicyCompilerModel", name := "clearText", desc := "()I" } : MethodName)) ∈ lw_tbl := List.mem_of_getElem? (i := 1144) (by decide +kernel)
set_option maxRecDepth 20000 in
theorem mw_1042 : (Cond.code ({ cls := "PolicyCompilerModel", name := "clearText", desc := "()I" } : MethodName) prog_12_method_15_code (2 : Nat) (Option.some FieldType.int)) ∈ lw_tbl := List.mem_of_getElem? (i := 1145) rfl
set_option maxRecDepth 20000 in
theorem mw_1043 : (Cond.methodLink "PolicyCompilerLaw" (26 : Nat) ({ cls := "PolicyCompilerModel", name := "parse", desc := "(I)I" } : MethodName)) ∈ lw_tbl := List.mem_of_getElem? (i := 1146) (by decide +kernel)
set_option maxRecDepth 20000 in
theorem mw_1044 : (Cond.instanceMethod ({ cls := "PolicyCompilerModel", name := "parse", desc := "(I)I" } : MethodName)) ∈ lw_tbl := List.mem_of_getElem? (i := 1147) (by decide +kernel)
set_option maxRecDepth 20000 in
theorem mw_1045 : (Cond.selects "PolicyCompilerModel" ({ cls := "PolicyCompilerModel", name := "parse", desc := "(I)I" } : MethodName) ({ cls := "PolicyCompilerModel", name := "parse", desc := "(I)I" } : MethodName)) ∈ lw_tbl := List.mem_of_getElem? (i := 1148) (by decide +kernel)
set_option maxRecDepth 20000 in
theorem mw_1046 : (Cond.code ({ cls := "PolicyCompilerModel", name := "parse", desc := "(I)I" } : MethodName) prog_12_method_26_code (3 : Nat) (Option.some FieldType.int)) ∈ lw_tbl := List.mem_of_getElem? (i := 1149) rfl
set_option maxRecDepth 20000 in
theorem mw_1047 : (Cond.methodLink "PolicyCompilerModel" (179 : Nat) ({ cls := "PolicyCompilerModel", name := "isSlot", desc := "(I)Z" } : MethodName)) ∈ lw_tbl := List.mem_of_getElem? (i := 1150) (by decide +kernel)
set_option maxRecDepth 20000 in
theorem mw_1048 : (Cond.static ({ cls := "PolicyCompilerModel", name := "isSlot", desc := "(I)Z" } : MethodName)) ∈ lw_tbl := List.mem_of_getElem? (i := 1151) (by decide +kernel)
set_option maxRecDepth 20000 in
theorem mw_1049 : (Cond.code ({ cls := "PolicyCompilerModel", name := "isSlot", desc := "(I)Z" } : MethodName) prog_12_method_5_code (1 : Nat) (Option.some FieldType.boolean)) ∈ lw_tbl := List.mem_of_getElem? (i := 1152) rfl
set_option maxRecDepth 20000 in
theorem mw_1050 : (Cond.methodLink "PolicyCompilerModel" (182 : Nat) ({ cls := "PolicyCompilerModel", name := "reads", desc := "()I" } : MethodName)) ∈ lw_tbl := List.mem_of_getElem? (i := 1153) (by decide +kernel)
set_option maxRecDepth 20000 in
theorem mw_1052 : (Cond.instanceMethod ({ cls := "PolicyCompilerModel", name := "reads", desc := "()I" } : MethodName)) ∈ lw_tbl := List.mem_of_getElem? (i := 1155) (by decide +kernel)
set_option maxRecDepth 20000 in
theorem mw_1053 : (Cond.code ({ cls := "PolicyCompilerModel", name := "reads", desc := "()I" } : MethodName) prog_12_method_25_code (2 : Nat) (Option.some FieldType.int)) ∈ lw_tbl := List.mem_of_getElem? (i := 1156) rfl
set_option maxRecDepth 20000 in
theorem mw_1054 : (Cond.methodLink "PolicyCompilerModel" (166 : Nat) ({ cls := "PolicyCompilerModel", name := "isPredicateRow", desc := "(I)Z" } : MethodName)) ∈ lw_tbl := List.mem_of_getElem? (i := 1157) (by decide +kernel)
set_option maxRecDepth 20000 in
theorem mw_1056 : (Cond.instanceMethod ({ cls := "PolicyCompilerModel", name := "isPredicateRow", desc := "(I)Z" } : MethodName)) ∈ lw_tbl := List.mem_of_getElem? (i := 1159) (by decide +kernel)
set_option maxRecDepth 20000 in
theorem mw_1057 : (Cond.code ({ cls := "PolicyCompilerModel", name := "isPredicateRow", desc := "(I)Z" } : MethodName) prog_12_method_11_code (4 : Nat) (Option.some FieldType.boolean)) ∈ lw_tbl := List.mem_of_getElem? (i := 1160) rfl
set_option maxRecDepth 20000 in
theorem mw_1058 : (Cond.methodLink "PolicyCompilerModel" (116 : Nat) ({ cls := "PolicyCompilerModel", name := "signOf", desc := "(II)I" } : MethodName)) ∈ lw_tbl := List.mem_of_getElem? (i := 1161) (by decide +kernel)
set_option maxRecDepth 20000 in
theorem mw_1060 : (Cond.instanceMethod ({ cls := "PolicyCompilerModel", name := "signOf", desc := "(II)I" } : MethodName)) ∈ lw_tbl := List.mem_of_getElem? (i := 1163) (by decide +kernel)
set_option maxRecDepth 20000 in
theorem mw_1061 : (Cond.code ({ cls := "PolicyCompilerModel", name := "signOf", desc := "(II)I" } : MethodName) prog_12_method_6_code (3 : Nat) (Option.some FieldType.int)) ∈ lw_tbl := List.mem_of_getElem? (i := 1164) rfl
set_option maxRecDepth 20000 in
theorem mw_1062 : (Cond.methodLink "PolicyCompilerModel" (120 : Nat) ({ cls := "PolicyCompilerModel", name := "waits", desc := "(IZ)V" } : MethodName)) ∈ lw_tbl := List.mem_of_getElem? (i := 1165) (by decide +kernel)
set_option maxRecDepth 20000 in
theorem mw_1064 : (Cond.instanceMethod ({ cls := "PolicyCompilerModel", name := "waits", desc := "(IZ)V" } : MethodName)) ∈ lw_tbl := List.mem_of_getElem? (i := 1167) (by decide +kernel)
set_option maxRecDepth 20000 in
theorem mw_1065 : (Cond.code ({ cls := "PolicyCompilerModel", name := "waits", desc := "(IZ)V" } : MethodName) prog_12_method_10_code (3 : Nat) (Option.none : Option ClassFile.FieldType)) ∈ lw_tbl := List.mem_of_getElem? (i := 1168) rfl
set_option maxRecDepth 20000 in
theorem mw_1066 : (Cond.methodLink "PolicyCompilerModel" (170 : Nat) ({ cls := "PolicyCompilerModel", name := "atom", desc := "()I" } : MethodName)) ∈ lw_tbl := List.mem_of_getElem? (i := 1169) (by decide +kernel)
set_option maxRecDepth 20000 in
theorem mw_1068 : (Cond.instanceMethod ({ cls := "PolicyCompilerModel", name := "atom", desc := "()I" } : MethodName)) ∈ lw_tbl := List.mem_of_getElem? (i := 1171) (by decide +kernel)
set_option maxRecDepth 20000 in
theorem mw_1069 : (Cond.code ({ cls := "PolicyCompilerModel", name := "atom", desc := "()I" } : MethodName) prog_12_method_20_code (2 : Nat) (Option.some FieldType.int)) ∈ lw_tbl := List.mem_of_getElem? (i := 1172) rfl
set_option maxRecDepth 20000 in
theorem mw_1070 : (Cond.methodLink "PolicyCompilerModel" (140 : Nat) ({ cls := "PolicyCompilerModel", name := "byteAt", desc := "(I)I" } : MethodName)) ∈ lw_tbl := List.mem_of_getElem? (i := 1173) (by decide +kernel)
set_option maxRecDepth 20000 in
theorem mw_1072 : (Cond.instanceMethod ({ cls := "PolicyCompilerModel", name := "byteAt", desc := "(I)I" } : MethodName)) ∈ lw_tbl := List.mem_of_getElem? (i := 1175) (by decide +kernel)
set_option maxRecDepth 20000 in
theorem mw_1073 : (Cond.code ({ cls := "PolicyCompilerModel", name := "byteAt", desc := "(I)I" } : MethodName) prog_12_method_16_code (2 : Nat) (Option.some FieldType.int)) ∈ lw_tbl := List.mem_of_getElem? (i := 1176) rfl
set_option maxRecDepth 20000 in
theorem mw_1074 : (Cond.methodLink "PolicyCompilerModel" (143 : Nat) ({ cls := "PolicyCompilerModel", name := "pushes", desc := "(I)V" } : MethodName)) ∈ lw_tbl := List.mem_of_getElem? (i := 1177) (by decide +kernel)
set_option maxRecDepth 20000 in
theorem mw_1076 : (Cond.instanceMethod ({ cls := "PolicyCompilerModel", name := "pushes", desc := "(I)V" } : MethodName)) ∈ lw_tbl := List.mem_of_getElem? (i := 1179) (by decide +kernel)
set_option maxRecDepth 20000 in
theorem mw_1077 : (Cond.code ({ cls := "PolicyCompilerModel", name := "pushes", desc := "(I)V" } : MethodName) prog_12_method_18_code (2 : Nat) (Option.none : Option ClassFile.FieldType)) ∈ lw_tbl := List.mem_of_getElem? (i := 1180) rfl
set_option maxRecDepth 20000 in
theorem mw_1078 : (Cond.methodLink "PolicyCompilerModel" (146 : Nat) ({ cls := "PolicyCompilerModel", name := "field", desc := "(I)I" } : MethodName)) ∈ lw_tbl := List.mem_of_getElem? (i := 1181) (by decide +kernel)
set_option maxRecDepth 20000 in
theorem mw_1080 : (Cond.instanceMethod ({ cls := "PolicyCompilerModel", name := "field", desc := "(I)I" } : MethodName)) ∈ lw_tbl := List.mem_of_getElem? (i := 1183) (by decide +kernel)
set_option maxRecDepth 20000 in
theorem mw_1081 : (Cond.code ({ cls := "PolicyCompilerModel", name := "field", desc := "(I)I" } : MethodName) prog_12_method_19_code (3 : Nat) (Option.some FieldType.int)) ∈ lw_tbl := List.mem_of_getElem? (i := 1184) rfl
set_option maxRecDepth 20000 in
theorem mw_1082 : (Cond.methodLink "PolicyCompilerModel" (127 : Nat) ({ cls := "PolicyCompilerModel", name := "makes", desc := "(I)V" } : MethodName)) ∈ lw_tbl := List.mem_of_getElem? (i := 1185) (by decide +kernel)
set_option maxRecDepth 20000 in
theorem mw_1084 : (Cond.instanceMethod ({ cls := "PolicyCompilerModel", name := "makes", desc := "(I)V" } : MethodName)) ∈ lw_tbl := List.mem_of_getElem? (i := 1187) (by decide +kernel)
set_option maxRecDepth 20000 in
theorem mw_1085 : (Cond.code ({ cls := "PolicyCompilerModel", name := "makes", desc := "(I)V" } : MethodName) prog_12_method_9_code (2 : Nat) (Option.none : Option ClassFile.FieldType)) ∈ lw_tbl := List.mem_of_getElem? (i := 1188) rfl
set_option maxRecDepth 20000 in
theorem mw_1086 : (Cond.methodLink "PolicyCompilerModel" (149 : Nat) ({ cls := "PolicyCompilerModel", name := "copies", desc := "(I)V" } : MethodName)) ∈ lw_tbl := List.mem_of_getElem? (i := 1189) (by decide +kernel)
set_option maxRecDepth 20000 in
theorem mw_1088 : (Cond.instanceMethod ({ cls := "PolicyCompilerModel", name := "copies", desc := "(I)V" } : MethodName)) ∈ lw_tbl := List.mem_of_getElem? (i := 1191) (by decide +kernel)
set_option maxRecDepth 20000 in
theorem mw_1089 : (Cond.code ({ cls := "PolicyCompilerModel", name := "copies", desc := "(I)V" } : MethodName) prog_12_method_13_code (3 : Nat) (Option.none : Option ClassFile.FieldType)) ∈ lw_tbl := List.mem_of_getElem? (i := 1192) rfl
set_option maxRecDepth 20000 in
theorem mw_1090 : (Cond.methodLink "PolicyCompilerModel" (173 : Nat) ({ cls := "PolicyCompilerModel", name := "endsFactor", desc := "()I" } : MethodName)) ∈ lw_tbl := List.mem_of_getElem? (i := 1193) (by decide +kernel)
set_option maxRecDepth 20000 in
theorem mw_1092 : (Cond.instanceMethod ({ cls := "PolicyCompilerModel", name := "endsFactor", desc := "()I" } : MethodName)) ∈ lw_tbl := List.mem_of_getElem? (i := 1195) (by decide +kernel)
set_option maxRecDepth 20000 in
theorem mw_1093 : (Cond.code ({ cls := "PolicyCompilerModel", name := "endsFactor", desc := "()I" } : MethodName) prog_12_method_21_code (1 : Nat) (Option.some FieldType.int)) ∈ lw_tbl := List.mem_of_getElem? (i := 1196) rfl
set_option maxRecDepth 20000 in
theorem mw_1094 : (Cond.methodLink "PolicyCompilerModel" (152 : Nat) ({ cls := "PolicyCompilerModel", name := "lastOpen", desc := "()I" } : MethodName)) ∈ lw_tbl := List.mem_of_getElem? (i := 1197) (by decide +kernel)
set_option maxRecDepth 20000 in
theorem mw_1096 : (Cond.instanceMethod ({ cls := "PolicyCompilerModel", name := "lastOpen", desc := "()I" } : MethodName)) ∈ lw_tbl := List.mem_of_getElem? (i := 1199) (by decide +kernel)
set_option maxRecDepth 20000 in
theorem mw_1097 : (Cond.code ({ cls := "PolicyCompilerModel", name := "lastOpen", desc := "()I" } : MethodName) prog_12_method_17_code (1 : Nat) (Option.some FieldType.int)) ∈ lw_tbl := List.mem_of_getElem? (i := 1200) rfl
set_option maxRecDepth 20000 in
theorem mw_1098 : (Cond.methodLink "PolicyCompilerModel" (176 : Nat) ({ cls := "PolicyCompilerModel", name := "behind", desc := "()I" } : MethodName)) ∈ lw_tbl := List.mem_of_getElem? (i := 1201) (by decide +kernel)
set_option maxRecDepth 20000 in
theorem mw_1100 : (Cond.instanceMethod ({ cls := "PolicyCompilerModel", name := "behind", desc := "()I" } : MethodName)) ∈ lw_tbl := List.mem_of_getElem? (i := 1203) (by decide +kernel)
set_option maxRecDepth 20000 in
theorem mw_1101 : (Cond.code ({ cls := "PolicyCompilerModel", name := "behind", desc := "()I" } : MethodName) prog_12_method_24_code (4 : Nat) (Option.some FieldType.int)) ∈ lw_tbl := List.mem_of_getElem? (i := 1204) rfl
set_option maxRecDepth 20000 in
theorem mw_1102 : (Cond.methodLink "PolicyCompilerModel" (159 : Nat) ({ cls := "PolicyCompilerModel", name := "joins", desc := "(Z)V" } : MethodName)) ∈ lw_tbl := List.mem_of_getElem? (i := 1205) (by decide +kernel)
set_option maxRecDepth 20000 in
theorem mw_1104 : (Cond.instanceMethod ({ cls := "PolicyCompilerModel", name := "joins", desc := "(Z)V" } : MethodName)) ∈ lw_tbl := List.mem_of_getElem? (i := 1207) (by decide +kernel)
set_option maxRecDepth 20000 in
theorem mw_1105 : (Cond.code ({ cls := "PolicyCompilerModel", name := "joins", desc := "(Z)V" } : MethodName) prog_12_method_23_code (2 : Nat) (Option.none : Option ClassFile.FieldType)) ∈ lw_tbl := List.mem_of_getElem? (i := 1208) rfl
set_option maxRecDepth 20000 in
theorem mw_1106 : (Cond.methodLink "PolicyCompilerModel" (156 : Nat) ({ cls := "PolicyCompilerModel", name := "joinsTwo", desc := "(I)V" } : MethodName)) ∈ lw_tbl := List.mem_of_getElem? (i := 1209) (by decide +kernel)
set_option maxRecDepth 20000 in
theorem mw_1108 : (Cond.instanceMethod ({ cls := "PolicyCompilerModel", name := "joinsTwo", desc := "(I)V" } : MethodName)) ∈ lw_tbl := List.mem_of_getElem? (i := 1211) (by decide +kernel)
set_option maxRecDepth 20000 in
theorem mw_1109 : (Cond.code ({ cls := "PolicyCompilerModel", name := "joinsTwo", desc := "(I)V" } : MethodName) prog_12_method_22_code (2 : Nat) (Option.none : Option ClassFile.FieldType)) ∈ lw_tbl := List.mem_of_getElem? (i := 1212) rfl
set_option maxRecDepth 20000 in
theorem mw_1110 : (Cond.methodLink "PolicyCompilerModel" (185 : Nat) ({ cls := "PolicyCompilerModel", name := "keeps", desc := "(I)I" } : MethodName)) ∈ lw_tbl := List.mem_of_getElem? (i := 1213) (by decide +kernel)
set_option maxRecDepth 20000 in
theorem mw_1112 : (Cond.instanceMethod ({ cls := "PolicyCompilerModel", name := "keeps", desc := "(I)I" } : MethodName)) ∈ lw_tbl := List.mem_of_getElem? (i := 1215) (by decide +kernel)
set_option maxRecDepth 20000 in
theorem mw_1113 : (Cond.code ({ cls := "PolicyCompilerModel", name := "keeps", desc := "(I)I" } : MethodName) prog_12_method_12_code (3 : Nat) (Option.some FieldType.int)) ∈ lw_tbl := List.mem_of_getElem? (i := 1216) rfl
set_option maxRecDepth 20000 in
theorem mw_1114 : (Cond.methodLink "PolicyCompilerModel" (124 : Nat) ({ cls := "PolicyCompilerModel", name := "saves", desc := "()V" } : MethodName)) ∈ lw_tbl := List.mem_of_getElem? (i := 1217) (by decide +kernel)
set_option maxRecDepth 20000 in
theorem mw_1116 : (Cond.instanceMethod ({ cls := "PolicyCompilerModel", name := "saves", desc := "()V" } : MethodName)) ∈ lw_tbl := List.mem_of_getElem? (i := 1219) (by decide +kernel)
set_option maxRecDepth 20000 in
theorem mw_1117 : (Cond.code ({ cls := "PolicyCompilerModel", name := "saves", desc := "()V" } : MethodName) prog_12_method_7_code (2 : Nat) (Option.none : Option ClassFile.FieldType)) ∈ lw_tbl := List.mem_of_getElem? (i := 1220) rfl
set_option maxRecDepth 20000 in
theorem mw_1118 : (Cond.methodLink "PolicyCompilerLaw" (31 : Nat) ({ cls := "PolicyCompilerModel", name := "combine", desc := "(IIII)I" } : MethodName)) ∈ lw_tbl := List.mem_of_getElem? (i := 1221) (by decide +kernel)
set_option maxRecDepth 20000 in
theorem mw_1119 : (Cond.instanceMethod ({ cls := "PolicyCompilerModel", name := "combine", desc := "(IIII)I" } : MethodName)) ∈ lw_tbl := List.mem_of_getElem? (i := 1222) (by decide +kernel)
set_option maxRecDepth 20000 in
theorem mw_1120 : (Cond.selects "PolicyCompilerModel" ({ cls := "PolicyCompilerModel", name := "combine", desc := "(IIII)I" } : MethodName) ({ cls := "PolicyCompilerModel", name := "combine", desc := "(IIII)I" } : MethodName)) ∈ lw_tbl := List.mem_of_getElem? (i := 1223) (by decide +kernel)
set_option maxRecDepth 20000 in
theorem mw_1121 : (Cond.code ({ cls := "PolicyCompilerModel", name := "combine", desc := "(IIII)I" } : MethodName) prog_12_method_27_code (5 : Nat) (Option.some FieldType.int)) ∈ lw_tbl := List.mem_of_getElem? (i := 1224) rfl
set_option maxRecDepth 20000 in
theorem mw_1122 : (Cond.methodLink "PolicyCompilerLaw" (36 : Nat) ({ cls := "PolicyCompilerModel", name := "modify", desc := "(III)I" } : MethodName)) ∈ lw_tbl := List.mem_of_getElem? (i := 1225) (by decide +kernel)
set_option maxRecDepth 20000 in
theorem mw_1123 : (Cond.instanceMethod ({ cls := "PolicyCompilerModel", name := "modify", desc := "(III)I" } : MethodName)) ∈ lw_tbl := List.mem_of_getElem? (i := 1226) (by decide +kernel)
set_option maxRecDepth 20000 in
theorem mw_1124 : (Cond.selects "PolicyCompilerModel" ({ cls := "PolicyCompilerModel", name := "modify", desc := "(III)I" } : MethodName) ({ cls := "PolicyCompilerModel", name := "modify", desc := "(III)I" } : MethodName)) ∈ lw_tbl := List.mem_of_getElem? (i := 1227) (by decide +kernel)
set_option maxRecDepth 20000 in
theorem mw_1125 : (Cond.code ({ cls := "PolicyCompilerModel", name := "modify", desc := "(III)I" } : MethodName) prog_12_method_28_code (4 : Nat) (Option.some FieldType.int)) ∈ lw_tbl := List.mem_of_getElem? (i := 1228) rfl
set_option maxRecDepth 20000 in
theorem mw_1126 : (Cond.methodLink "PolicyCompilerLaw" (40 : Nat) ({ cls := "PolicyCompilerModel", name := "size", desc := "(I)I" } : MethodName)) ∈ lw_tbl := List.mem_of_getElem? (i := 1229) (by decide +kernel)
set_option maxRecDepth 20000 in
theorem mw_1127 : (Cond.instanceMethod ({ cls := "PolicyCompilerModel", name := "size", desc := "(I)I" } : MethodName)) ∈ lw_tbl := List.mem_of_getElem? (i := 1230) (by decide +kernel)
set_option maxRecDepth 20000 in
theorem mw_1128 : (Cond.selects "PolicyCompilerModel" ({ cls := "PolicyCompilerModel", name := "size", desc := "(I)I" } : MethodName) ({ cls := "PolicyCompilerModel", name := "size", desc := "(I)I" } : MethodName)) ∈ lw_tbl := List.mem_of_getElem? (i := 1231) (by decide +kernel)
set_option maxRecDepth 20000 in
theorem mw_1129 : (Cond.code ({ cls := "PolicyCompilerModel", name := "size", desc := "(I)I" } : MethodName) prog_12_method_29_code (2 : Nat) (Option.some FieldType.int)) ∈ lw_tbl := List.mem_of_getElem? (i := 1232) rfl
set_option maxRecDepth 20000 in
theorem mw_1130 : (Cond.methodLink "PolicyCompilerLaw" (44 : Nat) ({ cls := "PolicyCompilerModel", name := "isPredicate", desc := "(I)I" } : MethodName)) ∈ lw_tbl := List.mem_of_getElem? (i := 1233) (by decide +kernel)
set_option maxRecDepth 20000 in
theorem mw_1131 : (Cond.instanceMethod ({ cls := "PolicyCompilerModel", name := "isPredicate", desc := "(I)I" } : MethodName)) ∈ lw_tbl := List.mem_of_getElem? (i := 1234) (by decide +kernel)
set_option maxRecDepth 20000 in
theorem mw_1132 : (Cond.selects "PolicyCompilerModel" ({ cls := "PolicyCompilerModel", name := "isPredicate", desc := "(I)I" } : MethodName) ({ cls := "PolicyCompilerModel", name := "isPredicate", desc := "(I)I" } : MethodName)) ∈ lw_tbl := List.mem_of_getElem? (i := 1235) (by decide +kernel)
set_option maxRecDepth 20000 in
theorem mw_1133 : (Cond.code ({ cls := "PolicyCompilerModel", name := "isPredicate", desc := "(I)I" } : MethodName) prog_12_method_30_code (2 : Nat) (Option.some FieldType.int)) ∈ lw_tbl := List.mem_of_getElem? (i := 1236) rfl
set_option maxRecDepth 20000 in
theorem mw_1134 : (Cond.methodLink "PolicyCompilerLaw" (49 : Nat) ({ cls := "PolicyCompilerModel", name := "printed", desc := "(II)I" } : MethodName)) ∈ lw_tbl := List.mem_of_getElem? (i := 1237) (by decide +kernel)
set_option maxRecDepth 20000 in
theorem mw_1135 : (Cond.instanceMethod ({ cls := "PolicyCompilerModel", name := "printed", desc := "(II)I" } : MethodName)) ∈ lw_tbl := List.mem_of_getElem? (i := 1238) (by decide +kernel)
set_option maxRecDepth 20000 in
theorem mw_1136 : (Cond.selects "PolicyCompilerModel" ({ cls := "PolicyCompilerModel", name := "printed", desc := "(II)I" } : MethodName) ({ cls := "PolicyCompilerModel", name := "printed", desc := "(II)I" } : MethodName)) ∈ lw_tbl := List.mem_of_getElem? (i := 1239) (by decide +kernel)
set_option maxRecDepth 20000 in
theorem mw_1137 : (Cond.code ({ cls := "PolicyCompilerModel", name := "printed", desc := "(II)I" } : MethodName) prog_12_method_37_code (3 : Nat) (Option.some FieldType.int)) ∈ lw_tbl := List.mem_of_getElem? (i := 1240) rfl
set_option maxRecDepth 20000 in
theorem mw_1138 : (Cond.methodLink "PolicyCompilerModel" (210 : Nat) ({ cls := "PolicyCompilerModel", name := "prints", desc := "(I)V" } : MethodName)) ∈ lw_tbl := List.mem_of_getElem? (i := 1241) (by decide +kernel)
set_option maxRecDepth 20000 in
theorem mw_1140 : (Cond.instanceMethod ({ cls := "PolicyCompilerModel", name := "prints", desc := "(I)V" } : MethodName)) ∈ lw_tbl := List.mem_of_getElem? (i := 1243) (by decide +kernel)
set_option maxRecDepth 20000 in
theorem mw_1141 : (Cond.code ({ cls := "PolicyCompilerModel", name := "prints", desc := "(I)V" } : MethodName) prog_12_method_36_code (3 : Nat) (Option.none : Option ClassFile.FieldType)) ∈ lw_tbl := List.mem_of_getElem? (i := 1244) rfl
set_option maxRecDepth 20000 in
theorem mw_1142 : (Cond.methodLink "PolicyCompilerModel" (203 : Nat) ({ cls := "PolicyCompilerModel", name := "laysOperands", desc := "(I)V" } : MethodName)) ∈ lw_tbl := List.mem_of_getElem? (i := 1245) (by decide +kernel)
set_option maxRecDepth 20000 in
theorem mw_1144 : (Cond.instanceMethod ({ cls := "PolicyCompilerModel", name := "laysOperands", desc := "(I)V" } : MethodName)) ∈ lw_tbl := List.mem_of_getElem? (i := 1247) (by decide +kernel)
set_option maxRecDepth 20000 in
theorem mw_1145 : (Cond.code ({ cls := "PolicyCompilerModel", name := "laysOperands", desc := "(I)V" } : MethodName) prog_12_method_31_code (5 : Nat) (Option.none : Option ClassFile.FieldType)) ∈ lw_tbl := List.mem_of_getElem? (i := 1248) rfl
set_option maxRecDepth 20000 in
theorem mw_1146 : (Cond.methodLink "PolicyCompilerModel" (197 : Nat) ({ cls := "PolicyCompilerModel", name := "shows", desc := "(I)V" } : MethodName)) ∈ lw_tbl := List.mem_of_getElem? (i := 1249) (by decide +kernel)
set_option maxRecDepth 20000 in
theorem mw_1148 : (Cond.instanceMethod ({ cls := "PolicyCompilerModel", name := "shows", desc := "(I)V" } : MethodName)) ∈ lw_tbl := List.mem_of_getElem? (i := 1251) (by decide +kernel)
set_option maxRecDepth 20000 in
theorem mw_1149 : (Cond.code ({ cls := "PolicyCompilerModel", name := "shows", desc := "(I)V" } : MethodName) prog_12_method_34_code (2 : Nat) (Option.none : Option ClassFile.FieldType)) ∈ lw_tbl := List.mem_of_getElem? (i := 1252) rfl
set_option maxRecDepth 20000 in
theorem mw_1150 : (Cond.methodLink "PolicyCompilerModel" (206 : Nat) ({ cls := "PolicyCompilerModel", name := "expands", desc := "(II)V" } : MethodName)) ∈ lw_tbl := List.mem_of_getElem? (i := 1253) (by decide +kernel)
set_option maxRecDepth 20000 in
theorem mw_1152 : (Cond.instanceMethod ({ cls := "PolicyCompilerModel", name := "expands", desc := "(II)V" } : MethodName)) ∈ lw_tbl := List.mem_of_getElem? (i := 1255) (by decide +kernel)
set_option maxRecDepth 20000 in
theorem mw_1153 : (Cond.code ({ cls := "PolicyCompilerModel", name := "expands", desc := "(II)V" } : MethodName) prog_12_method_35_code (7 : Nat) (Option.none : Option ClassFile.FieldType)) ∈ lw_tbl := List.mem_of_getElem? (i := 1256) rfl
set_option maxRecDepth 20000 in
theorem mw_1154 : (Cond.methodLink "PolicyCompilerModel" (200 : Nat) ({ cls := "PolicyCompilerModel", name := "pilesOperand", desc := "(IZ)V" } : MethodName)) ∈ lw_tbl := List.mem_of_getElem? (i := 1257) (by decide +kernel)
set_option maxRecDepth 20000 in
theorem mw_1156 : (Cond.instanceMethod ({ cls := "PolicyCompilerModel", name := "pilesOperand", desc := "(IZ)V" } : MethodName)) ∈ lw_tbl := List.mem_of_getElem? (i := 1259) (by decide +kernel)
set_option maxRecDepth 20000 in
theorem mw_1157 : (Cond.code ({ cls := "PolicyCompilerModel", name := "pilesOperand", desc := "(IZ)V" } : MethodName) prog_12_method_33_code (3 : Nat) (Option.none : Option ClassFile.FieldType)) ∈ lw_tbl := List.mem_of_getElem? (i := 1260) rfl
set_option maxRecDepth 20000 in
theorem mw_1158 : (Cond.methodLink "PolicyCompilerModel" (191 : Nat) ({ cls := "PolicyCompilerModel", name := "piles", desc := "(I)V" } : MethodName)) ∈ lw_tbl := List.mem_of_getElem? (i := 1261) (by decide +kernel)
set_option maxRecDepth 20000 in
theorem mw_1160 : (Cond.instanceMethod ({ cls := "PolicyCompilerModel", name := "piles", desc := "(I)V" } : MethodName)) ∈ lw_tbl := List.mem_of_getElem? (i := 1263) (by decide +kernel)
set_option maxRecDepth 20000 in
theorem mw_1161 : (Cond.code ({ cls := "PolicyCompilerModel", name := "piles", desc := "(I)V" } : MethodName) prog_12_method_32_code (2 : Nat) (Option.none : Option ClassFile.FieldType)) ∈ lw_tbl := List.mem_of_getElem? (i := 1264) rfl
set_option maxRecDepth 20000 in
theorem mw_1162 : (Cond.methodLink "PolicyCompilerLaw" (54 : Nat) ({ cls := "PolicyCompilerModel", name := "outputs", desc := "(II)J" } : MethodName)) ∈ lw_tbl := List.mem_of_getElem? (i := 1265) (by decide +kernel)
set_option maxRecDepth 20000 in
theorem mw_1163 : (Cond.instanceMethod ({ cls := "PolicyCompilerModel", name := "outputs", desc := "(II)J" } : MethodName)) ∈ lw_tbl := List.mem_of_getElem? (i := 1266) (by decide +kernel)
set_option maxRecDepth 20000 in
theorem mw_1164 : (Cond.selects "PolicyCompilerModel" ({ cls := "PolicyCompilerModel", name := "outputs", desc := "(II)J" } : MethodName) ({ cls := "PolicyCompilerModel", name := "outputs", desc := "(II)J" } : MethodName)) ∈ lw_tbl := List.mem_of_getElem? (i := 1267) (by decide +kernel)
set_option maxRecDepth 20000 in
theorem mw_1165 : (Cond.code ({ cls := "PolicyCompilerModel", name := "outputs", desc := "(II)J" } : MethodName) prog_12_method_46_code (3 : Nat) (Option.some FieldType.long)) ∈ lw_tbl := List.mem_of_getElem? (i := 1268) rfl
set_option maxRecDepth 20000 in
theorem mw_1166 : (Cond.methodLink "PolicyCompilerModel" (238 : Nat) ({ cls := "PolicyCompilerModel", name := "isPacket", desc := "(I)Z" } : MethodName)) ∈ lw_tbl := List.mem_of_getElem? (i := 1269) (by decide +kernel)
set_option maxRecDepth 20000 in
theorem mw_1167 : (Cond.static ({ cls := "PolicyCompilerModel", name := "isPacket", desc := "(I)Z" } : MethodName)) ∈ lw_tbl := List.mem_of_getElem? (i := 1270) (by decide +kernel)
set_option maxRecDepth 20000 in
theorem mw_1168 : (Cond.code ({ cls := "PolicyCompilerModel", name := "isPacket", desc := "(I)Z" } : MethodName) prog_12_method_45_code (1 : Nat) (Option.some FieldType.boolean)) ∈ lw_tbl := List.mem_of_getElem? (i := 1271) rfl
set_option maxRecDepth 20000 in
theorem mw_1169 : (Cond.methodLink "PolicyCompilerModel" (241 : Nat) ({ cls := "PolicyCompilerModel", name := "outputsOf", desc := "(II)J" } : MethodName)) ∈ lw_tbl := List.mem_of_getElem? (i := 1272) (by decide +kernel)
set_option maxRecDepth 20000 in
theorem mw_1171 : (Cond.instanceMethod ({ cls := "PolicyCompilerModel", name := "outputsOf", desc := "(II)J" } : MethodName)) ∈ lw_tbl := List.mem_of_getElem? (i := 1274) (by decide +kernel)
set_option maxRecDepth 20000 in
theorem mw_1172 : (Cond.code ({ cls := "PolicyCompilerModel", name := "outputsOf", desc := "(II)J" } : MethodName) prog_12_method_44_code (3 : Nat) (Option.some FieldType.long)) ∈ lw_tbl := List.mem_of_getElem? (i := 1275) rfl
set_option maxRecDepth 20000 in
theorem mw_1173 : (Cond.methodLink "PolicyCompilerModel" (235 : Nat) ({ cls := "PolicyCompilerModel", name := "evaluates", desc := "(I)V" } : MethodName)) ∈ lw_tbl := List.mem_of_getElem? (i := 1276) (by decide +kernel)
set_option maxRecDepth 20000 in
theorem mw_1175 : (Cond.instanceMethod ({ cls := "PolicyCompilerModel", name := "evaluates", desc := "(I)V" } : MethodName)) ∈ lw_tbl := List.mem_of_getElem? (i := 1278) (by decide +kernel)
set_option maxRecDepth 20000 in
theorem mw_1176 : (Cond.code ({ cls := "PolicyCompilerModel", name := "evaluates", desc := "(I)V" } : MethodName) prog_12_method_43_code (4 : Nat) (Option.none : Option ClassFile.FieldType)) ∈ lw_tbl := List.mem_of_getElem? (i := 1279) rfl
set_option maxRecDepth 20000 in
theorem mw_1177 : (Cond.methodLink "PolicyCompilerModel" (229 : Nat) ({ cls := "PolicyCompilerModel", name := "simple", desc := "(I)V" } : MethodName)) ∈ lw_tbl := List.mem_of_getElem? (i := 1280) (by decide +kernel)
set_option maxRecDepth 20000 in
theorem mw_1179 : (Cond.instanceMethod ({ cls := "PolicyCompilerModel", name := "simple", desc := "(I)V" } : MethodName)) ∈ lw_tbl := List.mem_of_getElem? (i := 1282) (by decide +kernel)
set_option maxRecDepth 20000 in
theorem mw_1180 : (Cond.code ({ cls := "PolicyCompilerModel", name := "simple", desc := "(I)V" } : MethodName) prog_12_method_39_code (6 : Nat) (Option.none : Option ClassFile.FieldType)) ∈ lw_tbl := List.mem_of_getElem? (i := 1283) rfl
set_option maxRecDepth 20000 in
theorem mw_1181 : (Cond.methodLink "PolicyCompilerModel" (216 : Nat) ({ cls := "PolicyCompilerModel", name := "valueOf", desc := "(II)I" } : MethodName)) ∈ lw_tbl := List.mem_of_getElem? (i := 1284) (by decide +kernel)
set_option maxRecDepth 20000 in
theorem mw_1182 : (Cond.static ({ cls := "PolicyCompilerModel", name := "valueOf", desc := "(II)I" } : MethodName)) ∈ lw_tbl := List.mem_of_getElem? (i := 1285) (by decide +kernel)
set_option maxRecDepth 20000 in
theorem mw_1183 : (Cond.code ({ cls := "PolicyCompilerModel", name := "valueOf", desc := "(II)I" } : MethodName) prog_12_method_38_code (2 : Nat) (Option.some FieldType.int)) ∈ lw_tbl := List.mem_of_getElem? (i := 1286) rfl
set_option maxRecDepth 20000 in
theorem mw_1184 : (Cond.methodLink "PolicyCompilerModel" (232 : Nat) ({ cls := "PolicyCompilerModel", name := "operates", desc := "(I)V" } : MethodName)) ∈ lw_tbl := List.mem_of_getElem? (i := 1287) (by decide +kernel)
set_option maxRecDepth 20000 in
theorem mw_1186 : (Cond.instanceMethod ({ cls := "PolicyCompilerModel", name := "operates", desc := "(I)V" } : MethodName)) ∈ lw_tbl := List.mem_of_getElem? (i := 1289) (by decide +kernel)
set_option maxRecDepth 20000 in
theorem mw_1187 : (Cond.code ({ cls := "PolicyCompilerModel", name := "operates", desc := "(I)V" } : MethodName) prog_12_method_42_code (7 : Nat) (Option.none : Option ClassFile.FieldType)) ∈ lw_tbl := List.mem_of_getElem? (i := 1290) rfl
set_option maxRecDepth 20000 in
theorem mw_1188 : (Cond.methodLink "PolicyCompilerModel" (219 : Nat) ({ cls := "PolicyCompilerModel", name := "turned", desc := "(JI)J" } : MethodName)) ∈ lw_tbl := List.mem_of_getElem? (i := 1291) (by decide +kernel)
set_option maxRecDepth 20000 in
theorem mw_1190 : (Cond.instanceMethod ({ cls := "PolicyCompilerModel", name := "turned", desc := "(JI)J" } : MethodName)) ∈ lw_tbl := List.mem_of_getElem? (i := 1293) (by decide +kernel)
set_option maxRecDepth 20000 in
theorem mw_1191 : (Cond.code ({ cls := "PolicyCompilerModel", name := "turned", desc := "(JI)J" } : MethodName) prog_12_method_40_code (7 : Nat) (Option.some FieldType.long)) ∈ lw_tbl := List.mem_of_getElem? (i := 1294) rfl
set_option maxRecDepth 20000 in
theorem mw_1192 : (Cond.methodLink "PolicyCompilerModel" (225 : Nat) ({ cls := "PolicyCompilerModel", name := "reached", desc := "(II)J" } : MethodName)) ∈ lw_tbl := List.mem_of_getElem? (i := 1295) (by decide +kernel)
set_option maxRecDepth 20000 in
theorem mw_1194 : (Cond.instanceMethod ({ cls := "PolicyCompilerModel", name := "reached", desc := "(II)J" } : MethodName)) ∈ lw_tbl := List.mem_of_getElem? (i := 1297) (by decide +kernel)
set_option maxRecDepth 20000 in
theorem mw_1195 : (Cond.code ({ cls := "PolicyCompilerModel", name := "reached", desc := "(II)J" } : MethodName) prog_12_method_41_code (7 : Nat) (Option.some FieldType.long)) ∈ lw_tbl := List.mem_of_getElem? (i := 1298) rfl
set_option maxRecDepth 20000 in
theorem mw_1196 : (Cond.constantLong "PolicyCompilerModel" (223 : Nat) (-1 : Int64)) ∈ lw_tbl := List.mem_of_getElem? (i := 1299) (by decide +kernel)
set_option maxRecDepth 20000 in
theorem mw_1197 : (Cond.methodLink "PolicyCompilerLaw" (59 : Nat) ({ cls := "PolicyCompilerModel", name := "accepted", desc := "(I)J" } : MethodName)) ∈ lw_tbl := List.mem_of_getElem? (i := 1300) (by decide +kernel)
set_option maxRecDepth 20000 in
theorem mw_1198 : (Cond.instanceMethod ({ cls := "PolicyCompilerModel", name := "accepted", desc := "(I)J" } : MethodName)) ∈ lw_tbl := List.mem_of_getElem? (i := 1301) (by decide +kernel)
set_option maxRecDepth 20000 in
theorem mw_1199 : (Cond.selects "PolicyCompilerModel" ({ cls := "PolicyCompilerModel", name := "accepted", desc := "(I)J" } : MethodName) ({ cls := "PolicyCompilerModel", name := "accepted", desc := "(I)J" } : MethodName)) ∈ lw_tbl := List.mem_of_getElem? (i := 1302) (by decide +kernel)
set_option maxRecDepth 20000 in
theorem mw_1200 : (Cond.code ({ cls := "PolicyCompilerModel", name := "accepted", desc := "(I)J" } : MethodName) prog_12_method_48_code (2 : Nat) (Option.some FieldType.long)) ∈ lw_tbl := List.mem_of_getElem? (i := 1303) rfl
set_option maxRecDepth 20000 in
theorem mw_1201 : (Cond.methodLink "PolicyCompilerModel" (244 : Nat) ({ cls := "PolicyCompilerModel", name := "acceptedOf", desc := "(I)J" } : MethodName)) ∈ lw_tbl := List.mem_of_getElem? (i := 1304) (by decide +kernel)
set_option maxRecDepth 20000 in
theorem mw_1203 : (Cond.instanceMethod ({ cls := "PolicyCompilerModel", name := "acceptedOf", desc := "(I)J" } : MethodName)) ∈ lw_tbl := List.mem_of_getElem? (i := 1306) (by decide +kernel)
set_option maxRecDepth 20000 in
theorem mw_1204 : (Cond.code ({ cls := "PolicyCompilerModel", name := "acceptedOf", desc := "(I)J" } : MethodName) prog_12_method_47_code (5 : Nat) (Option.some FieldType.long)) ∈ lw_tbl := List.mem_of_getElem? (i := 1307) rfl
set_option maxRecDepth 20000 in
theorem mw_1205 : (Cond.methodLink "PolicyCompilerLaw" (63 : Nat) ({ cls := "PolicyCompilerModel", name := "spread", desc := "(I)I" } : MethodName)) ∈ lw_tbl := List.mem_of_getElem? (i := 1308) (by decide +kernel)
set_option maxRecDepth 20000 in
theorem mw_1206 : (Cond.instanceMethod ({ cls := "PolicyCompilerModel", name := "spread", desc := "(I)I" } : MethodName)) ∈ lw_tbl := List.mem_of_getElem? (i := 1309) (by decide +kernel)
set_option maxRecDepth 20000 in
theorem mw_1207 : (Cond.selects "PolicyCompilerModel" ({ cls := "PolicyCompilerModel", name := "spread", desc := "(I)I" } : MethodName) ({ cls := "PolicyCompilerModel", name := "spread", desc := "(I)I" } : MethodName)) ∈ lw_tbl := List.mem_of_getElem? (i := 1310) (by decide +kernel)
set_option maxRecDepth 20000 in
theorem mw_1208 : (Cond.code ({ cls := "PolicyCompilerModel", name := "spread", desc := "(I)I" } : MethodName) prog_12_method_51_code (2 : Nat) (Option.some FieldType.int)) ∈ lw_tbl := List.mem_of_getElem? (i := 1311) rfl
set_option maxRecDepth 20000 in
theorem mw_1209 : (Cond.methodLink "PolicyCompilerModel" (252 : Nat) ({ cls := "PolicyCompilerModel", name := "spreadOf", desc := "(I)I" } : MethodName)) ∈ lw_tbl := List.mem_of_getElem? (i := 1312) (by decide +kernel)
set_option maxRecDepth 20000 in
theorem mw_1211 : (Cond.instanceMethod ({ cls := "PolicyCompilerModel", name := "spreadOf", desc := "(I)I" } : MethodName)) ∈ lw_tbl := List.mem_of_getElem? (i := 1314) (by decide +kernel)
set_option maxRecDepth 20000 in
theorem mw_1212 : (Cond.code ({ cls := "PolicyCompilerModel", name := "spreadOf", desc := "(I)I" } : MethodName) prog_12_method_50_code (4 : Nat) (Option.some FieldType.int)) ∈ lw_tbl := List.mem_of_getElem? (i := 1315) rfl
set_option maxRecDepth 20000 in
theorem mw_1213 : (Cond.methodLink "PolicyCompilerModel" (248 : Nat) ({ cls := "PolicyCompilerModel", name := "ones", desc := "(J)I" } : MethodName)) ∈ lw_tbl := List.mem_of_getElem? (i := 1316) (by decide +kernel)
set_option maxRecDepth 20000 in
theorem mw_1214 : (Cond.static ({ cls := "PolicyCompilerModel", name := "ones", desc := "(J)I" } : MethodName)) ∈ lw_tbl := List.mem_of_getElem? (i := 1317) (by decide +kernel)
set_option maxRecDepth 20000 in
theorem mw_1215 : (Cond.code ({ cls := "PolicyCompilerModel", name := "ones", desc := "(J)I" } : MethodName) prog_12_method_49_code (4 : Nat) (Option.some FieldType.int)) ∈ lw_tbl := List.mem_of_getElem? (i := 1318) rfl
set_option maxRecDepth 20000 in
theorem mw_1216 : (Cond.methodLink "PolicyCompilerLaw" (67 : Nat) ({ cls := "PolicyCompilerModel", name := "rounds", desc := "(I)I" } : MethodName)) ∈ lw_tbl := List.mem_of_getElem? (i := 1319) (by decide +kernel)
set_option maxRecDepth 20000 in
theorem mw_1217 : (Cond.instanceMethod ({ cls := "PolicyCompilerModel", name := "rounds", desc := "(I)I" } : MethodName)) ∈ lw_tbl := List.mem_of_getElem? (i := 1320) (by decide +kernel)
set_option maxRecDepth 20000 in
theorem mw_1218 : (Cond.selects "PolicyCompilerModel" ({ cls := "PolicyCompilerModel", name := "rounds", desc := "(I)I" } : MethodName) ({ cls := "PolicyCompilerModel", name := "rounds", desc := "(I)I" } : MethodName)) ∈ lw_tbl := List.mem_of_getElem? (i := 1321) (by decide +kernel)
set_option maxRecDepth 20000 in
theorem mw_1219 : (Cond.code ({ cls := "PolicyCompilerModel", name := "rounds", desc := "(I)I" } : MethodName) prog_12_method_53_code (2 : Nat) (Option.some FieldType.int)) ∈ lw_tbl := List.mem_of_getElem? (i := 1322) rfl
set_option maxRecDepth 20000 in
theorem mw_1220 : (Cond.methodLink "PolicyCompilerModel" (255 : Nat) ({ cls := "PolicyCompilerModel", name := "roundsOf", desc := "(I)I" } : MethodName)) ∈ lw_tbl := List.mem_of_getElem? (i := 1323) (by decide +kernel)
set_option maxRecDepth 20000 in
theorem mw_1222 : (Cond.instanceMethod ({ cls := "PolicyCompilerModel", name := "roundsOf", desc := "(I)I" } : MethodName)) ∈ lw_tbl := List.mem_of_getElem? (i := 1325) (by decide +kernel)
set_option maxRecDepth 20000 in
theorem mw_1223 : (Cond.code ({ cls := "PolicyCompilerModel", name := "roundsOf", desc := "(I)I" } : MethodName) prog_12_method_52_code (6 : Nat) (Option.some FieldType.int)) ∈ lw_tbl := List.mem_of_getElem? (i := 1326) rfl
set_option maxRecDepth 20000 in
theorem mw_1224 : (Cond.methodLink "PolicyCompilerLaw" (71 : Nat) ({ cls := "PolicyCompilerModel", name := "compare", desc := "(II)I" } : MethodName)) ∈ lw_tbl := List.mem_of_getElem? (i := 1327) (by decide +kernel)
set_option maxRecDepth 20000 in
theorem mw_1225 : (Cond.instanceMethod ({ cls := "PolicyCompilerModel", name := "compare", desc := "(II)I" } : MethodName)) ∈ lw_tbl := List.mem_of_getElem? (i := 1328) (by decide +kernel)
set_option maxRecDepth 20000 in
theorem mw_1226 : (Cond.selects "PolicyCompilerModel" ({ cls := "PolicyCompilerModel", name := "compare", desc := "(II)I" } : MethodName) ({ cls := "PolicyCompilerModel", name := "compare", desc := "(II)I" } : MethodName)) ∈ lw_tbl := List.mem_of_getElem? (i := 1329) (by decide +kernel)
set_option maxRecDepth 20000 in
theorem mw_1227 : (Cond.code ({ cls := "PolicyCompilerModel", name := "compare", desc := "(II)I" } : MethodName) prog_12_method_56_code (3 : Nat) (Option.some FieldType.int)) ∈ lw_tbl := List.mem_of_getElem? (i := 1330) rfl
set_option maxRecDepth 20000 in
theorem mw_1228 : (Cond.methodLink "PolicyCompilerModel" (261 : Nat) ({ cls := "PolicyCompilerModel", name := "compared", desc := "(II)I" } : MethodName)) ∈ lw_tbl := List.mem_of_getElem? (i := 1331) (by decide +kernel)
set_option maxRecDepth 20000 in
theorem mw_1230 : (Cond.instanceMethod ({ cls := "PolicyCompilerModel", name := "compared", desc := "(II)I" } : MethodName)) ∈ lw_tbl := List.mem_of_getElem? (i := 1333) (by decide +kernel)
set_option maxRecDepth 20000 in
theorem mw_1231 : (Cond.code ({ cls := "PolicyCompilerModel", name := "compared", desc := "(II)I" } : MethodName) prog_12_method_55_code (6 : Nat) (Option.some FieldType.int)) ∈ lw_tbl := List.mem_of_getElem? (i := 1334) rfl
set_option maxRecDepth 20000 in
theorem mw_1232 : (Cond.methodLink "PolicyCompilerModel" (258 : Nat) ({ cls := "PolicyCompilerModel", name := "laysBoth", desc := "(II)V" } : MethodName)) ∈ lw_tbl := List.mem_of_getElem? (i := 1335) (by decide +kernel)
set_option maxRecDepth 20000 in
theorem mw_1234 : (Cond.instanceMethod ({ cls := "PolicyCompilerModel", name := "laysBoth", desc := "(II)V" } : MethodName)) ∈ lw_tbl := List.mem_of_getElem? (i := 1337) (by decide +kernel)
set_option maxRecDepth 20000 in
theorem mw_1235 : (Cond.code ({ cls := "PolicyCompilerModel", name := "laysBoth", desc := "(II)V" } : MethodName) prog_12_method_54_code (4 : Nat) (Option.none : Option ClassFile.FieldType)) ∈ lw_tbl := List.mem_of_getElem? (i := 1338) rfl
set_option maxRecDepth 20000 in
theorem mw_1236 : (Cond.methodLink "PolicyCompilerLaw" (75 : Nat) ({ cls := "PolicyCompilerModel", name := "witness", desc := "(II)I" } : MethodName)) ∈ lw_tbl := List.mem_of_getElem? (i := 1339) (by decide +kernel)
set_option maxRecDepth 20000 in
theorem mw_1237 : (Cond.instanceMethod ({ cls := "PolicyCompilerModel", name := "witness", desc := "(II)I" } : MethodName)) ∈ lw_tbl := List.mem_of_getElem? (i := 1340) (by decide +kernel)
set_option maxRecDepth 20000 in
theorem mw_1238 : (Cond.selects "PolicyCompilerModel" ({ cls := "PolicyCompilerModel", name := "witness", desc := "(II)I" } : MethodName) ({ cls := "PolicyCompilerModel", name := "witness", desc := "(II)I" } : MethodName)) ∈ lw_tbl := List.mem_of_getElem? (i := 1341) (by decide +kernel)
set_option maxRecDepth 20000 in
theorem mw_1239 : (Cond.code ({ cls := "PolicyCompilerModel", name := "witness", desc := "(II)I" } : MethodName) prog_12_method_58_code (3 : Nat) (Option.some FieldType.int)) ∈ lw_tbl := List.mem_of_getElem? (i := 1342) rfl
set_option maxRecDepth 20000 in
theorem mw_1240 : (Cond.methodLink "PolicyCompilerModel" (264 : Nat) ({ cls := "PolicyCompilerModel", name := "witnessOf", desc := "(II)I" } : MethodName)) ∈ lw_tbl := List.mem_of_getElem? (i := 1343) (by decide +kernel)
set_option maxRecDepth 20000 in
theorem mw_1242 : (Cond.instanceMethod ({ cls := "PolicyCompilerModel", name := "witnessOf", desc := "(II)I" } : MethodName)) ∈ lw_tbl := List.mem_of_getElem? (i := 1345) (by decide +kernel)
set_option maxRecDepth 20000 in
theorem mw_1243 : (Cond.code ({ cls := "PolicyCompilerModel", name := "witnessOf", desc := "(II)I" } : MethodName) prog_12_method_57_code (4 : Nat) (Option.some FieldType.int)) ∈ lw_tbl := List.mem_of_getElem? (i := 1346) rfl
set_option maxRecDepth 20000 in
theorem mw_1244 : (Cond.methodLink "PolicyCompilerLaw" (79 : Nat) ({ cls := "PolicyCompilerModel", name := "difference", desc := "(II)I" } : MethodName)) ∈ lw_tbl := List.mem_of_getElem? (i := 1347) (by decide +kernel)
set_option maxRecDepth 20000 in
theorem mw_1245 : (Cond.instanceMethod ({ cls := "PolicyCompilerModel", name := "difference", desc := "(II)I" } : MethodName)) ∈ lw_tbl := List.mem_of_getElem? (i := 1348) (by decide +kernel)
set_option maxRecDepth 20000 in
theorem mw_1246 : (Cond.selects "PolicyCompilerModel" ({ cls := "PolicyCompilerModel", name := "difference", desc := "(II)I" } : MethodName) ({ cls := "PolicyCompilerModel", name := "difference", desc := "(II)I" } : MethodName)) ∈ lw_tbl := List.mem_of_getElem? (i := 1349) (by decide +kernel)
set_option maxRecDepth 20000 in
theorem mw_1247 : (Cond.code ({ cls := "PolicyCompilerModel", name := "difference", desc := "(II)I" } : MethodName) prog_12_method_59_code (5 : Nat) (Option.some FieldType.int)) ∈ lw_tbl := List.mem_of_getElem? (i := 1350) rfl
set_option maxRecDepth 20000 in
theorem mw_1248 : (Cond.methodLink "PolicyCompilerLaw" (83 : Nat) ({ cls := "PolicyCompilerModel", name := "diagramSize", desc := "(I)I" } : MethodName)) ∈ lw_tbl := List.mem_of_getElem? (i := 1351) (by decide +kernel)
set_option maxRecDepth 20000 in
theorem mw_1249 : (Cond.instanceMethod ({ cls := "PolicyCompilerModel", name := "diagramSize", desc := "(I)I" } : MethodName)) ∈ lw_tbl := List.mem_of_getElem? (i := 1352) (by decide +kernel)
set_option maxRecDepth 20000 in
theorem mw_1250 : (Cond.selects "PolicyCompilerModel" ({ cls := "PolicyCompilerModel", name := "diagramSize", desc := "(I)I" } : MethodName) ({ cls := "PolicyCompilerModel", name := "diagramSize", desc := "(I)I" } : MethodName)) ∈ lw_tbl := List.mem_of_getElem? (i := 1353) (by decide +kernel)
set_option maxRecDepth 20000 in
theorem mw_1251 : (Cond.code ({ cls := "PolicyCompilerModel", name := "diagramSize", desc := "(I)I" } : MethodName) prog_12_method_68_code (2 : Nat) (Option.some FieldType.int)) ∈ lw_tbl := List.mem_of_getElem? (i := 1354) rfl
set_option maxRecDepth 20000 in
theorem mw_1252 : (Cond.methodLink "PolicyCompilerModel" (294 : Nat) ({ cls := "PolicyCompilerModel", name := "sizeOf", desc := "(I)I" } : MethodName)) ∈ lw_tbl := List.mem_of_getElem? (i := 1355) (by decide +kernel)
set_option maxRecDepth 20000 in
theorem mw_1254 : (Cond.instanceMethod ({ cls := "PolicyCompilerModel", name := "sizeOf", desc := "(I)I" } : MethodName)) ∈ lw_tbl := List.mem_of_getElem? (i := 1357) (by decide +kernel)
set_option maxRecDepth 20000 in
theorem mw_1255 : (Cond.code ({ cls := "PolicyCompilerModel", name := "sizeOf", desc := "(I)I" } : MethodName) prog_12_method_67_code (2 : Nat) (Option.some FieldType.int)) ∈ lw_tbl := List.mem_of_getElem? (i := 1358) rfl
set_option maxRecDepth 20000 in
theorem mw_1256 : (Cond.methodLink "PolicyCompilerModel" (291 : Nat) ({ cls := "PolicyCompilerModel", name := "drawsAlone", desc := "(I)I" } : MethodName)) ∈ lw_tbl := List.mem_of_getElem? (i := 1359) (by decide +kernel)
set_option maxRecDepth 20000 in
theorem mw_1258 : (Cond.instanceMethod ({ cls := "PolicyCompilerModel", name := "drawsAlone", desc := "(I)I" } : MethodName)) ∈ lw_tbl := List.mem_of_getElem? (i := 1361) (by decide +kernel)
set_option maxRecDepth 20000 in
theorem mw_1259 : (Cond.code ({ cls := "PolicyCompilerModel", name := "drawsAlone", desc := "(I)I" } : MethodName) prog_12_method_66_code (2 : Nat) (Option.some FieldType.int)) ∈ lw_tbl := List.mem_of_getElem? (i := 1362) rfl
set_option maxRecDepth 20000 in
theorem mw_1260 : (Cond.methodLink "PolicyCompilerModel" (285 : Nat) ({ cls := "PolicyCompilerModel", name := "clears", desc := "()V" } : MethodName)) ∈ lw_tbl := List.mem_of_getElem? (i := 1363) (by decide +kernel)
set_option maxRecDepth 20000 in
theorem mw_1262 : (Cond.instanceMethod ({ cls := "PolicyCompilerModel", name := "clears", desc := "()V" } : MethodName)) ∈ lw_tbl := List.mem_of_getElem? (i := 1365) (by decide +kernel)
set_option maxRecDepth 20000 in
theorem mw_1263 : (Cond.code ({ cls := "PolicyCompilerModel", name := "clears", desc := "()V" } : MethodName) prog_12_method_65_code (2 : Nat) (Option.none : Option ClassFile.FieldType)) ∈ lw_tbl := List.mem_of_getElem? (i := 1366) rfl
set_option maxRecDepth 20000 in
theorem mw_1264 : (Cond.methodLink "PolicyCompilerModel" (288 : Nat) ({ cls := "PolicyCompilerModel", name := "draws", desc := "(II)I" } : MethodName)) ∈ lw_tbl := List.mem_of_getElem? (i := 1367) (by decide +kernel)
set_option maxRecDepth 20000 in
theorem mw_1266 : (Cond.instanceMethod ({ cls := "PolicyCompilerModel", name := "draws", desc := "(II)I" } : MethodName)) ∈ lw_tbl := List.mem_of_getElem? (i := 1369) (by decide +kernel)
set_option maxRecDepth 20000 in
theorem mw_1267 : (Cond.code ({ cls := "PolicyCompilerModel", name := "draws", desc := "(II)I" } : MethodName) prog_12_method_64_code (6 : Nat) (Option.some FieldType.int)) ∈ lw_tbl := List.mem_of_getElem? (i := 1370) rfl
set_option maxRecDepth 20000 in
theorem mw_1268 : (Cond.methodLink "PolicyCompilerModel" (279 : Nat) ({ cls := "PolicyCompilerModel", name := "leafOf", desc := "(I)I" } : MethodName)) ∈ lw_tbl := List.mem_of_getElem? (i := 1371) (by decide +kernel)
set_option maxRecDepth 20000 in
theorem mw_1270 : (Cond.instanceMethod ({ cls := "PolicyCompilerModel", name := "leafOf", desc := "(I)I" } : MethodName)) ∈ lw_tbl := List.mem_of_getElem? (i := 1373) (by decide +kernel)
set_option maxRecDepth 20000 in
theorem mw_1271 : (Cond.code ({ cls := "PolicyCompilerModel", name := "leafOf", desc := "(I)I" } : MethodName) prog_12_method_61_code (8 : Nat) (Option.some FieldType.int)) ∈ lw_tbl := List.mem_of_getElem? (i := 1374) rfl
set_option maxRecDepth 20000 in
theorem mw_1272 : (Cond.methodLink "PolicyCompilerModel" (267 : Nat) ({ cls := "PolicyCompilerModel", name := "actionOf", desc := "(II)I" } : MethodName)) ∈ lw_tbl := List.mem_of_getElem? (i := 1375) (by decide +kernel)
set_option maxRecDepth 20000 in
theorem mw_1273 : (Cond.static ({ cls := "PolicyCompilerModel", name := "actionOf", desc := "(II)I" } : MethodName)) ∈ lw_tbl := List.mem_of_getElem? (i := 1376) (by decide +kernel)
set_option maxRecDepth 20000 in
theorem mw_1274 : (Cond.code ({ cls := "PolicyCompilerModel", name := "actionOf", desc := "(II)I" } : MethodName) prog_12_method_60_code (4 : Nat) (Option.some FieldType.int)) ∈ lw_tbl := List.mem_of_getElem? (i := 1377) rfl
set_option maxRecDepth 20000 in
theorem mw_1275 : (Cond.methodLink "PolicyCompilerModel" (282 : Nat) ({ cls := "PolicyCompilerModel", name := "nodeOver", desc := "(II)I" } : MethodName)) ∈ lw_tbl := List.mem_of_getElem? (i := 1378) (by decide +kernel)
set_option maxRecDepth 20000 in
theorem mw_1277 : (Cond.instanceMethod ({ cls := "PolicyCompilerModel", name := "nodeOver", desc := "(II)I" } : MethodName)) ∈ lw_tbl := List.mem_of_getElem? (i := 1380) (by decide +kernel)
set_option maxRecDepth 20000 in
theorem mw_1278 : (Cond.code ({ cls := "PolicyCompilerModel", name := "nodeOver", desc := "(II)I" } : MethodName) prog_12_method_62_code (6 : Nat) (Option.some FieldType.int)) ∈ lw_tbl := List.mem_of_getElem? (i := 1381) rfl
set_option maxRecDepth 20000 in
theorem mw_1279 : (Cond.methodLink "PolicyCompilerModel" (276 : Nat) ({ cls := "PolicyCompilerModel", name := "isTest", desc := "(III)Z" } : MethodName)) ∈ lw_tbl := List.mem_of_getElem? (i := 1382) (by decide +kernel)
set_option maxRecDepth 20000 in
theorem mw_1281 : (Cond.instanceMethod ({ cls := "PolicyCompilerModel", name := "isTest", desc := "(III)Z" } : MethodName)) ∈ lw_tbl := List.mem_of_getElem? (i := 1384) (by decide +kernel)
set_option maxRecDepth 20000 in
theorem mw_1282 : (Cond.code ({ cls := "PolicyCompilerModel", name := "isTest", desc := "(III)Z" } : MethodName) prog_12_method_63_code (6 : Nat) (Option.some FieldType.boolean)) ∈ lw_tbl := List.mem_of_getElem? (i := 1385) rfl
set_option maxRecDepth 20000 in
theorem mw_1283 : (Cond.methodLink "PolicyCompilerLaw" (87 : Nat) ({ cls := "PolicyCompilerModel", name := "leaves", desc := "(I)I" } : MethodName)) ∈ lw_tbl := List.mem_of_getElem? (i := 1386) (by decide +kernel)
set_option maxRecDepth 20000 in
theorem mw_1284 : (Cond.instanceMethod ({ cls := "PolicyCompilerModel", name := "leaves", desc := "(I)I" } : MethodName)) ∈ lw_tbl := List.mem_of_getElem? (i := 1387) (by decide +kernel)
set_option maxRecDepth 20000 in
theorem mw_1285 : (Cond.selects "PolicyCompilerModel" ({ cls := "PolicyCompilerModel", name := "leaves", desc := "(I)I" } : MethodName) ({ cls := "PolicyCompilerModel", name := "leaves", desc := "(I)I" } : MethodName)) ∈ lw_tbl := List.mem_of_getElem? (i := 1388) (by decide +kernel)
set_option maxRecDepth 20000 in
theorem mw_1286 : (Cond.code ({ cls := "PolicyCompilerModel", name := "leaves", desc := "(I)I" } : MethodName) prog_12_method_70_code (2 : Nat) (Option.some FieldType.int)) ∈ lw_tbl := List.mem_of_getElem? (i := 1389) rfl
set_option maxRecDepth 20000 in
theorem mw_1287 : (Cond.methodLink "PolicyCompilerModel" (297 : Nat) ({ cls := "PolicyCompilerModel", name := "leavesOf", desc := "(I)I" } : MethodName)) ∈ lw_tbl := List.mem_of_getElem? (i := 1390) (by decide +kernel)
set_option maxRecDepth 20000 in
theorem mw_1289 : (Cond.instanceMethod ({ cls := "PolicyCompilerModel", name := "leavesOf", desc := "(I)I" } : MethodName)) ∈ lw_tbl := List.mem_of_getElem? (i := 1392) (by decide +kernel)
set_option maxRecDepth 20000 in
theorem mw_1290 : (Cond.code ({ cls := "PolicyCompilerModel", name := "leavesOf", desc := "(I)I" } : MethodName) prog_12_method_69_code (2 : Nat) (Option.some FieldType.int)) ∈ lw_tbl := List.mem_of_getElem? (i := 1393) rfl
set_option maxRecDepth 20000 in
theorem mw_1291 : (Cond.methodLink "PolicyCompilerLaw" (91 : Nat) ({ cls := "PolicyCompilerModel", name := "diagramDepth", desc := "(I)I" } : MethodName)) ∈ lw_tbl := List.mem_of_getElem? (i := 1394) (by decide +kernel)
set_option maxRecDepth 20000 in
theorem mw_1292 : (Cond.instanceMethod ({ cls := "PolicyCompilerModel", name := "diagramDepth", desc := "(I)I" } : MethodName)) ∈ lw_tbl := List.mem_of_getElem? (i := 1395) (by decide +kernel)
set_option maxRecDepth 20000 in
theorem mw_1293 : (Cond.selects "PolicyCompilerModel" ({ cls := "PolicyCompilerModel", name := "diagramDepth", desc := "(I)I" } : MethodName) ({ cls := "PolicyCompilerModel", name := "diagramDepth", desc := "(I)I" } : MethodName)) ∈ lw_tbl := List.mem_of_getElem? (i := 1396) (by decide +kernel)
set_option maxRecDepth 20000 in
theorem mw_1294 : (Cond.code ({ cls := "PolicyCompilerModel", name := "diagramDepth", desc := "(I)I" } : MethodName) prog_12_method_72_code (2 : Nat) (Option.some FieldType.int)) ∈ lw_tbl := List.mem_of_getElem? (i := 1397) rfl
set_option maxRecDepth 20000 in
theorem mw_1295 : (Cond.methodLink "PolicyCompilerModel" (300 : Nat) ({ cls := "PolicyCompilerModel", name := "depthOf", desc := "(I)I" } : MethodName)) ∈ lw_tbl := List.mem_of_getElem? (i := 1398) (by decide +kernel)
set_option maxRecDepth 20000 in
theorem mw_1297 : (Cond.instanceMethod ({ cls := "PolicyCompilerModel", name := "depthOf", desc := "(I)I" } : MethodName)) ∈ lw_tbl := List.mem_of_getElem? (i := 1400) (by decide +kernel)
set_option maxRecDepth 20000 in
theorem mw_1298 : (Cond.code ({ cls := "PolicyCompilerModel", name := "depthOf", desc := "(I)I" } : MethodName) prog_12_method_71_code (7 : Nat) (Option.some FieldType.int)) ∈ lw_tbl := List.mem_of_getElem? (i := 1401) rfl
set_option maxRecDepth 20000 in
theorem mw_1299 : (Cond.methodLink "PolicyCompilerLaw" (95 : Nat) ({ cls := "PolicyCompilerModel", name := "sharedNodes", desc := "(II)I" } : MethodName)) ∈ lw_tbl := List.mem_of_getElem? (i := 1402) (by decide +kernel)
set_option maxRecDepth 20000 in
theorem mw_1300 : (Cond.instanceMethod ({ cls := "PolicyCompilerModel", name := "sharedNodes", desc := "(II)I" } : MethodName)) ∈ lw_tbl := List.mem_of_getElem? (i := 1403) (by decide +kernel)
set_option maxRecDepth 20000 in
theorem mw_1301 : (Cond.selects "PolicyCompilerModel" ({ cls := "PolicyCompilerModel", name := "sharedNodes", desc := "(II)I" } : MethodName) ({ cls := "PolicyCompilerModel", name := "sharedNodes", desc := "(II)I" } : MethodName)) ∈ lw_tbl := List.mem_of_getElem? (i := 1404) (by decide +kernel)
set_option maxRecDepth 20000 in
theorem mw_1302 : (Cond.code ({ cls := "PolicyCompilerModel", name := "sharedNodes", desc := "(II)I" } : MethodName) prog_12_method_73_code (7 : Nat) (Option.some FieldType.int)) ∈ lw_tbl := List.mem_of_getElem? (i := 1405) rfl
set_option maxRecDepth 20000 in
theorem mw_1303 : (Cond.methodLink "PolicyCompilerLaw" (99 : Nat) ({ cls := "PolicyCompilerModel", name := "rows", desc := "(I)I" } : MethodName)) ∈ lw_tbl := List.mem_of_getElem? (i := 1406) (by decide +kernel)
set_option maxRecDepth 20000 in
theorem mw_1304 : (Cond.instanceMethod ({ cls := "PolicyCompilerModel", name := "rows", desc := "(I)I" } : MethodName)) ∈ lw_tbl := List.mem_of_getElem? (i := 1407) (by decide +kernel)
set_option maxRecDepth 20000 in
theorem mw_1305 : (Cond.selects "PolicyCompilerModel" ({ cls := "PolicyCompilerModel", name := "rows", desc := "(I)I" } : MethodName) ({ cls := "PolicyCompilerModel", name := "rows", desc := "(I)I" } : MethodName)) ∈ lw_tbl := List.mem_of_getElem? (i := 1408) (by decide +kernel)
set_option maxRecDepth 20000 in
theorem mw_1306 : (Cond.code ({ cls := "PolicyCompilerModel", name := "rows", desc := "(I)I" } : MethodName) prog_12_method_78_code (2 : Nat) (Option.some FieldType.int)) ∈ lw_tbl := List.mem_of_getElem? (i := 1409) rfl
set_option maxRecDepth 20000 in
theorem mw_1307 : (Cond.methodLink "PolicyCompilerModel" (312 : Nat) ({ cls := "PolicyCompilerModel", name := "tabulates", desc := "(I)V" } : MethodName)) ∈ lw_tbl := List.mem_of_getElem? (i := 1410) (by decide +kernel)
set_option maxRecDepth 20000 in
theorem mw_1309 : (Cond.instanceMethod ({ cls := "PolicyCompilerModel", name := "tabulates", desc := "(I)V" } : MethodName)) ∈ lw_tbl := List.mem_of_getElem? (i := 1412) (by decide +kernel)
set_option maxRecDepth 20000 in
theorem mw_1310 : (Cond.code ({ cls := "PolicyCompilerModel", name := "tabulates", desc := "(I)V" } : MethodName) prog_12_method_76_code (8 : Nat) (Option.none : Option ClassFile.FieldType)) ∈ lw_tbl := List.mem_of_getElem? (i := 1413) rfl
set_option maxRecDepth 20000 in
theorem mw_1311 : (Cond.methodLink "PolicyCompilerModel" (306 : Nat) ({ cls := "PolicyCompilerModel", name := "mainOf", desc := "(I)I" } : MethodName)) ∈ lw_tbl := List.mem_of_getElem? (i := 1414) (by decide +kernel)
set_option maxRecDepth 20000 in
theorem mw_1313 : (Cond.instanceMethod ({ cls := "PolicyCompilerModel", name := "mainOf", desc := "(I)I" } : MethodName)) ∈ lw_tbl := List.mem_of_getElem? (i := 1416) (by decide +kernel)
set_option maxRecDepth 20000 in
theorem mw_1314 : (Cond.code ({ cls := "PolicyCompilerModel", name := "mainOf", desc := "(I)I" } : MethodName) prog_12_method_75_code (7 : Nat) (Option.some FieldType.int)) ∈ lw_tbl := List.mem_of_getElem? (i := 1417) rfl
set_option maxRecDepth 20000 in
theorem mw_1315 : (Cond.methodLink "PolicyCompilerModel" (309 : Nat) ({ cls := "PolicyCompilerModel", name := "fives", desc := "(I)I" } : MethodName)) ∈ lw_tbl := List.mem_of_getElem? (i := 1418) (by decide +kernel)
set_option maxRecDepth 20000 in
theorem mw_1316 : (Cond.static ({ cls := "PolicyCompilerModel", name := "fives", desc := "(I)I" } : MethodName)) ∈ lw_tbl := List.mem_of_getElem? (i := 1419) (by decide +kernel)
set_option maxRecDepth 20000 in
theorem mw_1317 : (Cond.code ({ cls := "PolicyCompilerModel", name := "fives", desc := "(I)I" } : MethodName) prog_12_method_74_code (1 : Nat) (Option.some FieldType.int)) ∈ lw_tbl := List.mem_of_getElem? (i := 1420) rfl
set_option maxRecDepth 20000 in
theorem mw_1318 : (Cond.methodLink "PolicyCompilerLaw" (103 : Nat) ({ cls := "PolicyCompilerModel", name := "match", desc := "(III)I" } : MethodName)) ∈ lw_tbl := List.mem_of_getElem? (i := 1421) (by decide +kernel)
set_option maxRecDepth 20000 in
theorem mw_1319 : (Cond.instanceMethod ({ cls := "PolicyCompilerModel", name := "match", desc := "(III)I" } : MethodName)) ∈ lw_tbl := List.mem_of_getElem? (i := 1422) (by decide +kernel)
set_option maxRecDepth 20000 in
theorem mw_1320 : (Cond.selects "PolicyCompilerModel" ({ cls := "PolicyCompilerModel", name := "match", desc := "(III)I" } : MethodName) ({ cls := "PolicyCompilerModel", name := "match", desc := "(III)I" } : MethodName)) ∈ lw_tbl := List.mem_of_getElem? (i := 1423) (by decide +kernel)
set_option maxRecDepth 20000 in
theorem mw_1321 : (Cond.code ({ cls := "PolicyCompilerModel", name := "match", desc := "(III)I" } : MethodName) prog_12_method_80_code (4 : Nat) (Option.some FieldType.int)) ∈ lw_tbl := List.mem_of_getElem? (i := 1424) rfl
set_option maxRecDepth 20000 in
theorem mw_1322 : (Cond.methodLink "PolicyCompilerModel" (315 : Nat) ({ cls := "PolicyCompilerModel", name := "hasRow", desc := "(II)Z" } : MethodName)) ∈ lw_tbl := List.mem_of_getElem? (i := 1425) (by decide +kernel)
set_option maxRecDepth 20000 in
theorem mw_1324 : (Cond.instanceMethod ({ cls := "PolicyCompilerModel", name := "hasRow", desc := "(II)Z" } : MethodName)) ∈ lw_tbl := List.mem_of_getElem? (i := 1427) (by decide +kernel)
set_option maxRecDepth 20000 in
theorem mw_1325 : (Cond.code ({ cls := "PolicyCompilerModel", name := "hasRow", desc := "(II)Z" } : MethodName) prog_12_method_79_code (3 : Nat) (Option.some FieldType.boolean)) ∈ lw_tbl := List.mem_of_getElem? (i := 1428) rfl
set_option maxRecDepth 20000 in
theorem mw_1326 : (Cond.methodLink "PolicyCompilerModel" (319 : Nat) ({ cls := "PolicyCompilerModel", name := "demandOf", desc := "(II)I" } : MethodName)) ∈ lw_tbl := List.mem_of_getElem? (i := 1429) (by decide +kernel)
set_option maxRecDepth 20000 in
theorem mw_1327 : (Cond.static ({ cls := "PolicyCompilerModel", name := "demandOf", desc := "(II)I" } : MethodName)) ∈ lw_tbl := List.mem_of_getElem? (i := 1430) (by decide +kernel)
set_option maxRecDepth 20000 in
theorem mw_1328 : (Cond.code ({ cls := "PolicyCompilerModel", name := "demandOf", desc := "(II)I" } : MethodName) prog_12_method_77_code (2 : Nat) (Option.some FieldType.int)) ∈ lw_tbl := List.mem_of_getElem? (i := 1431) rfl
set_option maxRecDepth 20000 in
theorem mw_1329 : (Cond.methodLink "PolicyCompilerLaw" (107 : Nat) ({ cls := "PolicyCompilerModel", name := "action", desc := "(III)I" } : MethodName)) ∈ lw_tbl := List.mem_of_getElem? (i := 1432) (by decide +kernel)
set_option maxRecDepth 20000 in
theorem mw_1330 : (Cond.instanceMethod ({ cls := "PolicyCompilerModel", name := "action", desc := "(III)I" } : MethodName)) ∈ lw_tbl := List.mem_of_getElem? (i := 1433) (by decide +kernel)
set_option maxRecDepth 20000 in
theorem mw_1331 : (Cond.selects "PolicyCompilerModel" ({ cls := "PolicyCompilerModel", name := "action", desc := "(III)I" } : MethodName) ({ cls := "PolicyCompilerModel", name := "action", desc := "(III)I" } : MethodName)) ∈ lw_tbl := List.mem_of_getElem? (i := 1434) (by decide +kernel)
set_option maxRecDepth 20000 in
theorem mw_1332 : (Cond.code ({ cls := "PolicyCompilerModel", name := "action", desc := "(III)I" } : MethodName) prog_12_method_83_code (4 : Nat) (Option.some FieldType.int)) ∈ lw_tbl := List.mem_of_getElem? (i := 1435) rfl
set_option maxRecDepth 20000 in
theorem mw_1333 : (Cond.methodLink "PolicyCompilerModel" (325 : Nat) ({ cls := "PolicyCompilerModel", name := "actionAt", desc := "(II)I" } : MethodName)) ∈ lw_tbl := List.mem_of_getElem? (i := 1436) (by decide +kernel)
set_option maxRecDepth 20000 in
theorem mw_1335 : (Cond.instanceMethod ({ cls := "PolicyCompilerModel", name := "actionAt", desc := "(II)I" } : MethodName)) ∈ lw_tbl := List.mem_of_getElem? (i := 1438) (by decide +kernel)
set_option maxRecDepth 20000 in
theorem mw_1336 : (Cond.code ({ cls := "PolicyCompilerModel", name := "actionAt", desc := "(II)I" } : MethodName) prog_12_method_82_code (5 : Nat) (Option.some FieldType.int)) ∈ lw_tbl := List.mem_of_getElem? (i := 1439) rfl
set_option maxRecDepth 20000 in
theorem mw_1337 : (Cond.methodLink "PolicyCompilerModel" (322 : Nat) ({ cls := "PolicyCompilerModel", name := "hasAction", desc := "(II)Z" } : MethodName)) ∈ lw_tbl := List.mem_of_getElem? (i := 1440) (by decide +kernel)
set_option maxRecDepth 20000 in
theorem mw_1339 : (Cond.instanceMethod ({ cls := "PolicyCompilerModel", name := "hasAction", desc := "(II)Z" } : MethodName)) ∈ lw_tbl := List.mem_of_getElem? (i := 1442) (by decide +kernel)
set_option maxRecDepth 20000 in
theorem mw_1340 : (Cond.code ({ cls := "PolicyCompilerModel", name := "hasAction", desc := "(II)Z" } : MethodName) prog_12_method_81_code (5 : Nat) (Option.some FieldType.boolean)) ∈ lw_tbl := List.mem_of_getElem? (i := 1443) rfl
set_option maxRecDepth 20000 in
theorem mw_1341 : (Cond.methodLink "PolicyCompilerLaw" (111 : Nat) ({ cls := "PolicyCompilerModel", name := "hit", desc := "(II)I" } : MethodName)) ∈ lw_tbl := List.mem_of_getElem? (i := 1444) (by decide +kernel)
set_option maxRecDepth 20000 in
theorem mw_1342 : (Cond.instanceMethod ({ cls := "PolicyCompilerModel", name := "hit", desc := "(II)I" } : MethodName)) ∈ lw_tbl := List.mem_of_getElem? (i := 1445) (by decide +kernel)
set_option maxRecDepth 20000 in
theorem mw_1343 : (Cond.selects "PolicyCompilerModel" ({ cls := "PolicyCompilerModel", name := "hit", desc := "(II)I" } : MethodName) ({ cls := "PolicyCompilerModel", name := "hit", desc := "(II)I" } : MethodName)) ∈ lw_tbl := List.mem_of_getElem? (i := 1446) (by decide +kernel)
set_option maxRecDepth 20000 in
theorem mw_1344 : (Cond.code ({ cls := "PolicyCompilerModel", name := "hit", desc := "(II)I" } : MethodName) prog_12_method_85_code (3 : Nat) (Option.some FieldType.int)) ∈ lw_tbl := List.mem_of_getElem? (i := 1447) rfl
set_option maxRecDepth 20000 in
theorem mw_1345 : (Cond.methodLink "PolicyCompilerModel" (328 : Nat) ({ cls := "PolicyCompilerModel", name := "hitOf", desc := "(I)I" } : MethodName)) ∈ lw_tbl := List.mem_of_getElem? (i := 1448) (by decide +kernel)
set_option maxRecDepth 20000 in
theorem mw_1347 : (Cond.instanceMethod ({ cls := "PolicyCompilerModel", name := "hitOf", desc := "(I)I" } : MethodName)) ∈ lw_tbl := List.mem_of_getElem? (i := 1450) (by decide +kernel)
set_option maxRecDepth 20000 in
theorem mw_1348 : (Cond.code ({ cls := "PolicyCompilerModel", name := "hitOf", desc := "(I)I" } : MethodName) prog_12_method_84_code (6 : Nat) (Option.some FieldType.int)) ∈ lw_tbl := List.mem_of_getElem? (i := 1451) rfl
set_option maxRecDepth 20000 in
theorem mw_1349 : (Cond.methodLink "PolicyCompilerLaw" (115 : Nat) ({ cls := "PolicyCompilerModel", name := "hits", desc := "(II)I" } : MethodName)) ∈ lw_tbl := List.mem_of_getElem? (i := 1452) (by decide +kernel)
set_option maxRecDepth 20000 in
theorem mw_1350 : (Cond.instanceMethod ({ cls := "PolicyCompilerModel", name := "hits", desc := "(II)I" } : MethodName)) ∈ lw_tbl := List.mem_of_getElem? (i := 1453) (by decide +kernel)
set_option maxRecDepth 20000 in
theorem mw_1351 : (Cond.selects "PolicyCompilerModel" ({ cls := "PolicyCompilerModel", name := "hits", desc := "(II)I" } : MethodName) ({ cls := "PolicyCompilerModel", name := "hits", desc := "(II)I" } : MethodName)) ∈ lw_tbl := List.mem_of_getElem? (i := 1454) (by decide +kernel)
set_option maxRecDepth 20000 in
theorem mw_1352 : (Cond.code ({ cls := "PolicyCompilerModel", name := "hits", desc := "(II)I" } : MethodName) prog_12_method_86_code (5 : Nat) (Option.some FieldType.int)) ∈ lw_tbl := List.mem_of_getElem? (i := 1455) rfl
set_option maxRecDepth 20000 in
theorem mw_1353 : (Cond.methodLink "PolicyCompilerLaw" (123 : Nat) ({ cls := "PolicyCompilerModel", name := "errorCount", desc := "(I)I" } : MethodName)) ∈ lw_tbl := List.mem_of_getElem? (i := 1456) (by decide +kernel)
set_option maxRecDepth 20000 in
theorem mw_1354 : (Cond.instanceMethod ({ cls := "PolicyCompilerModel", name := "errorCount", desc := "(I)I" } : MethodName)) ∈ lw_tbl := List.mem_of_getElem? (i := 1457) (by decide +kernel)
set_option maxRecDepth 20000 in
theorem mw_1355 : (Cond.selects "PolicyCompilerModel" ({ cls := "PolicyCompilerModel", name := "errorCount", desc := "(I)I" } : MethodName) ({ cls := "PolicyCompilerModel", name := "errorCount", desc := "(I)I" } : MethodName)) ∈ lw_tbl := List.mem_of_getElem? (i := 1458) (by decide +kernel)
set_option maxRecDepth 20000 in
theorem mw_1356 : (Cond.code ({ cls := "PolicyCompilerModel", name := "errorCount", desc := "(I)I" } : MethodName) prog_12_method_87_code (2 : Nat) (Option.some FieldType.int)) ∈ lw_tbl := List.mem_of_getElem? (i := 1459) rfl
set_option maxRecDepth 20000 in
theorem mw_1357 : (Cond.methodLink "PolicyCompilerLaw" (128 : Nat) ({ cls := "PolicyCompilerModel", name := "digest", desc := "()J" } : MethodName)) ∈ lw_tbl := List.mem_of_getElem? (i := 1460) (by decide +kernel)
set_option maxRecDepth 20000 in
theorem mw_1358 : (Cond.instanceMethod ({ cls := "PolicyCompilerModel", name := "digest", desc := "()J" } : MethodName)) ∈ lw_tbl := List.mem_of_getElem? (i := 1461) (by decide +kernel)
set_option maxRecDepth 20000 in
theorem mw_1359 : (Cond.selects "PolicyCompilerModel" ({ cls := "PolicyCompilerModel", name := "digest", desc := "()J" } : MethodName) ({ cls := "PolicyCompilerModel", name := "digest", desc := "()J" } : MethodName)) ∈ lw_tbl := List.mem_of_getElem? (i := 1462) (by decide +kernel)
set_option maxRecDepth 20000 in
theorem mw_1360 : (Cond.code ({ cls := "PolicyCompilerModel", name := "digest", desc := "()J" } : MethodName) prog_12_method_90_code (3 : Nat) (Option.some FieldType.long)) ∈ lw_tbl := List.mem_of_getElem? (i := 1463) rfl
set_option maxRecDepth 20000 in
theorem mw_1361 : (Cond.constantLong "PolicyCompilerModel" (341 : Nat) (2729 : Int64)) ∈ lw_tbl := List.mem_of_getElem? (i := 1464) (by decide +kernel)
set_option maxRecDepth 20000 in
theorem mw_1362 : (Cond.methodLink "PolicyCompilerModel" (337 : Nat) ({ cls := "PolicyCompilerModel", name := "mix", desc := "(J)V" } : MethodName)) ∈ lw_tbl := List.mem_of_getElem? (i := 1465) (by decide +kernel)
set_option maxRecDepth 20000 in
theorem mw_1364 : (Cond.instanceMethod ({ cls := "PolicyCompilerModel", name := "mix", desc := "(J)V" } : MethodName)) ∈ lw_tbl := List.mem_of_getElem? (i := 1467) (by decide +kernel)
set_option maxRecDepth 20000 in
theorem mw_1365 : (Cond.code ({ cls := "PolicyCompilerModel", name := "mix", desc := "(J)V" } : MethodName) prog_12_method_88_code (3 : Nat) (Option.none : Option ClassFile.FieldType)) ∈ lw_tbl := List.mem_of_getElem? (i := 1468) rfl
set_option maxRecDepth 20000 in
theorem mw_1366 : (Cond.constantLong "PolicyCompilerModel" (331 : Nat) (31 : Int64)) ∈ lw_tbl := List.mem_of_getElem? (i := 1469) (by decide +kernel)
set_option maxRecDepth 20000 in
theorem mw_1367 : (Cond.methodLink "PolicyCompilerModel" (343 : Nat) ({ cls := "PolicyCompilerModel", name := "mixSlot", desc := "(I)V" } : MethodName)) ∈ lw_tbl := List.mem_of_getElem? (i := 1470) (by decide +kernel)
set_option maxRecDepth 20000 in
theorem mw_1369 : (Cond.instanceMethod ({ cls := "PolicyCompilerModel", name := "mixSlot", desc := "(I)V" } : MethodName)) ∈ lw_tbl := List.mem_of_getElem? (i := 1472) (by decide +kernel)
set_option maxRecDepth 20000 in
theorem mw_1370 : (Cond.code ({ cls := "PolicyCompilerModel", name := "mixSlot", desc := "(I)V" } : MethodName) prog_12_method_89_code (4 : Nat) (Option.none : Option ClassFile.FieldType)) ∈ lw_tbl := List.mem_of_getElem? (i := 1473) rfl
set_option maxRecDepth 20000 in
theorem mp_0 : Cond.selects "PolicyCompiler" ⟨"PolicyCompiler", "fail", "(I)I"⟩ ⟨"PolicyCompiler", "fail", "(I)I"⟩ ∈ lw_tbl := List.mem_of_getElem? (i := 0) (by decide +kernel)
set_option maxRecDepth 20000 in
theorem mp_1 : Cond.selects "PolicyCompiler$Parser" ⟨"PolicyCompiler$Parser", "takeFactor", "(II[LPolicyCompiler$Slot;)V"⟩ ⟨"PolicyCompiler$Parser", "takeFactor", "(II[LPolicyCompiler$Slot;)V"⟩ ∈ lw_tbl := List.mem_of_getElem? (i := 1) (by decide +kernel)
set_option maxRecDepth 20000 in
theorem mp_2 : Cond.selects "PolicyCompiler$Parser" ⟨"PolicyCompiler$Parser", "open", "(II)V"⟩ ⟨"PolicyCompiler$Parser", "open", "(II)V"⟩ ∈ lw_tbl := List.mem_of_getElem? (i := 2) (by decide +kernel)
set_option maxRecDepth 20000 in
theorem mp_3 : Cond.selects "PolicyCompiler$Parser" ⟨"PolicyCompiler$Parser", "endLeaf", "(III)V"⟩ ⟨"PolicyCompiler$Parser", "endLeaf", "(III)V"⟩ ∈ lw_tbl := List.mem_of_getElem? (i := 3) (by decide +kernel)
set_option maxRecDepth 20000 in
theorem mp_4 : Cond.selects "PolicyCompiler$Parser" ⟨"PolicyCompiler$Parser", "pushOperand", "(Z)V"⟩ ⟨"PolicyCompiler$Parser", "pushOperand", "(Z)V"⟩ ∈ lw_tbl := List.mem_of_getElem? (i := 4) (by decide +kernel)
set_option maxRecDepth 20000 in
theorem mp_5 : Cond.selects "PolicyCompiler$Parser" ⟨"PolicyCompiler$Parser", "takeSign", "(II)V"⟩ ⟨"PolicyCompiler$Parser", "takeSign", "(II)V"⟩ ∈ lw_tbl := List.mem_of_getElem? (i := 5) (by decide +kernel)
set_option maxRecDepth 20000 in
theorem mp_6 : Cond.selects "PolicyCompiler$Parser" ⟨"PolicyCompiler$Parser", "takeDigit", "(II)V"⟩ ⟨"PolicyCompiler$Parser", "takeDigit", "(II)V"⟩ ∈ lw_tbl := List.mem_of_getElem? (i := 6) (by decide +kernel)
set_option maxRecDepth 20000 in
theorem mp_7 : Cond.selects "PolicyCompiler$Parser" ⟨"PolicyCompiler$Parser", "takeBehindAtom", "(II)V"⟩ ⟨"PolicyCompiler$Parser", "takeBehindAtom", "(II)V"⟩ ∈ lw_tbl := List.mem_of_getElem? (i := 7) (by decide +kernel)
set_option maxRecDepth 20000 in
theorem mp_8 : Cond.selects "PolicyCompiler$Parser" ⟨"PolicyCompiler$Parser", "popOperand", "()Z"⟩ ⟨"PolicyCompiler$Parser", "popOperand", "()Z"⟩ ∈ lw_tbl := List.mem_of_getElem? (i := 8) (by decide +kernel)
set_option maxRecDepth 20000 in
theorem mp_9 : Cond.selects "PolicyCompiler$Parser" ⟨"PolicyCompiler$Parser", "topIsPredicate", "()Z"⟩ ⟨"PolicyCompiler$Parser", "topIsPredicate", "()Z"⟩ ∈ lw_tbl := List.mem_of_getElem? (i := 9) (by decide +kernel)
set_option maxRecDepth 20000 in
theorem mp_10 : Cond.selects "PolicyCompiler$Parser" ⟨"PolicyCompiler$Parser", "endFactor", "()V"⟩ ⟨"PolicyCompiler$Parser", "endFactor", "()V"⟩ ∈ lw_tbl := List.mem_of_getElem? (i := 10) (by decide +kernel)
set_option maxRecDepth 20000 in
theorem mp_11 : Cond.selects "PolicyCompiler$Parser" ⟨"PolicyCompiler$Parser", "innermost", "()I"⟩ ⟨"PolicyCompiler$Parser", "innermost", "()I"⟩ ∈ lw_tbl := List.mem_of_getElem? (i := 11) (by decide +kernel)
set_option maxRecDepth 20000 in
theorem mp_12 : Cond.selects "PolicyCompiler$Parser" ⟨"PolicyCompiler$Parser", "innermostBegin", "()I"⟩ ⟨"PolicyCompiler$Parser", "innermostBegin", "()I"⟩ ∈ lw_tbl := List.mem_of_getElem? (i := 12) (by decide +kernel)
set_option maxRecDepth 20000 in
theorem mp_13 : Cond.selects "PolicyCompiler$Parser" ⟨"PolicyCompiler$Parser", "endPair", "(II)V"⟩ ⟨"PolicyCompiler$Parser", "endPair", "(II)V"⟩ ∈ lw_tbl := List.mem_of_getElem? (i := 13) (by decide +kernel)
set_option maxRecDepth 20000 in
theorem mp_14 : Cond.selects "PolicyCompiler$Parser" ⟨"PolicyCompiler$Parser", "endUnion", "()V"⟩ ⟨"PolicyCompiler$Parser", "endUnion", "()V"⟩ ∈ lw_tbl := List.mem_of_getElem? (i := 14) (by decide +kernel)
set_option maxRecDepth 20000 in
theorem mp_15 : Cond.selects "PolicyCompiler$Parser" ⟨"PolicyCompiler$Parser", "takeBracket", "(II)V"⟩ ⟨"PolicyCompiler$Parser", "takeBracket", "(II)V"⟩ ∈ lw_tbl := List.mem_of_getElem? (i := 15) (by decide +kernel)
set_option maxRecDepth 20000 in
theorem mp_16 : Cond.selects "PolicyCompiler$Parser" ⟨"PolicyCompiler$Parser", "endChoice", "()V"⟩ ⟨"PolicyCompiler$Parser", "endChoice", "()V"⟩ ∈ lw_tbl := List.mem_of_getElem? (i := 16) (by decide +kernel)
set_option maxRecDepth 20000 in
theorem mp_17 : Cond.selects "PolicyCompiler$Parser" ⟨"PolicyCompiler$Parser", "finish", "(I)V"⟩ ⟨"PolicyCompiler$Parser", "finish", "(I)V"⟩ ∈ lw_tbl := List.mem_of_getElem? (i := 17) (by decide +kernel)
set_option maxRecDepth 20000 in
theorem mp_18 : Cond.selects "PolicyCompiler" ⟨"PolicyCompiler", "store", "(LPolicyCompiler$Policy;I)I"⟩ ⟨"PolicyCompiler", "store", "(LPolicyCompiler$Policy;I)I"⟩ ∈ lw_tbl := List.mem_of_getElem? (i := 18) (by decide +kernel)
set_option maxRecDepth 20000 in
theorem mp_19 : Cond.selects "PolicyCompiler$History" ⟨"PolicyCompiler$History", "dropOldest", "()V"⟩ ⟨"PolicyCompiler$History", "dropOldest", "()V"⟩ ∈ lw_tbl := List.mem_of_getElem? (i := 19) (by decide +kernel)
set_option maxRecDepth 20000 in
theorem mp_20 : Cond.selects "PolicyCompiler$Printout" ⟨"PolicyCompiler$Printout", "measured", "(LPolicyCompiler$Policy;I)I"⟩ ⟨"PolicyCompiler$Printout", "measured", "(LPolicyCompiler$Policy;I)I"⟩ ∈ lw_tbl := List.mem_of_getElem? (i := 20) (by decide +kernel)
set_option maxRecDepth 20000 in
theorem mp_21 : Cond.selects "PolicyCompiler$Policy" ⟨"PolicyCompiler$Policy", "nodeAt", "(I)I"⟩ ⟨"PolicyCompiler$Policy", "nodeAt", "(I)I"⟩ ∈ lw_tbl := List.mem_of_getElem? (i := 21) (by decide +kernel)
set_option maxRecDepth 20000 in
theorem mp_22 : Cond.selects "PolicyCompiler$Printout" ⟨"PolicyCompiler$Printout", "printNode", "(LPolicyCompiler$Policy;I)V"⟩ ⟨"PolicyCompiler$Printout", "printNode", "(LPolicyCompiler$Policy;I)V"⟩ ∈ lw_tbl := List.mem_of_getElem? (i := 22) (by decide +kernel)
set_option maxRecDepth 20000 in
theorem mp_23 : Cond.selects "PolicyCompiler$Printout" ⟨"PolicyCompiler$Printout", "innerPlace", "(I)I"⟩ ⟨"PolicyCompiler$Printout", "innerPlace", "(I)I"⟩ ∈ lw_tbl := List.mem_of_getElem? (i := 23) (by decide +kernel)
set_option maxRecDepth 20000 in
theorem mp_24 : Cond.selects "PolicyCompiler$Printout" ⟨"PolicyCompiler$Printout", "put", "(II)V"⟩ ⟨"PolicyCompiler$Printout", "put", "(II)V"⟩ ∈ lw_tbl := List.mem_of_getElem? (i := 24) (by decide +kernel)
set_option maxRecDepth 20000 in
theorem mp_25 : Cond.selects "PolicyCompiler$Printout" ⟨"PolicyCompiler$Printout", "printLeaf", "(LPolicyCompiler$Policy;II)V"⟩ ⟨"PolicyCompiler$Printout", "printLeaf", "(LPolicyCompiler$Policy;II)V"⟩ ∈ lw_tbl := List.mem_of_getElem? (i := 25) (by decide +kernel)
set_option maxRecDepth 20000 in
theorem mp_26 : Cond.selects "PolicyCompiler$Printout" ⟨"PolicyCompiler$Printout", "printPair", "(LPolicyCompiler$Policy;II)V"⟩ ⟨"PolicyCompiler$Printout", "printPair", "(LPolicyCompiler$Policy;II)V"⟩ ∈ lw_tbl := List.mem_of_getElem? (i := 26) (by decide +kernel)
set_option maxRecDepth 20000 in
theorem mp_27 : Cond.selects "PolicyCompiler$Printout" ⟨"PolicyCompiler$Printout", "placed", "(II)I"⟩ ⟨"PolicyCompiler$Printout", "placed", "(II)I"⟩ ∈ lw_tbl := List.mem_of_getElem? (i := 27) (by decide +kernel)
set_option maxRecDepth 20000 in
theorem mp_28 : Cond.selects "PolicyCompiler$Printout" ⟨"PolicyCompiler$Printout", "printChoice", "(LPolicyCompiler$Policy;I)V"⟩ ⟨"PolicyCompiler$Printout", "printChoice", "(LPolicyCompiler$Policy;I)V"⟩ ∈ lw_tbl := List.mem_of_getElem? (i := 28) (by decide +kernel)
set_option maxRecDepth 20000 in
theorem mp_29 : Cond.selects "PolicyCompiler$Evaluator" ⟨"PolicyCompiler$Evaluator", "evaluateNode", "(LPolicyCompiler$Policy;I)V"⟩ ⟨"PolicyCompiler$Evaluator", "evaluateNode", "(LPolicyCompiler$Policy;I)V"⟩ ∈ lw_tbl := List.mem_of_getElem? (i := 29) (by decide +kernel)
set_option maxRecDepth 20000 in
theorem mp_30 : Cond.selects "PolicyCompiler$Evaluator" ⟨"PolicyCompiler$Evaluator", "unite", "(III)V"⟩ ⟨"PolicyCompiler$Evaluator", "unite", "(III)V"⟩ ∈ lw_tbl := List.mem_of_getElem? (i := 30) (by decide +kernel)
set_option maxRecDepth 20000 in
theorem mp_31 : Cond.selects "PolicyCompiler$Evaluator" ⟨"PolicyCompiler$Evaluator", "imageOf", "(II)J"⟩ ⟨"PolicyCompiler$Evaluator", "imageOf", "(II)J"⟩ ∈ lw_tbl := List.mem_of_getElem? (i := 31) (by decide +kernel)
set_option maxRecDepth 20000 in
theorem mp_32 : Cond.selects "PolicyCompiler$Evaluator" ⟨"PolicyCompiler$Evaluator", "assign", "(IIJ)V"⟩ ⟨"PolicyCompiler$Evaluator", "assign", "(IIJ)V"⟩ ∈ lw_tbl := List.mem_of_getElem? (i := 32) (by decide +kernel)
set_option maxRecDepth 20000 in
theorem mp_33 : Cond.selects "PolicyCompiler$Evaluator" ⟨"PolicyCompiler$Evaluator", "chain", "(III)V"⟩ ⟨"PolicyCompiler$Evaluator", "chain", "(III)V"⟩ ∈ lw_tbl := List.mem_of_getElem? (i := 33) (by decide +kernel)
set_option maxRecDepth 20000 in
theorem mp_34 : Cond.selects "PolicyCompiler$Evaluator" ⟨"PolicyCompiler$Evaluator", "repeat", "(II)V"⟩ ⟨"PolicyCompiler$Evaluator", "repeat", "(II)V"⟩ ∈ lw_tbl := List.mem_of_getElem? (i := 34) (by decide +kernel)
set_option maxRecDepth 20000 in
theorem mp_35 : Cond.selects "PolicyCompiler$Evaluator" ⟨"PolicyCompiler$Evaluator", "negate", "(II)V"⟩ ⟨"PolicyCompiler$Evaluator", "negate", "(II)V"⟩ ∈ lw_tbl := List.mem_of_getElem? (i := 35) (by decide +kernel)
set_option maxRecDepth 20000 in
theorem mp_36 : Cond.selects "PolicyCompiler$Evaluator" ⟨"PolicyCompiler$Evaluator", "choose", "(IIII)V"⟩ ⟨"PolicyCompiler$Evaluator", "choose", "(IIII)V"⟩ ∈ lw_tbl := List.mem_of_getElem? (i := 36) (by decide +kernel)
set_option maxRecDepth 20000 in
theorem mp_37 : Cond.selects "PolicyCompiler$Evaluator" ⟨"PolicyCompiler$Evaluator", "evaluateLeaf", "(LPolicyCompiler$Policy;I)V"⟩ ⟨"PolicyCompiler$Evaluator", "evaluateLeaf", "(LPolicyCompiler$Policy;I)V"⟩ ∈ lw_tbl := List.mem_of_getElem? (i := 37) (by decide +kernel)
set_option maxRecDepth 20000 in
theorem mp_38 : Cond.selects "PolicyCompiler$Diagram" ⟨"PolicyCompiler$Diagram", "leafFor", "(IJ)I"⟩ ⟨"PolicyCompiler$Diagram", "leafFor", "(IJ)I"⟩ ∈ lw_tbl := List.mem_of_getElem? (i := 38) (by decide +kernel)
set_option maxRecDepth 20000 in
theorem mp_39 : Cond.selects "PolicyCompiler$Diagram" ⟨"PolicyCompiler$Diagram", "leafWith", "(JJ)I"⟩ ⟨"PolicyCompiler$Diagram", "leafWith", "(JJ)I"⟩ ∈ lw_tbl := List.mem_of_getElem? (i := 39) (by decide +kernel)
set_option maxRecDepth 20000 in
theorem mp_40 : Cond.selects "PolicyCompiler$Diagram" ⟨"PolicyCompiler$Diagram", "newLeaf", "(JJ)I"⟩ ⟨"PolicyCompiler$Diagram", "newLeaf", "(JJ)I"⟩ ∈ lw_tbl := List.mem_of_getElem? (i := 40) (by decide +kernel)
set_option maxRecDepth 20000 in
theorem mp_41 : Cond.selects "PolicyCompiler$Diagram" ⟨"PolicyCompiler$Diagram", "nodeFor", "(II)I"⟩ ⟨"PolicyCompiler$Diagram", "nodeFor", "(II)I"⟩ ∈ lw_tbl := List.mem_of_getElem? (i := 41) (by decide +kernel)
set_option maxRecDepth 20000 in
theorem mp_42 : Cond.selects "PolicyCompiler$Diagram" ⟨"PolicyCompiler$Diagram", "testWith", "(IIIII)I"⟩ ⟨"PolicyCompiler$Diagram", "testWith", "(IIIII)I"⟩ ∈ lw_tbl := List.mem_of_getElem? (i := 42) (by decide +kernel)
set_option maxRecDepth 20000 in
theorem mp_43 : Cond.selects "PolicyCompiler$Diagram" ⟨"PolicyCompiler$Diagram", "newTest", "(II)I"⟩ ⟨"PolicyCompiler$Diagram", "newTest", "(II)I"⟩ ∈ lw_tbl := List.mem_of_getElem? (i := 43) (by decide +kernel)
set_option maxRecDepth 20000 in
theorem mp_44 : Cond.selects "PolicyCompiler$Diagram" ⟨"PolicyCompiler$Diagram", "depthOf", "(I)I"⟩ ⟨"PolicyCompiler$Diagram", "depthOf", "(I)I"⟩ ∈ lw_tbl := List.mem_of_getElem? (i := 44) (by decide +kernel)
set_option maxRecDepth 20000 in
theorem mp_45 : Cond.selects "PolicyCompiler$Table" ⟨"PolicyCompiler$Table", "addRow", "(II)V"⟩ ⟨"PolicyCompiler$Table", "addRow", "(II)V"⟩ ∈ lw_tbl := List.mem_of_getElem? (i := 45) (by decide +kernel)
set_option maxRecDepth 20000 in
theorem mp_46 : Cond.selects "PolicyCompiler$Diagram" ⟨"PolicyCompiler$Diagram", "valuesLeadingTo", "(II)I"⟩ ⟨"PolicyCompiler$Diagram", "valuesLeadingTo", "(II)I"⟩ ∈ lw_tbl := List.mem_of_getElem? (i := 46) (by decide +kernel)
set_option maxRecDepth 20000 in
theorem mp_47 : Cond.selects "PolicyCompiler$Relation" ⟨"PolicyCompiler$Relation", "stepsFrom", "(I)I"⟩ ⟨"PolicyCompiler$Relation", "stepsFrom", "(I)I"⟩ ∈ lw_tbl := List.mem_of_getElem? (i := 47) (by decide +kernel)
set_option maxRecDepth 20000 in
theorem mp_48 : Cond.selects "PolicyCompiler$Diagram" ⟨"PolicyCompiler$Diagram", "twinOf", "(ILPolicyCompiler$Diagram;)I"⟩ ⟨"PolicyCompiler$Diagram", "twinOf", "(ILPolicyCompiler$Diagram;)I"⟩ ∈ lw_tbl := List.mem_of_getElem? (i := 48) (by decide +kernel)
set_option maxRecDepth 20000 in
theorem mp_49 : Cond.selects "PolicyCompiler$Diagram" ⟨"PolicyCompiler$Diagram", "twinOfChild", "(II)I"⟩ ⟨"PolicyCompiler$Diagram", "twinOfChild", "(II)I"⟩ ∈ lw_tbl := List.mem_of_getElem? (i := 49) (by decide +kernel)
set_option maxRecDepth 20000 in
theorem mp_50 : Cond.selects "PolicyCompilerModel" ⟨"PolicyCompilerModel", "fails", "(I)I"⟩ ⟨"PolicyCompilerModel", "fails", "(I)I"⟩ ∈ lw_tbl := List.mem_of_getElem? (i := 50) (by decide +kernel)
set_option maxRecDepth 20000 in
theorem mp_51 : Cond.selects "PolicyCompilerModel" ⟨"PolicyCompilerModel", "reads", "()I"⟩ ⟨"PolicyCompilerModel", "reads", "()I"⟩ ∈ lw_tbl := List.mem_of_getElem? (i := 51) (by decide +kernel)
set_option maxRecDepth 20000 in
theorem mp_52 : Cond.selects "PolicyCompilerModel" ⟨"PolicyCompilerModel", "isPredicateRow", "(I)Z"⟩ ⟨"PolicyCompilerModel", "isPredicateRow", "(I)Z"⟩ ∈ lw_tbl := List.mem_of_getElem? (i := 52) (by decide +kernel)
set_option maxRecDepth 20000 in
theorem mp_53 : Cond.selects "PolicyCompilerModel" ⟨"PolicyCompilerModel", "signOf", "(II)I"⟩ ⟨"PolicyCompilerModel", "signOf", "(II)I"⟩ ∈ lw_tbl := List.mem_of_getElem? (i := 53) (by decide +kernel)
set_option maxRecDepth 20000 in
theorem mp_54 : Cond.selects "PolicyCompilerModel" ⟨"PolicyCompilerModel", "waits", "(IZ)V"⟩ ⟨"PolicyCompilerModel", "waits", "(IZ)V"⟩ ∈ lw_tbl := List.mem_of_getElem? (i := 54) (by decide +kernel)
set_option maxRecDepth 20000 in
theorem mp_55 : Cond.selects "PolicyCompilerModel" ⟨"PolicyCompilerModel", "atom", "()I"⟩ ⟨"PolicyCompilerModel", "atom", "()I"⟩ ∈ lw_tbl := List.mem_of_getElem? (i := 55) (by decide +kernel)
set_option maxRecDepth 20000 in
theorem mp_56 : Cond.selects "PolicyCompilerModel" ⟨"PolicyCompilerModel", "byteAt", "(I)I"⟩ ⟨"PolicyCompilerModel", "byteAt", "(I)I"⟩ ∈ lw_tbl := List.mem_of_getElem? (i := 56) (by decide +kernel)
set_option maxRecDepth 20000 in
theorem mp_57 : Cond.selects "PolicyCompilerModel" ⟨"PolicyCompilerModel", "pushes", "(I)V"⟩ ⟨"PolicyCompilerModel", "pushes", "(I)V"⟩ ∈ lw_tbl := List.mem_of_getElem? (i := 57) (by decide +kernel)
set_option maxRecDepth 20000 in
theorem mp_58 : Cond.selects "PolicyCompilerModel" ⟨"PolicyCompilerModel", "field", "(I)I"⟩ ⟨"PolicyCompilerModel", "field", "(I)I"⟩ ∈ lw_tbl := List.mem_of_getElem? (i := 58) (by decide +kernel)
set_option maxRecDepth 20000 in
theorem mp_59 : Cond.selects "PolicyCompilerModel" ⟨"PolicyCompilerModel", "makes", "(I)V"⟩ ⟨"PolicyCompilerModel", "makes", "(I)V"⟩ ∈ lw_tbl := List.mem_of_getElem? (i := 59) (by decide +kernel)
set_option maxRecDepth 20000 in
theorem mp_60 : Cond.selects "PolicyCompilerModel" ⟨"PolicyCompilerModel", "copies", "(I)V"⟩ ⟨"PolicyCompilerModel", "copies", "(I)V"⟩ ∈ lw_tbl := List.mem_of_getElem? (i := 60) (by decide +kernel)
set_option maxRecDepth 20000 in
theorem mp_61 : Cond.selects "PolicyCompilerModel" ⟨"PolicyCompilerModel", "endsFactor", "()I"⟩ ⟨"PolicyCompilerModel", "endsFactor", "()I"⟩ ∈ lw_tbl := List.mem_of_getElem? (i := 61) (by decide +kernel)
set_option maxRecDepth 20000 in
theorem mp_62 : Cond.selects "PolicyCompilerModel" ⟨"PolicyCompilerModel", "lastOpen", "()I"⟩ ⟨"PolicyCompilerModel", "lastOpen", "()I"⟩ ∈ lw_tbl := List.mem_of_getElem? (i := 62) (by decide +kernel)
set_option maxRecDepth 20000 in
theorem mp_63 : Cond.selects "PolicyCompilerModel" ⟨"PolicyCompilerModel", "behind", "()I"⟩ ⟨"PolicyCompilerModel", "behind", "()I"⟩ ∈ lw_tbl := List.mem_of_getElem? (i := 63) (by decide +kernel)
set_option maxRecDepth 20000 in
theorem mp_64 : Cond.selects "PolicyCompilerModel" ⟨"PolicyCompilerModel", "joins", "(Z)V"⟩ ⟨"PolicyCompilerModel", "joins", "(Z)V"⟩ ∈ lw_tbl := List.mem_of_getElem? (i := 64) (by decide +kernel)
set_option maxRecDepth 20000 in
theorem mp_65 : Cond.selects "PolicyCompilerModel" ⟨"PolicyCompilerModel", "joinsTwo", "(I)V"⟩ ⟨"PolicyCompilerModel", "joinsTwo", "(I)V"⟩ ∈ lw_tbl := List.mem_of_getElem? (i := 65) (by decide +kernel)
set_option maxRecDepth 20000 in
theorem mp_66 : Cond.selects "PolicyCompilerModel" ⟨"PolicyCompilerModel", "keeps", "(I)I"⟩ ⟨"PolicyCompilerModel", "keeps", "(I)I"⟩ ∈ lw_tbl := List.mem_of_getElem? (i := 66) (by decide +kernel)
set_option maxRecDepth 20000 in
theorem mp_67 : Cond.selects "PolicyCompilerModel" ⟨"PolicyCompilerModel", "saves", "()V"⟩ ⟨"PolicyCompilerModel", "saves", "()V"⟩ ∈ lw_tbl := List.mem_of_getElem? (i := 67) (by decide +kernel)
set_option maxRecDepth 20000 in
theorem mp_68 : Cond.selects "PolicyCompilerModel" ⟨"PolicyCompilerModel", "prints", "(I)V"⟩ ⟨"PolicyCompilerModel", "prints", "(I)V"⟩ ∈ lw_tbl := List.mem_of_getElem? (i := 68) (by decide +kernel)
set_option maxRecDepth 20000 in
theorem mp_69 : Cond.selects "PolicyCompilerModel" ⟨"PolicyCompilerModel", "laysOperands", "(I)V"⟩ ⟨"PolicyCompilerModel", "laysOperands", "(I)V"⟩ ∈ lw_tbl := List.mem_of_getElem? (i := 69) (by decide +kernel)
set_option maxRecDepth 20000 in
theorem mp_70 : Cond.selects "PolicyCompilerModel" ⟨"PolicyCompilerModel", "shows", "(I)V"⟩ ⟨"PolicyCompilerModel", "shows", "(I)V"⟩ ∈ lw_tbl := List.mem_of_getElem? (i := 70) (by decide +kernel)
set_option maxRecDepth 20000 in
theorem mp_71 : Cond.selects "PolicyCompilerModel" ⟨"PolicyCompilerModel", "expands", "(II)V"⟩ ⟨"PolicyCompilerModel", "expands", "(II)V"⟩ ∈ lw_tbl := List.mem_of_getElem? (i := 71) (by decide +kernel)
set_option maxRecDepth 20000 in
theorem mp_72 : Cond.selects "PolicyCompilerModel" ⟨"PolicyCompilerModel", "pilesOperand", "(IZ)V"⟩ ⟨"PolicyCompilerModel", "pilesOperand", "(IZ)V"⟩ ∈ lw_tbl := List.mem_of_getElem? (i := 72) (by decide +kernel)
set_option maxRecDepth 20000 in
theorem mp_73 : Cond.selects "PolicyCompilerModel" ⟨"PolicyCompilerModel", "piles", "(I)V"⟩ ⟨"PolicyCompilerModel", "piles", "(I)V"⟩ ∈ lw_tbl := List.mem_of_getElem? (i := 73) (by decide +kernel)
set_option maxRecDepth 20000 in
theorem mp_74 : Cond.selects "PolicyCompilerModel" ⟨"PolicyCompilerModel", "outputsOf", "(II)J"⟩ ⟨"PolicyCompilerModel", "outputsOf", "(II)J"⟩ ∈ lw_tbl := List.mem_of_getElem? (i := 74) (by decide +kernel)
set_option maxRecDepth 20000 in
theorem mp_75 : Cond.selects "PolicyCompilerModel" ⟨"PolicyCompilerModel", "evaluates", "(I)V"⟩ ⟨"PolicyCompilerModel", "evaluates", "(I)V"⟩ ∈ lw_tbl := List.mem_of_getElem? (i := 75) (by decide +kernel)
set_option maxRecDepth 20000 in
theorem mp_76 : Cond.selects "PolicyCompilerModel" ⟨"PolicyCompilerModel", "simple", "(I)V"⟩ ⟨"PolicyCompilerModel", "simple", "(I)V"⟩ ∈ lw_tbl := List.mem_of_getElem? (i := 76) (by decide +kernel)
set_option maxRecDepth 20000 in
theorem mp_77 : Cond.selects "PolicyCompilerModel" ⟨"PolicyCompilerModel", "operates", "(I)V"⟩ ⟨"PolicyCompilerModel", "operates", "(I)V"⟩ ∈ lw_tbl := List.mem_of_getElem? (i := 77) (by decide +kernel)
set_option maxRecDepth 20000 in
theorem mp_78 : Cond.selects "PolicyCompilerModel" ⟨"PolicyCompilerModel", "turned", "(JI)J"⟩ ⟨"PolicyCompilerModel", "turned", "(JI)J"⟩ ∈ lw_tbl := List.mem_of_getElem? (i := 78) (by decide +kernel)
set_option maxRecDepth 20000 in
theorem mp_79 : Cond.selects "PolicyCompilerModel" ⟨"PolicyCompilerModel", "reached", "(II)J"⟩ ⟨"PolicyCompilerModel", "reached", "(II)J"⟩ ∈ lw_tbl := List.mem_of_getElem? (i := 79) (by decide +kernel)
set_option maxRecDepth 20000 in
theorem mp_80 : Cond.selects "PolicyCompilerModel" ⟨"PolicyCompilerModel", "acceptedOf", "(I)J"⟩ ⟨"PolicyCompilerModel", "acceptedOf", "(I)J"⟩ ∈ lw_tbl := List.mem_of_getElem? (i := 80) (by decide +kernel)
set_option maxRecDepth 20000 in
theorem mp_81 : Cond.selects "PolicyCompilerModel" ⟨"PolicyCompilerModel", "spreadOf", "(I)I"⟩ ⟨"PolicyCompilerModel", "spreadOf", "(I)I"⟩ ∈ lw_tbl := List.mem_of_getElem? (i := 81) (by decide +kernel)
set_option maxRecDepth 20000 in
theorem mp_82 : Cond.selects "PolicyCompilerModel" ⟨"PolicyCompilerModel", "roundsOf", "(I)I"⟩ ⟨"PolicyCompilerModel", "roundsOf", "(I)I"⟩ ∈ lw_tbl := List.mem_of_getElem? (i := 82) (by decide +kernel)
set_option maxRecDepth 20000 in
theorem mp_83 : Cond.selects "PolicyCompilerModel" ⟨"PolicyCompilerModel", "compared", "(II)I"⟩ ⟨"PolicyCompilerModel", "compared", "(II)I"⟩ ∈ lw_tbl := List.mem_of_getElem? (i := 83) (by decide +kernel)
set_option maxRecDepth 20000 in
theorem mp_84 : Cond.selects "PolicyCompilerModel" ⟨"PolicyCompilerModel", "laysBoth", "(II)V"⟩ ⟨"PolicyCompilerModel", "laysBoth", "(II)V"⟩ ∈ lw_tbl := List.mem_of_getElem? (i := 84) (by decide +kernel)
set_option maxRecDepth 20000 in
theorem mp_85 : Cond.selects "PolicyCompilerModel" ⟨"PolicyCompilerModel", "witnessOf", "(II)I"⟩ ⟨"PolicyCompilerModel", "witnessOf", "(II)I"⟩ ∈ lw_tbl := List.mem_of_getElem? (i := 85) (by decide +kernel)
set_option maxRecDepth 20000 in
theorem mp_86 : Cond.selects "PolicyCompilerModel" ⟨"PolicyCompilerModel", "sizeOf", "(I)I"⟩ ⟨"PolicyCompilerModel", "sizeOf", "(I)I"⟩ ∈ lw_tbl := List.mem_of_getElem? (i := 86) (by decide +kernel)
set_option maxRecDepth 20000 in
theorem mp_87 : Cond.selects "PolicyCompilerModel" ⟨"PolicyCompilerModel", "drawsAlone", "(I)I"⟩ ⟨"PolicyCompilerModel", "drawsAlone", "(I)I"⟩ ∈ lw_tbl := List.mem_of_getElem? (i := 87) (by decide +kernel)
set_option maxRecDepth 20000 in
theorem mp_88 : Cond.selects "PolicyCompilerModel" ⟨"PolicyCompilerModel", "clears", "()V"⟩ ⟨"PolicyCompilerModel", "clears", "()V"⟩ ∈ lw_tbl := List.mem_of_getElem? (i := 88) (by decide +kernel)
set_option maxRecDepth 20000 in
theorem mp_89 : Cond.selects "PolicyCompilerModel" ⟨"PolicyCompilerModel", "draws", "(II)I"⟩ ⟨"PolicyCompilerModel", "draws", "(II)I"⟩ ∈ lw_tbl := List.mem_of_getElem? (i := 89) (by decide +kernel)
set_option maxRecDepth 20000 in
theorem mp_90 : Cond.selects "PolicyCompilerModel" ⟨"PolicyCompilerModel", "leafOf", "(I)I"⟩ ⟨"PolicyCompilerModel", "leafOf", "(I)I"⟩ ∈ lw_tbl := List.mem_of_getElem? (i := 90) (by decide +kernel)
set_option maxRecDepth 20000 in
theorem mp_91 : Cond.selects "PolicyCompilerModel" ⟨"PolicyCompilerModel", "nodeOver", "(II)I"⟩ ⟨"PolicyCompilerModel", "nodeOver", "(II)I"⟩ ∈ lw_tbl := List.mem_of_getElem? (i := 91) (by decide +kernel)
set_option maxRecDepth 20000 in
theorem mp_92 : Cond.selects "PolicyCompilerModel" ⟨"PolicyCompilerModel", "isTest", "(III)Z"⟩ ⟨"PolicyCompilerModel", "isTest", "(III)Z"⟩ ∈ lw_tbl := List.mem_of_getElem? (i := 92) (by decide +kernel)
set_option maxRecDepth 20000 in
theorem mp_93 : Cond.selects "PolicyCompilerModel" ⟨"PolicyCompilerModel", "leavesOf", "(I)I"⟩ ⟨"PolicyCompilerModel", "leavesOf", "(I)I"⟩ ∈ lw_tbl := List.mem_of_getElem? (i := 93) (by decide +kernel)
set_option maxRecDepth 20000 in
theorem mp_94 : Cond.selects "PolicyCompilerModel" ⟨"PolicyCompilerModel", "depthOf", "(I)I"⟩ ⟨"PolicyCompilerModel", "depthOf", "(I)I"⟩ ∈ lw_tbl := List.mem_of_getElem? (i := 94) (by decide +kernel)
set_option maxRecDepth 20000 in
theorem mp_95 : Cond.selects "PolicyCompilerModel" ⟨"PolicyCompilerModel", "tabulates", "(I)V"⟩ ⟨"PolicyCompilerModel", "tabulates", "(I)V"⟩ ∈ lw_tbl := List.mem_of_getElem? (i := 95) (by decide +kernel)
set_option maxRecDepth 20000 in
theorem mp_96 : Cond.selects "PolicyCompilerModel" ⟨"PolicyCompilerModel", "mainOf", "(I)I"⟩ ⟨"PolicyCompilerModel", "mainOf", "(I)I"⟩ ∈ lw_tbl := List.mem_of_getElem? (i := 96) (by decide +kernel)
set_option maxRecDepth 20000 in
theorem mp_97 : Cond.selects "PolicyCompilerModel" ⟨"PolicyCompilerModel", "hasRow", "(II)Z"⟩ ⟨"PolicyCompilerModel", "hasRow", "(II)Z"⟩ ∈ lw_tbl := List.mem_of_getElem? (i := 97) (by decide +kernel)
set_option maxRecDepth 20000 in
theorem mp_98 : Cond.selects "PolicyCompilerModel" ⟨"PolicyCompilerModel", "actionAt", "(II)I"⟩ ⟨"PolicyCompilerModel", "actionAt", "(II)I"⟩ ∈ lw_tbl := List.mem_of_getElem? (i := 98) (by decide +kernel)
set_option maxRecDepth 20000 in
theorem mp_99 : Cond.selects "PolicyCompilerModel" ⟨"PolicyCompilerModel", "hasAction", "(II)Z"⟩ ⟨"PolicyCompilerModel", "hasAction", "(II)Z"⟩ ∈ lw_tbl := List.mem_of_getElem? (i := 99) (by decide +kernel)
set_option maxRecDepth 20000 in
theorem mp_100 : Cond.selects "PolicyCompilerModel" ⟨"PolicyCompilerModel", "hitOf", "(I)I"⟩ ⟨"PolicyCompilerModel", "hitOf", "(I)I"⟩ ∈ lw_tbl := List.mem_of_getElem? (i := 100) (by decide +kernel)
set_option maxRecDepth 20000 in
theorem mp_101 : Cond.selects "PolicyCompilerModel" ⟨"PolicyCompilerModel", "mix", "(J)V"⟩ ⟨"PolicyCompilerModel", "mix", "(J)V"⟩ ∈ lw_tbl := List.mem_of_getElem? (i := 101) (by decide +kernel)
set_option maxRecDepth 20000 in
theorem mp_102 : Cond.selects "PolicyCompilerModel" ⟨"PolicyCompilerModel", "mixSlot", "(I)V"⟩ ⟨"PolicyCompilerModel", "mixSlot", "(I)V"⟩ ∈ lw_tbl := List.mem_of_getElem? (i := 102) (by decide +kernel)
end
section
/-! THE PICTURE OF THE WORLD: place 0 is the script, the places 1 .. n the world's cells, one behind another -/
abbrev Hp : Type := Nat × Nat × (Nat → Nat × Nat) × (Nat → Nat → Int32) × (Nat → Nat → Int64) × (Nat → Nat → Option Nat)
def gN (h : Hp) : Nat := h.1
def gT (h : Hp) : Nat := h.2.1
def gS (h : Hp) : Nat → Nat × Nat := h.2.2.1
def gI (h : Hp) : Nat → Nat → Int32 := h.2.2.2.1
def gL (h : Hp) : Nat → Nat → Int64 := h.2.2.2.2.1
def gP (h : Hp) : Nat → Nat → Option Nat := h.2.2.2.2.2
def up2 {α : Type} (f : Nat → Nat → α) (a k : Nat) (x : α) : Nat → Nat → α := fun q => if q = a then va_up (f a) k x else f q
def sI (h : Hp) (a k : Nat) (x : Int32) : Hp := (h.1, h.2.1, h.2.2.1, up2 h.2.2.2.1 a k x, h.2.2.2.2.1, h.2.2.2.2.2)
def sL (h : Hp) (a k : Nat) (x : Int64) : Hp := (h.1, h.2.1, h.2.2.1, h.2.2.2.1, up2 h.2.2.2.2.1 a k x, h.2.2.2.2.2)
def sP (h : Hp) (a k : Nat) (x : Option Nat) : Hp := (h.1, h.2.1, h.2.2.1, h.2.2.2.1, h.2.2.2.2.1, up2 h.2.2.2.2.2 a k x)
def row0 {α : Type} (f : Nat → Nat → α) (a : Nat) (x : α) : Nat → Nat → α := fun q => if q = a then (fun _ => x) else f q
/-- a new cell of a kind, of a length, with so many slots -/
def nwc (h : Hp) (kd len sl : Nat) : Hp := (h.1 + 1, h.2.1 + sl, va_up h.2.2.1 (h.1 + 1) (kd, len), row0 h.2.2.2.1 (h.1 + 1) 0, row0 h.2.2.2.2.1 (h.1 + 1) 0, row0 h.2.2.2.2.2 (h.1 + 1) none)
def ad (z b k : Nat) : Nat := if k = 0 then b else z + (k - 1)
theorem ad_pos {z b k : Nat} (h : 1 ≤ k) : ad z b k = z + (k - 1) := if_neg (by omega)
def cv (z b : Nat) : Value → Value
  | .ref k => .ref (ad z b k)
  | v => v
theorem cv_cat (z b : Nat) (v : Value) : (cv z b v).category = v.category := by cases v <;> rfl
def tyF (ci : Nat) : Nat → FieldType := [tyX0, tyX1, tyX2, tyX3, tyX4, tyX5, tyX6, tyX7, tyX8, tyX9, tyX10].getD ci (fun _ => .int)
def nF (ci : Nat) : Nat := [10, 1, 3, 10, 4, 5, 1, 6, 3, 8, 43].getD ci 0
def fvl (z b : Nat) (h : Hp) (k j : Nat) (ty : FieldType) : Value := match ty with
  | .long => .long (gL h k j)
  | .object _ => va_rf ((gP h k j).map (ad z b))
  | .array _ => va_rf ((gP h k j).map (ad z b))
  | _ => .int (gI h k j)
def fl (z b : Nat) (h : Hp) (k ci : Nat) : List Value := (List.range (nF ci)).map (fun j => fvl z b h k j (tyF ci j))
def ce (z b : Nat) (dA : Nat → ClassId) (h : Hp) (k : Nat) : va_E := match (gS h k).1 with
  | 20 => .inl (dA 0, (gS h k).2, .inl (gI h k))
  | 21 => .inl (dA 1, (gS h k).2, .inl (gI h k))
  | 22 => .inl (dA 2, (gS h k).2, .inr (.inl (gL h k)))
  | 23 => .inl (dA 3, (gS h k).2, .inr (.inr (.inr (.inr (fun j => (gP h k j).map (ad z b))))))
  | 24 => .inl (dA 4, (gS h k).2, .inr (.inr (.inr (.inr (fun j => (gP h k j).map (ad z b))))))
  | ci => .inr (ci, fl z b h k ci)
def wsO (z b : Nat) (dA : Nat → ClassId) (h : Hp) : va_W := (List.range (gN h)).map (fun k => (z + k, ce z b dA h (k + 1)))
theorem wsO_get {z b : Nat} {dA : Nat → ClassId} {h : Hp} {a : Nat} (h1 : 1 ≤ a) (h2 : a ≤ gN h) : (wsO z b dA h)[a - 1]? = some (ad z b a, ce z b dA h a) := by
  unfold wsO
  rw [List.getElem?_map, List.getElem?_range (by omega)]
  simp only [Option.map_some]
  rw [ad_pos h1, show a - 1 + 1 = a by omega]
theorem wsO_D {z b : Nat} {dA : Nat → ClassId} {h : Hp} : va_D (fun q => z ≤ q) (wsO z b dA h) := by
  have key : ∀ (k : Nat) (q : Nat × va_E), (wsO z b dA h)[k]? = some q → q.1 = z + k := by
    intro k q hk
    unfold wsO at hk
    rw [List.getElem?_map] at hk
    cases hr : (List.range (gN h))[k]? with
    | none => rw [hr] at hk; cases hk
    | some i =>
      rw [hr] at hk
      have e := List.getElem?_eq_some_iff.mp hr
      obtain ⟨hl, e⟩ := e
      rw [List.getElem_range] at e
      subst e
      cases hk
      rfl
  refine ⟨fun i j p q hi hj e => ?_, fun k q hk => ?_⟩
  · have h1 := key i p hi
    have h2 := key j q hj
    omega
  · have h1 := key k q hk
    show z ≤ q.1
    omega
/-- one cell of the world changed -/
theorem wsO_set {z b : Nat} {dA : Nat → ClassId} {h h1 : Hp} {a : Nat} (ha : 1 ≤ a) (hn : gN h1 = gN h) (ho : ∀ k, k ≠ a → ce z b dA h1 k = ce z b dA h k) : (wsO z b dA h).set (a - 1) (ad z b a, ce z b dA h1 a) = wsO z b dA h1 := by
  apply List.ext_getElem?
  intro k
  rw [List.getElem?_set]
  by_cases hk : a - 1 = k
  · subst hk
    rw [if_pos rfl]
    unfold wsO
    simp only [List.length_map, List.length_range, List.getElem?_map, hn]
    by_cases hl : a - 1 < gN h
    · rw [if_pos hl, List.getElem?_range hl]
      simp only [Option.map_some]
      rw [ad_pos ha, show a - 1 + 1 = a by omega]
    · rw [if_neg hl, List.getElem?_eq_none (by simp; omega)]
      rfl
  · rw [if_neg hk]
    unfold wsO
    simp only [List.getElem?_map, hn]
    by_cases hl : k < gN h
    · rw [List.getElem?_range hl]
      simp only [Option.map_some]
      rw [ho (k + 1) (by omega)]
    · rw [List.getElem?_eq_none (by simp; omega)]
      rfl
/-- one cell more -/
theorem wsO_push {z b : Nat} {dA : Nat → ClassId} {h h1 : Hp} (hn : gN h1 = gN h + 1) (ho : ∀ k, k ≤ gN h → ce z b dA h1 k = ce z b dA h k) : wsO z b dA h ++ [(z + gN h, ce z b dA h1 (gN h + 1))] = wsO z b dA h1 := by
  unfold wsO
  rw [hn, List.range_succ, List.map_append]
  congr 1
  apply List.map_congr_left
  intro k hk
  rw [ho (k + 1) (by have := List.mem_range.mp hk; omega)]
def tysA (dA : Nat → ClassId) : List (ClassId × FieldType) := [(dA 0, .int), (dA 1, .boolean), (dA 2, .long), (dA 3, .object RX7), (dA 4, .object RX4)]
def Rep (z b : Nat) (D : va_G) (dA : Nat → ClassId) (s : State) (h : Hp) (H : Heap) : Prop := H.size = z + gN h ∧ va_P D vwCl (wsO z b dA h) H ∧ va_X b (gS h 0).2 (gI h 0) s H
def TBg : List Cond := lw_tbl.filter goodWord
theorem tbg {w : Cond} (h : w ∈ lw_tbl) (g : goodWord w = true) : w ∈ TBg := List.mem_filter.mpr ⟨h, g⟩
def NWq : Cond → Bool
  | .methodLinkNest .. => true
  | _ => false
def NW : List Cond := lw_tbl.filter NWq
def NWok (U : State) : Prop := (∀ w ∈ NW, va_Nw w U) ∧ va_AO RX7 U ∧ va_AO RX4 U
theorem NWok.moved {s U : State} (hW : s.WarmedH U.vm) (h : NWok s) : NWok U := by
  refine ⟨fun w hw => ?_, h.2.1.moved hW.alike, h.2.2.moved hW.alike⟩
  have h1 := h.1 w hw
  have hq := (List.mem_filter.mp hw).2
  cases w with
  | methodLinkNest a i x g => exact va_Nw.warmM hW h1
  | _ => cases hq
theorem NWok.same {s U : State} (hv : s.vm = U.vm) (h : NWok s) : NWok U := by
  refine ⟨fun w hw => ?_, h.2.1.moved (by rw [hv]; exact Vm.Alike.refl U.vm), h.2.2.moved (by rw [hv]; exact Vm.Alike.refl U.vm)⟩
  have h1 := h.1 w hw
  have hq := (List.mem_filter.mp hw).2
  cases w with
  | methodLinkNest a i x g => exact va_Nw.same rfl hv h1
  | _ => cases hq
theorem nwi {w : Cond} (h : w ∈ lw_tbl) (g : NWq w = true) : w ∈ NW := List.mem_filter.mpr ⟨h, g⟩
/-! locals -/
def LR (z b : Nat) (ls : Array Slot) (n : Nat) (lv : List Value) : Prop := ls.size = n ∧ lv_wf ls ∧ lv.length = n ∧ ∀ (i : Nat) (v : Value), lv[i]? = some v → v ≠ .null → ls[i]? = some (.val (cv z b v))
def prs (z b : Nat) (lv : List Value) : List (Nat × Value) := (List.range lv.length).filterMap (fun (i : Nat) => (match lv[i]? with
  | some Value.null => none
  | some v => some (i, cv z b v)
  | none => none : Option (Nat × Value)))
theorem mem_prs {z b : Nat} {lv : List Value} {i : Nat} {v : Value} (h : lv[i]? = some v) (hv : v ≠ .null) : (i, cv z b v) ∈ prs z b lv := by
  refine List.mem_filterMap.mpr ⟨i, List.mem_range.mpr (List.getElem?_eq_some_iff.mp h).1, ?_⟩
  rw [h]
  cases v <;> first | rfl | exact absurd rfl hv
theorem LR.has {z b : Nat} {ls : Array Slot} {n : Nat} {lv : List Value} (h : LR z b ls n lv) : lv_has ls n (prs z b lv) := by
  refine ⟨h.1, h.2.1, fun q hq => ?_⟩
  obtain ⟨i, -, hi⟩ := List.mem_filterMap.mp hq
  cases hv : lv[i]? with
  | none => rw [hv] at hi; cases hi
  | some v =>
    rw [hv] at hi
    have hn : v ≠ .null := fun e => by rw [e] at hi; cases hi
    have e : q = (i, cv z b v) := by cases v <;> first | exact (Option.some.inj hi).symm | exact absurd rfl hn
    rw [e]
    exact h.2.2.2 i v hv hn
theorem LR.at {z b : Nat} {ls : Array Slot} {n : Nat} {lv : List Value} (h : LR z b ls n lv) {i : Nat} {v : Value} (hv : lv[i]? = some v) (hn : v ≠ .null) : ls[i]? = some (.val (cv z b v)) := h.2.2.2 i v hv hn
def kil (i : Nat) (lv : List Value) : List Value := match i with
  | 0 => lv
  | j + 1 => match lv[j]? with
    | some (.long _) => lv.set j .null
    | some (.double _) => lv.set j .null
    | _ => lv
def st1 (i : Nat) (v : Value) (lv : List Value) : List Value := (kil i lv).set i v
def st2 (i : Nat) (v : Value) (lv : List Value) : List Value := ((kil i lv).set i v).set (i + 1) .null
theorem kil_len (i : Nat) (lv : List Value) : (kil i lv).length = lv.length := by
  unfold kil
  cases i with
  | zero => rfl
  | succ j =>
    dsimp only
    split <;> simp
theorem set_null {lv : List Value} {j k : Nat} {v : Value} (h : (lv.set j .null)[k]? = some v) (hn : v ≠ .null) : lv[k]? = some v ∧ k ≠ j := by
  rw [List.getElem?_set] at h
  by_cases hk : j = k
  · rw [if_pos hk] at h
    split at h
    · exact absurd (Option.some.inj h).symm hn
    · cases h
  · rw [if_neg hk] at h
    exact ⟨h, fun e => hk e.symm⟩
/-- what the killed list still holds is held by the list, and is no long just ahead -/
theorem kil_get {i k : Nat} {lv : List Value} {v : Value} (h : (kil i lv)[k]? = some v) (hn : v ≠ .null) : lv[k]? = some v ∧ ¬ (k + 1 = i ∧ v.category = 2) := by
  unfold kil at h
  cases i with
  | zero => exact ⟨h, fun e => by omega⟩
  | succ j =>
    dsimp only at h
    split at h
    next x hx =>
      obtain ⟨h1, h2⟩ := set_null h hn
      exact ⟨h1, fun e => h2 (by omega)⟩
    next x hx =>
      obtain ⟨h1, h2⟩ := set_null h hn
      exact ⟨h1, fun e => h2 (by omega)⟩
    next hx1 hx2 =>
      refine ⟨h, fun e => ?_⟩
      obtain ⟨e1, e2⟩ := e
      have e3 : k = j := by omega
      subst e3
      cases v <;> first | exact hx1 _ h | exact hx2 _ h | (simp [Value.category] at e2)
theorem LR.st1 {z b : Nat} {ls ls' : Array Slot} {n i : Nat} {lv : List Value} {v : Value} (h : LR z b ls n lv) (hi : i < n)
    (h' : lv_has ls' n ((i, cv z b v) :: (prs z b lv).filter (fun q => !(q.1 == i) && !(q.1 + 1 == i && q.2.category == 2)))) : LR z b ls' n (st1 i v lv) := by
  refine ⟨h'.1, h'.2.1, by rw [Jvm.Pilot.@@N@@.st1, List.length_set, kil_len]; exact h.2.2.1, fun k w hk hn => ?_⟩
  refine h'.2.2 (k, cv z b w) ?_
  rw [Jvm.Pilot.@@N@@.st1, List.getElem?_set] at hk
  by_cases he : i = k
  · rw [if_pos he] at hk
    split at hk
    · cases hk
      subst he
      exact List.mem_cons_self
    · cases hk
  · rw [if_neg he] at hk
    obtain ⟨h1, h2⟩ := kil_get hk hn
    refine List.mem_cons_of_mem _ (List.mem_filter.mpr ⟨mem_prs h1 hn, ?_⟩)
    have a1 : (k == i) = false := by simp; omega
    have a2 : (k + 1 == i && (cv z b w).category == 2) = false := by
      rw [cv_cat]
      cases h3 : (k + 1 == i && w.category == 2) with
      | false => rfl
      | true => exact absurd (by simpa using h3) h2
    simp only [a1, a2]
    rfl
theorem LR.st2 {z b : Nat} {ls ls' : Array Slot} {n i : Nat} {lv : List Value} {v : Value} (h : LR z b ls n lv) (hi : i + 1 < n)
    (h' : lv_has ls' n ((i, cv z b v) :: (prs z b lv).filter (fun q => !(q.1 == i) && (!(q.1 == i + 1) && !(q.1 + 1 == i && q.2.category == 2))))) : LR z b ls' n (st2 i v lv) := by
  refine ⟨h'.1, h'.2.1, by rw [Jvm.Pilot.@@N@@.st2, List.length_set, List.length_set, kil_len]; exact h.2.2.1, fun k w hk hn => ?_⟩
  refine h'.2.2 (k, cv z b w) ?_
  rw [Jvm.Pilot.@@N@@.st2] at hk
  obtain ⟨hk, hk1⟩ := set_null hk hn
  rw [List.getElem?_set] at hk
  by_cases he : i = k
  · rw [if_pos he] at hk
    split at hk
    · cases hk
      subst he
      exact List.mem_cons_self
    · cases hk
  · rw [if_neg he] at hk
    obtain ⟨h1, h2⟩ := kil_get hk hn
    refine List.mem_cons_of_mem _ (List.mem_filter.mpr ⟨mem_prs h1 hn, ?_⟩)
    have a1 : (k == i) = false := by simp; omega
    have a3 : (k == i + 1) = false := by simp; omega
    have a2 : (k + 1 == i && (cv z b w).category == 2) = false := by
      rw [cv_cat]
      cases h3 : (k + 1 == i && w.category == 2) with
      | false => rfl
      | true => exact absurd (by simpa using h3) h2
    simp only [a1, a2, a3]
    rfl
/-- fewer locals -/
def Wk : List Value → List Value → Prop
  | [], [] => True
  | a :: l, c :: r => (a = .null ∨ a = c) ∧ Wk l r
  | _, _ => False
theorem Wk.get : ∀ {l r : List Value}, Wk l r → l.length = r.length ∧ ∀ (i : Nat) (v : Value), l[i]? = some v → v ≠ .null → r[i]? = some v
  | [], [], _ => ⟨rfl, fun i v h => by simp at h⟩
  | a :: l, c :: r, h => by
    obtain ⟨h1, h2⟩ := Wk.get h.2
    refine ⟨by simp [h1], fun i v hv hn => ?_⟩
    cases i with
    | zero =>
      simp only [List.getElem?_cons_zero] at hv ⊢
      cases hv
      rcases h.1 with e | e
      · exact absurd e hn
      · rw [e]
    | succ i =>
      simp only [List.getElem?_cons_succ] at hv ⊢
      exact h2 i v hv hn
  | [], _ :: _, h => h.elim
  | _ :: _, [], h => h.elim
theorem LR.wk {z b : Nat} {ls : Array Slot} {n : Nat} {lv lv' : List Value} (h : LR z b ls n lv) (hw : Wk lv' lv) : LR z b ls n lv' :=
  ⟨h.1, h.2.1, hw.get.1.trans h.2.2.1, fun i v hv hn => h.2.2.2 i v (hw.get.2 i v hv hn) hn⟩
/-! how a method begins: its arguments in the locals -/
def exps : List Value → List Value
  | [] => []
  | .long x :: t => .long x :: .null :: exps t
  | v :: t => v :: exps t
def ent (n : Nat) (as : List Value) : List Value := exps as ++ List.replicate (n - (exps as).length) .null
theorem exps_get {z b : Nat} : ∀ (as : List Value) (o i : Nat) (v : Value), (∀ a ∈ as, ∀ x, a ≠ .double x) → (exps as)[i]? = some v → v ≠ .null → (o + i, cv z b v) ∈ lv_args o (as.map (cv z b))
  | [], o, i, v, _, h, _ => by simp [exps] at h
  | a :: t, o, i, v, hd, h, hn => by
    have hd2 : ∀ a ∈ t, ∀ x, a ≠ .double x := fun a ha => hd a (List.mem_cons_of_mem _ ha)
    have hda := hd a List.mem_cons_self
    by_cases hl : ∃ x, a = .long x
    · obtain ⟨x, rfl⟩ := hl
      rw [exps] at h
      show _ ∈ (o, cv z b (.long x)) :: lv_args (if (cv z b (.long x)).category = 2 then o + 2 else o + 1) (t.map (cv z b))
      rw [if_pos (by rfl)]
      match i, h with
      | 0, h =>
        simp only [List.getElem?_cons_zero] at h
        cases h
        exact List.mem_cons_self
      | 1, h =>
        simp only [List.getElem?_cons_succ, List.getElem?_cons_zero] at h
        exact absurd (Option.some.inj h).symm hn
      | i + 2, h =>
        simp only [List.getElem?_cons_succ] at h
        have := exps_get (z := z) (b := b) t (o + 2) i v hd2 h hn
        rw [show o + (i + 2) = o + 2 + i by omega]
        exact List.mem_cons_of_mem _ this
    · have e : exps (a :: t) = a :: exps t := by
        cases a <;> first | rfl | exact absurd ⟨_, rfl⟩ hl
      rw [e] at h
      show _ ∈ (o, cv z b a) :: lv_args (if (cv z b a).category = 2 then o + 2 else o + 1) (t.map (cv z b))
      have hc : ¬ (cv z b a).category = 2 := fun h2 => by
        rw [cv_cat] at h2
        cases a <;> first | exact hl ⟨_, rfl⟩ | exact hda _ rfl | (simp [Value.category] at h2)
      rw [if_neg hc]
      match i, h with
      | 0, h =>
        simp only [List.getElem?_cons_zero] at h
        cases h
        exact List.mem_cons_self
      | i + 1, h =>
        simp only [List.getElem?_cons_succ] at h
        have := exps_get (z := z) (b := b) t (o + 1) i v hd2 h hn
        rw [show o + (i + 1) = o + 1 + i by omega]
        exact List.mem_cons_of_mem _ this
theorem exps_sl {z b : Nat} : ∀ (as : List Value), (∀ a ∈ as, ∀ x, a ≠ .double x) → (lg_sl (as.map (cv z b))).length = (exps as).length
  | [], _ => rfl
  | a :: t, hd => by
    have ih := exps_sl (z := z) (b := b) t (fun a ha => hd a (List.mem_cons_of_mem _ ha))
    have hda := hd a List.mem_cons_self
    have e1 : lg_sl ((a :: t).map (cv z b)) = (if (cv z b a).category = 2 then [.val (cv z b a), .second] else [.val (cv z b a)]) ++ lg_sl (t.map (cv z b)) := by
      simp [lg_sl]
    rw [e1, List.length_append, ih, cv_cat]
    cases a <;> first | exact absurd rfl (hda _) | (simp [exps, Value.category]; try omega)
theorem LR.ent {z b n : Nat} {as : List Value} (hd : ∀ a ∈ as, ∀ x, a ≠ .double x) (hn : (exps as).length ≤ n) :
    LR z b ((lg_sl (as.map (cv z b)) ++ List.replicate (n - (lg_sl (as.map (cv z b))).length) Slot.unset).toArray) n (Jvm.Pilot.@@N@@.ent n as) := by
  have he := lv_entry (as.map (cv z b)) (n := n) (by rw [exps_sl as hd]; exact hn)
  refine ⟨he.1, he.2.1, by simp [Jvm.Pilot.@@N@@.ent]; omega, fun i v hv hnn => ?_⟩
  refine he.2.2 (i, cv z b v) ?_
  have h1 : (exps as)[i]? = some v := by
    unfold Jvm.Pilot.@@N@@.ent at hv
    by_cases hl : i < (exps as).length
    · rwa [List.getElem?_append_left hl] at hv
    · rw [List.getElem?_append_right (by omega), List.getElem?_replicate] at hv
      split at hv
      · exact absurd (Option.some.inj hv).symm hnn
      · cases hv
  have := exps_get (z := z) (b := b) as 0 i v hd h1 hnn
  rwa [Nat.zero_add] at this
end
section
theorem W.sized {p : Program} {l : Launch} {e : Env} {R : Room} {s : State} {m : MethodId} {args : Array Value} {below : List Frame} {meth : Method} {c : Code} {H : Heap} {locs : List Loc} {cells slots : Nat} {Q : State → Prop} {g : JFrame}
    (k : H.size ≤ s.heap.size + cells → W p l e R s m args below meth c H locs cells slots Q g) : W p l e R s m args below meth c H locs cells slots Q g :=
  fun T hT X => k (by rw [← hT]; exact X.heapSize) T hT X
/-- a method as the walk knows it: its name, its code, its locals, what it returns, how deep it goes -/
abbrev Gx : Type := MethodName × ByteArray × Nat × Option FieldType × Nat
def Cx (G : Gx) (D : va_G) (dA : Nat → ClassId) (z b c0 : Nat) (p : Program) (R : Room) (s : State) (m : MethodId) (args : Array Value) (meth : Method) (c : Code) : Prop :=
  p.tables.exec = Jvm.exec ∧ c.code = G.2.1 ∧ c.maxLocals = G.2.2.1 ∧ s.vm.findClass G.1.cls = some m.cls ∧ (∀ w ∈ TBg, w.before args s = true) ∧ meth.name = G.1.name ∧ va_K D vwCl (tysA dA) s ∧ NWok s ∧ s.heap.size = z + c0 ∧ b < z ∧ G.2.2.2.2 ≤ R.frames ∧ 40 * G.2.2.2.2 ≤ R.locals
def retI : Option FieldType → Instr
  | none => .return_
  | some .long => .lreturn
  | some (.object _) => .areturn
  | some (.array _) => .areturn
  | _ => .ireturn
def okR : Option FieldType → Option Value → Prop
  | none, none => True
  | some .int, some (.int _) => True
  | some .boolean, some (.int x) => x = 0 ∨ x = 1
  | some .long, some (.long _) => True
  | some (.object _), some (.ref _) => True
  | _, _ => False
/-- the method's return, at which the walk ends -/
def Rt {ρ : Type} (rv : ρ → Option Value) (G : Gx) (r : ρ) (h' : Hp) (D : va_G) (dA : Nat → ClassId) (z b c0 t0 : Nat) (p : Program) (l : Launch) (e0 : Env) (R : Room) (s : State) (m : MethodId) (args : Array Value) (below : List Frame) (meth : Method) (c : Code) (Q : State → Prop) : Prop :=
  okR G.2.2.2.1 (rv r) → ∀ (H : Heap) (locs : List Loc) (ls : Array Slot) (pc : Nat), decode G.2.1 pc = .ok (retI G.2.2.2.1, 1) → Rep z b D dA s h' H → va_S (fun q => z ≤ q) s.heap H locs →
    W p l e0 R s m args below meth c H locs (gN h' - c0) (gT h' - t0) Q (F0 m pc ls ((rv r).toList.map (cv z b)))
/-- THE WALK FROM HERE: if the mirror e comes to an answer, so does the machine, with the same answer and the same world -/
def Sm {ρ : Type} (rv : ρ → Option Value) (G : Gx) (pc : Nat) (lv st : List Value) (h : Hp) (e : Option (ρ × Hp)) : Prop :=
  ∀ (r : ρ) (h' : Hp), e = some (r, h') → (okR G.2.2.2.1 (rv r) ∧ gN h ≤ gN h') ∧ gT h ≤ gT h' ∧
    ∀ (D : va_G) (dA : Nat → ClassId) (z b c0 t0 : Nat) (p : Program) (l : Launch) (e0 : Env) (R : Room) (s : State) (m : MethodId) (args : Array Value) (below : List Frame) (meth : Method) (c : Code) (Q : State → Prop),
      Cx G D dA z b c0 p R s m args meth c → gN h' - c0 ≤ R.cells → gT h' - t0 ≤ R.slots → Rt rv G r h' D dA z b c0 t0 p l e0 R s m args below meth c Q → c0 ≤ gN h → t0 ≤ gT h →
      ∀ (H : Heap) (locs : List Loc) (ls : Array Slot), LR z b ls G.2.2.1 lv → Rep z b D dA s h H → va_S (fun q => z ≤ q) s.heap H locs →
        W p l e0 R s m args below meth c H locs (gN h - c0) (gT h - t0) Q (F0 m pc ls (st.map (cv z b)))
section SM
variable {ρ : Type} {rv : ρ → Option Value} {G : Gx} {pc q : Nat} {lv lv' st st' : List Value} {h : Hp} {e e1 e2 : Option (ρ × Hp)}
/-- a step that leaves the world as it is -/
theorem Sm.lift (k : Sm rv G q lv' st' h e)
    (hs : ∀ (z b : Nat) (p : Program) (l : Launch) (e0 : Env) (R : Room) (s : State) (m : MethodId) (args : Array Value) (below : List Frame) (meth : Method) (c : Code) (H : Heap) (locs : List Loc) (cells slots : Nat) (Q : State → Prop) (ls : Array Slot),
      p.tables.exec = Jvm.exec → c.code = G.2.1 → s.vm.findClass G.1.cls = some m.cls → (∀ w ∈ TBg, w.before args s = true) → LR z b ls G.2.2.1 lv →
      (∀ ls', LR z b ls' G.2.2.1 lv' → W p l e0 R s m args below meth c H locs cells slots Q (F0 m q ls' (st'.map (cv z b)))) →
      W p l e0 R s m args below meth c H locs cells slots Q (F0 m pc ls (st.map (cv z b)))) : Sm rv G pc lv st h e := by
  intro r h' he
  obtain ⟨k1, k2, k3⟩ := k r h' he
  refine ⟨k1, k2, fun D dA z b c0 t0 p l e0 R s m args below meth c Q C hc hs' hr h0 h1 H locs ls hl hR hS => ?_⟩
  exact hs z b p l e0 R s m args below meth c H locs _ _ Q ls C.1 C.2.1 C.2.2.2.1 C.2.2.2.2.1 hl (fun ls' hl' => k3 D dA z b c0 t0 p l e0 R s m args below meth c Q C hc hs' hr h0 h1 H locs ls' hl' hR hS)
theorem Sm.none : Sm rv G pc lv st h none := fun _ _ he => by cases he
theorem Sm.wk (k : Sm rv G pc lv' st h e) (hw : Wk lv' lv) : Sm rv G pc lv st h e := by
  intro r h' he
  obtain ⟨k1, k2, k3⟩ := k r h' he
  exact ⟨k1, k2, fun D dA z b c0 t0 p l e0 R s m args below meth c Q C hc hs hr h0 h1 H locs ls hl hR hS => k3 D dA z b c0 t0 p l e0 R s m args below meth c Q C hc hs hr h0 h1 H locs ls (hl.wk hw) hR hS⟩
theorem Sm.ret {r : ρ} (d : decode G.2.1 pc = .ok (retI G.2.2.2.1, 1)) (ho : okR G.2.2.2.1 (rv r)) (hst : st = (rv r).toList) : Sm rv G pc lv st h (some (r, h)) := by
  intro r' h' he
  cases he
  subst hst
  exact ⟨⟨ho, Nat.le_refl _⟩, Nat.le_refl _, fun D dA z b c0 t0 p l e0 R s m args below meth c Q C hc hs hr h0 h1 H locs ls hl hR hS => hr ho H locs ls pc d hR hS⟩
theorem Sm.iff {P : Prop} {i : Decidable P} (a : P → Sm rv G pc lv st h e1) (c : ¬ P → Sm rv G pc lv st h e2) : Sm rv G pc lv st h (if P then e1 else e2) := by
  by_cases hP : P
  · rw [if_pos hP]; exact a hP
  · rw [if_neg hP]; exact c hP
/-! loads, stores, constants -/
theorem Sm.iload_n {k : Fin 4} {i : Nat} {x : Int32} (d : decode G.2.1 pc = .ok (.iload_n k, 1)) (hi : (k : Nat) = i) (hv : lv[i]? = some (.int x)) (hq : pc + 1 = q) (k : Sm rv G q lv (.int x :: st) h e) : Sm rv G pc lv st h e :=
  k.lift fun z b p l e0 R s m args below meth c H locs cells slots Q ls hx hb _ _ hl kk => by subst hq; exact lv_iload_n hx hb d hi (hl.at hv (fun z => by cases z)) (kk ls hl)
theorem Sm.iload {i : Nat} {x : Int32} (d : decode G.2.1 pc = .ok (.iload i, 2)) (hv : lv[i]? = some (.int x)) (hq : pc + 2 = q) (k : Sm rv G q lv (.int x :: st) h e) : Sm rv G pc lv st h e :=
  k.lift fun z b p l e0 R s m args below meth c H locs cells slots Q ls hx hb _ _ hl kk => by subst hq; exact lv_iload hx hb d (hl.at hv (fun z => by cases z)) (kk ls hl)
theorem Sm.lload_n {k : Fin 4} {i : Nat} {x : Int64} (d : decode G.2.1 pc = .ok (.lload_n k, 1)) (hi : (k : Nat) = i) (hv : lv[i]? = some (.long x)) (hq : pc + 1 = q) (k : Sm rv G q lv (.long x :: st) h e) : Sm rv G pc lv st h e :=
  k.lift fun z b p l e0 R s m args below meth c H locs cells slots Q ls hx hb _ _ hl kk => by subst hq; exact lv_lload_n hx hb d hi (hl.at hv (fun z => by cases z)) (kk ls hl)
theorem Sm.lload {i : Nat} {x : Int64} (d : decode G.2.1 pc = .ok (.lload i, 2)) (hv : lv[i]? = some (.long x)) (hq : pc + 2 = q) (k : Sm rv G q lv (.long x :: st) h e) : Sm rv G pc lv st h e :=
  k.lift fun z b p l e0 R s m args below meth c H locs cells slots Q ls hx hb _ _ hl kk => by subst hq; exact lv_lload hx hb d (hl.at hv (fun z => by cases z)) (kk ls hl)
theorem Sm.aload_n {k : Fin 4} {i : Nat} {x : Nat} (d : decode G.2.1 pc = .ok (.aload_n k, 1)) (hi : (k : Nat) = i) (hv : lv[i]? = some (.ref x)) (hq : pc + 1 = q) (k : Sm rv G q lv (.ref x :: st) h e) : Sm rv G pc lv st h e :=
  k.lift fun z b p l e0 R s m args below meth c H locs cells slots Q ls hx hb _ _ hl kk => by subst hq; exact lv_aload_n hx hb d hi (hl.at hv (fun z => by cases z)) (kk ls hl)
theorem Sm.aload {i : Nat} {x : Nat} (d : decode G.2.1 pc = .ok (.aload i, 2)) (hv : lv[i]? = some (.ref x)) (hq : pc + 2 = q) (k : Sm rv G q lv (.ref x :: st) h e) : Sm rv G pc lv st h e :=
  k.lift fun z b p l e0 R s m args below meth c H locs cells slots Q ls hx hb _ _ hl kk => by subst hq; exact lv_aload hx hb d (hl.at hv (fun z => by cases z)) (kk ls hl)
theorem LR.len {z b : Nat} {ls : Array Slot} {n : Nat} (hl : LR z b ls n lv) : lv.length = n := hl.2.2.1
theorem Sm.istore_n {k : Fin 4} {i : Nat} {x : Int32} (d : decode G.2.1 pc = .ok (.istore_n k, 1)) (hi : (k : Nat) = i) (hn : i < lv.length) (hv : st1 i (.int x) lv = lv') (hq : pc + 1 = q) (k : Sm rv G q lv' st h e) : Sm rv G pc lv (.int x :: st) h e :=
  k.lift fun z b p l e0 R s m args below meth c H locs cells slots Q ls hx hb _ _ hl kk => by subst hq; subst hv; exact lv_istore_n hx hb d hi hl.has (by rw [← hl.len]; exact hn) rfl (fun ls' h' => kk ls' (hl.st1 (by rw [← hl.len]; exact hn) h'))
theorem Sm.istore {i : Nat} {x : Int32} (d : decode G.2.1 pc = .ok (.istore i, 2)) (hn : i < lv.length) (hv : st1 i (.int x) lv = lv') (hq : pc + 2 = q) (k : Sm rv G q lv' st h e) : Sm rv G pc lv (.int x :: st) h e :=
  k.lift fun z b p l e0 R s m args below meth c H locs cells slots Q ls hx hb _ _ hl kk => by subst hq; subst hv; exact lv_istore hx hb d hl.has (by rw [← hl.len]; exact hn) rfl (fun ls' h' => kk ls' (hl.st1 (by rw [← hl.len]; exact hn) h'))
theorem Sm.astore_n {k : Fin 4} {i : Nat} {x : Nat} (d : decode G.2.1 pc = .ok (.astore_n k, 1)) (hi : (k : Nat) = i) (hn : i < lv.length) (hv : st1 i (.ref x) lv = lv') (hq : pc + 1 = q) (k : Sm rv G q lv' st h e) : Sm rv G pc lv (.ref x :: st) h e :=
  k.lift fun z b p l e0 R s m args below meth c H locs cells slots Q ls hx hb _ _ hl kk => by subst hq; subst hv; exact lv_astore_n hx hb d hi hl.has (by rw [← hl.len]; exact hn) rfl (fun ls' h' => kk ls' (hl.st1 (by rw [← hl.len]; exact hn) h'))
theorem Sm.astore {i : Nat} {x : Nat} (d : decode G.2.1 pc = .ok (.astore i, 2)) (hn : i < lv.length) (hv : st1 i (.ref x) lv = lv') (hq : pc + 2 = q) (k : Sm rv G q lv' st h e) : Sm rv G pc lv (.ref x :: st) h e :=
  k.lift fun z b p l e0 R s m args below meth c H locs cells slots Q ls hx hb _ _ hl kk => by subst hq; subst hv; exact lv_astore hx hb d hl.has (by rw [← hl.len]; exact hn) rfl (fun ls' h' => kk ls' (hl.st1 (by rw [← hl.len]; exact hn) h'))
theorem Sm.lstore_n {k : Fin 4} {i : Nat} {x : Int64} (d : decode G.2.1 pc = .ok (.lstore_n k, 1)) (hi : (k : Nat) = i) (hn : i + 1 < lv.length) (hv : st2 i (.long x) lv = lv') (hq : pc + 1 = q) (k : Sm rv G q lv' st h e) : Sm rv G pc lv (.long x :: st) h e :=
  k.lift fun z b p l e0 R s m args below meth c H locs cells slots Q ls hx hb _ _ hl kk => by subst hq; subst hv; exact lv_lstore_n hx hb d hi hl.has (by rw [← hl.len]; exact hn) rfl (fun ls' h' => kk ls' (hl.st2 (by rw [← hl.len]; exact hn) h'))
theorem Sm.lstore {i : Nat} {x : Int64} (d : decode G.2.1 pc = .ok (.lstore i, 2)) (hn : i + 1 < lv.length) (hv : st2 i (.long x) lv = lv') (hq : pc + 2 = q) (k : Sm rv G q lv' st h e) : Sm rv G pc lv (.long x :: st) h e :=
  k.lift fun z b p l e0 R s m args below meth c H locs cells slots Q ls hx hb _ _ hl kk => by subst hq; subst hv; exact lv_lstore hx hb d hl.has (by rw [← hl.len]; exact hn) rfl (fun ls' h' => kk ls' (hl.st2 (by rw [← hl.len]; exact hn) h'))
theorem Sm.iinc {i : Nat} {n : Int} {x y : Int32} (d : decode G.2.1 pc = .ok (.iinc i n, 3)) (hg : lv[i]? = some (.int x)) (hy : Int32.ofInt n = y) (hv : st1 i (.int (x + y)) lv = lv') (hq : pc + 3 = q) (k : Sm rv G q lv' st h e) : Sm rv G pc lv st h e :=
  k.lift fun z b p l e0 R s m args below meth c H locs cells slots Q ls hx hb _ _ hl kk => by
    subst hq; subst hv; subst hy
    have hn := (List.getElem?_eq_some_iff.mp hg).1
    obtain ⟨j, hj⟩ := List.getElem?_of_mem (mem_prs (z := z) (b := b) hg (fun z => by cases z))
    exact lv_iinc hx hb d hl.has hj rfl (by rw [← hl.len]; exact hn) rfl (fun ls' h' => kk ls' (hl.st1 (by rw [← hl.len]; exact hn) h'))
theorem Sm.iconst {n : Int} {v : Int32} (d : decode G.2.1 pc = .ok (.iconst n, 1)) (hv : Int32.ofInt n = v) (hq : pc + 1 = q) (k : Sm rv G q lv (.int v :: st) h e) : Sm rv G pc lv st h e :=
  k.lift fun z b p l e0 R s m args below meth c H locs cells slots Q ls hx hb _ _ hl kk => by subst hq; exact lv_iconst hx hb d hv (kk ls hl)
theorem Sm.bipush {n : Int} {v : Int32} (d : decode G.2.1 pc = .ok (.bipush n, 2)) (hv : (Int8.ofInt n).toInt32 = v) (hq : pc + 2 = q) (k : Sm rv G q lv (.int v :: st) h e) : Sm rv G pc lv st h e :=
  k.lift fun z b p l e0 R s m args below meth c H locs cells slots Q ls hx hb _ _ hl kk => by subst hq; exact lv_bipush hx hb d hv (kk ls hl)
theorem Sm.sipush {n : Int} {v : Int32} (d : decode G.2.1 pc = .ok (.sipush n, 3)) (hv : (Int16.ofInt n).toInt32 = v) (hq : pc + 3 = q) (k : Sm rv G q lv (.int v :: st) h e) : Sm rv G pc lv st h e :=
  k.lift fun z b p l e0 R s m args below meth c H locs cells slots Q ls hx hb _ _ hl kk => by subst hq; exact lv_sipush hx hb d hv (kk ls hl)
theorem Sm.lconst {n : Fin 2} {v : Int64} (d : decode G.2.1 pc = .ok (.lconst n, 1)) (hv : Int64.ofNat (n : Nat) = v) (hq : pc + 1 = q) (k : Sm rv G q lv (.long v :: st) h e) : Sm rv G pc lv st h e :=
  k.lift fun z b p l e0 R s m args below meth c H locs cells slots Q ls hx hb _ _ hl kk => by subst hq; exact lv_lconst hx hb d hv (kk ls hl)
theorem Sm.ldc2 {i : Nat} {v : Int64} (d : decode G.2.1 pc = .ok (.ldc2_w i, 3)) (hw : Cond.constantLong G.1.cls i v ∈ lw_tbl) (hq : pc + 3 = q) (k : Sm rv G q lv (.long v :: st) h e) : Sm rv G pc lv st h e :=
  k.lift fun z b p l e0 R s m args below meth c H locs cells slots Q ls hx hb ho ht hl kk => by subst hq; exact lv_ldc2 hx hb ho (ht _ (tbg hw rfl)) d (kk ls hl)
theorem Sm.dup {v : Value} (d : decode G.2.1 pc = .ok (.dup, 1)) (hv : v.category = 1) (hq : pc + 1 = q) (k : Sm rv G q lv (v :: v :: st) h e) : Sm rv G pc lv (v :: st) h e :=
  k.lift fun z b p l e0 R s m args below meth c H locs cells slots Q ls hx hb ho ht hl kk => by subst hq; exact lv_dup hx hb d (by rw [cv_cat]; exact hv) (kk ls hl)
theorem Sm.pop {v : Value} (d : decode G.2.1 pc = .ok (.pop, 1)) (hv : v.category = 1) (hq : pc + 1 = q) (k : Sm rv G q lv st h e) : Sm rv G pc lv (v :: st) h e :=
  k.lift fun z b p l e0 R s m args below meth c H locs cells slots Q ls hx hb ho ht hl kk => by subst hq; exact lv_pop hx hb d (by rw [cv_cat]; exact hv) (kk ls hl)
theorem Sm.dup2 {v w : Value} (d : decode G.2.1 pc = .ok (.dup2, 1)) (hv : v.category = 1) (hw : w.category = 1) (hq : pc + 1 = q) (k : Sm rv G q lv (v :: w :: v :: w :: st) h e) : Sm rv G pc lv (v :: w :: st) h e :=
  k.lift fun z b p l e0 R s m args below meth c H locs cells slots Q ls hx hb ho ht hl kk => by subst hq; exact lv_dup2_11 hx hb d (by rw [cv_cat]; exact hv) (by rw [cv_cat]; exact hw) (kk ls hl)
theorem Sm.iadd {x y : Int32} (d : decode G.2.1 pc = .ok (.iadd, 1)) (hq : pc + 1 = q) (k : Sm rv G q lv (.int (x + y) :: st) h e) : Sm rv G pc lv (.int y :: .int x :: st) h e :=
  k.lift fun z b p l e0 R s m args below meth c H locs cells slots Q ls hx hb _ _ hl kk => by subst hq; exact lv_iadd hx hb d (kk ls hl)
theorem Sm.isub {x y : Int32} (d : decode G.2.1 pc = .ok (.isub, 1)) (hq : pc + 1 = q) (k : Sm rv G q lv (.int (x - y) :: st) h e) : Sm rv G pc lv (.int y :: .int x :: st) h e :=
  k.lift fun z b p l e0 R s m args below meth c H locs cells slots Q ls hx hb _ _ hl kk => by subst hq; exact lv_isub hx hb d (kk ls hl)
theorem Sm.imul {x y : Int32} (d : decode G.2.1 pc = .ok (.imul, 1)) (hq : pc + 1 = q) (k : Sm rv G q lv (.int (x * y) :: st) h e) : Sm rv G pc lv (.int y :: .int x :: st) h e :=
  k.lift fun z b p l e0 R s m args below meth c H locs cells slots Q ls hx hb _ _ hl kk => by subst hq; exact lv_imul hx hb d (kk ls hl)
theorem Sm.iand {x y : Int32} (d : decode G.2.1 pc = .ok (.iand, 1)) (hq : pc + 1 = q) (k : Sm rv G q lv (.int (x &&& y) :: st) h e) : Sm rv G pc lv (.int y :: .int x :: st) h e :=
  k.lift fun z b p l e0 R s m args below meth c H locs cells slots Q ls hx hb _ _ hl kk => by subst hq; exact lv_iand hx hb d (kk ls hl)
theorem Sm.ior {x y : Int32} (d : decode G.2.1 pc = .ok (.ior, 1)) (hq : pc + 1 = q) (k : Sm rv G q lv (.int (x ||| y) :: st) h e) : Sm rv G pc lv (.int y :: .int x :: st) h e :=
  k.lift fun z b p l e0 R s m args below meth c H locs cells slots Q ls hx hb _ _ hl kk => by subst hq; exact lv_ior hx hb d (kk ls hl)
theorem Sm.ixor {x y : Int32} (d : decode G.2.1 pc = .ok (.ixor, 1)) (hq : pc + 1 = q) (k : Sm rv G q lv (.int (x ^^^ y) :: st) h e) : Sm rv G pc lv (.int y :: .int x :: st) h e :=
  k.lift fun z b p l e0 R s m args below meth c H locs cells slots Q ls hx hb _ _ hl kk => by subst hq; exact lv_ixor hx hb d (kk ls hl)
theorem Sm.ishl {x y : Int32} (d : decode G.2.1 pc = .ok (.ishl, 1)) (hq : pc + 1 = q) (k : Sm rv G q lv (.int (x <<< (y &&& 31)) :: st) h e) : Sm rv G pc lv (.int y :: .int x :: st) h e :=
  k.lift fun z b p l e0 R s m args below meth c H locs cells slots Q ls hx hb _ _ hl kk => by subst hq; exact lv_ishl hx hb d (kk ls hl)
theorem Sm.ishr {x y : Int32} (d : decode G.2.1 pc = .ok (.ishr, 1)) (hq : pc + 1 = q) (k : Sm rv G q lv (.int (x >>> (y &&& 31)) :: st) h e) : Sm rv G pc lv (.int y :: .int x :: st) h e :=
  k.lift fun z b p l e0 R s m args below meth c H locs cells slots Q ls hx hb _ _ hl kk => by subst hq; exact lv_ishr hx hb d (kk ls hl)
theorem Sm.ladd {x y : Int64} (d : decode G.2.1 pc = .ok (.ladd, 1)) (hq : pc + 1 = q) (k : Sm rv G q lv (.long (x + y) :: st) h e) : Sm rv G pc lv (.long y :: .long x :: st) h e :=
  k.lift fun z b p l e0 R s m args below meth c H locs cells slots Q ls hx hb _ _ hl kk => by subst hq; exact lv_ladd hx hb d (kk ls hl)
theorem Sm.lsub {x y : Int64} (d : decode G.2.1 pc = .ok (.lsub, 1)) (hq : pc + 1 = q) (k : Sm rv G q lv (.long (x - y) :: st) h e) : Sm rv G pc lv (.long y :: .long x :: st) h e :=
  k.lift fun z b p l e0 R s m args below meth c H locs cells slots Q ls hx hb _ _ hl kk => by subst hq; exact lv_lsub hx hb d (kk ls hl)
theorem Sm.lmul {x y : Int64} (d : decode G.2.1 pc = .ok (.lmul, 1)) (hq : pc + 1 = q) (k : Sm rv G q lv (.long (x * y) :: st) h e) : Sm rv G pc lv (.long y :: .long x :: st) h e :=
  k.lift fun z b p l e0 R s m args below meth c H locs cells slots Q ls hx hb _ _ hl kk => by subst hq; exact lv_lmul hx hb d (kk ls hl)
theorem Sm.land {x y : Int64} (d : decode G.2.1 pc = .ok (.land, 1)) (hq : pc + 1 = q) (k : Sm rv G q lv (.long (x &&& y) :: st) h e) : Sm rv G pc lv (.long y :: .long x :: st) h e :=
  k.lift fun z b p l e0 R s m args below meth c H locs cells slots Q ls hx hb _ _ hl kk => by subst hq; exact lv_land hx hb d (kk ls hl)
theorem Sm.lor {x y : Int64} (d : decode G.2.1 pc = .ok (.lor, 1)) (hq : pc + 1 = q) (k : Sm rv G q lv (.long (x ||| y) :: st) h e) : Sm rv G pc lv (.long y :: .long x :: st) h e :=
  k.lift fun z b p l e0 R s m args below meth c H locs cells slots Q ls hx hb _ _ hl kk => by subst hq; exact lv_lor hx hb d (kk ls hl)
theorem Sm.lxor {x y : Int64} (d : decode G.2.1 pc = .ok (.lxor, 1)) (hq : pc + 1 = q) (k : Sm rv G q lv (.long (x ^^^ y) :: st) h e) : Sm rv G pc lv (.long y :: .long x :: st) h e :=
  k.lift fun z b p l e0 R s m args below meth c H locs cells slots Q ls hx hb _ _ hl kk => by subst hq; exact lv_lxor hx hb d (kk ls hl)
theorem Sm.lshl {x : Int64} {y : Int32} (d : decode G.2.1 pc = .ok (.lshl, 1)) (hq : pc + 1 = q) (k : Sm rv G q lv (.long (x <<< (y.toInt64 &&& 63)) :: st) h e) : Sm rv G pc lv (.int y :: .long x :: st) h e :=
  k.lift fun z b p l e0 R s m args below meth c H locs cells slots Q ls hx hb _ _ hl kk => by subst hq; exact lv_lshl hx hb d rfl (kk ls hl)
theorem Sm.lshr {x : Int64} {y : Int32} (d : decode G.2.1 pc = .ok (.lshr, 1)) (hq : pc + 1 = q) (k : Sm rv G q lv (.long (x >>> (y.toInt64 &&& 63)) :: st) h e) : Sm rv G pc lv (.int y :: .long x :: st) h e :=
  k.lift fun z b p l e0 R s m args below meth c H locs cells slots Q ls hx hb _ _ hl kk => by subst hq; exact lv_lshr hx hb d rfl (kk ls hl)
theorem Sm.lushr {x : Int64} {y : Int32} (d : decode G.2.1 pc = .ok (.lushr, 1)) (hq : pc + 1 = q) (k : Sm rv G q lv (.long ((x.toUInt64 >>> (y.toInt64.toUInt64 &&& Int64.toUInt64 63)).toInt64) :: st) h e) : Sm rv G pc lv (.int y :: .long x :: st) h e :=
  k.lift fun z b p l e0 R s m args below meth c H locs cells slots Q ls hx hb _ _ hl kk => by subst hq; exact lv_lushr hx hb d rfl (kk ls hl)
theorem Sm.idiv {x y : Int32} (d : decode G.2.1 pc = .ok (.idiv, 1)) (hy : ¬ y = 0) (hq : pc + 1 = q) (k : Sm rv G q lv (.int (x / y) :: st) h e) : Sm rv G pc lv (.int y :: .int x :: st) h e :=
  k.lift fun z b p l e0 R s m args below meth c H locs cells slots Q ls hx hb _ _ hl kk => by subst hq; exact lv_idiv hx hb d hy (kk ls hl)
theorem Sm.irem {x y : Int32} (d : decode G.2.1 pc = .ok (.irem, 1)) (hy : ¬ y = 0) (hq : pc + 1 = q) (k : Sm rv G q lv (.int (x - x / y * y) :: st) h e) : Sm rv G pc lv (.int y :: .int x :: st) h e :=
  k.lift fun z b p l e0 R s m args below meth c H locs cells slots Q ls hx hb _ _ hl kk => by subst hq; exact lv_irem hx hb d hy (kk ls hl)
theorem Sm.ineg {x : Int32} (d : decode G.2.1 pc = .ok (.ineg, 1)) (hq : pc + 1 = q) (k : Sm rv G q lv (.int (-x) :: st) h e) : Sm rv G pc lv (.int x :: st) h e :=
  k.lift fun z b p l e0 R s m args below meth c H locs cells slots Q ls hx hb _ _ hl kk => by subst hq; exact lv_ineg hx hb d (kk ls hl)
theorem Sm.lneg {x : Int64} (d : decode G.2.1 pc = .ok (.lneg, 1)) (hq : pc + 1 = q) (k : Sm rv G q lv (.long (-x) :: st) h e) : Sm rv G pc lv (.long x :: st) h e :=
  k.lift fun z b p l e0 R s m args below meth c H locs cells slots Q ls hx hb _ _ hl kk => by subst hq; exact lv_lneg hx hb d (kk ls hl)
theorem Sm.i2l {x : Int32} (d : decode G.2.1 pc = .ok (.i2l, 1)) (hq : pc + 1 = q) (k : Sm rv G q lv (.long x.toInt64 :: st) h e) : Sm rv G pc lv (.int x :: st) h e :=
  k.lift fun z b p l e0 R s m args below meth c H locs cells slots Q ls hx hb _ _ hl kk => by subst hq; exact lv_i2l hx hb d rfl (kk ls hl)
theorem Sm.l2i {x : Int64} (d : decode G.2.1 pc = .ok (.l2i, 1)) (hq : pc + 1 = q) (k : Sm rv G q lv (.int x.toInt32 :: st) h e) : Sm rv G pc lv (.long x :: st) h e :=
  k.lift fun z b p l e0 R s m args below meth c H locs cells slots Q ls hx hb _ _ hl kk => by subst hq; exact lv_l2i hx hb d rfl (kk ls hl)
theorem Sm.lcmp {x y : Int64} (d : decode G.2.1 pc = .ok (.lcmp, 1)) (hq : pc + 1 = q) (k : Sm rv G q lv (.int (lg_cmp x y) :: st) h e) : Sm rv G pc lv (.long y :: .long x :: st) h e :=
  k.lift fun z b p l e0 R s m args below meth c H locs cells slots Q ls hx hb _ _ hl kk => by subst hq; exact W.lcmp hx hb d (kk ls hl)
/-- a branch that leaves the world as it is -/
theorem Sm.lift2 {P : Prop} {i : Decidable P} {qt qf : Nat} {st1 st2 : List Value} (kt : P → Sm rv G qt lv st1 h e1) (kf : ¬ P → Sm rv G qf lv st2 h e2)
    (hs : ∀ (z b : Nat) (p : Program) (l : Launch) (e0 : Env) (R : Room) (s : State) (m : MethodId) (args : Array Value) (below : List Frame) (meth : Method) (c : Code) (H : Heap) (locs : List Loc) (cells slots : Nat) (Q : State → Prop) (ls : Array Slot),
      p.tables.exec = Jvm.exec → c.code = G.2.1 → (P → W p l e0 R s m args below meth c H locs cells slots Q (F0 m qt ls (st1.map (cv z b)))) → (¬ P → W p l e0 R s m args below meth c H locs cells slots Q (F0 m qf ls (st2.map (cv z b)))) →
      W p l e0 R s m args below meth c H locs cells slots Q (F0 m pc ls (st.map (cv z b)))) : Sm rv G pc lv st h (if P then e1 else e2) := by
  by_cases hP : P
  · rw [if_pos hP]
    exact (kt hP).lift fun z b p l e0 R s m args below meth c H locs cells slots Q ls hx hb _ _ hl kk => hs z b p l e0 R s m args below meth c H locs cells slots Q ls hx hb (fun _ => kk ls hl) (fun n => absurd hP n)
  · rw [if_neg hP]
    exact (kf hP).lift fun z b p l e0 R s m args below meth c H locs cells slots Q ls hx hb _ _ hl kk => hs z b p l e0 R s m args below meth c H locs cells slots Q ls hx hb (fun n => absurd n hP) (fun _ => kk ls hl)
theorem Sm.icmp_eq {x y : Int32} {off : Int} {t : Nat} (d : decode G.2.1 pc = .ok (.if_icmp .eq off, 3)) (ht : (pc : Int) + off = (t : Int)) (hq : pc + 3 = q) (kt : x = y → Sm rv G t lv st h e1) (kf : ¬ (x = y) → Sm rv G q lv st h e2) : Sm rv G pc lv (.int y :: .int x :: st) h (if x = y then e1 else e2) :=
  Sm.lift2 kt kf fun z b p l e0 R s m args below meth c H locs cells slots Q ls hx hb k1 k2 => by subst hq; exact lv_icmp_eq hx hb d ht (fun w => k1 w) (fun w => k2 w)
theorem Sm.if_eq {x : Int32} {off : Int} {t : Nat} (d : decode G.2.1 pc = .ok (.ifCond .eq off, 3)) (ht : (pc : Int) + off = (t : Int)) (hq : pc + 3 = q) (kt : x = 0 → Sm rv G t lv st h e1) (kf : ¬ (x = 0) → Sm rv G q lv st h e2) : Sm rv G pc lv (.int x :: st) h (if x = 0 then e1 else e2) :=
  Sm.lift2 kt kf fun z b p l e0 R s m args below meth c H locs cells slots Q ls hx hb k1 k2 => by subst hq; exact lv_if_eq hx hb d ht (fun w => k1 w) (fun w => k2 w)
theorem Sm.icmp_ne {x y : Int32} {off : Int} {t : Nat} (d : decode G.2.1 pc = .ok (.if_icmp .ne off, 3)) (ht : (pc : Int) + off = (t : Int)) (hq : pc + 3 = q) (kf : x = y → Sm rv G q lv st h e1) (kt : ¬ (x = y) → Sm rv G t lv st h e2) : Sm rv G pc lv (.int y :: .int x :: st) h (if x = y then e1 else e2) :=
  Sm.lift2 kf kt fun z b p l e0 R s m args below meth c H locs cells slots Q ls hx hb k1 k2 => by subst hq; exact lv_icmp_ne hx hb d ht (fun w => k2 w) (fun w => k1 w)
theorem Sm.if_ne {x : Int32} {off : Int} {t : Nat} (d : decode G.2.1 pc = .ok (.ifCond .ne off, 3)) (ht : (pc : Int) + off = (t : Int)) (hq : pc + 3 = q) (kf : x = 0 → Sm rv G q lv st h e1) (kt : ¬ (x = 0) → Sm rv G t lv st h e2) : Sm rv G pc lv (.int x :: st) h (if x = 0 then e1 else e2) :=
  Sm.lift2 kf kt fun z b p l e0 R s m args below meth c H locs cells slots Q ls hx hb k1 k2 => by subst hq; exact lv_if_ne hx hb d ht (fun w => k2 w) (fun w => k1 w)
theorem Sm.icmp_lt {x y : Int32} {off : Int} {t : Nat} (d : decode G.2.1 pc = .ok (.if_icmp .lt off, 3)) (ht : (pc : Int) + off = (t : Int)) (hq : pc + 3 = q) (kt : x < y → Sm rv G t lv st h e1) (kf : ¬ (x < y) → Sm rv G q lv st h e2) : Sm rv G pc lv (.int y :: .int x :: st) h (if x < y then e1 else e2) :=
  Sm.lift2 kt kf fun z b p l e0 R s m args below meth c H locs cells slots Q ls hx hb k1 k2 => by subst hq; exact lv_icmp_lt hx hb d ht (fun w => k1 w) (fun w => k2 w)
theorem Sm.if_lt {x : Int32} {off : Int} {t : Nat} (d : decode G.2.1 pc = .ok (.ifCond .lt off, 3)) (ht : (pc : Int) + off = (t : Int)) (hq : pc + 3 = q) (kt : x < 0 → Sm rv G t lv st h e1) (kf : ¬ (x < 0) → Sm rv G q lv st h e2) : Sm rv G pc lv (.int x :: st) h (if x < 0 then e1 else e2) :=
  Sm.lift2 kt kf fun z b p l e0 R s m args below meth c H locs cells slots Q ls hx hb k1 k2 => by subst hq; exact lv_if_lt hx hb d ht (fun w => k1 w) (fun w => k2 w)
theorem Sm.icmp_ge {x y : Int32} {off : Int} {t : Nat} (d : decode G.2.1 pc = .ok (.if_icmp .ge off, 3)) (ht : (pc : Int) + off = (t : Int)) (hq : pc + 3 = q) (kt : y ≤ x → Sm rv G t lv st h e1) (kf : ¬ (y ≤ x) → Sm rv G q lv st h e2) : Sm rv G pc lv (.int y :: .int x :: st) h (if y ≤ x then e1 else e2) :=
  Sm.lift2 kt kf fun z b p l e0 R s m args below meth c H locs cells slots Q ls hx hb k1 k2 => by subst hq; exact lv_icmp_ge hx hb d ht (fun w => k1 w) (fun w => k2 w)
theorem Sm.if_ge {x : Int32} {off : Int} {t : Nat} (d : decode G.2.1 pc = .ok (.ifCond .ge off, 3)) (ht : (pc : Int) + off = (t : Int)) (hq : pc + 3 = q) (kt : 0 ≤ x → Sm rv G t lv st h e1) (kf : ¬ (0 ≤ x) → Sm rv G q lv st h e2) : Sm rv G pc lv (.int x :: st) h (if 0 ≤ x then e1 else e2) :=
  Sm.lift2 kt kf fun z b p l e0 R s m args below meth c H locs cells slots Q ls hx hb k1 k2 => by subst hq; exact lv_if_ge hx hb d ht (fun w => k1 w) (fun w => k2 w)
theorem Sm.icmp_gt {x y : Int32} {off : Int} {t : Nat} (d : decode G.2.1 pc = .ok (.if_icmp .gt off, 3)) (ht : (pc : Int) + off = (t : Int)) (hq : pc + 3 = q) (kt : y < x → Sm rv G t lv st h e1) (kf : ¬ (y < x) → Sm rv G q lv st h e2) : Sm rv G pc lv (.int y :: .int x :: st) h (if y < x then e1 else e2) :=
  Sm.lift2 kt kf fun z b p l e0 R s m args below meth c H locs cells slots Q ls hx hb k1 k2 => by subst hq; exact lv_icmp_gt hx hb d ht (fun w => k1 w) (fun w => k2 w)
theorem Sm.if_gt {x : Int32} {off : Int} {t : Nat} (d : decode G.2.1 pc = .ok (.ifCond .gt off, 3)) (ht : (pc : Int) + off = (t : Int)) (hq : pc + 3 = q) (kt : 0 < x → Sm rv G t lv st h e1) (kf : ¬ (0 < x) → Sm rv G q lv st h e2) : Sm rv G pc lv (.int x :: st) h (if 0 < x then e1 else e2) :=
  Sm.lift2 kt kf fun z b p l e0 R s m args below meth c H locs cells slots Q ls hx hb k1 k2 => by subst hq; exact lv_if_gt hx hb d ht (fun w => k1 w) (fun w => k2 w)
theorem Sm.icmp_le {x y : Int32} {off : Int} {t : Nat} (d : decode G.2.1 pc = .ok (.if_icmp .le off, 3)) (ht : (pc : Int) + off = (t : Int)) (hq : pc + 3 = q) (kt : x ≤ y → Sm rv G t lv st h e1) (kf : ¬ (x ≤ y) → Sm rv G q lv st h e2) : Sm rv G pc lv (.int y :: .int x :: st) h (if x ≤ y then e1 else e2) :=
  Sm.lift2 kt kf fun z b p l e0 R s m args below meth c H locs cells slots Q ls hx hb k1 k2 => by subst hq; exact lv_icmp_le hx hb d ht (fun w => k1 w) (fun w => k2 w)
theorem Sm.if_le {x : Int32} {off : Int} {t : Nat} (d : decode G.2.1 pc = .ok (.ifCond .le off, 3)) (ht : (pc : Int) + off = (t : Int)) (hq : pc + 3 = q) (kt : x ≤ 0 → Sm rv G t lv st h e1) (kf : ¬ (x ≤ 0) → Sm rv G q lv st h e2) : Sm rv G pc lv (.int x :: st) h (if x ≤ 0 then e1 else e2) :=
  Sm.lift2 kt kf fun z b p l e0 R s m args below meth c H locs cells slots Q ls hx hb k1 k2 => by subst hq; exact lv_if_le hx hb d ht (fun w => k1 w) (fun w => k2 w)
theorem Sm.goto {off : Int} {t : Nat} (d : decode G.2.1 pc = .ok (.goto off, 3)) (ht : (pc : Int) + off = (t : Int)) (k : Sm rv G t lv st h e) : Sm rv G pc lv st h e :=
  k.lift fun z b p l e0 R s m args below meth c H locs cells slots Q ls hx hb _ _ hl kk => lv_goto hx hb d ht (kk ls hl)
end SM
end
section
/-! fields, arrays -/
/-- a is an object of the kind ci -/
def isO (h : Hp) (a ci : Nat) : Prop := (gS h a).1 = ci ∧ 1 ≤ a ∧ a ≤ gN h
/-- a is an array of the kind kd, and i an index of it -/
def isA (h : Hp) (a kd : Nat) (i : Int32) : Prop := ((gS h a).1 = kd ∧ 1 ≤ a ∧ a ≤ gN h) ∧ ¬ (i < 0 ∨ (gS h a).2 ≤ i.toNatClampNeg)
def isOD (h : Hp) (a ci : Nat) : Decidable (isO h a ci) := inferInstanceAs (Decidable ((gS h a).1 = ci ∧ 1 ≤ a ∧ a ≤ gN h))
def isAD (h : Hp) (a kd : Nat) (i : Int32) : Decidable (isA h a kd i) := inferInstanceAs (Decidable (((gS h a).1 = kd ∧ 1 ≤ a ∧ a ≤ gN h) ∧ ¬ (i < 0 ∨ (gS h a).2 ≤ i.toNatClampNeg)))
/-- go on if a is an object of the kind ci -/
def ck {α : Type} (h : Hp) (a ci : Nat) (e : Option α) : Option α := if (gS h a).1 = ci ∧ 1 ≤ a ∧ a ≤ gN h then e else none
/-- go on if a is an array of the kind kd, and i an index of it -/
def ca {α : Type} (h : Hp) (a kd : Nat) (i : Int32) (e : Option α) : Option α := if ((gS h a).1 = kd ∧ 1 ≤ a ∧ a ≤ gN h) ∧ ¬ (i < 0 ∨ (gS h a).2 ≤ i.toNatClampNeg) then e else none
/-- go on if x is 0 or 1 -/
def bz {α : Type} (x : Int32) (e : Option α) : Option α := if x = 0 ∨ x = 1 then e else none
section SM
variable {ρ : Type} {rv : ρ → Option Value} {G : Gx} {pc q : Nat} {lv lv' st st' : List Value} {h h1 : Hp} {e e1 e2 : Option (ρ × Hp)}
theorem Sm.ck {a ci : Nat} (k : isO h a ci → Sm rv G pc lv st h e) : Sm rv G pc lv st h (Jvm.Pilot.@@N@@.ck h a ci e) := Sm.iff k (fun _ => Sm.none)
theorem Sm.ca {a kd : Nat} {i : Int32} (k : isA h a kd i → Sm rv G pc lv st h e) : Sm rv G pc lv st h (Jvm.Pilot.@@N@@.ca h a kd i e) := Sm.iff k (fun _ => Sm.none)
theorem Sm.bz {x : Int32} (k : (x = 0 ∨ x = 1) → Sm rv G pc lv st h e) : Sm rv G pc lv st h (Jvm.Pilot.@@N@@.bz x e) := Sm.iff k (fun _ => Sm.none)
/-- a step that reads the world -/
theorem Sm.liftR (k : Sm rv G q lv st' h e)
    (hs : ∀ (D : va_G) (dA : Nat → ClassId) (z b : Nat) (p : Program) (l : Launch) (e0 : Env) (R : Room) (s : State) (m : MethodId) (args : Array Value) (below : List Frame) (meth : Method) (c : Code) (H : Heap) (locs : List Loc) (cells slots : Nat) (Q : State → Prop) (ls : Array Slot),
      p.tables.exec = Jvm.exec → c.code = G.2.1 → s.vm.findClass G.1.cls = some m.cls → (∀ w ∈ TBg, w.before args s = true) → va_K D vwCl (tysA dA) s → Rep z b D dA s h H → va_S (fun q => z ≤ q) s.heap H locs → b < z → z ≤ s.heap.size →
      W p l e0 R s m args below meth c H locs cells slots Q (F0 m q ls (st'.map (cv z b))) →
      W p l e0 R s m args below meth c H locs cells slots Q (F0 m pc ls (st.map (cv z b)))) : Sm rv G pc lv st h e := by
  intro r h' he
  obtain ⟨k1, k2, k3⟩ := k r h' he
  refine ⟨k1, k2, fun D dA z b c0 t0 p l e0 R s m args below meth c Q C hc hs' hr h0 h1 H locs ls hl hR hS => ?_⟩
  obtain ⟨C1, C2, C3, C4, C5, C6, C7, C8, C9, C10, C11⟩ := id C
  exact hs D dA z b p l e0 R s m args below meth c H locs _ _ Q ls C1 C2 C4 C5 C7 hR hS C10 (by omega) (k3 D dA z b c0 t0 p l e0 R s m args below meth c Q C hc hs' hr h0 h1 H locs ls hl hR hS)
/-- a step that writes one cell a of the world -/
theorem Sm.liftW {a : Nat} (k : Sm rv G q lv st' h1 e) (ha : 1 ≤ a) (ha2 : a ≤ gN h) (hn : gN h1 = gN h) (ht : gT h1 = gT h) (h0s : (gS h1 0).2 = (gS h 0).2) (h0i : gI h1 0 = gI h 0) (ho : ∀ z b dA k, k ≠ a → ce z b dA h1 k = ce z b dA h k)
    (hs : ∀ (D : va_G) (dA : Nat → ClassId) (z b : Nat) (p : Program) (l : Launch) (e0 : Env) (R : Room) (s : State) (m : MethodId) (args : Array Value) (below : List Frame) (meth : Method) (c : Code) (H : Heap) (locs : List Loc) (cells slots : Nat) (Q : State → Prop) (ls : Array Slot),
      p.tables.exec = Jvm.exec → c.code = G.2.1 → s.vm.findClass G.1.cls = some m.cls → (∀ w ∈ TBg, w.before args s = true) → va_K D vwCl (tysA dA) s → va_P D vwCl (wsO z b dA h) H → va_D (fun q => z ≤ q) (wsO z b dA h) → va_S (fun q => z ≤ q) s.heap H locs → meth.name = G.1.name →
      (∀ (H1 : Heap) (locs1 : List Loc), va_P D vwCl ((wsO z b dA h).set (a - 1) (ad z b a, ce z b dA h1 a)) H1 → va_D (fun q => z ≤ q) ((wsO z b dA h).set (a - 1) (ad z b a, ce z b dA h1 a)) → va_S (fun q => z ≤ q) s.heap H1 locs1 → W p l e0 R s m args below meth c H1 locs1 cells slots Q (F0 m q ls (st'.map (cv z b)))) →
      W p l e0 R s m args below meth c H locs cells slots Q (F0 m pc ls (st.map (cv z b)))) : Sm rv G pc lv st h e := by
  intro r h' he
  obtain ⟨k1, k2, k3⟩ := k r h' he
  rw [hn] at k1
  rw [ht] at k2
  refine ⟨k1, k2, fun D dA z b c0 t0 p l e0 R s m args below meth c Q C hc hs' hr h0 h2 H locs ls hl hR hS => ?_⟩
  obtain ⟨C1, C2, C3, C4, C5, C6, C7, C8, C9, C10, C11⟩ := id C
  refine hs D dA z b p l e0 R s m args below meth c H locs _ _ Q ls C1 C2 C4 C5 C7 hR.2.1 wsO_D hS C6 (fun H1 locs1 hP hD hS1 => ?_)
  rw [wsO_set ha hn (ho z b dA)] at hP
  refine W.sized (fun hz => ?_)
  have hlt := (hP (gN h1 - 1) _ (wsO_get (a := gN h1) (by omega) (Nat.le_refl _))).lt
  rw [show (ad z b (gN h1), ce z b dA h1 (gN h1)).1 = z + (gN h1 - 1) from ad_pos (by omega)] at hlt
  have kk := k3 D dA z b c0 t0 p l e0 R s m args below meth c Q C hc hs' hr (by rw [hn]; exact h0) (by rw [ht]; exact h2) H1 locs1 ls hl ⟨by omega, hP, ?_⟩ hS1
  · rw [hn, ht] at kk
    exact kk
  · rw [h0s, h0i]
    exact hR.2.2.kept (by rw [hS1.2.1 b (by omega) (by omega), hS.2.1 b (by omega) (by omega)])
theorem vwCl_at {ci : Nat} (hci : ci < 11) : ∃ r, vwCl[ci]? = some r ∧ r.2.2 = nF ci ∧ (∀ w ∈ u_ws r.1 r.2.1 r.2.2, w ∈ TBg) ∧ (∀ k, k < nF ci → parseFieldDescriptor (r.2.1 k).2.2.1 = some (tyF ci k)) ∧ (∀ a, a < nF ci → ∀ c, c < nF ci → a ≠ c → (r.2.1 a).2.1 ≠ (r.2.1 c).2.1) := by
  have g : ∀ {C : String} {T : u_T} {N : Nat}, (∀ w ∈ u_ws C T N, w ∈ lw_tbl) → ∀ w ∈ u_ws C T N, w ∈ TBg := fun h w hw => by
    refine tbg (h w hw) ?_
    obtain ⟨k, -, rfl⟩ := List.mem_map.mp hw
    unfold u_lay
    split <;> rfl
  match ci, hci with
  | 0, _ => exact ⟨_, rfl, rfl, g inX0, tyX0_ok, nmX0⟩
  | 1, _ => exact ⟨_, rfl, rfl, g inX1, tyX1_ok, nmX1⟩
  | 2, _ => exact ⟨_, rfl, rfl, g inX2, tyX2_ok, nmX2⟩
  | 3, _ => exact ⟨_, rfl, rfl, g inX3, tyX3_ok, nmX3⟩
  | 4, _ => exact ⟨_, rfl, rfl, g inX4, tyX4_ok, nmX4⟩
  | 5, _ => exact ⟨_, rfl, rfl, g inX5, tyX5_ok, nmX5⟩
  | 6, _ => exact ⟨_, rfl, rfl, g inX6, tyX6_ok, nmX6⟩
  | 7, _ => exact ⟨_, rfl, rfl, g inX7, tyX7_ok, nmX7⟩
  | 8, _ => exact ⟨_, rfl, rfl, g inX8, tyX8_ok, nmX8⟩
  | 9, _ => exact ⟨_, rfl, rfl, g inX9, tyX9_ok, nmX9⟩
  | 10, _ => exact ⟨_, rfl, rfl, g inX10, tyX10_ok, nmX10⟩
theorem ce_ob {z b : Nat} {dA : Nat → ClassId} {a ci : Nat} (hci : ci < 11) (hk : (gS h a).1 = ci) : ce z b dA h a = .inr (ci, fl z b h a ci) := by
  unfold ce
  rw [hk]
  match ci, hci with
  | 0, _ => rfl
  | 1, _ => rfl
  | 2, _ => rfl
  | 3, _ => rfl
  | 4, _ => rfl
  | 5, _ => rfl
  | 6, _ => rfl
  | 7, _ => rfl
  | 8, _ => rfl
  | 9, _ => rfl
  | 10, _ => rfl
theorem fl_get {z b a ci j : Nat} (hj : j < nF ci) : (fl z b h a ci)[j]? = some (fvl z b h a j (tyF ci j)) := by
  unfold fl
  rw [List.getElem?_map, List.getElem?_range hj]
  rfl
theorem fl_len {z b a ci : Nat} : (fl z b h a ci).length = nF ci := by simp [fl]
/-- the field j of an object: any kind of value -/
theorem Sm.getF {a ci j i : Nat} {own n t : String} {f : Bool} {r : vw_C} {v : Value} (hk : isO h a ci) (hci : ci < 11) (hr : vwCl[ci]? = some r) (hj : j < nF ci) (hT : r.2.1 j = (r.1, n, t, f)) (ho : G.1.cls = own) (hw : Cond.fieldLink own i r.1 n t ∈ lw_tbl) (d : decode G.2.1 pc = .ok (.getfield i, 3)) (hq : pc + 3 = q)
    (hv : ∀ z b, fvl z b h a j (tyF ci j) = cv z b v) (k : Sm rv G q lv (v :: st) h e) : Sm rv G pc lv (.ref a :: st) h e := by
  refine k.liftR fun D dA z b p l e0 R s m args below meth c H locs cells slots Q ls hx hb hown hts hK hR hS hbz hz kk => ?_
  subst hq
  obtain ⟨r', g1, g2, g3, g4, g5⟩ := vwCl_at hci
  cases hr.symm.trans g1
  have he : (wsO z b dA h)[a - 1]? = some (ad z b a, .inr (ci, fl z b h a ci)) := by rw [wsO_get hk.2.1 hk.2.2, ce_ob hci hk.1]
  refine va_get (D := D) (C := r.1) (T := r.2.1) (N := r.2.2) (own := own) (ref := r.1) hx hb hts g3 (by rw [← ho]; exact hown) hK hR.2.1 (a - 1) he hr j (by rw [g2]; exact hj) ?_ (fun x h9 => by rw [hT] at h9 ⊢; exact h9) (fl_get hj) d ?_
  · rw [hT]; exact hts _ (tbg hw rfl)
  · rw [hv z b]; exact kk
theorem fvl_int {z b a j : Nat} {ty : FieldType} (ht : ty = .int ∨ ty = .boolean) : fvl z b h a j ty = .int (gI h a j) := by
  rcases ht with rfl | rfl <;> rfl
theorem Sm.getI {a ci j i : Nat} {own n t : String} {f : Bool} {r : vw_C} (hk : isO h a ci) (d : decode G.2.1 pc = .ok (.getfield i, 3)) (hw : Cond.fieldLink own i r.1 n t ∈ lw_tbl) (ho : G.1.cls = own) (hci : ci < 11) (hr : vwCl[ci]? = some r) (hj : j < nF ci) (hT : r.2.1 j = (r.1, n, t, f)) (ht : tyF ci j = .int ∨ tyF ci j = .boolean) (hq : pc + 3 = q)
    (k : Sm rv G q lv (.int (gI h a j) :: st) h e) : Sm rv G pc lv (.ref a :: st) h e := Sm.getF hk hci hr hj hT ho hw d hq (fun z b => fvl_int ht) k
theorem Sm.getL {a ci j i : Nat} {own n t : String} {f : Bool} {r : vw_C} (hk : isO h a ci) (d : decode G.2.1 pc = .ok (.getfield i, 3)) (hw : Cond.fieldLink own i r.1 n t ∈ lw_tbl) (ho : G.1.cls = own) (hci : ci < 11) (hr : vwCl[ci]? = some r) (hj : j < nF ci) (hT : r.2.1 j = (r.1, n, t, f)) (ht : tyF ci j = .long) (hq : pc + 3 = q)
    (k : Sm rv G q lv (.long (gL h a j) :: st) h e) : Sm rv G pc lv (.ref a :: st) h e := Sm.getF hk hci hr hj hT ho hw d hq (fun z b => by rw [ht]; rfl) k
def isRf : FieldType → Bool
  | .object _ => true
  | .array _ => true
  | _ => false
theorem fvl_ref {z b a j x : Nat} {ty : FieldType} (ht : isRf ty = true) (hp : gP h a j = some x) : fvl z b h a j ty = cv z b (.ref x) := by
  cases ty <;> first | (unfold fvl; rw [hp]; rfl) | cases ht
theorem Sm.getP {a ci j i : Nat} {own n t : String} {f : Bool} {r : vw_C} {e : Nat → Option (ρ × Hp)} (hk : isO h a ci) (d : decode G.2.1 pc = .ok (.getfield i, 3)) (hw : Cond.fieldLink own i r.1 n t ∈ lw_tbl) (ho : G.1.cls = own) (hci : ci < 11) (hr : vwCl[ci]? = some r) (hj : j < nF ci) (hT : r.2.1 j = (r.1, n, t, f)) (ht : isRf (tyF ci j) = true) (hq : pc + 3 = q)
    (k : ∀ x, Sm rv G q lv (.ref x :: st) h (e x)) : Sm rv G pc lv (.ref a :: st) h ((gP h a j).bind e) := by
  cases hp : gP h a j with
  | none => exact Sm.none
  | some x => exact Sm.getF hk hci hr hj hT ho hw d hq (fun z b => fvl_ref ht hp) (k x)
theorem ce_far {z b : Nat} {dA : Nat → ClassId} {k : Nat} (hS : gS h1 k = gS h k) (hI : gI h1 k = gI h k) (hL : gL h1 k = gL h k) (hP : gP h1 k = gP h k) : ce z b dA h1 k = ce z b dA h k := by
  have e : ∀ ci, fl z b h1 k ci = fl z b h k ci := fun ci => by
    unfold fl
    apply List.map_congr_left
    intro j _
    unfold fvl
    rw [hI, hL, hP]
  unfold ce
  simp only [hS, hI, hL, hP, e]
theorem up2_ne {α : Type} {f : Nat → Nat → α} {a k q : Nat} {x : α} (h : q ≠ a) : up2 f a k x q = f q := if_neg h
theorem up2_eq {α : Type} {f : Nat → Nat → α} {a k : Nat} {x : α} : up2 f a k x a = va_up (f a) k x := if_pos rfl
theorem set_map {α β : Type} {f g : α → β} {l : List α} {j : Nat} {x : β} (hx : ∀ a, l[j]? = some a → x = g a) (hne : ∀ k a, k ≠ j → l[k]? = some a → f a = g a) : (l.map f).set j x = l.map g := by
  apply List.ext_getElem?
  intro k
  rw [List.getElem?_set]
  by_cases hk : j = k
  · subst hk
    rw [if_pos rfl]
    simp only [List.length_map, List.getElem?_map]
    cases hl : l[j]? with
    | none =>
      have := List.getElem?_eq_none_iff.mp hl
      rw [if_neg (by omega)]
      rfl
    | some a =>
      have := (List.getElem?_eq_some_iff.mp hl).1
      rw [if_pos this, hx a hl]
      rfl
  · rw [if_neg hk]
    simp only [List.getElem?_map]
    cases hl : l[k]? with
    | none => rfl
    | some a => simp only [Option.map_some]; rw [hne k a (fun e => hk e.symm) hl]
/-- a field's change in the list of an object's fields -/
theorem fl_set {z b a ci j : Nat} {v : Value} (hx : v = fvl z b h1 a j (tyF ci j)) (hne : ∀ k, k ≠ j → fvl z b h a k (tyF ci k) = fvl z b h1 a k (tyF ci k)) : (fl z b h a ci).set j v = fl z b h1 a ci := by
  refine set_map (fun q hq => ?_) (fun k q hk hq => ?_)
  · have : q = j := by have := List.getElem?_eq_some_iff.mp hq; obtain ⟨h1, h2⟩ := this; rw [List.getElem_range] at h2; exact h2.symm
    rw [this]; exact hx
  · have : q = k := by have := List.getElem?_eq_some_iff.mp hq; obtain ⟨h1, h2⟩ := this; rw [List.getElem_range] at h2; exact h2.symm
    rw [this]; exact hne k hk
/-- the field j of an object is written: any kind of value; a field that is final only in a constructor -/
theorem Sm.putF {a ci j i : Nat} {own n t : String} {f : Bool} {r : vw_C} {v : Value} (hk : isO h a ci) (hci : ci < 11) (hr : vwCl[ci]? = some r) (hj : j < nF ci) (hT : r.2.1 j = (r.1, n, t, f)) (ho : G.1.cls = own) (hw : Cond.fieldLink own i r.1 n t ∈ lw_tbl) (d : decode G.2.1 pc = .ok (.putfield i, 3)) (hq : pc + 3 = q)
    (hf : f = false ∨ (G.1.name = "<init>" ∧ r.1 = own)) (hnar : ∀ z b, narrow (tyF ci j) (cv z b v) = cv z b v) (hfit : ∀ z b, fits (tyF ci j) (cv z b v) = true) (hS1 : gS h1 = gS h) (hn : gN h1 = gN h) (ht : gT h1 = gT h) (hI : ∀ k, k ≠ a → gI h1 k = gI h k) (hL : ∀ k, k ≠ a → gL h1 k = gL h k) (hP : ∀ k, k ≠ a → gP h1 k = gP h k)
    (hv : ∀ z b, cv z b v = fvl z b h1 a j (tyF ci j)) (hne : ∀ z b k, k ≠ j → fvl z b h a k (tyF ci k) = fvl z b h1 a k (tyF ci k)) (k : Sm rv G q lv st h1 e) : Sm rv G pc lv (v :: .ref a :: st) h e := by
  refine k.liftW (a := a) hk.2.1 hk.2.2 hn ht (by rw [hS1]) (hI 0 (by have := hk.2.1; omega)) (fun z b dA k hka => ce_far (by rw [hS1]) (hI k hka) (hL k hka) (hP k hka)) fun D dA z b p l e0 R s m args below meth c H locs cells slots Q ls hx hb hown hts hK hP hD hS hname kk => ?_
  subst hq
  obtain ⟨r', g1, g2, g3, g4, g5⟩ := vwCl_at hci
  cases hr.symm.trans g1
  have he : (wsO z b dA h)[a - 1]? = some (ad z b a, .inr (ci, fl z b h a ci)) := by rw [wsO_get hk.2.1 hk.2.2, ce_ob hci hk.1]
  have hset : (fl z b h a ci).set j (cv z b v) = fl z b h1 a ci := fl_set (hv z b) (hne z b)
  have hce : ce z b dA h1 a = .inr (ci, fl z b h1 a ci) := ce_ob hci (by rw [hS1]; exact hk.1)
  rw [hce, ← hset] at kk
  have hlk : (Cond.fieldLink own i r.1 (r.2.1 j).2.1 (r.2.1 j).2.2.1).before args s = true := by rw [hT]; exact hts _ (tbg hw rfl)
  have hsm : ∀ x, s.fieldFound? (r.2.1 j).1 (r.2.1 j).2.1 (r.2.1 j).2.2.1 = some x → s.fieldFound? r.1 (r.2.1 j).2.1 (r.2.1 j).2.2.1 = some x := fun x h9 => by rw [hT] at h9 ⊢; exact h9
  rcases Bool.eq_false_or_eq_true f with hf1 | hf1
  · rcases hf with h8 | ⟨h8, h9⟩
    · rw [hf1] at h8; cases h8
    · exact va_putF (D := D) (C := r.1) (T := r.2.1) (N := r.2.2) (own := own) (ref := r.1) hx hb hts g3 (tyF ci) (by rw [g2]; exact g4) (by rw [g2]; exact g5) (by rw [← ho]; exact hown) hK hP hD hS (a - 1) he hr j (by rw [g2]; exact hj) hlk hsm (by rw [hT]; exact hf1) (by rw [hname]; exact h8) (by rw [hT]; exact h9) (g4 j hj) (hnar z b) (hfit z b) (by rw [fl_len]; exact hj) d kk
  · exact va_put (D := D) (C := r.1) (T := r.2.1) (N := r.2.2) (own := own) (ref := r.1) hx hb hts g3 (tyF ci) (by rw [g2]; exact g4) (by rw [g2]; exact g5) (by rw [← ho]; exact hown) hK hP hD hS (a - 1) he hr j (by rw [g2]; exact hj) hlk hsm (by rw [hT]; exact hf1) (g4 j hj) (hnar z b) (hfit z b) (by rw [fl_len]; exact hj) d kk
end SM
end
section
section SM
variable {ρ : Type} {rv : ρ → Option Value} {G : Gx} {pc q : Nat} {lv lv' st st' : List Value} {h h1 : Hp} {e e1 e2 : Option (ρ × Hp)}
theorem fvl_ne {z b a k : Nat} {ty : FieldType} (hI : gI h a k = gI h1 a k) (hL : gL h a k = gL h1 a k) (hP : gP h a k = gP h1 a k) : fvl z b h a k ty = fvl z b h1 a k ty := by
  unfold fvl
  rw [hI, hL, hP]
theorem up2_nk {α : Type} {f : Nat → Nat → α} {a j k : Nat} {x : α} (h : k ≠ j) : up2 f a j x a k = f a k := by
  rw [up2_eq]; exact if_neg h
theorem up2_kk {α : Type} {f : Nat → Nat → α} {a j : Nat} {x : α} : up2 f a j x a j = x := by
  rw [up2_eq]; exact if_pos rfl
theorem Sm.putI {a ci j i : Nat} {own n t : String} {f : Bool} {r : vw_C} {x : Int32} (hk : isO h a ci) (d : decode G.2.1 pc = .ok (.putfield i, 3)) (hw : Cond.fieldLink own i r.1 n t ∈ lw_tbl) (ho : G.1.cls = own) (hci : ci < 11) (hr : vwCl[ci]? = some r) (hj : j < nF ci) (hT : r.2.1 j = (r.1, n, t, f)) (hty : tyF ci j = .int) (hf : f = false ∨ (G.1.name = "<init>" ∧ r.1 = own)) (hq : pc + 3 = q)
    (k : Sm rv G q lv st (sI h a j x) e) : Sm rv G pc lv (.int x :: .ref a :: st) h e :=
  Sm.putF (h1 := sI h a j x) hk hci hr hj hT ho hw d hq hf (fun z b => by rw [hty]; rfl) (fun z b => by rw [hty]; rfl) rfl rfl rfl (fun _ hk => up2_ne hk) (fun _ _ => rfl) (fun _ _ => rfl) (fun z b => by rw [fvl_int (Or.inl hty)]; exact congrArg Value.int up2_kk.symm) (fun z b k hkj => fvl_ne (up2_nk hkj).symm rfl rfl) k
theorem Sm.putZ {a ci j i : Nat} {own n t : String} {f : Bool} {r : vw_C} {x : Int32} (hx : x = 0 ∨ x = 1) (hk : isO h a ci) (d : decode G.2.1 pc = .ok (.putfield i, 3)) (hw : Cond.fieldLink own i r.1 n t ∈ lw_tbl) (ho : G.1.cls = own) (hci : ci < 11) (hr : vwCl[ci]? = some r) (hj : j < nF ci) (hT : r.2.1 j = (r.1, n, t, f)) (hty : tyF ci j = .boolean) (hf : f = false ∨ (G.1.name = "<init>" ∧ r.1 = own)) (hq : pc + 3 = q)
    (k : Sm rv G q lv st (sI h a j x) e) : Sm rv G pc lv (.int x :: .ref a :: st) h e :=
  Sm.putF (h1 := sI h a j x) hk hci hr hj hT ho hw d hq hf (fun z b => by rw [hty]; rcases hx with rfl | rfl <;> rfl) (fun z b => by rw [hty]; rcases hx with rfl | rfl <;> rfl) rfl rfl rfl (fun _ hk => up2_ne hk) (fun _ _ => rfl) (fun _ _ => rfl) (fun z b => by rw [fvl_int (Or.inr hty)]; exact congrArg Value.int up2_kk.symm) (fun z b k hkj => fvl_ne (up2_nk hkj).symm rfl rfl) k
theorem Sm.putL {a ci j i : Nat} {own n t : String} {f : Bool} {r : vw_C} {x : Int64} (hk : isO h a ci) (d : decode G.2.1 pc = .ok (.putfield i, 3)) (hw : Cond.fieldLink own i r.1 n t ∈ lw_tbl) (ho : G.1.cls = own) (hci : ci < 11) (hr : vwCl[ci]? = some r) (hj : j < nF ci) (hT : r.2.1 j = (r.1, n, t, f)) (hty : tyF ci j = .long) (hf : f = false ∨ (G.1.name = "<init>" ∧ r.1 = own)) (hq : pc + 3 = q)
    (k : Sm rv G q lv st (sL h a j x) e) : Sm rv G pc lv (.long x :: .ref a :: st) h e :=
  Sm.putF (h1 := sL h a j x) hk hci hr hj hT ho hw d hq hf (fun z b => by rw [hty]; rfl) (fun z b => by rw [hty]; rfl) rfl rfl rfl (fun _ _ => rfl) (fun _ hk => up2_ne hk) (fun _ _ => rfl) (fun z b => by rw [hty]; exact congrArg Value.long up2_kk.symm) (fun z b k hkj => fvl_ne rfl (up2_nk hkj).symm rfl) k
theorem Sm.putP {a ci j i : Nat} {own n t : String} {f : Bool} {r : vw_C} {x : Nat} (hk : isO h a ci) (d : decode G.2.1 pc = .ok (.putfield i, 3)) (hw : Cond.fieldLink own i r.1 n t ∈ lw_tbl) (ho : G.1.cls = own) (hci : ci < 11) (hr : vwCl[ci]? = some r) (hj : j < nF ci) (hT : r.2.1 j = (r.1, n, t, f)) (hty : isRf (tyF ci j) = true) (hf : f = false ∨ (G.1.name = "<init>" ∧ r.1 = own)) (hq : pc + 3 = q)
    (k : Sm rv G q lv st (sP h a j (some x)) e) : Sm rv G pc lv (.ref x :: .ref a :: st) h e :=
  Sm.putF (h1 := sP h a j (some x)) hk hci hr hj hT ho hw d hq hf (fun z b => by revert hty; cases tyF ci j <;> intro hty <;> first | rfl | cases hty) (fun z b => by revert hty; cases tyF ci j <;> intro hty <;> first | rfl | cases hty) rfl rfl rfl (fun _ _ => rfl) (fun _ _ => rfl) (fun _ hk => up2_ne hk) (fun z b => (fvl_ref (h := sP h a j (some x)) hty (up2_kk (f := h.2.2.2.2.2))).symm) (fun z b k hkj => fvl_ne rfl rfl (up2_nk hkj).symm) k
/-! arrays -/
theorem Sm.iald {a : Nat} {i : Int32} (hk : isA h a 20 i) (d : decode G.2.1 pc = .ok (.iaload, 1)) (hq : pc + 1 = q) (k : Sm rv G q lv (.int (gI h a i.toNatClampNeg) :: st) h e) : Sm rv G pc lv (.int i :: .ref a :: st) h e := by
  refine k.liftR fun D dA z b p l e0 R s m args below meth c H locs cells slots Q ls hx hb hown hts hK hR hS hbz hz kk => ?_
  subst hq
  have he : (wsO z b dA h)[a - 1]? = some (ad z b a, .inl (dA 0, (gS h a).2, .inl (gI h a))) := by rw [wsO_get hk.1.2.1 hk.1.2.2]; unfold ce; rw [hk.1.1]; rfl
  exact va_iald hx hb hK hR.2.1 (a - 1) 0 he rfl hk.2 d kk
theorem Sm.zald {a : Nat} {i : Int32} (hk : isA h a 21 i) (d : decode G.2.1 pc = .ok (.baload, 1)) (hq : pc + 1 = q) (k : Sm rv G q lv (.int (gI h a i.toNatClampNeg) :: st) h e) : Sm rv G pc lv (.int i :: .ref a :: st) h e := by
  refine k.liftR fun D dA z b p l e0 R s m args below meth c H locs cells slots Q ls hx hb hown hts hK hR hS hbz hz kk => ?_
  subst hq
  have he : (wsO z b dA h)[a - 1]? = some (ad z b a, .inl (dA 1, (gS h a).2, .inl (gI h a))) := by rw [wsO_get hk.1.2.1 hk.1.2.2]; unfold ce; rw [hk.1.1]; rfl
  exact va_zald hx hb hK hR.2.1 (a - 1) 1 he rfl hk.2 d kk
theorem Sm.lald {a : Nat} {i : Int32} (hk : isA h a 22 i) (d : decode G.2.1 pc = .ok (.laload, 1)) (hq : pc + 1 = q) (k : Sm rv G q lv (.long (gL h a i.toNatClampNeg) :: st) h e) : Sm rv G pc lv (.int i :: .ref a :: st) h e := by
  refine k.liftR fun D dA z b p l e0 R s m args below meth c H locs cells slots Q ls hx hb hown hts hK hR hS hbz hz kk => ?_
  subst hq
  have he : (wsO z b dA h)[a - 1]? = some (ad z b a, .inl (dA 2, (gS h a).2, .inr (.inl (gL h a)))) := by rw [wsO_get hk.1.2.1 hk.1.2.2]; unfold ce; rw [hk.1.1]; rfl
  exact va_lald hx hb hK hR.2.1 (a - 1) 2 he rfl hk.2 d kk
theorem Sm.aald {a kd : Nat} {i : Int32} {e : Nat → Option (ρ × Hp)} (hk : isA h a kd i) (hkd : kd = 23 ∨ kd = 24) (d : decode G.2.1 pc = .ok (.aaload, 1)) (hq : pc + 1 = q) (k : ∀ x, Sm rv G q lv (.ref x :: st) h (e x)) : Sm rv G pc lv (.int i :: .ref a :: st) h ((gP h a i.toNatClampNeg).bind e) := by
  cases hp : gP h a i.toNatClampNeg with
  | none => exact Sm.none
  | some x =>
    refine (k x).liftR fun D dA z b p l e0 R s m args below meth c H locs cells slots Q ls hx hb hown hts hK hR hS hbz hz kk => ?_
    subst hq
    have e0' : va_rf ((gP h a i.toNatClampNeg).map (ad z b)) = .ref (ad z b x) := by rw [hp]; rfl
    rcases hkd with rfl | rfl
    · have he : (wsO z b dA h)[a - 1]? = some (ad z b a, .inl (dA 3, (gS h a).2, .inr (.inr (.inr (.inr (fun j => (gP h a j).map (ad z b))))))) := by rw [wsO_get hk.1.2.1 hk.1.2.2]; unfold ce; rw [hk.1.1]; rfl
      refine va_aldq hx hb hK hR.2.1 (a - 1) 3 he rfl hk.2 d ?_
      rw [e0']
      exact kk
    · have he : (wsO z b dA h)[a - 1]? = some (ad z b a, .inl (dA 4, (gS h a).2, .inr (.inr (.inr (.inr (fun j => (gP h a j).map (ad z b))))))) := by rw [wsO_get hk.1.2.1 hk.1.2.2]; unfold ce; rw [hk.1.1]; rfl
      refine va_aldq hx hb hK hR.2.1 (a - 1) 4 he rfl hk.2 d ?_
      rw [e0']
      exact kk
/-- the script -/
theorem Sm.sald {i : Int32} (hk : ¬ (i < 0 ∨ (gS h 0).2 ≤ i.toNatClampNeg)) (d : decode G.2.1 pc = .ok (.iaload, 1)) (hq : pc + 1 = q) (k : Sm rv G q lv (.int (gI h 0 i.toNatClampNeg) :: st) h e) : Sm rv G pc lv (.int i :: .ref 0 :: st) h e := by
  refine k.liftR fun D dA z b p l e0 R s m args below meth c H locs cells slots Q ls hx hb hown hts hK hR hS hbz hz kk => ?_
  subst hq
  have hX : va_X b (gS h 0).2 (gI h 0) s s.heap := hR.2.2.kept (by rw [hS.2.1 b (by omega) (by omega)])
  exact va_sld hx hb hX (by omega) (by omega) hS hk d kk
theorem Sm.salen (d : decode G.2.1 pc = .ok (.arraylength, 1)) (hq : pc + 1 = q) (k : Sm rv G q lv (.int (Int32.ofNat (gS h 0).2) :: st) h e) : Sm rv G pc lv (.ref 0 :: st) h e := by
  refine k.liftR fun D dA z b p l e0 R s m args below meth c H locs cells slots Q ls hx hb hown hts hK hR hS hbz hz kk => ?_
  subst hq
  have hX : va_X b (gS h 0).2 (gI h 0) s s.heap := hR.2.2.kept (by rw [hS.2.1 b (by omega) (by omega)])
  have hbs : b < s.heap.size := by omega
  have hbz2 : ¬ z ≤ b := by omega
  exact va_slen (b := b) hx hb hX hbs hbz2 hS d kk
theorem Sm.alen {a kd : Nat} (hk : isO h a kd) (hkd : 20 ≤ kd ∧ kd ≤ 24) (d : decode G.2.1 pc = .ok (.arraylength, 1)) (hq : pc + 1 = q) (k : Sm rv G q lv (.int (Int32.ofNat (gS h a).2) :: st) h e) : Sm rv G pc lv (.ref a :: st) h e := by
  refine k.liftR fun D dA z b p l e0 R s m args below meth c H locs cells slots Q ls hx hb hown hts hK hR hS hbz hz kk => ?_
  subst hq
  have hg := wsO_get (z := z) (b := b) (dA := dA) hk.2.1 hk.2.2
  unfold ce at hg
  rw [hk.1] at hg
  have h5 : kd = 20 ∨ kd = 21 ∨ kd = 22 ∨ kd = 23 ∨ kd = 24 := by omega
  rcases h5 with rfl | rfl | rfl | rfl | rfl
  · exact va_alen hx hb hK hR.2.1 (a - 1) 0 hg rfl rfl d kk
  · exact va_alen hx hb hK hR.2.1 (a - 1) 1 hg rfl rfl d kk
  · exact va_alen hx hb hK hR.2.1 (a - 1) 2 hg rfl rfl d kk
  · exact va_alen hx hb hK hR.2.1 (a - 1) 3 hg rfl rfl d kk
  · exact va_alen hx hb hK hR.2.1 (a - 1) 4 hg rfl rfl d kk
theorem ce_arr {z b a kd : Nat} {dA : Nat → ClassId} {x : va_E} (h2 : gS h1 a = gS h a) (hk : (gS h a).1 = kd) (hx : ce z b dA h1 a = x) : ce z b dA h1 a = x := hx
theorem Sm.iast {a : Nat} {i x : Int32} (hk : isA h a 20 i) (d : decode G.2.1 pc = .ok (.iastore, 1)) (hq : pc + 1 = q) (k : Sm rv G q lv st (sI h a i.toNatClampNeg x) e) : Sm rv G pc lv (.int x :: .int i :: .ref a :: st) h e := by
  refine k.liftW (a := a) hk.1.2.1 hk.1.2.2 rfl rfl rfl (up2_ne (by have := hk.1.2.1; omega)) (fun z b dA k hka => ce_far rfl (up2_ne hka) rfl rfl) fun D dA z b p l e0 R s m args below meth c H locs cells slots Q ls hx hb hown hts hK hP hD hS hname kk => ?_
  subst hq
  have he : (wsO z b dA h)[a - 1]? = some (ad z b a, .inl (dA 0, (gS h a).2, .inl (gI h a))) := by rw [wsO_get hk.1.2.1 hk.1.2.2]; unfold ce; rw [hk.1.1]; rfl
  have hc : ce z b dA (sI h a i.toNatClampNeg x) a = .inl (dA 0, (gS h a).2, .inl (upd (gI h a) i.toNatClampNeg x)) := by
    unfold ce
    rw [show gS (sI h a i.toNatClampNeg x) a = gS h a from rfl, hk.1.1, show gI (sI h a i.toNatClampNeg x) a = upd (gI h a) i.toNatClampNeg x from up2_eq]
    rfl
  rw [hc] at kk
  exact va_iast hx hb hK hP hD hS (a - 1) 0 he rfl hk.2 d kk
theorem nar_bool {x : Int32} (hx : x = 0 ∨ x = 1) : vp_nar .boolean x = x := by rcases hx with rfl | rfl <;> rfl
theorem Sm.zast {a : Nat} {i x : Int32} (hx01 : x = 0 ∨ x = 1) (hk : isA h a 21 i) (d : decode G.2.1 pc = .ok (.bastore, 1)) (hq : pc + 1 = q) (k : Sm rv G q lv st (sI h a i.toNatClampNeg x) e) : Sm rv G pc lv (.int x :: .int i :: .ref a :: st) h e := by
  refine k.liftW (a := a) hk.1.2.1 hk.1.2.2 rfl rfl rfl (up2_ne (by have := hk.1.2.1; omega)) (fun z b dA k hka => ce_far rfl (up2_ne hka) rfl rfl) fun D dA z b p l e0 R s m args below meth c H locs cells slots Q ls hx hb hown hts hK hP hD hS hname kk => ?_
  subst hq
  have he : (wsO z b dA h)[a - 1]? = some (ad z b a, .inl (dA 1, (gS h a).2, .inl (gI h a))) := by rw [wsO_get hk.1.2.1 hk.1.2.2]; unfold ce; rw [hk.1.1]; rfl
  have hc : ce z b dA (sI h a i.toNatClampNeg x) a = .inl (dA 1, (gS h a).2, .inl (upd (gI h a) i.toNatClampNeg (vp_nar .boolean x))) := by
    rw [nar_bool hx01]
    unfold ce
    rw [show gS (sI h a i.toNatClampNeg x) a = gS h a from rfl, hk.1.1, show gI (sI h a i.toNatClampNeg x) a = upd (gI h a) i.toNatClampNeg x from up2_eq]
    rfl
  rw [hc] at kk
  exact va_zast hx hb hK hP hD hS (a - 1) 1 he rfl hk.2 d kk
theorem Sm.last {a : Nat} {i : Int32} {x : Int64} (hk : isA h a 22 i) (d : decode G.2.1 pc = .ok (.lastore, 1)) (hq : pc + 1 = q) (k : Sm rv G q lv st (sL h a i.toNatClampNeg x) e) : Sm rv G pc lv (.long x :: .int i :: .ref a :: st) h e := by
  refine k.liftW (a := a) hk.1.2.1 hk.1.2.2 rfl rfl rfl rfl (fun z b dA k hka => ce_far rfl rfl (up2_ne hka) rfl) fun D dA z b p l e0 R s m args below meth c H locs cells slots Q ls hx hb hown hts hK hP hD hS hname kk => ?_
  subst hq
  have he : (wsO z b dA h)[a - 1]? = some (ad z b a, .inl (dA 2, (gS h a).2, .inr (.inl (gL h a)))) := by rw [wsO_get hk.1.2.1 hk.1.2.2]; unfold ce; rw [hk.1.1]; rfl
  have hc : ce z b dA (sL h a i.toNatClampNeg x) a = .inl (dA 2, (gS h a).2, .inr (.inl (vp_updL (gL h a) i.toNatClampNeg x))) := by
    unfold ce
    rw [show gS (sL h a i.toNatClampNeg x) a = gS h a from rfl, hk.1.1, show gL (sL h a i.toNatClampNeg x) a = vp_updL (gL h a) i.toNatClampNeg x from up2_eq]
    rfl
  rw [hc] at kk
  exact va_last hx hb hK hP hD hS (a - 1) 2 he rfl hk.2 d kk
theorem Sm.aast {a kd ci x : Nat} {i : Int32} (hk : isA h a kd i) (hx : isO h x ci) (hkd : (kd = 23 ∧ ci = 7) ∨ (kd = 24 ∧ ci = 4)) (d : decode G.2.1 pc = .ok (.aastore, 1)) (hq : pc + 1 = q) (k : Sm rv G q lv st (sP h a i.toNatClampNeg (some x)) e) : Sm rv G pc lv (.ref x :: .int i :: .ref a :: st) h e := by
  refine k.liftW (a := a) hk.1.2.1 hk.1.2.2 rfl rfl rfl rfl (fun z b dA k hka => ce_far rfl rfl rfl (up2_ne hka)) fun D dA z b p l e0 R s m args below meth c H locs cells slots Q ls hx' hb hown hts hK hP hD hS hname kk => ?_
  subst hq
  have hv : (wsO z b dA h)[x - 1]? = some (ad z b x, .inr (ci, fl z b h x ci)) := by rw [wsO_get hx.2.1 hx.2.2, ce_ob (by omega) hx.1]
  have hup : (fun j => (gP (sP h a i.toNatClampNeg (some x)) a j).map (ad z b)) = va_up (fun j => (gP h a j).map (ad z b)) i.toNatClampNeg (some (ad z b x)) := by
    funext j
    rw [show gP (sP h a i.toNatClampNeg (some x)) a = va_up (gP h a) i.toNatClampNeg (some x) from up2_eq]
    unfold va_up
    by_cases hj : j = i.toNatClampNeg
    · rw [if_pos hj, if_pos hj]; rfl
    · rw [if_neg hj, if_neg hj]
  rcases hkd with ⟨rfl, rfl⟩ | ⟨rfl, rfl⟩
  · have he : (wsO z b dA h)[a - 1]? = some (ad z b a, .inl (dA 3, (gS h a).2, .inr (.inr (.inr (.inr (fun j => (gP h a j).map (ad z b))))))) := by rw [wsO_get hk.1.2.1 hk.1.2.2]; unfold ce; rw [hk.1.1]; rfl
    have hc : ce z b dA (sP h a i.toNatClampNeg (some x)) a = .inl (dA 3, (gS h a).2, .inr (.inr (.inr (.inr (va_up (fun j => (gP h a j).map (ad z b)) i.toNatClampNeg (some (ad z b x))))))) := by
      rw [← hup]
      unfold ce
      rw [show gS (sP h a i.toNatClampNeg (some x)) a = gS h a from rfl, hk.1.1]
      rfl
    rw [hc] at kk
    exact va_astq (r := (RX7, TX7, 6)) hx' hb hK hP hD hS (a - 1) 3 (x - 1) 7 he rfl hv rfl hk.2 d kk
  · have he : (wsO z b dA h)[a - 1]? = some (ad z b a, .inl (dA 4, (gS h a).2, .inr (.inr (.inr (.inr (fun j => (gP h a j).map (ad z b))))))) := by rw [wsO_get hk.1.2.1 hk.1.2.2]; unfold ce; rw [hk.1.1]; rfl
    have hc : ce z b dA (sP h a i.toNatClampNeg (some x)) a = .inl (dA 4, (gS h a).2, .inr (.inr (.inr (.inr (va_up (fun j => (gP h a j).map (ad z b)) i.toNatClampNeg (some (ad z b x))))))) := by
      rw [← hup]
      unfold ce
      rw [show gS (sP h a i.toNatClampNeg (some x)) a = gS h a from rfl, hk.1.1]
      rfl
    rw [hc] at kk
    exact va_astq (r := (RX4, TX4, 4)) hx' hb hK hP hD hS (a - 1) 4 (x - 1) 4 he rfl hv rfl hk.2 d kk
end SM
end
section
section SM
variable {ρ : Type} {rv : ρ → Option Value} {G : Gx} {pc q : Nat} {lv lv' st st' : List Value} {h h1 : Hp} {e e1 e2 : Option (ρ × Hp)}
theorem row0_eq {α : Type} {f : Nat → Nat → α} {a : Nat} {x : α} : row0 f a x a = fun _ => x := if_pos rfl
theorem row0_ne {α : Type} {f : Nat → Nat → α} {a k : Nat} {x : α} (h : k ≠ a) : row0 f a x k = f k := if_neg h
theorem nwc_S {kd len sl : Nat} : gS (nwc h kd len sl) (gN h + 1) = (kd, len) := va_up_self ..
theorem nwc_S0 {kd len sl : Nat} : gS (nwc h kd len sl) 0 = gS h 0 := by
  show va_up h.2.2.1 (h.1 + 1) (kd, len) 0 = h.2.2.1 0
  exact va_up_ne _ _ (show (0:Nat) ≠ h.1 + 1 by omega)
theorem nwc_I0 {kd len sl : Nat} : gI (nwc h kd len sl) 0 = gI h 0 := by
  show row0 h.2.2.2.1 (h.1 + 1) 0 0 = h.2.2.2.1 0
  exact row0_ne (show (0:Nat) ≠ h.1 + 1 by omega)
theorem ce_nwc {z b : Nat} {dA : Nat → ClassId} {kd len sl k : Nat} (hk : k ≤ gN h) : ce z b dA (nwc h kd len sl) k = ce z b dA h k := by
  have hne : k ≠ h.1 + 1 := by have : gN h = h.1 := rfl; omega
  exact ce_far (if_neg hne) (row0_ne hne) (row0_ne hne) (row0_ne hne)
/-- where a cell that is apart from all others, and last in the heap, must lie -/
theorem last_at {z b : Nat} {D : va_G} {dA : Nat → ClassId} {H1 : Heap} {x : va_E} {a : Nat} (hP : va_P D vwCl (wsO z b dA h ++ [(a, x)]) H1) (hD : va_D (fun q => z ≤ q) (wsO z b dA h ++ [(a, x)])) (hz : H1.size ≤ z + (gN h + 1)) : a = z + gN h := by
  have hlen : (wsO z b dA h).length = gN h := by simp [wsO]
  have hlast : (wsO z b dA h ++ [(a, x)])[gN h]? = some (a, x) := by rw [List.getElem?_append_right (by omega), hlen, Nat.sub_self]; rfl
  have h1 : a < H1.size := (hP _ _ hlast).lt
  have h2 : z ≤ a := hD.2 _ _ hlast
  rcases Nat.lt_or_ge a (z + gN h) with h3 | h3
  · exfalso
    have hk : (wsO z b dA h ++ [(a, x)])[a - z]? = some (z + (a - z), ce z b dA h (a - z + 1)) := by
      rw [List.getElem?_append_left (by omega)]
      have := wsO_get (z := z) (b := b) (dA := dA) (h := h) (a := a - z + 1) (by omega) (by omega)
      rw [show a - z + 1 - 1 = a - z by omega, ad_pos (by omega), show a - z + 1 - 1 = a - z by omega] at this
      exact this
    have := hD.1 (a - z) (gN h) _ _ hk hlast (show z + (a - z) = a by omega)
    omega
  · omega
/-- a step that makes a cell -/
theorem Sm.liftN {kd len sl : Nat} (k : Sm rv G q lv (.ref (gN h + 1) :: st') (nwc h kd len sl) e)
    (hs : ∀ (D : va_G) (dA : Nat → ClassId) (z b : Nat) (p : Program) (l : Launch) (e0 : Env) (R : Room) (s : State) (m : MethodId) (args : Array Value) (below : List Frame) (meth : Method) (c : Code) (H : Heap) (locs : List Loc) (cells slots : Nat) (Q : State → Prop) (ls : Array Slot),
      p.tables.exec = Jvm.exec → c.code = G.2.1 → s.vm.findClass G.1.cls = some m.cls → (∀ w ∈ TBg, w.before args s = true) → va_K D vwCl (tysA dA) s → NWok s → va_P D vwCl (wsO z b dA h) H → va_D (fun q => z ≤ q) (wsO z b dA h) → va_S (fun q => z ≤ q) s.heap H locs → (∀ q, s.heap.size ≤ q → z ≤ q) → cells + 1 ≤ R.cells → slots + sl ≤ R.slots →
      (∀ (a : Nat) (H1 : Heap), va_P D vwCl (wsO z b dA h ++ [(a, ce z b dA (nwc h kd len sl) (gN h + 1))]) H1 → va_D (fun q => z ≤ q) (wsO z b dA h ++ [(a, ce z b dA (nwc h kd len sl) (gN h + 1))]) → va_S (fun q => z ≤ q) s.heap H1 locs → W p l e0 R s m args below meth c H1 locs (cells + 1) (slots + sl) Q (F0 m q ls (.ref a :: st'.map (cv z b)))) →
      W p l e0 R s m args below meth c H locs cells slots Q (F0 m pc ls (st.map (cv z b)))) : Sm rv G pc lv st h e := by
  intro r h' he
  obtain ⟨k1, k2, k3⟩ := k r h' he
  have n1 : gN (nwc h kd len sl) = gN h + 1 := rfl
  have n2 : gT (nwc h kd len sl) = gT h + sl := rfl
  rw [n1] at k1
  rw [n2] at k2
  have k1' := k1.2
  refine ⟨⟨k1.1, by omega⟩, by omega, fun D dA z b c0 t0 p l e0 R s m args below meth c Q C hc hs' hr h0 h2 H locs ls hl hR hS => ?_⟩
  obtain ⟨C1, C2, C3, C4, C5, C6, C7, C8, C9, C10, C11⟩ := id C
  refine hs D dA z b p l e0 R s m args below meth c H locs _ _ Q ls C1 C2 C4 C5 C7 C8 hR.2.1 wsO_D hS (fun q h => by omega) (by omega) (by omega) (fun a H1 hP hD hS1 => ?_)
  refine W.sized (fun hz => ?_)
  have ha := last_at hP hD (by omega)
  subst ha
  rw [wsO_push n1 (fun k hk => ce_nwc hk)] at hP
  have hlt := (hP (gN h) _ (wsO_get (a := gN h + 1) (by omega) (Nat.le_refl _))).lt
  rw [show (ad z b (gN h + 1), ce z b dA (nwc h kd len sl) (gN h + 1)).1 = z + gN h from ad_pos (z := z) (b := b) (k := gN h + 1) (by omega)] at hlt
  have kk := k3 D dA z b c0 t0 p l e0 R s m args below meth c Q C hc hs' hr (by omega) (by omega) H1 locs ls hl ⟨by omega, hP, ?_⟩ hS1
  · rw [n1, n2, show gN h + 1 - c0 = gN h - c0 + 1 by omega, show gT h + sl - t0 = gT h - t0 + sl by omega] at kk
    have e : (Value.ref (gN h + 1) :: st').map (cv z b) = .ref (z + gN h) :: st'.map (cv z b) := by
      rw [List.map_cons]
      show Value.ref (ad z b (gN h + 1)) :: _ = _
      rw [ad_pos (by omega)]
      rfl
    rw [e] at kk
    exact kk
  · have s0 : gS (nwc h kd len sl) 0 = gS h 0 := nwc_S0
    have i0 : gI (nwc h kd len sl) 0 = gI h 0 := nwc_I0
    rw [s0, i0]
    have hb1 : b < s.heap.size := by omega
    have hb2 : ¬ z ≤ b := by omega
    exact hR.2.2.kept (by rw [hS1.2.1 b hb1 hb2, hS.2.1 b hb1 hb2])
def okT : FieldType → Bool
  | .float => false
  | .double => false
  | _ => true
theorem okT_all : ∀ ci, ci < 11 → ∀ j, j < nF ci → okT (tyF ci j) = true := by decide +kernel
theorem fvl_new {z b kd len sl j : Nat} {ty : FieldType} (ht : okT ty = true) : defaultValue ty = fvl z b (nwc h kd len sl) (gN h + 1) j ty := by
  have i0 : gI (nwc h kd len sl) (gN h + 1) j = 0 := by show row0 _ _ _ _ _ = _; rw [show gN h + 1 = h.1 + 1 from rfl, row0_eq]
  have l0 : gL (nwc h kd len sl) (gN h + 1) j = 0 := by show row0 _ _ _ _ _ = _; rw [show gN h + 1 = h.1 + 1 from rfl, row0_eq]
  have p0 : gP (nwc h kd len sl) (gN h + 1) j = none := by show row0 _ _ _ _ _ = _; rw [show gN h + 1 = h.1 + 1 from rfl, row0_eq]
  cases ty <;> first | (exact absurd ht (by decide)) | (unfold fvl; rw [i0]; rfl) | (unfold fvl; rw [l0]; rfl) | (unfold fvl; rw [p0]; rfl)
theorem Sm.new {ci i : Nat} {own : String} {r : vw_C} (d : decode G.2.1 pc = .ok (.new i, 3)) (hw : Cond.classLink own i r.1 ∈ lw_tbl) (hin : Cond.instantiable r.1 r.2.2 ∈ lw_tbl) (hini : Cond.initialized r.1 ∈ lw_tbl) (ho : G.1.cls = own) (hci : ci < 11) (hr : vwCl[ci]? = some r) (hq : pc + 3 = q)
    (k : Sm rv G q lv (.ref (gN h + 1) :: st) (nwc h ci 0 (nF ci)) e) : Sm rv G pc lv st h e := by
  refine k.liftN fun D dA z b p l e0 R s m args below meth c H locs cells slots Q ls hx hb hown hts hK hN hP hD hS hA hcl hsl kk => ?_
  subst hq
  obtain ⟨r', g1, g2, g3, g4, g5⟩ := vwCl_at hci
  cases hr.symm.trans g1
  have hce : ce z b dA (nwc h ci 0 (nF ci)) (gN h + 1) = .inr (ci, fl z b (nwc h ci 0 (nF ci)) (gN h + 1) ci) := ce_ob hci (by rw [nwc_S])
  rw [hce] at kk
  rw [← g2] at hsl kk
  refine va_new (D := D) (C := r.1) (T := r.2.1) (N := r.2.2) (own := own) hx hb hts g3 (tyF ci) (by rw [g2]; exact g4) (by rw [← ho]; exact hown) (hts _ (tbg hw rfl)) (hts _ (tbg hin rfl)) (hts _ (tbg hini rfl)) hK hP hD hS hA hr (fun j hj => ?_) hcl hsl d kk
  rw [g2] at hj
  unfold vp_V
  rw [List.getD_eq_getElem?_getD, fl_get hj]
  exact fvl_new (okT_all ci hci j hj)
theorem tysA_at {s : State} {D : va_G} {dA : Nat → ClassId} {cA : ClassId} {ty : FieldType} {t : Nat} (hK : va_K D vwCl (tysA dA ++ [(cA, ty)]) s) (ht : (tysA dA)[t]? = some (dA t, ty)) (h5 : t < 5) : cA = dA t := by
  have h1 : va_RA s cA ty := (hK.2 5 (cA, ty) rfl).2
  have h2 : va_RA s (dA t) ty := (hK.2 t (dA t, ty) (by rw [List.getElem?_append_left (by show t < 5; exact h5)]; exact ht)).2
  cases ty with
  | object C =>
    obtain ⟨_, _, _, _, _, a4⟩ := h1
    obtain ⟨_, _, _, _, _, b4⟩ := h2
    exact Option.some.inj (a4.symm.trans b4)
  | _ => exact Option.some.inj (Eq.trans (Eq.symm h1) h2)
theorem Sm.newI {n : Int32} (hn : ¬ n < 0) (hb4 : n.toNatClampNeg * 4 ≤ 536870912) (d : decode G.2.1 pc = .ok (.newarray .int, 2)) (hw : Cond.arrayClass .int ∈ lw_tbl) (hq : pc + 2 = q)
    (k : Sm rv G q lv (.ref (gN h + 1) :: st) (nwc h 20 n.toNatClampNeg n.toNatClampNeg) e) : Sm rv G pc lv (.int n :: st) h e := by
  refine k.liftN fun D dA z b p l e0 R s m args below meth c H locs cells slots Q ls hx hb hown hts hK hN hP hD hS hA hcl hsl kk => ?_
  subst hq
  have hc : ce z b dA (nwc h 20 n.toNatClampNeg n.toNatClampNeg) (gN h + 1) = .inl (dA 0, n.toNatClampNeg, .inl (fun _ => 0)) := by
    unfold ce
    rw [nwc_S, show gI (nwc h 20 n.toNatClampNeg n.toNatClampNeg) (gN h + 1) = (fun _ => 0) from row0_eq]
    rfl
  rw [hc] at kk
  refine va_newa (atype := .int) (ty := .int) (a0 := (n.toNatClampNeg, .inl (fun _ => 0))) hx hb (hts _ (tbg hw rfl)) rfl hK hP hD hS hA (fun cA => rfl) hn rfl hb4 hcl hsl d (fun a cA H1 hK1 hP1 hD1 hS1 => ?_)
  have e : cA = dA 0 := tysA_at hK1 rfl (by omega)
  subst e
  exact kk a H1 hP1 hD1 hS1
theorem Sm.newZ {n : Int32} (hn : ¬ n < 0) (hb4 : n.toNatClampNeg * 1 ≤ 536870912) (d : decode G.2.1 pc = .ok (.newarray .boolean, 2)) (hw : Cond.arrayClass .boolean ∈ lw_tbl) (hq : pc + 2 = q)
    (k : Sm rv G q lv (.ref (gN h + 1) :: st) (nwc h 21 n.toNatClampNeg n.toNatClampNeg) e) : Sm rv G pc lv (.int n :: st) h e := by
  refine k.liftN fun D dA z b p l e0 R s m args below meth c H locs cells slots Q ls hx hb hown hts hK hN hP hD hS hA hcl hsl kk => ?_
  subst hq
  have hc : ce z b dA (nwc h 21 n.toNatClampNeg n.toNatClampNeg) (gN h + 1) = .inl (dA 1, n.toNatClampNeg, .inl (fun _ => 0)) := by
    unfold ce
    rw [nwc_S, show gI (nwc h 21 n.toNatClampNeg n.toNatClampNeg) (gN h + 1) = (fun _ => 0) from row0_eq]
    rfl
  rw [hc] at kk
  refine va_newa (atype := .boolean) (ty := .boolean) (a0 := (n.toNatClampNeg, .inl (fun _ => 0))) hx hb (hts _ (tbg hw rfl)) rfl hK hP hD hS hA (fun cA => rfl) hn rfl hb4 hcl hsl d (fun a cA H1 hK1 hP1 hD1 hS1 => ?_)
  have e : cA = dA 1 := tysA_at hK1 rfl (by omega)
  subst e
  exact kk a H1 hP1 hD1 hS1
theorem Sm.newL {n : Int32} (hn : ¬ n < 0) (hb4 : n.toNatClampNeg * 8 ≤ 536870912) (d : decode G.2.1 pc = .ok (.newarray .long, 2)) (hw : Cond.arrayClass .long ∈ lw_tbl) (hq : pc + 2 = q)
    (k : Sm rv G q lv (.ref (gN h + 1) :: st) (nwc h 22 n.toNatClampNeg n.toNatClampNeg) e) : Sm rv G pc lv (.int n :: st) h e := by
  refine k.liftN fun D dA z b p l e0 R s m args below meth c H locs cells slots Q ls hx hb hown hts hK hN hP hD hS hA hcl hsl kk => ?_
  subst hq
  have hc : ce z b dA (nwc h 22 n.toNatClampNeg n.toNatClampNeg) (gN h + 1) = .inl (dA 2, n.toNatClampNeg, .inr (.inl (fun _ => 0))) := by
    unfold ce
    rw [nwc_S, show gL (nwc h 22 n.toNatClampNeg n.toNatClampNeg) (gN h + 1) = (fun _ => 0) from row0_eq]
    rfl
  rw [hc] at kk
  refine va_newa (atype := .long) (ty := .long) (a0 := (n.toNatClampNeg, .inr (.inl (fun _ => 0)))) hx hb (hts _ (tbg hw rfl)) rfl hK hP hD hS hA (fun cA => rfl) hn rfl hb4 hcl hsl d (fun a cA H1 hK1 hP1 hD1 hS1 => ?_)
  have e : cA = dA 2 := tysA_at hK1 rfl (by omega)
  subst e
  exact kk a H1 hP1 hD1 hS1
theorem Sm.newQ {kd i : Nat} {C own : String} {n : Int32} (hkd : (kd = 23 ∧ C = RX7) ∨ (kd = 24 ∧ C = RX4)) (hn : ¬ n < 0) (hb4 : n.toNatClampNeg * 4 ≤ 536870912) (d : decode G.2.1 pc = .ok (.anewarray i, 3)) (hw : Cond.classLink own i C ∈ lw_tbl) (ho : G.1.cls = own) (hq : pc + 3 = q)
    (k : Sm rv G q lv (.ref (gN h + 1) :: st) (nwc h kd n.toNatClampNeg n.toNatClampNeg) e) : Sm rv G pc lv (.int n :: st) h e := by
  refine k.liftN fun D dA z b p l e0 R s m args below meth c H locs cells slots Q ls hx hb hown hts hK hN hP hD hS hA hcl hsl kk => ?_
  subst hq
  have hnul : (fun j => Option.map (ad z b) (gP (nwc h kd n.toNatClampNeg n.toNatClampNeg) (gN h + 1) j)) = (fun _ => Option.none) := by
    rw [show gP (nwc h kd n.toNatClampNeg n.toNatClampNeg) (gN h + 1) = (fun _ => Option.none) from row0_eq]
    rfl
  rcases hkd with ⟨rfl, rfl⟩ | ⟨rfl, rfl⟩
  · have hc : ce z b dA (nwc h 23 n.toNatClampNeg n.toNatClampNeg) (gN h + 1) = .inl (dA 3, n.toNatClampNeg, .inr (.inr (.inr (.inr (fun _ => Option.none))))) := by
      unfold ce
      rw [nwc_S]
      show Sum.inl (_, _, Sum.inr (Sum.inr (Sum.inr (Sum.inr (fun j => Option.map (ad z b) (gP _ _ j)))))) = _
      rw [hnul]
    rw [hc] at kk
    refine va_newq (own := own) hx hb (by rw [← ho]; exact hown) (hts _ (tbg hw rfl)) hN.2.1 hK hP hD hS hA hn rfl hb4 hcl hsl d (fun a cA H1 hK1 hP1 hD1 hS1 => ?_)
    have e : cA = dA 3 := tysA_at hK1 rfl (by omega)
    subst e
    exact kk a H1 hP1 hD1 hS1
  · have hc : ce z b dA (nwc h 24 n.toNatClampNeg n.toNatClampNeg) (gN h + 1) = .inl (dA 4, n.toNatClampNeg, .inr (.inr (.inr (.inr (fun _ => Option.none))))) := by
      unfold ce
      rw [nwc_S]
      show Sum.inl (_, _, Sum.inr (Sum.inr (Sum.inr (Sum.inr (fun j => Option.map (ad z b) (gP _ _ j)))))) = _
      rw [hnul]
    rw [hc] at kk
    refine va_newq (own := own) hx hb (by rw [← ho]; exact hown) (hts _ (tbg hw rfl)) hN.2.2 hK hP hD hS hA hn rfl hb4 hcl hsl d (fun a cA H1 hK1 hP1 hD1 hS1 => ?_)
    have e : cA = dA 4 := tysA_at hK1 rfl (by omega)
    subst e
    exact kk a H1 hP1 hD1 hS1
end SM
end
section
/-! calls -/
/-- an answer, and the world behind it, go on -/
def bd {ρ α : Type} (o : Option (ρ × Hp)) (e : ρ → Hp → Option α) : Option α := o.bind fun w => e w.1 w.2
def rvI (x : Int32) : Option Value := some (.int x)
def rvJ (x : Int64) : Option Value := some (.long x)
def rvA (x : Nat) : Option Value := some (.ref x)
def rvV (_ : Unit) : Option Value := none
def PcG (z b : Nat) (D : va_G) (dA : Nat → ClassId) (as : List Value) (h : Hp) : Array Value → State → Prop := fun v U => v = (as.map (cv z b)).toArray ∧ Rep z b D dA U h U.heap ∧ va_K D vwCl (tysA dA) U ∧ NWok U ∧ b < z
def QcG (z b : Nat) (D : va_G) (dA : Nat → ClassId) (r : Option Value) (h1 : Hp) : Array Value → State → Outcome → State → Prop := fun _ st o t => o = .returned (r.map (cv z b)) ∧ Rep z b D dA t h1 t.heap ∧ st.heap.size ≤ t.heap.size ∧ ∀ q : Nat, q < st.heap.size → ¬ z ≤ q → t.heap[q]? = st.heap[q]?
theorem Rep.moved {z b : Nat} {D : va_G} {dA : Nat → ClassId} {s U : State} {h : Hp} {H : Heap} (hvm : s.vm.Alike U.vm) (hR : Rep z b D dA s h H) : Rep z b D dA U h H := ⟨hR.1, hR.2.1, hR.2.2.moved hvm⟩
theorem PcG.blind {z b : Nat} {D : va_G} {dA : Nat → ClassId} {as : List Value} {h : Hp} : FrameBlind (PcG z b D dA as h) := fun a U g mk q => by
  obtain ⟨q1, q2, q3, q4, q5⟩ := q
  have hv : U.vm.Alike (U.calling g mk a).vm := Vm.Alike.refl U.vm
  exact ⟨q1, q2.moved (U := U.calling g mk a) hv, q3.moved hv, q4.same (s := U) (U := U.calling g mk a) rfl, q5⟩
def wsG (G : Gx) : List Cond := .code G.1 G.2.1 G.2.2.1 G.2.2.2.1 :: TBg
def rmG (G : Gx) (mc ms : Nat) : Room := { frames := G.2.2.2.2, cells := mc, slots := ms, locals := 40 * G.2.2.2.2 }
def okG : Option FieldType → Bool
  | none => true
  | some .int => true
  | some .boolean => true
  | some .long => true
  | some (.object _) => true
  | _ => false
/-- a method's contract out of its walk -/
theorem Sm.met {ρ : Type} {rv : ρ → Option Value} {G : Gx} {as : List Value} {h h1 : Hp} {e : Option (ρ × Hp)} {r : ρ} (hc : Sm rv G 0 (ent G.2.2.1 as) [] h e) (he : e = some (r, h1)) (l : Launch) (z b : Nat) (D : va_G) (dA : Nat → ClassId)
    (hy : plainName G.1.cls = true) (hd : ∀ a ∈ as, ∀ x, a ≠ .double x) (hn : (exps as).length ≤ G.2.2.1) (hg : okG G.2.2.2.1 = true) (ho : okR G.2.2.2.1 (rv r)) :
    Met l G.1 (wsG G) (rmG G (gN h1 - gN h) (gT h1 - gT h)) (PcG z b D dA as h) (QcG z b D dA (rv r) h1) (gN h1 - gN h) (gT h1 - gT h) (fun q => z ≤ q) := by
  refine Met.ofW (cc := G.2.1) (maxL := G.2.2.1) (ret := G.2.2.2.1) hy rfl ?_
  intro p e0 s m args below meth c s₁ B hml hv
  obtain ⟨rfl, hR, hK, hN, hbz⟩ := hv
  have hx := B.exec
  have hb := B.bytes
  have hr := B.returns
  have hts := atoms_spec (ws := wsG G) B.pre
  have hown : s.vm.findClass G.1.cls = some m.cls := findClass_of_methodNamed B.named
  have hlocks := B.notSynchronized
  have hname : meth.name = G.1.name := (name_of_methodNamed B.named B.method).1
  obtain ⟨k1, k2, k3⟩ := hc r h1 he
  rw [lg_entry_eq]
  have hl := LR.ent (z := z) (b := b) hd hn
  have hS : va_S (fun q => z ≤ q) s.heap s.heap [] := va_S.rf
  have C : Cx G D dA z b (gN h) p (rmG G (gN h1 - gN h) (gT h1 - gT h)) s m (as.map (cv z b)).toArray meth c := ⟨hx, hb, hml, hown, fun w hw => hts w (List.mem_cons_of_mem _ hw), hname, hK, hN, hR.1, hbz, Nat.le_refl _, Nat.le_refl _⟩
  have kk := k3 D dA z b (gN h) (gT h) p l e0 (rmG G (gN h1 - gN h) (gT h1 - gT h)) s m (as.map (cv z b)).toArray below meth c (MQ below (QcG z b D dA (rv r) h1) (as.map (cv z b)).toArray s (gN h1 - gN h) (gT h1 - gT h) (fun q => z ≤ q)) C (Nat.le_refl _) (Nat.le_refl _) ?_ (Nat.le_refl _) (Nat.le_refl _) s.heap [] _ hl hR hS
  · rw [Nat.sub_self, Nat.sub_self] at kk
    exact kk
  · intro _ H locs ls pc hdg hR1 hS1
    have hfin : ∀ t : State, t.heap = H → s.WarmedH t.vm → QcG z b D dA (rv r) h1 (as.map (cv z b)).toArray s (.returned ((rv r).map (cv z b))) t := fun t ht hW => by
      refine ⟨rfl, ?_, by rw [ht]; exact hS1.1, fun q h9 h8 => by rw [ht]; exact hS1.2.1 q h9 h8⟩
      rw [ht]
      exact hR1.moved hW.alike
    revert hfin hdg
    generalize hv : rv r = v at ho ⊢
    generalize hgt : G.2.2.2.1 = gt at ho hg hr ⊢
    intro hdg hfin
    match gt, v, hg, ho with
    | Option.none, Option.none, _, _ => exact W.vret hx hb hr hfin hS1.2.2 hdg
    | some .int, some (.int x), _, _ => exact W.iret hx hb hr hfin hS1.2.2 hdg
    | some .boolean, some (.int x), _, h01 => exact W.zret (ty := .boolean) hx hb hr (by rcases h01 with rfl | rfl <;> rfl) hfin hS1.2.2 hdg
    | some .long, some (.long x), _, _ => exact W.lret hx hb hr hfin hS1.2.2 hdg
    | some (.object C), some (.ref x), _, _ => exact W.aret (rt := .object C) hx hb hr (Or.inl ⟨_, rfl⟩) (Or.inr ⟨_, rfl⟩) hfin hS1.2.2 hdg
/-- behind a call -/
theorem run_go {ρ' : Type} {rv' : ρ' → Option Value} {z b : Nat} {D : va_G} {dA : Nat → ClassId} {r : ρ'} {h1 : Hp} {p : Program} {l : Launch} {e0 : Env} {R : Room} {s : State} {m : MethodId} {args : Array Value} {below : List Frame} {meth : Method} {c : Code} {H : Heap} {locs : List Loc} {cells slots mc ms pc : Nat} {ls : Array Slot} {st0 rest : List Value} {Q : State → Prop} {a : Array Value}
    (hr : va_Run p l e0 R s m args below meth c H locs cells slots mc ms (F0 m pc ls st0) rest (QcG z b D dA (rv' r) h1 a) (fun q => z ≤ q)) (hS : va_S (fun q => z ≤ q) s.heap H locs)
    (kk : ∀ (H1 : Heap) (locs1 : List Loc), Rep z b D dA s h1 H1 → va_S (fun q => z ≤ q) s.heap H1 locs1 → W p l e0 R s m args below meth c H1 locs1 (cells + mc) (slots + ms) Q (F0 m (pc + 3) ls (((rv' r).map (cv z b)).toList ++ rest))) :
    W p l e0 R s m args below meth c H locs cells slots Q (F0 m pc ls st0) := by
  intro T hT X
  obtain ⟨v, st₀, t, T', L, h0, X', hL, g1, g2, ⟨hv, hR, hz, hk⟩, st⟩ := hr T hT X
  have hv := Outcome.returned.inj hv
  subst hv
  rw [h0] at hz hk
  have hal : s.vm.Alike t.vm := by rw [← g2]; exact X'.warmed.alike
  obtain ⟨t2, a1, b1⟩ := kk T'.heap (locs ++ L) (by rw [g1]; exact hR.moved hal.symm) ⟨Nat.le_trans hS.1 (by rw [g1]; exact hz), fun q h1 h2 => by rw [g1, hk q (Nat.lt_of_lt_of_le h1 hS.1) h2]; exact hS.2.1 q h1 h2, fun q hq => by
      rcases List.mem_append.mp hq with h | h
      · exact hS.2.2 q h
      · exact hL q h⟩ T' rfl X'
  exact ⟨t2, st t2 a1, b1⟩
theorem goodG {G : Gx} (hcode : Cond.code G.1 G.2.1 G.2.2.1 G.2.2.2.1 ∈ lw_tbl) : GoodIn TBg (wsG G) := by
  have g : ∀ w ∈ TBg, (w.onTables && w.keeps) = true ∨ ∃ ty, w = .arrayClass ty := fun w hw => good_of_word (List.mem_filter.mp hw).2
  intro w hw
  rcases List.mem_cons.mp hw with rfl | h
  · have h2 : Cond.code G.1 G.2.1 G.2.2.1 G.2.2.2.1 ∈ TBg := tbg hcode rfl
    exact ⟨h2, g _ h2⟩
  · exact ⟨h, g w h⟩
theorem goodA {ws ws2 : List Cond} (h1 : ∀ w ∈ ws2, w ∈ lw_tbl ∧ goodWord w = true) (h2 : GoodIn TBg ws) : GoodIn TBg (ws2 ++ ws) := fun w hw => by
  rcases List.mem_append.mp hw with h | h
  · exact ⟨tbg (h1 w h).1 (h1 w h).2, good_of_word (h1 w h).2⟩
  · exact h2 w h
theorem map_rev {z b : Nat} (l : List Value) : (l.map (cv z b)).reverse = l.reverse.map (cv z b) := (List.map_reverse).symm
section SM
variable {ρ ρ' : Type} {rv : ρ → Option Value} {rv' : ρ' → Option Value} {G G' : Gx} {pc q : Nat} {lv st : List Value} {h : Hp} {e : ρ' → Hp → Option (ρ × Hp)} {e' : Option (ρ' × Hp)} {as : List Value} {i a ci : Nat} {own host : String} {r : vw_C}
theorem Sm.of_run (hc : Sm rv' G' 0 (ent G'.2.2.1 as) [] h e') {st0 : List Value} (hd : ∀ a ∈ as, ∀ x, a ≠ .double x) (hn : (exps as).length ≤ G'.2.2.1) (hy : plainName G'.1.cls = true) (hg : okG G'.2.2.2.1 = true) (hdep : G'.2.2.2.2 < G.2.2.2.2) (hq : pc + 3 = q)
    (k : ∀ r h1, Sm rv G q lv ((rv' r).toList ++ st) h1 (e r h1))
    (hrun : ∀ (D : va_G) (dA : Nat → ClassId) (z b mc ms : Nat) (p : Program) (l : Launch) (e0 : Env) (R : Room) (s : State) (m : MethodId) (args : Array Value) (below : List Frame) (meth : Method) (c : Code) (H : Heap) (locs : List Loc) (cells slots : Nat) (ls : Array Slot) (Qc : Array Value → State → Outcome → State → Prop),
      p.tables.exec = Jvm.exec → c.code = G.2.1 → c.maxLocals = G.2.2.1 → s.vm.findClass G.1.cls = some m.cls → (∀ w ∈ TBg, w.before args s = true) → NWok s → va_K D vwCl (tysA dA) s → va_P D vwCl (wsO z b dA h) H → ls.size = G.2.2.1 → G.2.2.2.2 ≤ R.frames → 40 * G.2.2.2.2 ≤ R.locals → cells + mc ≤ R.cells ∧ slots + ms ≤ R.slots →
      Met l G'.1 (wsG G') (rmG G' mc ms) (PcG z b D dA as h) Qc mc ms (fun q => z ≤ q) → (∀ U : State, U.heap = H → s.WarmedH U.vm → PcG z b D dA as h (as.map (cv z b)).toArray U) →
      va_Run p l e0 R s m args below meth c H locs cells slots mc ms (F0 m pc ls (st0.map (cv z b))) (st.map (cv z b)) (Qc (as.map (cv z b)).toArray) (fun q => z ≤ q)) :
    Sm rv G pc lv st0 h (bd e' e) := by
  cases he : e' with
  | none => exact Sm.none
  | some w =>
    obtain ⟨r, h1⟩ := w
    show Sm rv G pc lv st0 h (e r h1)
    have hm1 := hc r h1 he
    intro r2 h2 he2
    obtain ⟨k1, k2, k3⟩ := k r h1 r2 h2 he2
    refine ⟨⟨k1.1, Nat.le_trans hm1.1.2 k1.2⟩, Nat.le_trans hm1.2.1 k2, fun D dA z b c0 t0 p l e0 R s m args below meth c Q C hcl hsl hr h0 ht0 H locs ls hl hR hS => ?_⟩
    obtain ⟨C1, C2, C3, C4, C5, C6, C7, C8, C9, C10, C11, C12⟩ := id C
    have hle1 := hm1.1.2
    have hle3 := k1.2
    have hle2 := hm1.2.1
    have hM := Sm.met hc he l z b D dA hy hd hn hg hm1.1.1
    subst hq
    refine run_go (rv' := rv') (hrun D dA z b _ _ p l e0 R s m args below meth c H locs _ _ ls _ C1 C2 C3 C4 C5 C8 C7 hR.2.1 hl.1 C11 C12 ⟨by omega, by omega⟩ hM (fun U hU hW => ⟨rfl, by rw [hU]; exact hR.moved hW.alike, C7.moved hW.alike, C8.moved hW, C10⟩)) hS (fun H1 locs1 hR1 hS1 => ?_)
    have kk := k3 D dA z b c0 t0 p l e0 R s m args below meth c Q C hcl hsl hr (by omega) (by omega) H1 locs1 ls hl hR1 hS1
    rw [show gN h1 - c0 = gN h - c0 + (gN h1 - gN h) by omega, show gT h1 - t0 = gT h - t0 + (gT h1 - gT h) by omega, List.map_append, show ((rv' r).toList).map (cv z b) = ((rv' r).map (cv z b)).toList by cases rv' r <;> rfl] at kk
    exact kk
def catS (l : List Value) : Nat := (l.map fun v => v.category).sum
theorem catS_map {z b : Nat} (l : List Value) : ((l.map (cv z b)).map fun v => v.category).sum = catS l := by
  unfold catS
  rw [List.map_map]
  congr 1
  apply List.map_congr_left
  intro v _
  exact cv_cat z b v
theorem room_of {G G' : Gx} {R : Room} {mc ms : Nat} (hdep : G'.2.2.2.2 < G.2.2.2.2) (hmax : G'.2.2.1 ≤ 20) (h1 : G.2.2.2.2 ≤ R.frames) (h2 : 40 * G.2.2.2.2 ≤ R.locals) : (rmG G' mc ms).frames + 1 ≤ R.frames ∧ 8 + (G'.2.2.1 + 11) + (rmG G' mc ms).locals ≤ R.locals := by
  constructor
  · show G'.2.2.2.2 + 1 ≤ _; omega
  · show 8 + (G'.2.2.1 + 11) + 40 * G'.2.2.2.2 ≤ _; omega
abbrev okM (G' G : Gx) (as st : List Value) (n : Nat) : Prop := (plainName G'.1.cls = true ∧ okG G'.2.2.2.1 = true ∧ G'.2.2.2.2 < G.2.2.2.2 ∧ G'.2.2.1 ≤ 20) ∧ (exps as).length ≤ G'.2.2.1 ∧ as.length = n ∧ (G'.1.cls ≠ "java/lang/invoke/MethodHandle" ∧ G'.1.cls ≠ "java/lang/invoke/VarHandle") ∧ catS st ≤ 8
theorem Sm.callV {args : List Value} {n : Nat} (hc : Sm rv' G' 0 (ent G'.2.2.1 (.ref a :: args)) [] h e') (hk : isO h a ci) (hci : ci < 11) (hr : vwCl[ci]? = some r) (hG : r.1 = G'.1.cls) (ho : G.1.cls = own)
    (hw1 : Cond.methodLink own i G'.1 ∈ lw_tbl) (hw2 : Cond.instanceMethod G'.1 ∈ lw_tbl) (hw3 : Cond.selects G'.1.cls G'.1 G'.1 ∈ lw_tbl) (hw4 : Cond.initialized G'.1.cls ∈ lw_tbl) (hw5 : Cond.code G'.1 G'.2.1 G'.2.2.1 G'.2.2.2.1 ∈ lw_tbl)
    (hm : okM G' G (.ref a :: args) st (n + 1)) (hp : (parseMethodDescriptor G'.1.desc).map (fun d => d.parameters.length) = some n) (hd : ∀ v ∈ args, ∀ x, v ≠ .double x) (d : decode G.2.1 pc = .ok (.invokevirtual i, 3)) (hq : pc + 3 = q)
    (k : ∀ r h1, Sm rv G q lv ((rv' r).toList ++ st) h1 (e r h1)) {st0 : List Value} (hst : st0 = args.reverse ++ .ref a :: st) : Sm rv G pc lv st0 h (bd e' e) := by
  subst hst
  obtain ⟨⟨m1, m2, m3, m4⟩, m5, m6, m7, m8⟩ := hm
  refine Sm.of_run hc (by intro v hv; rcases List.mem_cons.mp hv with rfl | h9; exact (fun x h => by cases h); exact hd v h9) m5 m1 m2 m3 hq k fun D dA z b mc ms p l e0 R s m args' below meth c H locs cells slots ls Qc C1 C2 C3 C4 C5 C8 C7 hP hls hfr hlo hcs hM hpre => ?_
  have he : (wsO z b dA h)[a - 1]? = some (ad z b a, .inr (ci, fl z b h a ci)) := by rw [wsO_get hk.2.1 hk.2.2, ce_ob hci hk.1]
  have hrec := va_recv C7 hP hr he
  rw [hG] at hrec
  refine va_runV (As := args.map (cv z b)) (rest := st.map (cv z b)) (own := own) (C := G'.1.cls) ⟨C1, C2, C3, by rw [← ho]; exact C4, C5⟩ hM (cwV n C5 (goodA (ws2 := [.methodLink own i G'.1, .instanceMethod G'.1, .selects G'.1.cls G'.1 G'.1, .initialized G'.1.cls]) ?_ (goodG hw5)) rfl rfl rfl ⟨rfl, m7.1, m7.2, hp⟩ (room_of m3 m4 hfr hlo)) ⟨PcG.blind, hrec, hpre⟩ rfl ?_ hls ?_ (lv_room ?_) d hcs
  · intro w hw
    simp only [List.mem_cons, List.not_mem_nil, or_false] at hw
    rcases hw with rfl | rfl | rfl | rfl
    · exact ⟨hw1, rfl⟩
    · exact ⟨hw2, rfl⟩
    · exact ⟨hw3, rfl⟩
    · exact ⟨hw4, rfl⟩
  · rw [List.length_map]; simpa using m6
  · rw [map_rev, List.map_append]; rfl
  · rw [catS_map]; exact m8
theorem Sm.callS {n : Nat} (hc : Sm rv' G' 0 (ent G'.2.2.1 as) [] h e') (ho : G.1.cls = own)
    (hw1 : Cond.methodLink own i G'.1 ∈ lw_tbl) (hw2 : Cond.static G'.1 ∈ lw_tbl) (hw4 : Cond.initialized G'.1.cls ∈ lw_tbl) (hw5 : Cond.code G'.1 G'.2.1 G'.2.2.1 G'.2.2.2.1 ∈ lw_tbl)
    (hm : okM G' G as st n) (hp : (parseMethodDescriptor G'.1.desc).map (fun d => d.parameters.length) = some n) (hd : ∀ v ∈ as, ∀ x, v ≠ .double x) (d : decode G.2.1 pc = .ok (.invokestatic i, 3)) (hq : pc + 3 = q)
    (k : ∀ r h1, Sm rv G q lv ((rv' r).toList ++ st) h1 (e r h1)) {st0 : List Value} (hst : st0 = as.reverse ++ st) : Sm rv G pc lv st0 h (bd e' e) := by
  subst hst
  obtain ⟨⟨m1, m2, m3, m4⟩, m5, m6, m7, m8⟩ := hm
  refine Sm.of_run hc hd m5 m1 m2 m3 hq k fun D dA z b mc ms p l e0 R s m args' below meth c H locs cells slots ls Qc C1 C2 C3 C4 C5 C8 C7 hP hls hfr hlo hcs hM hpre => ?_
  refine va_runS (As := as.map (cv z b)) (rest := st.map (cv z b)) (own := own) ⟨C1, C2, C3, by rw [← ho]; exact C4, C5⟩ hM (va_cwS n C5 (goodA (ws2 := [.methodLink own i G'.1, .static G'.1, .initialized G'.1.cls]) ?_ (goodG hw5)) rfl rfl rfl ⟨m7.1, m7.2, hp⟩ (room_of m3 m4 hfr hlo)) ⟨PcG.blind, hpre⟩ rfl ?_ hls ?_ (lv_room ?_) d hcs
  · intro w hw
    simp only [List.mem_cons, List.not_mem_nil, or_false] at hw
    rcases hw with rfl | rfl | rfl
    · exact ⟨hw1, rfl⟩
    · exact ⟨hw2, rfl⟩
    · exact ⟨hw4, rfl⟩
  · rw [List.length_map]; exact m6
  · rw [map_rev, List.map_append]
  · rw [catS_map]; exact m8
theorem Sm.callSN {n : Nat} (hc : Sm rv' G' 0 (ent G'.2.2.1 as) [] h e') (ho : G.1.cls = own)
    (hw1 : Cond.methodLinkNest own i G'.1 host ∈ lw_tbl) (hw2 : Cond.static G'.1 ∈ lw_tbl) (hw4 : Cond.initialized G'.1.cls ∈ lw_tbl) (hw5 : Cond.code G'.1 G'.2.1 G'.2.2.1 G'.2.2.2.1 ∈ lw_tbl)
    (hm : okM G' G as st n) (hp : (parseMethodDescriptor G'.1.desc).map (fun d => d.parameters.length) = some n) (hd : ∀ v ∈ as, ∀ x, v ≠ .double x) (d : decode G.2.1 pc = .ok (.invokestatic i, 3)) (hq : pc + 3 = q)
    (k : ∀ r h1, Sm rv G q lv ((rv' r).toList ++ st) h1 (e r h1)) {st0 : List Value} (hst : st0 = as.reverse ++ st) : Sm rv G pc lv st0 h (bd e' e) := by
  subst hst
  obtain ⟨⟨m1, m2, m3, m4⟩, m5, m6, m7, m8⟩ := hm
  refine Sm.of_run hc hd m5 m1 m2 m3 hq k fun D dA z b mc ms p l e0 R s m args' below meth c H locs cells slots ls Qc C1 C2 C3 C4 C5 C8 C7 hP hls hfr hlo hcs hM hpre => ?_
  exact va_runSN (As := as.map (cv z b)) (rest := st.map (cv z b)) (own := own) (host := host) ⟨C1, C2, C3, by rw [← ho]; exact C4, C5⟩ hM ⟨va_cnB n C5 (goodG hw5) rfl rfl rfl (C8.1 _ (nwi hw1 rfl)) (C5 _ (tbg hw4 rfl)) ⟨m7.1, m7.2, hp⟩ (room_of m3 m4 hfr hlo), C5 _ (tbg hw2 rfl), trivial⟩ ⟨PcG.blind, hpre⟩ rfl (by rw [List.length_map]; exact m6) hls (by rw [map_rev]; exact List.map_append) (lv_room (by rw [catS_map]; exact m8)) d hcs
theorem Sm.callI {args : List Value} {n : Nat} (hc : Sm rv' G' 0 (ent G'.2.2.1 (.ref a :: args)) [] h e') (ho : G.1.cls = own) (hret : G'.2.2.2.1 = Option.none) (hnm : G'.1.name = "<init>")
    (hw1 : Cond.methodLink own i G'.1 ∈ lw_tbl) (hw2 : Cond.instanceMethod G'.1 ∈ lw_tbl) (hw4 : Cond.initialized G'.1.cls ∈ lw_tbl) (hw5 : Cond.code G'.1 G'.2.1 G'.2.2.1 G'.2.2.2.1 ∈ lw_tbl)
    (hm : okM G' G (.ref a :: args) st (n + 1)) (hp : (parseMethodDescriptor G'.1.desc).map (fun d => d.parameters.length) = some n) (hd : ∀ v ∈ args, ∀ x, v ≠ .double x) (d : decode G.2.1 pc = .ok (.invokespecial i, 3)) (hq : pc + 3 = q)
    (k : ∀ r h1, Sm rv G q lv ((rv' r).toList ++ st) h1 (e r h1)) {st0 : List Value} (hst : st0 = args.reverse ++ .ref a :: st) : Sm rv G pc lv st0 h (bd e' e) := by
  subst hst
  obtain ⟨⟨m1, m2, m3, m4⟩, m5, m6, m7, m8⟩ := hm
  refine Sm.of_run hc (by intro v hv; rcases List.mem_cons.mp hv with rfl | h9; exact (fun x h => by cases h); exact hd v h9) m5 m1 m2 m3 hq k fun D dA z b mc ms p l e0 R s m args' below meth c H locs cells slots ls Qc C1 C2 C3 C4 C5 C8 C7 hP hls hfr hlo hcs hM hpre => ?_
  have hg5 := goodG hw5
  refine va_runI (As := args.map (cv z b)) (rest := st.map (cv z b)) (own := own) (bytes := G'.2.1) (maxL := G'.2.2.1) ⟨C1, C2, C3, by rw [← ho]; exact C4, C5⟩ hM (cwI (ws' := TBg) n C5 hg5 (by unfold wsG; rw [hret]) rfl rfl (C5 _ (tbg hw4 rfl)) (C5 _ (tbg hw1 rfl)) (C5 _ (tbg hw2 rfl)) hnm ⟨m7.1, m7.2, hp⟩ (room_of m3 m4 hfr hlo)) ⟨PcG.blind, hpre⟩ rfl ?_ hls ?_ (lv_room ?_) d hcs
  · rw [List.length_map]; simpa using m6
  · rw [map_rev, List.map_append]; rfl
  · rw [catS_map]; exact m8
theorem Sm.callIN {args : List Value} {n : Nat} (hc : Sm rv' G' 0 (ent G'.2.2.1 (.ref a :: args)) [] h e') (ho : G.1.cls = own) (hret : G'.2.2.2.1 = Option.none) (hnm : G'.1.name = "<init>")
    (hw1 : Cond.methodLinkNest own i G'.1 host ∈ lw_tbl) (hw2 : Cond.instanceMethod G'.1 ∈ lw_tbl) (hw4 : Cond.initialized G'.1.cls ∈ lw_tbl) (hw5 : Cond.code G'.1 G'.2.1 G'.2.2.1 G'.2.2.2.1 ∈ lw_tbl)
    (hm : okM G' G (.ref a :: args) st (n + 1)) (hp : (parseMethodDescriptor G'.1.desc).map (fun d => d.parameters.length) = some n) (hd : ∀ v ∈ args, ∀ x, v ≠ .double x) (d : decode G.2.1 pc = .ok (.invokespecial i, 3)) (hq : pc + 3 = q)
    (k : ∀ r h1, Sm rv G q lv ((rv' r).toList ++ st) h1 (e r h1)) {st0 : List Value} (hst : st0 = args.reverse ++ .ref a :: st) : Sm rv G pc lv st0 h (bd e' e) := by
  subst hst
  obtain ⟨⟨m1, m2, m3, m4⟩, m5, m6, m7, m8⟩ := hm
  refine Sm.of_run hc (by intro v hv; rcases List.mem_cons.mp hv with rfl | h9; exact (fun x h => by cases h); exact hd v h9) m5 m1 m2 m3 hq k fun D dA z b mc ms p l e0 R s m args' below meth c H locs cells slots ls Qc C1 C2 C3 C4 C5 C8 C7 hP hls hfr hlo hcs hM hpre => ?_
  have hg5 := goodG hw5
  have hws : wsG G' = Cond.code G'.1 G'.2.1 G'.2.2.1 Option.none :: TBg := by unfold wsG; rw [hret]
  refine va_runIN (As := args.map (cv z b)) (rest := st.map (cv z b)) (own := own) (host := host) (bytes := G'.2.1) (maxL := G'.2.2.1) ⟨C1, C2, C3, by rw [← ho]; exact C4, C5⟩ hM ⟨va_cnB n C5 hg5 hws rfl rfl (C8.1 _ (nwi hw1 rfl)) (C5 _ (tbg hw4 rfl)) ⟨m7.1, m7.2, hp⟩ (room_of m3 m4 hfr hlo), hnm, C5 _ (tbg hw2 rfl)⟩ ⟨PcG.blind, hpre⟩ rfl ?_ hls ?_ (lv_room ?_) d hcs
  · rw [List.length_map]; simpa using m6
  · rw [map_rev, List.map_append]; rfl
  · rw [catS_map]; exact m8
end SM
end
section
/-! switches, names, loops -/
/-- x gets a name -/
def nm {α β : Type} (x : α) (f : α → β) : β := f x
/-- a loop: its body knows how it goes on -/
def loopN {σ α : Type} (body : (σ → Option α) → σ → Option α) : Nat → σ → Option α
  | 0, _ => none
  | n + 1, s => body (loopN body n) s
section SM
variable {ρ : Type} {rv : ρ → Option Value} {G : Gx} {pc q : Nat} {lv st : List Value} {h : Hp} {e : Option (ρ × Hp)}
theorem Sm.nm {α : Type} {x : α} {f : α → Option (ρ × Hp)} {LV ST : α → List Value} (k : ∀ y, Sm rv G pc (LV y) (ST y) h (f y)) : Sm rv G pc (LV x) (ST x) h (Jvm.Pilot.@@N@@.nm x f) := k x
theorem Sm.loop {σ : Type} {body : (σ → Option (ρ × Hp)) → σ → Option (ρ × Hp)} {LV : σ → List Value} {HH : σ → Hp} (step : ∀ k, (∀ s, Sm rv G pc (LV s) [] (HH s) (k s)) → ∀ s, Sm rv G pc (LV s) [] (HH s) (body k s)) : ∀ (n : Nat) (s : σ), Sm rv G pc (LV s) [] (HH s) (loopN body n s)
  | 0, _ => Sm.none
  | n + 1, s => step _ (Sm.loop step n) s
theorem Sm.objInit {a i : Nat} {own : String} (d : decode G.2.1 pc = .ok (.invokespecial i, 3)) (ho : G.1.cls = own) (hw : Cond.methodLink own i Lib.objectInit ∈ lw_tbl) (hw2 : Cond.instanceMethod Lib.objectInit ∈ lw_tbl) (hw3 : Cond.code Lib.objectInit ⟨#[0xb1]⟩ 1 Option.none ∈ lw_tbl) (hdep : 1 ≤ G.2.2.2.2) (hcat : catS st ≤ 8) (hq : pc + 3 = q) (k : Sm rv G q lv st h e) : Sm rv G pc lv (.ref a :: st) h e := by
  intro r h' he
  obtain ⟨k1, k2, k3⟩ := k r h' he
  refine ⟨k1, k2, fun D dA z b c0 t0 p l e0 R s m args below meth c Q C hc hs' hr h0 h1 H locs ls hl hR hS => ?_⟩
  obtain ⟨C1, C2, C3, C4, C5, C6, C7, C8, C9, C10, C11, C12⟩ := id C
  subst hq
  have hcs := catS_map (z := z) (b := b) st
  refine W.objInit (own := own) (idx := i) (rest := st.map (cv z b)) C1 C2 (by rw [← ho]; exact C4) (C5 _ (tbg hw rfl)) (C5 _ (tbg hw2 rfl)) (C5 _ (tbg hw3 rfl)) rfl (hl.1.trans C3.symm) rfl d (by omega) ?_ ?_
  · show 2 * 0 + _ + 12 ≤ _
    omega
  · exact k3 D dA z b c0 t0 p l e0 R s m args below meth c Q C hc hs' hr h0 h1 H locs ls hl hR hS
theorem Sm.tsAt {x k : Int32} {dflt lo hi off : Int} {offs : Array Int} {len t : Nat} (hx : x = k) (d : decode G.2.1 pc = .ok (.tableswitch dflt lo hi offs, len)) (h1 : ¬ k.toInt < lo) (h2 : ¬ hi < k.toInt) (ho : offs[(k.toInt - lo).toNat]? = some off) (ht : (pc : Int) + off = (t : Int)) (kk : Sm rv G t lv st h e) : Sm rv G pc lv (.int x :: st) h e := by
  subst hx
  exact kk.lift fun z b p l e0 R s m args below meth c H locs cells slots Q ls hx hb _ _ hl kk => lv_tableIn hx hb d h1 h2 ho ht (kk ls hl)
theorem Sm.tsOut {x : Int32} {dflt lo hi : Int} {offs : Array Int} {len t : Nat} (d : decode G.2.1 pc = .ok (.tableswitch dflt lo hi offs, len)) (h1 : x.toInt < lo ∨ hi < x.toInt) (ht : (pc : Int) + dflt = (t : Int)) (kk : Sm rv G t lv st h e) : Sm rv G pc lv (.int x :: st) h e :=
  kk.lift fun z b p l e0 R s m args below meth c H locs cells slots Q ls hx hb _ _ hl kk => lv_tableOut hx hb d h1 ht (kk ls hl)
theorem Sm.lsAt {x k : Int32} {dflt off : Int} {ps : Array (Int × Int)} {len t : Nat} (hx : x = k) (d : decode G.2.1 pc = .ok (.lookupswitch dflt ps, len)) (hp : (ps.toList.zip (ps.toList.drop 1)).all (fun (a, next) => a.1 < next.1) = true) (ho : Op.lookupswitch.offset ps.toList dflt k.toInt = off) (ht : (pc : Int) + off = (t : Int)) (kk : Sm rv G t lv st h e) : Sm rv G pc lv (.int x :: st) h e := by
  subst hx
  exact kk.lift fun z b p l e0 R s m args below meth c H locs cells slots Q ls hx hb _ _ hl kk => lv_lookup hx hb d hp ho ht (kk ls hl)
theorem Sm.lsOut {x : Int32} {dflt off : Int} {ps : Array (Int × Int)} {len t : Nat} (d : decode G.2.1 pc = .ok (.lookupswitch dflt ps, len)) (hp : (ps.toList.zip (ps.toList.drop 1)).all (fun (a, next) => a.1 < next.1) = true) (ho : Op.lookupswitch.offset ps.toList dflt x.toInt = off) (ht : (pc : Int) + off = (t : Int)) (kk : Sm rv G t lv st h e) : Sm rv G pc lv (.int x :: st) h e :=
  kk.lift fun z b p l e0 R s m args below meth c H locs cells slots Q ls hx hb _ _ hl kk => lv_lookup hx hb d hp ho ht (kk ls hl)
end SM
end
section
theorem isO.tr {x y : Hp} {a ci : Nat} (e1 : gS y = gS x) (e2 : gN y = gN x) (h : isO x a ci) : isO y a ci := by unfold isO; rw [e1, e2]; exact h
theorem Sm.nmH {ρ : Type} {rv : ρ → Option Value} {G : Gx} {pc : Nat} {lv st : List Value} {x : Hp} {f : Hp → Option (ρ × Hp)} (k : ∀ y, gS y = gS x → gN y = gN x → Sm rv G pc lv st y (f y)) : Sm rv G pc lv st x (Jvm.Pilot.@@N@@.nm x f) := k x rfl rfl
theorem bp_m124 : (Int8.ofInt (-124)).toInt32 = (-124 : Int32) := by decide
theorem bp_m93 : (Int8.ofInt (-93)).toInt32 = (-93 : Int32) := by decide
theorem bp_m91 : (Int8.ofInt (-91)).toInt32 = (-91 : Int32) := by decide
theorem bp_m63 : (Int8.ofInt (-63)).toInt32 = (-63 : Int32) := by decide
theorem bp_m46 : (Int8.ofInt (-46)).toInt32 = (-46 : Int32) := by decide
theorem bp_m43 : (Int8.ofInt (-43)).toInt32 = (-43 : Int32) := by decide
theorem bp_m42 : (Int8.ofInt (-42)).toInt32 = (-42 : Int32) := by decide
theorem bp_m41 : (Int8.ofInt (-41)).toInt32 = (-41 : Int32) := by decide
theorem bp_m40 : (Int8.ofInt (-40)).toInt32 = (-40 : Int32) := by decide
theorem bp_m33 : (Int8.ofInt (-33)).toInt32 = (-33 : Int32) := by decide
theorem bp_m10 : (Int8.ofInt (-10)).toInt32 = (-10 : Int32) := by decide
theorem bp_m6 : (Int8.ofInt (-6)).toInt32 = (-6 : Int32) := by decide
theorem bp_m5 : (Int8.ofInt (-5)).toInt32 = (-5 : Int32) := by decide
theorem bp_m4 : (Int8.ofInt (-4)).toInt32 = (-4 : Int32) := by decide
theorem bp_m3 : (Int8.ofInt (-3)).toInt32 = (-3 : Int32) := by decide
theorem bp_m2 : (Int8.ofInt (-2)).toInt32 = (-2 : Int32) := by decide
theorem bp_6 : (Int8.ofInt (6)).toInt32 = (6 : Int32) := by decide
theorem bp_7 : (Int8.ofInt (7)).toInt32 = (7 : Int32) := by decide
theorem bp_8 : (Int8.ofInt (8)).toInt32 = (8 : Int32) := by decide
theorem bp_10 : (Int8.ofInt (10)).toInt32 = (10 : Int32) := by decide
theorem bp_16 : (Int8.ofInt (16)).toInt32 = (16 : Int32) := by decide
theorem bp_25 : (Int8.ofInt (25)).toInt32 = (25 : Int32) := by decide
theorem bp_27 : (Int8.ofInt (27)).toInt32 = (27 : Int32) := by decide
theorem bp_30 : (Int8.ofInt (30)).toInt32 = (30 : Int32) := by decide
theorem bp_31 : (Int8.ofInt (31)).toInt32 = (31 : Int32) := by decide
theorem bp_32 : (Int8.ofInt (32)).toInt32 = (32 : Int32) := by decide
theorem bp_33 : (Int8.ofInt (33)).toInt32 = (33 : Int32) := by decide
theorem bp_40 : (Int8.ofInt (40)).toInt32 = (40 : Int32) := by decide
theorem bp_41 : (Int8.ofInt (41)).toInt32 = (41 : Int32) := by decide
theorem bp_42 : (Int8.ofInt (42)).toInt32 = (42 : Int32) := by decide
theorem bp_43 : (Int8.ofInt (43)).toInt32 = (43 : Int32) := by decide
theorem bp_46 : (Int8.ofInt (46)).toInt32 = (46 : Int32) := by decide
theorem bp_48 : (Int8.ofInt (48)).toInt32 = (48 : Int32) := by decide
theorem bp_49 : (Int8.ofInt (49)).toInt32 = (49 : Int32) := by decide
theorem bp_50 : (Int8.ofInt (50)).toInt32 = (50 : Int32) := by decide
theorem bp_51 : (Int8.ofInt (51)).toInt32 = (51 : Int32) := by decide
theorem bp_52 : (Int8.ofInt (52)).toInt32 = (52 : Int32) := by decide
theorem bp_53 : (Int8.ofInt (53)).toInt32 = (53 : Int32) := by decide
theorem bp_54 : (Int8.ofInt (54)).toInt32 = (54 : Int32) := by decide
theorem bp_58 : (Int8.ofInt (58)).toInt32 = (58 : Int32) := by decide
theorem bp_60 : (Int8.ofInt (60)).toInt32 = (60 : Int32) := by decide
theorem bp_61 : (Int8.ofInt (61)).toInt32 = (61 : Int32) := by decide
theorem bp_63 : (Int8.ofInt (63)).toInt32 = (63 : Int32) := by decide
theorem bp_64 : (Int8.ofInt (64)).toInt32 = (64 : Int32) := by decide
theorem bp_85 : (Int8.ofInt (85)).toInt32 = (85 : Int32) := by decide
theorem bp_91 : (Int8.ofInt (91)).toInt32 = (91 : Int32) := by decide
theorem bp_93 : (Int8.ofInt (93)).toInt32 = (93 : Int32) := by decide
theorem bp_112 : (Int8.ofInt (112)).toInt32 = (112 : Int32) := by decide
theorem bp_115 : (Int8.ofInt (115)).toInt32 = (115 : Int32) := by decide
theorem bp_120 : (Int8.ofInt (120)).toInt32 = (120 : Int32) := by decide
theorem bp_122 : (Int8.ofInt (122)).toInt32 = (122 : Int32) := by decide
theorem bp_124 : (Int8.ofInt (124)).toInt32 = (124 : Int32) := by decide
theorem bp_125 : (Int8.ofInt (125)).toInt32 = (125 : Int32) := by decide
theorem bp_127 : (Int8.ofInt (127)).toInt32 = (127 : Int32) := by decide
theorem ic_m1 : Int32.ofInt (-1) = (-1 : Int32) := by decide
theorem ic_0 : Int32.ofInt (0) = (0 : Int32) := by decide
theorem ic_1 : Int32.ofInt (1) = (1 : Int32) := by decide
theorem ic_2 : Int32.ofInt (2) = (2 : Int32) := by decide
theorem ic_3 : Int32.ofInt (3) = (3 : Int32) := by decide
theorem ic_4 : Int32.ofInt (4) = (4 : Int32) := by decide
theorem ic_5 : Int32.ofInt (5) = (5 : Int32) := by decide
theorem sp_128 : (Int16.ofInt (128)).toInt32 = (128 : Int32) := by decide
theorem sp_150 : (Int16.ofInt (150)).toInt32 = (150 : Int32) := by decide
theorem sp_160 : (Int16.ofInt (160)).toInt32 = (160 : Int32) := by decide
theorem sp_192 : (Int16.ofInt (192)).toInt32 = (192 : Int32) := by decide
theorem sp_244 : (Int16.ofInt (244)).toInt32 = (244 : Int32) := by decide
theorem sp_256 : (Int16.ofInt (256)).toInt32 = (256 : Int32) := by decide
theorem sp_340 : (Int16.ofInt (340)).toInt32 = (340 : Int32) := by decide
theorem sp_360 : (Int16.ofInt (360)).toInt32 = (360 : Int32) := by decide
theorem sp_976 : (Int16.ofInt (976)).toInt32 = (976 : Int32) := by decide
theorem sp_1000 : (Int16.ofInt (1000)).toInt32 = (1000 : Int32) := by decide
theorem sp_1220 : (Int16.ofInt (1220)).toInt32 = (1220 : Int32) := by decide
theorem sp_3840 : (Int16.ofInt (3840)).toInt32 = (3840 : Int32) := by decide
theorem sp_4096 : (Int16.ofInt (4096)).toInt32 = (4096 : Int32) := by decide
theorem sp_6000 : (Int16.ofInt (6000)).toInt32 = (6000 : Int32) := by decide
theorem gf_X4_9 {ρ : Type} {rv : ρ → Option Value} {G : Gx} {pc q : Nat} {lv st : List Value} {h : Hp} {a : Nat} {e : Nat → Option (ρ × Hp)} (hk : isO h a 4) (d : decode G.2.1 pc = .ok (.getfield 9, 3)) (ho : G.1.cls = RX4) (hq : pc + 3 = q) (k : ∀ x, Sm rv G q lv (.ref x :: st) h (e x)) : Sm rv G pc lv (.ref a :: st) h ((gP h a 0).bind e) := Sm.getP (r := (RX4, TX4, 4)) hk d mw_37 ho (by decide) rfl (by decide) rfl rfl hq k
theorem pf_X4_9 {ρ : Type} {rv : ρ → Option Value} {G : Gx} {pc q : Nat} {lv st : List Value} {h : Hp} {a : Nat} {x : Nat} {e : Option (ρ × Hp)} (hk : isO h a 4) (d : decode G.2.1 pc = .ok (.putfield 9, 3)) (ho : G.1.cls = RX4) (hini : G.1.name = "<init>") (hq : pc + 3 = q) (k : Sm rv G q lv st (sP h a 0 (some x)) e) : Sm rv G pc lv (.ref x :: .ref a :: st) h e := Sm.putP (r := (RX4, TX4, 4)) hk d mw_37 ho (by decide) rfl (by decide) rfl rfl (Or.inr ⟨hini, rfl⟩) hq k
theorem gf_X4_15 {ρ : Type} {rv : ρ → Option Value} {G : Gx} {pc q : Nat} {lv st : List Value} {h : Hp} {a : Nat} {e : Nat → Option (ρ × Hp)} (hk : isO h a 4) (d : decode G.2.1 pc = .ok (.getfield 15, 3)) (ho : G.1.cls = RX4) (hq : pc + 3 = q) (k : ∀ x, Sm rv G q lv (.ref x :: st) h (e x)) : Sm rv G pc lv (.ref a :: st) h ((gP h a 1).bind e) := Sm.getP (r := (RX4, TX4, 4)) hk d mw_38 ho (by decide) rfl (by decide) rfl rfl hq k
theorem pf_X4_15 {ρ : Type} {rv : ρ → Option Value} {G : Gx} {pc q : Nat} {lv st : List Value} {h : Hp} {a : Nat} {x : Nat} {e : Option (ρ × Hp)} (hk : isO h a 4) (d : decode G.2.1 pc = .ok (.putfield 15, 3)) (ho : G.1.cls = RX4) (hini : G.1.name = "<init>") (hq : pc + 3 = q) (k : Sm rv G q lv st (sP h a 1 (some x)) e) : Sm rv G pc lv (.ref x :: .ref a :: st) h e := Sm.putP (r := (RX4, TX4, 4)) hk d mw_38 ho (by decide) rfl (by decide) rfl rfl (Or.inr ⟨hini, rfl⟩) hq k
theorem gf_X4_18 {ρ : Type} {rv : ρ → Option Value} {G : Gx} {pc q : Nat} {lv st : List Value} {h : Hp} {a : Nat} {e : Option (ρ × Hp)} (hk : isO h a 4) (d : decode G.2.1 pc = .ok (.getfield 18, 3)) (ho : G.1.cls = RX4) (hq : pc + 3 = q) (k : Sm rv G q lv (.int (gI h a 2) :: st) h e) : Sm rv G pc lv (.ref a :: st) h e := Sm.getI (r := (RX4, TX4, 4)) hk d mw_39 ho (by decide) rfl (by decide) rfl (Or.inl rfl) hq k
theorem pf_X4_18 {ρ : Type} {rv : ρ → Option Value} {G : Gx} {pc q : Nat} {lv st : List Value} {h : Hp} {a : Nat} {x : Int32} {e : Option (ρ × Hp)} (hk : isO h a 4) (d : decode G.2.1 pc = .ok (.putfield 18, 3)) (ho : G.1.cls = RX4) (hq : pc + 3 = q) (k : Sm rv G q lv st (sI h a 2 x) e) : Sm rv G pc lv (.int x :: .ref a :: st) h e := Sm.putI (r := (RX4, TX4, 4)) hk d mw_39 ho (by decide) rfl (by decide) rfl rfl (Or.inl rfl) hq k
theorem gf_X4_22 {ρ : Type} {rv : ρ → Option Value} {G : Gx} {pc q : Nat} {lv st : List Value} {h : Hp} {a : Nat} {e : Option (ρ × Hp)} (hk : isO h a 4) (d : decode G.2.1 pc = .ok (.getfield 22, 3)) (ho : G.1.cls = RX4) (hq : pc + 3 = q) (k : Sm rv G q lv (.int (gI h a 3) :: st) h e) : Sm rv G pc lv (.ref a :: st) h e := Sm.getI (r := (RX4, TX4, 4)) hk d mw_40 ho (by decide) rfl (by decide) rfl (Or.inr rfl) hq k
theorem pf_X4_22 {ρ : Type} {rv : ρ → Option Value} {G : Gx} {pc q : Nat} {lv st : List Value} {h : Hp} {a : Nat} {x : Int32} {e : Option (ρ × Hp)} (hx : x = 0 ∨ x = 1) (hk : isO h a 4) (d : decode G.2.1 pc = .ok (.putfield 22, 3)) (ho : G.1.cls = RX4) (hq : pc + 3 = q) (k : Sm rv G q lv st (sI h a 3 x) e) : Sm rv G pc lv (.int x :: .ref a :: st) h e := Sm.putZ (r := (RX4, TX4, 4)) hx hk d mw_40 ho (by decide) rfl (by decide) rfl rfl (Or.inl rfl) hq k
theorem gf_X2_9 {ρ : Type} {rv : ρ → Option Value} {G : Gx} {pc q : Nat} {lv st : List Value} {h : Hp} {a : Nat} {e : Nat → Option (ρ × Hp)} (hk : isO h a 2) (d : decode G.2.1 pc = .ok (.getfield 9, 3)) (ho : G.1.cls = RX2) (hq : pc + 3 = q) (k : ∀ x, Sm rv G q lv (.ref x :: st) h (e x)) : Sm rv G pc lv (.ref a :: st) h ((gP h a 0).bind e) := Sm.getP (r := (RX2, TX2, 3)) hk d mw_51 ho (by decide) rfl (by decide) rfl rfl hq k
theorem pf_X2_9 {ρ : Type} {rv : ρ → Option Value} {G : Gx} {pc q : Nat} {lv st : List Value} {h : Hp} {a : Nat} {x : Nat} {e : Option (ρ × Hp)} (hk : isO h a 2) (d : decode G.2.1 pc = .ok (.putfield 9, 3)) (ho : G.1.cls = RX2) (hini : G.1.name = "<init>") (hq : pc + 3 = q) (k : Sm rv G q lv st (sP h a 0 (some x)) e) : Sm rv G pc lv (.ref x :: .ref a :: st) h e := Sm.putP (r := (RX2, TX2, 3)) hk d mw_51 ho (by decide) rfl (by decide) rfl rfl (Or.inr ⟨hini, rfl⟩) hq k
theorem gf_X2_17 {ρ : Type} {rv : ρ → Option Value} {G : Gx} {pc q : Nat} {lv st : List Value} {h : Hp} {a : Nat} {e : Nat → Option (ρ × Hp)} (hk : isO h a 2) (d : decode G.2.1 pc = .ok (.getfield 17, 3)) (ho : G.1.cls = RX2) (hq : pc + 3 = q) (k : ∀ x, Sm rv G q lv (.ref x :: st) h (e x)) : Sm rv G pc lv (.ref a :: st) h ((gP h a 1).bind e) := Sm.getP (r := (RX2, TX2, 3)) hk d mw_52 ho (by decide) rfl (by decide) rfl rfl hq k
theorem pf_X2_17 {ρ : Type} {rv : ρ → Option Value} {G : Gx} {pc q : Nat} {lv st : List Value} {h : Hp} {a : Nat} {x : Nat} {e : Option (ρ × Hp)} (hk : isO h a 2) (d : decode G.2.1 pc = .ok (.putfield 17, 3)) (ho : G.1.cls = RX2) (hini : G.1.name = "<init>") (hq : pc + 3 = q) (k : Sm rv G q lv st (sP h a 1 (some x)) e) : Sm rv G pc lv (.ref x :: .ref a :: st) h e := Sm.putP (r := (RX2, TX2, 3)) hk d mw_52 ho (by decide) rfl (by decide) rfl rfl (Or.inr ⟨hini, rfl⟩) hq k
theorem gf_X2_21 {ρ : Type} {rv : ρ → Option Value} {G : Gx} {pc q : Nat} {lv st : List Value} {h : Hp} {a : Nat} {e : Option (ρ × Hp)} (hk : isO h a 2) (d : decode G.2.1 pc = .ok (.getfield 21, 3)) (ho : G.1.cls = RX2) (hq : pc + 3 = q) (k : Sm rv G q lv (.int (gI h a 2) :: st) h e) : Sm rv G pc lv (.ref a :: st) h e := Sm.getI (r := (RX2, TX2, 3)) hk d mw_53 ho (by decide) rfl (by decide) rfl (Or.inl rfl) hq k
theorem pf_X2_21 {ρ : Type} {rv : ρ → Option Value} {G : Gx} {pc q : Nat} {lv st : List Value} {h : Hp} {a : Nat} {x : Int32} {e : Option (ρ × Hp)} (hk : isO h a 2) (d : decode G.2.1 pc = .ok (.putfield 21, 3)) (ho : G.1.cls = RX2) (hq : pc + 3 = q) (k : Sm rv G q lv st (sI h a 2 x) e) : Sm rv G pc lv (.int x :: .ref a :: st) h e := Sm.putI (r := (RX2, TX2, 3)) hk d mw_53 ho (by decide) rfl (by decide) rfl rfl (Or.inl rfl) hq k
theorem gf_X3_9 {ρ : Type} {rv : ρ → Option Value} {G : Gx} {pc q : Nat} {lv st : List Value} {h : Hp} {a : Nat} {e : Nat → Option (ρ × Hp)} (hk : isO h a 3) (d : decode G.2.1 pc = .ok (.getfield 9, 3)) (ho : G.1.cls = RX3) (hq : pc + 3 = q) (k : ∀ x, Sm rv G q lv (.ref x :: st) h (e x)) : Sm rv G pc lv (.ref a :: st) h ((gP h a 0).bind e) := Sm.getP (r := (RX3, TX3, 10)) hk d mw_69 ho (by decide) rfl (by decide) rfl rfl hq k
theorem pf_X3_9 {ρ : Type} {rv : ρ → Option Value} {G : Gx} {pc q : Nat} {lv st : List Value} {h : Hp} {a : Nat} {x : Nat} {e : Option (ρ × Hp)} (hk : isO h a 3) (d : decode G.2.1 pc = .ok (.putfield 9, 3)) (ho : G.1.cls = RX3) (hini : G.1.name = "<init>") (hq : pc + 3 = q) (k : Sm rv G q lv st (sP h a 0 (some x)) e) : Sm rv G pc lv (.ref x :: .ref a :: st) h e := Sm.putP (r := (RX3, TX3, 10)) hk d mw_69 ho (by decide) rfl (by decide) rfl rfl (Or.inr ⟨hini, rfl⟩) hq k
theorem gf_X3_15 {ρ : Type} {rv : ρ → Option Value} {G : Gx} {pc q : Nat} {lv st : List Value} {h : Hp} {a : Nat} {e : Nat → Option (ρ × Hp)} (hk : isO h a 3) (d : decode G.2.1 pc = .ok (.getfield 15, 3)) (ho : G.1.cls = RX3) (hq : pc + 3 = q) (k : ∀ x, Sm rv G q lv (.ref x :: st) h (e x)) : Sm rv G pc lv (.ref a :: st) h ((gP h a 1).bind e) := Sm.getP (r := (RX3, TX3, 10)) hk d mw_70 ho (by decide) rfl (by decide) rfl rfl hq k
theorem pf_X3_15 {ρ : Type} {rv : ρ → Option Value} {G : Gx} {pc q : Nat} {lv st : List Value} {h : Hp} {a : Nat} {x : Nat} {e : Option (ρ × Hp)} (hk : isO h a 3) (d : decode G.2.1 pc = .ok (.putfield 15, 3)) (ho : G.1.cls = RX3) (hini : G.1.name = "<init>") (hq : pc + 3 = q) (k : Sm rv G q lv st (sP h a 1 (some x)) e) : Sm rv G pc lv (.ref x :: .ref a :: st) h e := Sm.putP (r := (RX3, TX3, 10)) hk d mw_70 ho (by decide) rfl (by decide) rfl rfl (Or.inr ⟨hini, rfl⟩) hq k
theorem gf_X3_18 {ρ : Type} {rv : ρ → Option Value} {G : Gx} {pc q : Nat} {lv st : List Value} {h : Hp} {a : Nat} {e : Option (ρ × Hp)} (hk : isO h a 3) (d : decode G.2.1 pc = .ok (.getfield 18, 3)) (ho : G.1.cls = RX3) (hq : pc + 3 = q) (k : Sm rv G q lv (.int (gI h a 2) :: st) h e) : Sm rv G pc lv (.ref a :: st) h e := Sm.getI (r := (RX3, TX3, 10)) hk d mw_71 ho (by decide) rfl (by decide) rfl (Or.inl rfl) hq k
theorem pf_X3_18 {ρ : Type} {rv : ρ → Option Value} {G : Gx} {pc q : Nat} {lv st : List Value} {h : Hp} {a : Nat} {x : Int32} {e : Option (ρ × Hp)} (hk : isO h a 3) (d : decode G.2.1 pc = .ok (.putfield 18, 3)) (ho : G.1.cls = RX3) (hq : pc + 3 = q) (k : Sm rv G q lv st (sI h a 2 x) e) : Sm rv G pc lv (.int x :: .ref a :: st) h e := Sm.putI (r := (RX3, TX3, 10)) hk d mw_71 ho (by decide) rfl (by decide) rfl rfl (Or.inl rfl) hq k
theorem gf_X3_22 {ρ : Type} {rv : ρ → Option Value} {G : Gx} {pc q : Nat} {lv st : List Value} {h : Hp} {a : Nat} {e : Nat → Option (ρ × Hp)} (hk : isO h a 3) (d : decode G.2.1 pc = .ok (.getfield 22, 3)) (ho : G.1.cls = RX3) (hq : pc + 3 = q) (k : ∀ x, Sm rv G q lv (.ref x :: st) h (e x)) : Sm rv G pc lv (.ref a :: st) h ((gP h a 3).bind e) := Sm.getP (r := (RX3, TX3, 10)) hk d mw_72 ho (by decide) rfl (by decide) rfl rfl hq k
theorem pf_X3_22 {ρ : Type} {rv : ρ → Option Value} {G : Gx} {pc q : Nat} {lv st : List Value} {h : Hp} {a : Nat} {x : Nat} {e : Option (ρ × Hp)} (hk : isO h a 3) (d : decode G.2.1 pc = .ok (.putfield 22, 3)) (ho : G.1.cls = RX3) (hini : G.1.name = "<init>") (hq : pc + 3 = q) (k : Sm rv G q lv st (sP h a 3 (some x)) e) : Sm rv G pc lv (.ref x :: .ref a :: st) h e := Sm.putP (r := (RX3, TX3, 10)) hk d mw_72 ho (by decide) rfl (by decide) rfl rfl (Or.inr ⟨hini, rfl⟩) hq k
theorem gf_X3_26 {ρ : Type} {rv : ρ → Option Value} {G : Gx} {pc q : Nat} {lv st : List Value} {h : Hp} {a : Nat} {e : Option (ρ × Hp)} (hk : isO h a 3) (d : decode G.2.1 pc = .ok (.getfield 26, 3)) (ho : G.1.cls = RX3) (hq : pc + 3 = q) (k : Sm rv G q lv (.int (gI h a 4) :: st) h e) : Sm rv G pc lv (.ref a :: st) h e := Sm.getI (r := (RX3, TX3, 10)) hk d mw_73 ho (by decide) rfl (by decide) rfl (Or.inl rfl) hq k
theorem pf_X3_26 {ρ : Type} {rv : ρ → Option Value} {G : Gx} {pc q : Nat} {lv st : List Value} {h : Hp} {a : Nat} {x : Int32} {e : Option (ρ × Hp)} (hk : isO h a 3) (d : decode G.2.1 pc = .ok (.putfield 26, 3)) (ho : G.1.cls = RX3) (hq : pc + 3 = q) (k : Sm rv G q lv st (sI h a 4 x) e) : Sm rv G pc lv (.int x :: .ref a :: st) h e := Sm.putI (r := (RX3, TX3, 10)) hk d mw_73 ho (by decide) rfl (by decide) rfl rfl (Or.inl rfl) hq k
theorem gf_X3_32 {ρ : Type} {rv : ρ → Option Value} {G : Gx} {pc q : Nat} {lv st : List Value} {h : Hp} {a : Nat} {e : Nat → Option (ρ × Hp)} (hk : isO h a 3) (d : decode G.2.1 pc = .ok (.getfield 32, 3)) (ho : G.1.cls = RX3) (hq : pc + 3 = q) (k : ∀ x, Sm rv G q lv (.ref x :: st) h (e x)) : Sm rv G pc lv (.ref a :: st) h ((gP h a 5).bind e) := Sm.getP (r := (RX3, TX3, 10)) hk d mw_74 ho (by decide) rfl (by decide) rfl rfl hq k
theorem pf_X3_32 {ρ : Type} {rv : ρ → Option Value} {G : Gx} {pc q : Nat} {lv st : List Value} {h : Hp} {a : Nat} {x : Nat} {e : Option (ρ × Hp)} (hk : isO h a 3) (d : decode G.2.1 pc = .ok (.putfield 32, 3)) (ho : G.1.cls = RX3) (hini : G.1.name = "<init>") (hq : pc + 3 = q) (k : Sm rv G q lv st (sP h a 5 (some x)) e) : Sm rv G pc lv (.ref x :: .ref a :: st) h e := Sm.putP (r := (RX3, TX3, 10)) hk d mw_74 ho (by decide) rfl (by decide) rfl rfl (Or.inr ⟨hini, rfl⟩) hq k
theorem gf_X3_36 {ρ : Type} {rv : ρ → Option Value} {G : Gx} {pc q : Nat} {lv st : List Value} {h : Hp} {a : Nat} {e : Option (ρ × Hp)} (hk : isO h a 3) (d : decode G.2.1 pc = .ok (.getfield 36, 3)) (ho : G.1.cls = RX3) (hq : pc + 3 = q) (k : Sm rv G q lv (.int (gI h a 6) :: st) h e) : Sm rv G pc lv (.ref a :: st) h e := Sm.getI (r := (RX3, TX3, 10)) hk d mw_75 ho (by decide) rfl (by decide) rfl (Or.inl rfl) hq k
theorem pf_X3_36 {ρ : Type} {rv : ρ → Option Value} {G : Gx} {pc q : Nat} {lv st : List Value} {h : Hp} {a : Nat} {x : Int32} {e : Option (ρ × Hp)} (hk : isO h a 3) (d : decode G.2.1 pc = .ok (.putfield 36, 3)) (ho : G.1.cls = RX3) (hq : pc + 3 = q) (k : Sm rv G q lv st (sI h a 6 x) e) : Sm rv G pc lv (.int x :: .ref a :: st) h e := Sm.putI (r := (RX3, TX3, 10)) hk d mw_75 ho (by decide) rfl (by decide) rfl rfl (Or.inl rfl) hq k
theorem gf_X3_39 {ρ : Type} {rv : ρ → Option Value} {G : Gx} {pc q : Nat} {lv st : List Value} {h : Hp} {a : Nat} {e : Option (ρ × Hp)} (hk : isO h a 3) (d : decode G.2.1 pc = .ok (.getfield 39, 3)) (ho : G.1.cls = RX3) (hq : pc + 3 = q) (k : Sm rv G q lv (.int (gI h a 7) :: st) h e) : Sm rv G pc lv (.ref a :: st) h e := Sm.getI (r := (RX3, TX3, 10)) hk d mw_76 ho (by decide) rfl (by decide) rfl (Or.inl rfl) hq k
theorem pf_X3_39 {ρ : Type} {rv : ρ → Option Value} {G : Gx} {pc q : Nat} {lv st : List Value} {h : Hp} {a : Nat} {x : Int32} {e : Option (ρ × Hp)} (hk : isO h a 3) (d : decode G.2.1 pc = .ok (.putfield 39, 3)) (ho : G.1.cls = RX3) (hq : pc + 3 = q) (k : Sm rv G q lv st (sI h a 7 x) e) : Sm rv G pc lv (.int x :: .ref a :: st) h e := Sm.putI (r := (RX3, TX3, 10)) hk d mw_76 ho (by decide) rfl (by decide) rfl rfl (Or.inl rfl) hq k
theorem gf_X3_42 {ρ : Type} {rv : ρ → Option Value} {G : Gx} {pc q : Nat} {lv st : List Value} {h : Hp} {a : Nat} {e : Option (ρ × Hp)} (hk : isO h a 3) (d : decode G.2.1 pc = .ok (.getfield 42, 3)) (ho : G.1.cls = RX3) (hq : pc + 3 = q) (k : Sm rv G q lv (.int (gI h a 8) :: st) h e) : Sm rv G pc lv (.ref a :: st) h e := Sm.getI (r := (RX3, TX3, 10)) hk d mw_77 ho (by decide) rfl (by decide) rfl (Or.inl rfl) hq k
theorem pf_X3_42 {ρ : Type} {rv : ρ → Option Value} {G : Gx} {pc q : Nat} {lv st : List Value} {h : Hp} {a : Nat} {x : Int32} {e : Option (ρ × Hp)} (hk : isO h a 3) (d : decode G.2.1 pc = .ok (.putfield 42, 3)) (ho : G.1.cls = RX3) (hq : pc + 3 = q) (k : Sm rv G q lv st (sI h a 8 x) e) : Sm rv G pc lv (.int x :: .ref a :: st) h e := Sm.putI (r := (RX3, TX3, 10)) hk d mw_77 ho (by decide) rfl (by decide) rfl rfl (Or.inl rfl) hq k
theorem gf_X3_45 {ρ : Type} {rv : ρ → Option Value} {G : Gx} {pc q : Nat} {lv st : List Value} {h : Hp} {a : Nat} {e : Option (ρ × Hp)} (hk : isO h a 3) (d : decode G.2.1 pc = .ok (.getfield 45, 3)) (ho : G.1.cls = RX3) (hq : pc + 3 = q) (k : Sm rv G q lv (.int (gI h a 9) :: st) h e) : Sm rv G pc lv (.ref a :: st) h e := Sm.getI (r := (RX3, TX3, 10)) hk d mw_78 ho (by decide) rfl (by decide) rfl (Or.inl rfl) hq k
theorem pf_X3_45 {ρ : Type} {rv : ρ → Option Value} {G : Gx} {pc q : Nat} {lv st : List Value} {h : Hp} {a : Nat} {x : Int32} {e : Option (ρ × Hp)} (hk : isO h a 3) (d : decode G.2.1 pc = .ok (.putfield 45, 3)) (ho : G.1.cls = RX3) (hq : pc + 3 = q) (k : Sm rv G q lv st (sI h a 9 x) e) : Sm rv G pc lv (.int x :: .ref a :: st) h e := Sm.putI (r := (RX3, TX3, 10)) hk d mw_78 ho (by decide) rfl (by decide) rfl rfl (Or.inl rfl) hq k
theorem gf_X1_9 {ρ : Type} {rv : ρ → Option Value} {G : Gx} {pc q : Nat} {lv st : List Value} {h : Hp} {a : Nat} {e : Nat → Option (ρ × Hp)} (hk : isO h a 1) (d : decode G.2.1 pc = .ok (.getfield 9, 3)) (ho : G.1.cls = RX1) (hq : pc + 3 = q) (k : ∀ x, Sm rv G q lv (.ref x :: st) h (e x)) : Sm rv G pc lv (.ref a :: st) h ((gP h a 0).bind e) := Sm.getP (r := (RX1, TX1, 1)) hk d mw_107 ho (by decide) rfl (by decide) rfl rfl hq k
theorem pf_X1_9 {ρ : Type} {rv : ρ → Option Value} {G : Gx} {pc q : Nat} {lv st : List Value} {h : Hp} {a : Nat} {x : Nat} {e : Option (ρ × Hp)} (hk : isO h a 1) (d : decode G.2.1 pc = .ok (.putfield 9, 3)) (ho : G.1.cls = RX1) (hini : G.1.name = "<init>") (hq : pc + 3 = q) (k : Sm rv G q lv st (sP h a 0 (some x)) e) : Sm rv G pc lv (.ref x :: .ref a :: st) h e := Sm.putP (r := (RX1, TX1, 1)) hk d mw_107 ho (by decide) rfl (by decide) rfl rfl (Or.inr ⟨hini, rfl⟩) hq k
theorem gf_X5_11 {ρ : Type} {rv : ρ → Option Value} {G : Gx} {pc q : Nat} {lv st : List Value} {h : Hp} {a : Nat} {e : Nat → Option (ρ × Hp)} (hk : isO h a 5) (d : decode G.2.1 pc = .ok (.getfield 11, 3)) (ho : G.1.cls = RX5) (hq : pc + 3 = q) (k : ∀ x, Sm rv G q lv (.ref x :: st) h (e x)) : Sm rv G pc lv (.ref a :: st) h ((gP h a 0).bind e) := Sm.getP (r := (RX5, TX5, 5)) hk d mw_127 ho (by decide) rfl (by decide) rfl rfl hq k
theorem pf_X5_11 {ρ : Type} {rv : ρ → Option Value} {G : Gx} {pc q : Nat} {lv st : List Value} {h : Hp} {a : Nat} {x : Nat} {e : Option (ρ × Hp)} (hk : isO h a 5) (d : decode G.2.1 pc = .ok (.putfield 11, 3)) (ho : G.1.cls = RX5) (hini : G.1.name = "<init>") (hq : pc + 3 = q) (k : Sm rv G q lv st (sP h a 0 (some x)) e) : Sm rv G pc lv (.ref x :: .ref a :: st) h e := Sm.putP (r := (RX5, TX5, 5)) hk d mw_127 ho (by decide) rfl (by decide) rfl rfl (Or.inr ⟨hini, rfl⟩) hq k
theorem gf_X5_15 {ρ : Type} {rv : ρ → Option Value} {G : Gx} {pc q : Nat} {lv st : List Value} {h : Hp} {a : Nat} {e : Nat → Option (ρ × Hp)} (hk : isO h a 5) (d : decode G.2.1 pc = .ok (.getfield 15, 3)) (ho : G.1.cls = RX5) (hq : pc + 3 = q) (k : ∀ x, Sm rv G q lv (.ref x :: st) h (e x)) : Sm rv G pc lv (.ref a :: st) h ((gP h a 1).bind e) := Sm.getP (r := (RX5, TX5, 5)) hk d mw_128 ho (by decide) rfl (by decide) rfl rfl hq k
theorem pf_X5_15 {ρ : Type} {rv : ρ → Option Value} {G : Gx} {pc q : Nat} {lv st : List Value} {h : Hp} {a : Nat} {x : Nat} {e : Option (ρ × Hp)} (hk : isO h a 5) (d : decode G.2.1 pc = .ok (.putfield 15, 3)) (ho : G.1.cls = RX5) (hini : G.1.name = "<init>") (hq : pc + 3 = q) (k : Sm rv G q lv st (sP h a 1 (some x)) e) : Sm rv G pc lv (.ref x :: .ref a :: st) h e := Sm.putP (r := (RX5, TX5, 5)) hk d mw_128 ho (by decide) rfl (by decide) rfl rfl (Or.inr ⟨hini, rfl⟩) hq k
theorem gf_X5_18 {ρ : Type} {rv : ρ → Option Value} {G : Gx} {pc q : Nat} {lv st : List Value} {h : Hp} {a : Nat} {e : Nat → Option (ρ × Hp)} (hk : isO h a 5) (d : decode G.2.1 pc = .ok (.getfield 18, 3)) (ho : G.1.cls = RX5) (hq : pc + 3 = q) (k : ∀ x, Sm rv G q lv (.ref x :: st) h (e x)) : Sm rv G pc lv (.ref a :: st) h ((gP h a 2).bind e) := Sm.getP (r := (RX5, TX5, 5)) hk d mw_129 ho (by decide) rfl (by decide) rfl rfl hq k
theorem pf_X5_18 {ρ : Type} {rv : ρ → Option Value} {G : Gx} {pc q : Nat} {lv st : List Value} {h : Hp} {a : Nat} {x : Nat} {e : Option (ρ × Hp)} (hk : isO h a 5) (d : decode G.2.1 pc = .ok (.putfield 18, 3)) (ho : G.1.cls = RX5) (hini : G.1.name = "<init>") (hq : pc + 3 = q) (k : Sm rv G q lv st (sP h a 2 (some x)) e) : Sm rv G pc lv (.ref x :: .ref a :: st) h e := Sm.putP (r := (RX5, TX5, 5)) hk d mw_129 ho (by decide) rfl (by decide) rfl rfl (Or.inr ⟨hini, rfl⟩) hq k
theorem gf_X5_22 {ρ : Type} {rv : ρ → Option Value} {G : Gx} {pc q : Nat} {lv st : List Value} {h : Hp} {a : Nat} {e : Nat → Option (ρ × Hp)} (hk : isO h a 5) (d : decode G.2.1 pc = .ok (.getfield 22, 3)) (ho : G.1.cls = RX5) (hq : pc + 3 = q) (k : ∀ x, Sm rv G q lv (.ref x :: st) h (e x)) : Sm rv G pc lv (.ref a :: st) h ((gP h a 3).bind e) := Sm.getP (r := (RX5, TX5, 5)) hk d mw_130 ho (by decide) rfl (by decide) rfl rfl hq k
theorem pf_X5_22 {ρ : Type} {rv : ρ → Option Value} {G : Gx} {pc q : Nat} {lv st : List Value} {h : Hp} {a : Nat} {x : Nat} {e : Option (ρ × Hp)} (hk : isO h a 5) (d : decode G.2.1 pc = .ok (.putfield 22, 3)) (ho : G.1.cls = RX5) (hini : G.1.name = "<init>") (hq : pc + 3 = q) (k : Sm rv G q lv st (sP h a 3 (some x)) e) : Sm rv G pc lv (.ref x :: .ref a :: st) h e := Sm.putP (r := (RX5, TX5, 5)) hk d mw_130 ho (by decide) rfl (by decide) rfl rfl (Or.inr ⟨hini, rfl⟩) hq k
theorem gf_X5_25 {ρ : Type} {rv : ρ → Option Value} {G : Gx} {pc q : Nat} {lv st : List Value} {h : Hp} {a : Nat} {e : Option (ρ × Hp)} (hk : isO h a 5) (d : decode G.2.1 pc = .ok (.getfield 25, 3)) (ho : G.1.cls = RX5) (hq : pc + 3 = q) (k : Sm rv G q lv (.int (gI h a 4) :: st) h e) : Sm rv G pc lv (.ref a :: st) h e := Sm.getI (r := (RX5, TX5, 5)) hk d mw_131 ho (by decide) rfl (by decide) rfl (Or.inl rfl) hq k
theorem pf_X5_25 {ρ : Type} {rv : ρ → Option Value} {G : Gx} {pc q : Nat} {lv st : List Value} {h : Hp} {a : Nat} {x : Int32} {e : Option (ρ × Hp)} (hk : isO h a 5) (d : decode G.2.1 pc = .ok (.putfield 25, 3)) (ho : G.1.cls = RX5) (hq : pc + 3 = q) (k : Sm rv G q lv st (sI h a 4 x) e) : Sm rv G pc lv (.int x :: .ref a :: st) h e := Sm.putI (r := (RX5, TX5, 5)) hk d mw_131 ho (by decide) rfl (by decide) rfl rfl (Or.inl rfl) hq k
theorem gf_X6_9 {ρ : Type} {rv : ρ → Option Value} {G : Gx} {pc q : Nat} {lv st : List Value} {h : Hp} {a : Nat} {e : Nat → Option (ρ × Hp)} (hk : isO h a 6) (d : decode G.2.1 pc = .ok (.getfield 9, 3)) (ho : G.1.cls = RX6) (hq : pc + 3 = q) (k : ∀ x, Sm rv G q lv (.ref x :: st) h (e x)) : Sm rv G pc lv (.ref a :: st) h ((gP h a 0).bind e) := Sm.getP (r := (RX6, TX6, 1)) hk d mw_149 ho (by decide) rfl (by decide) rfl rfl hq k
theorem pf_X6_9 {ρ : Type} {rv : ρ → Option Value} {G : Gx} {pc q : Nat} {lv st : List Value} {h : Hp} {a : Nat} {x : Nat} {e : Option (ρ × Hp)} (hk : isO h a 6) (d : decode G.2.1 pc = .ok (.putfield 9, 3)) (ho : G.1.cls = RX6) (hini : G.1.name = "<init>") (hq : pc + 3 = q) (k : Sm rv G q lv st (sP h a 0 (some x)) e) : Sm rv G pc lv (.ref x :: .ref a :: st) h e := Sm.putP (r := (RX6, TX6, 1)) hk d mw_149 ho (by decide) rfl (by decide) rfl rfl (Or.inr ⟨hini, rfl⟩) hq k
theorem gf_X0_9 {ρ : Type} {rv : ρ → Option Value} {G : Gx} {pc q : Nat} {lv st : List Value} {h : Hp} {a : Nat} {e : Nat → Option (ρ × Hp)} (hk : isO h a 0) (d : decode G.2.1 pc = .ok (.getfield 9, 3)) (ho : G.1.cls = RX0) (hq : pc + 3 = q) (k : ∀ x, Sm rv G q lv (.ref x :: st) h (e x)) : Sm rv G pc lv (.ref a :: st) h ((gP h a 0).bind e) := Sm.getP (r := (RX0, TX0, 10)) hk d mw_159 ho (by decide) rfl (by decide) rfl rfl hq k
theorem pf_X0_9 {ρ : Type} {rv : ρ → Option Value} {G : Gx} {pc q : Nat} {lv st : List Value} {h : Hp} {a : Nat} {x : Nat} {e : Option (ρ × Hp)} (hk : isO h a 0) (d : decode G.2.1 pc = .ok (.putfield 9, 3)) (ho : G.1.cls = RX0) (hini : G.1.name = "<init>") (hq : pc + 3 = q) (k : Sm rv G q lv st (sP h a 0 (some x)) e) : Sm rv G pc lv (.ref x :: .ref a :: st) h e := Sm.putP (r := (RX0, TX0, 10)) hk d mw_159 ho (by decide) rfl (by decide) rfl rfl (Or.inr ⟨hini, rfl⟩) hq k
theorem gf_X0_15 {ρ : Type} {rv : ρ → Option Value} {G : Gx} {pc q : Nat} {lv st : List Value} {h : Hp} {a : Nat} {e : Nat → Option (ρ × Hp)} (hk : isO h a 0) (d : decode G.2.1 pc = .ok (.getfield 15, 3)) (ho : G.1.cls = RX0) (hq : pc + 3 = q) (k : ∀ x, Sm rv G q lv (.ref x :: st) h (e x)) : Sm rv G pc lv (.ref a :: st) h ((gP h a 1).bind e) := Sm.getP (r := (RX0, TX0, 10)) hk d mw_160 ho (by decide) rfl (by decide) rfl rfl hq k
theorem pf_X0_15 {ρ : Type} {rv : ρ → Option Value} {G : Gx} {pc q : Nat} {lv st : List Value} {h : Hp} {a : Nat} {x : Nat} {e : Option (ρ × Hp)} (hk : isO h a 0) (d : decode G.2.1 pc = .ok (.putfield 15, 3)) (ho : G.1.cls = RX0) (hini : G.1.name = "<init>") (hq : pc + 3 = q) (k : Sm rv G q lv st (sP h a 1 (some x)) e) : Sm rv G pc lv (.ref x :: .ref a :: st) h e := Sm.putP (r := (RX0, TX0, 10)) hk d mw_160 ho (by decide) rfl (by decide) rfl rfl (Or.inr ⟨hini, rfl⟩) hq k
theorem gf_X0_18 {ρ : Type} {rv : ρ → Option Value} {G : Gx} {pc q : Nat} {lv st : List Value} {h : Hp} {a : Nat} {e : Nat → Option (ρ × Hp)} (hk : isO h a 0) (d : decode G.2.1 pc = .ok (.getfield 18, 3)) (ho : G.1.cls = RX0) (hq : pc + 3 = q) (k : ∀ x, Sm rv G q lv (.ref x :: st) h (e x)) : Sm rv G pc lv (.ref a :: st) h ((gP h a 2).bind e) := Sm.getP (r := (RX0, TX0, 10)) hk d mw_161 ho (by decide) rfl (by decide) rfl rfl hq k
theorem pf_X0_18 {ρ : Type} {rv : ρ → Option Value} {G : Gx} {pc q : Nat} {lv st : List Value} {h : Hp} {a : Nat} {x : Nat} {e : Option (ρ × Hp)} (hk : isO h a 0) (d : decode G.2.1 pc = .ok (.putfield 18, 3)) (ho : G.1.cls = RX0) (hini : G.1.name = "<init>") (hq : pc + 3 = q) (k : Sm rv G q lv st (sP h a 2 (some x)) e) : Sm rv G pc lv (.ref x :: .ref a :: st) h e := Sm.putP (r := (RX0, TX0, 10)) hk d mw_161 ho (by decide) rfl (by decide) rfl rfl (Or.inr ⟨hini, rfl⟩) hq k
theorem gf_X0_22 {ρ : Type} {rv : ρ → Option Value} {G : Gx} {pc q : Nat} {lv st : List Value} {h : Hp} {a : Nat} {e : Nat → Option (ρ × Hp)} (hk : isO h a 0) (d : decode G.2.1 pc = .ok (.getfield 22, 3)) (ho : G.1.cls = RX0) (hq : pc + 3 = q) (k : ∀ x, Sm rv G q lv (.ref x :: st) h (e x)) : Sm rv G pc lv (.ref a :: st) h ((gP h a 3).bind e) := Sm.getP (r := (RX0, TX0, 10)) hk d mw_162 ho (by decide) rfl (by decide) rfl rfl hq k
theorem pf_X0_22 {ρ : Type} {rv : ρ → Option Value} {G : Gx} {pc q : Nat} {lv st : List Value} {h : Hp} {a : Nat} {x : Nat} {e : Option (ρ × Hp)} (hk : isO h a 0) (d : decode G.2.1 pc = .ok (.putfield 22, 3)) (ho : G.1.cls = RX0) (hini : G.1.name = "<init>") (hq : pc + 3 = q) (k : Sm rv G q lv st (sP h a 3 (some x)) e) : Sm rv G pc lv (.ref x :: .ref a :: st) h e := Sm.putP (r := (RX0, TX0, 10)) hk d mw_162 ho (by decide) rfl (by decide) rfl rfl (Or.inr ⟨hini, rfl⟩) hq k
theorem gf_X0_25 {ρ : Type} {rv : ρ → Option Value} {G : Gx} {pc q : Nat} {lv st : List Value} {h : Hp} {a : Nat} {e : Nat → Option (ρ × Hp)} (hk : isO h a 0) (d : decode G.2.1 pc = .ok (.getfield 25, 3)) (ho : G.1.cls = RX0) (hq : pc + 3 = q) (k : ∀ x, Sm rv G q lv (.ref x :: st) h (e x)) : Sm rv G pc lv (.ref a :: st) h ((gP h a 4).bind e) := Sm.getP (r := (RX0, TX0, 10)) hk d mw_163 ho (by decide) rfl (by decide) rfl rfl hq k
theorem pf_X0_25 {ρ : Type} {rv : ρ → Option Value} {G : Gx} {pc q : Nat} {lv st : List Value} {h : Hp} {a : Nat} {x : Nat} {e : Option (ρ × Hp)} (hk : isO h a 0) (d : decode G.2.1 pc = .ok (.putfield 25, 3)) (ho : G.1.cls = RX0) (hini : G.1.name = "<init>") (hq : pc + 3 = q) (k : Sm rv G q lv st (sP h a 4 (some x)) e) : Sm rv G pc lv (.ref x :: .ref a :: st) h e := Sm.putP (r := (RX0, TX0, 10)) hk d mw_163 ho (by decide) rfl (by decide) rfl rfl (Or.inr ⟨hini, rfl⟩) hq k
theorem gf_X0_28 {ρ : Type} {rv : ρ → Option Value} {G : Gx} {pc q : Nat} {lv st : List Value} {h : Hp} {a : Nat} {e : Option (ρ × Hp)} (hk : isO h a 0) (d : decode G.2.1 pc = .ok (.getfield 28, 3)) (ho : G.1.cls = RX0) (hq : pc + 3 = q) (k : Sm rv G q lv (.int (gI h a 5) :: st) h e) : Sm rv G pc lv (.ref a :: st) h e := Sm.getI (r := (RX0, TX0, 10)) hk d mw_164 ho (by decide) rfl (by decide) rfl (Or.inl rfl) hq k
theorem pf_X0_28 {ρ : Type} {rv : ρ → Option Value} {G : Gx} {pc q : Nat} {lv st : List Value} {h : Hp} {a : Nat} {x : Int32} {e : Option (ρ × Hp)} (hk : isO h a 0) (d : decode G.2.1 pc = .ok (.putfield 28, 3)) (ho : G.1.cls = RX0) (hq : pc + 3 = q) (k : Sm rv G q lv st (sI h a 5 x) e) : Sm rv G pc lv (.int x :: .ref a :: st) h e := Sm.putI (r := (RX0, TX0, 10)) hk d mw_164 ho (by decide) rfl (by decide) rfl rfl (Or.inl rfl) hq k
theorem gf_X0_32 {ρ : Type} {rv : ρ → Option Value} {G : Gx} {pc q : Nat} {lv st : List Value} {h : Hp} {a : Nat} {e : Option (ρ × Hp)} (hk : isO h a 0) (d : decode G.2.1 pc = .ok (.getfield 32, 3)) (ho : G.1.cls = RX0) (hq : pc + 3 = q) (k : Sm rv G q lv (.int (gI h a 6) :: st) h e) : Sm rv G pc lv (.ref a :: st) h e := Sm.getI (r := (RX0, TX0, 10)) hk d mw_165 ho (by decide) rfl (by decide) rfl (Or.inl rfl) hq k
theorem pf_X0_32 {ρ : Type} {rv : ρ → Option Value} {G : Gx} {pc q : Nat} {lv st : List Value} {h : Hp} {a : Nat} {x : Int32} {e : Option (ρ × Hp)} (hk : isO h a 0) (d : decode G.2.1 pc = .ok (.putfield 32, 3)) (ho : G.1.cls = RX0) (hq : pc + 3 = q) (k : Sm rv G q lv st (sI h a 6 x) e) : Sm rv G pc lv (.int x :: .ref a :: st) h e := Sm.putI (r := (RX0, TX0, 10)) hk d mw_165 ho (by decide) rfl (by decide) rfl rfl (Or.inl rfl) hq k
theorem gf_X0_35 {ρ : Type} {rv : ρ → Option Value} {G : Gx} {pc q : Nat} {lv st : List Value} {h : Hp} {a : Nat} {e : Option (ρ × Hp)} (hk : isO h a 0) (d : decode G.2.1 pc = .ok (.getfield 35, 3)) (ho : G.1.cls = RX0) (hq : pc + 3 = q) (k : Sm rv G q lv (.int (gI h a 7) :: st) h e) : Sm rv G pc lv (.ref a :: st) h e := Sm.getI (r := (RX0, TX0, 10)) hk d mw_166 ho (by decide) rfl (by decide) rfl (Or.inl rfl) hq k
theorem pf_X0_35 {ρ : Type} {rv : ρ → Option Value} {G : Gx} {pc q : Nat} {lv st : List Value} {h : Hp} {a : Nat} {x : Int32} {e : Option (ρ × Hp)} (hk : isO h a 0) (d : decode G.2.1 pc = .ok (.putfield 35, 3)) (ho : G.1.cls = RX0) (hq : pc + 3 = q) (k : Sm rv G q lv st (sI h a 7 x) e) : Sm rv G pc lv (.int x :: .ref a :: st) h e := Sm.putI (r := (RX0, TX0, 10)) hk d mw_166 ho (by decide) rfl (by decide) rfl rfl (Or.inl rfl) hq k
theorem gf_X0_38 {ρ : Type} {rv : ρ → Option Value} {G : Gx} {pc q : Nat} {lv st : List Value} {h : Hp} {a : Nat} {e : Nat → Option (ρ × Hp)} (hk : isO h a 0) (d : decode G.2.1 pc = .ok (.getfield 38, 3)) (ho : G.1.cls = RX0) (hq : pc + 3 = q) (k : ∀ x, Sm rv G q lv (.ref x :: st) h (e x)) : Sm rv G pc lv (.ref a :: st) h ((gP h a 8).bind e) := Sm.getP (r := (RX0, TX0, 10)) hk d mw_167 ho (by decide) rfl (by decide) rfl rfl hq k
theorem pf_X0_38 {ρ : Type} {rv : ρ → Option Value} {G : Gx} {pc q : Nat} {lv st : List Value} {h : Hp} {a : Nat} {x : Nat} {e : Option (ρ × Hp)} (hk : isO h a 0) (d : decode G.2.1 pc = .ok (.putfield 38, 3)) (ho : G.1.cls = RX0) (hini : G.1.name = "<init>") (hq : pc + 3 = q) (k : Sm rv G q lv st (sP h a 8 (some x)) e) : Sm rv G pc lv (.ref x :: .ref a :: st) h e := Sm.putP (r := (RX0, TX0, 10)) hk d mw_167 ho (by decide) rfl (by decide) rfl rfl (Or.inr ⟨hini, rfl⟩) hq k
theorem gf_X0_41 {ρ : Type} {rv : ρ → Option Value} {G : Gx} {pc q : Nat} {lv st : List Value} {h : Hp} {a : Nat} {e : Nat → Option (ρ × Hp)} (hk : isO h a 0) (d : decode G.2.1 pc = .ok (.getfield 41, 3)) (ho : G.1.cls = RX0) (hq : pc + 3 = q) (k : ∀ x, Sm rv G q lv (.ref x :: st) h (e x)) : Sm rv G pc lv (.ref a :: st) h ((gP h a 9).bind e) := Sm.getP (r := (RX0, TX0, 10)) hk d mw_168 ho (by decide) rfl (by decide) rfl rfl hq k
theorem pf_X0_41 {ρ : Type} {rv : ρ → Option Value} {G : Gx} {pc q : Nat} {lv st : List Value} {h : Hp} {a : Nat} {x : Nat} {e : Option (ρ × Hp)} (hk : isO h a 0) (d : decode G.2.1 pc = .ok (.putfield 41, 3)) (ho : G.1.cls = RX0) (hini : G.1.name = "<init>") (hq : pc + 3 = q) (k : Sm rv G q lv st (sP h a 9 (some x)) e) : Sm rv G pc lv (.ref x :: .ref a :: st) h e := Sm.putP (r := (RX0, TX0, 10)) hk d mw_168 ho (by decide) rfl (by decide) rfl rfl (Or.inr ⟨hini, rfl⟩) hq k
theorem gf_X8_9 {ρ : Type} {rv : ρ → Option Value} {G : Gx} {pc q : Nat} {lv st : List Value} {h : Hp} {a : Nat} {e : Nat → Option (ρ × Hp)} (hk : isO h a 8) (d : decode G.2.1 pc = .ok (.getfield 9, 3)) (ho : G.1.cls = RX8) (hq : pc + 3 = q) (k : ∀ x, Sm rv G q lv (.ref x :: st) h (e x)) : Sm rv G pc lv (.ref a :: st) h ((gP h a 0).bind e) := Sm.getP (r := (RX8, TX8, 3)) hk d mw_196 ho (by decide) rfl (by decide) rfl rfl hq k
theorem pf_X8_9 {ρ : Type} {rv : ρ → Option Value} {G : Gx} {pc q : Nat} {lv st : List Value} {h : Hp} {a : Nat} {x : Nat} {e : Option (ρ × Hp)} (hk : isO h a 8) (d : decode G.2.1 pc = .ok (.putfield 9, 3)) (ho : G.1.cls = RX8) (hini : G.1.name = "<init>") (hq : pc + 3 = q) (k : Sm rv G q lv st (sP h a 0 (some x)) e) : Sm rv G pc lv (.ref x :: .ref a :: st) h e := Sm.putP (r := (RX8, TX8, 3)) hk d mw_196 ho (by decide) rfl (by decide) rfl rfl (Or.inr ⟨hini, rfl⟩) hq k
theorem gf_X8_15 {ρ : Type} {rv : ρ → Option Value} {G : Gx} {pc q : Nat} {lv st : List Value} {h : Hp} {a : Nat} {e : Nat → Option (ρ × Hp)} (hk : isO h a 8) (d : decode G.2.1 pc = .ok (.getfield 15, 3)) (ho : G.1.cls = RX8) (hq : pc + 3 = q) (k : ∀ x, Sm rv G q lv (.ref x :: st) h (e x)) : Sm rv G pc lv (.ref a :: st) h ((gP h a 1).bind e) := Sm.getP (r := (RX8, TX8, 3)) hk d mw_197 ho (by decide) rfl (by decide) rfl rfl hq k
theorem pf_X8_15 {ρ : Type} {rv : ρ → Option Value} {G : Gx} {pc q : Nat} {lv st : List Value} {h : Hp} {a : Nat} {x : Nat} {e : Option (ρ × Hp)} (hk : isO h a 8) (d : decode G.2.1 pc = .ok (.putfield 15, 3)) (ho : G.1.cls = RX8) (hini : G.1.name = "<init>") (hq : pc + 3 = q) (k : Sm rv G q lv st (sP h a 1 (some x)) e) : Sm rv G pc lv (.ref x :: .ref a :: st) h e := Sm.putP (r := (RX8, TX8, 3)) hk d mw_197 ho (by decide) rfl (by decide) rfl rfl (Or.inr ⟨hini, rfl⟩) hq k
theorem gf_X8_18 {ρ : Type} {rv : ρ → Option Value} {G : Gx} {pc q : Nat} {lv st : List Value} {h : Hp} {a : Nat} {e : Option (ρ × Hp)} (hk : isO h a 8) (d : decode G.2.1 pc = .ok (.getfield 18, 3)) (ho : G.1.cls = RX8) (hq : pc + 3 = q) (k : Sm rv G q lv (.int (gI h a 2) :: st) h e) : Sm rv G pc lv (.ref a :: st) h e := Sm.getI (r := (RX8, TX8, 3)) hk d mw_198 ho (by decide) rfl (by decide) rfl (Or.inl rfl) hq k
theorem pf_X8_18 {ρ : Type} {rv : ρ → Option Value} {G : Gx} {pc q : Nat} {lv st : List Value} {h : Hp} {a : Nat} {x : Int32} {e : Option (ρ × Hp)} (hk : isO h a 8) (d : decode G.2.1 pc = .ok (.putfield 18, 3)) (ho : G.1.cls = RX8) (hq : pc + 3 = q) (k : Sm rv G q lv st (sI h a 2 x) e) : Sm rv G pc lv (.int x :: .ref a :: st) h e := Sm.putI (r := (RX8, TX8, 3)) hk d mw_198 ho (by decide) rfl (by decide) rfl rfl (Or.inl rfl) hq k
theorem gf_X7_12 {ρ : Type} {rv : ρ → Option Value} {G : Gx} {pc q : Nat} {lv st : List Value} {h : Hp} {a : Nat} {e : Nat → Option (ρ × Hp)} (hk : isO h a 7) (d : decode G.2.1 pc = .ok (.getfield 12, 3)) (ho : G.1.cls = RX7) (hq : pc + 3 = q) (k : ∀ x, Sm rv G q lv (.ref x :: st) h (e x)) : Sm rv G pc lv (.ref a :: st) h ((gP h a 0).bind e) := Sm.getP (r := (RX7, TX7, 6)) hk d mw_217 ho (by decide) rfl (by decide) rfl rfl hq k
theorem pf_X7_12 {ρ : Type} {rv : ρ → Option Value} {G : Gx} {pc q : Nat} {lv st : List Value} {h : Hp} {a : Nat} {x : Nat} {e : Option (ρ × Hp)} (hk : isO h a 7) (d : decode G.2.1 pc = .ok (.putfield 12, 3)) (ho : G.1.cls = RX7) (hini : G.1.name = "<init>") (hq : pc + 3 = q) (k : Sm rv G q lv st (sP h a 0 (some x)) e) : Sm rv G pc lv (.ref x :: .ref a :: st) h e := Sm.putP (r := (RX7, TX7, 6)) hk d mw_217 ho (by decide) rfl (by decide) rfl rfl (Or.inr ⟨hini, rfl⟩) hq k
theorem gf_X7_21 {ρ : Type} {rv : ρ → Option Value} {G : Gx} {pc q : Nat} {lv st : List Value} {h : Hp} {a : Nat} {e : Nat → Option (ρ × Hp)} (hk : isO h a 7) (d : decode G.2.1 pc = .ok (.getfield 21, 3)) (ho : G.1.cls = RX7) (hq : pc + 3 = q) (k : ∀ x, Sm rv G q lv (.ref x :: st) h (e x)) : Sm rv G pc lv (.ref a :: st) h ((gP h a 1).bind e) := Sm.getP (r := (RX7, TX7, 6)) hk d mw_218 ho (by decide) rfl (by decide) rfl rfl hq k
theorem pf_X7_21 {ρ : Type} {rv : ρ → Option Value} {G : Gx} {pc q : Nat} {lv st : List Value} {h : Hp} {a : Nat} {x : Nat} {e : Option (ρ × Hp)} (hk : isO h a 7) (d : decode G.2.1 pc = .ok (.putfield 21, 3)) (ho : G.1.cls = RX7) (hini : G.1.name = "<init>") (hq : pc + 3 = q) (k : Sm rv G q lv st (sP h a 1 (some x)) e) : Sm rv G pc lv (.ref x :: .ref a :: st) h e := Sm.putP (r := (RX7, TX7, 6)) hk d mw_218 ho (by decide) rfl (by decide) rfl rfl (Or.inr ⟨hini, rfl⟩) hq k
theorem gf_X7_28 {ρ : Type} {rv : ρ → Option Value} {G : Gx} {pc q : Nat} {lv st : List Value} {h : Hp} {a : Nat} {e : Nat → Option (ρ × Hp)} (hk : isO h a 7) (d : decode G.2.1 pc = .ok (.getfield 28, 3)) (ho : G.1.cls = RX7) (hq : pc + 3 = q) (k : ∀ x, Sm rv G q lv (.ref x :: st) h (e x)) : Sm rv G pc lv (.ref a :: st) h ((gP h a 2).bind e) := Sm.getP (r := (RX7, TX7, 6)) hk d mw_219 ho (by decide) rfl (by decide) rfl rfl hq k
theorem pf_X7_28 {ρ : Type} {rv : ρ → Option Value} {G : Gx} {pc q : Nat} {lv st : List Value} {h : Hp} {a : Nat} {x : Nat} {e : Option (ρ × Hp)} (hk : isO h a 7) (d : decode G.2.1 pc = .ok (.putfield 28, 3)) (ho : G.1.cls = RX7) (hini : G.1.name = "<init>") (hq : pc + 3 = q) (k : Sm rv G q lv st (sP h a 2 (some x)) e) : Sm rv G pc lv (.ref x :: .ref a :: st) h e := Sm.putP (r := (RX7, TX7, 6)) hk d mw_219 ho (by decide) rfl (by decide) rfl rfl (Or.inr ⟨hini, rfl⟩) hq k
theorem gf_X7_35 {ρ : Type} {rv : ρ → Option Value} {G : Gx} {pc q : Nat} {lv st : List Value} {h : Hp} {a : Nat} {e : Nat → Option (ρ × Hp)} (hk : isO h a 7) (d : decode G.2.1 pc = .ok (.getfield 35, 3)) (ho : G.1.cls = RX7) (hq : pc + 3 = q) (k : ∀ x, Sm rv G q lv (.ref x :: st) h (e x)) : Sm rv G pc lv (.ref a :: st) h ((gP h a 3).bind e) := Sm.getP (r := (RX7, TX7, 6)) hk d mw_220 ho (by decide) rfl (by decide) rfl rfl hq k
theorem pf_X7_35 {ρ : Type} {rv : ρ → Option Value} {G : Gx} {pc q : Nat} {lv st : List Value} {h : Hp} {a : Nat} {x : Nat} {e : Option (ρ × Hp)} (hk : isO h a 7) (d : decode G.2.1 pc = .ok (.putfield 35, 3)) (ho : G.1.cls = RX7) (hini : G.1.name = "<init>") (hq : pc + 3 = q) (k : Sm rv G q lv st (sP h a 3 (some x)) e) : Sm rv G pc lv (.ref x :: .ref a :: st) h e := Sm.putP (r := (RX7, TX7, 6)) hk d mw_220 ho (by decide) rfl (by decide) rfl rfl (Or.inr ⟨hini, rfl⟩) hq k
theorem gf_X7_42 {ρ : Type} {rv : ρ → Option Value} {G : Gx} {pc q : Nat} {lv st : List Value} {h : Hp} {a : Nat} {e : Nat → Option (ρ × Hp)} (hk : isO h a 7) (d : decode G.2.1 pc = .ok (.getfield 42, 3)) (ho : G.1.cls = RX7) (hq : pc + 3 = q) (k : ∀ x, Sm rv G q lv (.ref x :: st) h (e x)) : Sm rv G pc lv (.ref a :: st) h ((gP h a 4).bind e) := Sm.getP (r := (RX7, TX7, 6)) hk d mw_221 ho (by decide) rfl (by decide) rfl rfl hq k
theorem pf_X7_42 {ρ : Type} {rv : ρ → Option Value} {G : Gx} {pc q : Nat} {lv st : List Value} {h : Hp} {a : Nat} {x : Nat} {e : Option (ρ × Hp)} (hk : isO h a 7) (d : decode G.2.1 pc = .ok (.putfield 42, 3)) (ho : G.1.cls = RX7) (hini : G.1.name = "<init>") (hq : pc + 3 = q) (k : Sm rv G q lv st (sP h a 4 (some x)) e) : Sm rv G pc lv (.ref x :: .ref a :: st) h e := Sm.putP (r := (RX7, TX7, 6)) hk d mw_221 ho (by decide) rfl (by decide) rfl rfl (Or.inr ⟨hini, rfl⟩) hq k
theorem gf_X7_46 {ρ : Type} {rv : ρ → Option Value} {G : Gx} {pc q : Nat} {lv st : List Value} {h : Hp} {a : Nat} {e : Option (ρ × Hp)} (hk : isO h a 7) (d : decode G.2.1 pc = .ok (.getfield 46, 3)) (ho : G.1.cls = RX7) (hq : pc + 3 = q) (k : Sm rv G q lv (.int (gI h a 5) :: st) h e) : Sm rv G pc lv (.ref a :: st) h e := Sm.getI (r := (RX7, TX7, 6)) hk d mw_222 ho (by decide) rfl (by decide) rfl (Or.inr rfl) hq k
theorem pf_X7_46 {ρ : Type} {rv : ρ → Option Value} {G : Gx} {pc q : Nat} {lv st : List Value} {h : Hp} {a : Nat} {x : Int32} {e : Option (ρ × Hp)} (hx : x = 0 ∨ x = 1) (hk : isO h a 7) (d : decode G.2.1 pc = .ok (.putfield 46, 3)) (ho : G.1.cls = RX7) (hq : pc + 3 = q) (k : Sm rv G q lv st (sI h a 5 x) e) : Sm rv G pc lv (.int x :: .ref a :: st) h e := Sm.putZ (r := (RX7, TX7, 6)) hx hk d mw_222 ho (by decide) rfl (by decide) rfl rfl (Or.inl rfl) hq k
theorem gf_X9_9 {ρ : Type} {rv : ρ → Option Value} {G : Gx} {pc q : Nat} {lv st : List Value} {h : Hp} {a : Nat} {e : Nat → Option (ρ × Hp)} (hk : isO h a 9) (d : decode G.2.1 pc = .ok (.getfield 9, 3)) (ho : G.1.cls = RX9) (hq : pc + 3 = q) (k : ∀ x, Sm rv G q lv (.ref x :: st) h (e x)) : Sm rv G pc lv (.ref a :: st) h ((gP h a 0).bind e) := Sm.getP (r := (RX9, TX9, 8)) hk d mw_236 ho (by decide) rfl (by decide) rfl rfl hq k
theorem pf_X9_9 {ρ : Type} {rv : ρ → Option Value} {G : Gx} {pc q : Nat} {lv st : List Value} {h : Hp} {a : Nat} {x : Nat} {e : Option (ρ × Hp)} (hk : isO h a 9) (d : decode G.2.1 pc = .ok (.putfield 9, 3)) (ho : G.1.cls = RX9) (hini : G.1.name = "<init>") (hq : pc + 3 = q) (k : Sm rv G q lv st (sP h a 0 (some x)) e) : Sm rv G pc lv (.ref x :: .ref a :: st) h e := Sm.putP (r := (RX9, TX9, 8)) hk d mw_236 ho (by decide) rfl (by decide) rfl rfl (Or.inr ⟨hini, rfl⟩) hq k
theorem gf_X9_13 {ρ : Type} {rv : ρ → Option Value} {G : Gx} {pc q : Nat} {lv st : List Value} {h : Hp} {a : Nat} {e : Option (ρ × Hp)} (hk : isO h a 9) (d : decode G.2.1 pc = .ok (.getfield 13, 3)) (ho : G.1.cls = RX9) (hq : pc + 3 = q) (k : Sm rv G q lv (.int (gI h a 1) :: st) h e) : Sm rv G pc lv (.ref a :: st) h e := Sm.getI (r := (RX9, TX9, 8)) hk d mw_237 ho (by decide) rfl (by decide) rfl (Or.inl rfl) hq k
theorem pf_X9_13 {ρ : Type} {rv : ρ → Option Value} {G : Gx} {pc q : Nat} {lv st : List Value} {h : Hp} {a : Nat} {x : Int32} {e : Option (ρ × Hp)} (hk : isO h a 9) (d : decode G.2.1 pc = .ok (.putfield 13, 3)) (ho : G.1.cls = RX9) (hq : pc + 3 = q) (k : Sm rv G q lv st (sI h a 1 x) e) : Sm rv G pc lv (.int x :: .ref a :: st) h e := Sm.putI (r := (RX9, TX9, 8)) hk d mw_237 ho (by decide) rfl (by decide) rfl rfl (Or.inl rfl) hq k
theorem gf_X9_19 {ρ : Type} {rv : ρ → Option Value} {G : Gx} {pc q : Nat} {lv st : List Value} {h : Hp} {a : Nat} {e : Nat → Option (ρ × Hp)} (hk : isO h a 9) (d : decode G.2.1 pc = .ok (.getfield 19, 3)) (ho : G.1.cls = RX9) (hq : pc + 3 = q) (k : ∀ x, Sm rv G q lv (.ref x :: st) h (e x)) : Sm rv G pc lv (.ref a :: st) h ((gP h a 2).bind e) := Sm.getP (r := (RX9, TX9, 8)) hk d mw_238 ho (by decide) rfl (by decide) rfl rfl hq k
theorem pf_X9_19 {ρ : Type} {rv : ρ → Option Value} {G : Gx} {pc q : Nat} {lv st : List Value} {h : Hp} {a : Nat} {x : Nat} {e : Option (ρ × Hp)} (hk : isO h a 9) (d : decode G.2.1 pc = .ok (.putfield 19, 3)) (ho : G.1.cls = RX9) (hini : G.1.name = "<init>") (hq : pc + 3 = q) (k : Sm rv G q lv st (sP h a 2 (some x)) e) : Sm rv G pc lv (.ref x :: .ref a :: st) h e := Sm.putP (r := (RX9, TX9, 8)) hk d mw_238 ho (by decide) rfl (by decide) rfl rfl (Or.inr ⟨hini, rfl⟩) hq k
theorem gf_X9_26 {ρ : Type} {rv : ρ → Option Value} {G : Gx} {pc q : Nat} {lv st : List Value} {h : Hp} {a : Nat} {e : Nat → Option (ρ × Hp)} (hk : isO h a 9) (d : decode G.2.1 pc = .ok (.getfield 26, 3)) (ho : G.1.cls = RX9) (hq : pc + 3 = q) (k : ∀ x, Sm rv G q lv (.ref x :: st) h (e x)) : Sm rv G pc lv (.ref a :: st) h ((gP h a 3).bind e) := Sm.getP (r := (RX9, TX9, 8)) hk d mw_239 ho (by decide) rfl (by decide) rfl rfl hq k
theorem pf_X9_26 {ρ : Type} {rv : ρ → Option Value} {G : Gx} {pc q : Nat} {lv st : List Value} {h : Hp} {a : Nat} {x : Nat} {e : Option (ρ × Hp)} (hk : isO h a 9) (d : decode G.2.1 pc = .ok (.putfield 26, 3)) (ho : G.1.cls = RX9) (hini : G.1.name = "<init>") (hq : pc + 3 = q) (k : Sm rv G q lv st (sP h a 3 (some x)) e) : Sm rv G pc lv (.ref x :: .ref a :: st) h e := Sm.putP (r := (RX9, TX9, 8)) hk d mw_239 ho (by decide) rfl (by decide) rfl rfl (Or.inr ⟨hini, rfl⟩) hq k
theorem gf_X9_30 {ρ : Type} {rv : ρ → Option Value} {G : Gx} {pc q : Nat} {lv st : List Value} {h : Hp} {a : Nat} {e : Nat → Option (ρ × Hp)} (hk : isO h a 9) (d : decode G.2.1 pc = .ok (.getfield 30, 3)) (ho : G.1.cls = RX9) (hq : pc + 3 = q) (k : ∀ x, Sm rv G q lv (.ref x :: st) h (e x)) : Sm rv G pc lv (.ref a :: st) h ((gP h a 4).bind e) := Sm.getP (r := (RX9, TX9, 8)) hk d mw_240 ho (by decide) rfl (by decide) rfl rfl hq k
theorem pf_X9_30 {ρ : Type} {rv : ρ → Option Value} {G : Gx} {pc q : Nat} {lv st : List Value} {h : Hp} {a : Nat} {x : Nat} {e : Option (ρ × Hp)} (hk : isO h a 9) (d : decode G.2.1 pc = .ok (.putfield 30, 3)) (ho : G.1.cls = RX9) (hini : G.1.name = "<init>") (hq : pc + 3 = q) (k : Sm rv G q lv st (sP h a 4 (some x)) e) : Sm rv G pc lv (.ref x :: .ref a :: st) h e := Sm.putP (r := (RX9, TX9, 8)) hk d mw_240 ho (by decide) rfl (by decide) rfl rfl (Or.inr ⟨hini, rfl⟩) hq k
theorem gf_X9_36 {ρ : Type} {rv : ρ → Option Value} {G : Gx} {pc q : Nat} {lv st : List Value} {h : Hp} {a : Nat} {e : Nat → Option (ρ × Hp)} (hk : isO h a 9) (d : decode G.2.1 pc = .ok (.getfield 36, 3)) (ho : G.1.cls = RX9) (hq : pc + 3 = q) (k : ∀ x, Sm rv G q lv (.ref x :: st) h (e x)) : Sm rv G pc lv (.ref a :: st) h ((gP h a 5).bind e) := Sm.getP (r := (RX9, TX9, 8)) hk d mw_241 ho (by decide) rfl (by decide) rfl rfl hq k
theorem pf_X9_36 {ρ : Type} {rv : ρ → Option Value} {G : Gx} {pc q : Nat} {lv st : List Value} {h : Hp} {a : Nat} {x : Nat} {e : Option (ρ × Hp)} (hk : isO h a 9) (d : decode G.2.1 pc = .ok (.putfield 36, 3)) (ho : G.1.cls = RX9) (hini : G.1.name = "<init>") (hq : pc + 3 = q) (k : Sm rv G q lv st (sP h a 5 (some x)) e) : Sm rv G pc lv (.ref x :: .ref a :: st) h e := Sm.putP (r := (RX9, TX9, 8)) hk d mw_241 ho (by decide) rfl (by decide) rfl rfl (Or.inr ⟨hini, rfl⟩) hq k
theorem gf_X9_43 {ρ : Type} {rv : ρ → Option Value} {G : Gx} {pc q : Nat} {lv st : List Value} {h : Hp} {a : Nat} {e : Nat → Option (ρ × Hp)} (hk : isO h a 9) (d : decode G.2.1 pc = .ok (.getfield 43, 3)) (ho : G.1.cls = RX9) (hq : pc + 3 = q) (k : ∀ x, Sm rv G q lv (.ref x :: st) h (e x)) : Sm rv G pc lv (.ref a :: st) h ((gP h a 6).bind e) := Sm.getP (r := (RX9, TX9, 8)) hk d mw_242 ho (by decide) rfl (by decide) rfl rfl hq k
theorem pf_X9_43 {ρ : Type} {rv : ρ → Option Value} {G : Gx} {pc q : Nat} {lv st : List Value} {h : Hp} {a : Nat} {x : Nat} {e : Option (ρ × Hp)} (hk : isO h a 9) (d : decode G.2.1 pc = .ok (.putfield 43, 3)) (ho : G.1.cls = RX9) (hini : G.1.name = "<init>") (hq : pc + 3 = q) (k : Sm rv G q lv st (sP h a 6 (some x)) e) : Sm rv G pc lv (.ref x :: .ref a :: st) h e := Sm.putP (r := (RX9, TX9, 8)) hk d mw_242 ho (by decide) rfl (by decide) rfl rfl (Or.inr ⟨hini, rfl⟩) hq k
theorem gf_X9_50 {ρ : Type} {rv : ρ → Option Value} {G : Gx} {pc q : Nat} {lv st : List Value} {h : Hp} {a : Nat} {e : Nat → Option (ρ × Hp)} (hk : isO h a 9) (d : decode G.2.1 pc = .ok (.getfield 50, 3)) (ho : G.1.cls = RX9) (hq : pc + 3 = q) (k : ∀ x, Sm rv G q lv (.ref x :: st) h (e x)) : Sm rv G pc lv (.ref a :: st) h ((gP h a 7).bind e) := Sm.getP (r := (RX9, TX9, 8)) hk d mw_243 ho (by decide) rfl (by decide) rfl rfl hq k
theorem pf_X9_50 {ρ : Type} {rv : ρ → Option Value} {G : Gx} {pc q : Nat} {lv st : List Value} {h : Hp} {a : Nat} {x : Nat} {e : Option (ρ × Hp)} (hk : isO h a 9) (d : decode G.2.1 pc = .ok (.putfield 50, 3)) (ho : G.1.cls = RX9) (hini : G.1.name = "<init>") (hq : pc + 3 = q) (k : Sm rv G q lv st (sP h a 7 (some x)) e) : Sm rv G pc lv (.ref x :: .ref a :: st) h e := Sm.putP (r := (RX9, TX9, 8)) hk d mw_243 ho (by decide) rfl (by decide) rfl rfl (Or.inr ⟨hini, rfl⟩) hq k
theorem gf_X10_7 {ρ : Type} {rv : ρ → Option Value} {G : Gx} {pc q : Nat} {lv st : List Value} {h : Hp} {a : Nat} {e : Nat → Option (ρ × Hp)} (hk : isO h a 10) (d : decode G.2.1 pc = .ok (.getfield 7, 3)) (ho : G.1.cls = RX10) (hq : pc + 3 = q) (k : ∀ x, Sm rv G q lv (.ref x :: st) h (e x)) : Sm rv G pc lv (.ref a :: st) h ((gP h a 0).bind e) := Sm.getP (r := (RX10, TX10, 43)) hk d mw_894 ho (by decide) rfl (by decide) rfl rfl hq k
theorem pf_X10_7 {ρ : Type} {rv : ρ → Option Value} {G : Gx} {pc q : Nat} {lv st : List Value} {h : Hp} {a : Nat} {x : Nat} {e : Option (ρ × Hp)} (hk : isO h a 10) (d : decode G.2.1 pc = .ok (.putfield 7, 3)) (ho : G.1.cls = RX10) (hini : G.1.name = "<init>") (hq : pc + 3 = q) (k : Sm rv G q lv st (sP h a 0 (some x)) e) : Sm rv G pc lv (.ref x :: .ref a :: st) h e := Sm.putP (r := (RX10, TX10, 43)) hk d mw_894 ho (by decide) rfl (by decide) rfl rfl (Or.inr ⟨hini, rfl⟩) hq k
theorem gf_X10_13 {ρ : Type} {rv : ρ → Option Value} {G : Gx} {pc q : Nat} {lv st : List Value} {h : Hp} {a : Nat} {e : Nat → Option (ρ × Hp)} (hk : isO h a 10) (d : decode G.2.1 pc = .ok (.getfield 13, 3)) (ho : G.1.cls = RX10) (hq : pc + 3 = q) (k : ∀ x, Sm rv G q lv (.ref x :: st) h (e x)) : Sm rv G pc lv (.ref a :: st) h ((gP h a 1).bind e) := Sm.getP (r := (RX10, TX10, 43)) hk d mw_895 ho (by decide) rfl (by decide) rfl rfl hq k
theorem pf_X10_13 {ρ : Type} {rv : ρ → Option Value} {G : Gx} {pc q : Nat} {lv st : List Value} {h : Hp} {a : Nat} {x : Nat} {e : Option (ρ × Hp)} (hk : isO h a 10) (d : decode G.2.1 pc = .ok (.putfield 13, 3)) (ho : G.1.cls = RX10) (hini : G.1.name = "<init>") (hq : pc + 3 = q) (k : Sm rv G q lv st (sP h a 1 (some x)) e) : Sm rv G pc lv (.ref x :: .ref a :: st) h e := Sm.putP (r := (RX10, TX10, 43)) hk d mw_895 ho (by decide) rfl (by decide) rfl rfl (Or.inr ⟨hini, rfl⟩) hq k
theorem gf_X10_102 {ρ : Type} {rv : ρ → Option Value} {G : Gx} {pc q : Nat} {lv st : List Value} {h : Hp} {a : Nat} {e : Option (ρ × Hp)} (hk : isO h a 10) (d : decode G.2.1 pc = .ok (.getfield 102, 3)) (ho : G.1.cls = RX10) (hq : pc + 3 = q) (k : Sm rv G q lv (.int (gI h a 2) :: st) h e) : Sm rv G pc lv (.ref a :: st) h e := Sm.getI (r := (RX10, TX10, 43)) hk d mw_896 ho (by decide) rfl (by decide) rfl (Or.inl rfl) hq k
theorem pf_X10_102 {ρ : Type} {rv : ρ → Option Value} {G : Gx} {pc q : Nat} {lv st : List Value} {h : Hp} {a : Nat} {x : Int32} {e : Option (ρ × Hp)} (hk : isO h a 10) (d : decode G.2.1 pc = .ok (.putfield 102, 3)) (ho : G.1.cls = RX10) (hq : pc + 3 = q) (k : Sm rv G q lv st (sI h a 2 x) e) : Sm rv G pc lv (.int x :: .ref a :: st) h e := Sm.putI (r := (RX10, TX10, 43)) hk d mw_896 ho (by decide) rfl (by decide) rfl rfl (Or.inl rfl) hq k
theorem gf_X10_16 {ρ : Type} {rv : ρ → Option Value} {G : Gx} {pc q : Nat} {lv st : List Value} {h : Hp} {a : Nat} {e : Nat → Option (ρ × Hp)} (hk : isO h a 10) (d : decode G.2.1 pc = .ok (.getfield 16, 3)) (ho : G.1.cls = RX10) (hq : pc + 3 = q) (k : ∀ x, Sm rv G q lv (.ref x :: st) h (e x)) : Sm rv G pc lv (.ref a :: st) h ((gP h a 3).bind e) := Sm.getP (r := (RX10, TX10, 43)) hk d mw_897 ho (by decide) rfl (by decide) rfl rfl hq k
theorem pf_X10_16 {ρ : Type} {rv : ρ → Option Value} {G : Gx} {pc q : Nat} {lv st : List Value} {h : Hp} {a : Nat} {x : Nat} {e : Option (ρ × Hp)} (hk : isO h a 10) (d : decode G.2.1 pc = .ok (.putfield 16, 3)) (ho : G.1.cls = RX10) (hini : G.1.name = "<init>") (hq : pc + 3 = q) (k : Sm rv G q lv st (sP h a 3 (some x)) e) : Sm rv G pc lv (.ref x :: .ref a :: st) h e := Sm.putP (r := (RX10, TX10, 43)) hk d mw_897 ho (by decide) rfl (by decide) rfl rfl (Or.inr ⟨hini, rfl⟩) hq k
theorem gf_X10_19 {ρ : Type} {rv : ρ → Option Value} {G : Gx} {pc q : Nat} {lv st : List Value} {h : Hp} {a : Nat} {e : Nat → Option (ρ × Hp)} (hk : isO h a 10) (d : decode G.2.1 pc = .ok (.getfield 19, 3)) (ho : G.1.cls = RX10) (hq : pc + 3 = q) (k : ∀ x, Sm rv G q lv (.ref x :: st) h (e x)) : Sm rv G pc lv (.ref a :: st) h ((gP h a 4).bind e) := Sm.getP (r := (RX10, TX10, 43)) hk d mw_898 ho (by decide) rfl (by decide) rfl rfl hq k
theorem pf_X10_19 {ρ : Type} {rv : ρ → Option Value} {G : Gx} {pc q : Nat} {lv st : List Value} {h : Hp} {a : Nat} {x : Nat} {e : Option (ρ × Hp)} (hk : isO h a 10) (d : decode G.2.1 pc = .ok (.putfield 19, 3)) (ho : G.1.cls = RX10) (hini : G.1.name = "<init>") (hq : pc + 3 = q) (k : Sm rv G q lv st (sP h a 4 (some x)) e) : Sm rv G pc lv (.ref x :: .ref a :: st) h e := Sm.putP (r := (RX10, TX10, 43)) hk d mw_898 ho (by decide) rfl (by decide) rfl rfl (Or.inr ⟨hini, rfl⟩) hq k
theorem gf_X10_131 {ρ : Type} {rv : ρ → Option Value} {G : Gx} {pc q : Nat} {lv st : List Value} {h : Hp} {a : Nat} {e : Option (ρ × Hp)} (hk : isO h a 10) (d : decode G.2.1 pc = .ok (.getfield 131, 3)) (ho : G.1.cls = RX10) (hq : pc + 3 = q) (k : Sm rv G q lv (.int (gI h a 5) :: st) h e) : Sm rv G pc lv (.ref a :: st) h e := Sm.getI (r := (RX10, TX10, 43)) hk d mw_899 ho (by decide) rfl (by decide) rfl (Or.inl rfl) hq k
theorem pf_X10_131 {ρ : Type} {rv : ρ → Option Value} {G : Gx} {pc q : Nat} {lv st : List Value} {h : Hp} {a : Nat} {x : Int32} {e : Option (ρ × Hp)} (hk : isO h a 10) (d : decode G.2.1 pc = .ok (.putfield 131, 3)) (ho : G.1.cls = RX10) (hq : pc + 3 = q) (k : Sm rv G q lv st (sI h a 5 x) e) : Sm rv G pc lv (.int x :: .ref a :: st) h e := Sm.putI (r := (RX10, TX10, 43)) hk d mw_899 ho (by decide) rfl (by decide) rfl rfl (Or.inl rfl) hq k
theorem gf_X10_22 {ρ : Type} {rv : ρ → Option Value} {G : Gx} {pc q : Nat} {lv st : List Value} {h : Hp} {a : Nat} {e : Nat → Option (ρ × Hp)} (hk : isO h a 10) (d : decode G.2.1 pc = .ok (.getfield 22, 3)) (ho : G.1.cls = RX10) (hq : pc + 3 = q) (k : ∀ x, Sm rv G q lv (.ref x :: st) h (e x)) : Sm rv G pc lv (.ref a :: st) h ((gP h a 6).bind e) := Sm.getP (r := (RX10, TX10, 43)) hk d mw_900 ho (by decide) rfl (by decide) rfl rfl hq k
theorem pf_X10_22 {ρ : Type} {rv : ρ → Option Value} {G : Gx} {pc q : Nat} {lv st : List Value} {h : Hp} {a : Nat} {x : Nat} {e : Option (ρ × Hp)} (hk : isO h a 10) (d : decode G.2.1 pc = .ok (.putfield 22, 3)) (ho : G.1.cls = RX10) (hini : G.1.name = "<init>") (hq : pc + 3 = q) (k : Sm rv G q lv st (sP h a 6 (some x)) e) : Sm rv G pc lv (.ref x :: .ref a :: st) h e := Sm.putP (r := (RX10, TX10, 43)) hk d mw_900 ho (by decide) rfl (by decide) rfl rfl (Or.inr ⟨hini, rfl⟩) hq k
theorem gf_X10_110 {ρ : Type} {rv : ρ → Option Value} {G : Gx} {pc q : Nat} {lv st : List Value} {h : Hp} {a : Nat} {e : Option (ρ × Hp)} (hk : isO h a 10) (d : decode G.2.1 pc = .ok (.getfield 110, 3)) (ho : G.1.cls = RX10) (hq : pc + 3 = q) (k : Sm rv G q lv (.int (gI h a 7) :: st) h e) : Sm rv G pc lv (.ref a :: st) h e := Sm.getI (r := (RX10, TX10, 43)) hk d mw_901 ho (by decide) rfl (by decide) rfl (Or.inl rfl) hq k
theorem pf_X10_110 {ρ : Type} {rv : ρ → Option Value} {G : Gx} {pc q : Nat} {lv st : List Value} {h : Hp} {a : Nat} {x : Int32} {e : Option (ρ × Hp)} (hk : isO h a 10) (d : decode G.2.1 pc = .ok (.putfield 110, 3)) (ho : G.1.cls = RX10) (hq : pc + 3 = q) (k : Sm rv G q lv st (sI h a 7 x) e) : Sm rv G pc lv (.int x :: .ref a :: st) h e := Sm.putI (r := (RX10, TX10, 43)) hk d mw_901 ho (by decide) rfl (by decide) rfl rfl (Or.inl rfl) hq k
theorem gf_X10_25 {ρ : Type} {rv : ρ → Option Value} {G : Gx} {pc q : Nat} {lv st : List Value} {h : Hp} {a : Nat} {e : Nat → Option (ρ × Hp)} (hk : isO h a 10) (d : decode G.2.1 pc = .ok (.getfield 25, 3)) (ho : G.1.cls = RX10) (hq : pc + 3 = q) (k : ∀ x, Sm rv G q lv (.ref x :: st) h (e x)) : Sm rv G pc lv (.ref a :: st) h ((gP h a 8).bind e) := Sm.getP (r := (RX10, TX10, 43)) hk d mw_902 ho (by decide) rfl (by decide) rfl rfl hq k
theorem pf_X10_25 {ρ : Type} {rv : ρ → Option Value} {G : Gx} {pc q : Nat} {lv st : List Value} {h : Hp} {a : Nat} {x : Nat} {e : Option (ρ × Hp)} (hk : isO h a 10) (d : decode G.2.1 pc = .ok (.putfield 25, 3)) (ho : G.1.cls = RX10) (hini : G.1.name = "<init>") (hq : pc + 3 = q) (k : Sm rv G q lv st (sP h a 8 (some x)) e) : Sm rv G pc lv (.ref x :: .ref a :: st) h e := Sm.putP (r := (RX10, TX10, 43)) hk d mw_902 ho (by decide) rfl (by decide) rfl rfl (Or.inr ⟨hini, rfl⟩) hq k
theorem gf_X10_28 {ρ : Type} {rv : ρ → Option Value} {G : Gx} {pc q : Nat} {lv st : List Value} {h : Hp} {a : Nat} {e : Nat → Option (ρ × Hp)} (hk : isO h a 10) (d : decode G.2.1 pc = .ok (.getfield 28, 3)) (ho : G.1.cls = RX10) (hq : pc + 3 = q) (k : ∀ x, Sm rv G q lv (.ref x :: st) h (e x)) : Sm rv G pc lv (.ref a :: st) h ((gP h a 9).bind e) := Sm.getP (r := (RX10, TX10, 43)) hk d mw_903 ho (by decide) rfl (by decide) rfl rfl hq k
theorem pf_X10_28 {ρ : Type} {rv : ρ → Option Value} {G : Gx} {pc q : Nat} {lv st : List Value} {h : Hp} {a : Nat} {x : Nat} {e : Option (ρ × Hp)} (hk : isO h a 10) (d : decode G.2.1 pc = .ok (.putfield 28, 3)) (ho : G.1.cls = RX10) (hini : G.1.name = "<init>") (hq : pc + 3 = q) (k : Sm rv G q lv st (sP h a 9 (some x)) e) : Sm rv G pc lv (.ref x :: .ref a :: st) h e := Sm.putP (r := (RX10, TX10, 43)) hk d mw_903 ho (by decide) rfl (by decide) rfl rfl (Or.inr ⟨hini, rfl⟩) hq k
theorem gf_X10_113 {ρ : Type} {rv : ρ → Option Value} {G : Gx} {pc q : Nat} {lv st : List Value} {h : Hp} {a : Nat} {e : Option (ρ × Hp)} (hk : isO h a 10) (d : decode G.2.1 pc = .ok (.getfield 113, 3)) (ho : G.1.cls = RX10) (hq : pc + 3 = q) (k : Sm rv G q lv (.int (gI h a 10) :: st) h e) : Sm rv G pc lv (.ref a :: st) h e := Sm.getI (r := (RX10, TX10, 43)) hk d mw_904 ho (by decide) rfl (by decide) rfl (Or.inl rfl) hq k
theorem pf_X10_113 {ρ : Type} {rv : ρ → Option Value} {G : Gx} {pc q : Nat} {lv st : List Value} {h : Hp} {a : Nat} {x : Int32} {e : Option (ρ × Hp)} (hk : isO h a 10) (d : decode G.2.1 pc = .ok (.putfield 113, 3)) (ho : G.1.cls = RX10) (hq : pc + 3 = q) (k : Sm rv G q lv st (sI h a 10 x) e) : Sm rv G pc lv (.int x :: .ref a :: st) h e := Sm.putI (r := (RX10, TX10, 43)) hk d mw_904 ho (by decide) rfl (by decide) rfl rfl (Or.inl rfl) hq k
theorem gf_X10_137 {ρ : Type} {rv : ρ → Option Value} {G : Gx} {pc q : Nat} {lv st : List Value} {h : Hp} {a : Nat} {e : Option (ρ × Hp)} (hk : isO h a 10) (d : decode G.2.1 pc = .ok (.getfield 137, 3)) (ho : G.1.cls = RX10) (hq : pc + 3 = q) (k : Sm rv G q lv (.int (gI h a 11) :: st) h e) : Sm rv G pc lv (.ref a :: st) h e := Sm.getI (r := (RX10, TX10, 43)) hk d mw_905 ho (by decide) rfl (by decide) rfl (Or.inl rfl) hq k
theorem pf_X10_137 {ρ : Type} {rv : ρ → Option Value} {G : Gx} {pc q : Nat} {lv st : List Value} {h : Hp} {a : Nat} {x : Int32} {e : Option (ρ × Hp)} (hk : isO h a 10) (d : decode G.2.1 pc = .ok (.putfield 137, 3)) (ho : G.1.cls = RX10) (hq : pc + 3 = q) (k : Sm rv G q lv st (sI h a 11 x) e) : Sm rv G pc lv (.int x :: .ref a :: st) h e := Sm.putI (r := (RX10, TX10, 43)) hk d mw_905 ho (by decide) rfl (by decide) rfl rfl (Or.inl rfl) hq k
theorem gf_X10_31 {ρ : Type} {rv : ρ → Option Value} {G : Gx} {pc q : Nat} {lv st : List Value} {h : Hp} {a : Nat} {e : Nat → Option (ρ × Hp)} (hk : isO h a 10) (d : decode G.2.1 pc = .ok (.getfield 31, 3)) (ho : G.1.cls = RX10) (hq : pc + 3 = q) (k : ∀ x, Sm rv G q lv (.ref x :: st) h (e x)) : Sm rv G pc lv (.ref a :: st) h ((gP h a 12).bind e) := Sm.getP (r := (RX10, TX10, 43)) hk d mw_906 ho (by decide) rfl (by decide) rfl rfl hq k
theorem pf_X10_31 {ρ : Type} {rv : ρ → Option Value} {G : Gx} {pc q : Nat} {lv st : List Value} {h : Hp} {a : Nat} {x : Nat} {e : Option (ρ × Hp)} (hk : isO h a 10) (d : decode G.2.1 pc = .ok (.putfield 31, 3)) (ho : G.1.cls = RX10) (hini : G.1.name = "<init>") (hq : pc + 3 = q) (k : Sm rv G q lv st (sP h a 12 (some x)) e) : Sm rv G pc lv (.ref x :: .ref a :: st) h e := Sm.putP (r := (RX10, TX10, 43)) hk d mw_906 ho (by decide) rfl (by decide) rfl rfl (Or.inr ⟨hini, rfl⟩) hq k
theorem gf_X10_34 {ρ : Type} {rv : ρ → Option Value} {G : Gx} {pc q : Nat} {lv st : List Value} {h : Hp} {a : Nat} {e : Nat → Option (ρ × Hp)} (hk : isO h a 10) (d : decode G.2.1 pc = .ok (.getfield 34, 3)) (ho : G.1.cls = RX10) (hq : pc + 3 = q) (k : ∀ x, Sm rv G q lv (.ref x :: st) h (e x)) : Sm rv G pc lv (.ref a :: st) h ((gP h a 13).bind e) := Sm.getP (r := (RX10, TX10, 43)) hk d mw_907 ho (by decide) rfl (by decide) rfl rfl hq k
theorem pf_X10_34 {ρ : Type} {rv : ρ → Option Value} {G : Gx} {pc q : Nat} {lv st : List Value} {h : Hp} {a : Nat} {x : Nat} {e : Option (ρ × Hp)} (hk : isO h a 10) (d : decode G.2.1 pc = .ok (.putfield 34, 3)) (ho : G.1.cls = RX10) (hini : G.1.name = "<init>") (hq : pc + 3 = q) (k : Sm rv G q lv st (sP h a 13 (some x)) e) : Sm rv G pc lv (.ref x :: .ref a :: st) h e := Sm.putP (r := (RX10, TX10, 43)) hk d mw_907 ho (by decide) rfl (by decide) rfl rfl (Or.inr ⟨hini, rfl⟩) hq k
theorem gf_X10_134 {ρ : Type} {rv : ρ → Option Value} {G : Gx} {pc q : Nat} {lv st : List Value} {h : Hp} {a : Nat} {e : Option (ρ × Hp)} (hk : isO h a 10) (d : decode G.2.1 pc = .ok (.getfield 134, 3)) (ho : G.1.cls = RX10) (hq : pc + 3 = q) (k : Sm rv G q lv (.int (gI h a 14) :: st) h e) : Sm rv G pc lv (.ref a :: st) h e := Sm.getI (r := (RX10, TX10, 43)) hk d mw_908 ho (by decide) rfl (by decide) rfl (Or.inl rfl) hq k
theorem pf_X10_134 {ρ : Type} {rv : ρ → Option Value} {G : Gx} {pc q : Nat} {lv st : List Value} {h : Hp} {a : Nat} {x : Int32} {e : Option (ρ × Hp)} (hk : isO h a 10) (d : decode G.2.1 pc = .ok (.putfield 134, 3)) (ho : G.1.cls = RX10) (hq : pc + 3 = q) (k : Sm rv G q lv st (sI h a 14 x) e) : Sm rv G pc lv (.int x :: .ref a :: st) h e := Sm.putI (r := (RX10, TX10, 43)) hk d mw_908 ho (by decide) rfl (by decide) rfl rfl (Or.inl rfl) hq k
theorem gf_X10_37 {ρ : Type} {rv : ρ → Option Value} {G : Gx} {pc q : Nat} {lv st : List Value} {h : Hp} {a : Nat} {e : Nat → Option (ρ × Hp)} (hk : isO h a 10) (d : decode G.2.1 pc = .ok (.getfield 37, 3)) (ho : G.1.cls = RX10) (hq : pc + 3 = q) (k : ∀ x, Sm rv G q lv (.ref x :: st) h (e x)) : Sm rv G pc lv (.ref a :: st) h ((gP h a 15).bind e) := Sm.getP (r := (RX10, TX10, 43)) hk d mw_909 ho (by decide) rfl (by decide) rfl rfl hq k
theorem pf_X10_37 {ρ : Type} {rv : ρ → Option Value} {G : Gx} {pc q : Nat} {lv st : List Value} {h : Hp} {a : Nat} {x : Nat} {e : Option (ρ × Hp)} (hk : isO h a 10) (d : decode G.2.1 pc = .ok (.putfield 37, 3)) (ho : G.1.cls = RX10) (hini : G.1.name = "<init>") (hq : pc + 3 = q) (k : Sm rv G q lv st (sP h a 15 (some x)) e) : Sm rv G pc lv (.ref x :: .ref a :: st) h e := Sm.putP (r := (RX10, TX10, 43)) hk d mw_909 ho (by decide) rfl (by decide) rfl rfl (Or.inr ⟨hini, rfl⟩) hq k
theorem gf_X10_163 {ρ : Type} {rv : ρ → Option Value} {G : Gx} {pc q : Nat} {lv st : List Value} {h : Hp} {a : Nat} {e : Option (ρ × Hp)} (hk : isO h a 10) (d : decode G.2.1 pc = .ok (.getfield 163, 3)) (ho : G.1.cls = RX10) (hq : pc + 3 = q) (k : Sm rv G q lv (.int (gI h a 16) :: st) h e) : Sm rv G pc lv (.ref a :: st) h e := Sm.getI (r := (RX10, TX10, 43)) hk d mw_910 ho (by decide) rfl (by decide) rfl (Or.inl rfl) hq k
theorem pf_X10_163 {ρ : Type} {rv : ρ → Option Value} {G : Gx} {pc q : Nat} {lv st : List Value} {h : Hp} {a : Nat} {x : Int32} {e : Option (ρ × Hp)} (hk : isO h a 10) (d : decode G.2.1 pc = .ok (.putfield 163, 3)) (ho : G.1.cls = RX10) (hq : pc + 3 = q) (k : Sm rv G q lv st (sI h a 16 x) e) : Sm rv G pc lv (.int x :: .ref a :: st) h e := Sm.putI (r := (RX10, TX10, 43)) hk d mw_910 ho (by decide) rfl (by decide) rfl rfl (Or.inl rfl) hq k
theorem gf_X10_40 {ρ : Type} {rv : ρ → Option Value} {G : Gx} {pc q : Nat} {lv st : List Value} {h : Hp} {a : Nat} {e : Nat → Option (ρ × Hp)} (hk : isO h a 10) (d : decode G.2.1 pc = .ok (.getfield 40, 3)) (ho : G.1.cls = RX10) (hq : pc + 3 = q) (k : ∀ x, Sm rv G q lv (.ref x :: st) h (e x)) : Sm rv G pc lv (.ref a :: st) h ((gP h a 17).bind e) := Sm.getP (r := (RX10, TX10, 43)) hk d mw_911 ho (by decide) rfl (by decide) rfl rfl hq k
theorem pf_X10_40 {ρ : Type} {rv : ρ → Option Value} {G : Gx} {pc q : Nat} {lv st : List Value} {h : Hp} {a : Nat} {x : Nat} {e : Option (ρ × Hp)} (hk : isO h a 10) (d : decode G.2.1 pc = .ok (.putfield 40, 3)) (ho : G.1.cls = RX10) (hini : G.1.name = "<init>") (hq : pc + 3 = q) (k : Sm rv G q lv st (sP h a 17 (some x)) e) : Sm rv G pc lv (.ref x :: .ref a :: st) h e := Sm.putP (r := (RX10, TX10, 43)) hk d mw_911 ho (by decide) rfl (by decide) rfl rfl (Or.inr ⟨hini, rfl⟩) hq k
theorem gf_X10_43 {ρ : Type} {rv : ρ → Option Value} {G : Gx} {pc q : Nat} {lv st : List Value} {h : Hp} {a : Nat} {e : Nat → Option (ρ × Hp)} (hk : isO h a 10) (d : decode G.2.1 pc = .ok (.getfield 43, 3)) (ho : G.1.cls = RX10) (hq : pc + 3 = q) (k : ∀ x, Sm rv G q lv (.ref x :: st) h (e x)) : Sm rv G pc lv (.ref a :: st) h ((gP h a 18).bind e) := Sm.getP (r := (RX10, TX10, 43)) hk d mw_912 ho (by decide) rfl (by decide) rfl rfl hq k
theorem pf_X10_43 {ρ : Type} {rv : ρ → Option Value} {G : Gx} {pc q : Nat} {lv st : List Value} {h : Hp} {a : Nat} {x : Nat} {e : Option (ρ × Hp)} (hk : isO h a 10) (d : decode G.2.1 pc = .ok (.putfield 43, 3)) (ho : G.1.cls = RX10) (hini : G.1.name = "<init>") (hq : pc + 3 = q) (k : Sm rv G q lv st (sP h a 18 (some x)) e) : Sm rv G pc lv (.ref x :: .ref a :: st) h e := Sm.putP (r := (RX10, TX10, 43)) hk d mw_912 ho (by decide) rfl (by decide) rfl rfl (Or.inr ⟨hini, rfl⟩) hq k
theorem gf_X10_46 {ρ : Type} {rv : ρ → Option Value} {G : Gx} {pc q : Nat} {lv st : List Value} {h : Hp} {a : Nat} {e : Nat → Option (ρ × Hp)} (hk : isO h a 10) (d : decode G.2.1 pc = .ok (.getfield 46, 3)) (ho : G.1.cls = RX10) (hq : pc + 3 = q) (k : ∀ x, Sm rv G q lv (.ref x :: st) h (e x)) : Sm rv G pc lv (.ref a :: st) h ((gP h a 19).bind e) := Sm.getP (r := (RX10, TX10, 43)) hk d mw_913 ho (by decide) rfl (by decide) rfl rfl hq k
theorem pf_X10_46 {ρ : Type} {rv : ρ → Option Value} {G : Gx} {pc q : Nat} {lv st : List Value} {h : Hp} {a : Nat} {x : Nat} {e : Option (ρ × Hp)} (hk : isO h a 10) (d : decode G.2.1 pc = .ok (.putfield 46, 3)) (ho : G.1.cls = RX10) (hini : G.1.name = "<init>") (hq : pc + 3 = q) (k : Sm rv G q lv st (sP h a 19 (some x)) e) : Sm rv G pc lv (.ref x :: .ref a :: st) h e := Sm.putP (r := (RX10, TX10, 43)) hk d mw_913 ho (by decide) rfl (by decide) rfl rfl (Or.inr ⟨hini, rfl⟩) hq k
theorem gf_X10_49 {ρ : Type} {rv : ρ → Option Value} {G : Gx} {pc q : Nat} {lv st : List Value} {h : Hp} {a : Nat} {e : Nat → Option (ρ × Hp)} (hk : isO h a 10) (d : decode G.2.1 pc = .ok (.getfield 49, 3)) (ho : G.1.cls = RX10) (hq : pc + 3 = q) (k : ∀ x, Sm rv G q lv (.ref x :: st) h (e x)) : Sm rv G pc lv (.ref a :: st) h ((gP h a 20).bind e) := Sm.getP (r := (RX10, TX10, 43)) hk d mw_914 ho (by decide) rfl (by decide) rfl rfl hq k
theorem pf_X10_49 {ρ : Type} {rv : ρ → Option Value} {G : Gx} {pc q : Nat} {lv st : List Value} {h : Hp} {a : Nat} {x : Nat} {e : Option (ρ × Hp)} (hk : isO h a 10) (d : decode G.2.1 pc = .ok (.putfield 49, 3)) (ho : G.1.cls = RX10) (hini : G.1.name = "<init>") (hq : pc + 3 = q) (k : Sm rv G q lv st (sP h a 20 (some x)) e) : Sm rv G pc lv (.ref x :: .ref a :: st) h e := Sm.putP (r := (RX10, TX10, 43)) hk d mw_914 ho (by decide) rfl (by decide) rfl rfl (Or.inr ⟨hini, rfl⟩) hq k
theorem gf_X10_188 {ρ : Type} {rv : ρ → Option Value} {G : Gx} {pc q : Nat} {lv st : List Value} {h : Hp} {a : Nat} {e : Option (ρ × Hp)} (hk : isO h a 10) (d : decode G.2.1 pc = .ok (.getfield 188, 3)) (ho : G.1.cls = RX10) (hq : pc + 3 = q) (k : Sm rv G q lv (.int (gI h a 21) :: st) h e) : Sm rv G pc lv (.ref a :: st) h e := Sm.getI (r := (RX10, TX10, 43)) hk d mw_915 ho (by decide) rfl (by decide) rfl (Or.inl rfl) hq k
theorem pf_X10_188 {ρ : Type} {rv : ρ → Option Value} {G : Gx} {pc q : Nat} {lv st : List Value} {h : Hp} {a : Nat} {x : Int32} {e : Option (ρ × Hp)} (hk : isO h a 10) (d : decode G.2.1 pc = .ok (.putfield 188, 3)) (ho : G.1.cls = RX10) (hq : pc + 3 = q) (k : Sm rv G q lv st (sI h a 21 x) e) : Sm rv G pc lv (.int x :: .ref a :: st) h e := Sm.putI (r := (RX10, TX10, 43)) hk d mw_915 ho (by decide) rfl (by decide) rfl rfl (Or.inl rfl) hq k
theorem gf_X10_52 {ρ : Type} {rv : ρ → Option Value} {G : Gx} {pc q : Nat} {lv st : List Value} {h : Hp} {a : Nat} {e : Nat → Option (ρ × Hp)} (hk : isO h a 10) (d : decode G.2.1 pc = .ok (.getfield 52, 3)) (ho : G.1.cls = RX10) (hq : pc + 3 = q) (k : ∀ x, Sm rv G q lv (.ref x :: st) h (e x)) : Sm rv G pc lv (.ref a :: st) h ((gP h a 22).bind e) := Sm.getP (r := (RX10, TX10, 43)) hk d mw_916 ho (by decide) rfl (by decide) rfl rfl hq k
theorem pf_X10_52 {ρ : Type} {rv : ρ → Option Value} {G : Gx} {pc q : Nat} {lv st : List Value} {h : Hp} {a : Nat} {x : Nat} {e : Option (ρ × Hp)} (hk : isO h a 10) (d : decode G.2.1 pc = .ok (.putfield 52, 3)) (ho : G.1.cls = RX10) (hini : G.1.name = "<init>") (hq : pc + 3 = q) (k : Sm rv G q lv st (sP h a 22 (some x)) e) : Sm rv G pc lv (.ref x :: .ref a :: st) h e := Sm.putP (r := (RX10, TX10, 43)) hk d mw_916 ho (by decide) rfl (by decide) rfl rfl (Or.inr ⟨hini, rfl⟩) hq k
theorem gf_X10_194 {ρ : Type} {rv : ρ → Option Value} {G : Gx} {pc q : Nat} {lv st : List Value} {h : Hp} {a : Nat} {e : Option (ρ × Hp)} (hk : isO h a 10) (d : decode G.2.1 pc = .ok (.getfield 194, 3)) (ho : G.1.cls = RX10) (hq : pc + 3 = q) (k : Sm rv G q lv (.int (gI h a 23) :: st) h e) : Sm rv G pc lv (.ref a :: st) h e := Sm.getI (r := (RX10, TX10, 43)) hk d mw_917 ho (by decide) rfl (by decide) rfl (Or.inl rfl) hq k
theorem pf_X10_194 {ρ : Type} {rv : ρ → Option Value} {G : Gx} {pc q : Nat} {lv st : List Value} {h : Hp} {a : Nat} {x : Int32} {e : Option (ρ × Hp)} (hk : isO h a 10) (d : decode G.2.1 pc = .ok (.putfield 194, 3)) (ho : G.1.cls = RX10) (hq : pc + 3 = q) (k : Sm rv G q lv st (sI h a 23 x) e) : Sm rv G pc lv (.int x :: .ref a :: st) h e := Sm.putI (r := (RX10, TX10, 43)) hk d mw_917 ho (by decide) rfl (by decide) rfl rfl (Or.inl rfl) hq k
theorem gf_X10_55 {ρ : Type} {rv : ρ → Option Value} {G : Gx} {pc q : Nat} {lv st : List Value} {h : Hp} {a : Nat} {e : Nat → Option (ρ × Hp)} (hk : isO h a 10) (d : decode G.2.1 pc = .ok (.getfield 55, 3)) (ho : G.1.cls = RX10) (hq : pc + 3 = q) (k : ∀ x, Sm rv G q lv (.ref x :: st) h (e x)) : Sm rv G pc lv (.ref a :: st) h ((gP h a 24).bind e) := Sm.getP (r := (RX10, TX10, 43)) hk d mw_918 ho (by decide) rfl (by decide) rfl rfl hq k
theorem pf_X10_55 {ρ : Type} {rv : ρ → Option Value} {G : Gx} {pc q : Nat} {lv st : List Value} {h : Hp} {a : Nat} {x : Nat} {e : Option (ρ × Hp)} (hk : isO h a 10) (d : decode G.2.1 pc = .ok (.putfield 55, 3)) (ho : G.1.cls = RX10) (hini : G.1.name = "<init>") (hq : pc + 3 = q) (k : Sm rv G q lv st (sP h a 24 (some x)) e) : Sm rv G pc lv (.ref x :: .ref a :: st) h e := Sm.putP (r := (RX10, TX10, 43)) hk d mw_918 ho (by decide) rfl (by decide) rfl rfl (Or.inr ⟨hini, rfl⟩) hq k
theorem gf_X10_213 {ρ : Type} {rv : ρ → Option Value} {G : Gx} {pc q : Nat} {lv st : List Value} {h : Hp} {a : Nat} {e : Option (ρ × Hp)} (hk : isO h a 10) (d : decode G.2.1 pc = .ok (.getfield 213, 3)) (ho : G.1.cls = RX10) (hq : pc + 3 = q) (k : Sm rv G q lv (.int (gI h a 25) :: st) h e) : Sm rv G pc lv (.ref a :: st) h e := Sm.getI (r := (RX10, TX10, 43)) hk d mw_919 ho (by decide) rfl (by decide) rfl (Or.inl rfl) hq k
theorem pf_X10_213 {ρ : Type} {rv : ρ → Option Value} {G : Gx} {pc q : Nat} {lv st : List Value} {h : Hp} {a : Nat} {x : Int32} {e : Option (ρ × Hp)} (hk : isO h a 10) (d : decode G.2.1 pc = .ok (.putfield 213, 3)) (ho : G.1.cls = RX10) (hq : pc + 3 = q) (k : Sm rv G q lv st (sI h a 25 x) e) : Sm rv G pc lv (.int x :: .ref a :: st) h e := Sm.putI (r := (RX10, TX10, 43)) hk d mw_919 ho (by decide) rfl (by decide) rfl rfl (Or.inl rfl) hq k
theorem gf_X10_59 {ρ : Type} {rv : ρ → Option Value} {G : Gx} {pc q : Nat} {lv st : List Value} {h : Hp} {a : Nat} {e : Nat → Option (ρ × Hp)} (hk : isO h a 10) (d : decode G.2.1 pc = .ok (.getfield 59, 3)) (ho : G.1.cls = RX10) (hq : pc + 3 = q) (k : ∀ x, Sm rv G q lv (.ref x :: st) h (e x)) : Sm rv G pc lv (.ref a :: st) h ((gP h a 26).bind e) := Sm.getP (r := (RX10, TX10, 43)) hk d mw_920 ho (by decide) rfl (by decide) rfl rfl hq k
theorem pf_X10_59 {ρ : Type} {rv : ρ → Option Value} {G : Gx} {pc q : Nat} {lv st : List Value} {h : Hp} {a : Nat} {x : Nat} {e : Option (ρ × Hp)} (hk : isO h a 10) (d : decode G.2.1 pc = .ok (.putfield 59, 3)) (ho : G.1.cls = RX10) (hini : G.1.name = "<init>") (hq : pc + 3 = q) (k : Sm rv G q lv st (sP h a 26 (some x)) e) : Sm rv G pc lv (.ref x :: .ref a :: st) h e := Sm.putP (r := (RX10, TX10, 43)) hk d mw_920 ho (by decide) rfl (by decide) rfl rfl (Or.inr ⟨hini, rfl⟩) hq k
theorem gf_X10_62 {ρ : Type} {rv : ρ → Option Value} {G : Gx} {pc q : Nat} {lv st : List Value} {h : Hp} {a : Nat} {e : Nat → Option (ρ × Hp)} (hk : isO h a 10) (d : decode G.2.1 pc = .ok (.getfield 62, 3)) (ho : G.1.cls = RX10) (hq : pc + 3 = q) (k : ∀ x, Sm rv G q lv (.ref x :: st) h (e x)) : Sm rv G pc lv (.ref a :: st) h ((gP h a 27).bind e) := Sm.getP (r := (RX10, TX10, 43)) hk d mw_921 ho (by decide) rfl (by decide) rfl rfl hq k
theorem pf_X10_62 {ρ : Type} {rv : ρ → Option Value} {G : Gx} {pc q : Nat} {lv st : List Value} {h : Hp} {a : Nat} {x : Nat} {e : Option (ρ × Hp)} (hk : isO h a 10) (d : decode G.2.1 pc = .ok (.putfield 62, 3)) (ho : G.1.cls = RX10) (hini : G.1.name = "<init>") (hq : pc + 3 = q) (k : Sm rv G q lv st (sP h a 27 (some x)) e) : Sm rv G pc lv (.ref x :: .ref a :: st) h e := Sm.putP (r := (RX10, TX10, 43)) hk d mw_921 ho (by decide) rfl (by decide) rfl rfl (Or.inr ⟨hini, rfl⟩) hq k
theorem gf_X10_65 {ρ : Type} {rv : ρ → Option Value} {G : Gx} {pc q : Nat} {lv st : List Value} {h : Hp} {a : Nat} {e : Nat → Option (ρ × Hp)} (hk : isO h a 10) (d : decode G.2.1 pc = .ok (.getfield 65, 3)) (ho : G.1.cls = RX10) (hq : pc + 3 = q) (k : ∀ x, Sm rv G q lv (.ref x :: st) h (e x)) : Sm rv G pc lv (.ref a :: st) h ((gP h a 28).bind e) := Sm.getP (r := (RX10, TX10, 43)) hk d mw_922 ho (by decide) rfl (by decide) rfl rfl hq k
theorem pf_X10_65 {ρ : Type} {rv : ρ → Option Value} {G : Gx} {pc q : Nat} {lv st : List Value} {h : Hp} {a : Nat} {x : Nat} {e : Option (ρ × Hp)} (hk : isO h a 10) (d : decode G.2.1 pc = .ok (.putfield 65, 3)) (ho : G.1.cls = RX10) (hini : G.1.name = "<init>") (hq : pc + 3 = q) (k : Sm rv G q lv st (sP h a 28 (some x)) e) : Sm rv G pc lv (.ref x :: .ref a :: st) h e := Sm.putP (r := (RX10, TX10, 43)) hk d mw_922 ho (by decide) rfl (by decide) rfl rfl (Or.inr ⟨hini, rfl⟩) hq k
theorem gf_X10_68 {ρ : Type} {rv : ρ → Option Value} {G : Gx} {pc q : Nat} {lv st : List Value} {h : Hp} {a : Nat} {e : Nat → Option (ρ × Hp)} (hk : isO h a 10) (d : decode G.2.1 pc = .ok (.getfield 68, 3)) (ho : G.1.cls = RX10) (hq : pc + 3 = q) (k : ∀ x, Sm rv G q lv (.ref x :: st) h (e x)) : Sm rv G pc lv (.ref a :: st) h ((gP h a 29).bind e) := Sm.getP (r := (RX10, TX10, 43)) hk d mw_923 ho (by decide) rfl (by decide) rfl rfl hq k
theorem pf_X10_68 {ρ : Type} {rv : ρ → Option Value} {G : Gx} {pc q : Nat} {lv st : List Value} {h : Hp} {a : Nat} {x : Nat} {e : Option (ρ × Hp)} (hk : isO h a 10) (d : decode G.2.1 pc = .ok (.putfield 68, 3)) (ho : G.1.cls = RX10) (hini : G.1.name = "<init>") (hq : pc + 3 = q) (k : Sm rv G q lv st (sP h a 29 (some x)) e) : Sm rv G pc lv (.ref x :: .ref a :: st) h e := Sm.putP (r := (RX10, TX10, 43)) hk d mw_923 ho (by decide) rfl (by decide) rfl rfl (Or.inr ⟨hini, rfl⟩) hq k
theorem gf_X10_71 {ρ : Type} {rv : ρ → Option Value} {G : Gx} {pc q : Nat} {lv st : List Value} {h : Hp} {a : Nat} {e : Nat → Option (ρ × Hp)} (hk : isO h a 10) (d : decode G.2.1 pc = .ok (.getfield 71, 3)) (ho : G.1.cls = RX10) (hq : pc + 3 = q) (k : ∀ x, Sm rv G q lv (.ref x :: st) h (e x)) : Sm rv G pc lv (.ref a :: st) h ((gP h a 30).bind e) := Sm.getP (r := (RX10, TX10, 43)) hk d mw_924 ho (by decide) rfl (by decide) rfl rfl hq k
theorem pf_X10_71 {ρ : Type} {rv : ρ → Option Value} {G : Gx} {pc q : Nat} {lv st : List Value} {h : Hp} {a : Nat} {x : Nat} {e : Option (ρ × Hp)} (hk : isO h a 10) (d : decode G.2.1 pc = .ok (.putfield 71, 3)) (ho : G.1.cls = RX10) (hini : G.1.name = "<init>") (hq : pc + 3 = q) (k : Sm rv G q lv st (sP h a 30 (some x)) e) : Sm rv G pc lv (.ref x :: .ref a :: st) h e := Sm.putP (r := (RX10, TX10, 43)) hk d mw_924 ho (by decide) rfl (by decide) rfl rfl (Or.inr ⟨hini, rfl⟩) hq k
theorem gf_X10_270 {ρ : Type} {rv : ρ → Option Value} {G : Gx} {pc q : Nat} {lv st : List Value} {h : Hp} {a : Nat} {e : Option (ρ × Hp)} (hk : isO h a 10) (d : decode G.2.1 pc = .ok (.getfield 270, 3)) (ho : G.1.cls = RX10) (hq : pc + 3 = q) (k : Sm rv G q lv (.int (gI h a 31) :: st) h e) : Sm rv G pc lv (.ref a :: st) h e := Sm.getI (r := (RX10, TX10, 43)) hk d mw_925 ho (by decide) rfl (by decide) rfl (Or.inl rfl) hq k
theorem pf_X10_270 {ρ : Type} {rv : ρ → Option Value} {G : Gx} {pc q : Nat} {lv st : List Value} {h : Hp} {a : Nat} {x : Int32} {e : Option (ρ × Hp)} (hk : isO h a 10) (d : decode G.2.1 pc = .ok (.putfield 270, 3)) (ho : G.1.cls = RX10) (hq : pc + 3 = q) (k : Sm rv G q lv st (sI h a 31 x) e) : Sm rv G pc lv (.int x :: .ref a :: st) h e := Sm.putI (r := (RX10, TX10, 43)) hk d mw_925 ho (by decide) rfl (by decide) rfl rfl (Or.inl rfl) hq k
theorem gf_X10_74 {ρ : Type} {rv : ρ → Option Value} {G : Gx} {pc q : Nat} {lv st : List Value} {h : Hp} {a : Nat} {e : Nat → Option (ρ × Hp)} (hk : isO h a 10) (d : decode G.2.1 pc = .ok (.getfield 74, 3)) (ho : G.1.cls = RX10) (hq : pc + 3 = q) (k : ∀ x, Sm rv G q lv (.ref x :: st) h (e x)) : Sm rv G pc lv (.ref a :: st) h ((gP h a 32).bind e) := Sm.getP (r := (RX10, TX10, 43)) hk d mw_926 ho (by decide) rfl (by decide) rfl rfl hq k
theorem pf_X10_74 {ρ : Type} {rv : ρ → Option Value} {G : Gx} {pc q : Nat} {lv st : List Value} {h : Hp} {a : Nat} {x : Nat} {e : Option (ρ × Hp)} (hk : isO h a 10) (d : decode G.2.1 pc = .ok (.putfield 74, 3)) (ho : G.1.cls = RX10) (hini : G.1.name = "<init>") (hq : pc + 3 = q) (k : Sm rv G q lv st (sP h a 32 (some x)) e) : Sm rv G pc lv (.ref x :: .ref a :: st) h e := Sm.putP (r := (RX10, TX10, 43)) hk d mw_926 ho (by decide) rfl (by decide) rfl rfl (Or.inr ⟨hini, rfl⟩) hq k
theorem gf_X10_77 {ρ : Type} {rv : ρ → Option Value} {G : Gx} {pc q : Nat} {lv st : List Value} {h : Hp} {a : Nat} {e : Nat → Option (ρ × Hp)} (hk : isO h a 10) (d : decode G.2.1 pc = .ok (.getfield 77, 3)) (ho : G.1.cls = RX10) (hq : pc + 3 = q) (k : ∀ x, Sm rv G q lv (.ref x :: st) h (e x)) : Sm rv G pc lv (.ref a :: st) h ((gP h a 33).bind e) := Sm.getP (r := (RX10, TX10, 43)) hk d mw_927 ho (by decide) rfl (by decide) rfl rfl hq k
theorem pf_X10_77 {ρ : Type} {rv : ρ → Option Value} {G : Gx} {pc q : Nat} {lv st : List Value} {h : Hp} {a : Nat} {x : Nat} {e : Option (ρ × Hp)} (hk : isO h a 10) (d : decode G.2.1 pc = .ok (.putfield 77, 3)) (ho : G.1.cls = RX10) (hini : G.1.name = "<init>") (hq : pc + 3 = q) (k : Sm rv G q lv st (sP h a 33 (some x)) e) : Sm rv G pc lv (.ref x :: .ref a :: st) h e := Sm.putP (r := (RX10, TX10, 43)) hk d mw_927 ho (by decide) rfl (by decide) rfl rfl (Or.inr ⟨hini, rfl⟩) hq k
theorem gf_X10_273 {ρ : Type} {rv : ρ → Option Value} {G : Gx} {pc q : Nat} {lv st : List Value} {h : Hp} {a : Nat} {e : Option (ρ × Hp)} (hk : isO h a 10) (d : decode G.2.1 pc = .ok (.getfield 273, 3)) (ho : G.1.cls = RX10) (hq : pc + 3 = q) (k : Sm rv G q lv (.int (gI h a 34) :: st) h e) : Sm rv G pc lv (.ref a :: st) h e := Sm.getI (r := (RX10, TX10, 43)) hk d mw_928 ho (by decide) rfl (by decide) rfl (Or.inl rfl) hq k
theorem pf_X10_273 {ρ : Type} {rv : ρ → Option Value} {G : Gx} {pc q : Nat} {lv st : List Value} {h : Hp} {a : Nat} {x : Int32} {e : Option (ρ × Hp)} (hk : isO h a 10) (d : decode G.2.1 pc = .ok (.putfield 273, 3)) (ho : G.1.cls = RX10) (hq : pc + 3 = q) (k : Sm rv G q lv st (sI h a 34 x) e) : Sm rv G pc lv (.int x :: .ref a :: st) h e := Sm.putI (r := (RX10, TX10, 43)) hk d mw_928 ho (by decide) rfl (by decide) rfl rfl (Or.inl rfl) hq k
theorem gf_X10_80 {ρ : Type} {rv : ρ → Option Value} {G : Gx} {pc q : Nat} {lv st : List Value} {h : Hp} {a : Nat} {e : Nat → Option (ρ × Hp)} (hk : isO h a 10) (d : decode G.2.1 pc = .ok (.getfield 80, 3)) (ho : G.1.cls = RX10) (hq : pc + 3 = q) (k : ∀ x, Sm rv G q lv (.ref x :: st) h (e x)) : Sm rv G pc lv (.ref a :: st) h ((gP h a 35).bind e) := Sm.getP (r := (RX10, TX10, 43)) hk d mw_929 ho (by decide) rfl (by decide) rfl rfl hq k
theorem pf_X10_80 {ρ : Type} {rv : ρ → Option Value} {G : Gx} {pc q : Nat} {lv st : List Value} {h : Hp} {a : Nat} {x : Nat} {e : Option (ρ × Hp)} (hk : isO h a 10) (d : decode G.2.1 pc = .ok (.putfield 80, 3)) (ho : G.1.cls = RX10) (hini : G.1.name = "<init>") (hq : pc + 3 = q) (k : Sm rv G q lv st (sP h a 35 (some x)) e) : Sm rv G pc lv (.ref x :: .ref a :: st) h e := Sm.putP (r := (RX10, TX10, 43)) hk d mw_929 ho (by decide) rfl (by decide) rfl rfl (Or.inr ⟨hini, rfl⟩) hq k
theorem gf_X10_83 {ρ : Type} {rv : ρ → Option Value} {G : Gx} {pc q : Nat} {lv st : List Value} {h : Hp} {a : Nat} {e : Nat → Option (ρ × Hp)} (hk : isO h a 10) (d : decode G.2.1 pc = .ok (.getfield 83, 3)) (ho : G.1.cls = RX10) (hq : pc + 3 = q) (k : ∀ x, Sm rv G q lv (.ref x :: st) h (e x)) : Sm rv G pc lv (.ref a :: st) h ((gP h a 36).bind e) := Sm.getP (r := (RX10, TX10, 43)) hk d mw_930 ho (by decide) rfl (by decide) rfl rfl hq k
theorem pf_X10_83 {ρ : Type} {rv : ρ → Option Value} {G : Gx} {pc q : Nat} {lv st : List Value} {h : Hp} {a : Nat} {x : Nat} {e : Option (ρ × Hp)} (hk : isO h a 10) (d : decode G.2.1 pc = .ok (.putfield 83, 3)) (ho : G.1.cls = RX10) (hini : G.1.name = "<init>") (hq : pc + 3 = q) (k : Sm rv G q lv st (sP h a 36 (some x)) e) : Sm rv G pc lv (.ref x :: .ref a :: st) h e := Sm.putP (r := (RX10, TX10, 43)) hk d mw_930 ho (by decide) rfl (by decide) rfl rfl (Or.inr ⟨hini, rfl⟩) hq k
theorem gf_X10_86 {ρ : Type} {rv : ρ → Option Value} {G : Gx} {pc q : Nat} {lv st : List Value} {h : Hp} {a : Nat} {e : Nat → Option (ρ × Hp)} (hk : isO h a 10) (d : decode G.2.1 pc = .ok (.getfield 86, 3)) (ho : G.1.cls = RX10) (hq : pc + 3 = q) (k : ∀ x, Sm rv G q lv (.ref x :: st) h (e x)) : Sm rv G pc lv (.ref a :: st) h ((gP h a 37).bind e) := Sm.getP (r := (RX10, TX10, 43)) hk d mw_931 ho (by decide) rfl (by decide) rfl rfl hq k
theorem pf_X10_86 {ρ : Type} {rv : ρ → Option Value} {G : Gx} {pc q : Nat} {lv st : List Value} {h : Hp} {a : Nat} {x : Nat} {e : Option (ρ × Hp)} (hk : isO h a 10) (d : decode G.2.1 pc = .ok (.putfield 86, 3)) (ho : G.1.cls = RX10) (hini : G.1.name = "<init>") (hq : pc + 3 = q) (k : Sm rv G q lv st (sP h a 37 (some x)) e) : Sm rv G pc lv (.ref x :: .ref a :: st) h e := Sm.putP (r := (RX10, TX10, 43)) hk d mw_931 ho (by decide) rfl (by decide) rfl rfl (Or.inr ⟨hini, rfl⟩) hq k
theorem gf_X10_89 {ρ : Type} {rv : ρ → Option Value} {G : Gx} {pc q : Nat} {lv st : List Value} {h : Hp} {a : Nat} {e : Nat → Option (ρ × Hp)} (hk : isO h a 10) (d : decode G.2.1 pc = .ok (.getfield 89, 3)) (ho : G.1.cls = RX10) (hq : pc + 3 = q) (k : ∀ x, Sm rv G q lv (.ref x :: st) h (e x)) : Sm rv G pc lv (.ref a :: st) h ((gP h a 38).bind e) := Sm.getP (r := (RX10, TX10, 43)) hk d mw_932 ho (by decide) rfl (by decide) rfl rfl hq k
theorem pf_X10_89 {ρ : Type} {rv : ρ → Option Value} {G : Gx} {pc q : Nat} {lv st : List Value} {h : Hp} {a : Nat} {x : Nat} {e : Option (ρ × Hp)} (hk : isO h a 10) (d : decode G.2.1 pc = .ok (.putfield 89, 3)) (ho : G.1.cls = RX10) (hini : G.1.name = "<init>") (hq : pc + 3 = q) (k : Sm rv G q lv st (sP h a 38 (some x)) e) : Sm rv G pc lv (.ref x :: .ref a :: st) h e := Sm.putP (r := (RX10, TX10, 43)) hk d mw_932 ho (by decide) rfl (by decide) rfl rfl (Or.inr ⟨hini, rfl⟩) hq k
theorem gf_X10_303 {ρ : Type} {rv : ρ → Option Value} {G : Gx} {pc q : Nat} {lv st : List Value} {h : Hp} {a : Nat} {e : Option (ρ × Hp)} (hk : isO h a 10) (d : decode G.2.1 pc = .ok (.getfield 303, 3)) (ho : G.1.cls = RX10) (hq : pc + 3 = q) (k : Sm rv G q lv (.int (gI h a 39) :: st) h e) : Sm rv G pc lv (.ref a :: st) h e := Sm.getI (r := (RX10, TX10, 43)) hk d mw_933 ho (by decide) rfl (by decide) rfl (Or.inl rfl) hq k
theorem pf_X10_303 {ρ : Type} {rv : ρ → Option Value} {G : Gx} {pc q : Nat} {lv st : List Value} {h : Hp} {a : Nat} {x : Int32} {e : Option (ρ × Hp)} (hk : isO h a 10) (d : decode G.2.1 pc = .ok (.putfield 303, 3)) (ho : G.1.cls = RX10) (hq : pc + 3 = q) (k : Sm rv G q lv st (sI h a 39 x) e) : Sm rv G pc lv (.int x :: .ref a :: st) h e := Sm.putI (r := (RX10, TX10, 43)) hk d mw_933 ho (by decide) rfl (by decide) rfl rfl (Or.inl rfl) hq k
theorem gf_X10_92 {ρ : Type} {rv : ρ → Option Value} {G : Gx} {pc q : Nat} {lv st : List Value} {h : Hp} {a : Nat} {e : Nat → Option (ρ × Hp)} (hk : isO h a 10) (d : decode G.2.1 pc = .ok (.getfield 92, 3)) (ho : G.1.cls = RX10) (hq : pc + 3 = q) (k : ∀ x, Sm rv G q lv (.ref x :: st) h (e x)) : Sm rv G pc lv (.ref a :: st) h ((gP h a 40).bind e) := Sm.getP (r := (RX10, TX10, 43)) hk d mw_934 ho (by decide) rfl (by decide) rfl rfl hq k
theorem pf_X10_92 {ρ : Type} {rv : ρ → Option Value} {G : Gx} {pc q : Nat} {lv st : List Value} {h : Hp} {a : Nat} {x : Nat} {e : Option (ρ × Hp)} (hk : isO h a 10) (d : decode G.2.1 pc = .ok (.putfield 92, 3)) (ho : G.1.cls = RX10) (hini : G.1.name = "<init>") (hq : pc + 3 = q) (k : Sm rv G q lv st (sP h a 40 (some x)) e) : Sm rv G pc lv (.ref x :: .ref a :: st) h e := Sm.putP (r := (RX10, TX10, 43)) hk d mw_934 ho (by decide) rfl (by decide) rfl rfl (Or.inr ⟨hini, rfl⟩) hq k
theorem gf_X10_95 {ρ : Type} {rv : ρ → Option Value} {G : Gx} {pc q : Nat} {lv st : List Value} {h : Hp} {a : Nat} {e : Nat → Option (ρ × Hp)} (hk : isO h a 10) (d : decode G.2.1 pc = .ok (.getfield 95, 3)) (ho : G.1.cls = RX10) (hq : pc + 3 = q) (k : ∀ x, Sm rv G q lv (.ref x :: st) h (e x)) : Sm rv G pc lv (.ref a :: st) h ((gP h a 41).bind e) := Sm.getP (r := (RX10, TX10, 43)) hk d mw_935 ho (by decide) rfl (by decide) rfl rfl hq k
theorem pf_X10_95 {ρ : Type} {rv : ρ → Option Value} {G : Gx} {pc q : Nat} {lv st : List Value} {h : Hp} {a : Nat} {x : Nat} {e : Option (ρ × Hp)} (hk : isO h a 10) (d : decode G.2.1 pc = .ok (.putfield 95, 3)) (ho : G.1.cls = RX10) (hini : G.1.name = "<init>") (hq : pc + 3 = q) (k : Sm rv G q lv st (sP h a 41 (some x)) e) : Sm rv G pc lv (.ref x :: .ref a :: st) h e := Sm.putP (r := (RX10, TX10, 43)) hk d mw_935 ho (by decide) rfl (by decide) rfl rfl (Or.inr ⟨hini, rfl⟩) hq k
theorem gf_X10_333 {ρ : Type} {rv : ρ → Option Value} {G : Gx} {pc q : Nat} {lv st : List Value} {h : Hp} {a : Nat} {e : Option (ρ × Hp)} (hk : isO h a 10) (d : decode G.2.1 pc = .ok (.getfield 333, 3)) (ho : G.1.cls = RX10) (hq : pc + 3 = q) (k : Sm rv G q lv (.long (gL h a 42) :: st) h e) : Sm rv G pc lv (.ref a :: st) h e := Sm.getL (r := (RX10, TX10, 43)) hk d mw_936 ho (by decide) rfl (by decide) rfl rfl hq k
theorem pf_X10_333 {ρ : Type} {rv : ρ → Option Value} {G : Gx} {pc q : Nat} {lv st : List Value} {h : Hp} {a : Nat} {x : Int64} {e : Option (ρ × Hp)} (hk : isO h a 10) (d : decode G.2.1 pc = .ok (.putfield 333, 3)) (ho : G.1.cls = RX10) (hq : pc + 3 = q) (k : Sm rv G q lv st (sL h a 42 x) e) : Sm rv G pc lv (.long x :: .ref a :: st) h e := Sm.putL (r := (RX10, TX10, 43)) hk d mw_936 ho (by decide) rfl (by decide) rfl rfl (Or.inl rfl) hq k
end
