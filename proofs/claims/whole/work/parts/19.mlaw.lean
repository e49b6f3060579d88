abbrev g_L_law : Gx := (yL_law, cL_law, 4, ret, 13)
def f_L_law_18 (k18 : (Int32 × Hp) → Option (Int32 × Hp)) (l1 : Nat) (l2 : Nat) (l3 : Int32) (h : Hp) : Option (Int32 × Hp) :=
  (if ((Int32.ofNat (gS h 0).2) - (5 : Int32)) < l3 then
(some ((1 : Int32), h))
else
(if ¬ (l3 < 0 ∨ (gS h 0).2 ≤ l3.toNatClampNeg) then
(nm ((gI h 0 l3.toNatClampNeg) &&& (31 : Int32)) fun v11 =>
(if v11 = (0 : Int32) then
(if ¬ ((l3 + (1 : Int32)) < 0 ∨ (gS h 0).2 ≤ (l3 + (1 : Int32)).toNatClampNeg) then
(ck h l1 9
(bd (f_X9_append l1 (gI h 0 (l3 + (1 : Int32)).toNatClampNeg) h) fun v15 h16 =>
(if ¬ ((l3 + (1 : Int32)) < 0 ∨ (gS h16 0).2 ≤ (l3 + (1 : Int32)).toNatClampNeg) then
(ck h16 l2 10
(bd (f_X10_append l2 (gI h16 0 (l3 + (1 : Int32)).toNatClampNeg) h16) fun v19 h20 =>
(if v15 = v19 then
(nm (l3 + (5 : Int32)) fun v22 =>
(k18 (v22, h20)))
else
(some ((0 : Int32), h20)))))
else none)))
else none)
else
(if v11 = (1 : Int32) then
(ck h l1 9
(bd (f_X9_clearText l1 h) fun v25 h26 =>
(ck h26 l2 10
(bd (f_X10_clearText l2 h26) fun v28 h29 =>
(if v25 = v28 then
(nm (l3 + (5 : Int32)) fun v31 =>
(k18 (v31, h29)))
else
(some ((0 : Int32), h29)))))))
else
(if v11 = (2 : Int32) then
(if ¬ ((l3 + (1 : Int32)) < 0 ∨ (gS h 0).2 ≤ (l3 + (1 : Int32)).toNatClampNeg) then
(ck h l1 9
(bd (f_X9_parse l1 (gI h 0 (l3 + (1 : Int32)).toNatClampNeg) h) fun v35 h36 =>
(if ¬ ((l3 + (1 : Int32)) < 0 ∨ (gS h36 0).2 ≤ (l3 + (1 : Int32)).toNatClampNeg) then
(ck h36 l2 10
(bd (f_X10_parse l2 (gI h36 0 (l3 + (1 : Int32)).toNatClampNeg) h36) fun v39 h40 =>
(if v35 = v39 then
(nm (l3 + (5 : Int32)) fun v42 =>
(k18 (v42, h40)))
else
(some ((0 : Int32), h40)))))
else none)))
else none)
else
(if v11 = (3 : Int32) then
(if ¬ ((l3 + (1 : Int32)) < 0 ∨ (gS h 0).2 ≤ (l3 + (1 : Int32)).toNatClampNeg) then
(if ¬ ((l3 + (2 : Int32)) < 0 ∨ (gS h 0).2 ≤ (l3 + (2 : Int32)).toNatClampNeg) then
(if ¬ ((l3 + (3 : Int32)) < 0 ∨ (gS h 0).2 ≤ (l3 + (3 : Int32)).toNatClampNeg) then
(if ¬ ((l3 + (4 : Int32)) < 0 ∨ (gS h 0).2 ≤ (l3 + (4 : Int32)).toNatClampNeg) then
(ck h l1 9
(bd (f_X9_combine l1 (gI h 0 (l3 + (1 : Int32)).toNatClampNeg) (gI h 0 (l3 + (2 : Int32)).toNatClampNeg) (gI h 0 (l3 + (3 : Int32)).toNatClampNeg) (gI h 0 (l3 + (4 : Int32)).toNatClampNeg) h) fun v49 h50 =>
(if ¬ ((l3 + (1 : Int32)) < 0 ∨ (gS h50 0).2 ≤ (l3 + (1 : Int32)).toNatClampNeg) then
(if ¬ ((l3 + (2 : Int32)) < 0 ∨ (gS h50 0).2 ≤ (l3 + (2 : Int32)).toNatClampNeg) then
(if ¬ ((l3 + (3 : Int32)) < 0 ∨ (gS h50 0).2 ≤ (l3 + (3 : Int32)).toNatClampNeg) then
(if ¬ ((l3 + (4 : Int32)) < 0 ∨ (gS h50 0).2 ≤ (l3 + (4 : Int32)).toNatClampNeg) then
(ck h50 l2 10
(bd (f_X10_combine l2 (gI h50 0 (l3 + (1 : Int32)).toNatClampNeg) (gI h50 0 (l3 + (2 : Int32)).toNatClampNeg) (gI h50 0 (l3 + (3 : Int32)).toNatClampNeg) (gI h50 0 (l3 + (4 : Int32)).toNatClampNeg) h50) fun v56 h57 =>
(if v49 = v56 then
(nm (l3 + (5 : Int32)) fun v59 =>
(k18 (v59, h57)))
else
(some ((0 : Int32), h57)))))
else none)
else none)
else none)
else none)))
else none)
else none)
else none)
else none)
else
(if v11 = (4 : Int32) then
(if ¬ ((l3 + (1 : Int32)) < 0 ∨ (gS h 0).2 ≤ (l3 + (1 : Int32)).toNatClampNeg) then
(if ¬ ((l3 + (2 : Int32)) < 0 ∨ (gS h 0).2 ≤ (l3 + (2 : Int32)).toNatClampNeg) then
(if ¬ ((l3 + (3 : Int32)) < 0 ∨ (gS h 0).2 ≤ (l3 + (3 : Int32)).toNatClampNeg) then
(ck h l1 9
(bd (f_X9_modify l1 (gI h 0 (l3 + (1 : Int32)).toNatClampNeg) (gI h 0 (l3 + (2 : Int32)).toNatClampNeg) (gI h 0 (l3 + (3 : Int32)).toNatClampNeg) h) fun v65 h66 =>
(if ¬ ((l3 + (1 : Int32)) < 0 ∨ (gS h66 0).2 ≤ (l3 + (1 : Int32)).toNatClampNeg) then
(if ¬ ((l3 + (2 : Int32)) < 0 ∨ (gS h66 0).2 ≤ (l3 + (2 : Int32)).toNatClampNeg) then
(if ¬ ((l3 + (3 : Int32)) < 0 ∨ (gS h66 0).2 ≤ (l3 + (3 : Int32)).toNatClampNeg) then
(ck h66 l2 10
(bd (f_X10_modify l2 (gI h66 0 (l3 + (1 : Int32)).toNatClampNeg) (gI h66 0 (l3 + (2 : Int32)).toNatClampNeg) (gI h66 0 (l3 + (3 : Int32)).toNatClampNeg) h66) fun v71 h72 =>
(if v65 = v71 then
(nm (l3 + (5 : Int32)) fun v74 =>
(k18 (v74, h72)))
else
(some ((0 : Int32), h72)))))
else none)
else none)
else none)))
else none)
else none)
else none)
else
(if v11 = (5 : Int32) then
(if ¬ ((l3 + (1 : Int32)) < 0 ∨ (gS h 0).2 ≤ (l3 + (1 : Int32)).toNatClampNeg) then
(ck h l1 9
(bd (f_X9_size l1 (gI h 0 (l3 + (1 : Int32)).toNatClampNeg) h) fun v78 h79 =>
(if ¬ ((l3 + (1 : Int32)) < 0 ∨ (gS h79 0).2 ≤ (l3 + (1 : Int32)).toNatClampNeg) then
(ck h79 l2 10
(bd (f_X10_size l2 (gI h79 0 (l3 + (1 : Int32)).toNatClampNeg) h79) fun v82 h83 =>
(if v78 = v82 then
(nm (l3 + (5 : Int32)) fun v85 =>
(k18 (v85, h83)))
else
(some ((0 : Int32), h83)))))
else none)))
else none)
else
(if v11 = (6 : Int32) then
(if ¬ ((l3 + (1 : Int32)) < 0 ∨ (gS h 0).2 ≤ (l3 + (1 : Int32)).toNatClampNeg) then
(ck h l1 9
(bd (f_X9_isPredicate l1 (gI h 0 (l3 + (1 : Int32)).toNatClampNeg) h) fun v89 h90 =>
(if ¬ ((l3 + (1 : Int32)) < 0 ∨ (gS h90 0).2 ≤ (l3 + (1 : Int32)).toNatClampNeg) then
(ck h90 l2 10
(bd (f_X10_isPredicate l2 (gI h90 0 (l3 + (1 : Int32)).toNatClampNeg) h90) fun v93 h94 =>
(if v89 = v93 then
(nm (l3 + (5 : Int32)) fun v96 =>
(k18 (v96, h94)))
else
(some ((0 : Int32), h94)))))
else none)))
else none)
else
(if v11 = (7 : Int32) then
(if ¬ ((l3 + (1 : Int32)) < 0 ∨ (gS h 0).2 ≤ (l3 + (1 : Int32)).toNatClampNeg) then
(if ¬ ((l3 + (2 : Int32)) < 0 ∨ (gS h 0).2 ≤ (l3 + (2 : Int32)).toNatClampNeg) then
(ck h l1 9
(bd (f_X9_printed l1 (gI h 0 (l3 + (1 : Int32)).toNatClampNeg) (gI h 0 (l3 + (2 : Int32)).toNatClampNeg) h) fun v101 h102 =>
(if ¬ ((l3 + (1 : Int32)) < 0 ∨ (gS h102 0).2 ≤ (l3 + (1 : Int32)).toNatClampNeg) then
(if ¬ ((l3 + (2 : Int32)) < 0 ∨ (gS h102 0).2 ≤ (l3 + (2 : Int32)).toNatClampNeg) then
(ck h102 l2 10
(bd (f_X10_printed l2 (gI h102 0 (l3 + (1 : Int32)).toNatClampNeg) (gI h102 0 (l3 + (2 : Int32)).toNatClampNeg) h102) fun v106 h107 =>
(if v101 = v106 then
(nm (l3 + (5 : Int32)) fun v109 =>
(k18 (v109, h107)))
else
(some ((0 : Int32), h107)))))
else none)
else none)))
else none)
else none)
else
(if v11 = (8 : Int32) then
(if ¬ ((l3 + (1 : Int32)) < 0 ∨ (gS h 0).2 ≤ (l3 + (1 : Int32)).toNatClampNeg) then
(if ¬ ((l3 + (2 : Int32)) < 0 ∨ (gS h 0).2 ≤ (l3 + (2 : Int32)).toNatClampNeg) then
(ck h l1 9
(bd (f_X9_outputs l1 (gI h 0 (l3 + (1 : Int32)).toNatClampNeg) (gI h 0 (l3 + (2 : Int32)).toNatClampNeg) h) fun v114 h115 =>
(if ¬ ((l3 + (1 : Int32)) < 0 ∨ (gS h115 0).2 ≤ (l3 + (1 : Int32)).toNatClampNeg) then
(if ¬ ((l3 + (2 : Int32)) < 0 ∨ (gS h115 0).2 ≤ (l3 + (2 : Int32)).toNatClampNeg) then
(ck h115 l2 10
(bd (f_X10_outputs l2 (gI h115 0 (l3 + (1 : Int32)).toNatClampNeg) (gI h115 0 (l3 + (2 : Int32)).toNatClampNeg) h115) fun v119 h120 =>
(if (lg_cmp v114 v119) = 0 then
(nm (l3 + (5 : Int32)) fun v122 =>
(k18 (v122, h120)))
else
(some ((0 : Int32), h120)))))
else none)
else none)))
else none)
else none)
else
(if v11 = (9 : Int32) then
(if ¬ ((l3 + (1 : Int32)) < 0 ∨ (gS h 0).2 ≤ (l3 + (1 : Int32)).toNatClampNeg) then
(ck h l1 9
(bd (f_X9_accepted l1 (gI h 0 (l3 + (1 : Int32)).toNatClampNeg) h) fun v126 h127 =>
(if ¬ ((l3 + (1 : Int32)) < 0 ∨ (gS h127 0).2 ≤ (l3 + (1 : Int32)).toNatClampNeg) then
(ck h127 l2 10
(bd (f_X10_accepted l2 (gI h127 0 (l3 + (1 : Int32)).toNatClampNeg) h127) fun v130 h131 =>
(if (lg_cmp v126 v130) = 0 then
(nm (l3 + (5 : Int32)) fun v133 =>
(k18 (v133, h131)))
else
(some ((0 : Int32), h131)))))
else none)))
else none)
else
(if v11 = (10 : Int32) then
(if ¬ ((l3 + (1 : Int32)) < 0 ∨ (gS h 0).2 ≤ (l3 + (1 : Int32)).toNatClampNeg) then
(ck h l1 9
(bd (f_X9_spread l1 (gI h 0 (l3 + (1 : Int32)).toNatClampNeg) h) fun v137 h138 =>
(if ¬ ((l3 + (1 : Int32)) < 0 ∨ (gS h138 0).2 ≤ (l3 + (1 : Int32)).toNatClampNeg) then
(ck h138 l2 10
(bd (f_X10_spread l2 (gI h138 0 (l3 + (1 : Int32)).toNatClampNeg) h138) fun v141 h142 =>
(if v137 = v141 then
(nm (l3 + (5 : Int32)) fun v144 =>
(k18 (v144, h142)))
else
(some ((0 : Int32), h142)))))
else none)))
else none)
else
(if v11 = (11 : Int32) then
(if ¬ ((l3 + (1 : Int32)) < 0 ∨ (gS h 0).2 ≤ (l3 + (1 : Int32)).toNatClampNeg) then
(ck h l1 9
(bd (f_X9_rounds l1 (gI h 0 (l3 + (1 : Int32)).toNatClampNeg) h) fun v148 h149 =>
(if ¬ ((l3 + (1 : Int32)) < 0 ∨ (gS h149 0).2 ≤ (l3 + (1 : Int32)).toNatClampNeg) then
(ck h149 l2 10
(bd (f_X10_rounds l2 (gI h149 0 (l3 + (1 : Int32)).toNatClampNeg) h149) fun v152 h153 =>
(if v148 = v152 then
(nm (l3 + (5 : Int32)) fun v155 =>
(k18 (v155, h153)))
else
(some ((0 : Int32), h153)))))
else none)))
else none)
else
(if v11 = (12 : Int32) then
(if ¬ ((l3 + (1 : Int32)) < 0 ∨ (gS h 0).2 ≤ (l3 + (1 : Int32)).toNatClampNeg) then
(if ¬ ((l3 + (2 : Int32)) < 0 ∨ (gS h 0).2 ≤ (l3 + (2 : Int32)).toNatClampNeg) then
(ck h l1 9
(bd (f_X9_compare l1 (gI h 0 (l3 + (1 : Int32)).toNatClampNeg) (gI h 0 (l3 + (2 : Int32)).toNatClampNeg) h) fun v160 h161 =>
(if ¬ ((l3 + (1 : Int32)) < 0 ∨ (gS h161 0).2 ≤ (l3 + (1 : Int32)).toNatClampNeg) then
(if ¬ ((l3 + (2 : Int32)) < 0 ∨ (gS h161 0).2 ≤ (l3 + (2 : Int32)).toNatClampNeg) then
(ck h161 l2 10
(bd (f_X10_compare l2 (gI h161 0 (l3 + (1 : Int32)).toNatClampNeg) (gI h161 0 (l3 + (2 : Int32)).toNatClampNeg) h161) fun v165 h166 =>
(if v160 = v165 then
(nm (l3 + (5 : Int32)) fun v168 =>
(k18 (v168, h166)))
else
(some ((0 : Int32), h166)))))
else none)
else none)))
else none)
else none)
else
(if v11 = (13 : Int32) then
(if ¬ ((l3 + (1 : Int32)) < 0 ∨ (gS h 0).2 ≤ (l3 + (1 : Int32)).toNatClampNeg) then
(if ¬ ((l3 + (2 : Int32)) < 0 ∨ (gS h 0).2 ≤ (l3 + (2 : Int32)).toNatClampNeg) then
(ck h l1 9
(bd (f_X9_witness l1 (gI h 0 (l3 + (1 : Int32)).toNatClampNeg) (gI h 0 (l3 + (2 : Int32)).toNatClampNeg) h) fun v173 h174 =>
(if ¬ ((l3 + (1 : Int32)) < 0 ∨ (gS h174 0).2 ≤ (l3 + (1 : Int32)).toNatClampNeg) then
(if ¬ ((l3 + (2 : Int32)) < 0 ∨ (gS h174 0).2 ≤ (l3 + (2 : Int32)).toNatClampNeg) then
(ck h174 l2 10
(bd (f_X10_witness l2 (gI h174 0 (l3 + (1 : Int32)).toNatClampNeg) (gI h174 0 (l3 + (2 : Int32)).toNatClampNeg) h174) fun v178 h179 =>
(if v173 = v178 then
(nm (l3 + (5 : Int32)) fun v181 =>
(k18 (v181, h179)))
else
(some ((0 : Int32), h179)))))
else none)
else none)))
else none)
else none)
else
(if v11 = (14 : Int32) then
(if ¬ ((l3 + (1 : Int32)) < 0 ∨ (gS h 0).2 ≤ (l3 + (1 : Int32)).toNatClampNeg) then
(if ¬ ((l3 + (2 : Int32)) < 0 ∨ (gS h 0).2 ≤ (l3 + (2 : Int32)).toNatClampNeg) then
(ck h l1 9
(bd (f_X9_difference l1 (gI h 0 (l3 + (1 : Int32)).toNatClampNeg) (gI h 0 (l3 + (2 : Int32)).toNatClampNeg) h) fun v186 h187 =>
(if ¬ ((l3 + (1 : Int32)) < 0 ∨ (gS h187 0).2 ≤ (l3 + (1 : Int32)).toNatClampNeg) then
(if ¬ ((l3 + (2 : Int32)) < 0 ∨ (gS h187 0).2 ≤ (l3 + (2 : Int32)).toNatClampNeg) then
(ck h187 l2 10
(bd (f_X10_difference l2 (gI h187 0 (l3 + (1 : Int32)).toNatClampNeg) (gI h187 0 (l3 + (2 : Int32)).toNatClampNeg) h187) fun v191 h192 =>
(if v186 = v191 then
(nm (l3 + (5 : Int32)) fun v194 =>
(k18 (v194, h192)))
else
(some ((0 : Int32), h192)))))
else none)
else none)))
else none)
else none)
else
(if v11 = (15 : Int32) then
(if ¬ ((l3 + (1 : Int32)) < 0 ∨ (gS h 0).2 ≤ (l3 + (1 : Int32)).toNatClampNeg) then
(ck h l1 9
(bd (f_X9_diagramSize l1 (gI h 0 (l3 + (1 : Int32)).toNatClampNeg) h) fun v198 h199 =>
(if ¬ ((l3 + (1 : Int32)) < 0 ∨ (gS h199 0).2 ≤ (l3 + (1 : Int32)).toNatClampNeg) then
(ck h199 l2 10
(bd (f_X10_diagramSize l2 (gI h199 0 (l3 + (1 : Int32)).toNatClampNeg) h199) fun v202 h203 =>
(if v198 = v202 then
(nm (l3 + (5 : Int32)) fun v205 =>
(k18 (v205, h203)))
else
(some ((0 : Int32), h203)))))
else none)))
else none)
else
(if v11 = (16 : Int32) then
(if ¬ ((l3 + (1 : Int32)) < 0 ∨ (gS h 0).2 ≤ (l3 + (1 : Int32)).toNatClampNeg) then
(ck h l1 9
(bd (f_X9_leaves l1 (gI h 0 (l3 + (1 : Int32)).toNatClampNeg) h) fun v209 h210 =>
(if ¬ ((l3 + (1 : Int32)) < 0 ∨ (gS h210 0).2 ≤ (l3 + (1 : Int32)).toNatClampNeg) then
(ck h210 l2 10
(bd (f_X10_leaves l2 (gI h210 0 (l3 + (1 : Int32)).toNatClampNeg) h210) fun v213 h214 =>
(if v209 = v213 then
(nm (l3 + (5 : Int32)) fun v216 =>
(k18 (v216, h214)))
else
(some ((0 : Int32), h214)))))
else none)))
else none)
else
(if v11 = (17 : Int32) then
(if ¬ ((l3 + (1 : Int32)) < 0 ∨ (gS h 0).2 ≤ (l3 + (1 : Int32)).toNatClampNeg) then
(ck h l1 9
(bd (f_X9_diagramDepth l1 (gI h 0 (l3 + (1 : Int32)).toNatClampNeg) h) fun v220 h221 =>
(if ¬ ((l3 + (1 : Int32)) < 0 ∨ (gS h221 0).2 ≤ (l3 + (1 : Int32)).toNatClampNeg) then
(ck h221 l2 10
(bd (f_X10_diagramDepth l2 (gI h221 0 (l3 + (1 : Int32)).toNatClampNeg) h221) fun v224 h225 =>
(if v220 = v224 then
(nm (l3 + (5 : Int32)) fun v227 =>
(k18 (v227, h225)))
else
(some ((0 : Int32), h225)))))
else none)))
else none)
else
(if v11 = (18 : Int32) then
(if ¬ ((l3 + (1 : Int32)) < 0 ∨ (gS h 0).2 ≤ (l3 + (1 : Int32)).toNatClampNeg) then
(if ¬ ((l3 + (2 : Int32)) < 0 ∨ (gS h 0).2 ≤ (l3 + (2 : Int32)).toNatClampNeg) then
(ck h l1 9
(bd (f_X9_sharedNodes l1 (gI h 0 (l3 + (1 : Int32)).toNatClampNeg) (gI h 0 (l3 + (2 : Int32)).toNatClampNeg) h) fun v232 h233 =>
(if ¬ ((l3 + (1 : Int32)) < 0 ∨ (gS h233 0).2 ≤ (l3 + (1 : Int32)).toNatClampNeg) then
(if ¬ ((l3 + (2 : Int32)) < 0 ∨ (gS h233 0).2 ≤ (l3 + (2 : Int32)).toNatClampNeg) then
(ck h233 l2 10
(bd (f_X10_sharedNodes l2 (gI h233 0 (l3 + (1 : Int32)).toNatClampNeg) (gI h233 0 (l3 + (2 : Int32)).toNatClampNeg) h233) fun v237 h238 =>
(if v232 = v237 then
(nm (l3 + (5 : Int32)) fun v240 =>
(k18 (v240, h238)))
else
(some ((0 : Int32), h238)))))
else none)
else none)))
else none)
else none)
else
(if v11 = (19 : Int32) then
(if ¬ ((l3 + (1 : Int32)) < 0 ∨ (gS h 0).2 ≤ (l3 + (1 : Int32)).toNatClampNeg) then
(ck h l1 9
(bd (f_X9_rows l1 (gI h 0 (l3 + (1 : Int32)).toNatClampNeg) h) fun v244 h245 =>
(if ¬ ((l3 + (1 : Int32)) < 0 ∨ (gS h245 0).2 ≤ (l3 + (1 : Int32)).toNatClampNeg) then
(ck h245 l2 10
(bd (f_X10_rows l2 (gI h245 0 (l3 + (1 : Int32)).toNatClampNeg) h245) fun v248 h249 =>
(if v244 = v248 then
(nm (l3 + (5 : Int32)) fun v251 =>
(k18 (v251, h249)))
else
(some ((0 : Int32), h249)))))
else none)))
else none)
else
(if v11 = (20 : Int32) then
(if ¬ ((l3 + (1 : Int32)) < 0 ∨ (gS h 0).2 ≤ (l3 + (1 : Int32)).toNatClampNeg) then
(if ¬ ((l3 + (2 : Int32)) < 0 ∨ (gS h 0).2 ≤ (l3 + (2 : Int32)).toNatClampNeg) then
(if ¬ ((l3 + (3 : Int32)) < 0 ∨ (gS h 0).2 ≤ (l3 + (3 : Int32)).toNatClampNeg) then
(ck h l1 9
(bd (f_X9_match l1 (gI h 0 (l3 + (1 : Int32)).toNatClampNeg) (gI h 0 (l3 + (2 : Int32)).toNatClampNeg) (gI h 0 (l3 + (3 : Int32)).toNatClampNeg) h) fun v257 h258 =>
(if ¬ ((l3 + (1 : Int32)) < 0 ∨ (gS h258 0).2 ≤ (l3 + (1 : Int32)).toNatClampNeg) then
(if ¬ ((l3 + (2 : Int32)) < 0 ∨ (gS h258 0).2 ≤ (l3 + (2 : Int32)).toNatClampNeg) then
(if ¬ ((l3 + (3 : Int32)) < 0 ∨ (gS h258 0).2 ≤ (l3 + (3 : Int32)).toNatClampNeg) then
(ck h258 l2 10
(bd (f_X10_match l2 (gI h258 0 (l3 + (1 : Int32)).toNatClampNeg) (gI h258 0 (l3 + (2 : Int32)).toNatClampNeg) (gI h258 0 (l3 + (3 : Int32)).toNatClampNeg) h258) fun v263 h264 =>
(if v257 = v263 then
(nm (l3 + (5 : Int32)) fun v266 =>
(k18 (v266, h264)))
else
(some ((0 : Int32), h264)))))
else none)
else none)
else none)))
else none)
else none)
else none)
else
(if v11 = (21 : Int32) then
(if ¬ ((l3 + (1 : Int32)) < 0 ∨ (gS h 0).2 ≤ (l3 + (1 : Int32)).toNatClampNeg) then
(if ¬ ((l3 + (2 : Int32)) < 0 ∨ (gS h 0).2 ≤ (l3 + (2 : Int32)).toNatClampNeg) then
(if ¬ ((l3 + (3 : Int32)) < 0 ∨ (gS h 0).2 ≤ (l3 + (3 : Int32)).toNatClampNeg) then
(ck h l1 9
(bd (f_X9_action l1 (gI h 0 (l3 + (1 : Int32)).toNatClampNeg) (gI h 0 (l3 + (2 : Int32)).toNatClampNeg) (gI h 0 (l3 + (3 : Int32)).toNatClampNeg) h) fun v272 h273 =>
(if ¬ ((l3 + (1 : Int32)) < 0 ∨ (gS h273 0).2 ≤ (l3 + (1 : Int32)).toNatClampNeg) then
(if ¬ ((l3 + (2 : Int32)) < 0 ∨ (gS h273 0).2 ≤ (l3 + (2 : Int32)).toNatClampNeg) then
(if ¬ ((l3 + (3 : Int32)) < 0 ∨ (gS h273 0).2 ≤ (l3 + (3 : Int32)).toNatClampNeg) then
(ck h273 l2 10
(bd (f_X10_action l2 (gI h273 0 (l3 + (1 : Int32)).toNatClampNeg) (gI h273 0 (l3 + (2 : Int32)).toNatClampNeg) (gI h273 0 (l3 + (3 : Int32)).toNatClampNeg) h273) fun v278 h279 =>
(if v272 = v278 then
(nm (l3 + (5 : Int32)) fun v281 =>
(k18 (v281, h279)))
else
(some ((0 : Int32), h279)))))
else none)
else none)
else none)))
else none)
else none)
else none)
else
(if v11 = (22 : Int32) then
(if ¬ ((l3 + (1 : Int32)) < 0 ∨ (gS h 0).2 ≤ (l3 + (1 : Int32)).toNatClampNeg) then
(if ¬ ((l3 + (2 : Int32)) < 0 ∨ (gS h 0).2 ≤ (l3 + (2 : Int32)).toNatClampNeg) then
(ck h l1 9
(bd (f_X9_hit l1 (gI h 0 (l3 + (1 : Int32)).toNatClampNeg) (gI h 0 (l3 + (2 : Int32)).toNatClampNeg) h) fun v286 h287 =>
(if ¬ ((l3 + (1 : Int32)) < 0 ∨ (gS h287 0).2 ≤ (l3 + (1 : Int32)).toNatClampNeg) then
(if ¬ ((l3 + (2 : Int32)) < 0 ∨ (gS h287 0).2 ≤ (l3 + (2 : Int32)).toNatClampNeg) then
(ck h287 l2 10
(bd (f_X10_hit l2 (gI h287 0 (l3 + (1 : Int32)).toNatClampNeg) (gI h287 0 (l3 + (2 : Int32)).toNatClampNeg) h287) fun v291 h292 =>
(if v286 = v291 then
(nm (l3 + (5 : Int32)) fun v294 =>
(k18 (v294, h292)))
else
(some ((0 : Int32), h292)))))
else none)
else none)))
else none)
else none)
else
(if v11 = (23 : Int32) then
(if ¬ ((l3 + (1 : Int32)) < 0 ∨ (gS h 0).2 ≤ (l3 + (1 : Int32)).toNatClampNeg) then
(if ¬ ((l3 + (2 : Int32)) < 0 ∨ (gS h 0).2 ≤ (l3 + (2 : Int32)).toNatClampNeg) then
(ck h l1 9
(bd (f_X9_hits l1 (gI h 0 (l3 + (1 : Int32)).toNatClampNeg) (gI h 0 (l3 + (2 : Int32)).toNatClampNeg) h) fun v299 h300 =>
(if ¬ ((l3 + (1 : Int32)) < 0 ∨ (gS h300 0).2 ≤ (l3 + (1 : Int32)).toNatClampNeg) then
(if ¬ ((l3 + (2 : Int32)) < 0 ∨ (gS h300 0).2 ≤ (l3 + (2 : Int32)).toNatClampNeg) then
(ck h300 l2 10
(bd (f_X10_hits l2 (gI h300 0 (l3 + (1 : Int32)).toNatClampNeg) (gI h300 0 (l3 + (2 : Int32)).toNatClampNeg) h300) fun v304 h305 =>
(if v299 = v304 then
(nm (l3 + (5 : Int32)) fun v307 =>
(k18 (v307, h305)))
else
(some ((0 : Int32), h305)))))
else none)
else none)))
else none)
else none)
else
(if v11 = (24 : Int32) then
(ck h l1 9
(bd (f_X9_undo l1 h) fun v310 h311 =>
(ck h311 l2 10
(bd (f_X10_undo l2 h311) fun v313 h314 =>
(if v310 = v313 then
(nm (l3 + (5 : Int32)) fun v316 =>
(k18 (v316, h314)))
else
(some ((0 : Int32), h314)))))))
else
(if v11 = (25 : Int32) then
(if ¬ ((l3 + (1 : Int32)) < 0 ∨ (gS h 0).2 ≤ (l3 + (1 : Int32)).toNatClampNeg) then
(ck h l1 9
(bd (f_X9_errorCount l1 (gI h 0 (l3 + (1 : Int32)).toNatClampNeg) h) fun v320 h321 =>
(if ¬ ((l3 + (1 : Int32)) < 0 ∨ (gS h321 0).2 ≤ (l3 + (1 : Int32)).toNatClampNeg) then
(ck h321 l2 10
(bd (f_X10_errorCount l2 (gI h321 0 (l3 + (1 : Int32)).toNatClampNeg) h321) fun v324 h325 =>
(if v320 = v324 then
(nm (l3 + (5 : Int32)) fun v327 =>
(k18 (v327, h325)))
else
(some ((0 : Int32), h325)))))
else none)))
else none)
else
(if v11 = (26 : Int32) then
(ck h l1 9
(bd (f_X9_digest l1 h) fun v330 h331 =>
(ck h331 l2 10
(bd (f_X10_digest l2 h331) fun v333 h334 =>
(if (lg_cmp v330 v333) = 0 then
(nm (l3 + (5 : Int32)) fun v336 =>
(k18 (v336, h334)))
else
(some ((0 : Int32), h334)))))))
else
(nm (l3 + (5 : Int32)) fun v337 =>
(k18 (v337, h)))))))))))))))))))))))))))))))
else none))
set_option maxRecDepth 20000 in
theorem t_L_law_18 (l1 : Nat) (l2 : Nat) (l3 : Int32) (h : Hp) (k18 : (Int32 × Hp) → Option (Int32 × Hp)) (hk18 : ∀ s : Int32 × Hp, Sm rvI g_L_law 18 [.ref 0, .ref l1, .ref l2, .int s.1] [] s.2 (k18 s)) : Sm rvI g_L_law 18 [.ref 0, .ref l1, .ref l2, .int l3] [] h (f_L_law_18 k18 l1 l2 l3 h) := by
  unfold f_L_law_18
  refine Sm.iload_n dL_law_18 rfl rfl rfl ?_
  refine Sm.aload_n dL_law_19 rfl rfl rfl ?_
  refine Sm.salen dL_law_20 rfl ?_
  refine Sm.iconst dL_law_21 ic_5 rfl ?_
  refine Sm.isub dL_law_22 rfl ?_
  refine Sm.icmp_gt (t := 926) dL_law_23 (by decide) rfl (fun b9 => ?_) (fun b9 => ?_)
  · refine Sm.iconst dL_law_926 ic_1 rfl ?_
    exact Sm.ret dL_law_927 (Or.inr rfl) rfl
  · refine Sm.aload_n dL_law_26 rfl rfl rfl ?_
    refine Sm.iload_n dL_law_27 rfl rfl rfl ?_
    refine Sm.iff (fun q10 => ?_) (fun _ => Sm.none)
    refine Sm.sald q10 dL_law_28 rfl ?_
    refine Sm.bipush dL_law_29 bp_31 rfl ?_
    refine Sm.iand dL_law_31 rfl ?_
    refine Sm.nm (LV := fun v11 => [.ref 0, .ref l1, .ref l2, .int l3]) (ST := fun v11 => [.int v11]) (fun v11 => ?_)
    refine Sm.iff (fun b12 => ?_) (fun b12 => ?_)
    · refine Sm.tsAt (t := 156) (k := (0 : Int32)) (off := 124) b12 dL_law_32 (by decide) (by decide) (by decide) (by decide) ?_
      refine Sm.aload_n dL_law_156 rfl rfl rfl ?_
      refine Sm.aload_n dL_law_157 rfl rfl rfl ?_
      refine Sm.iload_n dL_law_158 rfl rfl rfl ?_
      refine Sm.iconst dL_law_159 ic_1 rfl ?_
      refine Sm.iadd dL_law_160 rfl ?_
      refine Sm.iff (fun q13 => ?_) (fun _ => Sm.none)
      refine Sm.sald q13 dL_law_161 rfl ?_
      refine Sm.ck (fun o14 => ?_)
      refine kc_L_13 o14 dL_law_162 rfl (Nat.le_of_ble_eq_true rfl) (Nat.le_of_ble_eq_true rfl) rfl (fun v15 h16 => ?_)
      refine Sm.aload_n dL_law_165 rfl rfl rfl ?_
      refine Sm.aload_n dL_law_166 rfl rfl rfl ?_
      refine Sm.iload_n dL_law_167 rfl rfl rfl ?_
      refine Sm.iconst dL_law_168 ic_1 rfl ?_
      refine Sm.iadd dL_law_169 rfl ?_
      refine Sm.iff (fun q17 => ?_) (fun _ => Sm.none)
      refine Sm.sald q17 dL_law_170 rfl ?_
      refine Sm.ck (fun o18 => ?_)
      refine kc_L_17 o18 dL_law_171 rfl (Nat.le_of_ble_eq_true rfl) (Nat.le_of_ble_eq_true rfl) rfl (fun v19 h20 => ?_)
      refine Sm.icmp_eq (t := 920) dL_law_174 (by decide) rfl (fun b21 => ?_) (fun b21 => ?_)
      · refine Sm.iinc (lv' := [.ref 0, .ref l1, .ref l2, .int (l3 + (5 : Int32))]) dL_law_920 rfl ic_5 rfl rfl ?_
        refine Sm.nm (LV := fun v22 => [.ref 0, .ref l1, .ref l2, .int v22]) (ST := fun v22 => []) (fun v22 => ?_)
        refine Sm.goto (t := 18) dL_law_923 (by decide) ?_
        exact Sm.wk (hk18 (v22, h20)) ⟨Or.inr rfl, Or.inr rfl, Or.inr rfl, Or.inr rfl, trivial⟩
      · refine Sm.iconst dL_law_177 ic_0 rfl ?_
        exact Sm.ret dL_law_178 (Or.inl rfl) rfl
    refine Sm.iff (fun b23 => ?_) (fun b23 => ?_)
    · refine Sm.tsAt (t := 179) (k := (1 : Int32)) (off := 147) b23 dL_law_32 (by decide) (by decide) (by decide) (by decide) ?_
      refine Sm.aload_n dL_law_179 rfl rfl rfl ?_
      refine Sm.ck (fun o24 => ?_)
      refine kc_L_18 o24 dL_law_180 rfl (Nat.le_of_ble_eq_true rfl) (Nat.le_of_ble_eq_true rfl) rfl (fun v25 h26 => ?_)
      refine Sm.aload_n dL_law_183 rfl rfl rfl ?_
      refine Sm.ck (fun o27 => ?_)
      refine kc_L_22 o27 dL_law_184 rfl (Nat.le_of_ble_eq_true rfl) (Nat.le_of_ble_eq_true rfl) rfl (fun v28 h29 => ?_)
      refine Sm.icmp_eq (t := 920) dL_law_187 (by decide) rfl (fun b30 => ?_) (fun b30 => ?_)
      · refine Sm.iinc (lv' := [.ref 0, .ref l1, .ref l2, .int (l3 + (5 : Int32))]) dL_law_920 rfl ic_5 rfl rfl ?_
        refine Sm.nm (LV := fun v31 => [.ref 0, .ref l1, .ref l2, .int v31]) (ST := fun v31 => []) (fun v31 => ?_)
        refine Sm.goto (t := 18) dL_law_923 (by decide) ?_
        exact Sm.wk (hk18 (v31, h29)) ⟨Or.inr rfl, Or.inr rfl, Or.inr rfl, Or.inr rfl, trivial⟩
      · refine Sm.iconst dL_law_190 ic_0 rfl ?_
        exact Sm.ret dL_law_191 (Or.inl rfl) rfl
    refine Sm.iff (fun b32 => ?_) (fun b32 => ?_)
    · refine Sm.tsAt (t := 192) (k := (2 : Int32)) (off := 160) b32 dL_law_32 (by decide) (by decide) (by decide) (by decide) ?_
      refine Sm.aload_n dL_law_192 rfl rfl rfl ?_
      refine Sm.aload_n dL_law_193 rfl rfl rfl ?_
      refine Sm.iload_n dL_law_194 rfl rfl rfl ?_
      refine Sm.iconst dL_law_195 ic_1 rfl ?_
      refine Sm.iadd dL_law_196 rfl ?_
      refine Sm.iff (fun q33 => ?_) (fun _ => Sm.none)
      refine Sm.sald q33 dL_law_197 rfl ?_
      refine Sm.ck (fun o34 => ?_)
      refine kc_L_23 o34 dL_law_198 rfl (Nat.le_of_ble_eq_true rfl) (Nat.le_of_ble_eq_true rfl) rfl (fun v35 h36 => ?_)
      refine Sm.aload_n dL_law_201 rfl rfl rfl ?_
      refine Sm.aload_n dL_law_202 rfl rfl rfl ?_
      refine Sm.iload_n dL_law_203 rfl rfl rfl ?_
      refine Sm.iconst dL_law_204 ic_1 rfl ?_
      refine Sm.iadd dL_law_205 rfl ?_
      refine Sm.iff (fun q37 => ?_) (fun _ => Sm.none)
      refine Sm.sald q37 dL_law_206 rfl ?_
      refine Sm.ck (fun o38 => ?_)
      refine kc_L_26 o38 dL_law_207 rfl (Nat.le_of_ble_eq_true rfl) (Nat.le_of_ble_eq_true rfl) rfl (fun v39 h40 => ?_)
      refine Sm.icmp_eq (t := 920) dL_law_210 (by decide) rfl (fun b41 => ?_) (fun b41 => ?_)
      · refine Sm.iinc (lv' := [.ref 0, .ref l1, .ref l2, .int (l3 + (5 : Int32))]) dL_law_920 rfl ic_5 rfl rfl ?_
        refine Sm.nm (LV := fun v42 => [.ref 0, .ref l1, .ref l2, .int v42]) (ST := fun v42 => []) (fun v42 => ?_)
        refine Sm.goto (t := 18) dL_law_923 (by decide) ?_
        exact Sm.wk (hk18 (v42, h40)) ⟨Or.inr rfl, Or.inr rfl, Or.inr rfl, Or.inr rfl, trivial⟩
      · refine Sm.iconst dL_law_213 ic_0 rfl ?_
        exact Sm.ret dL_law_214 (Or.inl rfl) rfl
    refine Sm.iff (fun b43 => ?_) (fun b43 => ?_)
    · refine Sm.tsAt (t := 215) (k := (3 : Int32)) (off := 183) b43 dL_law_32 (by decide) (by decide) (by decide) (by decide) ?_
      refine Sm.aload_n dL_law_215 rfl rfl rfl ?_
      refine Sm.aload_n dL_law_216 rfl rfl rfl ?_
      refine Sm.iload_n dL_law_217 rfl rfl rfl ?_
      refine Sm.iconst dL_law_218 ic_1 rfl ?_
      refine Sm.iadd dL_law_219 rfl ?_
      refine Sm.iff (fun q44 => ?_) (fun _ => Sm.none)
      refine Sm.sald q44 dL_law_220 rfl ?_
      refine Sm.aload_n dL_law_221 rfl rfl rfl ?_
      refine Sm.iload_n dL_law_222 rfl rfl rfl ?_
      refine Sm.iconst dL_law_223 ic_2 rfl ?_
      refine Sm.iadd dL_law_224 rfl ?_
      refine Sm.iff (fun q45 => ?_) (fun _ => Sm.none)
      refine Sm.sald q45 dL_law_225 rfl ?_
      refine Sm.aload_n dL_law_226 rfl rfl rfl ?_
      refine Sm.iload_n dL_law_227 rfl rfl rfl ?_
      refine Sm.iconst dL_law_228 ic_3 rfl ?_
      refine Sm.iadd dL_law_229 rfl ?_
      refine Sm.iff (fun q46 => ?_) (fun _ => Sm.none)
      refine Sm.sald q46 dL_law_230 rfl ?_
      refine Sm.aload_n dL_law_231 rfl rfl rfl ?_
      refine Sm.iload_n dL_law_232 rfl rfl rfl ?_
      refine Sm.iconst dL_law_233 ic_4 rfl ?_
      refine Sm.iadd dL_law_234 rfl ?_
      refine Sm.iff (fun q47 => ?_) (fun _ => Sm.none)
      refine Sm.sald q47 dL_law_235 rfl ?_
      refine Sm.ck (fun o48 => ?_)
      refine kc_L_27 o48 dL_law_236 rfl (Nat.le_of_ble_eq_true rfl) (Nat.le_of_ble_eq_true rfl) rfl (fun v49 h50 => ?_)
      refine Sm.aload_n dL_law_239 rfl rfl rfl ?_
      refine Sm.aload_n dL_law_240 rfl rfl rfl ?_
      refine Sm.iload_n dL_law_241 rfl rfl rfl ?_
      refine Sm.iconst dL_law_242 ic_1 rfl ?_
      refine Sm.iadd dL_law_243 rfl ?_
      refine Sm.iff (fun q51 => ?_) (fun _ => Sm.none)
      refine Sm.sald q51 dL_law_244 rfl ?_
      refine Sm.aload_n dL_law_245 rfl rfl rfl ?_
      refine Sm.iload_n dL_law_246 rfl rfl rfl ?_
      refine Sm.iconst dL_law_247 ic_2 rfl ?_
      refine Sm.iadd dL_law_248 rfl ?_
      refine Sm.iff (fun q52 => ?_) (fun _ => Sm.none)
      refine Sm.sald q52 dL_law_249 rfl ?_
      refine Sm.aload_n dL_law_250 rfl rfl rfl ?_
      refine Sm.iload_n dL_law_251 rfl rfl rfl ?_
      refine Sm.iconst dL_law_252 ic_3 rfl ?_
      refine Sm.iadd dL_law_253 rfl ?_
      refine Sm.iff (fun q53 => ?_) (fun _ => Sm.none)
      refine Sm.sald q53 dL_law_254 rfl ?_
      refine Sm.aload_n dL_law_255 rfl rfl rfl ?_
      refine Sm.iload_n dL_law_256 rfl rfl rfl ?_
      refine Sm.iconst dL_law_257 ic_4 rfl ?_
      refine Sm.iadd dL_law_258 rfl ?_
      refine Sm.iff (fun q54 => ?_) (fun _ => Sm.none)
      refine Sm.sald q54 dL_law_259 rfl ?_
      refine Sm.ck (fun o55 => ?_)
      refine kc_L_31 o55 dL_law_260 rfl (Nat.le_of_ble_eq_true rfl) (Nat.le_of_ble_eq_true rfl) rfl (fun v56 h57 => ?_)
      refine Sm.icmp_eq (t := 920) dL_law_263 (by decide) rfl (fun b58 => ?_) (fun b58 => ?_)
      · refine Sm.iinc (lv' := [.ref 0, .ref l1, .ref l2, .int (l3 + (5 : Int32))]) dL_law_920 rfl ic_5 rfl rfl ?_
        refine Sm.nm (LV := fun v59 => [.ref 0, .ref l1, .ref l2, .int v59]) (ST := fun v59 => []) (fun v59 => ?_)
        refine Sm.goto (t := 18) dL_law_923 (by decide) ?_
        exact Sm.wk (hk18 (v59, h57)) ⟨Or.inr rfl, Or.inr rfl, Or.inr rfl, Or.inr rfl, trivial⟩
      · refine Sm.iconst dL_law_266 ic_0 rfl ?_
        exact Sm.ret dL_law_267 (Or.inl rfl) rfl
    refine Sm.iff (fun b60 => ?_) (fun b60 => ?_)
    · refine Sm.tsAt (t := 268) (k := (4 : Int32)) (off := 236) b60 dL_law_32 (by decide) (by decide) (by decide) (by decide) ?_
      refine Sm.aload_n dL_law_268 rfl rfl rfl ?_
      refine Sm.aload_n dL_law_269 rfl rfl rfl ?_
      refine Sm.iload_n dL_law_270 rfl rfl rfl ?_
      refine Sm.iconst dL_law_271 ic_1 rfl ?_
      refine Sm.iadd dL_law_272 rfl ?_
      refine Sm.iff (fun q61 => ?_) (fun _ => Sm.none)
      refine Sm.sald q61 dL_law_273 rfl ?_
      refine Sm.aload_n dL_law_274 rfl rfl rfl ?_
      refine Sm.iload_n dL_law_275 rfl rfl rfl ?_
      refine Sm.iconst dL_law_276 ic_2 rfl ?_
      refine Sm.iadd dL_law_277 rfl ?_
      refine Sm.iff (fun q62 => ?_) (fun _ => Sm.none)
      refine Sm.sald q62 dL_law_278 rfl ?_
      refine Sm.aload_n dL_law_279 rfl rfl rfl ?_
      refine Sm.iload_n dL_law_280 rfl rfl rfl ?_
      refine Sm.iconst dL_law_281 ic_3 rfl ?_
      refine Sm.iadd dL_law_282 rfl ?_
      refine Sm.iff (fun q63 => ?_) (fun _ => Sm.none)
      refine Sm.sald q63 dL_law_283 rfl ?_
      refine Sm.ck (fun o64 => ?_)
      refine kc_L_32 o64 dL_law_284 rfl (Nat.le_of_ble_eq_true rfl) (Nat.le_of_ble_eq_true rfl) rfl (fun v65 h66 => ?_)
      refine Sm.aload_n dL_law_287 rfl rfl rfl ?_
      refine Sm.aload_n dL_law_288 rfl rfl rfl ?_
      refine Sm.iload_n dL_law_289 rfl rfl rfl ?_
      refine Sm.iconst dL_law_290 ic_1 rfl ?_
      refine Sm.iadd dL_law_291 rfl ?_
      refine Sm.iff (fun q67 => ?_) (fun _ => Sm.none)
      refine Sm.sald q67 dL_law_292 rfl ?_
      refine Sm.aload_n dL_law_293 rfl rfl rfl ?_
      refine Sm.iload_n dL_law_294 rfl rfl rfl ?_
      refine Sm.iconst dL_law_295 ic_2 rfl ?_
      refine Sm.iadd dL_law_296 rfl ?_
      refine Sm.iff (fun q68 => ?_) (fun _ => Sm.none)
      refine Sm.sald q68 dL_law_297 rfl ?_
      refine Sm.aload_n dL_law_298 rfl rfl rfl ?_
      refine Sm.iload_n dL_law_299 rfl rfl rfl ?_
      refine Sm.iconst dL_law_300 ic_3 rfl ?_
      refine Sm.iadd dL_law_301 rfl ?_
      refine Sm.iff (fun q69 => ?_) (fun _ => Sm.none)
      refine Sm.sald q69 dL_law_302 rfl ?_
      refine Sm.ck (fun o70 => ?_)
      refine kc_L_36 o70 dL_law_303 rfl (Nat.le_of_ble_eq_true rfl) (Nat.le_of_ble_eq_true rfl) rfl (fun v71 h72 => ?_)
      refine Sm.icmp_eq (t := 920) dL_law_306 (by decide) rfl (fun b73 => ?_) (fun b73 => ?_)
      · refine Sm.iinc (lv' := [.ref 0, .ref l1, .ref l2, .int (l3 + (5 : Int32))]) dL_law_920 rfl ic_5 rfl rfl ?_
        refine Sm.nm (LV := fun v74 => [.ref 0, .ref l1, .ref l2, .int v74]) (ST := fun v74 => []) (fun v74 => ?_)
        refine Sm.goto (t := 18) dL_law_923 (by decide) ?_
        exact Sm.wk (hk18 (v74, h72)) ⟨Or.inr rfl, Or.inr rfl, Or.inr rfl, Or.inr rfl, trivial⟩
      · refine Sm.iconst dL_law_309 ic_0 rfl ?_
        exact Sm.ret dL_law_310 (Or.inl rfl) rfl
    refine Sm.iff (fun b75 => ?_) (fun b75 => ?_)
    · refine Sm.tsAt (t := 311) (k := (5 : Int32)) (off := 279) b75 dL_law_32 (by decide) (by decide) (by decide) (by decide) ?_
      refine Sm.aload_n dL_law_311 rfl rfl rfl ?_
      refine Sm.aload_n dL_law_312 rfl rfl rfl ?_
      refine Sm.iload_n dL_law_313 rfl rfl rfl ?_
      refine Sm.iconst dL_law_314 ic_1 rfl ?_
      refine Sm.iadd dL_law_315 rfl ?_
      refine Sm.iff (fun q76 => ?_) (fun _ => Sm.none)
      refine Sm.sald q76 dL_law_316 rfl ?_
      refine Sm.ck (fun o77 => ?_)
      refine kc_L_37 o77 dL_law_317 rfl (Nat.le_of_ble_eq_true rfl) (Nat.le_of_ble_eq_true rfl) rfl (fun v78 h79 => ?_)
      refine Sm.aload_n dL_law_320 rfl rfl rfl ?_
      refine Sm.aload_n dL_law_321 rfl rfl rfl ?_
      refine Sm.iload_n dL_law_322 rfl rfl rfl ?_
      refine Sm.iconst dL_law_323 ic_1 rfl ?_
      refine Sm.iadd dL_law_324 rfl ?_
      refine Sm.iff (fun q80 => ?_) (fun _ => Sm.none)
      refine Sm.sald q80 dL_law_325 rfl ?_
      refine Sm.ck (fun o81 => ?_)
      refine kc_L_40 o81 dL_law_326 rfl (Nat.le_of_ble_eq_true rfl) (Nat.le_of_ble_eq_true rfl) rfl (fun v82 h83 => ?_)
      refine Sm.icmp_eq (t := 920) dL_law_329 (by decide) rfl (fun b84 => ?_) (fun b84 => ?_)
      · refine Sm.iinc (lv' := [.ref 0, .ref l1, .ref l2, .int (l3 + (5 : Int32))]) dL_law_920 rfl ic_5 rfl rfl ?_
        refine Sm.nm (LV := fun v85 => [.ref 0, .ref l1, .ref l2, .int v85]) (ST := fun v85 => []) (fun v85 => ?_)
        refine Sm.goto (t := 18) dL_law_923 (by decide) ?_
        exact Sm.wk (hk18 (v85, h83)) ⟨Or.inr rfl, Or.inr rfl, Or.inr rfl, Or.inr rfl, trivial⟩
      · refine Sm.iconst dL_law_332 ic_0 rfl ?_
        exact Sm.ret dL_law_333 (Or.inl rfl) rfl
    refine Sm.iff (fun b86 => ?_) (fun b86 => ?_)
    · refine Sm.tsAt (t := 334) (k := (6 : Int32)) (off := 302) b86 dL_law_32 (by decide) (by decide) (by decide) (by decide) ?_
      refine Sm.aload_n dL_law_334 rfl rfl rfl ?_
      refine Sm.aload_n dL_law_335 rfl rfl rfl ?_
      refine Sm.iload_n dL_law_336 rfl rfl rfl ?_
      refine Sm.iconst dL_law_337 ic_1 rfl ?_
      refine Sm.iadd dL_law_338 rfl ?_
      refine Sm.iff (fun q87 => ?_) (fun _ => Sm.none)
      refine Sm.sald q87 dL_law_339 rfl ?_
      refine Sm.ck (fun o88 => ?_)
      refine kc_L_41 o88 dL_law_340 rfl (Nat.le_of_ble_eq_true rfl) (Nat.le_of_ble_eq_true rfl) rfl (fun v89 h90 => ?_)
      refine Sm.aload_n dL_law_343 rfl rfl rfl ?_
      refine Sm.aload_n dL_law_344 rfl rfl rfl ?_
      refine Sm.iload_n dL_law_345 rfl rfl rfl ?_
      refine Sm.iconst dL_law_346 ic_1 rfl ?_
      refine Sm.iadd dL_law_347 rfl ?_
      refine Sm.iff (fun q91 => ?_) (fun _ => Sm.none)
      refine Sm.sald q91 dL_law_348 rfl ?_
      refine Sm.ck (fun o92 => ?_)
      refine kc_L_44 o92 dL_law_349 rfl (Nat.le_of_ble_eq_true rfl) (Nat.le_of_ble_eq_true rfl) rfl (fun v93 h94 => ?_)
      refine Sm.icmp_eq (t := 920) dL_law_352 (by decide) rfl (fun b95 => ?_) (fun b95 => ?_)
      · refine Sm.iinc (lv' := [.ref 0, .ref l1, .ref l2, .int (l3 + (5 : Int32))]) dL_law_920 rfl ic_5 rfl rfl ?_
        refine Sm.nm (LV := fun v96 => [.ref 0, .ref l1, .ref l2, .int v96]) (ST := fun v96 => []) (fun v96 => ?_)
        refine Sm.goto (t := 18) dL_law_923 (by decide) ?_
        exact Sm.wk (hk18 (v96, h94)) ⟨Or.inr rfl, Or.inr rfl, Or.inr rfl, Or.inr rfl, trivial⟩
      · refine Sm.iconst dL_law_355 ic_0 rfl ?_
        exact Sm.ret dL_law_356 (Or.inl rfl) rfl
    refine Sm.iff (fun b97 => ?_) (fun b97 => ?_)
    · refine Sm.tsAt (t := 357) (k := (7 : Int32)) (off := 325) b97 dL_law_32 (by decide) (by decide) (by decide) (by decide) ?_
      refine Sm.aload_n dL_law_357 rfl rfl rfl ?_
      refine Sm.aload_n dL_law_358 rfl rfl rfl ?_
      refine Sm.iload_n dL_law_359 rfl rfl rfl ?_
      refine Sm.iconst dL_law_360 ic_1 rfl ?_
      refine Sm.iadd dL_law_361 rfl ?_
      refine Sm.iff (fun q98 => ?_) (fun _ => Sm.none)
      refine Sm.sald q98 dL_law_362 rfl ?_
      refine Sm.aload_n dL_law_363 rfl rfl rfl ?_
      refine Sm.iload_n dL_law_364 rfl rfl rfl ?_
      refine Sm.iconst dL_law_365 ic_2 rfl ?_
      refine Sm.iadd dL_law_366 rfl ?_
      refine Sm.iff (fun q99 => ?_) (fun _ => Sm.none)
      refine Sm.sald q99 dL_law_367 rfl ?_
      refine Sm.ck (fun o100 => ?_)
      refine kc_L_45 o100 dL_law_368 rfl (Nat.le_of_ble_eq_true rfl) (Nat.le_of_ble_eq_true rfl) rfl (fun v101 h102 => ?_)
      refine Sm.aload_n dL_law_371 rfl rfl rfl ?_
      refine Sm.aload_n dL_law_372 rfl rfl rfl ?_
      refine Sm.iload_n dL_law_373 rfl rfl rfl ?_
      refine Sm.iconst dL_law_374 ic_1 rfl ?_
      refine Sm.iadd dL_law_375 rfl ?_
      refine Sm.iff (fun q103 => ?_) (fun _ => Sm.none)
      refine Sm.sald q103 dL_law_376 rfl ?_
      refine Sm.aload_n dL_law_377 rfl rfl rfl ?_
      refine Sm.iload_n dL_law_378 rfl rfl rfl ?_
      refine Sm.iconst dL_law_379 ic_2 rfl ?_
      refine Sm.iadd dL_law_380 rfl ?_
      refine Sm.iff (fun q104 => ?_) (fun _ => Sm.none)
      refine Sm.sald q104 dL_law_381 rfl ?_
      refine Sm.ck (fun o105 => ?_)
      refine kc_L_49 o105 dL_law_382 rfl (Nat.le_of_ble_eq_true rfl) (Nat.le_of_ble_eq_true rfl) rfl (fun v106 h107 => ?_)
      refine Sm.icmp_eq (t := 920) dL_law_385 (by decide) rfl (fun b108 => ?_) (fun b108 => ?_)
      · refine Sm.iinc (lv' := [.ref 0, .ref l1, .ref l2, .int (l3 + (5 : Int32))]) dL_law_920 rfl ic_5 rfl rfl ?_
        refine Sm.nm (LV := fun v109 => [.ref 0, .ref l1, .ref l2, .int v109]) (ST := fun v109 => []) (fun v109 => ?_)
        refine Sm.goto (t := 18) dL_law_923 (by decide) ?_
        exact Sm.wk (hk18 (v109, h107)) ⟨Or.inr rfl, Or.inr rfl, Or.inr rfl, Or.inr rfl, trivial⟩
      · refine Sm.iconst dL_law_388 ic_0 rfl ?_
        exact Sm.ret dL_law_389 (Or.inl rfl) rfl
    refine Sm.iff (fun b110 => ?_) (fun b110 => ?_)
    · refine Sm.tsAt (t := 390) (k := (8 : Int32)) (off := 358) b110 dL_law_32 (by decide) (by decide) (by decide) (by decide) ?_
      refine Sm.aload_n dL_law_390 rfl rfl rfl ?_
      refine Sm.aload_n dL_law_391 rfl rfl rfl ?_
      refine Sm.iload_n dL_law_392 rfl rfl rfl ?_
      refine Sm.iconst dL_law_393 ic_1 rfl ?_
      refine Sm.iadd dL_law_394 rfl ?_
      refine Sm.iff (fun q111 => ?_) (fun _ => Sm.none)
      refine Sm.sald q111 dL_law_395 rfl ?_
      refine Sm.aload_n dL_law_396 rfl rfl rfl ?_
      refine Sm.iload_n dL_law_397 rfl rfl rfl ?_
      refine Sm.iconst dL_law_398 ic_2 rfl ?_
      refine Sm.iadd dL_law_399 rfl ?_
      refine Sm.iff (fun q112 => ?_) (fun _ => Sm.none)
      refine Sm.sald q112 dL_law_400 rfl ?_
      refine Sm.ck (fun o113 => ?_)
      refine kc_L_50 o113 dL_law_401 rfl (Nat.le_of_ble_eq_true rfl) (Nat.le_of_ble_eq_true rfl) rfl (fun v114 h115 => ?_)
      refine Sm.aload_n dL_law_404 rfl rfl rfl ?_
      refine Sm.aload_n dL_law_405 rfl rfl rfl ?_
      refine Sm.iload_n dL_law_406 rfl rfl rfl ?_
      refine Sm.iconst dL_law_407 ic_1 rfl ?_
      refine Sm.iadd dL_law_408 rfl ?_
      refine Sm.iff (fun q116 => ?_) (fun _ => Sm.none)
      refine Sm.sald q116 dL_law_409 rfl ?_
      refine Sm.aload_n dL_law_410 rfl rfl rfl ?_
      refine Sm.iload_n dL_law_411 rfl rfl rfl ?_
      refine Sm.iconst dL_law_412 ic_2 rfl ?_
      refine Sm.iadd dL_law_413 rfl ?_
      refine Sm.iff (fun q117 => ?_) (fun _ => Sm.none)
      refine Sm.sald q117 dL_law_414 rfl ?_
      refine Sm.ck (fun o118 => ?_)
      refine kc_L_54 o118 dL_law_415 rfl (Nat.le_of_ble_eq_true rfl) (Nat.le_of_ble_eq_true rfl) rfl (fun v119 h120 => ?_)
      refine Sm.lcmp dL_law_418 rfl ?_
      refine Sm.if_eq (t := 920) dL_law_419 (by decide) rfl (fun b121 => ?_) (fun b121 => ?_)
      · refine Sm.iinc (lv' := [.ref 0, .ref l1, .ref l2, .int (l3 + (5 : Int32))]) dL_law_920 rfl ic_5 rfl rfl ?_
        refine Sm.nm (LV := fun v122 => [.ref 0, .ref l1, .ref l2, .int v122]) (ST := fun v122 => []) (fun v122 => ?_)
        refine Sm.goto (t := 18) dL_law_923 (by decide) ?_
        exact Sm.wk (hk18 (v122, h120)) ⟨Or.inr rfl, Or.inr rfl, Or.inr rfl, Or.inr rfl, trivial⟩
      · refine Sm.iconst dL_law_422 ic_0 rfl ?_
        exact Sm.ret dL_law_423 (Or.inl rfl) rfl
    refine Sm.iff (fun b123 => ?_) (fun b123 => ?_)
    · refine Sm.tsAt (t := 424) (k := (9 : Int32)) (off := 392) b123 dL_law_32 (by decide) (by decide) (by decide) (by decide) ?_
      refine Sm.aload_n dL_law_424 rfl rfl rfl ?_
      refine Sm.aload_n dL_law_425 rfl rfl rfl ?_
      refine Sm.iload_n dL_law_426 rfl rfl rfl ?_
      refine Sm.iconst dL_law_427 ic_1 rfl ?_
      refine Sm.iadd dL_law_428 rfl ?_
      refine Sm.iff (fun q124 => ?_) (fun _ => Sm.none)
      refine Sm.sald q124 dL_law_429 rfl ?_
      refine Sm.ck (fun o125 => ?_)
      refine kc_L_55 o125 dL_law_430 rfl (Nat.le_of_ble_eq_true rfl) (Nat.le_of_ble_eq_true rfl) rfl (fun v126 h127 => ?_)
      refine Sm.aload_n dL_law_433 rfl rfl rfl ?_
      refine Sm.aload_n dL_law_434 rfl rfl rfl ?_
      refine Sm.iload_n dL_law_435 rfl rfl rfl ?_
      refine Sm.iconst dL_law_436 ic_1 rfl ?_
      refine Sm.iadd dL_law_437 rfl ?_
      refine Sm.iff (fun q128 => ?_) (fun _ => Sm.none)
      refine Sm.sald q128 dL_law_438 rfl ?_
      refine Sm.ck (fun o129 => ?_)
      refine kc_L_59 o129 dL_law_439 rfl (Nat.le_of_ble_eq_true rfl) (Nat.le_of_ble_eq_true rfl) rfl (fun v130 h131 => ?_)
      refine Sm.lcmp dL_law_442 rfl ?_
      refine Sm.if_eq (t := 920) dL_law_443 (by decide) rfl (fun b132 => ?_) (fun b132 => ?_)
      · refine Sm.iinc (lv' := [.ref 0, .ref l1, .ref l2, .int (l3 + (5 : Int32))]) dL_law_920 rfl ic_5 rfl rfl ?_
        refine Sm.nm (LV := fun v133 => [.ref 0, .ref l1, .ref l2, .int v133]) (ST := fun v133 => []) (fun v133 => ?_)
        refine Sm.goto (t := 18) dL_law_923 (by decide) ?_
        exact Sm.wk (hk18 (v133, h131)) ⟨Or.inr rfl, Or.inr rfl, Or.inr rfl, Or.inr rfl, trivial⟩
      · refine Sm.iconst dL_law_446 ic_0 rfl ?_
        exact Sm.ret dL_law_447 (Or.inl rfl) rfl
    refine Sm.iff (fun b134 => ?_) (fun b134 => ?_)
    · refine Sm.tsAt (t := 448) (k := (10 : Int32)) (off := 416) b134 dL_law_32 (by decide) (by decide) (by decide) (by decide) ?_
      refine Sm.aload_n dL_law_448 rfl rfl rfl ?_
      refine Sm.aload_n dL_law_449 rfl rfl rfl ?_
      refine Sm.iload_n dL_law_450 rfl rfl rfl ?_
      refine Sm.iconst dL_law_451 ic_1 rfl ?_
      refine Sm.iadd dL_law_452 rfl ?_
      refine Sm.iff (fun q135 => ?_) (fun _ => Sm.none)
      refine Sm.sald q135 dL_law_453 rfl ?_
      refine Sm.ck (fun o136 => ?_)
      refine kc_L_60 o136 dL_law_454 rfl (Nat.le_of_ble_eq_true rfl) (Nat.le_of_ble_eq_true rfl) rfl (fun v137 h138 => ?_)
      refine Sm.aload_n dL_law_457 rfl rfl rfl ?_
      refine Sm.aload_n dL_law_458 rfl rfl rfl ?_
      refine Sm.iload_n dL_law_459 rfl rfl rfl ?_
      refine Sm.iconst dL_law_460 ic_1 rfl ?_
      refine Sm.iadd dL_law_461 rfl ?_
      refine Sm.iff (fun q139 => ?_) (fun _ => Sm.none)
      refine Sm.sald q139 dL_law_462 rfl ?_
      refine Sm.ck (fun o140 => ?_)
      refine kc_L_63 o140 dL_law_463 rfl (Nat.le_of_ble_eq_true rfl) (Nat.le_of_ble_eq_true rfl) rfl (fun v141 h142 => ?_)
      refine Sm.icmp_eq (t := 920) dL_law_466 (by decide) rfl (fun b143 => ?_) (fun b143 => ?_)
      · refine Sm.iinc (lv' := [.ref 0, .ref l1, .ref l2, .int (l3 + (5 : Int32))]) dL_law_920 rfl ic_5 rfl rfl ?_
        refine Sm.nm (LV := fun v144 => [.ref 0, .ref l1, .ref l2, .int v144]) (ST := fun v144 => []) (fun v144 => ?_)
        refine Sm.goto (t := 18) dL_law_923 (by decide) ?_
        exact Sm.wk (hk18 (v144, h142)) ⟨Or.inr rfl, Or.inr rfl, Or.inr rfl, Or.inr rfl, trivial⟩
      · refine Sm.iconst dL_law_469 ic_0 rfl ?_
        exact Sm.ret dL_law_470 (Or.inl rfl) rfl
    refine Sm.iff (fun b145 => ?_) (fun b145 => ?_)
    · refine Sm.tsAt (t := 471) (k := (11 : Int32)) (off := 439) b145 dL_law_32 (by decide) (by decide) (by decide) (by decide) ?_
      refine Sm.aload_n dL_law_471 rfl rfl rfl ?_
      refine Sm.aload_n dL_law_472 rfl rfl rfl ?_
      refine Sm.iload_n dL_law_473 rfl rfl rfl ?_
      refine Sm.iconst dL_law_474 ic_1 rfl ?_
      refine Sm.iadd dL_law_475 rfl ?_
      refine Sm.iff (fun q146 => ?_) (fun _ => Sm.none)
      refine Sm.sald q146 dL_law_476 rfl ?_
      refine Sm.ck (fun o147 => ?_)
      refine kc_L_64 o147 dL_law_477 rfl (Nat.le_of_ble_eq_true rfl) (Nat.le_of_ble_eq_true rfl) rfl (fun v148 h149 => ?_)
      refine Sm.aload_n dL_law_480 rfl rfl rfl ?_
      refine Sm.aload_n dL_law_481 rfl rfl rfl ?_
      refine Sm.iload_n dL_law_482 rfl rfl rfl ?_
      refine Sm.iconst dL_law_483 ic_1 rfl ?_
      refine Sm.iadd dL_law_484 rfl ?_
      refine Sm.iff (fun q150 => ?_) (fun _ => Sm.none)
      refine Sm.sald q150 dL_law_485 rfl ?_
      refine Sm.ck (fun o151 => ?_)
      refine kc_L_67 o151 dL_law_486 rfl (Nat.le_of_ble_eq_true rfl) (Nat.le_of_ble_eq_true rfl) rfl (fun v152 h153 => ?_)
      refine Sm.icmp_eq (t := 920) dL_law_489 (by decide) rfl (fun b154 => ?_) (fun b154 => ?_)
      · refine Sm.iinc (lv' := [.ref 0, .ref l1, .ref l2, .int (l3 + (5 : Int32))]) dL_law_920 rfl ic_5 rfl rfl ?_
        refine Sm.nm (LV := fun v155 => [.ref 0, .ref l1, .ref l2, .int v155]) (ST := fun v155 => []) (fun v155 => ?_)
        refine Sm.goto (t := 18) dL_law_923 (by decide) ?_
        exact Sm.wk (hk18 (v155, h153)) ⟨Or.inr rfl, Or.inr rfl, Or.inr rfl, Or.inr rfl, trivial⟩
      · refine Sm.iconst dL_law_492 ic_0 rfl ?_
        exact Sm.ret dL_law_493 (Or.inl rfl) rfl
    refine Sm.iff (fun b156 => ?_) (fun b156 => ?_)
    · refine Sm.tsAt (t := 494) (k := (12 : Int32)) (off := 462) b156 dL_law_32 (by decide) (by decide) (by decide) (by decide) ?_
      refine Sm.aload_n dL_law_494 rfl rfl rfl ?_
      refine Sm.aload_n dL_law_495 rfl rfl rfl ?_
      refine Sm.iload_n dL_law_496 rfl rfl rfl ?_
      refine Sm.iconst dL_law_497 ic_1 rfl ?_
      refine Sm.iadd dL_law_498 rfl ?_
      refine Sm.iff (fun q157 => ?_) (fun _ => Sm.none)
      refine Sm.sald q157 dL_law_499 rfl ?_
      refine Sm.aload_n dL_law_500 rfl rfl rfl ?_
      refine Sm.iload_n dL_law_501 rfl rfl rfl ?_
      refine Sm.iconst dL_law_502 ic_2 rfl ?_
      refine Sm.iadd dL_law_503 rfl ?_
      refine Sm.iff (fun q158 => ?_) (fun _ => Sm.none)
      refine Sm.sald q158 dL_law_504 rfl ?_
      refine Sm.ck (fun o159 => ?_)
      refine kc_L_68 o159 dL_law_505 rfl (Nat.le_of_ble_eq_true rfl) (Nat.le_of_ble_eq_true rfl) rfl (fun v160 h161 => ?_)
      refine Sm.aload_n dL_law_508 rfl rfl rfl ?_
      refine Sm.aload_n dL_law_509 rfl rfl rfl ?_
      refine Sm.iload_n dL_law_510 rfl rfl rfl ?_
      refine Sm.iconst dL_law_511 ic_1 rfl ?_
      refine Sm.iadd dL_law_512 rfl ?_
      refine Sm.iff (fun q162 => ?_) (fun _ => Sm.none)
      refine Sm.sald q162 dL_law_513 rfl ?_
      refine Sm.aload_n dL_law_514 rfl rfl rfl ?_
      refine Sm.iload_n dL_law_515 rfl rfl rfl ?_
      refine Sm.iconst dL_law_516 ic_2 rfl ?_
      refine Sm.iadd dL_law_517 rfl ?_
      refine Sm.iff (fun q163 => ?_) (fun _ => Sm.none)
      refine Sm.sald q163 dL_law_518 rfl ?_
      refine Sm.ck (fun o164 => ?_)
      refine kc_L_71 o164 dL_law_519 rfl (Nat.le_of_ble_eq_true rfl) (Nat.le_of_ble_eq_true rfl) rfl (fun v165 h166 => ?_)
      refine Sm.icmp_eq (t := 920) dL_law_522 (by decide) rfl (fun b167 => ?_) (fun b167 => ?_)
      · refine Sm.iinc (lv' := [.ref 0, .ref l1, .ref l2, .int (l3 + (5 : Int32))]) dL_law_920 rfl ic_5 rfl rfl ?_
        refine Sm.nm (LV := fun v168 => [.ref 0, .ref l1, .ref l2, .int v168]) (ST := fun v168 => []) (fun v168 => ?_)
        refine Sm.goto (t := 18) dL_law_923 (by decide) ?_
        exact Sm.wk (hk18 (v168, h166)) ⟨Or.inr rfl, Or.inr rfl, Or.inr rfl, Or.inr rfl, trivial⟩
      · refine Sm.iconst dL_law_525 ic_0 rfl ?_
        exact Sm.ret dL_law_526 (Or.inl rfl) rfl
    refine Sm.iff (fun b169 => ?_) (fun b169 => ?_)
    · refine Sm.tsAt (t := 527) (k := (13 : Int32)) (off := 495) b169 dL_law_32 (by decide) (by decide) (by decide) (by decide) ?_
      refine Sm.aload_n dL_law_527 rfl rfl rfl ?_
      refine Sm.aload_n dL_law_528 rfl rfl rfl ?_
      refine Sm.iload_n dL_law_529 rfl rfl rfl ?_
      refine Sm.iconst dL_law_530 ic_1 rfl ?_
      refine Sm.iadd dL_law_531 rfl ?_
      refine Sm.iff (fun q170 => ?_) (fun _ => Sm.none)
      refine Sm.sald q170 dL_law_532 rfl ?_
      refine Sm.aload_n dL_law_533 rfl rfl rfl ?_
      refine Sm.iload_n dL_law_534 rfl rfl rfl ?_
      refine Sm.iconst dL_law_535 ic_2 rfl ?_
      refine Sm.iadd dL_law_536 rfl ?_
      refine Sm.iff (fun q171 => ?_) (fun _ => Sm.none)
      refine Sm.sald q171 dL_law_537 rfl ?_
      refine Sm.ck (fun o172 => ?_)
      refine kc_L_72 o172 dL_law_538 rfl (Nat.le_of_ble_eq_true rfl) (Nat.le_of_ble_eq_true rfl) rfl (fun v173 h174 => ?_)
      refine Sm.aload_n dL_law_541 rfl rfl rfl ?_
      refine Sm.aload_n dL_law_542 rfl rfl rfl ?_
      refine Sm.iload_n dL_law_543 rfl rfl rfl ?_
      refine Sm.iconst dL_law_544 ic_1 rfl ?_
      refine Sm.iadd dL_law_545 rfl ?_
      refine Sm.iff (fun q175 => ?_) (fun _ => Sm.none)
      refine Sm.sald q175 dL_law_546 rfl ?_
      refine Sm.aload_n dL_law_547 rfl rfl rfl ?_
      refine Sm.iload_n dL_law_548 rfl rfl rfl ?_
      refine Sm.iconst dL_law_549 ic_2 rfl ?_
      refine Sm.iadd dL_law_550 rfl ?_
      refine Sm.iff (fun q176 => ?_) (fun _ => Sm.none)
      refine Sm.sald q176 dL_law_551 rfl ?_
      refine Sm.ck (fun o177 => ?_)
      refine kc_L_75 o177 dL_law_552 rfl (Nat.le_of_ble_eq_true rfl) (Nat.le_of_ble_eq_true rfl) rfl (fun v178 h179 => ?_)
      refine Sm.icmp_eq (t := 920) dL_law_555 (by decide) rfl (fun b180 => ?_) (fun b180 => ?_)
      · refine Sm.iinc (lv' := [.ref 0, .ref l1, .ref l2, .int (l3 + (5 : Int32))]) dL_law_920 rfl ic_5 rfl rfl ?_
        refine Sm.nm (LV := fun v181 => [.ref 0, .ref l1, .ref l2, .int v181]) (ST := fun v181 => []) (fun v181 => ?_)
        refine Sm.goto (t := 18) dL_law_923 (by decide) ?_
        exact Sm.wk (hk18 (v181, h179)) ⟨Or.inr rfl, Or.inr rfl, Or.inr rfl, Or.inr rfl, trivial⟩
      · refine Sm.iconst dL_law_558 ic_0 rfl ?_
        exact Sm.ret dL_law_559 (Or.inl rfl) rfl
    refine Sm.iff (fun b182 => ?_) (fun b182 => ?_)
    · refine Sm.tsAt (t := 560) (k := (14 : Int32)) (off := 528) b182 dL_law_32 (by decide) (by decide) (by decide) (by decide) ?_
      refine Sm.aload_n dL_law_560 rfl rfl rfl ?_
      refine Sm.aload_n dL_law_561 rfl rfl rfl ?_
      refine Sm.iload_n dL_law_562 rfl rfl rfl ?_
      refine Sm.iconst dL_law_563 ic_1 rfl ?_
      refine Sm.iadd dL_law_564 rfl ?_
      refine Sm.iff (fun q183 => ?_) (fun _ => Sm.none)
      refine Sm.sald q183 dL_law_565 rfl ?_
      refine Sm.aload_n dL_law_566 rfl rfl rfl ?_
      refine Sm.iload_n dL_law_567 rfl rfl rfl ?_
      refine Sm.iconst dL_law_568 ic_2 rfl ?_
      refine Sm.iadd dL_law_569 rfl ?_
      refine Sm.iff (fun q184 => ?_) (fun _ => Sm.none)
      refine Sm.sald q184 dL_law_570 rfl ?_
      refine Sm.ck (fun o185 => ?_)
      refine kc_L_76 o185 dL_law_571 rfl (Nat.le_of_ble_eq_true rfl) (Nat.le_of_ble_eq_true rfl) rfl (fun v186 h187 => ?_)
      refine Sm.aload_n dL_law_574 rfl rfl rfl ?_
      refine Sm.aload_n dL_law_575 rfl rfl rfl ?_
      refine Sm.iload_n dL_law_576 rfl rfl rfl ?_
      refine Sm.iconst dL_law_577 ic_1 rfl ?_
      refine Sm.iadd dL_law_578 rfl ?_
      refine Sm.iff (fun q188 => ?_) (fun _ => Sm.none)
      refine Sm.sald q188 dL_law_579 rfl ?_
      refine Sm.aload_n dL_law_580 rfl rfl rfl ?_
      refine Sm.iload_n dL_law_581 rfl rfl rfl ?_
      refine Sm.iconst dL_law_582 ic_2 rfl ?_
      refine Sm.iadd dL_law_583 rfl ?_
      refine Sm.iff (fun q189 => ?_) (fun _ => Sm.none)
      refine Sm.sald q189 dL_law_584 rfl ?_
      refine Sm.ck (fun o190 => ?_)
      refine kc_L_79 o190 dL_law_585 rfl (Nat.le_of_ble_eq_true rfl) (Nat.le_of_ble_eq_true rfl) rfl (fun v191 h192 => ?_)
      refine Sm.icmp_eq (t := 920) dL_law_588 (by decide) rfl (fun b193 => ?_) (fun b193 => ?_)
      · refine Sm.iinc (lv' := [.ref 0, .ref l1, .ref l2, .int (l3 + (5 : Int32))]) dL_law_920 rfl ic_5 rfl rfl ?_
        refine Sm.nm (LV := fun v194 => [.ref 0, .ref l1, .ref l2, .int v194]) (ST := fun v194 => []) (fun v194 => ?_)
        refine Sm.goto (t := 18) dL_law_923 (by decide) ?_
        exact Sm.wk (hk18 (v194, h192)) ⟨Or.inr rfl, Or.inr rfl, Or.inr rfl, Or.inr rfl, trivial⟩
      · refine Sm.iconst dL_law_591 ic_0 rfl ?_
        exact Sm.ret dL_law_592 (Or.inl rfl) rfl
    refine Sm.iff (fun b195 => ?_) (fun b195 => ?_)
    · refine Sm.tsAt (t := 593) (k := (15 : Int32)) (off := 561) b195 dL_law_32 (by decide) (by decide) (by decide) (by decide) ?_
      refine Sm.aload_n dL_law_593 rfl rfl rfl ?_
      refine Sm.aload_n dL_law_594 rfl rfl rfl ?_
      refine Sm.iload_n dL_law_595 rfl rfl rfl ?_
      refine Sm.iconst dL_law_596 ic_1 rfl ?_
      refine Sm.iadd dL_law_597 rfl ?_
      refine Sm.iff (fun q196 => ?_) (fun _ => Sm.none)
      refine Sm.sald q196 dL_law_598 rfl ?_
      refine Sm.ck (fun o197 => ?_)
      refine kc_L_80 o197 dL_law_599 rfl (Nat.le_of_ble_eq_true rfl) (Nat.le_of_ble_eq_true rfl) rfl (fun v198 h199 => ?_)
      refine Sm.aload_n dL_law_602 rfl rfl rfl ?_
      refine Sm.aload_n dL_law_603 rfl rfl rfl ?_
      refine Sm.iload_n dL_law_604 rfl rfl rfl ?_
      refine Sm.iconst dL_law_605 ic_1 rfl ?_
      refine Sm.iadd dL_law_606 rfl ?_
      refine Sm.iff (fun q200 => ?_) (fun _ => Sm.none)
      refine Sm.sald q200 dL_law_607 rfl ?_
      refine Sm.ck (fun o201 => ?_)
      refine kc_L_83 o201 dL_law_608 rfl (Nat.le_of_ble_eq_true rfl) (Nat.le_of_ble_eq_true rfl) rfl (fun v202 h203 => ?_)
      refine Sm.icmp_eq (t := 920) dL_law_611 (by decide) rfl (fun b204 => ?_) (fun b204 => ?_)
      · refine Sm.iinc (lv' := [.ref 0, .ref l1, .ref l2, .int (l3 + (5 : Int32))]) dL_law_920 rfl ic_5 rfl rfl ?_
        refine Sm.nm (LV := fun v205 => [.ref 0, .ref l1, .ref l2, .int v205]) (ST := fun v205 => []) (fun v205 => ?_)
        refine Sm.goto (t := 18) dL_law_923 (by decide) ?_
        exact Sm.wk (hk18 (v205, h203)) ⟨Or.inr rfl, Or.inr rfl, Or.inr rfl, Or.inr rfl, trivial⟩
      · refine Sm.iconst dL_law_614 ic_0 rfl ?_
        exact Sm.ret dL_law_615 (Or.inl rfl) rfl
    refine Sm.iff (fun b206 => ?_) (fun b206 => ?_)
    · refine Sm.tsAt (t := 616) (k := (16 : Int32)) (off := 584) b206 dL_law_32 (by decide) (by decide) (by decide) (by decide) ?_
      refine Sm.aload_n dL_law_616 rfl rfl rfl ?_
      refine Sm.aload_n dL_law_617 rfl rfl rfl ?_
      refine Sm.iload_n dL_law_618 rfl rfl rfl ?_
      refine Sm.iconst dL_law_619 ic_1 rfl ?_
      refine Sm.iadd dL_law_620 rfl ?_
      refine Sm.iff (fun q207 => ?_) (fun _ => Sm.none)
      refine Sm.sald q207 dL_law_621 rfl ?_
      refine Sm.ck (fun o208 => ?_)
      refine kc_L_84 o208 dL_law_622 rfl (Nat.le_of_ble_eq_true rfl) (Nat.le_of_ble_eq_true rfl) rfl (fun v209 h210 => ?_)
      refine Sm.aload_n dL_law_625 rfl rfl rfl ?_
      refine Sm.aload_n dL_law_626 rfl rfl rfl ?_
      refine Sm.iload_n dL_law_627 rfl rfl rfl ?_
      refine Sm.iconst dL_law_628 ic_1 rfl ?_
      refine Sm.iadd dL_law_629 rfl ?_
      refine Sm.iff (fun q211 => ?_) (fun _ => Sm.none)
      refine Sm.sald q211 dL_law_630 rfl ?_
      refine Sm.ck (fun o212 => ?_)
      refine kc_L_87 o212 dL_law_631 rfl (Nat.le_of_ble_eq_true rfl) (Nat.le_of_ble_eq_true rfl) rfl (fun v213 h214 => ?_)
      refine Sm.icmp_eq (t := 920) dL_law_634 (by decide) rfl (fun b215 => ?_) (fun b215 => ?_)
      · refine Sm.iinc (lv' := [.ref 0, .ref l1, .ref l2, .int (l3 + (5 : Int32))]) dL_law_920 rfl ic_5 rfl rfl ?_
        refine Sm.nm (LV := fun v216 => [.ref 0, .ref l1, .ref l2, .int v216]) (ST := fun v216 => []) (fun v216 => ?_)
        refine Sm.goto (t := 18) dL_law_923 (by decide) ?_
        exact Sm.wk (hk18 (v216, h214)) ⟨Or.inr rfl, Or.inr rfl, Or.inr rfl, Or.inr rfl, trivial⟩
      · refine Sm.iconst dL_law_637 ic_0 rfl ?_
        exact Sm.ret dL_law_638 (Or.inl rfl) rfl
    refine Sm.iff (fun b217 => ?_) (fun b217 => ?_)
    · refine Sm.tsAt (t := 639) (k := (17 : Int32)) (off := 607) b217 dL_law_32 (by decide) (by decide) (by decide) (by decide) ?_
      refine Sm.aload_n dL_law_639 rfl rfl rfl ?_
      refine Sm.aload_n dL_law_640 rfl rfl rfl ?_
      refine Sm.iload_n dL_law_641 rfl rfl rfl ?_
      refine Sm.iconst dL_law_642 ic_1 rfl ?_
      refine Sm.iadd dL_law_643 rfl ?_
      refine Sm.iff (fun q218 => ?_) (fun _ => Sm.none)
      refine Sm.sald q218 dL_law_644 rfl ?_
      refine Sm.ck (fun o219 => ?_)
      refine kc_L_88 o219 dL_law_645 rfl (Nat.le_of_ble_eq_true rfl) (Nat.le_of_ble_eq_true rfl) rfl (fun v220 h221 => ?_)
      refine Sm.aload_n dL_law_648 rfl rfl rfl ?_
      refine Sm.aload_n dL_law_649 rfl rfl rfl ?_
      refine Sm.iload_n dL_law_650 rfl rfl rfl ?_
      refine Sm.iconst dL_law_651 ic_1 rfl ?_
      refine Sm.iadd dL_law_652 rfl ?_
      refine Sm.iff (fun q222 => ?_) (fun _ => Sm.none)
      refine Sm.sald q222 dL_law_653 rfl ?_
      refine Sm.ck (fun o223 => ?_)
      refine kc_L_91 o223 dL_law_654 rfl (Nat.le_of_ble_eq_true rfl) (Nat.le_of_ble_eq_true rfl) rfl (fun v224 h225 => ?_)
      refine Sm.icmp_eq (t := 920) dL_law_657 (by decide) rfl (fun b226 => ?_) (fun b226 => ?_)
      · refine Sm.iinc (lv' := [.ref 0, .ref l1, .ref l2, .int (l3 + (5 : Int32))]) dL_law_920 rfl ic_5 rfl rfl ?_
        refine Sm.nm (LV := fun v227 => [.ref 0, .ref l1, .ref l2, .int v227]) (ST := fun v227 => []) (fun v227 => ?_)
        refine Sm.goto (t := 18) dL_law_923 (by decide) ?_
        exact Sm.wk (hk18 (v227, h225)) ⟨Or.inr rfl, Or.inr rfl, Or.inr rfl, Or.inr rfl, trivial⟩
      · refine Sm.iconst dL_law_660 ic_0 rfl ?_
        exact Sm.ret dL_law_661 (Or.inl rfl) rfl
    refine Sm.iff (fun b228 => ?_) (fun b228 => ?_)
    · refine Sm.tsAt (t := 662) (k := (18 : Int32)) (off := 630) b228 dL_law_32 (by decide) (by decide) (by decide) (by decide) ?_
      refine Sm.aload_n dL_law_662 rfl rfl rfl ?_
      refine Sm.aload_n dL_law_663 rfl rfl rfl ?_
      refine Sm.iload_n dL_law_664 rfl rfl rfl ?_
      refine Sm.iconst dL_law_665 ic_1 rfl ?_
      refine Sm.iadd dL_law_666 rfl ?_
      refine Sm.iff (fun q229 => ?_) (fun _ => Sm.none)
      refine Sm.sald q229 dL_law_667 rfl ?_
      refine Sm.aload_n dL_law_668 rfl rfl rfl ?_
      refine Sm.iload_n dL_law_669 rfl rfl rfl ?_
      refine Sm.iconst dL_law_670 ic_2 rfl ?_
      refine Sm.iadd dL_law_671 rfl ?_
      refine Sm.iff (fun q230 => ?_) (fun _ => Sm.none)
      refine Sm.sald q230 dL_law_672 rfl ?_
      refine Sm.ck (fun o231 => ?_)
      refine kc_L_92 o231 dL_law_673 rfl (Nat.le_of_ble_eq_true rfl) (Nat.le_of_ble_eq_true rfl) rfl (fun v232 h233 => ?_)
      refine Sm.aload_n dL_law_676 rfl rfl rfl ?_
      refine Sm.aload_n dL_law_677 rfl rfl rfl ?_
      refine Sm.iload_n dL_law_678 rfl rfl rfl ?_
      refine Sm.iconst dL_law_679 ic_1 rfl ?_
      refine Sm.iadd dL_law_680 rfl ?_
      refine Sm.iff (fun q234 => ?_) (fun _ => Sm.none)
      refine Sm.sald q234 dL_law_681 rfl ?_
      refine Sm.aload_n dL_law_682 rfl rfl rfl ?_
      refine Sm.iload_n dL_law_683 rfl rfl rfl ?_
      refine Sm.iconst dL_law_684 ic_2 rfl ?_
      refine Sm.iadd dL_law_685 rfl ?_
      refine Sm.iff (fun q235 => ?_) (fun _ => Sm.none)
      refine Sm.sald q235 dL_law_686 rfl ?_
      refine Sm.ck (fun o236 => ?_)
      refine kc_L_95 o236 dL_law_687 rfl (Nat.le_of_ble_eq_true rfl) (Nat.le_of_ble_eq_true rfl) rfl (fun v237 h238 => ?_)
      refine Sm.icmp_eq (t := 920) dL_law_690 (by decide) rfl (fun b239 => ?_) (fun b239 => ?_)
      · refine Sm.iinc (lv' := [.ref 0, .ref l1, .ref l2, .int (l3 + (5 : Int32))]) dL_law_920 rfl ic_5 rfl rfl ?_
        refine Sm.nm (LV := fun v240 => [.ref 0, .ref l1, .ref l2, .int v240]) (ST := fun v240 => []) (fun v240 => ?_)
        refine Sm.goto (t := 18) dL_law_923 (by decide) ?_
        exact Sm.wk (hk18 (v240, h238)) ⟨Or.inr rfl, Or.inr rfl, Or.inr rfl, Or.inr rfl, trivial⟩
      · refine Sm.iconst dL_law_693 ic_0 rfl ?_
        exact Sm.ret dL_law_694 (Or.inl rfl) rfl
    refine Sm.iff (fun b241 => ?_) (fun b241 => ?_)
    · refine Sm.tsAt (t := 695) (k := (19 : Int32)) (off := 663) b241 dL_law_32 (by decide) (by decide) (by decide) (by decide) ?_
      refine Sm.aload_n dL_law_695 rfl rfl rfl ?_
      refine Sm.aload_n dL_law_696 rfl rfl rfl ?_
      refine Sm.iload_n dL_law_697 rfl rfl rfl ?_
      refine Sm.iconst dL_law_698 ic_1 rfl ?_
      refine Sm.iadd dL_law_699 rfl ?_
      refine Sm.iff (fun q242 => ?_) (fun _ => Sm.none)
      refine Sm.sald q242 dL_law_700 rfl ?_
      refine Sm.ck (fun o243 => ?_)
      refine kc_L_96 o243 dL_law_701 rfl (Nat.le_of_ble_eq_true rfl) (Nat.le_of_ble_eq_true rfl) rfl (fun v244 h245 => ?_)
      refine Sm.aload_n dL_law_704 rfl rfl rfl ?_
      refine Sm.aload_n dL_law_705 rfl rfl rfl ?_
      refine Sm.iload_n dL_law_706 rfl rfl rfl ?_
      refine Sm.iconst dL_law_707 ic_1 rfl ?_
      refine Sm.iadd dL_law_708 rfl ?_
      refine Sm.iff (fun q246 => ?_) (fun _ => Sm.none)
      refine Sm.sald q246 dL_law_709 rfl ?_
      refine Sm.ck (fun o247 => ?_)
      refine kc_L_99 o247 dL_law_710 rfl (Nat.le_of_ble_eq_true rfl) (Nat.le_of_ble_eq_true rfl) rfl (fun v248 h249 => ?_)
      refine Sm.icmp_eq (t := 920) dL_law_713 (by decide) rfl (fun b250 => ?_) (fun b250 => ?_)
      · refine Sm.iinc (lv' := [.ref 0, .ref l1, .ref l2, .int (l3 + (5 : Int32))]) dL_law_920 rfl ic_5 rfl rfl ?_
        refine Sm.nm (LV := fun v251 => [.ref 0, .ref l1, .ref l2, .int v251]) (ST := fun v251 => []) (fun v251 => ?_)
        refine Sm.goto (t := 18) dL_law_923 (by decide) ?_
        exact Sm.wk (hk18 (v251, h249)) ⟨Or.inr rfl, Or.inr rfl, Or.inr rfl, Or.inr rfl, trivial⟩
      · refine Sm.iconst dL_law_716 ic_0 rfl ?_
        exact Sm.ret dL_law_717 (Or.inl rfl) rfl
    refine Sm.iff (fun b252 => ?_) (fun b252 => ?_)
    · refine Sm.tsAt (t := 718) (k := (20 : Int32)) (off := 686) b252 dL_law_32 (by decide) (by decide) (by decide) (by decide) ?_
      refine Sm.aload_n dL_law_718 rfl rfl rfl ?_
      refine Sm.aload_n dL_law_719 rfl rfl rfl ?_
      refine Sm.iload_n dL_law_720 rfl rfl rfl ?_
      refine Sm.iconst dL_law_721 ic_1 rfl ?_
      refine Sm.iadd dL_law_722 rfl ?_
      refine Sm.iff (fun q253 => ?_) (fun _ => Sm.none)
      refine Sm.sald q253 dL_law_723 rfl ?_
      refine Sm.aload_n dL_law_724 rfl rfl rfl ?_
      refine Sm.iload_n dL_law_725 rfl rfl rfl ?_
      refine Sm.iconst dL_law_726 ic_2 rfl ?_
      refine Sm.iadd dL_law_727 rfl ?_
      refine Sm.iff (fun q254 => ?_) (fun _ => Sm.none)
      refine Sm.sald q254 dL_law_728 rfl ?_
      refine Sm.aload_n dL_law_729 rfl rfl rfl ?_
      refine Sm.iload_n dL_law_730 rfl rfl rfl ?_
      refine Sm.iconst dL_law_731 ic_3 rfl ?_
      refine Sm.iadd dL_law_732 rfl ?_
      refine Sm.iff (fun q255 => ?_) (fun _ => Sm.none)
      refine Sm.sald q255 dL_law_733 rfl ?_
      refine Sm.ck (fun o256 => ?_)
      refine kc_L_100 o256 dL_law_734 rfl (Nat.le_of_ble_eq_true rfl) (Nat.le_of_ble_eq_true rfl) rfl (fun v257 h258 => ?_)
      refine Sm.aload_n dL_law_737 rfl rfl rfl ?_
      refine Sm.aload_n dL_law_738 rfl rfl rfl ?_
      refine Sm.iload_n dL_law_739 rfl rfl rfl ?_
      refine Sm.iconst dL_law_740 ic_1 rfl ?_
      refine Sm.iadd dL_law_741 rfl ?_
      refine Sm.iff (fun q259 => ?_) (fun _ => Sm.none)
      refine Sm.sald q259 dL_law_742 rfl ?_
      refine Sm.aload_n dL_law_743 rfl rfl rfl ?_
      refine Sm.iload_n dL_law_744 rfl rfl rfl ?_
      refine Sm.iconst dL_law_745 ic_2 rfl ?_
      refine Sm.iadd dL_law_746 rfl ?_
      refine Sm.iff (fun q260 => ?_) (fun _ => Sm.none)
      refine Sm.sald q260 dL_law_747 rfl ?_
      refine Sm.aload_n dL_law_748 rfl rfl rfl ?_
      refine Sm.iload_n dL_law_749 rfl rfl rfl ?_
      refine Sm.iconst dL_law_750 ic_3 rfl ?_
      refine Sm.iadd dL_law_751 rfl ?_
      refine Sm.iff (fun q261 => ?_) (fun _ => Sm.none)
      refine Sm.sald q261 dL_law_752 rfl ?_
      refine Sm.ck (fun o262 => ?_)
      refine kc_L_103 o262 dL_law_753 rfl (Nat.le_of_ble_eq_true rfl) (Nat.le_of_ble_eq_true rfl) rfl (fun v263 h264 => ?_)
      refine Sm.icmp_eq (t := 920) dL_law_756 (by decide) rfl (fun b265 => ?_) (fun b265 => ?_)
      · refine Sm.iinc (lv' := [.ref 0, .ref l1, .ref l2, .int (l3 + (5 : Int32))]) dL_law_920 rfl ic_5 rfl rfl ?_
        refine Sm.nm (LV := fun v266 => [.ref 0, .ref l1, .ref l2, .int v266]) (ST := fun v266 => []) (fun v266 => ?_)
        refine Sm.goto (t := 18) dL_law_923 (by decide) ?_
        exact Sm.wk (hk18 (v266, h264)) ⟨Or.inr rfl, Or.inr rfl, Or.inr rfl, Or.inr rfl, trivial⟩
      · refine Sm.iconst dL_law_759 ic_0 rfl ?_
        exact Sm.ret dL_law_760 (Or.inl rfl) rfl
    refine Sm.iff (fun b267 => ?_) (fun b267 => ?_)
    · refine Sm.tsAt (t := 761) (k := (21 : Int32)) (off := 729) b267 dL_law_32 (by decide) (by decide) (by decide) (by decide) ?_
      refine Sm.aload_n dL_law_761 rfl rfl rfl ?_
      refine Sm.aload_n dL_law_762 rfl rfl rfl ?_
      refine Sm.iload_n dL_law_763 rfl rfl rfl ?_
      refine Sm.iconst dL_law_764 ic_1 rfl ?_
      refine Sm.iadd dL_law_765 rfl ?_
      refine Sm.iff (fun q268 => ?_) (fun _ => Sm.none)
      refine Sm.sald q268 dL_law_766 rfl ?_
      refine Sm.aload_n dL_law_767 rfl rfl rfl ?_
      refine Sm.iload_n dL_law_768 rfl rfl rfl ?_
      refine Sm.iconst dL_law_769 ic_2 rfl ?_
      refine Sm.iadd dL_law_770 rfl ?_
      refine Sm.iff (fun q269 => ?_) (fun _ => Sm.none)
      refine Sm.sald q269 dL_law_771 rfl ?_
      refine Sm.aload_n dL_law_772 rfl rfl rfl ?_
      refine Sm.iload_n dL_law_773 rfl rfl rfl ?_
      refine Sm.iconst dL_law_774 ic_3 rfl ?_
      refine Sm.iadd dL_law_775 rfl ?_
      refine Sm.iff (fun q270 => ?_) (fun _ => Sm.none)
      refine Sm.sald q270 dL_law_776 rfl ?_
      refine Sm.ck (fun o271 => ?_)
      refine kc_L_104 o271 dL_law_777 rfl (Nat.le_of_ble_eq_true rfl) (Nat.le_of_ble_eq_true rfl) rfl (fun v272 h273 => ?_)
      refine Sm.aload_n dL_law_780 rfl rfl rfl ?_
      refine Sm.aload_n dL_law_781 rfl rfl rfl ?_
      refine Sm.iload_n dL_law_782 rfl rfl rfl ?_
      refine Sm.iconst dL_law_783 ic_1 rfl ?_
      refine Sm.iadd dL_law_784 rfl ?_
      refine Sm.iff (fun q274 => ?_) (fun _ => Sm.none)
      refine Sm.sald q274 dL_law_785 rfl ?_
      refine Sm.aload_n dL_law_786 rfl rfl rfl ?_
      refine Sm.iload_n dL_law_787 rfl rfl rfl ?_
      refine Sm.iconst dL_law_788 ic_2 rfl ?_
      refine Sm.iadd dL_law_789 rfl ?_
      refine Sm.iff (fun q275 => ?_) (fun _ => Sm.none)
      refine Sm.sald q275 dL_law_790 rfl ?_
      refine Sm.aload_n dL_law_791 rfl rfl rfl ?_
      refine Sm.iload_n dL_law_792 rfl rfl rfl ?_
      refine Sm.iconst dL_law_793 ic_3 rfl ?_
      refine Sm.iadd dL_law_794 rfl ?_
      refine Sm.iff (fun q276 => ?_) (fun _ => Sm.none)
      refine Sm.sald q276 dL_law_795 rfl ?_
      refine Sm.ck (fun o277 => ?_)
      refine kc_L_107 o277 dL_law_796 rfl (Nat.le_of_ble_eq_true rfl) (Nat.le_of_ble_eq_true rfl) rfl (fun v278 h279 => ?_)
      refine Sm.icmp_eq (t := 920) dL_law_799 (by decide) rfl (fun b280 => ?_) (fun b280 => ?_)
      · refine Sm.iinc (lv' := [.ref 0, .ref l1, .ref l2, .int (l3 + (5 : Int32))]) dL_law_920 rfl ic_5 rfl rfl ?_
        refine Sm.nm (LV := fun v281 => [.ref 0, .ref l1, .ref l2, .int v281]) (ST := fun v281 => []) (fun v281 => ?_)
        refine Sm.goto (t := 18) dL_law_923 (by decide) ?_
        exact Sm.wk (hk18 (v281, h279)) ⟨Or.inr rfl, Or.inr rfl, Or.inr rfl, Or.inr rfl, trivial⟩
      · refine Sm.iconst dL_law_802 ic_0 rfl ?_
        exact Sm.ret dL_law_803 (Or.inl rfl) rfl
    refine Sm.iff (fun b282 => ?_) (fun b282 => ?_)
    · refine Sm.tsAt (t := 804) (k := (22 : Int32)) (off := 772) b282 dL_law_32 (by decide) (by decide) (by decide) (by decide) ?_
      refine Sm.aload_n dL_law_804 rfl rfl rfl ?_
      refine Sm.aload_n dL_law_805 rfl rfl rfl ?_
      refine Sm.iload_n dL_law_806 rfl rfl rfl ?_
      refine Sm.iconst dL_law_807 ic_1 rfl ?_
      refine Sm.iadd dL_law_808 rfl ?_
      refine Sm.iff (fun q283 => ?_) (fun _ => Sm.none)
      refine Sm.sald q283 dL_law_809 rfl ?_
      refine Sm.aload_n dL_law_810 rfl rfl rfl ?_
      refine Sm.iload_n dL_law_811 rfl rfl rfl ?_
      refine Sm.iconst dL_law_812 ic_2 rfl ?_
      refine Sm.iadd dL_law_813 rfl ?_
      refine Sm.iff (fun q284 => ?_) (fun _ => Sm.none)
      refine Sm.sald q284 dL_law_814 rfl ?_
      refine Sm.ck (fun o285 => ?_)
      refine kc_L_108 o285 dL_law_815 rfl (Nat.le_of_ble_eq_true rfl) (Nat.le_of_ble_eq_true rfl) rfl (fun v286 h287 => ?_)
      refine Sm.aload_n dL_law_818 rfl rfl rfl ?_
      refine Sm.aload_n dL_law_819 rfl rfl rfl ?_
      refine Sm.iload_n dL_law_820 rfl rfl rfl ?_
      refine Sm.iconst dL_law_821 ic_1 rfl ?_
      refine Sm.iadd dL_law_822 rfl ?_
      refine Sm.iff (fun q288 => ?_) (fun _ => Sm.none)
      refine Sm.sald q288 dL_law_823 rfl ?_
      refine Sm.aload_n dL_law_824 rfl rfl rfl ?_
      refine Sm.iload_n dL_law_825 rfl rfl rfl ?_
      refine Sm.iconst dL_law_826 ic_2 rfl ?_
      refine Sm.iadd dL_law_827 rfl ?_
      refine Sm.iff (fun q289 => ?_) (fun _ => Sm.none)
      refine Sm.sald q289 dL_law_828 rfl ?_
      refine Sm.ck (fun o290 => ?_)
      refine kc_L_111 o290 dL_law_829 rfl (Nat.le_of_ble_eq_true rfl) (Nat.le_of_ble_eq_true rfl) rfl (fun v291 h292 => ?_)
      refine Sm.icmp_eq (t := 920) dL_law_832 (by decide) rfl (fun b293 => ?_) (fun b293 => ?_)
      · refine Sm.iinc (lv' := [.ref 0, .ref l1, .ref l2, .int (l3 + (5 : Int32))]) dL_law_920 rfl ic_5 rfl rfl ?_
        refine Sm.nm (LV := fun v294 => [.ref 0, .ref l1, .ref l2, .int v294]) (ST := fun v294 => []) (fun v294 => ?_)
        refine Sm.goto (t := 18) dL_law_923 (by decide) ?_
        exact Sm.wk (hk18 (v294, h292)) ⟨Or.inr rfl, Or.inr rfl, Or.inr rfl, Or.inr rfl, trivial⟩
      · refine Sm.iconst dL_law_835 ic_0 rfl ?_
        exact Sm.ret dL_law_836 (Or.inl rfl) rfl
    refine Sm.iff (fun b295 => ?_) (fun b295 => ?_)
    · refine Sm.tsAt (t := 837) (k := (23 : Int32)) (off := 805) b295 dL_law_32 (by decide) (by decide) (by decide) (by decide) ?_
      refine Sm.aload_n dL_law_837 rfl rfl rfl ?_
      refine Sm.aload_n dL_law_838 rfl rfl rfl ?_
      refine Sm.iload_n dL_law_839 rfl rfl rfl ?_
      refine Sm.iconst dL_law_840 ic_1 rfl ?_
      refine Sm.iadd dL_law_841 rfl ?_
      refine Sm.iff (fun q296 => ?_) (fun _ => Sm.none)
      refine Sm.sald q296 dL_law_842 rfl ?_
      refine Sm.aload_n dL_law_843 rfl rfl rfl ?_
      refine Sm.iload_n dL_law_844 rfl rfl rfl ?_
      refine Sm.iconst dL_law_845 ic_2 rfl ?_
      refine Sm.iadd dL_law_846 rfl ?_
      refine Sm.iff (fun q297 => ?_) (fun _ => Sm.none)
      refine Sm.sald q297 dL_law_847 rfl ?_
      refine Sm.ck (fun o298 => ?_)
      refine kc_L_112 o298 dL_law_848 rfl (Nat.le_of_ble_eq_true rfl) (Nat.le_of_ble_eq_true rfl) rfl (fun v299 h300 => ?_)
      refine Sm.aload_n dL_law_851 rfl rfl rfl ?_
      refine Sm.aload_n dL_law_852 rfl rfl rfl ?_
      refine Sm.iload_n dL_law_853 rfl rfl rfl ?_
      refine Sm.iconst dL_law_854 ic_1 rfl ?_
      refine Sm.iadd dL_law_855 rfl ?_
      refine Sm.iff (fun q301 => ?_) (fun _ => Sm.none)
      refine Sm.sald q301 dL_law_856 rfl ?_
      refine Sm.aload_n dL_law_857 rfl rfl rfl ?_
      refine Sm.iload_n dL_law_858 rfl rfl rfl ?_
      refine Sm.iconst dL_law_859 ic_2 rfl ?_
      refine Sm.iadd dL_law_860 rfl ?_
      refine Sm.iff (fun q302 => ?_) (fun _ => Sm.none)
      refine Sm.sald q302 dL_law_861 rfl ?_
      refine Sm.ck (fun o303 => ?_)
      refine kc_L_115 o303 dL_law_862 rfl (Nat.le_of_ble_eq_true rfl) (Nat.le_of_ble_eq_true rfl) rfl (fun v304 h305 => ?_)
      refine Sm.icmp_eq (t := 920) dL_law_865 (by decide) rfl (fun b306 => ?_) (fun b306 => ?_)
      · refine Sm.iinc (lv' := [.ref 0, .ref l1, .ref l2, .int (l3 + (5 : Int32))]) dL_law_920 rfl ic_5 rfl rfl ?_
        refine Sm.nm (LV := fun v307 => [.ref 0, .ref l1, .ref l2, .int v307]) (ST := fun v307 => []) (fun v307 => ?_)
        refine Sm.goto (t := 18) dL_law_923 (by decide) ?_
        exact Sm.wk (hk18 (v307, h305)) ⟨Or.inr rfl, Or.inr rfl, Or.inr rfl, Or.inr rfl, trivial⟩
      · refine Sm.iconst dL_law_868 ic_0 rfl ?_
        exact Sm.ret dL_law_869 (Or.inl rfl) rfl
    refine Sm.iff (fun b308 => ?_) (fun b308 => ?_)
    · refine Sm.tsAt (t := 870) (k := (24 : Int32)) (off := 838) b308 dL_law_32 (by decide) (by decide) (by decide) (by decide) ?_
      refine Sm.aload_n dL_law_870 rfl rfl rfl ?_
      refine Sm.ck (fun o309 => ?_)
      refine kc_L_116 o309 dL_law_871 rfl (Nat.le_of_ble_eq_true rfl) (Nat.le_of_ble_eq_true rfl) rfl (fun v310 h311 => ?_)
      refine Sm.aload_n dL_law_874 rfl rfl rfl ?_
      refine Sm.ck (fun o312 => ?_)
      refine kc_L_119 o312 dL_law_875 rfl (Nat.le_of_ble_eq_true rfl) (Nat.le_of_ble_eq_true rfl) rfl (fun v313 h314 => ?_)
      refine Sm.icmp_eq (t := 920) dL_law_878 (by decide) rfl (fun b315 => ?_) (fun b315 => ?_)
      · refine Sm.iinc (lv' := [.ref 0, .ref l1, .ref l2, .int (l3 + (5 : Int32))]) dL_law_920 rfl ic_5 rfl rfl ?_
        refine Sm.nm (LV := fun v316 => [.ref 0, .ref l1, .ref l2, .int v316]) (ST := fun v316 => []) (fun v316 => ?_)
        refine Sm.goto (t := 18) dL_law_923 (by decide) ?_
        exact Sm.wk (hk18 (v316, h314)) ⟨Or.inr rfl, Or.inr rfl, Or.inr rfl, Or.inr rfl, trivial⟩
      · refine Sm.iconst dL_law_881 ic_0 rfl ?_
        exact Sm.ret dL_law_882 (Or.inl rfl) rfl
    refine Sm.iff (fun b317 => ?_) (fun b317 => ?_)
    · refine Sm.tsAt (t := 883) (k := (25 : Int32)) (off := 851) b317 dL_law_32 (by decide) (by decide) (by decide) (by decide) ?_
      refine Sm.aload_n dL_law_883 rfl rfl rfl ?_
      refine Sm.aload_n dL_law_884 rfl rfl rfl ?_
      refine Sm.iload_n dL_law_885 rfl rfl rfl ?_
      refine Sm.iconst dL_law_886 ic_1 rfl ?_
      refine Sm.iadd dL_law_887 rfl ?_
      refine Sm.iff (fun q318 => ?_) (fun _ => Sm.none)
      refine Sm.sald q318 dL_law_888 rfl ?_
      refine Sm.ck (fun o319 => ?_)
      refine kc_L_120 o319 dL_law_889 rfl (Nat.le_of_ble_eq_true rfl) (Nat.le_of_ble_eq_true rfl) rfl (fun v320 h321 => ?_)
      refine Sm.aload_n dL_law_892 rfl rfl rfl ?_
      refine Sm.aload_n dL_law_893 rfl rfl rfl ?_
      refine Sm.iload_n dL_law_894 rfl rfl rfl ?_
      refine Sm.iconst dL_law_895 ic_1 rfl ?_
      refine Sm.iadd dL_law_896 rfl ?_
      refine Sm.iff (fun q322 => ?_) (fun _ => Sm.none)
      refine Sm.sald q322 dL_law_897 rfl ?_
      refine Sm.ck (fun o323 => ?_)
      refine kc_L_123 o323 dL_law_898 rfl (Nat.le_of_ble_eq_true rfl) (Nat.le_of_ble_eq_true rfl) rfl (fun v324 h325 => ?_)
      refine Sm.icmp_eq (t := 920) dL_law_901 (by decide) rfl (fun b326 => ?_) (fun b326 => ?_)
      · refine Sm.iinc (lv' := [.ref 0, .ref l1, .ref l2, .int (l3 + (5 : Int32))]) dL_law_920 rfl ic_5 rfl rfl ?_
        refine Sm.nm (LV := fun v327 => [.ref 0, .ref l1, .ref l2, .int v327]) (ST := fun v327 => []) (fun v327 => ?_)
        refine Sm.goto (t := 18) dL_law_923 (by decide) ?_
        exact Sm.wk (hk18 (v327, h325)) ⟨Or.inr rfl, Or.inr rfl, Or.inr rfl, Or.inr rfl, trivial⟩
      · refine Sm.iconst dL_law_904 ic_0 rfl ?_
        exact Sm.ret dL_law_905 (Or.inl rfl) rfl
    refine Sm.iff (fun b328 => ?_) (fun b328 => ?_)
    · refine Sm.tsAt (t := 906) (k := (26 : Int32)) (off := 874) b328 dL_law_32 (by decide) (by decide) (by decide) (by decide) ?_
      refine Sm.aload_n dL_law_906 rfl rfl rfl ?_
      refine Sm.ck (fun o329 => ?_)
      refine kc_L_124 o329 dL_law_907 rfl (Nat.le_of_ble_eq_true rfl) (Nat.le_of_ble_eq_true rfl) rfl (fun v330 h331 => ?_)
      refine Sm.aload_n dL_law_910 rfl rfl rfl ?_
      refine Sm.ck (fun o332 => ?_)
      refine kc_L_128 o332 dL_law_911 rfl (Nat.le_of_ble_eq_true rfl) (Nat.le_of_ble_eq_true rfl) rfl (fun v333 h334 => ?_)
      refine Sm.lcmp dL_law_914 rfl ?_
      refine Sm.if_eq (t := 920) dL_law_915 (by decide) rfl (fun b335 => ?_) (fun b335 => ?_)
      · refine Sm.iinc (lv' := [.ref 0, .ref l1, .ref l2, .int (l3 + (5 : Int32))]) dL_law_920 rfl ic_5 rfl rfl ?_
        refine Sm.nm (LV := fun v336 => [.ref 0, .ref l1, .ref l2, .int v336]) (ST := fun v336 => []) (fun v336 => ?_)
        refine Sm.goto (t := 18) dL_law_923 (by decide) ?_
        exact Sm.wk (hk18 (v336, h334)) ⟨Or.inr rfl, Or.inr rfl, Or.inr rfl, Or.inr rfl, trivial⟩
      · refine Sm.iconst dL_law_918 ic_0 rfl ?_
        exact Sm.ret dL_law_919 (Or.inl rfl) rfl
    have nb12 : ¬ v11.toInt = (0 : Int) := lv_neT b12 (by decide)
    have nb23 : ¬ v11.toInt = (1 : Int) := lv_neT b23 (by decide)
    have nb32 : ¬ v11.toInt = (2 : Int) := lv_neT b32 (by decide)
    have nb43 : ¬ v11.toInt = (3 : Int) := lv_neT b43 (by decide)
    have nb60 : ¬ v11.toInt = (4 : Int) := lv_neT b60 (by decide)
    have nb75 : ¬ v11.toInt = (5 : Int) := lv_neT b75 (by decide)
    have nb86 : ¬ v11.toInt = (6 : Int) := lv_neT b86 (by decide)
    have nb97 : ¬ v11.toInt = (7 : Int) := lv_neT b97 (by decide)
    have nb110 : ¬ v11.toInt = (8 : Int) := lv_neT b110 (by decide)
    have nb123 : ¬ v11.toInt = (9 : Int) := lv_neT b123 (by decide)
    have nb134 : ¬ v11.toInt = (10 : Int) := lv_neT b134 (by decide)
    have nb145 : ¬ v11.toInt = (11 : Int) := lv_neT b145 (by decide)
    have nb156 : ¬ v11.toInt = (12 : Int) := lv_neT b156 (by decide)
    have nb169 : ¬ v11.toInt = (13 : Int) := lv_neT b169 (by decide)
    have nb182 : ¬ v11.toInt = (14 : Int) := lv_neT b182 (by decide)
    have nb195 : ¬ v11.toInt = (15 : Int) := lv_neT b195 (by decide)
    have nb206 : ¬ v11.toInt = (16 : Int) := lv_neT b206 (by decide)
    have nb217 : ¬ v11.toInt = (17 : Int) := lv_neT b217 (by decide)
    have nb228 : ¬ v11.toInt = (18 : Int) := lv_neT b228 (by decide)
    have nb241 : ¬ v11.toInt = (19 : Int) := lv_neT b241 (by decide)
    have nb252 : ¬ v11.toInt = (20 : Int) := lv_neT b252 (by decide)
    have nb267 : ¬ v11.toInt = (21 : Int) := lv_neT b267 (by decide)
    have nb282 : ¬ v11.toInt = (22 : Int) := lv_neT b282 (by decide)
    have nb295 : ¬ v11.toInt = (23 : Int) := lv_neT b295 (by decide)
    have nb308 : ¬ v11.toInt = (24 : Int) := lv_neT b308 (by decide)
    have nb317 : ¬ v11.toInt = (25 : Int) := lv_neT b317 (by decide)
    have nb328 : ¬ v11.toInt = (26 : Int) := lv_neT b328 (by decide)
    refine Sm.tsOut (t := 920) dL_law_32 (by omega) (by decide) ?_
    refine Sm.iinc (lv' := [.ref 0, .ref l1, .ref l2, .int (l3 + (5 : Int32))]) dL_law_920 rfl ic_5 rfl rfl ?_
    refine Sm.nm (LV := fun v337 => [.ref 0, .ref l1, .ref l2, .int v337]) (ST := fun v337 => []) (fun v337 => ?_)
    refine Sm.goto (t := 18) dL_law_923 (by decide) ?_
    exact Sm.wk (hk18 (v337, h)) ⟨Or.inr rfl, Or.inr rfl, Or.inr rfl, Or.inr rfl, trivial⟩
def f_L_law (h : Hp) : Option (Int32 × Hp) :=
  (nm (nwc h 9 0 8) fun h1 =>
(bd (f_X9_init (gN h + 1) h1) fun _ h4 =>
(nm (nwc h4 10 0 43) fun h5 =>
(bd (f_X10_init (gN h4 + 1) h5) fun _ h8 =>
(loopN (fun k s => f_L_law_18 k (gN h + 1) (gN h4 + 1) s.1 s.2) 5000 ((0 : Int32), h8))))))
set_option maxRecDepth 20000 in
theorem t_L_law (h : Hp) : Sm rvI g_L_law 0 (ent 4 [.ref 0]) [] h (f_L_law h) := by
  show Sm rvI g_L_law 0 [.ref 0, .null, .null, .null] [] h _
  unfold f_L_law
  refine Sm.new (ci := 9) (r := (RX9, TX9, 8)) dL_law_0 mw_14 mw_15 mw_1 rfl (by decide) rfl rfl ?_
  refine Sm.nmH (fun h1 e2 e3 => ?_)
  refine Sm.dup dL_law_3 rfl rfl ?_
  refine kc_L_9 dL_law_4 rfl (Nat.le_of_ble_eq_true rfl) (Nat.le_of_ble_eq_true rfl) rfl (fun _ h4 => ?_)
  refine Sm.astore_n (lv' := [.ref 0, .ref (gN h + 1), .null, .null]) dL_law_7 rfl (Nat.le_of_ble_eq_true rfl) rfl rfl ?_
  refine Sm.new (ci := 10) (r := (RX10, TX10, 43)) dL_law_8 mw_888 mw_889 mw_11 rfl (by decide) rfl rfl ?_
  refine Sm.nmH (fun h5 e6 e7 => ?_)
  refine Sm.dup dL_law_11 rfl rfl ?_
  refine kc_L_12 dL_law_12 rfl (Nat.le_of_ble_eq_true rfl) (Nat.le_of_ble_eq_true rfl) rfl (fun _ h8 => ?_)
  refine Sm.astore_n (lv' := [.ref 0, .ref (gN h + 1), .ref (gN h4 + 1), .null]) dL_law_15 rfl (Nat.le_of_ble_eq_true rfl) rfl rfl ?_
  refine Sm.iconst dL_law_16 ic_0 rfl ?_
  refine Sm.istore_n (lv' := [.ref 0, .ref (gN h + 1), .ref (gN h4 + 1), .int (0 : Int32)]) dL_law_17 rfl (Nat.le_of_ble_eq_true rfl) rfl rfl ?_
  exact Sm.wk (Sm.loop (σ := Int32 × Hp) (LV := fun s => [.ref 0, .ref (gN h + 1), .ref (gN h4 + 1), .int s.1]) (HH := fun s => s.2) (fun k hk s => t_L_law_18 (gN h + 1) (gN h4 + 1) s.1 s.2 k hk) 5000 ((0 : Int32), h8)) ⟨Or.inr rfl, Or.inr rfl, Or.inr rfl, Or.inr rfl, trivial⟩
