abbrev g_X0_init : Gx := (yX0_init, cX0_init, 1, (Option.none : Option FieldType), 1)
def f_X0_init (l0 : Nat) (h : Hp) : Option (Unit × Hp) :=
  (nm (nwc h 22 64 64) fun h1 =>
(ck h1 l0 0
(nm (sP h1 l0 0 (some (gN h + 1))) fun h5 =>
(nm (nwc h5 22 64 64) fun h8 =>
(ck h8 l0 0
(nm (sP h8 l0 1 (some (gN h5 + 1))) fun h12 =>
(nm (nwc h12 20 85 85) fun h15 =>
(ck h15 l0 0
(nm (sP h15 l0 2 (some (gN h12 + 1))) fun h19 =>
(nm (nwc h19 20 85 85) fun h22 =>
(ck h22 l0 0
(nm (sP h22 l0 3 (some (gN h19 + 1))) fun h26 =>
(nm (nwc h26 20 340 340) fun h29 =>
(ck h29 l0 0
(nm (sI (sI (sP h29 l0 4 (some (gN h26 + 1))) l0 5 (0 : Int32)) l0 6 (0 : Int32)) fun h33 =>
(nm (sI h33 l0 7 (0 : Int32)) fun h36 =>
(nm (nwc h36 20 64 64) fun h39 =>
(ck h39 l0 0
(nm (sP h39 l0 8 (some (gN h36 + 1))) fun h43 =>
(nm (nwc h43 20 85 85) fun h46 =>
(ck h46 l0 0
(some ((), (sP h46 l0 9 (some (gN h43 + 1))))))))))))))))))))))))))
set_option maxRecDepth 20000 in
theorem t_X0_init (l0 : Nat) (h : Hp) : Sm rvV g_X0_init 0 (ent 1 [.ref l0]) [] h (f_X0_init l0 h) := by
  show Sm rvV g_X0_init 0 [.ref l0] [] h _
  unfold f_X0_init
  refine Sm.aload_n dX0_init_0 rfl rfl rfl ?_
  refine Sm.objInit dX0_init_1 rfl mw_158 mw_20 mw_21 (Nat.le_of_ble_eq_true rfl) (Nat.le_of_ble_eq_true rfl) rfl ?_
  refine Sm.aload_n dX0_init_4 rfl rfl rfl ?_
  refine Sm.bipush dX0_init_5 bp_64 rfl ?_
  refine Sm.newL (by decide) (by decide) dX0_init_7 mw_111 rfl ?_
  refine Sm.nmH (fun h1 e2 e3 => ?_)
  refine Sm.ck (fun o4 => ?_)
  refine pf_X0_9 o4 dX0_init_9 rfl rfl rfl ?_
  refine Sm.aload_n dX0_init_12 rfl rfl rfl ?_
  refine Sm.bipush dX0_init_13 bp_64 rfl ?_
  refine Sm.nmH (fun h5 e6 e7 => ?_)
  refine Sm.newL (by decide) (by decide) dX0_init_15 mw_111 rfl ?_
  refine Sm.nmH (fun h8 e9 e10 => ?_)
  refine Sm.ck (fun o11 => ?_)
  refine pf_X0_15 o11 dX0_init_17 rfl rfl rfl ?_
  refine Sm.aload_n dX0_init_20 rfl rfl rfl ?_
  refine Sm.bipush dX0_init_21 bp_85 rfl ?_
  refine Sm.nmH (fun h12 e13 e14 => ?_)
  refine Sm.newI (by decide) (by decide) dX0_init_23 mw_50 rfl ?_
  refine Sm.nmH (fun h15 e16 e17 => ?_)
  refine Sm.ck (fun o18 => ?_)
  refine pf_X0_18 o18 dX0_init_25 rfl rfl rfl ?_
  refine Sm.aload_n dX0_init_28 rfl rfl rfl ?_
  refine Sm.bipush dX0_init_29 bp_85 rfl ?_
  refine Sm.nmH (fun h19 e20 e21 => ?_)
  refine Sm.newI (by decide) (by decide) dX0_init_31 mw_50 rfl ?_
  refine Sm.nmH (fun h22 e23 e24 => ?_)
  refine Sm.ck (fun o25 => ?_)
  refine pf_X0_22 o25 dX0_init_33 rfl rfl rfl ?_
  refine Sm.aload_n dX0_init_36 rfl rfl rfl ?_
  refine Sm.sipush dX0_init_37 sp_340 rfl ?_
  refine Sm.nmH (fun h26 e27 e28 => ?_)
  refine Sm.newI (by decide) (by decide) dX0_init_40 mw_50 rfl ?_
  refine Sm.nmH (fun h29 e30 e31 => ?_)
  refine Sm.ck (fun o32 => ?_)
  refine pf_X0_25 o32 dX0_init_42 rfl rfl rfl ?_
  refine Sm.aload_n dX0_init_45 rfl rfl rfl ?_
  refine Sm.iconst dX0_init_46 ic_0 rfl ?_
  refine pf_X0_28 o32 dX0_init_47 rfl rfl ?_
  refine Sm.aload_n dX0_init_50 rfl rfl rfl ?_
  refine Sm.iconst dX0_init_51 ic_0 rfl ?_
  refine pf_X0_32 o32 dX0_init_52 rfl rfl ?_
  refine Sm.nmH (fun h33 e34 e35 => ?_)
  refine Sm.aload_n dX0_init_55 rfl rfl rfl ?_
  refine Sm.iconst dX0_init_56 ic_0 rfl ?_
  refine pf_X0_35 (isO.tr e34 e35 o32) dX0_init_57 rfl rfl ?_
  refine Sm.aload_n dX0_init_60 rfl rfl rfl ?_
  refine Sm.bipush dX0_init_61 bp_64 rfl ?_
  refine Sm.nmH (fun h36 e37 e38 => ?_)
  refine Sm.newI (by decide) (by decide) dX0_init_63 mw_50 rfl ?_
  refine Sm.nmH (fun h39 e40 e41 => ?_)
  refine Sm.ck (fun o42 => ?_)
  refine pf_X0_38 o42 dX0_init_65 rfl rfl rfl ?_
  refine Sm.aload_n dX0_init_68 rfl rfl rfl ?_
  refine Sm.bipush dX0_init_69 bp_85 rfl ?_
  refine Sm.nmH (fun h43 e44 e45 => ?_)
  refine Sm.newI (by decide) (by decide) dX0_init_71 mw_50 rfl ?_
  refine Sm.nmH (fun h46 e47 e48 => ?_)
  refine Sm.ck (fun o49 => ?_)
  refine pf_X0_41 o49 dX0_init_73 rfl rfl rfl ?_
  exact Sm.ret (r := ()) dX0_init_76 trivial rfl
set_option maxRecDepth 20000 in
theorem kc_X7_34 {ρ : Type} {rv : ρ → Option Value} {G : Gx} {pc q : Nat} {lv st : List Value} {h : Hp} {a : Nat} {e : Unit → Hp → Option (ρ × Hp)} (d : decode G.2.1 pc = .ok (.invokespecial 34, 3)) (ho : G.1.cls = RX7) (hdep : (g_X0_init).2.2.2.2 < G.2.2.2.2) (hcat : catS st ≤ 8) (hq : pc + 3 = q) (k : ∀ r h1, Sm rv G q lv (st) h1 (e r h1)) : Sm rv G pc lv (.ref a :: st) h (bd (f_X0_init a h) e) :=
  Sm.callIN (rv' := rvV) (args := []) (n := 0) (t_X0_init a h) ho rfl rfl mw_155 mw_156 mw_9 mw_157 ⟨⟨by decide, rfl, hdep, Nat.le_of_ble_eq_true rfl⟩, Nat.le_of_ble_eq_true rfl, rfl, ⟨by decide, by decide⟩, hcat⟩ (by decide +kernel) (fun v hv => by cases hv) d hq k rfl
abbrev g_X0_nodeTotal : Gx := (yX0_nodeTotal, cX0_nodeTotal, 1, (Option.some FieldType.int), 0)
def f_X0_nodeTotal (l0 : Nat) (h : Hp) : Option (Int32 × Hp) :=
  (ck h l0 0
(some ((gI h l0 6), h)))
set_option maxRecDepth 20000 in
theorem t_X0_nodeTotal (l0 : Nat) (h : Hp) : Sm rvI g_X0_nodeTotal 0 (ent 1 [.ref l0]) [] h (f_X0_nodeTotal l0 h) := by
  show Sm rvI g_X0_nodeTotal 0 [.ref l0] [] h _
  unfold f_X0_nodeTotal
  refine Sm.aload_n dX0_nodeTotal_0 rfl rfl rfl ?_
  refine Sm.ck (fun o1 => ?_)
  refine gf_X0_32 o1 dX0_nodeTotal_1 rfl rfl ?_
  exact Sm.ret dX0_nodeTotal_4 trivial rfl
set_option maxRecDepth 20000 in
theorem kc_X9_158 {ρ : Type} {rv : ρ → Option Value} {G : Gx} {pc q : Nat} {lv st : List Value} {h : Hp} {a : Nat} {e : Int32 → Hp → Option (ρ × Hp)} (hk : isO h a 0) (d : decode G.2.1 pc = .ok (.invokevirtual 158, 3)) (ho : G.1.cls = RX9) (hdep : (g_X0_nodeTotal).2.2.2.2 < G.2.2.2.2) (hcat : catS st ≤ 8) (hq : pc + 3 = q) (k : ∀ r h1, Sm rv G q lv (.int r :: st) h1 (e r h1)) : Sm rv G pc lv (.ref a :: st) h (bd (f_X0_nodeTotal a h) e) :=
  Sm.callV (rv' := rvI) (args := []) (n := 0) (t_X0_nodeTotal a h) hk (by decide) (r := (RX0, TX0, 10)) rfl rfl ho mw_749 mw_750 mw_751 mw_9 mw_752 ⟨⟨by decide, rfl, hdep, Nat.le_of_ble_eq_true rfl⟩, Nat.le_of_ble_eq_true rfl, rfl, ⟨by decide, by decide⟩, hcat⟩ (by decide +kernel) (fun v hv => by cases hv) d hq k rfl
abbrev g_X0_leafTotal : Gx := (yX0_leafTotal, cX0_leafTotal, 1, (Option.some FieldType.int), 0)
def f_X0_leafTotal (l0 : Nat) (h : Hp) : Option (Int32 × Hp) :=
  (ck h l0 0
(some ((gI h l0 5), h)))
set_option maxRecDepth 20000 in
theorem t_X0_leafTotal (l0 : Nat) (h : Hp) : Sm rvI g_X0_leafTotal 0 (ent 1 [.ref l0]) [] h (f_X0_leafTotal l0 h) := by
  show Sm rvI g_X0_leafTotal 0 [.ref l0] [] h _
  unfold f_X0_leafTotal
  refine Sm.aload_n dX0_leafTotal_0 rfl rfl rfl ?_
  refine Sm.ck (fun o1 => ?_)
  refine gf_X0_28 o1 dX0_leafTotal_1 rfl rfl ?_
  exact Sm.ret dX0_leafTotal_4 trivial rfl
set_option maxRecDepth 20000 in
theorem kc_X9_163 {ρ : Type} {rv : ρ → Option Value} {G : Gx} {pc q : Nat} {lv st : List Value} {h : Hp} {a : Nat} {e : Int32 → Hp → Option (ρ × Hp)} (hk : isO h a 0) (d : decode G.2.1 pc = .ok (.invokevirtual 163, 3)) (ho : G.1.cls = RX9) (hdep : (g_X0_leafTotal).2.2.2.2 < G.2.2.2.2) (hcat : catS st ≤ 8) (hq : pc + 3 = q) (k : ∀ r h1, Sm rv G q lv (.int r :: st) h1 (e r h1)) : Sm rv G pc lv (.ref a :: st) h (bd (f_X0_leafTotal a h) e) :=
  Sm.callV (rv' := rvI) (args := []) (n := 0) (t_X0_leafTotal a h) hk (by decide) (r := (RX0, TX0, 10)) rfl rfl ho mw_757 mw_758 mw_759 mw_9 mw_760 ⟨⟨by decide, rfl, hdep, Nat.le_of_ble_eq_true rfl⟩, Nat.le_of_ble_eq_true rfl, rfl, ⟨by decide, by decide⟩, hcat⟩ (by decide +kernel) (fun v hv => by cases hv) d hq k rfl
abbrev g_X0_depthOf : Gx := (yX0_depthOf, cX0_depthOf, 2, (Option.some FieldType.int), 0)
def f_X0_depthOf (l0 : Nat) (l1 : Int32) (h : Hp) : Option (Int32 × Hp) :=
  (if l1 < 0 then
(some ((0 : Int32), h))
else
(if (85 : Int32) ≤ l1 then
(some ((0 : Int32), h))
else
(ck h l0 0
((gP h l0 3).bind fun v4 =>
(ca h v4 20 l1
(some ((gI h v4 l1.toNatClampNeg), h)))))))
set_option maxRecDepth 20000 in
theorem t_X0_depthOf (l0 : Nat) (l1 : Int32) (h : Hp) : Sm rvI g_X0_depthOf 0 (ent 2 [.ref l0, .int l1]) [] h (f_X0_depthOf l0 l1 h) := by
  show Sm rvI g_X0_depthOf 0 [.ref l0, .int l1] [] h _
  unfold f_X0_depthOf
  refine Sm.iload_n dX0_depthOf_0 rfl rfl rfl ?_
  refine Sm.if_lt (t := 19) dX0_depthOf_1 (by decide) rfl (fun b1 => ?_) (fun b1 => ?_)
  · refine Sm.iconst dX0_depthOf_19 ic_0 rfl ?_
    exact Sm.ret dX0_depthOf_20 trivial rfl
  · refine Sm.iload_n dX0_depthOf_4 rfl rfl rfl ?_
    refine Sm.bipush dX0_depthOf_5 bp_85 rfl ?_
    refine Sm.icmp_ge (t := 19) dX0_depthOf_7 (by decide) rfl (fun b2 => ?_) (fun b2 => ?_)
    · refine Sm.iconst dX0_depthOf_19 ic_0 rfl ?_
      exact Sm.ret dX0_depthOf_20 trivial rfl
    · refine Sm.aload_n dX0_depthOf_10 rfl rfl rfl ?_
      refine Sm.ck (fun o3 => ?_)
      refine gf_X0_22 o3 dX0_depthOf_11 rfl rfl (fun v4 => ?_)
      refine Sm.iload_n dX0_depthOf_14 rfl rfl rfl ?_
      refine Sm.ca (fun q5 => ?_)
      refine Sm.iald q5 dX0_depthOf_15 rfl ?_
      refine Sm.goto (t := 20) dX0_depthOf_16 (by decide) ?_
      exact Sm.ret dX0_depthOf_20 trivial rfl
set_option maxRecDepth 20000 in
theorem kc_X0_44 {ρ : Type} {rv : ρ → Option Value} {G : Gx} {pc q : Nat} {lv st : List Value} {h : Hp} {a : Nat} {x1 : Int32} {e : Int32 → Hp → Option (ρ × Hp)} (hk : isO h a 0) (d : decode G.2.1 pc = .ok (.invokevirtual 44, 3)) (ho : G.1.cls = RX0) (hdep : (g_X0_depthOf).2.2.2.2 < G.2.2.2.2) (hcat : catS st ≤ 8) (hq : pc + 3 = q) (k : ∀ r h1, Sm rv G q lv (.int r :: st) h1 (e r h1)) : Sm rv G pc lv (.int x1 :: .ref a :: st) h (bd (f_X0_depthOf a x1 h) e) :=
  Sm.callV (rv' := rvI) (args := [.int x1]) (n := 1) (t_X0_depthOf a x1 h) hk (by decide) (r := (RX0, TX0, 10)) rfl rfl ho mw_622 mw_624 mp_44 mw_9 mw_625 ⟨⟨by decide, rfl, hdep, Nat.le_of_ble_eq_true rfl⟩, Nat.le_of_ble_eq_true rfl, rfl, ⟨by decide, by decide⟩, hcat⟩ (by decide +kernel) (by intro v hv; simp only [List.mem_cons, List.not_mem_nil, or_false] at hv; rcases hv with rfl <;> intro x hx <;> cases hx) d hq k rfl
abbrev g_X0_longestWay : Gx := (yX0_longestWay, cX0_longestWay, 1, (Option.some FieldType.int), 1)
def f_X0_longestWay (l0 : Nat) (h : Hp) : Option (Int32 × Hp) :=
  (ck h l0 0
(bd (f_X0_depthOf l0 (gI h l0 7) h) fun v2 h3 =>
(some (v2, h3))))
set_option maxRecDepth 20000 in
theorem t_X0_longestWay (l0 : Nat) (h : Hp) : Sm rvI g_X0_longestWay 0 (ent 1 [.ref l0]) [] h (f_X0_longestWay l0 h) := by
  show Sm rvI g_X0_longestWay 0 [.ref l0] [] h _
  unfold f_X0_longestWay
  refine Sm.aload_n dX0_longestWay_0 rfl rfl rfl ?_
  refine Sm.aload_n dX0_longestWay_1 rfl rfl rfl ?_
  refine Sm.ck (fun o1 => ?_)
  refine gf_X0_35 o1 dX0_longestWay_2 rfl rfl ?_
  refine kc_X0_44 o1 dX0_longestWay_5 rfl (Nat.le_of_ble_eq_true rfl) (Nat.le_of_ble_eq_true rfl) rfl (fun v2 h3 => ?_)
  exact Sm.ret dX0_longestWay_8 trivial rfl
set_option maxRecDepth 20000 in
theorem kc_X9_166 {ρ : Type} {rv : ρ → Option Value} {G : Gx} {pc q : Nat} {lv st : List Value} {h : Hp} {a : Nat} {e : Int32 → Hp → Option (ρ × Hp)} (hk : isO h a 0) (d : decode G.2.1 pc = .ok (.invokevirtual 166, 3)) (ho : G.1.cls = RX9) (hdep : (g_X0_longestWay).2.2.2.2 < G.2.2.2.2) (hcat : catS st ≤ 8) (hq : pc + 3 = q) (k : ∀ r h1, Sm rv G q lv (.int r :: st) h1 (e r h1)) : Sm rv G pc lv (.ref a :: st) h (bd (f_X0_longestWay a h) e) :=
  Sm.callV (rv' := rvI) (args := []) (n := 0) (t_X0_longestWay a h) hk (by decide) (r := (RX0, TX0, 10)) rfl rfl ho mw_765 mw_766 mw_767 mw_9 mw_768 ⟨⟨by decide, rfl, hdep, Nat.le_of_ble_eq_true rfl⟩, Nat.le_of_ble_eq_true rfl, rfl, ⟨by decide, by decide⟩, hcat⟩ (by decide +kernel) (fun v hv => by cases hv) d hq k rfl
abbrev g_X0_rootNode : Gx := (yX0_rootNode, cX0_rootNode, 1, (Option.some FieldType.int), 0)
def f_X0_rootNode (l0 : Nat) (h : Hp) : Option (Int32 × Hp) :=
  (ck h l0 0
(some ((gI h l0 7), h)))
set_option maxRecDepth 20000 in
theorem t_X0_rootNode (l0 : Nat) (h : Hp) : Sm rvI g_X0_rootNode 0 (ent 1 [.ref l0]) [] h (f_X0_rootNode l0 h) := by
  show Sm rvI g_X0_rootNode 0 [.ref l0] [] h _
  unfold f_X0_rootNode
  refine Sm.aload_n dX0_rootNode_0 rfl rfl rfl ?_
  refine Sm.ck (fun o1 => ?_)
  refine gf_X0_35 o1 dX0_rootNode_1 rfl rfl ?_
  exact Sm.ret dX0_rootNode_4 trivial rfl
set_option maxRecDepth 20000 in
theorem kc_X8_22 {ρ : Type} {rv : ρ → Option Value} {G : Gx} {pc q : Nat} {lv st : List Value} {h : Hp} {a : Nat} {e : Int32 → Hp → Option (ρ × Hp)} (hk : isO h a 0) (d : decode G.2.1 pc = .ok (.invokevirtual 22, 3)) (ho : G.1.cls = RX8) (hdep : (g_X0_rootNode).2.2.2.2 < G.2.2.2.2) (hcat : catS st ≤ 8) (hq : pc + 3 = q) (k : ∀ r h1, Sm rv G q lv (.int r :: st) h1 (e r h1)) : Sm rv G pc lv (.ref a :: st) h (bd (f_X0_rootNode a h) e) :=
  Sm.callV (rv' := rvI) (args := []) (n := 0) (t_X0_rootNode a h) hk (by decide) (r := (RX0, TX0, 10)) rfl rfl ho mw_633 mw_634 mw_635 mw_9 mw_636 ⟨⟨by decide, rfl, hdep, Nat.le_of_ble_eq_true rfl⟩, Nat.le_of_ble_eq_true rfl, rfl, ⟨by decide, by decide⟩, hcat⟩ (by decide +kernel) (fun v hv => by cases hv) d hq k rfl
abbrev g_X0_isLeaf : Gx := (yX0_isLeaf, cX0_isLeaf, 2, (Option.some FieldType.boolean), 0)
def f_X0_isLeaf (l0 : Nat) (l1 : Int32) (h : Hp) : Option (Int32 × Hp) :=
  (ck h l0 0
(if (gI h l0 5) ≤ l1 then
(some ((0 : Int32), h))
else
(some ((1 : Int32), h))))
set_option maxRecDepth 20000 in
theorem t_X0_isLeaf (l0 : Nat) (l1 : Int32) (h : Hp) : Sm rvI g_X0_isLeaf 0 (ent 2 [.ref l0, .int l1]) [] h (f_X0_isLeaf l0 l1 h) := by
  show Sm rvI g_X0_isLeaf 0 [.ref l0, .int l1] [] h _
  unfold f_X0_isLeaf
  refine Sm.iload_n dX0_isLeaf_0 rfl rfl rfl ?_
  refine Sm.aload_n dX0_isLeaf_1 rfl rfl rfl ?_
  refine Sm.ck (fun o1 => ?_)
  refine gf_X0_28 o1 dX0_isLeaf_2 rfl rfl ?_
  refine Sm.icmp_ge (t := 12) dX0_isLeaf_5 (by decide) rfl (fun b2 => ?_) (fun b2 => ?_)
  · refine Sm.iconst dX0_isLeaf_12 ic_0 rfl ?_
    exact Sm.ret dX0_isLeaf_13 (Or.inl rfl) rfl
  · refine Sm.iconst dX0_isLeaf_8 ic_1 rfl ?_
    refine Sm.goto (t := 13) dX0_isLeaf_9 (by decide) ?_
    exact Sm.ret dX0_isLeaf_13 (Or.inr rfl) rfl
set_option maxRecDepth 20000 in
theorem kc_X8_36 {ρ : Type} {rv : ρ → Option Value} {G : Gx} {pc q : Nat} {lv st : List Value} {h : Hp} {a : Nat} {x1 : Int32} {e : Int32 → Hp → Option (ρ × Hp)} (hk : isO h a 0) (d : decode G.2.1 pc = .ok (.invokevirtual 36, 3)) (ho : G.1.cls = RX8) (hdep : (g_X0_isLeaf).2.2.2.2 < G.2.2.2.2) (hcat : catS st ≤ 8) (hq : pc + 3 = q) (k : ∀ r h1, Sm rv G q lv (.int r :: st) h1 (e r h1)) : Sm rv G pc lv (.int x1 :: .ref a :: st) h (bd (f_X0_isLeaf a x1 h) e) :=
  Sm.callV (rv' := rvI) (args := [.int x1]) (n := 1) (t_X0_isLeaf a x1 h) hk (by decide) (r := (RX0, TX0, 10)) rfl rfl ho mw_640 mw_641 mw_642 mw_9 mw_643 ⟨⟨by decide, rfl, hdep, Nat.le_of_ble_eq_true rfl⟩, Nat.le_of_ble_eq_true rfl, rfl, ⟨by decide, by decide⟩, hcat⟩ (by decide +kernel) (by intro v hv; simp only [List.mem_cons, List.not_mem_nil, or_false] at hv; rcases hv with rfl <;> intro x hx <;> cases hx) d hq k rfl
abbrev g_X0_fieldOf : Gx := (yX0_fieldOf, cX0_fieldOf, 2, (Option.some FieldType.int), 0)
def f_X0_fieldOf (l0 : Nat) (l1 : Int32) (h : Hp) : Option (Int32 × Hp) :=
  (if l1 < 0 then
(some ((0 : Int32), h))
else
(if (85 : Int32) ≤ l1 then
(some ((0 : Int32), h))
else
(ck h l0 0
((gP h l0 2).bind fun v4 =>
(ca h v4 20 l1
(some ((gI h v4 l1.toNatClampNeg), h)))))))
set_option maxRecDepth 20000 in
theorem t_X0_fieldOf (l0 : Nat) (l1 : Int32) (h : Hp) : Sm rvI g_X0_fieldOf 0 (ent 2 [.ref l0, .int l1]) [] h (f_X0_fieldOf l0 l1 h) := by
  show Sm rvI g_X0_fieldOf 0 [.ref l0, .int l1] [] h _
  unfold f_X0_fieldOf
  refine Sm.iload_n dX0_fieldOf_0 rfl rfl rfl ?_
  refine Sm.if_lt (t := 19) dX0_fieldOf_1 (by decide) rfl (fun b1 => ?_) (fun b1 => ?_)
  · refine Sm.iconst dX0_fieldOf_19 ic_0 rfl ?_
    exact Sm.ret dX0_fieldOf_20 trivial rfl
  · refine Sm.iload_n dX0_fieldOf_4 rfl rfl rfl ?_
    refine Sm.bipush dX0_fieldOf_5 bp_85 rfl ?_
    refine Sm.icmp_ge (t := 19) dX0_fieldOf_7 (by decide) rfl (fun b2 => ?_) (fun b2 => ?_)
    · refine Sm.iconst dX0_fieldOf_19 ic_0 rfl ?_
      exact Sm.ret dX0_fieldOf_20 trivial rfl
    · refine Sm.aload_n dX0_fieldOf_10 rfl rfl rfl ?_
      refine Sm.ck (fun o3 => ?_)
      refine gf_X0_18 o3 dX0_fieldOf_11 rfl rfl (fun v4 => ?_)
      refine Sm.iload_n dX0_fieldOf_14 rfl rfl rfl ?_
      refine Sm.ca (fun q5 => ?_)
      refine Sm.iald q5 dX0_fieldOf_15 rfl ?_
      refine Sm.goto (t := 20) dX0_fieldOf_16 (by decide) ?_
      exact Sm.ret dX0_fieldOf_20 trivial rfl
set_option maxRecDepth 20000 in
theorem kc_X8_44 {ρ : Type} {rv : ρ → Option Value} {G : Gx} {pc q : Nat} {lv st : List Value} {h : Hp} {a : Nat} {x1 : Int32} {e : Int32 → Hp → Option (ρ × Hp)} (hk : isO h a 0) (d : decode G.2.1 pc = .ok (.invokevirtual 44, 3)) (ho : G.1.cls = RX8) (hdep : (g_X0_fieldOf).2.2.2.2 < G.2.2.2.2) (hcat : catS st ≤ 8) (hq : pc + 3 = q) (k : ∀ r h1, Sm rv G q lv (.int r :: st) h1 (e r h1)) : Sm rv G pc lv (.int x1 :: .ref a :: st) h (bd (f_X0_fieldOf a x1 h) e) :=
  Sm.callV (rv' := rvI) (args := [.int x1]) (n := 1) (t_X0_fieldOf a x1 h) hk (by decide) (r := (RX0, TX0, 10)) rfl rfl ho mw_648 mw_649 mw_650 mw_9 mw_651 ⟨⟨by decide, rfl, hdep, Nat.le_of_ble_eq_true rfl⟩, Nat.le_of_ble_eq_true rfl, rfl, ⟨by decide, by decide⟩, hcat⟩ (by decide +kernel) (by intro v hv; simp only [List.mem_cons, List.not_mem_nil, or_false] at hv; rcases hv with rfl <;> intro x hx <;> cases hx) d hq k rfl
set_option maxRecDepth 20000 in
theorem kc_X0_103 {ρ : Type} {rv : ρ → Option Value} {G : Gx} {pc q : Nat} {lv st : List Value} {h : Hp} {a : Nat} {x1 : Int32} {e : Int32 → Hp → Option (ρ × Hp)} (hk : isO h a 0) (d : decode G.2.1 pc = .ok (.invokevirtual 103, 3)) (ho : G.1.cls = RX0) (hdep : (g_X0_fieldOf).2.2.2.2 < G.2.2.2.2) (hcat : catS st ≤ 8) (hq : pc + 3 = q) (k : ∀ r h1, Sm rv G q lv (.int r :: st) h1 (e r h1)) : Sm rv G pc lv (.int x1 :: .ref a :: st) h (bd (f_X0_fieldOf a x1 h) e) :=
  Sm.callV (rv' := rvI) (args := [.int x1]) (n := 1) (t_X0_fieldOf a x1 h) hk (by decide) (r := (RX0, TX0, 10)) rfl rfl ho mw_781 mw_649 mw_650 mw_9 mw_651 ⟨⟨by decide, rfl, hdep, Nat.le_of_ble_eq_true rfl⟩, Nat.le_of_ble_eq_true rfl, rfl, ⟨by decide, by decide⟩, hcat⟩ (by decide +kernel) (by intro v hv; simp only [List.mem_cons, List.not_mem_nil, or_false] at hv; rcases hv with rfl <;> intro x hx <;> cases hx) d hq k rfl
abbrev g_X0_childOf : Gx := (yX0_childOf, cX0_childOf, 4, (Option.some FieldType.int), 0)
def f_X0_childOf (l0 : Nat) (l1 : Int32) (l2 : Int32) (h : Hp) : Option (Int32 × Hp) :=
  (nm ((l1 * (4 : Int32)) + l2) fun v1 =>
(if v1 < 0 then
(some ((0 : Int32), h))
else
(ck h l0 0
((gP h l0 4).bind fun v4 =>
(ck h v4 20
(if (Int32.ofNat (gS h v4).2) ≤ v1 then
(some ((0 : Int32), h))
else
((gP h l0 4).bind fun v7 =>
(ca h v7 20 v1
(some ((gI h v7 v1.toNatClampNeg), h))))))))))
set_option maxRecDepth 20000 in
theorem t_X0_childOf (l0 : Nat) (l1 : Int32) (l2 : Int32) (h : Hp) : Sm rvI g_X0_childOf 0 (ent 4 [.ref l0, .int l1, .int l2]) [] h (f_X0_childOf l0 l1 l2 h) := by
  show Sm rvI g_X0_childOf 0 [.ref l0, .int l1, .int l2, .null] [] h _
  unfold f_X0_childOf
  refine Sm.iload_n dX0_childOf_0 rfl rfl rfl ?_
  refine Sm.iconst dX0_childOf_1 ic_4 rfl ?_
  refine Sm.imul dX0_childOf_2 rfl ?_
  refine Sm.iload_n dX0_childOf_3 rfl rfl rfl ?_
  refine Sm.iadd dX0_childOf_4 rfl ?_
  refine Sm.nm (LV := fun v1 => [.ref l0, .int l1, .int l2, .null]) (ST := fun v1 => [.int v1]) (fun v1 => ?_)
  refine Sm.istore_n (lv' := [.ref l0, .int l1, .int l2, .int v1]) dX0_childOf_5 rfl (Nat.le_of_ble_eq_true rfl) rfl rfl ?_
  refine Sm.iload_n dX0_childOf_6 rfl rfl rfl ?_
  refine Sm.if_lt (t := 28) dX0_childOf_7 (by decide) rfl (fun b2 => ?_) (fun b2 => ?_)
  · refine Sm.iconst dX0_childOf_28 ic_0 rfl ?_
    exact Sm.ret dX0_childOf_29 trivial rfl
  · refine Sm.iload_n dX0_childOf_10 rfl rfl rfl ?_
    refine Sm.aload_n dX0_childOf_11 rfl rfl rfl ?_
    refine Sm.ck (fun o3 => ?_)
    refine gf_X0_25 o3 dX0_childOf_12 rfl rfl (fun v4 => ?_)
    refine Sm.ck (fun o5 => ?_)
    refine Sm.alen o5 (by decide) dX0_childOf_15 rfl ?_
    refine Sm.icmp_ge (t := 28) dX0_childOf_16 (by decide) rfl (fun b6 => ?_) (fun b6 => ?_)
    · refine Sm.iconst dX0_childOf_28 ic_0 rfl ?_
      exact Sm.ret dX0_childOf_29 trivial rfl
    · refine Sm.aload_n dX0_childOf_19 rfl rfl rfl ?_
      refine gf_X0_25 o3 dX0_childOf_20 rfl rfl (fun v7 => ?_)
      refine Sm.iload_n dX0_childOf_23 rfl rfl rfl ?_
      refine Sm.ca (fun q8 => ?_)
      refine Sm.iald q8 dX0_childOf_24 rfl ?_
      refine Sm.goto (t := 29) dX0_childOf_25 (by decide) ?_
      exact Sm.ret dX0_childOf_29 trivial rfl
set_option maxRecDepth 20000 in
theorem kc_X0_88 {ρ : Type} {rv : ρ → Option Value} {G : Gx} {pc q : Nat} {lv st : List Value} {h : Hp} {a : Nat} {x1 : Int32} {x2 : Int32} {e : Int32 → Hp → Option (ρ × Hp)} (hk : isO h a 0) (d : decode G.2.1 pc = .ok (.invokevirtual 88, 3)) (ho : G.1.cls = RX0) (hdep : (g_X0_childOf).2.2.2.2 < G.2.2.2.2) (hcat : catS st ≤ 8) (hq : pc + 3 = q) (k : ∀ r h1, Sm rv G q lv (.int r :: st) h1 (e r h1)) : Sm rv G pc lv (.int x2 :: .int x1 :: .ref a :: st) h (bd (f_X0_childOf a x1 x2 h) e) :=
  Sm.callV (rv' := rvI) (args := [.int x1, .int x2]) (n := 2) (t_X0_childOf a x1 x2 h) hk (by decide) (r := (RX0, TX0, 10)) rfl rfl ho mw_614 mw_615 mw_616 mw_9 mw_617 ⟨⟨by decide, rfl, hdep, Nat.le_of_ble_eq_true rfl⟩, Nat.le_of_ble_eq_true rfl, rfl, ⟨by decide, by decide⟩, hcat⟩ (by decide +kernel) (by intro v hv; simp only [List.mem_cons, List.not_mem_nil, or_false] at hv; rcases hv with rfl | rfl <;> intro x hx <;> cases hx) d hq k rfl
set_option maxRecDepth 20000 in
theorem kc_X8_50 {ρ : Type} {rv : ρ → Option Value} {G : Gx} {pc q : Nat} {lv st : List Value} {h : Hp} {a : Nat} {x1 : Int32} {x2 : Int32} {e : Int32 → Hp → Option (ρ × Hp)} (hk : isO h a 0) (d : decode G.2.1 pc = .ok (.invokevirtual 50, 3)) (ho : G.1.cls = RX8) (hdep : (g_X0_childOf).2.2.2.2 < G.2.2.2.2) (hcat : catS st ≤ 8) (hq : pc + 3 = q) (k : ∀ r h1, Sm rv G q lv (.int r :: st) h1 (e r h1)) : Sm rv G pc lv (.int x2 :: .int x1 :: .ref a :: st) h (bd (f_X0_childOf a x1 x2 h) e) :=
  Sm.callV (rv' := rvI) (args := [.int x1, .int x2]) (n := 2) (t_X0_childOf a x1 x2 h) hk (by decide) (r := (RX0, TX0, 10)) rfl rfl ho mw_660 mw_615 mw_616 mw_9 mw_617 ⟨⟨by decide, rfl, hdep, Nat.le_of_ble_eq_true rfl⟩, Nat.le_of_ble_eq_true rfl, rfl, ⟨by decide, by decide⟩, hcat⟩ (by decide +kernel) (by intro v hv; simp only [List.mem_cons, List.not_mem_nil, or_false] at hv; rcases hv with rfl | rfl <;> intro x hx <;> cases hx) d hq k rfl
abbrev g_X9_isPacket : Gx := (yX9_isPacket, cX9_isPacket, 1, (Option.some FieldType.boolean), 0)
def f_X9_isPacket (l0 : Int32) (h : Hp) : Option (Int32 × Hp) :=
  (if l0 < 0 then
(some ((0 : Int32), h))
else
(if (64 : Int32) ≤ l0 then
(some ((0 : Int32), h))
else
(some ((1 : Int32), h))))
set_option maxRecDepth 20000 in
theorem t_X9_isPacket (l0 : Int32) (h : Hp) : Sm rvI g_X9_isPacket 0 (ent 1 [.int l0]) [] h (f_X9_isPacket l0 h) := by
  show Sm rvI g_X9_isPacket 0 [.int l0] [] h _
  unfold f_X9_isPacket
  refine Sm.iload_n dX9_isPacket_0 rfl rfl rfl ?_
  refine Sm.if_lt (t := 14) dX9_isPacket_1 (by decide) rfl (fun b1 => ?_) (fun b1 => ?_)
  · refine Sm.iconst dX9_isPacket_14 ic_0 rfl ?_
    exact Sm.ret dX9_isPacket_15 (Or.inl rfl) rfl
  · refine Sm.iload_n dX9_isPacket_4 rfl rfl rfl ?_
    refine Sm.bipush dX9_isPacket_5 bp_64 rfl ?_
    refine Sm.icmp_ge (t := 14) dX9_isPacket_7 (by decide) rfl (fun b2 => ?_) (fun b2 => ?_)
    · refine Sm.iconst dX9_isPacket_14 ic_0 rfl ?_
      exact Sm.ret dX9_isPacket_15 (Or.inl rfl) rfl
    · refine Sm.iconst dX9_isPacket_10 ic_1 rfl ?_
      refine Sm.goto (t := 15) dX9_isPacket_11 (by decide) ?_
      exact Sm.ret dX9_isPacket_15 (Or.inr rfl) rfl
set_option maxRecDepth 20000 in
theorem kc_X9_120 {ρ : Type} {rv : ρ → Option Value} {G : Gx} {pc q : Nat} {lv st : List Value} {h : Hp} {x0 : Int32} {e : Int32 → Hp → Option (ρ × Hp)} (d : decode G.2.1 pc = .ok (.invokestatic 120, 3)) (ho : G.1.cls = RX9) (hdep : (g_X9_isPacket).2.2.2.2 < G.2.2.2.2) (hcat : catS st ≤ 8) (hq : pc + 3 = q) (k : ∀ r h1, Sm rv G q lv (.int r :: st) h1 (e r h1)) : Sm rv G pc lv (.int x0 :: st) h (bd (f_X9_isPacket x0 h) e) :=
  Sm.callS (rv' := rvI) (as := [.int x0]) (n := 1) (t_X9_isPacket x0 h) ho mw_682 mw_575 mw_1 mw_576 ⟨⟨by decide, rfl, hdep, Nat.le_of_ble_eq_true rfl⟩, Nat.le_of_ble_eq_true rfl, rfl, ⟨by decide, by decide⟩, hcat⟩ (by decide +kernel) (by intro v hv; simp only [List.mem_cons, List.not_mem_nil, or_false] at hv; rcases hv with rfl <;> intro x hx <;> cases hx) d hq k rfl
set_option maxRecDepth 20000 in
theorem kc_X6_15 {ρ : Type} {rv : ρ → Option Value} {G : Gx} {pc q : Nat} {lv st : List Value} {h : Hp} {x0 : Int32} {e : Int32 → Hp → Option (ρ × Hp)} (d : decode G.2.1 pc = .ok (.invokestatic 15, 3)) (ho : G.1.cls = RX6) (hdep : (g_X9_isPacket).2.2.2.2 < G.2.2.2.2) (hcat : catS st ≤ 8) (hq : pc + 3 = q) (k : ∀ r h1, Sm rv G q lv (.int r :: st) h1 (e r h1)) : Sm rv G pc lv (.int x0 :: st) h (bd (f_X9_isPacket x0 h) e) :=
  Sm.callSN (rv' := rvI) (as := [.int x0]) (n := 1) (t_X9_isPacket x0 h) ho mw_574 mw_575 mw_1 mw_576 ⟨⟨by decide, rfl, hdep, Nat.le_of_ble_eq_true rfl⟩, Nat.le_of_ble_eq_true rfl, rfl, ⟨by decide, by decide⟩, hcat⟩ (by decide +kernel) (by intro v hv; simp only [List.mem_cons, List.not_mem_nil, or_false] at hv; rcases hv with rfl <;> intro x hx <;> cases hx) d hq k rfl
abbrev g_X6_imageOf : Gx := (yX6_imageOf, cX6_imageOf, 2, (Option.some FieldType.long), 1)
def f_X6_imageOf (l0 : Nat) (l1 : Int32) (h : Hp) : Option (Int64 × Hp) :=
  (bd (f_X9_isPacket l1 h) fun v1 h2 =>
(if v1 = 0 then
(some ((0 : Int64), h2))
else
(ck h2 l0 6
((gP h2 l0 0).bind fun v5 =>
(ca h2 v5 22 l1
(some ((gL h2 v5 l1.toNatClampNeg), h2)))))))
set_option maxRecDepth 20000 in
theorem t_X6_imageOf (l0 : Nat) (l1 : Int32) (h : Hp) : Sm rvJ g_X6_imageOf 0 (ent 2 [.ref l0, .int l1]) [] h (f_X6_imageOf l0 l1 h) := by
  show Sm rvJ g_X6_imageOf 0 [.ref l0, .int l1] [] h _
  unfold f_X6_imageOf
  refine Sm.iload_n dX6_imageOf_0 rfl rfl rfl ?_
  refine kc_X6_15 dX6_imageOf_1 rfl (Nat.le_of_ble_eq_true rfl) (Nat.le_of_ble_eq_true rfl) rfl (fun v1 h2 => ?_)
  refine Sm.if_eq (t := 16) dX6_imageOf_4 (by decide) rfl (fun b3 => ?_) (fun b3 => ?_)
  · refine Sm.lconst (v := (0 : Int64)) dX6_imageOf_16 (by decide) rfl ?_
    exact Sm.ret dX6_imageOf_17 trivial rfl
  · refine Sm.aload_n dX6_imageOf_7 rfl rfl rfl ?_
    refine Sm.ck (fun o4 => ?_)
    refine gf_X6_9 o4 dX6_imageOf_8 rfl rfl (fun v5 => ?_)
    refine Sm.iload_n dX6_imageOf_11 rfl rfl rfl ?_
    refine Sm.ca (fun q6 => ?_)
    refine Sm.lald q6 dX6_imageOf_12 rfl ?_
    refine Sm.goto (t := 17) dX6_imageOf_13 (by decide) ?_
    exact Sm.ret dX6_imageOf_17 trivial rfl
set_option maxRecDepth 20000 in
theorem kc_X0_48 {ρ : Type} {rv : ρ → Option Value} {G : Gx} {pc q : Nat} {lv st : List Value} {h : Hp} {a : Nat} {x1 : Int32} {e : Int64 → Hp → Option (ρ × Hp)} (hk : isO h a 6) (d : decode G.2.1 pc = .ok (.invokevirtual 48, 3)) (ho : G.1.cls = RX0) (hdep : (g_X6_imageOf).2.2.2.2 < G.2.2.2.2) (hcat : catS st ≤ 8) (hq : pc + 3 = q) (k : ∀ r h1, Sm rv G q lv (.long r :: st) h1 (e r h1)) : Sm rv G pc lv (.int x1 :: .ref a :: st) h (bd (f_X6_imageOf a x1 h) e) :=
  Sm.callV (rv' := rvJ) (args := [.int x1]) (n := 1) (t_X6_imageOf a x1 h) hk (by decide) (r := (RX6, TX6, 1)) rfl rfl ho mw_581 mw_582 mw_583 mw_8 mw_584 ⟨⟨by decide, rfl, hdep, Nat.le_of_ble_eq_true rfl⟩, Nat.le_of_ble_eq_true rfl, rfl, ⟨by decide, by decide⟩, hcat⟩ (by decide +kernel) (by intro v hv; simp only [List.mem_cons, List.not_mem_nil, or_false] at hv; rcases hv with rfl <;> intro x hx <;> cases hx) d hq k rfl
set_option maxRecDepth 20000 in
theorem kc_X9_127 {ρ : Type} {rv : ρ → Option Value} {G : Gx} {pc q : Nat} {lv st : List Value} {h : Hp} {a : Nat} {x1 : Int32} {e : Int64 → Hp → Option (ρ × Hp)} (hk : isO h a 6) (d : decode G.2.1 pc = .ok (.invokevirtual 127, 3)) (ho : G.1.cls = RX9) (hdep : (g_X6_imageOf).2.2.2.2 < G.2.2.2.2) (hcat : catS st ≤ 8) (hq : pc + 3 = q) (k : ∀ r h1, Sm rv G q lv (.long r :: st) h1 (e r h1)) : Sm rv G pc lv (.int x1 :: .ref a :: st) h (bd (f_X6_imageOf a x1 h) e) :=
  Sm.callV (rv' := rvJ) (args := [.int x1]) (n := 1) (t_X6_imageOf a x1 h) hk (by decide) (r := (RX6, TX6, 1)) rfl rfl ho mw_687 mw_582 mw_583 mw_8 mw_584 ⟨⟨by decide, rfl, hdep, Nat.le_of_ble_eq_true rfl⟩, Nat.le_of_ble_eq_true rfl, rfl, ⟨by decide, by decide⟩, hcat⟩ (by decide +kernel) (by intro v hv; simp only [List.mem_cons, List.not_mem_nil, or_false] at hv; rcases hv with rfl <;> intro x hx <;> cases hx) d hq k rfl
abbrev g_J13_bitCount_95d88 : Gx := (yJ13_bitCount_95d88, cJ13_bitCount_95d88, 2, (Option.some FieldType.int), 0)
def f_J13_bitCount_95d88 (l0 : Int64) (h : Hp) : Option (Int32 × Hp) :=
  (nm (l0 - (((l0.toUInt64 >>> ((1 : Int32).toInt64.toUInt64 &&& Int64.toUInt64 63)).toInt64) &&& (6148914691236517205 : Int64))) fun v1 =>
(nm ((v1 &&& (3689348814741910323 : Int64)) + (((v1.toUInt64 >>> ((2 : Int32).toInt64.toUInt64 &&& Int64.toUInt64 63)).toInt64) &&& (3689348814741910323 : Int64))) fun v2 =>
(nm ((v2 + ((v2.toUInt64 >>> ((4 : Int32).toInt64.toUInt64 &&& Int64.toUInt64 63)).toInt64)) &&& (1085102592571150095 : Int64)) fun v3 =>
(nm (v3 + ((v3.toUInt64 >>> ((8 : Int32).toInt64.toUInt64 &&& Int64.toUInt64 63)).toInt64)) fun v4 =>
(nm (v4 + ((v4.toUInt64 >>> ((16 : Int32).toInt64.toUInt64 &&& Int64.toUInt64 63)).toInt64)) fun v5 =>
(nm (v5 + ((v5.toUInt64 >>> ((32 : Int32).toInt64.toUInt64 &&& Int64.toUInt64 63)).toInt64)) fun v6 =>
(some ((v6.toInt32 &&& (127 : Int32)), h))))))))
set_option maxRecDepth 20000 in
theorem t_J13_bitCount_95d88 (l0 : Int64) (h : Hp) : Sm rvI g_J13_bitCount_95d88 0 (ent 2 [.long l0]) [] h (f_J13_bitCount_95d88 l0 h) := by
  show Sm rvI g_J13_bitCount_95d88 0 [.long l0, .null] [] h _
  unfold f_J13_bitCount_95d88
  refine Sm.lload_n dJ13_bitCount_95d88_0 rfl rfl rfl ?_
  refine Sm.lload_n dJ13_bitCount_95d88_1 rfl rfl rfl ?_
  refine Sm.iconst dJ13_bitCount_95d88_2 ic_1 rfl ?_
  refine Sm.lushr dJ13_bitCount_95d88_3 rfl ?_
  refine Sm.ldc2 dJ13_bitCount_95d88_4 mw_531 rfl ?_
  refine Sm.land dJ13_bitCount_95d88_7 rfl ?_
  refine Sm.lsub dJ13_bitCount_95d88_8 rfl ?_
  refine Sm.nm (LV := fun v1 => [.long l0, .null]) (ST := fun v1 => [.long v1]) (fun v1 => ?_)
  refine Sm.lstore_n (lv' := [.long v1, .null]) dJ13_bitCount_95d88_9 rfl (Nat.le_of_ble_eq_true rfl) rfl rfl ?_
  refine Sm.lload_n dJ13_bitCount_95d88_10 rfl rfl rfl ?_
  refine Sm.ldc2 dJ13_bitCount_95d88_11 mw_532 rfl ?_
  refine Sm.land dJ13_bitCount_95d88_14 rfl ?_
  refine Sm.lload_n dJ13_bitCount_95d88_15 rfl rfl rfl ?_
  refine Sm.iconst dJ13_bitCount_95d88_16 ic_2 rfl ?_
  refine Sm.lushr dJ13_bitCount_95d88_17 rfl ?_
  refine Sm.ldc2 dJ13_bitCount_95d88_18 mw_532 rfl ?_
  refine Sm.land dJ13_bitCount_95d88_21 rfl ?_
  refine Sm.ladd dJ13_bitCount_95d88_22 rfl ?_
  refine Sm.nm (LV := fun v2 => [.long v1, .null]) (ST := fun v2 => [.long v2]) (fun v2 => ?_)
  refine Sm.lstore_n (lv' := [.long v2, .null]) dJ13_bitCount_95d88_23 rfl (Nat.le_of_ble_eq_true rfl) rfl rfl ?_
  refine Sm.lload_n dJ13_bitCount_95d88_24 rfl rfl rfl ?_
  refine Sm.lload_n dJ13_bitCount_95d88_25 rfl rfl rfl ?_
  refine Sm.iconst dJ13_bitCount_95d88_26 ic_4 rfl ?_
  refine Sm.lushr dJ13_bitCount_95d88_27 rfl ?_
  refine Sm.ladd dJ13_bitCount_95d88_28 rfl ?_
  refine Sm.ldc2 dJ13_bitCount_95d88_29 mw_533 rfl ?_
  refine Sm.land dJ13_bitCount_95d88_32 rfl ?_
  refine Sm.nm (LV := fun v3 => [.long v2, .null]) (ST := fun v3 => [.long v3]) (fun v3 => ?_)
  refine Sm.lstore_n (lv' := [.long v3, .null]) dJ13_bitCount_95d88_33 rfl (Nat.le_of_ble_eq_true rfl) rfl rfl ?_
  refine Sm.lload_n dJ13_bitCount_95d88_34 rfl rfl rfl ?_
  refine Sm.lload_n dJ13_bitCount_95d88_35 rfl rfl rfl ?_
  refine Sm.bipush dJ13_bitCount_95d88_36 bp_8 rfl ?_
  refine Sm.lushr dJ13_bitCount_95d88_38 rfl ?_
  refine Sm.ladd dJ13_bitCount_95d88_39 rfl ?_
  refine Sm.nm (LV := fun v4 => [.long v3, .null]) (ST := fun v4 => [.long v4]) (fun v4 => ?_)
  refine Sm.lstore_n (lv' := [.long v4, .null]) dJ13_bitCount_95d88_40 rfl (Nat.le_of_ble_eq_true rfl) rfl rfl ?_
  refine Sm.lload_n dJ13_bitCount_95d88_41 rfl rfl rfl ?_
  refine Sm.lload_n dJ13_bitCount_95d88_42 rfl rfl rfl ?_
  refine Sm.bipush dJ13_bitCount_95d88_43 bp_16 rfl ?_
  refine Sm.lushr dJ13_bitCount_95d88_45 rfl ?_
  refine Sm.ladd dJ13_bitCount_95d88_46 rfl ?_
  refine Sm.nm (LV := fun v5 => [.long v4, .null]) (ST := fun v5 => [.long v5]) (fun v5 => ?_)
  refine Sm.lstore_n (lv' := [.long v5, .null]) dJ13_bitCount_95d88_47 rfl (Nat.le_of_ble_eq_true rfl) rfl rfl ?_
  refine Sm.lload_n dJ13_bitCount_95d88_48 rfl rfl rfl ?_
  refine Sm.lload_n dJ13_bitCount_95d88_49 rfl rfl rfl ?_
  refine Sm.bipush dJ13_bitCount_95d88_50 bp_32 rfl ?_
  refine Sm.lushr dJ13_bitCount_95d88_52 rfl ?_
  refine Sm.ladd dJ13_bitCount_95d88_53 rfl ?_
  refine Sm.nm (LV := fun v6 => [.long v5, .null]) (ST := fun v6 => [.long v6]) (fun v6 => ?_)
  refine Sm.lstore_n (lv' := [.long v6, .null]) dJ13_bitCount_95d88_54 rfl (Nat.le_of_ble_eq_true rfl) rfl rfl ?_
  refine Sm.lload_n dJ13_bitCount_95d88_55 rfl rfl rfl ?_
  refine Sm.l2i dJ13_bitCount_95d88_56 rfl ?_
  refine Sm.bipush dJ13_bitCount_95d88_57 bp_127 rfl ?_
  refine Sm.iand dJ13_bitCount_95d88_59 rfl ?_
  exact Sm.ret dJ13_bitCount_95d88_60 trivial rfl
set_option maxRecDepth 20000 in
theorem kc_X9_246 {ρ : Type} {rv : ρ → Option Value} {G : Gx} {pc q : Nat} {lv st : List Value} {h : Hp} {x0 : Int64} {e : Int32 → Hp → Option (ρ × Hp)} (d : decode G.2.1 pc = .ok (.invokestatic 246, 3)) (ho : G.1.cls = RX9) (hdep : (g_J13_bitCount_95d88).2.2.2.2 < G.2.2.2.2) (hcat : catS st ≤ 8) (hq : pc + 3 = q) (k : ∀ r h1, Sm rv G q lv (.int r :: st) h1 (e r h1)) : Sm rv G pc lv (.long x0 :: st) h (bd (f_J13_bitCount_95d88 x0 h) e) :=
  Sm.callS (rv' := rvI) (as := [.long x0]) (n := 1) (t_J13_bitCount_95d88 x0 h) ho mw_528 mw_529 mw_12 mw_530 ⟨⟨by decide, rfl, hdep, Nat.le_of_ble_eq_true rfl⟩, Nat.le_of_ble_eq_true rfl, rfl, ⟨by decide, by decide⟩, hcat⟩ (by decide +kernel) (by intro v hv; simp only [List.mem_cons, List.not_mem_nil, or_false] at hv; rcases hv with rfl <;> intro x hx <;> cases hx) d hq k rfl
set_option maxRecDepth 20000 in
theorem kc_X0_62 {ρ : Type} {rv : ρ → Option Value} {G : Gx} {pc q : Nat} {lv st : List Value} {h : Hp} {x0 : Int64} {e : Int32 → Hp → Option (ρ × Hp)} (d : decode G.2.1 pc = .ok (.invokestatic 62, 3)) (ho : G.1.cls = RX0) (hdep : (g_J13_bitCount_95d88).2.2.2.2 < G.2.2.2.2) (hcat : catS st ≤ 8) (hq : pc + 3 = q) (k : ∀ r h1, Sm rv G q lv (.int r :: st) h1 (e r h1)) : Sm rv G pc lv (.long x0 :: st) h (bd (f_J13_bitCount_95d88 x0 h) e) :=
  Sm.callS (rv' := rvI) (as := [.long x0]) (n := 1) (t_J13_bitCount_95d88 x0 h) ho mw_589 mw_529 mw_12 mw_530 ⟨⟨by decide, rfl, hdep, Nat.le_of_ble_eq_true rfl⟩, Nat.le_of_ble_eq_true rfl, rfl, ⟨by decide, by decide⟩, hcat⟩ (by decide +kernel) (by intro v hv; simp only [List.mem_cons, List.not_mem_nil, or_false] at hv; rcases hv with rfl <;> intro x hx <;> cases hx) d hq k rfl
set_option maxRecDepth 20000 in
theorem kc_X6_23 {ρ : Type} {rv : ρ → Option Value} {G : Gx} {pc q : Nat} {lv st : List Value} {h : Hp} {x0 : Int64} {e : Int32 → Hp → Option (ρ × Hp)} (d : decode G.2.1 pc = .ok (.invokestatic 23, 3)) (ho : G.1.cls = RX6) (hdep : (g_J13_bitCount_95d88).2.2.2.2 < G.2.2.2.2) (hcat : catS st ≤ 8) (hq : pc + 3 = q) (k : ∀ r h1, Sm rv G q lv (.int r :: st) h1 (e r h1)) : Sm rv G pc lv (.long x0 :: st) h (bd (f_J13_bitCount_95d88 x0 h) e) :=
  Sm.callS (rv' := rvI) (as := [.long x0]) (n := 1) (t_J13_bitCount_95d88 x0 h) ho mw_705 mw_529 mw_12 mw_530 ⟨⟨by decide, rfl, hdep, Nat.le_of_ble_eq_true rfl⟩, Nat.le_of_ble_eq_true rfl, rfl, ⟨by decide, by decide⟩, hcat⟩ (by decide +kernel) (by intro v hv; simp only [List.mem_cons, List.not_mem_nil, or_false] at hv; rcases hv with rfl <;> intro x hx <;> cases hx) d hq k rfl
abbrev g_X9_lowestOf : Gx := (yX9_lowestOf, cX9_lowestOf, 2, (Option.some FieldType.int), 1)
def f_X9_lowestOf (l0 : Int64) (h : Hp) : Option (Int32 × Hp) :=
  (bd (f_J13_bitCount_95d88 ((l0 &&& (-l0)) - (1 : Int64)) h) fun v1 h2 =>
(some ((v1 &&& (63 : Int32)), h2)))
set_option maxRecDepth 20000 in
theorem t_X9_lowestOf (l0 : Int64) (h : Hp) : Sm rvI g_X9_lowestOf 0 (ent 2 [.long l0]) [] h (f_X9_lowestOf l0 h) := by
  show Sm rvI g_X9_lowestOf 0 [.long l0, .null] [] h _
  unfold f_X9_lowestOf
  refine Sm.lload_n dX9_lowestOf_0 rfl rfl rfl ?_
  refine Sm.lload_n dX9_lowestOf_1 rfl rfl rfl ?_
  refine Sm.lneg dX9_lowestOf_2 rfl ?_
  refine Sm.land dX9_lowestOf_3 rfl ?_
  refine Sm.lconst (v := (1 : Int64)) dX9_lowestOf_4 (by decide) rfl ?_
  refine Sm.lsub dX9_lowestOf_5 rfl ?_
  refine kc_X9_246 dX9_lowestOf_6 rfl (Nat.le_of_ble_eq_true rfl) (Nat.le_of_ble_eq_true rfl) rfl (fun v1 h2 => ?_)
  refine Sm.bipush dX9_lowestOf_9 bp_63 rfl ?_
  refine Sm.iand dX9_lowestOf_11 rfl ?_
  exact Sm.ret dX9_lowestOf_12 trivial rfl
set_option maxRecDepth 20000 in
theorem kc_X9_150 {ρ : Type} {rv : ρ → Option Value} {G : Gx} {pc q : Nat} {lv st : List Value} {h : Hp} {x0 : Int64} {e : Int32 → Hp → Option (ρ × Hp)} (d : decode G.2.1 pc = .ok (.invokestatic 150, 3)) (ho : G.1.cls = RX9) (hdep : (g_X9_lowestOf).2.2.2.2 < G.2.2.2.2) (hcat : catS st ≤ 8) (hq : pc + 3 = q) (k : ∀ r h1, Sm rv G q lv (.int r :: st) h1 (e r h1)) : Sm rv G pc lv (.long x0 :: st) h (bd (f_X9_lowestOf x0 h) e) :=
  Sm.callS (rv' := rvI) (as := [.long x0]) (n := 1) (t_X9_lowestOf x0 h) ho mw_534 mw_535 mw_1 mw_536 ⟨⟨by decide, rfl, hdep, Nat.le_of_ble_eq_true rfl⟩, Nat.le_of_ble_eq_true rfl, rfl, ⟨by decide, by decide⟩, hcat⟩ (by decide +kernel) (by intro v hv; simp only [List.mem_cons, List.not_mem_nil, or_false] at hv; rcases hv with rfl <;> intro x hx <;> cases hx) d hq k rfl
set_option maxRecDepth 20000 in
theorem kc_X0_68 {ρ : Type} {rv : ρ → Option Value} {G : Gx} {pc q : Nat} {lv st : List Value} {h : Hp} {x0 : Int64} {e : Int32 → Hp → Option (ρ × Hp)} (d : decode G.2.1 pc = .ok (.invokestatic 68, 3)) (ho : G.1.cls = RX0) (hdep : (g_X9_lowestOf).2.2.2.2 < G.2.2.2.2) (hcat : catS st ≤ 8) (hq : pc + 3 = q) (k : ∀ r h1, Sm rv G q lv (.int r :: st) h1 (e r h1)) : Sm rv G pc lv (.long x0 :: st) h (bd (f_X9_lowestOf x0 h) e) :=
  Sm.callSN (rv' := rvI) (as := [.long x0]) (n := 1) (t_X9_lowestOf x0 h) ho mw_590 mw_535 mw_1 mw_536 ⟨⟨by decide, rfl, hdep, Nat.le_of_ble_eq_true rfl⟩, Nat.le_of_ble_eq_true rfl, rfl, ⟨by decide, by decide⟩, hcat⟩ (by decide +kernel) (by intro v hv; simp only [List.mem_cons, List.not_mem_nil, or_false] at hv; rcases hv with rfl <;> intro x hx <;> cases hx) d hq k rfl
abbrev g_X9_shiftOf : Gx := (yX9_shiftOf, cX9_shiftOf, 1, (Option.some FieldType.int), 0)
def f_X9_shiftOf (l0 : Int32) (h : Hp) : Option (Int32 × Hp) :=
  (if l0 = 0 then
(some ((4 : Int32), h))
else
(if l0 = (1 : Int32) then
(some ((2 : Int32), h))
else
(some ((0 : Int32), h))))
set_option maxRecDepth 20000 in
theorem t_X9_shiftOf (l0 : Int32) (h : Hp) : Sm rvI g_X9_shiftOf 0 (ent 1 [.int l0]) [] h (f_X9_shiftOf l0 h) := by
  show Sm rvI g_X9_shiftOf 0 [.int l0] [] h _
  unfold f_X9_shiftOf
  refine Sm.iload_n dX9_shiftOf_0 rfl rfl rfl ?_
  refine Sm.if_ne (t := 8) dX9_shiftOf_1 (by decide) rfl (fun b1 => ?_) (fun b1 => ?_)
  · refine Sm.iconst dX9_shiftOf_4 ic_4 rfl ?_
    refine Sm.goto (t := 18) dX9_shiftOf_5 (by decide) ?_
    exact Sm.ret dX9_shiftOf_18 trivial rfl
  · refine Sm.iload_n dX9_shiftOf_8 rfl rfl rfl ?_
    refine Sm.iconst dX9_shiftOf_9 ic_1 rfl ?_
    refine Sm.icmp_ne (t := 17) dX9_shiftOf_10 (by decide) rfl (fun b2 => ?_) (fun b2 => ?_)
    · refine Sm.iconst dX9_shiftOf_13 ic_2 rfl ?_
      refine Sm.goto (t := 18) dX9_shiftOf_14 (by decide) ?_
      exact Sm.ret dX9_shiftOf_18 trivial rfl
    · refine Sm.iconst dX9_shiftOf_17 ic_0 rfl ?_
      exact Sm.ret dX9_shiftOf_18 trivial rfl
set_option maxRecDepth 20000 in
theorem kc_X9_243 {ρ : Type} {rv : ρ → Option Value} {G : Gx} {pc q : Nat} {lv st : List Value} {h : Hp} {x0 : Int32} {e : Int32 → Hp → Option (ρ × Hp)} (d : decode G.2.1 pc = .ok (.invokestatic 243, 3)) (ho : G.1.cls = RX9) (hdep : (g_X9_shiftOf).2.2.2.2 < G.2.2.2.2) (hcat : catS st ≤ 8) (hq : pc + 3 = q) (k : ∀ r h1, Sm rv G q lv (.int r :: st) h1 (e r h1)) : Sm rv G pc lv (.int x0 :: st) h (bd (f_X9_shiftOf x0 h) e) :=
  Sm.callS (rv' := rvI) (as := [.int x0]) (n := 1) (t_X9_shiftOf x0 h) ho mw_564 mw_565 mw_1 mw_566 ⟨⟨by decide, rfl, hdep, Nat.le_of_ble_eq_true rfl⟩, Nat.le_of_ble_eq_true rfl, rfl, ⟨by decide, by decide⟩, hcat⟩ (by decide +kernel) (by intro v hv; simp only [List.mem_cons, List.not_mem_nil, or_false] at hv; rcases hv with rfl <;> intro x hx <;> cases hx) d hq k rfl
abbrev g_X9_valueOf : Gx := (yX9_valueOf, cX9_valueOf, 2, (Option.some FieldType.int), 1)
def f_X9_valueOf (l0 : Int32) (l1 : Int32) (h : Hp) : Option (Int32 × Hp) :=
  (bd (f_X9_shiftOf l1 h) fun v1 h2 =>
(some (((l0 >>> (v1 &&& 31)) &&& (3 : Int32)), h2)))
set_option maxRecDepth 20000 in
theorem t_X9_valueOf (l0 : Int32) (l1 : Int32) (h : Hp) : Sm rvI g_X9_valueOf 0 (ent 2 [.int l0, .int l1]) [] h (f_X9_valueOf l0 l1 h) := by
  show Sm rvI g_X9_valueOf 0 [.int l0, .int l1] [] h _
  unfold f_X9_valueOf
  refine Sm.iload_n dX9_valueOf_0 rfl rfl rfl ?_
  refine Sm.iload_n dX9_valueOf_1 rfl rfl rfl ?_
  refine kc_X9_243 dX9_valueOf_2 rfl (Nat.le_of_ble_eq_true rfl) (Nat.le_of_ble_eq_true rfl) rfl (fun v1 h2 => ?_)
  refine Sm.ishr dX9_valueOf_5 rfl ?_
  refine Sm.iconst dX9_valueOf_6 ic_3 rfl ?_
  refine Sm.iand dX9_valueOf_7 rfl ?_
  exact Sm.ret dX9_valueOf_8 trivial rfl
set_option maxRecDepth 20000 in
theorem kc_X9_251 {ρ : Type} {rv : ρ → Option Value} {G : Gx} {pc q : Nat} {lv st : List Value} {h : Hp} {x0 : Int32} {x1 : Int32} {e : Int32 → Hp → Option (ρ × Hp)} (d : decode G.2.1 pc = .ok (.invokestatic 251, 3)) (ho : G.1.cls = RX9) (hdep : (g_X9_valueOf).2.2.2.2 < G.2.2.2.2) (hcat : catS st ≤ 8) (hq : pc + 3 = q) (k : ∀ r h1, Sm rv G q lv (.int r :: st) h1 (e r h1)) : Sm rv G pc lv (.int x1 :: .int x0 :: st) h (bd (f_X9_valueOf x0 x1 h) e) :=
  Sm.callS (rv' := rvI) (as := [.int x0, .int x1]) (n := 2) (t_X9_valueOf x0 x1 h) ho mw_594 mw_562 mw_1 mw_563 ⟨⟨by decide, rfl, hdep, Nat.le_of_ble_eq_true rfl⟩, Nat.le_of_ble_eq_true rfl, rfl, ⟨by decide, by decide⟩, hcat⟩ (by decide +kernel) (by intro v hv; simp only [List.mem_cons, List.not_mem_nil, or_false] at hv; rcases hv with rfl | rfl <;> intro x hx <;> cases hx) d hq k rfl
set_option maxRecDepth 20000 in
theorem kc_X1_70 {ρ : Type} {rv : ρ → Option Value} {G : Gx} {pc q : Nat} {lv st : List Value} {h : Hp} {x0 : Int32} {x1 : Int32} {e : Int32 → Hp → Option (ρ × Hp)} (d : decode G.2.1 pc = .ok (.invokestatic 70, 3)) (ho : G.1.cls = RX1) (hdep : (g_X9_valueOf).2.2.2.2 < G.2.2.2.2) (hcat : catS st ≤ 8) (hq : pc + 3 = q) (k : ∀ r h1, Sm rv G q lv (.int r :: st) h1 (e r h1)) : Sm rv G pc lv (.int x1 :: .int x0 :: st) h (bd (f_X9_valueOf x0 x1 h) e) :=
  Sm.callSN (rv' := rvI) (as := [.int x0, .int x1]) (n := 2) (t_X9_valueOf x0 x1 h) ho mw_561 mw_562 mw_1 mw_563 ⟨⟨by decide, rfl, hdep, Nat.le_of_ble_eq_true rfl⟩, Nat.le_of_ble_eq_true rfl, rfl, ⟨by decide, by decide⟩, hcat⟩ (by decide +kernel) (by intro v hv; simp only [List.mem_cons, List.not_mem_nil, or_false] at hv; rcases hv with rfl | rfl <;> intro x hx <;> cases hx) d hq k rfl
set_option maxRecDepth 20000 in
theorem kc_X8_64 {ρ : Type} {rv : ρ → Option Value} {G : Gx} {pc q : Nat} {lv st : List Value} {h : Hp} {x0 : Int32} {x1 : Int32} {e : Int32 → Hp → Option (ρ × Hp)} (d : decode G.2.1 pc = .ok (.invokestatic 64, 3)) (ho : G.1.cls = RX8) (hdep : (g_X9_valueOf).2.2.2.2 < G.2.2.2.2) (hcat : catS st ≤ 8) (hq : pc + 3 = q) (k : ∀ r h1, Sm rv G q lv (.int r :: st) h1 (e r h1)) : Sm rv G pc lv (.int x1 :: .int x0 :: st) h (bd (f_X9_valueOf x0 x1 h) e) :=
  Sm.callSN (rv' := rvI) (as := [.int x0, .int x1]) (n := 2) (t_X9_valueOf x0 x1 h) ho mw_843 mw_562 mw_1 mw_563 ⟨⟨by decide, rfl, hdep, Nat.le_of_ble_eq_true rfl⟩, Nat.le_of_ble_eq_true rfl, rfl, ⟨by decide, by decide⟩, hcat⟩ (by decide +kernel) (by intro v hv; simp only [List.mem_cons, List.not_mem_nil, or_false] at hv; rcases hv with rfl | rfl <;> intro x hx <;> cases hx) d hq k rfl
abbrev g_X9_weightOf : Gx := (yX9_weightOf, cX9_weightOf, 1, (Option.some FieldType.int), 0)
def f_X9_weightOf (l0 : Int32) (h : Hp) : Option (Int32 × Hp) :=
  (if l0 = 0 then
(some ((25 : Int32), h))
else
(if l0 = (1 : Int32) then
(some ((5 : Int32), h))
else
(some ((1 : Int32), h))))
set_option maxRecDepth 20000 in
theorem t_X9_weightOf (l0 : Int32) (h : Hp) : Sm rvI g_X9_weightOf 0 (ent 1 [.int l0]) [] h (f_X9_weightOf l0 h) := by
  show Sm rvI g_X9_weightOf 0 [.int l0] [] h _
  unfold f_X9_weightOf
  refine Sm.iload_n dX9_weightOf_0 rfl rfl rfl ?_
  refine Sm.if_ne (t := 9) dX9_weightOf_1 (by decide) rfl (fun b1 => ?_) (fun b1 => ?_)
  · refine Sm.bipush dX9_weightOf_4 bp_25 rfl ?_
    refine Sm.goto (t := 19) dX9_weightOf_6 (by decide) ?_
    exact Sm.ret dX9_weightOf_19 trivial rfl
  · refine Sm.iload_n dX9_weightOf_9 rfl rfl rfl ?_
    refine Sm.iconst dX9_weightOf_10 ic_1 rfl ?_
    refine Sm.icmp_ne (t := 18) dX9_weightOf_11 (by decide) rfl (fun b2 => ?_) (fun b2 => ?_)
    · refine Sm.iconst dX9_weightOf_14 ic_5 rfl ?_
      refine Sm.goto (t := 19) dX9_weightOf_15 (by decide) ?_
      exact Sm.ret dX9_weightOf_19 trivial rfl
    · refine Sm.iconst dX9_weightOf_18 ic_1 rfl ?_
      exact Sm.ret dX9_weightOf_19 trivial rfl
set_option maxRecDepth 20000 in
theorem kc_X9_254 {ρ : Type} {rv : ρ → Option Value} {G : Gx} {pc q : Nat} {lv st : List Value} {h : Hp} {x0 : Int32} {e : Int32 → Hp → Option (ρ × Hp)} (d : decode G.2.1 pc = .ok (.invokestatic 254, 3)) (ho : G.1.cls = RX9) (hdep : (g_X9_weightOf).2.2.2.2 < G.2.2.2.2) (hcat : catS st ≤ 8) (hq : pc + 3 = q) (k : ∀ r h1, Sm rv G q lv (.int r :: st) h1 (e r h1)) : Sm rv G pc lv (.int x0 :: st) h (bd (f_X9_weightOf x0 h) e) :=
  Sm.callS (rv' := rvI) (as := [.int x0]) (n := 1) (t_X9_weightOf x0 h) ho mw_595 mw_596 mw_1 mw_597 ⟨⟨by decide, rfl, hdep, Nat.le_of_ble_eq_true rfl⟩, Nat.le_of_ble_eq_true rfl, rfl, ⟨by decide, by decide⟩, hcat⟩ (by decide +kernel) (by intro v hv; simp only [List.mem_cons, List.not_mem_nil, or_false] at hv; rcases hv with rfl <;> intro x hx <;> cases hx) d hq k rfl
set_option maxRecDepth 20000 in
theorem kc_X8_54 {ρ : Type} {rv : ρ → Option Value} {G : Gx} {pc q : Nat} {lv st : List Value} {h : Hp} {x0 : Int32} {e : Int32 → Hp → Option (ρ × Hp)} (d : decode G.2.1 pc = .ok (.invokestatic 54, 3)) (ho : G.1.cls = RX8) (hdep : (g_X9_weightOf).2.2.2.2 < G.2.2.2.2) (hcat : catS st ≤ 8) (hq : pc + 3 = q) (k : ∀ r h1, Sm rv G q lv (.int r :: st) h1 (e r h1)) : Sm rv G pc lv (.int x0 :: st) h (bd (f_X9_weightOf x0 h) e) :=
  Sm.callSN (rv' := rvI) (as := [.int x0]) (n := 1) (t_X9_weightOf x0 h) ho mw_661 mw_596 mw_1 mw_597 ⟨⟨by decide, rfl, hdep, Nat.le_of_ble_eq_true rfl⟩, Nat.le_of_ble_eq_true rfl, rfl, ⟨by decide, by decide⟩, hcat⟩ (by decide +kernel) (by intro v hv; simp only [List.mem_cons, List.not_mem_nil, or_false] at hv; rcases hv with rfl <;> intro x hx <;> cases hx) d hq k rfl
abbrev g_X9_actionFrom : Gx := (yX9_actionFrom, cX9_actionFrom, 5, (Option.some FieldType.int), 2)
def f_X9_actionFrom_4 (k4 : (Int32 × Int32 × Hp) → Option (Int32 × Hp)) (l0 : Int32) (l1 : Int32) (l2 : Int32) (l3 : Int32) (h : Hp) : Option (Int32 × Hp) :=
  (if (3 : Int32) ≤ l3 then
(some (l2, h))
else
(bd (f_X9_valueOf l1 l3 h) fun v2 h3 =>
(bd (f_X9_weightOf l3 h3) fun v4 h5 =>
(bd (f_X9_valueOf l0 l3 h5) fun v6 h7 =>
(if v2 = v6 then
(nm (l2 + (v4 * (4 : Int32))) fun v9 =>
(nm (l3 + (1 : Int32)) fun v10 =>
(k4 (v9, v10, h7))))
else
(nm (l2 + (v4 * v2)) fun v11 =>
(nm (l3 + (1 : Int32)) fun v12 =>
(k4 (v11, v12, h7)))))))))
set_option maxRecDepth 20000 in
theorem t_X9_actionFrom_4 (l0 : Int32) (l1 : Int32) (l2 : Int32) (l3 : Int32) (h : Hp) (k4 : (Int32 × Int32 × Hp) → Option (Int32 × Hp)) (hk4 : ∀ s : Int32 × Int32 × Hp, Sm rvI g_X9_actionFrom 4 [.int l0, .int l1, .int s.1, .int s.2.1, .null] [] s.2.2 (k4 s)) : Sm rvI g_X9_actionFrom 4 [.int l0, .int l1, .int l2, .int l3, .null] [] h (f_X9_actionFrom_4 k4 l0 l1 l2 l3 h) := by
  unfold f_X9_actionFrom_4
  refine Sm.iload_n dX9_actionFrom_4 rfl rfl rfl ?_
  refine Sm.iconst dX9_actionFrom_5 ic_3 rfl ?_
  refine Sm.icmp_ge (t := 46) dX9_actionFrom_6 (by decide) rfl (fun b1 => ?_) (fun b1 => ?_)
  · refine Sm.iload_n dX9_actionFrom_46 rfl rfl rfl ?_
    exact Sm.ret dX9_actionFrom_47 trivial rfl
  · refine Sm.iload_n dX9_actionFrom_9 rfl rfl rfl ?_
    refine Sm.iload_n dX9_actionFrom_10 rfl rfl rfl ?_
    refine kc_X9_251 dX9_actionFrom_11 rfl (Nat.le_of_ble_eq_true rfl) (Nat.le_of_ble_eq_true rfl) rfl (fun v2 h3 => ?_)
    refine Sm.istore (lv' := [.int l0, .int l1, .int l2, .int l3, .int v2]) dX9_actionFrom_14 (Nat.le_of_ble_eq_true rfl) rfl rfl ?_
    refine Sm.iload_n dX9_actionFrom_16 rfl rfl rfl ?_
    refine Sm.iload_n dX9_actionFrom_17 rfl rfl rfl ?_
    refine kc_X9_254 dX9_actionFrom_18 rfl (Nat.le_of_ble_eq_true rfl) (Nat.le_of_ble_eq_true rfl) rfl (fun v4 h5 => ?_)
    refine Sm.iload dX9_actionFrom_21 rfl rfl ?_
    refine Sm.iload_n dX9_actionFrom_23 rfl rfl rfl ?_
    refine Sm.iload_n dX9_actionFrom_24 rfl rfl rfl ?_
    refine kc_X9_251 dX9_actionFrom_25 rfl (Nat.le_of_ble_eq_true rfl) (Nat.le_of_ble_eq_true rfl) rfl (fun v6 h7 => ?_)
    refine Sm.icmp_ne (t := 35) dX9_actionFrom_28 (by decide) rfl (fun b8 => ?_) (fun b8 => ?_)
    · refine Sm.iconst dX9_actionFrom_31 ic_4 rfl ?_
      refine Sm.goto (t := 37) dX9_actionFrom_32 (by decide) ?_
      refine Sm.imul dX9_actionFrom_37 rfl ?_
      refine Sm.iadd dX9_actionFrom_38 rfl ?_
      refine Sm.nm (LV := fun v9 => [.int l0, .int l1, .int l2, .int l3, .int v2]) (ST := fun v9 => [.int v9]) (fun v9 => ?_)
      refine Sm.istore_n (lv' := [.int l0, .int l1, .int v9, .int l3, .int v2]) dX9_actionFrom_39 rfl (Nat.le_of_ble_eq_true rfl) rfl rfl ?_
      refine Sm.iinc (lv' := [.int l0, .int l1, .int v9, .int (l3 + (1 : Int32)), .int v2]) dX9_actionFrom_40 rfl ic_1 rfl rfl ?_
      refine Sm.nm (LV := fun v10 => [.int l0, .int l1, .int v9, .int v10, .int v2]) (ST := fun v10 => []) (fun v10 => ?_)
      refine Sm.goto (t := 4) dX9_actionFrom_43 (by decide) ?_
      exact Sm.wk (hk4 (v9, v10, h7)) ⟨Or.inr rfl, Or.inr rfl, Or.inr rfl, Or.inr rfl, Or.inl rfl, trivial⟩
    · refine Sm.iload dX9_actionFrom_35 rfl rfl ?_
      refine Sm.imul dX9_actionFrom_37 rfl ?_
      refine Sm.iadd dX9_actionFrom_38 rfl ?_
      refine Sm.nm (LV := fun v11 => [.int l0, .int l1, .int l2, .int l3, .int v2]) (ST := fun v11 => [.int v11]) (fun v11 => ?_)
      refine Sm.istore_n (lv' := [.int l0, .int l1, .int v11, .int l3, .int v2]) dX9_actionFrom_39 rfl (Nat.le_of_ble_eq_true rfl) rfl rfl ?_
      refine Sm.iinc (lv' := [.int l0, .int l1, .int v11, .int (l3 + (1 : Int32)), .int v2]) dX9_actionFrom_40 rfl ic_1 rfl rfl ?_
      refine Sm.nm (LV := fun v12 => [.int l0, .int l1, .int v11, .int v12, .int v2]) (ST := fun v12 => []) (fun v12 => ?_)
      refine Sm.goto (t := 4) dX9_actionFrom_43 (by decide) ?_
      exact Sm.wk (hk4 (v11, v12, h7)) ⟨Or.inr rfl, Or.inr rfl, Or.inr rfl, Or.inr rfl, Or.inl rfl, trivial⟩
def f_X9_actionFrom (l0 : Int32) (l1 : Int32) (h : Hp) : Option (Int32 × Hp) :=
  (loopN (fun k s => f_X9_actionFrom_4 k l0 l1 s.1 s.2.1 s.2.2) 5000 ((0 : Int32), (0 : Int32), h))
set_option maxRecDepth 20000 in
theorem t_X9_actionFrom (l0 : Int32) (l1 : Int32) (h : Hp) : Sm rvI g_X9_actionFrom 0 (ent 5 [.int l0, .int l1]) [] h (f_X9_actionFrom l0 l1 h) := by
  show Sm rvI g_X9_actionFrom 0 [.int l0, .int l1, .null, .null, .null] [] h _
  unfold f_X9_actionFrom
  refine Sm.iconst dX9_actionFrom_0 ic_0 rfl ?_
  refine Sm.istore_n (lv' := [.int l0, .int l1, .int (0 : Int32), .null, .null]) dX9_actionFrom_1 rfl (Nat.le_of_ble_eq_true rfl) rfl rfl ?_
  refine Sm.iconst dX9_actionFrom_2 ic_0 rfl ?_
  refine Sm.istore_n (lv' := [.int l0, .int l1, .int (0 : Int32), .int (0 : Int32), .null]) dX9_actionFrom_3 rfl (Nat.le_of_ble_eq_true rfl) rfl rfl ?_
  exact Sm.wk (Sm.loop (σ := Int32 × Int32 × Hp) (LV := fun s => [.int l0, .int l1, .int s.1, .int s.2.1, .null]) (HH := fun s => s.2.2) (fun k hk s => t_X9_actionFrom_4 l0 l1 s.1 s.2.1 s.2.2 k hk) 5000 ((0 : Int32), (0 : Int32), h)) ⟨Or.inr rfl, Or.inr rfl, Or.inr rfl, Or.inr rfl, Or.inl rfl, trivial⟩
set_option maxRecDepth 20000 in
theorem kc_X0_71 {ρ : Type} {rv : ρ → Option Value} {G : Gx} {pc q : Nat} {lv st : List Value} {h : Hp} {x0 : Int32} {x1 : Int32} {e : Int32 → Hp → Option (ρ × Hp)} (d : decode G.2.1 pc = .ok (.invokestatic 71, 3)) (ho : G.1.cls = RX0) (hdep : (g_X9_actionFrom).2.2.2.2 < G.2.2.2.2) (hcat : catS st ≤ 8) (hq : pc + 3 = q) (k : ∀ r h1, Sm rv G q lv (.int r :: st) h1 (e r h1)) : Sm rv G pc lv (.int x1 :: .int x0 :: st) h (bd (f_X9_actionFrom x0 x1 h) e) :=
  Sm.callSN (rv' := rvI) (as := [.int x0, .int x1]) (n := 2) (t_X9_actionFrom x0 x1 h) ho mw_591 mw_592 mw_1 mw_593 ⟨⟨by decide, rfl, hdep, Nat.le_of_ble_eq_true rfl⟩, Nat.le_of_ble_eq_true rfl, rfl, ⟨by decide, by decide⟩, hcat⟩ (by decide +kernel) (by intro v hv; simp only [List.mem_cons, List.not_mem_nil, or_false] at hv; rcases hv with rfl | rfl <;> intro x hx <;> cases hx) d hq k rfl
abbrev g_X0_leafWith : Gx := (yX0_leafWith, cX0_leafWith, 6, (Option.some FieldType.int), 0)
def f_X0_leafWith_3 (k3 : Int32 → Option (Int32 × Hp)) (l0 : Nat) (l1 : Int64) (l3 : Int64) (l5 : Int32) (h : Hp) : Option (Int32 × Hp) :=
  (ck h l0 0
(if (gI h l0 5) ≤ l5 then
(some ((-1 : Int32), h))
else
(if (64 : Int32) ≤ l5 then
(some ((-1 : Int32), h))
else
((gP h l0 0).bind fun v4 =>
(ca h v4 22 l5
(if (lg_cmp (gL h v4 l5.toNatClampNeg) l1) = 0 then
((gP h l0 1).bind fun v7 =>
(ca h v7 22 l5
(if (lg_cmp (gL h v7 l5.toNatClampNeg) l3) = 0 then
(some (l5, h))
else
(nm (l5 + (1 : Int32)) fun v10 =>
(k3 v10)))))
else
(nm (l5 + (1 : Int32)) fun v11 =>
(k3 v11))))))))
set_option maxRecDepth 20000 in
theorem t_X0_leafWith_3 (l0 : Nat) (l1 : Int64) (l3 : Int64) (l5 : Int32) (h : Hp) (k3 : Int32 → Option (Int32 × Hp)) (hk3 : ∀ s : Int32, Sm rvI g_X0_leafWith 3 [.ref l0, .long l1, .null, .long l3, .null, .int s] [] h (k3 s)) : Sm rvI g_X0_leafWith 3 [.ref l0, .long l1, .null, .long l3, .null, .int l5] [] h (f_X0_leafWith_3 k3 l0 l1 l3 l5 h) := by
  unfold f_X0_leafWith_3
  refine Sm.iload dX0_leafWith_3 rfl rfl ?_
  refine Sm.aload_n dX0_leafWith_5 rfl rfl rfl ?_
  refine Sm.ck (fun o1 => ?_)
  refine gf_X0_28 o1 dX0_leafWith_6 rfl rfl ?_
  refine Sm.icmp_ge (t := 52) dX0_leafWith_9 (by decide) rfl (fun b2 => ?_) (fun b2 => ?_)
  · refine Sm.iconst dX0_leafWith_52 ic_m1 rfl ?_
    exact Sm.ret dX0_leafWith_53 trivial rfl
  · refine Sm.iload dX0_leafWith_12 rfl rfl ?_
    refine Sm.bipush dX0_leafWith_14 bp_64 rfl ?_
    refine Sm.icmp_ge (t := 52) dX0_leafWith_16 (by decide) rfl (fun b3 => ?_) (fun b3 => ?_)
    · refine Sm.iconst dX0_leafWith_52 ic_m1 rfl ?_
      exact Sm.ret dX0_leafWith_53 trivial rfl
    · refine Sm.aload_n dX0_leafWith_19 rfl rfl rfl ?_
      refine gf_X0_9 o1 dX0_leafWith_20 rfl rfl (fun v4 => ?_)
      refine Sm.iload dX0_leafWith_23 rfl rfl ?_
      refine Sm.ca (fun q5 => ?_)
      refine Sm.lald q5 dX0_leafWith_25 rfl ?_
      refine Sm.lload_n dX0_leafWith_26 rfl rfl rfl ?_
      refine Sm.lcmp dX0_leafWith_27 rfl ?_
      refine Sm.if_ne (t := 46) dX0_leafWith_28 (by decide) rfl (fun b6 => ?_) (fun b6 => ?_)
      · refine Sm.aload_n dX0_leafWith_31 rfl rfl rfl ?_
        refine gf_X0_15 o1 dX0_leafWith_32 rfl rfl (fun v7 => ?_)
        refine Sm.iload dX0_leafWith_35 rfl rfl ?_
        refine Sm.ca (fun q8 => ?_)
        refine Sm.lald q8 dX0_leafWith_37 rfl ?_
        refine Sm.lload_n dX0_leafWith_38 rfl rfl rfl ?_
        refine Sm.lcmp dX0_leafWith_39 rfl ?_
        refine Sm.if_ne (t := 46) dX0_leafWith_40 (by decide) rfl (fun b9 => ?_) (fun b9 => ?_)
        · refine Sm.iload dX0_leafWith_43 rfl rfl ?_
          exact Sm.ret dX0_leafWith_45 trivial rfl
        · refine Sm.iinc (lv' := [.ref l0, .long l1, .null, .long l3, .null, .int (l5 + (1 : Int32))]) dX0_leafWith_46 rfl ic_1 rfl rfl ?_
          refine Sm.nm (LV := fun v10 => [.ref l0, .long l1, .null, .long l3, .null, .int v10]) (ST := fun v10 => []) (fun v10 => ?_)
          refine Sm.goto (t := 3) dX0_leafWith_49 (by decide) ?_
          exact Sm.wk (hk3 v10) ⟨Or.inr rfl, Or.inr rfl, Or.inl rfl, Or.inr rfl, Or.inl rfl, Or.inr rfl, trivial⟩
      · refine Sm.iinc (lv' := [.ref l0, .long l1, .null, .long l3, .null, .int (l5 + (1 : Int32))]) dX0_leafWith_46 rfl ic_1 rfl rfl ?_
        refine Sm.nm (LV := fun v11 => [.ref l0, .long l1, .null, .long l3, .null, .int v11]) (ST := fun v11 => []) (fun v11 => ?_)
        refine Sm.goto (t := 3) dX0_leafWith_49 (by decide) ?_
        exact Sm.wk (hk3 v11) ⟨Or.inr rfl, Or.inr rfl, Or.inl rfl, Or.inr rfl, Or.inl rfl, Or.inr rfl, trivial⟩
def f_X0_leafWith (l0 : Nat) (l1 : Int64) (l3 : Int64) (h : Hp) : Option (Int32 × Hp) :=
  (loopN (fun k s => f_X0_leafWith_3 k l0 l1 l3 s h) 5000 (0 : Int32))
set_option maxRecDepth 20000 in
theorem t_X0_leafWith (l0 : Nat) (l1 : Int64) (l3 : Int64) (h : Hp) : Sm rvI g_X0_leafWith 0 (ent 6 [.ref l0, .long l1, .long l3]) [] h (f_X0_leafWith l0 l1 l3 h) := by
  show Sm rvI g_X0_leafWith 0 [.ref l0, .long l1, .null, .long l3, .null, .null] [] h _
  unfold f_X0_leafWith
  refine Sm.iconst dX0_leafWith_0 ic_0 rfl ?_
  refine Sm.istore (lv' := [.ref l0, .long l1, .null, .long l3, .null, .int (0 : Int32)]) dX0_leafWith_1 (Nat.le_of_ble_eq_true rfl) rfl rfl ?_
  exact Sm.wk (Sm.loop (σ := Int32) (LV := fun s => [.ref l0, .long l1, .null, .long l3, .null, .int s]) (HH := fun s => h) (fun k hk s => t_X0_leafWith_3 l0 l1 l3 s h k hk) 5000 (0 : Int32)) ⟨Or.inr rfl, Or.inr rfl, Or.inl rfl, Or.inr rfl, Or.inl rfl, Or.inr rfl, trivial⟩
set_option maxRecDepth 20000 in
theorem kc_X0_74 {ρ : Type} {rv : ρ → Option Value} {G : Gx} {pc q : Nat} {lv st : List Value} {h : Hp} {a : Nat} {x1 : Int64} {x2 : Int64} {e : Int32 → Hp → Option (ρ × Hp)} (hk : isO h a 0) (d : decode G.2.1 pc = .ok (.invokevirtual 74, 3)) (ho : G.1.cls = RX0) (hdep : (g_X0_leafWith).2.2.2.2 < G.2.2.2.2) (hcat : catS st ≤ 8) (hq : pc + 3 = q) (k : ∀ r h1, Sm rv G q lv (.int r :: st) h1 (e r h1)) : Sm rv G pc lv (.long x2 :: .long x1 :: .ref a :: st) h (bd (f_X0_leafWith a x1 x2 h) e) :=
  Sm.callV (rv' := rvI) (args := [.long x1, .long x2]) (n := 2) (t_X0_leafWith a x1 x2 h) hk (by decide) (r := (RX0, TX0, 10)) rfl rfl ho mw_598 mw_600 mp_39 mw_9 mw_601 ⟨⟨by decide, rfl, hdep, Nat.le_of_ble_eq_true rfl⟩, Nat.le_of_ble_eq_true rfl, rfl, ⟨by decide, by decide⟩, hcat⟩ (by decide +kernel) (by intro v hv; simp only [List.mem_cons, List.not_mem_nil, or_false] at hv; rcases hv with rfl | rfl <;> intro x hx <;> cases hx) d hq k rfl
abbrev g_X0_newLeaf : Gx := (yX0_newLeaf, cX0_newLeaf, 5, (Option.some FieldType.int), 0)
def f_X0_newLeaf (l0 : Nat) (l1 : Int64) (l3 : Int64) (h : Hp) : Option (Int32 × Hp) :=
  (ck h l0 0
(if (gI h l0 5) < (64 : Int32) then
((gP h l0 0).bind fun v3 =>
(ca h v3 22 (gI h l0 5)
((gP (sL h v3 (gI h l0 5).toNatClampNeg l1) l0 1).bind fun v5 =>
(ca (sL h v3 (gI h l0 5).toNatClampNeg l1) v5 22 (gI (sL h v3 (gI h l0 5).toNatClampNeg l1) l0 5)
(nm (sL (sL h v3 (gI h l0 5).toNatClampNeg l1) v5 (gI (sL h v3 (gI h l0 5).toNatClampNeg l1) l0 5).toNatClampNeg l3) fun h7 =>
((gP h7 l0 3).bind fun v10 =>
(ca h7 v10 20 (gI h7 l0 5)
(nm (sI (sI h7 v10 (gI h7 l0 5).toNatClampNeg (0 : Int32)) l0 5 ((gI (sI h7 v10 (gI h7 l0 5).toNatClampNeg (0 : Int32)) l0 5) + (1 : Int32))) fun h12 =>
(some (((gI h12 l0 5) - (1 : Int32)), h12))))))))))
else
(some ((0 : Int32), h))))
set_option maxRecDepth 20000 in
theorem t_X0_newLeaf (l0 : Nat) (l1 : Int64) (l3 : Int64) (h : Hp) : Sm rvI g_X0_newLeaf 0 (ent 5 [.ref l0, .long l1, .long l3]) [] h (f_X0_newLeaf l0 l1 l3 h) := by
  show Sm rvI g_X0_newLeaf 0 [.ref l0, .long l1, .null, .long l3, .null] [] h _
  unfold f_X0_newLeaf
  refine Sm.aload_n dX0_newLeaf_0 rfl rfl rfl ?_
  refine Sm.ck (fun o1 => ?_)
  refine gf_X0_28 o1 dX0_newLeaf_1 rfl rfl ?_
  refine Sm.bipush dX0_newLeaf_4 bp_64 rfl ?_
  refine Sm.icmp_lt (t := 11) dX0_newLeaf_6 (by decide) rfl (fun b2 => ?_) (fun b2 => ?_)
  · refine Sm.aload_n dX0_newLeaf_11 rfl rfl rfl ?_
    refine gf_X0_9 o1 dX0_newLeaf_12 rfl rfl (fun v3 => ?_)
    refine Sm.aload_n dX0_newLeaf_15 rfl rfl rfl ?_
    refine gf_X0_28 o1 dX0_newLeaf_16 rfl rfl ?_
    refine Sm.lload_n dX0_newLeaf_19 rfl rfl rfl ?_
    refine Sm.ca (fun q4 => ?_)
    refine Sm.last q4 dX0_newLeaf_20 rfl ?_
    refine Sm.aload_n dX0_newLeaf_21 rfl rfl rfl ?_
    refine gf_X0_15 o1 dX0_newLeaf_22 rfl rfl (fun v5 => ?_)
    refine Sm.aload_n dX0_newLeaf_25 rfl rfl rfl ?_
    refine gf_X0_28 o1 dX0_newLeaf_26 rfl rfl ?_
    refine Sm.lload_n dX0_newLeaf_29 rfl rfl rfl ?_
    refine Sm.ca (fun q6 => ?_)
    refine Sm.last q6 dX0_newLeaf_30 rfl ?_
    refine Sm.nmH (fun h7 e8 e9 => ?_)
    refine Sm.aload_n dX0_newLeaf_31 rfl rfl rfl ?_
    refine gf_X0_22 (isO.tr e8 e9 o1) dX0_newLeaf_32 rfl rfl (fun v10 => ?_)
    refine Sm.aload_n dX0_newLeaf_35 rfl rfl rfl ?_
    refine gf_X0_28 (isO.tr e8 e9 o1) dX0_newLeaf_36 rfl rfl ?_
    refine Sm.iconst dX0_newLeaf_39 ic_0 rfl ?_
    refine Sm.ca (fun q11 => ?_)
    refine Sm.iast q11 dX0_newLeaf_40 rfl ?_
    refine Sm.aload_n dX0_newLeaf_41 rfl rfl rfl ?_
    refine Sm.dup dX0_newLeaf_42 rfl rfl ?_
    refine gf_X0_28 (isO.tr e8 e9 o1) dX0_newLeaf_43 rfl rfl ?_
    refine Sm.iconst dX0_newLeaf_46 ic_1 rfl ?_
    refine Sm.iadd dX0_newLeaf_47 rfl ?_
    refine pf_X0_28 (isO.tr e8 e9 o1) dX0_newLeaf_48 rfl rfl ?_
    refine Sm.nmH (fun h12 e13 e14 => ?_)
    refine Sm.aload_n dX0_newLeaf_51 rfl rfl rfl ?_
    refine gf_X0_28 (isO.tr e13 e14 (isO.tr e8 e9 o1)) dX0_newLeaf_52 rfl rfl ?_
    refine Sm.iconst dX0_newLeaf_55 ic_1 rfl ?_
    refine Sm.isub dX0_newLeaf_56 rfl ?_
    exact Sm.ret dX0_newLeaf_57 trivial rfl
  · refine Sm.iconst dX0_newLeaf_9 ic_0 rfl ?_
    exact Sm.ret dX0_newLeaf_10 trivial rfl
set_option maxRecDepth 20000 in
theorem kc_X0_78 {ρ : Type} {rv : ρ → Option Value} {G : Gx} {pc q : Nat} {lv st : List Value} {h : Hp} {a : Nat} {x1 : Int64} {x2 : Int64} {e : Int32 → Hp → Option (ρ × Hp)} (hk : isO h a 0) (d : decode G.2.1 pc = .ok (.invokevirtual 78, 3)) (ho : G.1.cls = RX0) (hdep : (g_X0_newLeaf).2.2.2.2 < G.2.2.2.2) (hcat : catS st ≤ 8) (hq : pc + 3 = q) (k : ∀ r h1, Sm rv G q lv (.int r :: st) h1 (e r h1)) : Sm rv G pc lv (.long x2 :: .long x1 :: .ref a :: st) h (bd (f_X0_newLeaf a x1 x2 h) e) :=
  Sm.callV (rv' := rvI) (args := [.long x1, .long x2]) (n := 2) (t_X0_newLeaf a x1 x2 h) hk (by decide) (r := (RX0, TX0, 10)) rfl rfl ho mw_602 mw_604 mp_40 mw_9 mw_605 ⟨⟨by decide, rfl, hdep, Nat.le_of_ble_eq_true rfl⟩, Nat.le_of_ble_eq_true rfl, rfl, ⟨by decide, by decide⟩, hcat⟩ (by decide +kernel) (by intro v hv; simp only [List.mem_cons, List.not_mem_nil, or_false] at hv; rcases hv with rfl | rfl <;> intro x hx <;> cases hx) d hq k rfl
abbrev g_X0_leafFor : Gx := (yX0_leafFor, cX0_leafFor, 13, (Option.some FieldType.int), 3)
def f_X0_leafFor_67 (k18 : (Int64 × Int64 × Int64 × Int32 × Hp) → Option (Int32 × Hp)) (l0 : Nat) (l1 : Int32) (l4 : Int64) (l6 : Int64) (l8 : Int64) (l10 : Int32) (l11 : Int32) (h : Hp) : Option (Int32 × Hp) :=
  (nm (l8 &&& (l8 - (1 : Int64))) fun v17 =>
(nm (l11 + (1 : Int32)) fun v18 =>
(k18 (l4, l6, v17, v18, h))))
set_option maxRecDepth 20000 in
theorem t_X0_leafFor_67 (l0 : Nat) (l1 : Int32) (l4 : Int64) (l6 : Int64) (l8 : Int64) (l10 : Int32) (l11 : Int32) (h : Hp) (k18 : (Int64 × Int64 × Int64 × Int32 × Hp) → Option (Int32 × Hp)) (hk18 : ∀ s : Int64 × Int64 × Int64 × Int32 × Hp, Sm rvI g_X0_leafFor 18 [.ref l0, .int l1, .null, .null, .long s.1, .null, .long s.2.1, .null, .long s.2.2.1, .null, .int l10, .int s.2.2.2.1, .null] [] s.2.2.2.2 (k18 s)) : Sm rvI g_X0_leafFor 67 [.ref l0, .int l1, .null, .null, .long l4, .null, .long l6, .null, .long l8, .null, .int l10, .int l11, .null] [] h (f_X0_leafFor_67 k18 l0 l1 l4 l6 l8 l10 l11 h) := by
  unfold f_X0_leafFor_67
  refine Sm.lload dX0_leafFor_67 rfl rfl ?_
  refine Sm.lload dX0_leafFor_69 rfl rfl ?_
  refine Sm.lconst (v := (1 : Int64)) dX0_leafFor_71 (by decide) rfl ?_
  refine Sm.lsub dX0_leafFor_72 rfl ?_
  refine Sm.land dX0_leafFor_73 rfl ?_
  refine Sm.nm (LV := fun v17 => [.ref l0, .int l1, .null, .null, .long l4, .null, .long l6, .null, .long l8, .null, .int l10, .int l11, .null]) (ST := fun v17 => [.long v17]) (fun v17 => ?_)
  refine Sm.lstore (lv' := [.ref l0, .int l1, .null, .null, .long l4, .null, .long l6, .null, .long v17, .null, .int l10, .int l11, .null]) dX0_leafFor_74 (Nat.le_of_ble_eq_true rfl) rfl rfl ?_
  refine Sm.iinc (lv' := [.ref l0, .int l1, .null, .null, .long l4, .null, .long l6, .null, .long v17, .null, .int l10, .int (l11 + (1 : Int32)), .null]) dX0_leafFor_76 rfl ic_1 rfl rfl ?_
  refine Sm.nm (LV := fun v18 => [.ref l0, .int l1, .null, .null, .long l4, .null, .long l6, .null, .long v17, .null, .int l10, .int v18, .null]) (ST := fun v18 => []) (fun v18 => ?_)
  refine Sm.goto (t := 18) dX0_leafFor_79 (by decide) ?_
  exact Sm.wk (hk18 (l4, l6, v17, v18, h)) ⟨Or.inr rfl, Or.inr rfl, Or.inl rfl, Or.inl rfl, Or.inr rfl, Or.inl rfl, Or.inr rfl, Or.inl rfl, Or.inr rfl, Or.inl rfl, Or.inr rfl, Or.inr rfl, Or.inl rfl, trivial⟩
def f_X0_leafFor_18 (k18 : (Int64 × Int64 × Int64 × Int32 × Hp) → Option (Int32 × Hp)) (l0 : Nat) (l1 : Int32) (l4 : Int64) (l6 : Int64) (l8 : Int64) (l10 : Int32) (l11 : Int32) (h : Hp) : Option (Int32 × Hp) :=
  (if l10 ≤ l11 then
(ck h l0 0
(bd (f_X0_leafWith l0 l4 l6 h) fun v5 h6 =>
(if v5 = (-1 : Int32) then
(ck h6 l0 0
(bd (f_X0_newLeaf l0 l4 l6 h6) fun v9 h10 =>
(some (v9, h10))))
else
(some (v5, h6)))))
else
(bd (f_X9_lowestOf l8 h) fun v11 h12 =>
(bd (f_X9_actionFrom l1 v11 h12) fun v13 h14 =>
(if (64 : Int32) ≤ v13 then
(nm (l6 ||| ((1 : Int64) <<< ((v13 - (64 : Int32)).toInt64 &&& 63))) fun v16 =>
(f_X0_leafFor_67 k18 l0 l1 l4 v16 l8 l10 l11 h14))
else
(nm (l4 ||| ((1 : Int64) <<< (v13.toInt64 &&& 63))) fun v19 =>
(f_X0_leafFor_67 k18 l0 l1 v19 l6 l8 l10 l11 h14))))))
set_option maxRecDepth 20000 in
theorem t_X0_leafFor_18 (l0 : Nat) (l1 : Int32) (l4 : Int64) (l6 : Int64) (l8 : Int64) (l10 : Int32) (l11 : Int32) (h : Hp) (k18 : (Int64 × Int64 × Int64 × Int32 × Hp) → Option (Int32 × Hp)) (hk18 : ∀ s : Int64 × Int64 × Int64 × Int32 × Hp, Sm rvI g_X0_leafFor 18 [.ref l0, .int l1, .null, .null, .long s.1, .null, .long s.2.1, .null, .long s.2.2.1, .null, .int l10, .int s.2.2.2.1, .null] [] s.2.2.2.2 (k18 s)) : Sm rvI g_X0_leafFor 18 [.ref l0, .int l1, .null, .null, .long l4, .null, .long l6, .null, .long l8, .null, .int l10, .int l11, .null] [] h (f_X0_leafFor_18 k18 l0 l1 l4 l6 l8 l10 l11 h) := by
  unfold f_X0_leafFor_18
  refine Sm.iload dX0_leafFor_18 rfl rfl ?_
  refine Sm.iload dX0_leafFor_20 rfl rfl ?_
  refine Sm.icmp_ge (t := 82) dX0_leafFor_22 (by decide) rfl (fun b3 => ?_) (fun b3 => ?_)
  · refine Sm.aload_n dX0_leafFor_82 rfl rfl rfl ?_
    refine Sm.lload dX0_leafFor_83 rfl rfl ?_
    refine Sm.lload dX0_leafFor_85 rfl rfl ?_
    refine Sm.ck (fun o4 => ?_)
    refine kc_X0_74 o4 dX0_leafFor_87 rfl (Nat.le_of_ble_eq_true rfl) (Nat.le_of_ble_eq_true rfl) rfl (fun v5 h6 => ?_)
    refine Sm.istore (lv' := [.ref l0, .int l1, .null, .null, .long l4, .null, .long l6, .null, .long l8, .null, .int l10, .int v5, .null]) dX0_leafFor_90 (Nat.le_of_ble_eq_true rfl) rfl rfl ?_
    refine Sm.iload dX0_leafFor_92 rfl rfl ?_
    refine Sm.iconst dX0_leafFor_94 ic_m1 rfl ?_
    refine Sm.icmp_eq (t := 103) dX0_leafFor_95 (by decide) rfl (fun b7 => ?_) (fun b7 => ?_)
    · refine Sm.aload_n dX0_leafFor_103 rfl rfl rfl ?_
      refine Sm.lload dX0_leafFor_104 rfl rfl ?_
      refine Sm.lload dX0_leafFor_106 rfl rfl ?_
      refine Sm.ck (fun o8 => ?_)
      refine kc_X0_78 o8 dX0_leafFor_108 rfl (Nat.le_of_ble_eq_true rfl) (Nat.le_of_ble_eq_true rfl) rfl (fun v9 h10 => ?_)
      exact Sm.ret dX0_leafFor_111 trivial rfl
    · refine Sm.iload dX0_leafFor_98 rfl rfl ?_
      refine Sm.goto (t := 111) dX0_leafFor_100 (by decide) ?_
      exact Sm.ret dX0_leafFor_111 trivial rfl
  · refine Sm.iload_n dX0_leafFor_25 rfl rfl rfl ?_
    refine Sm.lload dX0_leafFor_26 rfl rfl ?_
    refine kc_X0_68 dX0_leafFor_28 rfl (Nat.le_of_ble_eq_true rfl) (Nat.le_of_ble_eq_true rfl) rfl (fun v11 h12 => ?_)
    refine kc_X0_71 dX0_leafFor_31 rfl (Nat.le_of_ble_eq_true rfl) (Nat.le_of_ble_eq_true rfl) rfl (fun v13 h14 => ?_)
    refine Sm.istore (lv' := [.ref l0, .int l1, .null, .null, .long l4, .null, .long l6, .null, .long l8, .null, .int l10, .int l11, .int v13]) dX0_leafFor_34 (Nat.le_of_ble_eq_true rfl) rfl rfl ?_
    refine Sm.iload dX0_leafFor_36 rfl rfl ?_
    refine Sm.bipush dX0_leafFor_38 bp_64 rfl ?_
    refine Sm.icmp_ge (t := 55) dX0_leafFor_40 (by decide) rfl (fun b15 => ?_) (fun b15 => ?_)
    · refine Sm.lload dX0_leafFor_55 rfl rfl ?_
      refine Sm.lconst (v := (1 : Int64)) dX0_leafFor_57 (by decide) rfl ?_
      refine Sm.iload dX0_leafFor_58 rfl rfl ?_
      refine Sm.bipush dX0_leafFor_60 bp_64 rfl ?_
      refine Sm.isub dX0_leafFor_62 rfl ?_
      refine Sm.lshl dX0_leafFor_63 rfl ?_
      refine Sm.lor dX0_leafFor_64 rfl ?_
      refine Sm.nm (LV := fun v16 => [.ref l0, .int l1, .null, .null, .long l4, .null, .long l6, .null, .long l8, .null, .int l10, .int l11, .int v13]) (ST := fun v16 => [.long v16]) (fun v16 => ?_)
      refine Sm.lstore (lv' := [.ref l0, .int l1, .null, .null, .long l4, .null, .long v16, .null, .long l8, .null, .int l10, .int l11, .int v13]) dX0_leafFor_65 (Nat.le_of_ble_eq_true rfl) rfl rfl ?_
      exact Sm.wk (t_X0_leafFor_67 l0 l1 l4 v16 l8 l10 l11 h14 k18 hk18) ⟨Or.inr rfl, Or.inr rfl, Or.inl rfl, Or.inl rfl, Or.inr rfl, Or.inl rfl, Or.inr rfl, Or.inl rfl, Or.inr rfl, Or.inl rfl, Or.inr rfl, Or.inr rfl, Or.inl rfl, trivial⟩
    · refine Sm.lload dX0_leafFor_43 rfl rfl ?_
      refine Sm.lconst (v := (1 : Int64)) dX0_leafFor_45 (by decide) rfl ?_
      refine Sm.iload dX0_leafFor_46 rfl rfl ?_
      refine Sm.lshl dX0_leafFor_48 rfl ?_
      refine Sm.lor dX0_leafFor_49 rfl ?_
      refine Sm.nm (LV := fun v19 => [.ref l0, .int l1, .null, .null, .long l4, .null, .long l6, .null, .long l8, .null, .int l10, .int l11, .int v13]) (ST := fun v19 => [.long v19]) (fun v19 => ?_)
      refine Sm.lstore (lv' := [.ref l0, .int l1, .null, .null, .long v19, .null, .long l6, .null, .long l8, .null, .int l10, .int l11, .int v13]) dX0_leafFor_50 (Nat.le_of_ble_eq_true rfl) rfl rfl ?_
      refine Sm.goto (t := 67) dX0_leafFor_52 (by decide) ?_
      exact Sm.wk (t_X0_leafFor_67 l0 l1 v19 l6 l8 l10 l11 h14 k18 hk18) ⟨Or.inr rfl, Or.inr rfl, Or.inl rfl, Or.inl rfl, Or.inr rfl, Or.inl rfl, Or.inr rfl, Or.inl rfl, Or.inr rfl, Or.inl rfl, Or.inr rfl, Or.inr rfl, Or.inl rfl, trivial⟩
def f_X0_leafFor (l0 : Nat) (l1 : Int32) (l2 : Int64) (h : Hp) : Option (Int32 × Hp) :=
  (bd (f_J13_bitCount_95d88 l2 h) fun v1 h2 =>
(loopN (fun k s => f_X0_leafFor_18 k l0 l1 s.1 s.2.1 s.2.2.1 v1 s.2.2.2.1 s.2.2.2.2) 5000 ((0 : Int64), (0 : Int64), l2, (0 : Int32), h2)))
set_option maxRecDepth 20000 in
theorem t_X0_leafFor (l0 : Nat) (l1 : Int32) (l2 : Int64) (h : Hp) : Sm rvI g_X0_leafFor 0 (ent 13 [.ref l0, .int l1, .long l2]) [] h (f_X0_leafFor l0 l1 l2 h) := by
  show Sm rvI g_X0_leafFor 0 [.ref l0, .int l1, .long l2, .null, .null, .null, .null, .null, .null, .null, .null, .null, .null] [] h _
  unfold f_X0_leafFor
  refine Sm.lconst (v := (0 : Int64)) dX0_leafFor_0 (by decide) rfl ?_
  refine Sm.lstore (lv' := [.ref l0, .int l1, .long l2, .null, .long (0 : Int64), .null, .null, .null, .null, .null, .null, .null, .null]) dX0_leafFor_1 (Nat.le_of_ble_eq_true rfl) rfl rfl ?_
  refine Sm.lconst (v := (0 : Int64)) dX0_leafFor_3 (by decide) rfl ?_
  refine Sm.lstore (lv' := [.ref l0, .int l1, .long l2, .null, .long (0 : Int64), .null, .long (0 : Int64), .null, .null, .null, .null, .null, .null]) dX0_leafFor_4 (Nat.le_of_ble_eq_true rfl) rfl rfl ?_
  refine Sm.lload_n dX0_leafFor_6 rfl rfl rfl ?_
  refine Sm.lstore (lv' := [.ref l0, .int l1, .long l2, .null, .long (0 : Int64), .null, .long (0 : Int64), .null, .long l2, .null, .null, .null, .null]) dX0_leafFor_7 (Nat.le_of_ble_eq_true rfl) rfl rfl ?_
  refine Sm.lload_n dX0_leafFor_9 rfl rfl rfl ?_
  refine kc_X0_62 dX0_leafFor_10 rfl (Nat.le_of_ble_eq_true rfl) (Nat.le_of_ble_eq_true rfl) rfl (fun v1 h2 => ?_)
  refine Sm.istore (lv' := [.ref l0, .int l1, .long l2, .null, .long (0 : Int64), .null, .long (0 : Int64), .null, .long l2, .null, .int v1, .null, .null]) dX0_leafFor_13 (Nat.le_of_ble_eq_true rfl) rfl rfl ?_
  refine Sm.iconst dX0_leafFor_15 ic_0 rfl ?_
  refine Sm.istore (lv' := [.ref l0, .int l1, .long l2, .null, .long (0 : Int64), .null, .long (0 : Int64), .null, .long l2, .null, .int v1, .int (0 : Int32), .null]) dX0_leafFor_16 (Nat.le_of_ble_eq_true rfl) rfl rfl ?_
  exact Sm.wk (Sm.loop (σ := Int64 × Int64 × Int64 × Int32 × Hp) (LV := fun s => [.ref l0, .int l1, .null, .null, .long s.1, .null, .long s.2.1, .null, .long s.2.2.1, .null, .int v1, .int s.2.2.2.1, .null]) (HH := fun s => s.2.2.2.2) (fun k hk s => t_X0_leafFor_18 l0 l1 s.1 s.2.1 s.2.2.1 v1 s.2.2.2.1 s.2.2.2.2 k hk) 5000 ((0 : Int64), (0 : Int64), l2, (0 : Int32), h2)) ⟨Or.inr rfl, Or.inr rfl, Or.inl rfl, Or.inl rfl, Or.inr rfl, Or.inl rfl, Or.inr rfl, Or.inl rfl, Or.inr rfl, Or.inl rfl, Or.inr rfl, Or.inr rfl, Or.inl rfl, trivial⟩
set_option maxRecDepth 20000 in
theorem kc_X0_54 {ρ : Type} {rv : ρ → Option Value} {G : Gx} {pc q : Nat} {lv st : List Value} {h : Hp} {a : Nat} {x1 : Int32} {x2 : Int64} {e : Int32 → Hp → Option (ρ × Hp)} (hk : isO h a 0) (d : decode G.2.1 pc = .ok (.invokevirtual 54, 3)) (ho : G.1.cls = RX0) (hdep : (g_X0_leafFor).2.2.2.2 < G.2.2.2.2) (hcat : catS st ≤ 8) (hq : pc + 3 = q) (k : ∀ r h1, Sm rv G q lv (.int r :: st) h1 (e r h1)) : Sm rv G pc lv (.long x2 :: .int x1 :: .ref a :: st) h (bd (f_X0_leafFor a x1 x2 h) e) :=
  Sm.callV (rv' := rvI) (args := [.int x1, .long x2]) (n := 2) (t_X0_leafFor a x1 x2 h) hk (by decide) (r := (RX0, TX0, 10)) rfl rfl ho mw_585 mw_587 mp_38 mw_9 mw_588 ⟨⟨by decide, rfl, hdep, Nat.le_of_ble_eq_true rfl⟩, Nat.le_of_ble_eq_true rfl, rfl, ⟨by decide, by decide⟩, hcat⟩ (by decide +kernel) (by intro v hv; simp only [List.mem_cons, List.not_mem_nil, or_false] at hv; rcases hv with rfl | rfl <;> intro x hx <;> cases hx) d hq k rfl
abbrev g_X0_testWith : Gx := (yX0_testWith, cX0_testWith, 7, (Option.some FieldType.int), 1)
def f_X0_testWith_6 (k6 : (Int32 × Hp) → Option (Int32 × Hp)) (l0 : Nat) (l1 : Int32) (l2 : Int32) (l3 : Int32) (l4 : Int32) (l5 : Int32) (l6 : Int32) (h : Hp) : Option (Int32 × Hp) :=
  (ck h l0 0
(if (gI h l0 6) ≤ l6 then
(some ((-1 : Int32), h))
else
(if (85 : Int32) ≤ l6 then
(some ((-1 : Int32), h))
else
((gP h l0 2).bind fun v6 =>
(ca h v6 20 l6
(if (gI h v6 l6.toNatClampNeg) = l1 then
(bd (f_X0_childOf l0 l6 (0 : Int32) h) fun v9 h10 =>
(if v9 = l2 then
(ck h10 l0 0
(bd (f_X0_childOf l0 l6 (1 : Int32) h10) fun v13 h14 =>
(if v13 = l3 then
(ck h14 l0 0
(bd (f_X0_childOf l0 l6 (2 : Int32) h14) fun v17 h18 =>
(if v17 = l4 then
(ck h18 l0 0
(bd (f_X0_childOf l0 l6 (3 : Int32) h18) fun v21 h22 =>
(if v21 = l5 then
(some (l6, h22))
else
(nm (l6 + (1 : Int32)) fun v24 =>
(k6 (v24, h22))))))
else
(nm (l6 + (1 : Int32)) fun v25 =>
(k6 (v25, h18))))))
else
(nm (l6 + (1 : Int32)) fun v26 =>
(k6 (v26, h14))))))
else
(nm (l6 + (1 : Int32)) fun v27 =>
(k6 (v27, h10)))))
else
(nm (l6 + (1 : Int32)) fun v28 =>
(k6 (v28, h)))))))))
set_option maxRecDepth 20000 in
theorem t_X0_testWith_6 (l0 : Nat) (l1 : Int32) (l2 : Int32) (l3 : Int32) (l4 : Int32) (l5 : Int32) (l6 : Int32) (h : Hp) (k6 : (Int32 × Hp) → Option (Int32 × Hp)) (hk6 : ∀ s : Int32 × Hp, Sm rvI g_X0_testWith 6 [.ref l0, .int l1, .int l2, .int l3, .int l4, .int l5, .int s.1] [] s.2 (k6 s)) : Sm rvI g_X0_testWith 6 [.ref l0, .int l1, .int l2, .int l3, .int l4, .int l5, .int l6] [] h (f_X0_testWith_6 k6 l0 l1 l2 l3 l4 l5 l6 h) := by
  unfold f_X0_testWith_6
  refine Sm.iload dX0_testWith_6 rfl rfl ?_
  refine Sm.aload_n dX0_testWith_8 rfl rfl rfl ?_
  refine Sm.ck (fun o3 => ?_)
  refine gf_X0_32 o3 dX0_testWith_9 rfl rfl ?_
  refine Sm.icmp_ge (t := 88) dX0_testWith_12 (by decide) rfl (fun b4 => ?_) (fun b4 => ?_)
  · refine Sm.iconst dX0_testWith_88 ic_m1 rfl ?_
    exact Sm.ret dX0_testWith_89 trivial rfl
  · refine Sm.iload dX0_testWith_15 rfl rfl ?_
    refine Sm.bipush dX0_testWith_17 bp_85 rfl ?_
    refine Sm.icmp_ge (t := 88) dX0_testWith_19 (by decide) rfl (fun b5 => ?_) (fun b5 => ?_)
    · refine Sm.iconst dX0_testWith_88 ic_m1 rfl ?_
      exact Sm.ret dX0_testWith_89 trivial rfl
    · refine Sm.aload_n dX0_testWith_22 rfl rfl rfl ?_
      refine gf_X0_18 o3 dX0_testWith_23 rfl rfl (fun v6 => ?_)
      refine Sm.iload dX0_testWith_26 rfl rfl ?_
      refine Sm.ca (fun q7 => ?_)
      refine Sm.iald q7 dX0_testWith_28 rfl ?_
      refine Sm.iload_n dX0_testWith_29 rfl rfl rfl ?_
      refine Sm.icmp_ne (t := 82) dX0_testWith_30 (by decide) rfl (fun b8 => ?_) (fun b8 => ?_)
      · refine Sm.aload_n dX0_testWith_33 rfl rfl rfl ?_
        refine Sm.iload dX0_testWith_34 rfl rfl ?_
        refine Sm.iconst dX0_testWith_36 ic_0 rfl ?_
        refine kc_X0_88 o3 dX0_testWith_37 rfl (Nat.le_of_ble_eq_true rfl) (Nat.le_of_ble_eq_true rfl) rfl (fun v9 h10 => ?_)
        refine Sm.iload_n dX0_testWith_40 rfl rfl rfl ?_
        refine Sm.icmp_ne (t := 82) dX0_testWith_41 (by decide) rfl (fun b11 => ?_) (fun b11 => ?_)
        · refine Sm.aload_n dX0_testWith_44 rfl rfl rfl ?_
          refine Sm.iload dX0_testWith_45 rfl rfl ?_
          refine Sm.iconst dX0_testWith_47 ic_1 rfl ?_
          refine Sm.ck (fun o12 => ?_)
          refine kc_X0_88 o12 dX0_testWith_48 rfl (Nat.le_of_ble_eq_true rfl) (Nat.le_of_ble_eq_true rfl) rfl (fun v13 h14 => ?_)
          refine Sm.iload_n dX0_testWith_51 rfl rfl rfl ?_
          refine Sm.icmp_ne (t := 82) dX0_testWith_52 (by decide) rfl (fun b15 => ?_) (fun b15 => ?_)
          · refine Sm.aload_n dX0_testWith_55 rfl rfl rfl ?_
            refine Sm.iload dX0_testWith_56 rfl rfl ?_
            refine Sm.iconst dX0_testWith_58 ic_2 rfl ?_
            refine Sm.ck (fun o16 => ?_)
            refine kc_X0_88 o16 dX0_testWith_59 rfl (Nat.le_of_ble_eq_true rfl) (Nat.le_of_ble_eq_true rfl) rfl (fun v17 h18 => ?_)
            refine Sm.iload dX0_testWith_62 rfl rfl ?_
            refine Sm.icmp_ne (t := 82) dX0_testWith_64 (by decide) rfl (fun b19 => ?_) (fun b19 => ?_)
            · refine Sm.aload_n dX0_testWith_67 rfl rfl rfl ?_
              refine Sm.iload dX0_testWith_68 rfl rfl ?_
              refine Sm.iconst dX0_testWith_70 ic_3 rfl ?_
              refine Sm.ck (fun o20 => ?_)
              refine kc_X0_88 o20 dX0_testWith_71 rfl (Nat.le_of_ble_eq_true rfl) (Nat.le_of_ble_eq_true rfl) rfl (fun v21 h22 => ?_)
              refine Sm.iload dX0_testWith_74 rfl rfl ?_
              refine Sm.icmp_ne (t := 82) dX0_testWith_76 (by decide) rfl (fun b23 => ?_) (fun b23 => ?_)
              · refine Sm.iload dX0_testWith_79 rfl rfl ?_
                exact Sm.ret dX0_testWith_81 trivial rfl
              · refine Sm.iinc (lv' := [.ref l0, .int l1, .int l2, .int l3, .int l4, .int l5, .int (l6 + (1 : Int32))]) dX0_testWith_82 rfl ic_1 rfl rfl ?_
                refine Sm.nm (LV := fun v24 => [.ref l0, .int l1, .int l2, .int l3, .int l4, .int l5, .int v24]) (ST := fun v24 => []) (fun v24 => ?_)
                refine Sm.goto (t := 6) dX0_testWith_85 (by decide) ?_
                exact Sm.wk (hk6 (v24, h22)) ⟨Or.inr rfl, Or.inr rfl, Or.inr rfl, Or.inr rfl, Or.inr rfl, Or.inr rfl, Or.inr rfl, trivial⟩
            · refine Sm.iinc (lv' := [.ref l0, .int l1, .int l2, .int l3, .int l4, .int l5, .int (l6 + (1 : Int32))]) dX0_testWith_82 rfl ic_1 rfl rfl ?_
              refine Sm.nm (LV := fun v25 => [.ref l0, .int l1, .int l2, .int l3, .int l4, .int l5, .int v25]) (ST := fun v25 => []) (fun v25 => ?_)
              refine Sm.goto (t := 6) dX0_testWith_85 (by decide) ?_
              exact Sm.wk (hk6 (v25, h18)) ⟨Or.inr rfl, Or.inr rfl, Or.inr rfl, Or.inr rfl, Or.inr rfl, Or.inr rfl, Or.inr rfl, trivial⟩
          · refine Sm.iinc (lv' := [.ref l0, .int l1, .int l2, .int l3, .int l4, .int l5, .int (l6 + (1 : Int32))]) dX0_testWith_82 rfl ic_1 rfl rfl ?_
            refine Sm.nm (LV := fun v26 => [.ref l0, .int l1, .int l2, .int l3, .int l4, .int l5, .int v26]) (ST := fun v26 => []) (fun v26 => ?_)
            refine Sm.goto (t := 6) dX0_testWith_85 (by decide) ?_
            exact Sm.wk (hk6 (v26, h14)) ⟨Or.inr rfl, Or.inr rfl, Or.inr rfl, Or.inr rfl, Or.inr rfl, Or.inr rfl, Or.inr rfl, trivial⟩
        · refine Sm.iinc (lv' := [.ref l0, .int l1, .int l2, .int l3, .int l4, .int l5, .int (l6 + (1 : Int32))]) dX0_testWith_82 rfl ic_1 rfl rfl ?_
          refine Sm.nm (LV := fun v27 => [.ref l0, .int l1, .int l2, .int l3, .int l4, .int l5, .int v27]) (ST := fun v27 => []) (fun v27 => ?_)
          refine Sm.goto (t := 6) dX0_testWith_85 (by decide) ?_
          exact Sm.wk (hk6 (v27, h10)) ⟨Or.inr rfl, Or.inr rfl, Or.inr rfl, Or.inr rfl, Or.inr rfl, Or.inr rfl, Or.inr rfl, trivial⟩
      · refine Sm.iinc (lv' := [.ref l0, .int l1, .int l2, .int l3, .int l4, .int l5, .int (l6 + (1 : Int32))]) dX0_testWith_82 rfl ic_1 rfl rfl ?_
        refine Sm.nm (LV := fun v28 => [.ref l0, .int l1, .int l2, .int l3, .int l4, .int l5, .int v28]) (ST := fun v28 => []) (fun v28 => ?_)
        refine Sm.goto (t := 6) dX0_testWith_85 (by decide) ?_
        exact Sm.wk (hk6 (v28, h)) ⟨Or.inr rfl, Or.inr rfl, Or.inr rfl, Or.inr rfl, Or.inr rfl, Or.inr rfl, Or.inr rfl, trivial⟩
def f_X0_testWith (l0 : Nat) (l1 : Int32) (l2 : Int32) (l3 : Int32) (l4 : Int32) (l5 : Int32) (h : Hp) : Option (Int32 × Hp) :=
  (ck h l0 0
(nm (gI h l0 5) fun v2 =>
(loopN (fun k s => f_X0_testWith_6 k l0 l1 l2 l3 l4 l5 s.1 s.2) 5000 (v2, h))))
set_option maxRecDepth 20000 in
theorem t_X0_testWith (l0 : Nat) (l1 : Int32) (l2 : Int32) (l3 : Int32) (l4 : Int32) (l5 : Int32) (h : Hp) : Sm rvI g_X0_testWith 0 (ent 7 [.ref l0, .int l1, .int l2, .int l3, .int l4, .int l5]) [] h (f_X0_testWith l0 l1 l2 l3 l4 l5 h) := by
  show Sm rvI g_X0_testWith 0 [.ref l0, .int l1, .int l2, .int l3, .int l4, .int l5, .null] [] h _
  unfold f_X0_testWith
  refine Sm.aload_n dX0_testWith_0 rfl rfl rfl ?_
  refine Sm.ck (fun o1 => ?_)
  refine gf_X0_28 o1 dX0_testWith_1 rfl rfl ?_
  refine Sm.nm (LV := fun v2 => [.ref l0, .int l1, .int l2, .int l3, .int l4, .int l5, .null]) (ST := fun v2 => [.int v2]) (fun v2 => ?_)
  refine Sm.istore (lv' := [.ref l0, .int l1, .int l2, .int l3, .int l4, .int l5, .int v2]) dX0_testWith_4 (Nat.le_of_ble_eq_true rfl) rfl rfl ?_
  exact Sm.wk (Sm.loop (σ := Int32 × Hp) (LV := fun s => [.ref l0, .int l1, .int l2, .int l3, .int l4, .int l5, .int s.1]) (HH := fun s => s.2) (fun k hk s => t_X0_testWith_6 l0 l1 l2 l3 l4 l5 s.1 s.2 k hk) 5000 (v2, h)) ⟨Or.inr rfl, Or.inr rfl, Or.inr rfl, Or.inr rfl, Or.inr rfl, Or.inr rfl, Or.inr rfl, trivial⟩
set_option maxRecDepth 20000 in
theorem kc_X0_81 {ρ : Type} {rv : ρ → Option Value} {G : Gx} {pc q : Nat} {lv st : List Value} {h : Hp} {a : Nat} {x1 : Int32} {x2 : Int32} {x3 : Int32} {x4 : Int32} {x5 : Int32} {e : Int32 → Hp → Option (ρ × Hp)} (hk : isO h a 0) (d : decode G.2.1 pc = .ok (.invokevirtual 81, 3)) (ho : G.1.cls = RX0) (hdep : (g_X0_testWith).2.2.2.2 < G.2.2.2.2) (hcat : catS st ≤ 8) (hq : pc + 3 = q) (k : ∀ r h1, Sm rv G q lv (.int r :: st) h1 (e r h1)) : Sm rv G pc lv (.int x5 :: .int x4 :: .int x3 :: .int x2 :: .int x1 :: .ref a :: st) h (bd (f_X0_testWith a x1 x2 x3 x4 x5 h) e) :=
  Sm.callV (rv' := rvI) (args := [.int x1, .int x2, .int x3, .int x4, .int x5]) (n := 5) (t_X0_testWith a x1 x2 x3 x4 x5 h) hk (by decide) (r := (RX0, TX0, 10)) rfl rfl ho mw_610 mw_612 mp_42 mw_9 mw_613 ⟨⟨by decide, rfl, hdep, Nat.le_of_ble_eq_true rfl⟩, Nat.le_of_ble_eq_true rfl, rfl, ⟨by decide, by decide⟩, hcat⟩ (by decide +kernel) (by intro v hv; simp only [List.mem_cons, List.not_mem_nil, or_false] at hv; rcases hv with rfl | rfl | rfl | rfl | rfl <;> intro x hx <;> cases hx) d hq k rfl
abbrev g_X0_newTest : Gx := (yX0_newTest, cX0_newTest, 6, (Option.some FieldType.int), 1)
def f_X0_newTest_23 (k23 : (Int32 × Int32 × Hp) → Option (Int32 × Hp)) (l0 : Nat) (l1 : Int32) (l2 : Int32) (l3 : Int32) (l4 : Int32) (h : Hp) : Option (Int32 × Hp) :=
  (if (4 : Int32) ≤ l4 then
(ck h l0 0
((gP h l0 2).bind fun v6 =>
(ca h v6 20 (gI h l0 6)
((gP (sI h v6 (gI h l0 6).toNatClampNeg l1) l0 3).bind fun v8 =>
(ca (sI h v6 (gI h l0 6).toNatClampNeg l1) v8 20 (gI (sI h v6 (gI h l0 6).toNatClampNeg l1) l0 6)
(nm (sI (sI h v6 (gI h l0 6).toNatClampNeg l1) v8 (gI (sI h v6 (gI h l0 6).toNatClampNeg l1) l0 6).toNatClampNeg (l3 + (1 : Int32))) fun h10 =>
(some (((gI (sI h10 l0 6 ((gI h10 l0 6) + (1 : Int32))) l0 6) - (1 : Int32)), (sI h10 l0 6 ((gI h10 l0 6) + (1 : Int32)))))))))))
else
(ck h l0 0
((gP h l0 8).bind fun v14 =>
(ca h v14 20 (l2 + l4)
(nm (gI h v14 (l2 + l4).toNatClampNeg) fun v16 =>
((gP h l0 4).bind fun v17 =>
(ca h v17 20 (((gI h l0 6) * (4 : Int32)) + l4)
(bd (f_X0_depthOf l0 v16 (sI h v17 (((gI h l0 6) * (4 : Int32)) + l4).toNatClampNeg v16)) fun v19 h20 =>
(nm (if l3 < v19 then v19 else l3) fun v21 =>
(nm (l4 + (1 : Int32)) fun v22 =>
(k23 (v21, v22, h20))))))))))))
set_option maxRecDepth 20000 in
theorem t_X0_newTest_23 (l0 : Nat) (l1 : Int32) (l2 : Int32) (l3 : Int32) (l4 : Int32) (h : Hp) (k23 : (Int32 × Int32 × Hp) → Option (Int32 × Hp)) (hk23 : ∀ s : Int32 × Int32 × Hp, Sm rvI g_X0_newTest 23 [.ref l0, .int l1, .int l2, .int s.1, .int s.2.1, .null] [] s.2.2 (k23 s)) : Sm rvI g_X0_newTest 23 [.ref l0, .int l1, .int l2, .int l3, .int l4, .null] [] h (f_X0_newTest_23 k23 l0 l1 l2 l3 l4 h) := by
  unfold f_X0_newTest_23
  refine Sm.iload dX0_newTest_23 rfl rfl ?_
  refine Sm.iconst dX0_newTest_25 ic_4 rfl ?_
  refine Sm.icmp_ge (t := 73) dX0_newTest_26 (by decide) rfl (fun b4 => ?_) (fun b4 => ?_)
  · refine Sm.aload_n dX0_newTest_73 rfl rfl rfl ?_
    refine Sm.ck (fun o5 => ?_)
    refine gf_X0_18 o5 dX0_newTest_74 rfl rfl (fun v6 => ?_)
    refine Sm.aload_n dX0_newTest_77 rfl rfl rfl ?_
    refine gf_X0_32 o5 dX0_newTest_78 rfl rfl ?_
    refine Sm.iload_n dX0_newTest_81 rfl rfl rfl ?_
    refine Sm.ca (fun q7 => ?_)
    refine Sm.iast q7 dX0_newTest_82 rfl ?_
    refine Sm.aload_n dX0_newTest_83 rfl rfl rfl ?_
    refine gf_X0_22 o5 dX0_newTest_84 rfl rfl (fun v8 => ?_)
    refine Sm.aload_n dX0_newTest_87 rfl rfl rfl ?_
    refine gf_X0_32 o5 dX0_newTest_88 rfl rfl ?_
    refine Sm.iload_n dX0_newTest_91 rfl rfl rfl ?_
    refine Sm.iconst dX0_newTest_92 ic_1 rfl ?_
    refine Sm.iadd dX0_newTest_93 rfl ?_
    refine Sm.ca (fun q9 => ?_)
    refine Sm.iast q9 dX0_newTest_94 rfl ?_
    refine Sm.nmH (fun h10 e11 e12 => ?_)
    refine Sm.aload_n dX0_newTest_95 rfl rfl rfl ?_
    refine Sm.dup dX0_newTest_96 rfl rfl ?_
    refine gf_X0_32 (isO.tr e11 e12 o5) dX0_newTest_97 rfl rfl ?_
    refine Sm.iconst dX0_newTest_100 ic_1 rfl ?_
    refine Sm.iadd dX0_newTest_101 rfl ?_
    refine pf_X0_32 (isO.tr e11 e12 o5) dX0_newTest_102 rfl rfl ?_
    refine Sm.aload_n dX0_newTest_105 rfl rfl rfl ?_
    refine gf_X0_32 (isO.tr e11 e12 o5) dX0_newTest_106 rfl rfl ?_
    refine Sm.iconst dX0_newTest_109 ic_1 rfl ?_
    refine Sm.isub dX0_newTest_110 rfl ?_
    exact Sm.ret dX0_newTest_111 trivial rfl
  · refine Sm.aload_n dX0_newTest_29 rfl rfl rfl ?_
    refine Sm.ck (fun o13 => ?_)
    refine gf_X0_38 o13 dX0_newTest_30 rfl rfl (fun v14 => ?_)
    refine Sm.iload_n dX0_newTest_33 rfl rfl rfl ?_
    refine Sm.iload dX0_newTest_34 rfl rfl ?_
    refine Sm.iadd dX0_newTest_36 rfl ?_
    refine Sm.ca (fun q15 => ?_)
    refine Sm.iald q15 dX0_newTest_37 rfl ?_
    refine Sm.nm (LV := fun v16 => [.ref l0, .int l1, .int l2, .int l3, .int l4, .null]) (ST := fun v16 => [.int v16]) (fun v16 => ?_)
    refine Sm.istore (lv' := [.ref l0, .int l1, .int l2, .int l3, .int l4, .int v16]) dX0_newTest_38 (Nat.le_of_ble_eq_true rfl) rfl rfl ?_
    refine Sm.aload_n dX0_newTest_40 rfl rfl rfl ?_
    refine gf_X0_25 o13 dX0_newTest_41 rfl rfl (fun v17 => ?_)
    refine Sm.aload_n dX0_newTest_44 rfl rfl rfl ?_
    refine gf_X0_32 o13 dX0_newTest_45 rfl rfl ?_
    refine Sm.iconst dX0_newTest_48 ic_4 rfl ?_
    refine Sm.imul dX0_newTest_49 rfl ?_
    refine Sm.iload dX0_newTest_50 rfl rfl ?_
    refine Sm.iadd dX0_newTest_52 rfl ?_
    refine Sm.iload dX0_newTest_53 rfl rfl ?_
    refine Sm.ca (fun q18 => ?_)
    refine Sm.iast q18 dX0_newTest_55 rfl ?_
    refine Sm.iload_n dX0_newTest_56 rfl rfl rfl ?_
    refine Sm.aload_n dX0_newTest_57 rfl rfl rfl ?_
    refine Sm.iload dX0_newTest_58 rfl rfl ?_
    refine kc_X0_44 o13 dX0_newTest_60 rfl (Nat.le_of_ble_eq_true rfl) (Nat.le_of_ble_eq_true rfl) rfl (fun v19 h20 => ?_)
    refine Sm.mmax dX0_newTest_63 rfl mw_626 mw_627 mw_13 mw_628 (Nat.le_of_ble_eq_true rfl) (Nat.le_of_ble_eq_true rfl) rfl ?_
    refine Sm.nm (LV := fun v21 => [.ref l0, .int l1, .int l2, .int l3, .int l4, .int v16]) (ST := fun v21 => [.int v21]) (fun v21 => ?_)
    refine Sm.istore_n (lv' := [.ref l0, .int l1, .int l2, .int v21, .int l4, .int v16]) dX0_newTest_66 rfl (Nat.le_of_ble_eq_true rfl) rfl rfl ?_
    refine Sm.iinc (lv' := [.ref l0, .int l1, .int l2, .int v21, .int (l4 + (1 : Int32)), .int v16]) dX0_newTest_67 rfl ic_1 rfl rfl ?_
    refine Sm.nm (LV := fun v22 => [.ref l0, .int l1, .int l2, .int v21, .int v22, .int v16]) (ST := fun v22 => []) (fun v22 => ?_)
    refine Sm.goto (t := 23) dX0_newTest_70 (by decide) ?_
    exact Sm.wk (hk23 (v21, v22, h20)) ⟨Or.inr rfl, Or.inr rfl, Or.inr rfl, Or.inr rfl, Or.inr rfl, Or.inl rfl, trivial⟩
def f_X0_newTest (l0 : Nat) (l1 : Int32) (l2 : Int32) (h : Hp) : Option (Int32 × Hp) :=
  (ck h l0 0
(if (gI h l0 6) < 0 then
(some ((0 : Int32), h))
else
(if (gI h l0 6) < (85 : Int32) then
(loopN (fun k s => f_X0_newTest_23 k l0 l1 l2 s.1 s.2.1 s.2.2) 5000 ((0 : Int32), (0 : Int32), h))
else
(some ((0 : Int32), h)))))
set_option maxRecDepth 20000 in
theorem t_X0_newTest (l0 : Nat) (l1 : Int32) (l2 : Int32) (h : Hp) : Sm rvI g_X0_newTest 0 (ent 6 [.ref l0, .int l1, .int l2]) [] h (f_X0_newTest l0 l1 l2 h) := by
  show Sm rvI g_X0_newTest 0 [.ref l0, .int l1, .int l2, .null, .null, .null] [] h _
  unfold f_X0_newTest
  refine Sm.aload_n dX0_newTest_0 rfl rfl rfl ?_
  refine Sm.ck (fun o1 => ?_)
  refine gf_X0_32 o1 dX0_newTest_1 rfl rfl ?_
  refine Sm.if_lt (t := 16) dX0_newTest_4 (by decide) rfl (fun b2 => ?_) (fun b2 => ?_)
  · refine Sm.iconst dX0_newTest_16 ic_0 rfl ?_
    exact Sm.ret dX0_newTest_17 trivial rfl
  · refine Sm.aload_n dX0_newTest_7 rfl rfl rfl ?_
    refine gf_X0_32 o1 dX0_newTest_8 rfl rfl ?_
    refine Sm.bipush dX0_newTest_11 bp_85 rfl ?_
    refine Sm.icmp_lt (t := 18) dX0_newTest_13 (by decide) rfl (fun b3 => ?_) (fun b3 => ?_)
    · refine Sm.iconst dX0_newTest_18 ic_0 rfl ?_
      refine Sm.istore_n (lv' := [.ref l0, .int l1, .int l2, .int (0 : Int32), .null, .null]) dX0_newTest_19 rfl (Nat.le_of_ble_eq_true rfl) rfl rfl ?_
      refine Sm.iconst dX0_newTest_20 ic_0 rfl ?_
      refine Sm.istore (lv' := [.ref l0, .int l1, .int l2, .int (0 : Int32), .int (0 : Int32), .null]) dX0_newTest_21 (Nat.le_of_ble_eq_true rfl) rfl rfl ?_
      exact Sm.wk (Sm.loop (σ := Int32 × Int32 × Hp) (LV := fun s => [.ref l0, .int l1, .int l2, .int s.1, .int s.2.1, .null]) (HH := fun s => s.2.2) (fun k hk s => t_X0_newTest_23 l0 l1 l2 s.1 s.2.1 s.2.2 k hk) 5000 ((0 : Int32), (0 : Int32), h)) ⟨Or.inr rfl, Or.inr rfl, Or.inr rfl, Or.inr rfl, Or.inr rfl, Or.inl rfl, trivial⟩
    · refine Sm.iconst dX0_newTest_16 ic_0 rfl ?_
      exact Sm.ret dX0_newTest_17 trivial rfl
set_option maxRecDepth 20000 in
theorem kc_X0_85 {ρ : Type} {rv : ρ → Option Value} {G : Gx} {pc q : Nat} {lv st : List Value} {h : Hp} {a : Nat} {x1 : Int32} {x2 : Int32} {e : Int32 → Hp → Option (ρ × Hp)} (hk : isO h a 0) (d : decode G.2.1 pc = .ok (.invokevirtual 85, 3)) (ho : G.1.cls = RX0) (hdep : (g_X0_newTest).2.2.2.2 < G.2.2.2.2) (hcat : catS st ≤ 8) (hq : pc + 3 = q) (k : ∀ r h1, Sm rv G q lv (.int r :: st) h1 (e r h1)) : Sm rv G pc lv (.int x2 :: .int x1 :: .ref a :: st) h (bd (f_X0_newTest a x1 x2 h) e) :=
  Sm.callV (rv' := rvI) (args := [.int x1, .int x2]) (n := 2) (t_X0_newTest a x1 x2 h) hk (by decide) (r := (RX0, TX0, 10)) rfl rfl ho mw_618 mw_620 mp_43 mw_9 mw_621 ⟨⟨by decide, rfl, hdep, Nat.le_of_ble_eq_true rfl⟩, Nat.le_of_ble_eq_true rfl, rfl, ⟨by decide, by decide⟩, hcat⟩ (by decide +kernel) (by intro v hv; simp only [List.mem_cons, List.not_mem_nil, or_false] at hv; rcases hv with rfl | rfl <;> intro x hx <;> cases hx) d hq k rfl
abbrev g_X0_nodeFor : Gx := (yX0_nodeFor, cX0_nodeFor, 8, (Option.some FieldType.int), 2)
def f_X0_nodeFor_71 (l0 : Nat) (l1 : Int32) (l2 : Int32) (l3 : Int32) (l4 : Int32) (l5 : Int32) (l6 : Int32) (h : Hp) : Option (Int32 × Hp) :=
  (ck h l0 0
(bd (f_X0_testWith l0 l1 l3 l4 l5 l6 h) fun v20 h21 =>
(if v20 = (-1 : Int32) then
(ck h21 l0 0
(bd (f_X0_newTest l0 l1 l2 h21) fun v24 h25 =>
(some (v24, h25))))
else
(some (v20, h21)))))
set_option maxRecDepth 20000 in
theorem t_X0_nodeFor_71 (l0 : Nat) (l1 : Int32) (l2 : Int32) (l3 : Int32) (l4 : Int32) (l5 : Int32) (l6 : Int32) (h : Hp) : Sm rvI g_X0_nodeFor 71 [.ref l0, .int l1, .int l2, .int l3, .int l4, .int l5, .int l6, .null] [] h (f_X0_nodeFor_71 l0 l1 l2 l3 l4 l5 l6 h) := by
  unfold f_X0_nodeFor_71
  refine Sm.aload_n dX0_nodeFor_71 rfl rfl rfl ?_
  refine Sm.iload_n dX0_nodeFor_72 rfl rfl rfl ?_
  refine Sm.iload_n dX0_nodeFor_73 rfl rfl rfl ?_
  refine Sm.iload dX0_nodeFor_74 rfl rfl ?_
  refine Sm.iload dX0_nodeFor_76 rfl rfl ?_
  refine Sm.iload dX0_nodeFor_78 rfl rfl ?_
  refine Sm.ck (fun o19 => ?_)
  refine kc_X0_81 o19 dX0_nodeFor_80 rfl (Nat.le_of_ble_eq_true rfl) (Nat.le_of_ble_eq_true rfl) rfl (fun v20 h21 => ?_)
  refine Sm.istore (lv' := [.ref l0, .int l1, .int l2, .int l3, .int l4, .int l5, .int l6, .int v20]) dX0_nodeFor_83 (Nat.le_of_ble_eq_true rfl) rfl rfl ?_
  refine Sm.iload dX0_nodeFor_85 rfl rfl ?_
  refine Sm.iconst dX0_nodeFor_87 ic_m1 rfl ?_
  refine Sm.icmp_eq (t := 96) dX0_nodeFor_88 (by decide) rfl (fun b22 => ?_) (fun b22 => ?_)
  · refine Sm.aload_n dX0_nodeFor_96 rfl rfl rfl ?_
    refine Sm.iload_n dX0_nodeFor_97 rfl rfl rfl ?_
    refine Sm.iload_n dX0_nodeFor_98 rfl rfl rfl ?_
    refine Sm.ck (fun o23 => ?_)
    refine kc_X0_85 o23 dX0_nodeFor_99 rfl (Nat.le_of_ble_eq_true rfl) (Nat.le_of_ble_eq_true rfl) rfl (fun v24 h25 => ?_)
    exact Sm.ret dX0_nodeFor_102 trivial rfl
  · refine Sm.iload dX0_nodeFor_91 rfl rfl ?_
    refine Sm.goto (t := 102) dX0_nodeFor_93 (by decide) ?_
    exact Sm.ret dX0_nodeFor_102 trivial rfl
def f_X0_nodeFor (l0 : Nat) (l1 : Int32) (l2 : Int32) (h : Hp) : Option (Int32 × Hp) :=
  (if l2 < 0 then
(some ((0 : Int32), h))
else
(if (l2 + (3 : Int32)) < (64 : Int32) then
(ck h l0 0
((gP h l0 8).bind fun v4 =>
(ca h v4 20 l2
(nm (gI h v4 l2.toNatClampNeg) fun v6 =>
((gP h l0 8).bind fun v7 =>
(ca h v7 20 (l2 + (1 : Int32))
(nm (gI h v7 (l2 + (1 : Int32)).toNatClampNeg) fun v9 =>
((gP h l0 8).bind fun v10 =>
(ca h v10 20 (l2 + (2 : Int32))
(nm (gI h v10 (l2 + (2 : Int32)).toNatClampNeg) fun v12 =>
((gP h l0 8).bind fun v13 =>
(ca h v13 20 (l2 + (3 : Int32))
(nm (gI h v13 (l2 + (3 : Int32)).toNatClampNeg) fun v15 =>
(if v6 = v9 then
(if v6 = v12 then
(if v6 = v15 then
(some (v6, h))
else
(f_X0_nodeFor_71 l0 l1 l2 v6 v9 v12 v15 h))
else
(f_X0_nodeFor_71 l0 l1 l2 v6 v9 v12 v15 h))
else
(f_X0_nodeFor_71 l0 l1 l2 v6 v9 v12 v15 h)))))))))))))))
else
(some ((0 : Int32), h))))
set_option maxRecDepth 20000 in
theorem t_X0_nodeFor (l0 : Nat) (l1 : Int32) (l2 : Int32) (h : Hp) : Sm rvI g_X0_nodeFor 0 (ent 8 [.ref l0, .int l1, .int l2]) [] h (f_X0_nodeFor l0 l1 l2 h) := by
  show Sm rvI g_X0_nodeFor 0 [.ref l0, .int l1, .int l2, .null, .null, .null, .null, .null] [] h _
  unfold f_X0_nodeFor
  refine Sm.iload_n dX0_nodeFor_0 rfl rfl rfl ?_
  refine Sm.if_lt (t := 12) dX0_nodeFor_1 (by decide) rfl (fun b1 => ?_) (fun b1 => ?_)
  · refine Sm.iconst dX0_nodeFor_12 ic_0 rfl ?_
    exact Sm.ret dX0_nodeFor_13 trivial rfl
  · refine Sm.iload_n dX0_nodeFor_4 rfl rfl rfl ?_
    refine Sm.iconst dX0_nodeFor_5 ic_3 rfl ?_
    refine Sm.iadd dX0_nodeFor_6 rfl ?_
    refine Sm.bipush dX0_nodeFor_7 bp_64 rfl ?_
    refine Sm.icmp_lt (t := 14) dX0_nodeFor_9 (by decide) rfl (fun b2 => ?_) (fun b2 => ?_)
    · refine Sm.aload_n dX0_nodeFor_14 rfl rfl rfl ?_
      refine Sm.ck (fun o3 => ?_)
      refine gf_X0_38 o3 dX0_nodeFor_15 rfl rfl (fun v4 => ?_)
      refine Sm.iload_n dX0_nodeFor_18 rfl rfl rfl ?_
      refine Sm.ca (fun q5 => ?_)
      refine Sm.iald q5 dX0_nodeFor_19 rfl ?_
      refine Sm.nm (LV := fun v6 => [.ref l0, .int l1, .int l2, .null, .null, .null, .null, .null]) (ST := fun v6 => [.int v6]) (fun v6 => ?_)
      refine Sm.istore_n (lv' := [.ref l0, .int l1, .int l2, .int v6, .null, .null, .null, .null]) dX0_nodeFor_20 rfl (Nat.le_of_ble_eq_true rfl) rfl rfl ?_
      refine Sm.aload_n dX0_nodeFor_21 rfl rfl rfl ?_
      refine gf_X0_38 o3 dX0_nodeFor_22 rfl rfl (fun v7 => ?_)
      refine Sm.iload_n dX0_nodeFor_25 rfl rfl rfl ?_
      refine Sm.iconst dX0_nodeFor_26 ic_1 rfl ?_
      refine Sm.iadd dX0_nodeFor_27 rfl ?_
      refine Sm.ca (fun q8 => ?_)
      refine Sm.iald q8 dX0_nodeFor_28 rfl ?_
      refine Sm.nm (LV := fun v9 => [.ref l0, .int l1, .int l2, .int v6, .null, .null, .null, .null]) (ST := fun v9 => [.int v9]) (fun v9 => ?_)
      refine Sm.istore (lv' := [.ref l0, .int l1, .int l2, .int v6, .int v9, .null, .null, .null]) dX0_nodeFor_29 (Nat.le_of_ble_eq_true rfl) rfl rfl ?_
      refine Sm.aload_n dX0_nodeFor_31 rfl rfl rfl ?_
      refine gf_X0_38 o3 dX0_nodeFor_32 rfl rfl (fun v10 => ?_)
      refine Sm.iload_n dX0_nodeFor_35 rfl rfl rfl ?_
      refine Sm.iconst dX0_nodeFor_36 ic_2 rfl ?_
      refine Sm.iadd dX0_nodeFor_37 rfl ?_
      refine Sm.ca (fun q11 => ?_)
      refine Sm.iald q11 dX0_nodeFor_38 rfl ?_
      refine Sm.nm (LV := fun v12 => [.ref l0, .int l1, .int l2, .int v6, .int v9, .null, .null, .null]) (ST := fun v12 => [.int v12]) (fun v12 => ?_)
      refine Sm.istore (lv' := [.ref l0, .int l1, .int l2, .int v6, .int v9, .int v12, .null, .null]) dX0_nodeFor_39 (Nat.le_of_ble_eq_true rfl) rfl rfl ?_
      refine Sm.aload_n dX0_nodeFor_41 rfl rfl rfl ?_
      refine gf_X0_38 o3 dX0_nodeFor_42 rfl rfl (fun v13 => ?_)
      refine Sm.iload_n dX0_nodeFor_45 rfl rfl rfl ?_
      refine Sm.iconst dX0_nodeFor_46 ic_3 rfl ?_
      refine Sm.iadd dX0_nodeFor_47 rfl ?_
      refine Sm.ca (fun q14 => ?_)
      refine Sm.iald q14 dX0_nodeFor_48 rfl ?_
      refine Sm.nm (LV := fun v15 => [.ref l0, .int l1, .int l2, .int v6, .int v9, .int v12, .null, .null]) (ST := fun v15 => [.int v15]) (fun v15 => ?_)
      refine Sm.istore (lv' := [.ref l0, .int l1, .int l2, .int v6, .int v9, .int v12, .int v15, .null]) dX0_nodeFor_49 (Nat.le_of_ble_eq_true rfl) rfl rfl ?_
      refine Sm.iload_n dX0_nodeFor_51 rfl rfl rfl ?_
      refine Sm.iload dX0_nodeFor_52 rfl rfl ?_
      refine Sm.icmp_ne (t := 71) dX0_nodeFor_54 (by decide) rfl (fun b16 => ?_) (fun b16 => ?_)
      · refine Sm.iload_n dX0_nodeFor_57 rfl rfl rfl ?_
        refine Sm.iload dX0_nodeFor_58 rfl rfl ?_
        refine Sm.icmp_ne (t := 71) dX0_nodeFor_60 (by decide) rfl (fun b17 => ?_) (fun b17 => ?_)
        · refine Sm.iload_n dX0_nodeFor_63 rfl rfl rfl ?_
          refine Sm.iload dX0_nodeFor_64 rfl rfl ?_
          refine Sm.icmp_ne (t := 71) dX0_nodeFor_66 (by decide) rfl (fun b18 => ?_) (fun b18 => ?_)
          · refine Sm.iload_n dX0_nodeFor_69 rfl rfl rfl ?_
            exact Sm.ret dX0_nodeFor_70 trivial rfl
          · exact Sm.wk (t_X0_nodeFor_71 l0 l1 l2 v6 v9 v12 v15 h) ⟨Or.inr rfl, Or.inr rfl, Or.inr rfl, Or.inr rfl, Or.inr rfl, Or.inr rfl, Or.inr rfl, Or.inl rfl, trivial⟩
        · exact Sm.wk (t_X0_nodeFor_71 l0 l1 l2 v6 v9 v12 v15 h) ⟨Or.inr rfl, Or.inr rfl, Or.inr rfl, Or.inr rfl, Or.inr rfl, Or.inr rfl, Or.inr rfl, Or.inl rfl, trivial⟩
      · exact Sm.wk (t_X0_nodeFor_71 l0 l1 l2 v6 v9 v12 v15 h) ⟨Or.inr rfl, Or.inr rfl, Or.inr rfl, Or.inr rfl, Or.inr rfl, Or.inr rfl, Or.inr rfl, Or.inl rfl, trivial⟩
    · refine Sm.iconst dX0_nodeFor_12 ic_0 rfl ?_
      exact Sm.ret dX0_nodeFor_13 trivial rfl
set_option maxRecDepth 20000 in
theorem kc_X0_58 {ρ : Type} {rv : ρ → Option Value} {G : Gx} {pc q : Nat} {lv st : List Value} {h : Hp} {a : Nat} {x1 : Int32} {x2 : Int32} {e : Int32 → Hp → Option (ρ × Hp)} (hk : isO h a 0) (d : decode G.2.1 pc = .ok (.invokevirtual 58, 3)) (ho : G.1.cls = RX0) (hdep : (g_X0_nodeFor).2.2.2.2 < G.2.2.2.2) (hcat : catS st ≤ 8) (hq : pc + 3 = q) (k : ∀ r h1, Sm rv G q lv (.int r :: st) h1 (e r h1)) : Sm rv G pc lv (.int x2 :: .int x1 :: .ref a :: st) h (bd (f_X0_nodeFor a x1 x2 h) e) :=
  Sm.callV (rv' := rvI) (args := [.int x1, .int x2]) (n := 2) (t_X0_nodeFor a x1 x2 h) hk (by decide) (r := (RX0, TX0, 10)) rfl rfl ho mw_606 mw_608 mp_41 mw_9 mw_609 ⟨⟨by decide, rfl, hdep, Nat.le_of_ble_eq_true rfl⟩, Nat.le_of_ble_eq_true rfl, rfl, ⟨by decide, by decide⟩, hcat⟩ (by decide +kernel) (by intro v hv; simp only [List.mem_cons, List.not_mem_nil, or_false] at hv; rcases hv with rfl | rfl <;> intro x hx <;> cases hx) d hq k rfl
abbrev g_X0_build : Gx := (yX0_build, cX0_build, 5, (Option.none : Option FieldType), 4)
def f_X0_build_55 (k48 : (Int32 × Int32 × Hp) → Option (Unit × Hp)) (k55 : (Int32 × Hp) → Option (Unit × Hp)) (l0 : Nat) (l2 : Int32) (l3 : Int32) (l4 : Int32) (h : Hp) : Option (Unit × Hp) :=
  (if l2 ≤ l4 then
(nm (l2 / (4 : Int32)) fun v9 =>
(nm (l3 + (-1 : Int32)) fun v10 =>
(k48 (v9, v10, h))))
else
(ck h l0 0
((gP h l0 8).bind fun v12 =>
(bd (f_X0_nodeFor l0 l3 (l4 * (4 : Int32)) h) fun v13 h14 =>
(ca h14 v12 20 l4
(nm (l4 + (1 : Int32)) fun v16 =>
(k55 (v16, (sI h14 v12 l4.toNatClampNeg v13)))))))))
set_option maxRecDepth 20000 in
theorem t_X0_build_55 (l0 : Nat) (l2 : Int32) (l3 : Int32) (l4 : Int32) (h : Hp) (k48 : (Int32 × Int32 × Hp) → Option (Unit × Hp)) (hk48 : ∀ s : Int32 × Int32 × Hp, Sm rvV g_X0_build 48 [.ref l0, .null, .int s.1, .int s.2.1, .null] [] s.2.2 (k48 s)) (k55 : (Int32 × Hp) → Option (Unit × Hp)) (hk55 : ∀ s : Int32 × Hp, Sm rvV g_X0_build 55 [.ref l0, .null, .int l2, .int l3, .int s.1] [] s.2 (k55 s)) : Sm rvV g_X0_build 55 [.ref l0, .null, .int l2, .int l3, .int l4] [] h (f_X0_build_55 k48 k55 l0 l2 l3 l4 h) := by
  unfold f_X0_build_55
  refine Sm.iload dX0_build_55 rfl rfl ?_
  refine Sm.iload_n dX0_build_57 rfl rfl rfl ?_
  refine Sm.icmp_ge (t := 83) dX0_build_58 (by decide) rfl (fun b8 => ?_) (fun b8 => ?_)
  · refine Sm.iload_n dX0_build_83 rfl rfl rfl ?_
    refine Sm.iconst dX0_build_84 ic_4 rfl ?_
    refine Sm.idiv dX0_build_85 (by decide) rfl ?_
    refine Sm.nm (LV := fun v9 => [.ref l0, .null, .int l2, .int l3, .int l4]) (ST := fun v9 => [.int v9]) (fun v9 => ?_)
    refine Sm.istore_n (lv' := [.ref l0, .null, .int v9, .int l3, .int l4]) dX0_build_86 rfl (Nat.le_of_ble_eq_true rfl) rfl rfl ?_
    refine Sm.iinc (lv' := [.ref l0, .null, .int v9, .int (l3 + (-1 : Int32)), .int l4]) dX0_build_87 rfl ic_m1 rfl rfl ?_
    refine Sm.nm (LV := fun v10 => [.ref l0, .null, .int v9, .int v10, .int l4]) (ST := fun v10 => []) (fun v10 => ?_)
    refine Sm.goto (t := 48) dX0_build_90 (by decide) ?_
    exact Sm.wk (hk48 (v9, v10, h)) ⟨Or.inr rfl, Or.inl rfl, Or.inr rfl, Or.inr rfl, Or.inl rfl, trivial⟩
  · refine Sm.aload_n dX0_build_61 rfl rfl rfl ?_
    refine Sm.ck (fun o11 => ?_)
    refine gf_X0_38 o11 dX0_build_62 rfl rfl (fun v12 => ?_)
    refine Sm.iload dX0_build_65 rfl rfl ?_
    refine Sm.aload_n dX0_build_67 rfl rfl rfl ?_
    refine Sm.iload_n dX0_build_68 rfl rfl rfl ?_
    refine Sm.iload dX0_build_69 rfl rfl ?_
    refine Sm.iconst dX0_build_71 ic_4 rfl ?_
    refine Sm.imul dX0_build_72 rfl ?_
    refine kc_X0_58 o11 dX0_build_73 rfl (Nat.le_of_ble_eq_true rfl) (Nat.le_of_ble_eq_true rfl) rfl (fun v13 h14 => ?_)
    refine Sm.ca (fun q15 => ?_)
    refine Sm.iast q15 dX0_build_76 rfl ?_
    refine Sm.iinc (lv' := [.ref l0, .null, .int l2, .int l3, .int (l4 + (1 : Int32))]) dX0_build_77 rfl ic_1 rfl rfl ?_
    refine Sm.nm (LV := fun v16 => [.ref l0, .null, .int l2, .int l3, .int v16]) (ST := fun v16 => []) (fun v16 => ?_)
    refine Sm.goto (t := 55) dX0_build_80 (by decide) ?_
    exact Sm.wk (hk55 (v16, (sI h14 v12 l4.toNatClampNeg v13))) ⟨Or.inr rfl, Or.inl rfl, Or.inr rfl, Or.inr rfl, Or.inr rfl, trivial⟩
def f_X0_build_48 (k48 : (Int32 × Int32 × Hp) → Option (Unit × Hp)) (l0 : Nat) (l2 : Int32) (l3 : Int32) (h : Hp) : Option (Unit × Hp) :=
  (if l3 < 0 then
(ck h l0 0
((gP h l0 8).bind fun v6 =>
(ca h v6 20 (0 : Int32)
(some ((), (sI h l0 7 (gI h v6 (0 : Int32).toNatClampNeg)))))))
else
(loopN (fun k s => f_X0_build_55 k48 k l0 l2 l3 s.1 s.2) 5000 ((0 : Int32), h)))
set_option maxRecDepth 20000 in
theorem t_X0_build_48 (l0 : Nat) (l2 : Int32) (l3 : Int32) (h : Hp) (k48 : (Int32 × Int32 × Hp) → Option (Unit × Hp)) (hk48 : ∀ s : Int32 × Int32 × Hp, Sm rvV g_X0_build 48 [.ref l0, .null, .int s.1, .int s.2.1, .null] [] s.2.2 (k48 s)) : Sm rvV g_X0_build 48 [.ref l0, .null, .int l2, .int l3, .null] [] h (f_X0_build_48 k48 l0 l2 l3 h) := by
  unfold f_X0_build_48
  refine Sm.iload_n dX0_build_48 rfl rfl rfl ?_
  refine Sm.if_lt (t := 93) dX0_build_49 (by decide) rfl (fun b4 => ?_) (fun b4 => ?_)
  · refine Sm.aload_n dX0_build_93 rfl rfl rfl ?_
    refine Sm.aload_n dX0_build_94 rfl rfl rfl ?_
    refine Sm.ck (fun o5 => ?_)
    refine gf_X0_38 o5 dX0_build_95 rfl rfl (fun v6 => ?_)
    refine Sm.iconst dX0_build_98 ic_0 rfl ?_
    refine Sm.ca (fun q7 => ?_)
    refine Sm.iald q7 dX0_build_99 rfl ?_
    refine pf_X0_35 o5 dX0_build_100 rfl rfl ?_
    exact Sm.ret (r := ()) dX0_build_103 trivial rfl
  · refine Sm.iconst dX0_build_52 ic_0 rfl ?_
    refine Sm.istore (lv' := [.ref l0, .null, .int l2, .int l3, .int (0 : Int32)]) dX0_build_53 (Nat.le_of_ble_eq_true rfl) rfl rfl ?_
    exact Sm.wk (Sm.loop (σ := Int32 × Hp) (LV := fun s => [.ref l0, .null, .int l2, .int l3, .int s.1]) (HH := fun s => s.2) (fun k hk s => t_X0_build_55 l0 l2 l3 s.1 s.2 k48 hk48 k hk) 5000 ((0 : Int32), h)) ⟨Or.inr rfl, Or.inl rfl, Or.inr rfl, Or.inr rfl, Or.inr rfl, trivial⟩
def f_X0_build_7 (k7 : (Int32 × Hp) → Option (Unit × Hp)) (l0 : Nat) (l1 : Nat) (l2 : Int32) (h : Hp) : Option (Unit × Hp) :=
  (if (64 : Int32) ≤ l2 then
(ck h l0 0
(loopN (fun k s => f_X0_build_48 k l0 s.1 s.2.1 s.2.2) 5000 ((16 : Int32), (2 : Int32), (sI h l0 6 (gI h l0 5)))))
else
(ck h l0 0
((gP h l0 8).bind fun v18 =>
(ck h l1 6
(bd (f_X6_imageOf l1 l2 h) fun v20 h21 =>
(ck h21 l0 0
(bd (f_X0_leafFor l0 l2 v20 h21) fun v23 h24 =>
(ca h24 v18 20 l2
(nm (l2 + (1 : Int32)) fun v26 =>
(k7 (v26, (sI h24 v18 l2.toNatClampNeg v23))))))))))))
set_option maxRecDepth 20000 in
theorem t_X0_build_7 (l0 : Nat) (l1 : Nat) (l2 : Int32) (h : Hp) (k7 : (Int32 × Hp) → Option (Unit × Hp)) (hk7 : ∀ s : Int32 × Hp, Sm rvV g_X0_build 7 [.ref l0, .ref l1, .int s.1, .null, .null] [] s.2 (k7 s)) : Sm rvV g_X0_build 7 [.ref l0, .ref l1, .int l2, .null, .null] [] h (f_X0_build_7 k7 l0 l1 l2 h) := by
  unfold f_X0_build_7
  refine Sm.iload_n dX0_build_7 rfl rfl rfl ?_
  refine Sm.bipush dX0_build_8 bp_64 rfl ?_
  refine Sm.icmp_ge (t := 35) dX0_build_10 (by decide) rfl (fun b2 => ?_) (fun b2 => ?_)
  · refine Sm.aload_n dX0_build_35 rfl rfl rfl ?_
    refine Sm.aload_n dX0_build_36 rfl rfl rfl ?_
    refine Sm.ck (fun o3 => ?_)
    refine gf_X0_28 o3 dX0_build_37 rfl rfl ?_
    refine pf_X0_32 o3 dX0_build_40 rfl rfl ?_
    refine Sm.bipush dX0_build_43 bp_16 rfl ?_
    refine Sm.istore_n (lv' := [.ref l0, .ref l1, .int (16 : Int32), .null, .null]) dX0_build_45 rfl (Nat.le_of_ble_eq_true rfl) rfl rfl ?_
    refine Sm.iconst dX0_build_46 ic_2 rfl ?_
    refine Sm.istore_n (lv' := [.ref l0, .ref l1, .int (16 : Int32), .int (2 : Int32), .null]) dX0_build_47 rfl (Nat.le_of_ble_eq_true rfl) rfl rfl ?_
    exact Sm.wk (Sm.loop (σ := Int32 × Int32 × Hp) (LV := fun s => [.ref l0, .null, .int s.1, .int s.2.1, .null]) (HH := fun s => s.2.2) (fun k hk s => t_X0_build_48 l0 s.1 s.2.1 s.2.2 k hk) 5000 ((16 : Int32), (2 : Int32), (sI h l0 6 (gI h l0 5)))) ⟨Or.inr rfl, Or.inl rfl, Or.inr rfl, Or.inr rfl, Or.inl rfl, trivial⟩
  · refine Sm.aload_n dX0_build_13 rfl rfl rfl ?_
    refine Sm.ck (fun o17 => ?_)
    refine gf_X0_38 o17 dX0_build_14 rfl rfl (fun v18 => ?_)
    refine Sm.iload_n dX0_build_17 rfl rfl rfl ?_
    refine Sm.aload_n dX0_build_18 rfl rfl rfl ?_
    refine Sm.iload_n dX0_build_19 rfl rfl rfl ?_
    refine Sm.aload_n dX0_build_20 rfl rfl rfl ?_
    refine Sm.iload_n dX0_build_21 rfl rfl rfl ?_
    refine Sm.ck (fun o19 => ?_)
    refine kc_X0_48 o19 dX0_build_22 rfl (Nat.le_of_ble_eq_true rfl) (Nat.le_of_ble_eq_true rfl) rfl (fun v20 h21 => ?_)
    refine Sm.ck (fun o22 => ?_)
    refine kc_X0_54 o22 dX0_build_25 rfl (Nat.le_of_ble_eq_true rfl) (Nat.le_of_ble_eq_true rfl) rfl (fun v23 h24 => ?_)
    refine Sm.ca (fun q25 => ?_)
    refine Sm.iast q25 dX0_build_28 rfl ?_
    refine Sm.iinc (lv' := [.ref l0, .ref l1, .int (l2 + (1 : Int32)), .null, .null]) dX0_build_29 rfl ic_1 rfl rfl ?_
    refine Sm.nm (LV := fun v26 => [.ref l0, .ref l1, .int v26, .null, .null]) (ST := fun v26 => []) (fun v26 => ?_)
    refine Sm.goto (t := 7) dX0_build_32 (by decide) ?_
    exact Sm.wk (hk7 (v26, (sI h24 v18 l2.toNatClampNeg v23))) ⟨Or.inr rfl, Or.inr rfl, Or.inr rfl, Or.inl rfl, Or.inl rfl, trivial⟩
def f_X0_build (l0 : Nat) (l1 : Nat) (h : Hp) : Option (Unit × Hp) :=
  (ck h l0 0
(loopN (fun k s => f_X0_build_7 k l0 l1 s.1 s.2) 5000 ((0 : Int32), (sI h l0 5 (0 : Int32)))))
set_option maxRecDepth 20000 in
theorem t_X0_build (l0 : Nat) (l1 : Nat) (h : Hp) : Sm rvV g_X0_build 0 (ent 5 [.ref l0, .ref l1]) [] h (f_X0_build l0 l1 h) := by
  show Sm rvV g_X0_build 0 [.ref l0, .ref l1, .null, .null, .null] [] h _
  unfold f_X0_build
  refine Sm.aload_n dX0_build_0 rfl rfl rfl ?_
  refine Sm.iconst dX0_build_1 ic_0 rfl ?_
  refine Sm.ck (fun o1 => ?_)
  refine pf_X0_28 o1 dX0_build_2 rfl rfl ?_
  refine Sm.iconst dX0_build_5 ic_0 rfl ?_
  refine Sm.istore_n (lv' := [.ref l0, .ref l1, .int (0 : Int32), .null, .null]) dX0_build_6 rfl (Nat.le_of_ble_eq_true rfl) rfl rfl ?_
  exact Sm.wk (Sm.loop (σ := Int32 × Hp) (LV := fun s => [.ref l0, .ref l1, .int s.1, .null, .null]) (HH := fun s => s.2) (fun k hk s => t_X0_build_7 l0 l1 s.1 s.2 k hk) 5000 ((0 : Int32), (sI h l0 5 (0 : Int32)))) ⟨Or.inr rfl, Or.inr rfl, Or.inr rfl, Or.inl rfl, Or.inl rfl, trivial⟩
set_option maxRecDepth 20000 in
theorem kc_X7_78 {ρ : Type} {rv : ρ → Option Value} {G : Gx} {pc q : Nat} {lv st : List Value} {h : Hp} {a : Nat} {x1 : Nat} {e : Unit → Hp → Option (ρ × Hp)} (hk : isO h a 0) (d : decode G.2.1 pc = .ok (.invokevirtual 78, 3)) (ho : G.1.cls = RX7) (hdep : (g_X0_build).2.2.2.2 < G.2.2.2.2) (hcat : catS st ≤ 8) (hq : pc + 3 = q) (k : ∀ r h1, Sm rv G q lv (st) h1 (e r h1)) : Sm rv G pc lv (.ref x1 :: .ref a :: st) h (bd (f_X0_build a x1 h) e) :=
  Sm.callV (rv' := rvV) (args := [.ref x1]) (n := 1) (t_X0_build a x1 h) hk (by decide) (r := (RX0, TX0, 10)) rfl rfl ho mw_577 mw_578 mw_579 mw_9 mw_580 ⟨⟨by decide, rfl, hdep, Nat.le_of_ble_eq_true rfl⟩, Nat.le_of_ble_eq_true rfl, rfl, ⟨by decide, by decide⟩, hcat⟩ (by decide +kernel) (by intro v hv; simp only [List.mem_cons, List.not_mem_nil, or_false] at hv; rcases hv with rfl <;> intro x hx <;> cases hx) d hq k rfl
abbrev g_X0_valuesLeadingTo : Gx := (yX0_valuesLeadingTo, cX0_valuesLeadingTo, 5, (Option.some FieldType.int), 1)
def f_X0_valuesLeadingTo_5 (k5 : (Int32 × Int32 × Hp) → Option (Int32 × Hp)) (l0 : Nat) (l1 : Int32) (l2 : Int32) (l3 : Int32) (l4 : Int32) (h : Hp) : Option (Int32 × Hp) :=
  (if (4 : Int32) ≤ l4 then
(some (l3, h))
else
(ck h l0 0
(bd (f_X0_childOf l0 l1 l4 h) fun v3 h4 =>
(if v3 = l2 then
(nm (l3 + (1 : Int32)) fun v6 =>
(nm (l4 + (1 : Int32)) fun v7 =>
(k5 (v6, v7, h4))))
else
(nm (l4 + (1 : Int32)) fun v8 =>
(k5 (l3, v8, h4)))))))
set_option maxRecDepth 20000 in
theorem t_X0_valuesLeadingTo_5 (l0 : Nat) (l1 : Int32) (l2 : Int32) (l3 : Int32) (l4 : Int32) (h : Hp) (k5 : (Int32 × Int32 × Hp) → Option (Int32 × Hp)) (hk5 : ∀ s : Int32 × Int32 × Hp, Sm rvI g_X0_valuesLeadingTo 5 [.ref l0, .int l1, .int l2, .int s.1, .int s.2.1] [] s.2.2 (k5 s)) : Sm rvI g_X0_valuesLeadingTo 5 [.ref l0, .int l1, .int l2, .int l3, .int l4] [] h (f_X0_valuesLeadingTo_5 k5 l0 l1 l2 l3 l4 h) := by
  unfold f_X0_valuesLeadingTo_5
  refine Sm.iload dX0_valuesLeadingTo_5 rfl rfl ?_
  refine Sm.iconst dX0_valuesLeadingTo_7 ic_4 rfl ?_
  refine Sm.icmp_ge (t := 31) dX0_valuesLeadingTo_8 (by decide) rfl (fun b1 => ?_) (fun b1 => ?_)
  · refine Sm.iload_n dX0_valuesLeadingTo_31 rfl rfl rfl ?_
    exact Sm.ret dX0_valuesLeadingTo_32 trivial rfl
  · refine Sm.aload_n dX0_valuesLeadingTo_11 rfl rfl rfl ?_
    refine Sm.iload_n dX0_valuesLeadingTo_12 rfl rfl rfl ?_
    refine Sm.iload dX0_valuesLeadingTo_13 rfl rfl ?_
    refine Sm.ck (fun o2 => ?_)
    refine kc_X0_88 o2 dX0_valuesLeadingTo_15 rfl (Nat.le_of_ble_eq_true rfl) (Nat.le_of_ble_eq_true rfl) rfl (fun v3 h4 => ?_)
    refine Sm.iload_n dX0_valuesLeadingTo_18 rfl rfl rfl ?_
    refine Sm.icmp_ne (t := 25) dX0_valuesLeadingTo_19 (by decide) rfl (fun b5 => ?_) (fun b5 => ?_)
    · refine Sm.iinc (lv' := [.ref l0, .int l1, .int l2, .int (l3 + (1 : Int32)), .int l4]) dX0_valuesLeadingTo_22 rfl ic_1 rfl rfl ?_
      refine Sm.nm (LV := fun v6 => [.ref l0, .int l1, .int l2, .int v6, .int l4]) (ST := fun v6 => []) (fun v6 => ?_)
      refine Sm.iinc (lv' := [.ref l0, .int l1, .int l2, .int v6, .int (l4 + (1 : Int32))]) dX0_valuesLeadingTo_25 rfl ic_1 rfl rfl ?_
      refine Sm.nm (LV := fun v7 => [.ref l0, .int l1, .int l2, .int v6, .int v7]) (ST := fun v7 => []) (fun v7 => ?_)
      refine Sm.goto (t := 5) dX0_valuesLeadingTo_28 (by decide) ?_
      exact Sm.wk (hk5 (v6, v7, h4)) ⟨Or.inr rfl, Or.inr rfl, Or.inr rfl, Or.inr rfl, Or.inr rfl, trivial⟩
    · refine Sm.iinc (lv' := [.ref l0, .int l1, .int l2, .int l3, .int (l4 + (1 : Int32))]) dX0_valuesLeadingTo_25 rfl ic_1 rfl rfl ?_
      refine Sm.nm (LV := fun v8 => [.ref l0, .int l1, .int l2, .int l3, .int v8]) (ST := fun v8 => []) (fun v8 => ?_)
      refine Sm.goto (t := 5) dX0_valuesLeadingTo_28 (by decide) ?_
      exact Sm.wk (hk5 (l3, v8, h4)) ⟨Or.inr rfl, Or.inr rfl, Or.inr rfl, Or.inr rfl, Or.inr rfl, trivial⟩
def f_X0_valuesLeadingTo (l0 : Nat) (l1 : Int32) (l2 : Int32) (h : Hp) : Option (Int32 × Hp) :=
  (loopN (fun k s => f_X0_valuesLeadingTo_5 k l0 l1 l2 s.1 s.2.1 s.2.2) 5000 ((0 : Int32), (0 : Int32), h))
set_option maxRecDepth 20000 in
theorem t_X0_valuesLeadingTo (l0 : Nat) (l1 : Int32) (l2 : Int32) (h : Hp) : Sm rvI g_X0_valuesLeadingTo 0 (ent 5 [.ref l0, .int l1, .int l2]) [] h (f_X0_valuesLeadingTo l0 l1 l2 h) := by
  show Sm rvI g_X0_valuesLeadingTo 0 [.ref l0, .int l1, .int l2, .null, .null] [] h _
  unfold f_X0_valuesLeadingTo
  refine Sm.iconst dX0_valuesLeadingTo_0 ic_0 rfl ?_
  refine Sm.istore_n (lv' := [.ref l0, .int l1, .int l2, .int (0 : Int32), .null]) dX0_valuesLeadingTo_1 rfl (Nat.le_of_ble_eq_true rfl) rfl rfl ?_
  refine Sm.iconst dX0_valuesLeadingTo_2 ic_0 rfl ?_
  refine Sm.istore (lv' := [.ref l0, .int l1, .int l2, .int (0 : Int32), .int (0 : Int32)]) dX0_valuesLeadingTo_3 (Nat.le_of_ble_eq_true rfl) rfl rfl ?_
  exact Sm.wk (Sm.loop (σ := Int32 × Int32 × Hp) (LV := fun s => [.ref l0, .int l1, .int l2, .int s.1, .int s.2.1]) (HH := fun s => s.2.2) (fun k hk s => t_X0_valuesLeadingTo_5 l0 l1 l2 s.1 s.2.1 s.2.2 k hk) 5000 ((0 : Int32), (0 : Int32), h)) ⟨Or.inr rfl, Or.inr rfl, Or.inr rfl, Or.inr rfl, Or.inr rfl, trivial⟩
set_option maxRecDepth 20000 in
theorem kc_X0_96 {ρ : Type} {rv : ρ → Option Value} {G : Gx} {pc q : Nat} {lv st : List Value} {h : Hp} {a : Nat} {x1 : Int32} {x2 : Int32} {e : Int32 → Hp → Option (ρ × Hp)} (hk : isO h a 0) (d : decode G.2.1 pc = .ok (.invokevirtual 96, 3)) (ho : G.1.cls = RX0) (hdep : (g_X0_valuesLeadingTo).2.2.2.2 < G.2.2.2.2) (hcat : catS st ≤ 8) (hq : pc + 3 = q) (k : ∀ r h1, Sm rv G q lv (.int r :: st) h1 (e r h1)) : Sm rv G pc lv (.int x2 :: .int x1 :: .ref a :: st) h (bd (f_X0_valuesLeadingTo a x1 x2 h) e) :=
  Sm.callV (rv' := rvI) (args := [.int x1, .int x2]) (n := 2) (t_X0_valuesLeadingTo a x1 x2 h) hk (by decide) (r := (RX0, TX0, 10)) rfl rfl ho mw_656 mw_658 mp_46 mw_9 mw_659 ⟨⟨by decide, rfl, hdep, Nat.le_of_ble_eq_true rfl⟩, Nat.le_of_ble_eq_true rfl, rfl, ⟨by decide, by decide⟩, hcat⟩ (by decide +kernel) (by intro v hv; simp only [List.mem_cons, List.not_mem_nil, or_false] at hv; rcases hv with rfl | rfl <;> intro x hx <;> cases hx) d hq k rfl
abbrev g_X0_mainChildOf : Gx := (yX0_mainChildOf, cX0_mainChildOf, 7, (Option.some FieldType.int), 2)
def f_X0_mainChildOf_12 (k12 : (Int32 × Int32 × Int32 × Hp) → Option (Int32 × Hp)) (l0 : Nat) (l1 : Int32) (l2 : Int32) (l3 : Int32) (l4 : Int32) (h : Hp) : Option (Int32 × Hp) :=
  (if (4 : Int32) ≤ l4 then
(some (l2, h))
else
(ck h l0 0
(bd (f_X0_childOf l0 l1 l4 h) fun v6 h7 =>
(ck h7 l0 0
(bd (f_X0_valuesLeadingTo l0 l1 v6 h7) fun v9 h10 =>
(if v9 ≤ l3 then
(nm (l4 + (1 : Int32)) fun v12 =>
(k12 (l2, l3, v12, h10)))
else
(nm (l4 + (1 : Int32)) fun v13 =>
(k12 (v6, v9, v13, h10)))))))))
set_option maxRecDepth 20000 in
theorem t_X0_mainChildOf_12 (l0 : Nat) (l1 : Int32) (l2 : Int32) (l3 : Int32) (l4 : Int32) (h : Hp) (k12 : (Int32 × Int32 × Int32 × Hp) → Option (Int32 × Hp)) (hk12 : ∀ s : Int32 × Int32 × Int32 × Hp, Sm rvI g_X0_mainChildOf 12 [.ref l0, .int l1, .int s.1, .int s.2.1, .int s.2.2.1, .null, .null] [] s.2.2.2 (k12 s)) : Sm rvI g_X0_mainChildOf 12 [.ref l0, .int l1, .int l2, .int l3, .int l4, .null, .null] [] h (f_X0_mainChildOf_12 k12 l0 l1 l2 l3 l4 h) := by
  unfold f_X0_mainChildOf_12
  refine Sm.iload dX0_mainChildOf_12 rfl rfl ?_
  refine Sm.iconst dX0_mainChildOf_14 ic_4 rfl ?_
  refine Sm.icmp_ge (t := 54) dX0_mainChildOf_15 (by decide) rfl (fun b4 => ?_) (fun b4 => ?_)
  · refine Sm.iload_n dX0_mainChildOf_54 rfl rfl rfl ?_
    exact Sm.ret dX0_mainChildOf_55 trivial rfl
  · refine Sm.aload_n dX0_mainChildOf_18 rfl rfl rfl ?_
    refine Sm.iload_n dX0_mainChildOf_19 rfl rfl rfl ?_
    refine Sm.iload dX0_mainChildOf_20 rfl rfl ?_
    refine Sm.ck (fun o5 => ?_)
    refine kc_X0_88 o5 dX0_mainChildOf_22 rfl (Nat.le_of_ble_eq_true rfl) (Nat.le_of_ble_eq_true rfl) rfl (fun v6 h7 => ?_)
    refine Sm.istore (lv' := [.ref l0, .int l1, .int l2, .int l3, .int l4, .int v6, .null]) dX0_mainChildOf_25 (Nat.le_of_ble_eq_true rfl) rfl rfl ?_
    refine Sm.aload_n dX0_mainChildOf_27 rfl rfl rfl ?_
    refine Sm.iload_n dX0_mainChildOf_28 rfl rfl rfl ?_
    refine Sm.iload dX0_mainChildOf_29 rfl rfl ?_
    refine Sm.ck (fun o8 => ?_)
    refine kc_X0_96 o8 dX0_mainChildOf_31 rfl (Nat.le_of_ble_eq_true rfl) (Nat.le_of_ble_eq_true rfl) rfl (fun v9 h10 => ?_)
    refine Sm.istore (lv' := [.ref l0, .int l1, .int l2, .int l3, .int l4, .int v6, .int v9]) dX0_mainChildOf_34 (Nat.le_of_ble_eq_true rfl) rfl rfl ?_
    refine Sm.iload dX0_mainChildOf_36 rfl rfl ?_
    refine Sm.iload_n dX0_mainChildOf_38 rfl rfl rfl ?_
    refine Sm.icmp_le (t := 48) dX0_mainChildOf_39 (by decide) rfl (fun b11 => ?_) (fun b11 => ?_)
    · refine Sm.iinc (lv' := [.ref l0, .int l1, .int l2, .int l3, .int (l4 + (1 : Int32)), .int v6, .int v9]) dX0_mainChildOf_48 rfl ic_1 rfl rfl ?_
      refine Sm.nm (LV := fun v12 => [.ref l0, .int l1, .int l2, .int l3, .int v12, .int v6, .int v9]) (ST := fun v12 => []) (fun v12 => ?_)
      refine Sm.goto (t := 12) dX0_mainChildOf_51 (by decide) ?_
      exact Sm.wk (hk12 (l2, l3, v12, h10)) ⟨Or.inr rfl, Or.inr rfl, Or.inr rfl, Or.inr rfl, Or.inr rfl, Or.inl rfl, Or.inl rfl, trivial⟩
    · refine Sm.iload dX0_mainChildOf_42 rfl rfl ?_
      refine Sm.istore_n (lv' := [.ref l0, .int l1, .int l2, .int v9, .int l4, .int v6, .int v9]) dX0_mainChildOf_44 rfl (Nat.le_of_ble_eq_true rfl) rfl rfl ?_
      refine Sm.iload dX0_mainChildOf_45 rfl rfl ?_
      refine Sm.istore_n (lv' := [.ref l0, .int l1, .int v6, .int v9, .int l4, .int v6, .int v9]) dX0_mainChildOf_47 rfl (Nat.le_of_ble_eq_true rfl) rfl rfl ?_
      refine Sm.iinc (lv' := [.ref l0, .int l1, .int v6, .int v9, .int (l4 + (1 : Int32)), .int v6, .int v9]) dX0_mainChildOf_48 rfl ic_1 rfl rfl ?_
      refine Sm.nm (LV := fun v13 => [.ref l0, .int l1, .int v6, .int v9, .int v13, .int v6, .int v9]) (ST := fun v13 => []) (fun v13 => ?_)
      refine Sm.goto (t := 12) dX0_mainChildOf_51 (by decide) ?_
      exact Sm.wk (hk12 (v6, v9, v13, h10)) ⟨Or.inr rfl, Or.inr rfl, Or.inr rfl, Or.inr rfl, Or.inr rfl, Or.inl rfl, Or.inl rfl, trivial⟩
def f_X0_mainChildOf (l0 : Nat) (l1 : Int32) (h : Hp) : Option (Int32 × Hp) :=
  (ck h l0 0
(bd (f_X0_childOf l0 l1 (0 : Int32) h) fun v2 h3 =>
(loopN (fun k s => f_X0_mainChildOf_12 k l0 l1 s.1 s.2.1 s.2.2.1 s.2.2.2) 5000 (v2, (0 : Int32), (0 : Int32), h3))))
set_option maxRecDepth 20000 in
theorem t_X0_mainChildOf (l0 : Nat) (l1 : Int32) (h : Hp) : Sm rvI g_X0_mainChildOf 0 (ent 7 [.ref l0, .int l1]) [] h (f_X0_mainChildOf l0 l1 h) := by
  show Sm rvI g_X0_mainChildOf 0 [.ref l0, .int l1, .null, .null, .null, .null, .null] [] h _
  unfold f_X0_mainChildOf
  refine Sm.aload_n dX0_mainChildOf_0 rfl rfl rfl ?_
  refine Sm.iload_n dX0_mainChildOf_1 rfl rfl rfl ?_
  refine Sm.iconst dX0_mainChildOf_2 ic_0 rfl ?_
  refine Sm.ck (fun o1 => ?_)
  refine kc_X0_88 o1 dX0_mainChildOf_3 rfl (Nat.le_of_ble_eq_true rfl) (Nat.le_of_ble_eq_true rfl) rfl (fun v2 h3 => ?_)
  refine Sm.istore_n (lv' := [.ref l0, .int l1, .int v2, .null, .null, .null, .null]) dX0_mainChildOf_6 rfl (Nat.le_of_ble_eq_true rfl) rfl rfl ?_
  refine Sm.iconst dX0_mainChildOf_7 ic_0 rfl ?_
  refine Sm.istore_n (lv' := [.ref l0, .int l1, .int v2, .int (0 : Int32), .null, .null, .null]) dX0_mainChildOf_8 rfl (Nat.le_of_ble_eq_true rfl) rfl rfl ?_
  refine Sm.iconst dX0_mainChildOf_9 ic_0 rfl ?_
  refine Sm.istore (lv' := [.ref l0, .int l1, .int v2, .int (0 : Int32), .int (0 : Int32), .null, .null]) dX0_mainChildOf_10 (Nat.le_of_ble_eq_true rfl) rfl rfl ?_
  exact Sm.wk (Sm.loop (σ := Int32 × Int32 × Int32 × Hp) (LV := fun s => [.ref l0, .int l1, .int s.1, .int s.2.1, .int s.2.2.1, .null, .null]) (HH := fun s => s.2.2.2) (fun k hk s => t_X0_mainChildOf_12 l0 l1 s.1 s.2.1 s.2.2.1 s.2.2.2 k hk) 5000 (v2, (0 : Int32), (0 : Int32), h3)) ⟨Or.inr rfl, Or.inr rfl, Or.inr rfl, Or.inr rfl, Or.inr rfl, Or.inl rfl, Or.inl rfl, trivial⟩
set_option maxRecDepth 20000 in
theorem kc_X8_47 {ρ : Type} {rv : ρ → Option Value} {G : Gx} {pc q : Nat} {lv st : List Value} {h : Hp} {a : Nat} {x1 : Int32} {e : Int32 → Hp → Option (ρ × Hp)} (hk : isO h a 0) (d : decode G.2.1 pc = .ok (.invokevirtual 47, 3)) (ho : G.1.cls = RX8) (hdep : (g_X0_mainChildOf).2.2.2.2 < G.2.2.2.2) (hcat : catS st ≤ 8) (hq : pc + 3 = q) (k : ∀ r h1, Sm rv G q lv (.int r :: st) h1 (e r h1)) : Sm rv G pc lv (.int x1 :: .ref a :: st) h (bd (f_X0_mainChildOf a x1 h) e) :=
  Sm.callV (rv' := rvI) (args := [.int x1]) (n := 1) (t_X0_mainChildOf a x1 h) hk (by decide) (r := (RX0, TX0, 10)) rfl rfl ho mw_652 mw_653 mw_654 mw_9 mw_655 ⟨⟨by decide, rfl, hdep, Nat.le_of_ble_eq_true rfl⟩, Nat.le_of_ble_eq_true rfl, rfl, ⟨by decide, by decide⟩, hcat⟩ (by decide +kernel) (by intro v hv; simp only [List.mem_cons, List.not_mem_nil, or_false] at hv; rcases hv with rfl <;> intro x hx <;> cases hx) d hq k rfl
abbrev g_X0_twinOfChild : Gx := (yX0_twinOfChild, cX0_twinOfChild, 4, (Option.some FieldType.int), 1)
def f_X0_twinOfChild (l0 : Nat) (l1 : Int32) (l2 : Int32) (h : Hp) : Option (Int32 × Hp) :=
  (ck h l0 0
(bd (f_X0_childOf l0 l1 l2 h) fun v2 h3 =>
(if v2 < 0 then
(some ((-1 : Int32), h3))
else
(if (85 : Int32) ≤ v2 then
(some ((-1 : Int32), h3))
else
(ck h3 l0 0
((gP h3 l0 9).bind fun v7 =>
(ca h3 v7 20 v2
(some ((gI h3 v7 v2.toNatClampNeg), h3)))))))))
set_option maxRecDepth 20000 in
theorem t_X0_twinOfChild (l0 : Nat) (l1 : Int32) (l2 : Int32) (h : Hp) : Sm rvI g_X0_twinOfChild 0 (ent 4 [.ref l0, .int l1, .int l2]) [] h (f_X0_twinOfChild l0 l1 l2 h) := by
  show Sm rvI g_X0_twinOfChild 0 [.ref l0, .int l1, .int l2, .null] [] h _
  unfold f_X0_twinOfChild
  refine Sm.aload_n dX0_twinOfChild_0 rfl rfl rfl ?_
  refine Sm.iload_n dX0_twinOfChild_1 rfl rfl rfl ?_
  refine Sm.iload_n dX0_twinOfChild_2 rfl rfl rfl ?_
  refine Sm.ck (fun o1 => ?_)
  refine kc_X0_88 o1 dX0_twinOfChild_3 rfl (Nat.le_of_ble_eq_true rfl) (Nat.le_of_ble_eq_true rfl) rfl (fun v2 h3 => ?_)
  refine Sm.istore_n (lv' := [.ref l0, .int l1, .int l2, .int v2]) dX0_twinOfChild_6 rfl (Nat.le_of_ble_eq_true rfl) rfl rfl ?_
  refine Sm.iload_n dX0_twinOfChild_7 rfl rfl rfl ?_
  refine Sm.if_lt (t := 26) dX0_twinOfChild_8 (by decide) rfl (fun b4 => ?_) (fun b4 => ?_)
  · refine Sm.iconst dX0_twinOfChild_26 ic_m1 rfl ?_
    exact Sm.ret dX0_twinOfChild_27 trivial rfl
  · refine Sm.iload_n dX0_twinOfChild_11 rfl rfl rfl ?_
    refine Sm.bipush dX0_twinOfChild_12 bp_85 rfl ?_
    refine Sm.icmp_ge (t := 26) dX0_twinOfChild_14 (by decide) rfl (fun b5 => ?_) (fun b5 => ?_)
    · refine Sm.iconst dX0_twinOfChild_26 ic_m1 rfl ?_
      exact Sm.ret dX0_twinOfChild_27 trivial rfl
    · refine Sm.aload_n dX0_twinOfChild_17 rfl rfl rfl ?_
      refine Sm.ck (fun o6 => ?_)
      refine gf_X0_41 o6 dX0_twinOfChild_18 rfl rfl (fun v7 => ?_)
      refine Sm.iload_n dX0_twinOfChild_21 rfl rfl rfl ?_
      refine Sm.ca (fun q8 => ?_)
      refine Sm.iald q8 dX0_twinOfChild_22 rfl ?_
      refine Sm.goto (t := 27) dX0_twinOfChild_23 (by decide) ?_
      exact Sm.ret dX0_twinOfChild_27 trivial rfl
set_option maxRecDepth 20000 in
theorem kc_X0_106 {ρ : Type} {rv : ρ → Option Value} {G : Gx} {pc q : Nat} {lv st : List Value} {h : Hp} {a : Nat} {x1 : Int32} {x2 : Int32} {e : Int32 → Hp → Option (ρ × Hp)} (hk : isO h a 0) (d : decode G.2.1 pc = .ok (.invokevirtual 106, 3)) (ho : G.1.cls = RX0) (hdep : (g_X0_twinOfChild).2.2.2.2 < G.2.2.2.2) (hcat : catS st ≤ 8) (hq : pc + 3 = q) (k : ∀ r h1, Sm rv G q lv (.int r :: st) h1 (e r h1)) : Sm rv G pc lv (.int x2 :: .int x1 :: .ref a :: st) h (bd (f_X0_twinOfChild a x1 x2 h) e) :=
  Sm.callV (rv' := rvI) (args := [.int x1, .int x2]) (n := 2) (t_X0_twinOfChild a x1 x2 h) hk (by decide) (r := (RX0, TX0, 10)) rfl rfl ho mw_782 mw_784 mp_49 mw_9 mw_785 ⟨⟨by decide, rfl, hdep, Nat.le_of_ble_eq_true rfl⟩, Nat.le_of_ble_eq_true rfl, rfl, ⟨by decide, by decide⟩, hcat⟩ (by decide +kernel) (by intro v hv; simp only [List.mem_cons, List.not_mem_nil, or_false] at hv; rcases hv with rfl | rfl <;> intro x hx <;> cases hx) d hq k rfl
abbrev g_X0_twinOf : Gx := (yX0_twinOf, cX0_twinOf, 3, (Option.some FieldType.int), 2)
def f_X0_twinOf_31 (l0 : Nat) (l1 : Int32) (l2 : Nat) (h : Hp) : Option (Int32 × Hp) :=
  (ck h l0 0
(bd (f_X0_fieldOf l0 l1 h) fun v4 h5 =>
(ck h5 l0 0
(bd (f_X0_twinOfChild l0 l1 (0 : Int32) h5) fun v7 h8 =>
(ck h8 l0 0
(bd (f_X0_twinOfChild l0 l1 (1 : Int32) h8) fun v10 h11 =>
(ck h11 l0 0
(bd (f_X0_twinOfChild l0 l1 (2 : Int32) h11) fun v13 h14 =>
(ck h14 l0 0
(bd (f_X0_twinOfChild l0 l1 (3 : Int32) h14) fun v16 h17 =>
(ck h17 l2 0
(bd (f_X0_testWith l2 v4 v7 v10 v13 v16 h17) fun v19 h20 =>
(some (v19, h20))))))))))))))
set_option maxRecDepth 20000 in
theorem t_X0_twinOf_31 (l0 : Nat) (l1 : Int32) (l2 : Nat) (h : Hp) : Sm rvI g_X0_twinOf 31 [.ref l0, .int l1, .ref l2] [] h (f_X0_twinOf_31 l0 l1 l2 h) := by
  unfold f_X0_twinOf_31
  refine Sm.aload_n dX0_twinOf_31 rfl rfl rfl ?_
  refine Sm.aload_n dX0_twinOf_32 rfl rfl rfl ?_
  refine Sm.iload_n dX0_twinOf_33 rfl rfl rfl ?_
  refine Sm.ck (fun o3 => ?_)
  refine kc_X0_103 o3 dX0_twinOf_34 rfl (Nat.le_of_ble_eq_true rfl) (Nat.le_of_ble_eq_true rfl) rfl (fun v4 h5 => ?_)
  refine Sm.aload_n dX0_twinOf_37 rfl rfl rfl ?_
  refine Sm.iload_n dX0_twinOf_38 rfl rfl rfl ?_
  refine Sm.iconst dX0_twinOf_39 ic_0 rfl ?_
  refine Sm.ck (fun o6 => ?_)
  refine kc_X0_106 o6 dX0_twinOf_40 rfl (Nat.le_of_ble_eq_true rfl) (Nat.le_of_ble_eq_true rfl) rfl (fun v7 h8 => ?_)
  refine Sm.aload_n dX0_twinOf_43 rfl rfl rfl ?_
  refine Sm.iload_n dX0_twinOf_44 rfl rfl rfl ?_
  refine Sm.iconst dX0_twinOf_45 ic_1 rfl ?_
  refine Sm.ck (fun o9 => ?_)
  refine kc_X0_106 o9 dX0_twinOf_46 rfl (Nat.le_of_ble_eq_true rfl) (Nat.le_of_ble_eq_true rfl) rfl (fun v10 h11 => ?_)
  refine Sm.aload_n dX0_twinOf_49 rfl rfl rfl ?_
  refine Sm.iload_n dX0_twinOf_50 rfl rfl rfl ?_
  refine Sm.iconst dX0_twinOf_51 ic_2 rfl ?_
  refine Sm.ck (fun o12 => ?_)
  refine kc_X0_106 o12 dX0_twinOf_52 rfl (Nat.le_of_ble_eq_true rfl) (Nat.le_of_ble_eq_true rfl) rfl (fun v13 h14 => ?_)
  refine Sm.aload_n dX0_twinOf_55 rfl rfl rfl ?_
  refine Sm.iload_n dX0_twinOf_56 rfl rfl rfl ?_
  refine Sm.iconst dX0_twinOf_57 ic_3 rfl ?_
  refine Sm.ck (fun o15 => ?_)
  refine kc_X0_106 o15 dX0_twinOf_58 rfl (Nat.le_of_ble_eq_true rfl) (Nat.le_of_ble_eq_true rfl) rfl (fun v16 h17 => ?_)
  refine Sm.ck (fun o18 => ?_)
  refine kc_X0_81 o18 dX0_twinOf_61 rfl (Nat.le_of_ble_eq_true rfl) (Nat.le_of_ble_eq_true rfl) rfl (fun v19 h20 => ?_)
  exact Sm.ret dX0_twinOf_64 trivial rfl
def f_X0_twinOf (l0 : Nat) (l1 : Int32) (l2 : Nat) (h : Hp) : Option (Int32 × Hp) :=
  (ck h l0 0
(if (gI h l0 5) ≤ l1 then
(f_X0_twinOf_31 l0 l1 l2 h)
else
(if (64 : Int32) ≤ l1 then
(f_X0_twinOf_31 l0 l1 l2 h)
else
((gP h l0 0).bind fun v22 =>
(ca h v22 22 l1
((gP h l0 1).bind fun v24 =>
(ca h v24 22 l1
(ck h l2 0
(bd (f_X0_leafWith l2 (gL h v22 l1.toNatClampNeg) (gL h v24 l1.toNatClampNeg) h) fun v27 h28 =>
(some (v27, h28)))))))))))
set_option maxRecDepth 20000 in
theorem t_X0_twinOf (l0 : Nat) (l1 : Int32) (l2 : Nat) (h : Hp) : Sm rvI g_X0_twinOf 0 (ent 3 [.ref l0, .int l1, .ref l2]) [] h (f_X0_twinOf l0 l1 l2 h) := by
  show Sm rvI g_X0_twinOf 0 [.ref l0, .int l1, .ref l2] [] h _
  unfold f_X0_twinOf
  refine Sm.iload_n dX0_twinOf_0 rfl rfl rfl ?_
  refine Sm.aload_n dX0_twinOf_1 rfl rfl rfl ?_
  refine Sm.ck (fun o1 => ?_)
  refine gf_X0_28 o1 dX0_twinOf_2 rfl rfl ?_
  refine Sm.icmp_ge (t := 31) dX0_twinOf_5 (by decide) rfl (fun b2 => ?_) (fun b2 => ?_)
  · exact Sm.wk (t_X0_twinOf_31 l0 l1 l2 h) ⟨Or.inr rfl, Or.inr rfl, Or.inr rfl, trivial⟩
  · refine Sm.iload_n dX0_twinOf_8 rfl rfl rfl ?_
    refine Sm.bipush dX0_twinOf_9 bp_64 rfl ?_
    refine Sm.icmp_ge (t := 31) dX0_twinOf_11 (by decide) rfl (fun b21 => ?_) (fun b21 => ?_)
    · exact Sm.wk (t_X0_twinOf_31 l0 l1 l2 h) ⟨Or.inr rfl, Or.inr rfl, Or.inr rfl, trivial⟩
    · refine Sm.aload_n dX0_twinOf_14 rfl rfl rfl ?_
      refine Sm.aload_n dX0_twinOf_15 rfl rfl rfl ?_
      refine gf_X0_9 o1 dX0_twinOf_16 rfl rfl (fun v22 => ?_)
      refine Sm.iload_n dX0_twinOf_19 rfl rfl rfl ?_
      refine Sm.ca (fun q23 => ?_)
      refine Sm.lald q23 dX0_twinOf_20 rfl ?_
      refine Sm.aload_n dX0_twinOf_21 rfl rfl rfl ?_
      refine gf_X0_15 o1 dX0_twinOf_22 rfl rfl (fun v24 => ?_)
      refine Sm.iload_n dX0_twinOf_25 rfl rfl rfl ?_
      refine Sm.ca (fun q25 => ?_)
      refine Sm.lald q25 dX0_twinOf_26 rfl ?_
      refine Sm.ck (fun o26 => ?_)
      refine kc_X0_74 o26 dX0_twinOf_27 rfl (Nat.le_of_ble_eq_true rfl) (Nat.le_of_ble_eq_true rfl) rfl (fun v27 h28 => ?_)
      exact Sm.ret dX0_twinOf_30 trivial rfl
set_option maxRecDepth 20000 in
theorem kc_X0_99 {ρ : Type} {rv : ρ → Option Value} {G : Gx} {pc q : Nat} {lv st : List Value} {h : Hp} {a : Nat} {x1 : Int32} {x2 : Nat} {e : Int32 → Hp → Option (ρ × Hp)} (hk : isO h a 0) (d : decode G.2.1 pc = .ok (.invokevirtual 99, 3)) (ho : G.1.cls = RX0) (hdep : (g_X0_twinOf).2.2.2.2 < G.2.2.2.2) (hcat : catS st ≤ 8) (hq : pc + 3 = q) (k : ∀ r h1, Sm rv G q lv (.int r :: st) h1 (e r h1)) : Sm rv G pc lv (.ref x2 :: .int x1 :: .ref a :: st) h (bd (f_X0_twinOf a x1 x2 h) e) :=
  Sm.callV (rv' := rvI) (args := [.int x1, .ref x2]) (n := 2) (t_X0_twinOf a x1 x2 h) hk (by decide) (r := (RX0, TX0, 10)) rfl rfl ho mw_777 mw_779 mp_48 mw_9 mw_780 ⟨⟨by decide, rfl, hdep, Nat.le_of_ble_eq_true rfl⟩, Nat.le_of_ble_eq_true rfl, rfl, ⟨by decide, by decide⟩, hcat⟩ (by decide +kernel) (by intro v hv; simp only [List.mem_cons, List.not_mem_nil, or_false] at hv; rcases hv with rfl | rfl <;> intro x hx <;> cases hx) d hq k rfl
abbrev g_X0_twinsIn : Gx := (yX0_twinsIn, cX0_twinsIn, 4, (Option.some FieldType.int), 3)
def f_X0_twinsIn_4 (k4 : (Int32 × Int32 × Hp) → Option (Int32 × Hp)) (l0 : Nat) (l1 : Nat) (l2 : Int32) (l3 : Int32) (h : Hp) : Option (Int32 × Hp) :=
  (ck h l0 0
(if (gI h l0 6) ≤ l3 then
(some (l2, h))
else
(if (85 : Int32) ≤ l3 then
(some (l2, h))
else
((gP h l0 9).bind fun v4 =>
(bd (f_X0_twinOf l0 l3 l1 h) fun v5 h6 =>
(ca h6 v4 20 l3
(ck (sI h6 v4 l3.toNatClampNeg v5) l0 0
((gP (sI h6 v4 l3.toNatClampNeg v5) l0 9).bind fun v9 =>
(ca (sI h6 v4 l3.toNatClampNeg v5) v9 20 l3
(if (gI (sI h6 v4 l3.toNatClampNeg v5) v9 l3.toNatClampNeg) = (-1 : Int32) then
(nm (l3 + (1 : Int32)) fun v12 =>
(k4 (l2, v12, (sI h6 v4 l3.toNatClampNeg v5))))
else
(nm (l2 + (1 : Int32)) fun v13 =>
(nm (l3 + (1 : Int32)) fun v14 =>
(k4 (v13, v14, (sI h6 v4 l3.toNatClampNeg v5)))))))))))))))
set_option maxRecDepth 20000 in
theorem t_X0_twinsIn_4 (l0 : Nat) (l1 : Nat) (l2 : Int32) (l3 : Int32) (h : Hp) (k4 : (Int32 × Int32 × Hp) → Option (Int32 × Hp)) (hk4 : ∀ s : Int32 × Int32 × Hp, Sm rvI g_X0_twinsIn 4 [.ref l0, .ref l1, .int s.1, .int s.2.1] [] s.2.2 (k4 s)) : Sm rvI g_X0_twinsIn 4 [.ref l0, .ref l1, .int l2, .int l3] [] h (f_X0_twinsIn_4 k4 l0 l1 l2 l3 h) := by
  unfold f_X0_twinsIn_4
  refine Sm.iload_n dX0_twinsIn_4 rfl rfl rfl ?_
  refine Sm.aload_n dX0_twinsIn_5 rfl rfl rfl ?_
  refine Sm.ck (fun o1 => ?_)
  refine gf_X0_32 o1 dX0_twinsIn_6 rfl rfl ?_
  refine Sm.icmp_ge (t := 49) dX0_twinsIn_9 (by decide) rfl (fun b2 => ?_) (fun b2 => ?_)
  · refine Sm.iload_n dX0_twinsIn_49 rfl rfl rfl ?_
    exact Sm.ret dX0_twinsIn_50 trivial rfl
  · refine Sm.iload_n dX0_twinsIn_12 rfl rfl rfl ?_
    refine Sm.bipush dX0_twinsIn_13 bp_85 rfl ?_
    refine Sm.icmp_ge (t := 49) dX0_twinsIn_15 (by decide) rfl (fun b3 => ?_) (fun b3 => ?_)
    · refine Sm.iload_n dX0_twinsIn_49 rfl rfl rfl ?_
      exact Sm.ret dX0_twinsIn_50 trivial rfl
    · refine Sm.aload_n dX0_twinsIn_18 rfl rfl rfl ?_
      refine gf_X0_41 o1 dX0_twinsIn_19 rfl rfl (fun v4 => ?_)
      refine Sm.iload_n dX0_twinsIn_22 rfl rfl rfl ?_
      refine Sm.aload_n dX0_twinsIn_23 rfl rfl rfl ?_
      refine Sm.iload_n dX0_twinsIn_24 rfl rfl rfl ?_
      refine Sm.aload_n dX0_twinsIn_25 rfl rfl rfl ?_
      refine kc_X0_99 o1 dX0_twinsIn_26 rfl (Nat.le_of_ble_eq_true rfl) (Nat.le_of_ble_eq_true rfl) rfl (fun v5 h6 => ?_)
      refine Sm.ca (fun q7 => ?_)
      refine Sm.iast q7 dX0_twinsIn_29 rfl ?_
      refine Sm.aload_n dX0_twinsIn_30 rfl rfl rfl ?_
      refine Sm.ck (fun o8 => ?_)
      refine gf_X0_41 o8 dX0_twinsIn_31 rfl rfl (fun v9 => ?_)
      refine Sm.iload_n dX0_twinsIn_34 rfl rfl rfl ?_
      refine Sm.ca (fun q10 => ?_)
      refine Sm.iald q10 dX0_twinsIn_35 rfl ?_
      refine Sm.iconst dX0_twinsIn_36 ic_m1 rfl ?_
      refine Sm.icmp_eq (t := 43) dX0_twinsIn_37 (by decide) rfl (fun b11 => ?_) (fun b11 => ?_)
      · refine Sm.iinc (lv' := [.ref l0, .ref l1, .int l2, .int (l3 + (1 : Int32))]) dX0_twinsIn_43 rfl ic_1 rfl rfl ?_
        refine Sm.nm (LV := fun v12 => [.ref l0, .ref l1, .int l2, .int v12]) (ST := fun v12 => []) (fun v12 => ?_)
        refine Sm.goto (t := 4) dX0_twinsIn_46 (by decide) ?_
        exact Sm.wk (hk4 (l2, v12, (sI h6 v4 l3.toNatClampNeg v5))) ⟨Or.inr rfl, Or.inr rfl, Or.inr rfl, Or.inr rfl, trivial⟩
      · refine Sm.iinc (lv' := [.ref l0, .ref l1, .int (l2 + (1 : Int32)), .int l3]) dX0_twinsIn_40 rfl ic_1 rfl rfl ?_
        refine Sm.nm (LV := fun v13 => [.ref l0, .ref l1, .int v13, .int l3]) (ST := fun v13 => []) (fun v13 => ?_)
        refine Sm.iinc (lv' := [.ref l0, .ref l1, .int v13, .int (l3 + (1 : Int32))]) dX0_twinsIn_43 rfl ic_1 rfl rfl ?_
        refine Sm.nm (LV := fun v14 => [.ref l0, .ref l1, .int v13, .int v14]) (ST := fun v14 => []) (fun v14 => ?_)
        refine Sm.goto (t := 4) dX0_twinsIn_46 (by decide) ?_
        exact Sm.wk (hk4 (v13, v14, (sI h6 v4 l3.toNatClampNeg v5))) ⟨Or.inr rfl, Or.inr rfl, Or.inr rfl, Or.inr rfl, trivial⟩
def f_X0_twinsIn (l0 : Nat) (l1 : Nat) (h : Hp) : Option (Int32 × Hp) :=
  (loopN (fun k s => f_X0_twinsIn_4 k l0 l1 s.1 s.2.1 s.2.2) 5000 ((0 : Int32), (0 : Int32), h))
set_option maxRecDepth 20000 in
theorem t_X0_twinsIn (l0 : Nat) (l1 : Nat) (h : Hp) : Sm rvI g_X0_twinsIn 0 (ent 4 [.ref l0, .ref l1]) [] h (f_X0_twinsIn l0 l1 h) := by
  show Sm rvI g_X0_twinsIn 0 [.ref l0, .ref l1, .null, .null] [] h _
  unfold f_X0_twinsIn
  refine Sm.iconst dX0_twinsIn_0 ic_0 rfl ?_
  refine Sm.istore_n (lv' := [.ref l0, .ref l1, .int (0 : Int32), .null]) dX0_twinsIn_1 rfl (Nat.le_of_ble_eq_true rfl) rfl rfl ?_
  refine Sm.iconst dX0_twinsIn_2 ic_0 rfl ?_
  refine Sm.istore_n (lv' := [.ref l0, .ref l1, .int (0 : Int32), .int (0 : Int32)]) dX0_twinsIn_3 rfl (Nat.le_of_ble_eq_true rfl) rfl rfl ?_
  exact Sm.wk (Sm.loop (σ := Int32 × Int32 × Hp) (LV := fun s => [.ref l0, .ref l1, .int s.1, .int s.2.1]) (HH := fun s => s.2.2) (fun k hk s => t_X0_twinsIn_4 l0 l1 s.1 s.2.1 s.2.2 k hk) 5000 ((0 : Int32), (0 : Int32), h)) ⟨Or.inr rfl, Or.inr rfl, Or.inr rfl, Or.inr rfl, trivial⟩
set_option maxRecDepth 20000 in
theorem kc_X9_169 {ρ : Type} {rv : ρ → Option Value} {G : Gx} {pc q : Nat} {lv st : List Value} {h : Hp} {a : Nat} {x1 : Nat} {e : Int32 → Hp → Option (ρ × Hp)} (hk : isO h a 0) (d : decode G.2.1 pc = .ok (.invokevirtual 169, 3)) (ho : G.1.cls = RX9) (hdep : (g_X0_twinsIn).2.2.2.2 < G.2.2.2.2) (hcat : catS st ≤ 8) (hq : pc + 3 = q) (k : ∀ r h1, Sm rv G q lv (.int r :: st) h1 (e r h1)) : Sm rv G pc lv (.ref x1 :: .ref a :: st) h (bd (f_X0_twinsIn a x1 h) e) :=
  Sm.callV (rv' := rvI) (args := [.ref x1]) (n := 1) (t_X0_twinsIn a x1 h) hk (by decide) (r := (RX0, TX0, 10)) rfl rfl ho mw_773 mw_774 mw_775 mw_9 mw_776 ⟨⟨by decide, rfl, hdep, Nat.le_of_ble_eq_true rfl⟩, Nat.le_of_ble_eq_true rfl, rfl, ⟨by decide, by decide⟩, hcat⟩ (by decide +kernel) (by intro v hv; simp only [List.mem_cons, List.not_mem_nil, or_false] at hv; rcases hv with rfl <;> intro x hx <;> cases hx) d hq k rfl
abbrev g_X9_holds : Gx := (yX9_holds, cX9_holds, 3, (Option.some FieldType.boolean), 0)
def f_X9_holds (l0 : Int64) (l2 : Int32) (h : Hp) : Option (Int32 × Hp) :=
  (if (lg_cmp (((l0.toUInt64 >>> (l2.toInt64.toUInt64 &&& Int64.toUInt64 63)).toInt64) &&& (1 : Int64)) (0 : Int64)) = 0 then
(some ((0 : Int32), h))
else
(some ((1 : Int32), h)))
set_option maxRecDepth 20000 in
theorem t_X9_holds (l0 : Int64) (l2 : Int32) (h : Hp) : Sm rvI g_X9_holds 0 (ent 3 [.long l0, .int l2]) [] h (f_X9_holds l0 l2 h) := by
  show Sm rvI g_X9_holds 0 [.long l0, .null, .int l2] [] h _
  unfold f_X9_holds
  refine Sm.lload_n dX9_holds_0 rfl rfl rfl ?_
  refine Sm.iload_n dX9_holds_1 rfl rfl rfl ?_
  refine Sm.lushr dX9_holds_2 rfl ?_
  refine Sm.lconst (v := (1 : Int64)) dX9_holds_3 (by decide) rfl ?_
  refine Sm.land dX9_holds_4 rfl ?_
  refine Sm.lconst (v := (0 : Int64)) dX9_holds_5 (by decide) rfl ?_
  refine Sm.lcmp dX9_holds_6 rfl ?_
  refine Sm.if_eq (t := 14) dX9_holds_7 (by decide) rfl (fun b1 => ?_) (fun b1 => ?_)
  · refine Sm.iconst dX9_holds_14 ic_0 rfl ?_
    exact Sm.ret dX9_holds_15 (Or.inl rfl) rfl
  · refine Sm.iconst dX9_holds_10 ic_1 rfl ?_
    refine Sm.goto (t := 15) dX9_holds_11 (by decide) ?_
    exact Sm.ret dX9_holds_15 (Or.inr rfl) rfl
set_option maxRecDepth 20000 in
theorem kc_X1_88 {ρ : Type} {rv : ρ → Option Value} {G : Gx} {pc q : Nat} {lv st : List Value} {h : Hp} {x0 : Int64} {x1 : Int32} {e : Int32 → Hp → Option (ρ × Hp)} (d : decode G.2.1 pc = .ok (.invokestatic 88, 3)) (ho : G.1.cls = RX1) (hdep : (g_X9_holds).2.2.2.2 < G.2.2.2.2) (hcat : catS st ≤ 8) (hq : pc + 3 = q) (k : ∀ r h1, Sm rv G q lv (.int r :: st) h1 (e r h1)) : Sm rv G pc lv (.int x1 :: .long x0 :: st) h (bd (f_X9_holds x0 x1 h) e) :=
  Sm.callSN (rv' := rvI) (as := [.long x0, .int x1]) (n := 2) (t_X9_holds x0 x1 h) ho mw_544 mw_545 mw_1 mw_546 ⟨⟨by decide, rfl, hdep, Nat.le_of_ble_eq_true rfl⟩, Nat.le_of_ble_eq_true rfl, rfl, ⟨by decide, by decide⟩, hcat⟩ (by decide +kernel) (by intro v hv; simp only [List.mem_cons, List.not_mem_nil, or_false] at hv; rcases hv with rfl | rfl <;> intro x hx <;> cases hx) d hq k rfl
set_option maxRecDepth 20000 in
theorem kc_X0_109 {ρ : Type} {rv : ρ → Option Value} {G : Gx} {pc q : Nat} {lv st : List Value} {h : Hp} {x0 : Int64} {x1 : Int32} {e : Int32 → Hp → Option (ρ × Hp)} (d : decode G.2.1 pc = .ok (.invokestatic 109, 3)) (ho : G.1.cls = RX0) (hdep : (g_X9_holds).2.2.2.2 < G.2.2.2.2) (hcat : catS st ≤ 8) (hq : pc + 3 = q) (k : ∀ r h1, Sm rv G q lv (.int r :: st) h1 (e r h1)) : Sm rv G pc lv (.int x1 :: .long x0 :: st) h (bd (f_X9_holds x0 x1 h) e) :=
  Sm.callSN (rv' := rvI) (as := [.long x0, .int x1]) (n := 2) (t_X9_holds x0 x1 h) ho mw_830 mw_545 mw_1 mw_546 ⟨⟨by decide, rfl, hdep, Nat.le_of_ble_eq_true rfl⟩, Nat.le_of_ble_eq_true rfl, rfl, ⟨by decide, by decide⟩, hcat⟩ (by decide +kernel) (by intro v hv; simp only [List.mem_cons, List.not_mem_nil, or_false] at hv; rcases hv with rfl | rfl <;> intro x hx <;> cases hx) d hq k rfl
abbrev g_X0_hasAction : Gx := (yX0_hasAction, cX0_hasAction, 3, (Option.some FieldType.boolean), 1)
def f_X0_hasAction (l0 : Nat) (l1 : Int32) (l2 : Int32) (h : Hp) : Option (Int32 × Hp) :=
  (if l1 < 0 then
(some ((0 : Int32), h))
else
(if l1 < (64 : Int32) then
(if (64 : Int32) ≤ l2 then
(ck h l0 0
((gP h l0 1).bind fun v5 =>
(ca h v5 22 l1
(bd (f_X9_holds (gL h v5 l1.toNatClampNeg) (l2 - (64 : Int32)) h) fun v7 h8 =>
(bz v7
(some (v7, h8)))))))
else
(ck h l0 0
((gP h l0 0).bind fun v11 =>
(ca h v11 22 l1
(bd (f_X9_holds (gL h v11 l1.toNatClampNeg) l2 h) fun v13 h14 =>
(bz v13
(some (v13, h14))))))))
else
(some ((0 : Int32), h))))
set_option maxRecDepth 20000 in
theorem t_X0_hasAction (l0 : Nat) (l1 : Int32) (l2 : Int32) (h : Hp) : Sm rvI g_X0_hasAction 0 (ent 3 [.ref l0, .int l1, .int l2]) [] h (f_X0_hasAction l0 l1 l2 h) := by
  show Sm rvI g_X0_hasAction 0 [.ref l0, .int l1, .int l2] [] h _
  unfold f_X0_hasAction
  refine Sm.iload_n dX0_hasAction_0 rfl rfl rfl ?_
  refine Sm.if_lt (t := 10) dX0_hasAction_1 (by decide) rfl (fun b1 => ?_) (fun b1 => ?_)
  · refine Sm.iconst dX0_hasAction_10 ic_0 rfl ?_
    exact Sm.ret dX0_hasAction_11 (Or.inl rfl) rfl
  · refine Sm.iload_n dX0_hasAction_4 rfl rfl rfl ?_
    refine Sm.bipush dX0_hasAction_5 bp_64 rfl ?_
    refine Sm.icmp_lt (t := 12) dX0_hasAction_7 (by decide) rfl (fun b2 => ?_) (fun b2 => ?_)
    · refine Sm.iload_n dX0_hasAction_12 rfl rfl rfl ?_
      refine Sm.bipush dX0_hasAction_13 bp_64 rfl ?_
      refine Sm.icmp_ge (t := 31) dX0_hasAction_15 (by decide) rfl (fun b3 => ?_) (fun b3 => ?_)
      · refine Sm.aload_n dX0_hasAction_31 rfl rfl rfl ?_
        refine Sm.ck (fun o4 => ?_)
        refine gf_X0_15 o4 dX0_hasAction_32 rfl rfl (fun v5 => ?_)
        refine Sm.iload_n dX0_hasAction_35 rfl rfl rfl ?_
        refine Sm.ca (fun q6 => ?_)
        refine Sm.lald q6 dX0_hasAction_36 rfl ?_
        refine Sm.iload_n dX0_hasAction_37 rfl rfl rfl ?_
        refine Sm.bipush dX0_hasAction_38 bp_64 rfl ?_
        refine Sm.isub dX0_hasAction_40 rfl ?_
        refine kc_X0_109 dX0_hasAction_41 rfl (Nat.le_of_ble_eq_true rfl) (Nat.le_of_ble_eq_true rfl) rfl (fun v7 h8 => ?_)
        refine Sm.bz (fun z9 => ?_)
        exact Sm.ret dX0_hasAction_44 z9 rfl
      · refine Sm.aload_n dX0_hasAction_18 rfl rfl rfl ?_
        refine Sm.ck (fun o10 => ?_)
        refine gf_X0_9 o10 dX0_hasAction_19 rfl rfl (fun v11 => ?_)
        refine Sm.iload_n dX0_hasAction_22 rfl rfl rfl ?_
        refine Sm.ca (fun q12 => ?_)
        refine Sm.lald q12 dX0_hasAction_23 rfl ?_
        refine Sm.iload_n dX0_hasAction_24 rfl rfl rfl ?_
        refine kc_X0_109 dX0_hasAction_25 rfl (Nat.le_of_ble_eq_true rfl) (Nat.le_of_ble_eq_true rfl) rfl (fun v13 h14 => ?_)
        refine Sm.goto (t := 44) dX0_hasAction_28 (by decide) ?_
        refine Sm.bz (fun z15 => ?_)
        exact Sm.ret dX0_hasAction_44 z15 rfl
    · refine Sm.iconst dX0_hasAction_10 ic_0 rfl ?_
      exact Sm.ret dX0_hasAction_11 (Or.inl rfl) rfl
set_option maxRecDepth 20000 in
theorem kc_X0_113 {ρ : Type} {rv : ρ → Option Value} {G : Gx} {pc q : Nat} {lv st : List Value} {h : Hp} {a : Nat} {x1 : Int32} {x2 : Int32} {e : Int32 → Hp → Option (ρ × Hp)} (hk : isO h a 0) (d : decode G.2.1 pc = .ok (.invokevirtual 113, 3)) (ho : G.1.cls = RX0) (hdep : (g_X0_hasAction).2.2.2.2 < G.2.2.2.2) (hcat : catS st ≤ 8) (hq : pc + 3 = q) (k : ∀ r h1, Sm rv G q lv (.int r :: st) h1 (e r h1)) : Sm rv G pc lv (.int x2 :: .int x1 :: .ref a :: st) h (bd (f_X0_hasAction a x1 x2 h) e) :=
  Sm.callV (rv' := rvI) (args := [.int x1, .int x2]) (n := 2) (t_X0_hasAction a x1 x2 h) hk (by decide) (r := (RX0, TX0, 10)) rfl rfl ho mw_826 mw_827 mw_828 mw_9 mw_829 ⟨⟨by decide, rfl, hdep, Nat.le_of_ble_eq_true rfl⟩, Nat.le_of_ble_eq_true rfl, rfl, ⟨by decide, by decide⟩, hcat⟩ (by decide +kernel) (by intro v hv; simp only [List.mem_cons, List.not_mem_nil, or_false] at hv; rcases hv with rfl | rfl <;> intro x hx <;> cases hx) d hq k rfl
set_option maxRecDepth 20000 in
theorem kc_X9_235 {ρ : Type} {rv : ρ → Option Value} {G : Gx} {pc q : Nat} {lv st : List Value} {h : Hp} {a : Nat} {x1 : Int32} {x2 : Int32} {e : Int32 → Hp → Option (ρ × Hp)} (hk : isO h a 0) (d : decode G.2.1 pc = .ok (.invokevirtual 235, 3)) (ho : G.1.cls = RX9) (hdep : (g_X0_hasAction).2.2.2.2 < G.2.2.2.2) (hcat : catS st ≤ 8) (hq : pc + 3 = q) (k : ∀ r h1, Sm rv G q lv (.int r :: st) h1 (e r h1)) : Sm rv G pc lv (.int x2 :: .int x1 :: .ref a :: st) h (bd (f_X0_hasAction a x1 x2 h) e) :=
  Sm.callV (rv' := rvI) (args := [.int x1, .int x2]) (n := 2) (t_X0_hasAction a x1 x2 h) hk (by decide) (r := (RX0, TX0, 10)) rfl rfl ho mw_887 mw_827 mw_828 mw_9 mw_829 ⟨⟨by decide, rfl, hdep, Nat.le_of_ble_eq_true rfl⟩, Nat.le_of_ble_eq_true rfl, rfl, ⟨by decide, by decide⟩, hcat⟩ (by decide +kernel) (by intro v hv; simp only [List.mem_cons, List.not_mem_nil, or_false] at hv; rcases hv with rfl | rfl <;> intro x hx <;> cases hx) d hq k rfl
abbrev g_X0_actionTotal : Gx := (yX0_actionTotal, cX0_actionTotal, 2, (Option.some FieldType.int), 1)
def f_X0_actionTotal (l0 : Nat) (l1 : Int32) (h : Hp) : Option (Int32 × Hp) :=
  (if l1 < 0 then
(some ((0 : Int32), h))
else
(if l1 < (64 : Int32) then
(ck h l0 0
((gP h l0 0).bind fun v4 =>
(ca h v4 22 l1
(bd (f_J13_bitCount_95d88 (gL h v4 l1.toNatClampNeg) h) fun v6 h7 =>
(ck h7 l0 0
((gP h7 l0 1).bind fun v9 =>
(ca h7 v9 22 l1
(bd (f_J13_bitCount_95d88 (gL h7 v9 l1.toNatClampNeg) h7) fun v11 h12 =>
(some ((v6 + v11), h12))))))))))
else
(some ((0 : Int32), h))))
set_option maxRecDepth 20000 in
theorem t_X0_actionTotal (l0 : Nat) (l1 : Int32) (h : Hp) : Sm rvI g_X0_actionTotal 0 (ent 2 [.ref l0, .int l1]) [] h (f_X0_actionTotal l0 l1 h) := by
  show Sm rvI g_X0_actionTotal 0 [.ref l0, .int l1] [] h _
  unfold f_X0_actionTotal
  refine Sm.iload_n dX0_actionTotal_0 rfl rfl rfl ?_
  refine Sm.if_lt (t := 10) dX0_actionTotal_1 (by decide) rfl (fun b1 => ?_) (fun b1 => ?_)
  · refine Sm.iconst dX0_actionTotal_10 ic_0 rfl ?_
    exact Sm.ret dX0_actionTotal_11 trivial rfl
  · refine Sm.iload_n dX0_actionTotal_4 rfl rfl rfl ?_
    refine Sm.bipush dX0_actionTotal_5 bp_64 rfl ?_
    refine Sm.icmp_lt (t := 12) dX0_actionTotal_7 (by decide) rfl (fun b2 => ?_) (fun b2 => ?_)
    · refine Sm.aload_n dX0_actionTotal_12 rfl rfl rfl ?_
      refine Sm.ck (fun o3 => ?_)
      refine gf_X0_9 o3 dX0_actionTotal_13 rfl rfl (fun v4 => ?_)
      refine Sm.iload_n dX0_actionTotal_16 rfl rfl rfl ?_
      refine Sm.ca (fun q5 => ?_)
      refine Sm.lald q5 dX0_actionTotal_17 rfl ?_
      refine kc_X0_62 dX0_actionTotal_18 rfl (Nat.le_of_ble_eq_true rfl) (Nat.le_of_ble_eq_true rfl) rfl (fun v6 h7 => ?_)
      refine Sm.aload_n dX0_actionTotal_21 rfl rfl rfl ?_
      refine Sm.ck (fun o8 => ?_)
      refine gf_X0_15 o8 dX0_actionTotal_22 rfl rfl (fun v9 => ?_)
      refine Sm.iload_n dX0_actionTotal_25 rfl rfl rfl ?_
      refine Sm.ca (fun q10 => ?_)
      refine Sm.lald q10 dX0_actionTotal_26 rfl ?_
      refine kc_X0_62 dX0_actionTotal_27 rfl (Nat.le_of_ble_eq_true rfl) (Nat.le_of_ble_eq_true rfl) rfl (fun v11 h12 => ?_)
      refine Sm.iadd dX0_actionTotal_30 rfl ?_
      exact Sm.ret dX0_actionTotal_31 trivial rfl
    · refine Sm.iconst dX0_actionTotal_10 ic_0 rfl ?_
      exact Sm.ret dX0_actionTotal_11 trivial rfl
set_option maxRecDepth 20000 in
theorem kc_X8_32 {ρ : Type} {rv : ρ → Option Value} {G : Gx} {pc q : Nat} {lv st : List Value} {h : Hp} {a : Nat} {x1 : Int32} {e : Int32 → Hp → Option (ρ × Hp)} (hk : isO h a 0) (d : decode G.2.1 pc = .ok (.invokevirtual 32, 3)) (ho : G.1.cls = RX8) (hdep : (g_X0_actionTotal).2.2.2.2 < G.2.2.2.2) (hcat : catS st ≤ 8) (hq : pc + 3 = q) (k : ∀ r h1, Sm rv G q lv (.int r :: st) h1 (e r h1)) : Sm rv G pc lv (.int x1 :: .ref a :: st) h (bd (f_X0_actionTotal a x1 h) e) :=
  Sm.callV (rv' := rvI) (args := [.int x1]) (n := 1) (t_X0_actionTotal a x1 h) hk (by decide) (r := (RX0, TX0, 10)) rfl rfl ho mw_662 mw_663 mw_664 mw_9 mw_665 ⟨⟨by decide, rfl, hdep, Nat.le_of_ble_eq_true rfl⟩, Nat.le_of_ble_eq_true rfl, rfl, ⟨by decide, by decide⟩, hcat⟩ (by decide +kernel) (by intro v hv; simp only [List.mem_cons, List.not_mem_nil, or_false] at hv; rcases hv with rfl <;> intro x hx <;> cases hx) d hq k rfl
set_option maxRecDepth 20000 in
theorem kc_X9_195 {ρ : Type} {rv : ρ → Option Value} {G : Gx} {pc q : Nat} {lv st : List Value} {h : Hp} {a : Nat} {x1 : Int32} {e : Int32 → Hp → Option (ρ × Hp)} (hk : isO h a 0) (d : decode G.2.1 pc = .ok (.invokevirtual 195, 3)) (ho : G.1.cls = RX9) (hdep : (g_X0_actionTotal).2.2.2.2 < G.2.2.2.2) (hcat : catS st ≤ 8) (hq : pc + 3 = q) (k : ∀ r h1, Sm rv G q lv (.int r :: st) h1 (e r h1)) : Sm rv G pc lv (.int x1 :: .ref a :: st) h (bd (f_X0_actionTotal a x1 h) e) :=
  Sm.callV (rv' := rvI) (args := [.int x1]) (n := 1) (t_X0_actionTotal a x1 h) hk (by decide) (r := (RX0, TX0, 10)) rfl rfl ho mw_821 mw_663 mw_664 mw_9 mw_665 ⟨⟨by decide, rfl, hdep, Nat.le_of_ble_eq_true rfl⟩, Nat.le_of_ble_eq_true rfl, rfl, ⟨by decide, by decide⟩, hcat⟩ (by decide +kernel) (by intro v hv; simp only [List.mem_cons, List.not_mem_nil, or_false] at hv; rcases hv with rfl <;> intro x hx <;> cases hx) d hq k rfl
abbrev g_X0_actionAt : Gx := (yX0_actionAt, cX0_actionAt, 5, (Option.some FieldType.int), 2)
def f_X0_actionAt_5 (k5 : (Int32 × Int32 × Hp) → Option (Int32 × Hp)) (l0 : Nat) (l1 : Int32) (l2 : Int32) (l3 : Int32) (l4 : Int32) (h : Hp) : Option (Int32 × Hp) :=
  (if (125 : Int32) ≤ l4 then
(some ((-1 : Int32), h))
else
(ck h l0 0
(bd (f_X0_hasAction l0 l1 l4 h) fun v3 h4 =>
(if v3 = 0 then
(nm (l4 + (1 : Int32)) fun v6 =>
(k5 (l3, v6, h4)))
else
(if l3 = l2 then
(some (l4, h4))
else
(nm (l3 + (1 : Int32)) fun v8 =>
(nm (l4 + (1 : Int32)) fun v9 =>
(k5 (v8, v9, h4)))))))))
set_option maxRecDepth 20000 in
theorem t_X0_actionAt_5 (l0 : Nat) (l1 : Int32) (l2 : Int32) (l3 : Int32) (l4 : Int32) (h : Hp) (k5 : (Int32 × Int32 × Hp) → Option (Int32 × Hp)) (hk5 : ∀ s : Int32 × Int32 × Hp, Sm rvI g_X0_actionAt 5 [.ref l0, .int l1, .int l2, .int s.1, .int s.2.1] [] s.2.2 (k5 s)) : Sm rvI g_X0_actionAt 5 [.ref l0, .int l1, .int l2, .int l3, .int l4] [] h (f_X0_actionAt_5 k5 l0 l1 l2 l3 l4 h) := by
  unfold f_X0_actionAt_5
  refine Sm.iload dX0_actionAt_5 rfl rfl ?_
  refine Sm.bipush dX0_actionAt_7 bp_125 rfl ?_
  refine Sm.icmp_ge (t := 39) dX0_actionAt_9 (by decide) rfl (fun b1 => ?_) (fun b1 => ?_)
  · refine Sm.iconst dX0_actionAt_39 ic_m1 rfl ?_
    exact Sm.ret dX0_actionAt_40 trivial rfl
  · refine Sm.aload_n dX0_actionAt_12 rfl rfl rfl ?_
    refine Sm.iload_n dX0_actionAt_13 rfl rfl rfl ?_
    refine Sm.iload dX0_actionAt_14 rfl rfl ?_
    refine Sm.ck (fun o2 => ?_)
    refine kc_X0_113 o2 dX0_actionAt_16 rfl (Nat.le_of_ble_eq_true rfl) (Nat.le_of_ble_eq_true rfl) rfl (fun v3 h4 => ?_)
    refine Sm.if_eq (t := 33) dX0_actionAt_19 (by decide) rfl (fun b5 => ?_) (fun b5 => ?_)
    · refine Sm.iinc (lv' := [.ref l0, .int l1, .int l2, .int l3, .int (l4 + (1 : Int32))]) dX0_actionAt_33 rfl ic_1 rfl rfl ?_
      refine Sm.nm (LV := fun v6 => [.ref l0, .int l1, .int l2, .int l3, .int v6]) (ST := fun v6 => []) (fun v6 => ?_)
      refine Sm.goto (t := 5) dX0_actionAt_36 (by decide) ?_
      exact Sm.wk (hk5 (l3, v6, h4)) ⟨Or.inr rfl, Or.inr rfl, Or.inr rfl, Or.inr rfl, Or.inr rfl, trivial⟩
    · refine Sm.iload_n dX0_actionAt_22 rfl rfl rfl ?_
      refine Sm.iload_n dX0_actionAt_23 rfl rfl rfl ?_
      refine Sm.icmp_ne (t := 30) dX0_actionAt_24 (by decide) rfl (fun b7 => ?_) (fun b7 => ?_)
      · refine Sm.iload dX0_actionAt_27 rfl rfl ?_
        exact Sm.ret dX0_actionAt_29 trivial rfl
      · refine Sm.iinc (lv' := [.ref l0, .int l1, .int l2, .int (l3 + (1 : Int32)), .int l4]) dX0_actionAt_30 rfl ic_1 rfl rfl ?_
        refine Sm.nm (LV := fun v8 => [.ref l0, .int l1, .int l2, .int v8, .int l4]) (ST := fun v8 => []) (fun v8 => ?_)
        refine Sm.iinc (lv' := [.ref l0, .int l1, .int l2, .int v8, .int (l4 + (1 : Int32))]) dX0_actionAt_33 rfl ic_1 rfl rfl ?_
        refine Sm.nm (LV := fun v9 => [.ref l0, .int l1, .int l2, .int v8, .int v9]) (ST := fun v9 => []) (fun v9 => ?_)
        refine Sm.goto (t := 5) dX0_actionAt_36 (by decide) ?_
        exact Sm.wk (hk5 (v8, v9, h4)) ⟨Or.inr rfl, Or.inr rfl, Or.inr rfl, Or.inr rfl, Or.inr rfl, trivial⟩
def f_X0_actionAt (l0 : Nat) (l1 : Int32) (l2 : Int32) (h : Hp) : Option (Int32 × Hp) :=
  (loopN (fun k s => f_X0_actionAt_5 k l0 l1 l2 s.1 s.2.1 s.2.2) 5000 ((0 : Int32), (0 : Int32), h))
set_option maxRecDepth 20000 in
theorem t_X0_actionAt (l0 : Nat) (l1 : Int32) (l2 : Int32) (h : Hp) : Sm rvI g_X0_actionAt 0 (ent 5 [.ref l0, .int l1, .int l2]) [] h (f_X0_actionAt l0 l1 l2 h) := by
  show Sm rvI g_X0_actionAt 0 [.ref l0, .int l1, .int l2, .null, .null] [] h _
  unfold f_X0_actionAt
  refine Sm.iconst dX0_actionAt_0 ic_0 rfl ?_
  refine Sm.istore_n (lv' := [.ref l0, .int l1, .int l2, .int (0 : Int32), .null]) dX0_actionAt_1 rfl (Nat.le_of_ble_eq_true rfl) rfl rfl ?_
  refine Sm.iconst dX0_actionAt_2 ic_0 rfl ?_
  refine Sm.istore (lv' := [.ref l0, .int l1, .int l2, .int (0 : Int32), .int (0 : Int32)]) dX0_actionAt_3 (Nat.le_of_ble_eq_true rfl) rfl rfl ?_
  exact Sm.wk (Sm.loop (σ := Int32 × Int32 × Hp) (LV := fun s => [.ref l0, .int l1, .int l2, .int s.1, .int s.2.1]) (HH := fun s => s.2.2) (fun k hk s => t_X0_actionAt_5 l0 l1 l2 s.1 s.2.1 s.2.2 k hk) 5000 ((0 : Int32), (0 : Int32), h)) ⟨Or.inr rfl, Or.inr rfl, Or.inr rfl, Or.inr rfl, Or.inr rfl, trivial⟩
set_option maxRecDepth 20000 in
theorem kc_X9_198 {ρ : Type} {rv : ρ → Option Value} {G : Gx} {pc q : Nat} {lv st : List Value} {h : Hp} {a : Nat} {x1 : Int32} {x2 : Int32} {e : Int32 → Hp → Option (ρ × Hp)} (hk : isO h a 0) (d : decode G.2.1 pc = .ok (.invokevirtual 198, 3)) (ho : G.1.cls = RX9) (hdep : (g_X0_actionAt).2.2.2.2 < G.2.2.2.2) (hcat : catS st ≤ 8) (hq : pc + 3 = q) (k : ∀ r h1, Sm rv G q lv (.int r :: st) h1 (e r h1)) : Sm rv G pc lv (.int x2 :: .int x1 :: .ref a :: st) h (bd (f_X0_actionAt a x1 x2 h) e) :=
  Sm.callV (rv' := rvI) (args := [.int x1, .int x2]) (n := 2) (t_X0_actionAt a x1 x2 h) hk (by decide) (r := (RX0, TX0, 10)) rfl rfl ho mw_822 mw_823 mw_824 mw_9 mw_825 ⟨⟨by decide, rfl, hdep, Nat.le_of_ble_eq_true rfl⟩, Nat.le_of_ble_eq_true rfl, rfl, ⟨by decide, by decide⟩, hcat⟩ (by decide +kernel) (by intro v hv; simp only [List.mem_cons, List.not_mem_nil, or_false] at hv; rcases hv with rfl | rfl <;> intro x hx <;> cases hx) d hq k rfl
abbrev g_X1_init : Gx := (yX1_init, cX1_init, 1, (Option.none : Option FieldType), 1)
def f_X1_init (l0 : Nat) (h : Hp) : Option (Unit × Hp) :=
  (nm (nwc h 22 3840 3840) fun h1 =>
(ck h1 l0 1
(some ((), (sP h1 l0 0 (some (gN h + 1)))))))
set_option maxRecDepth 20000 in
theorem t_X1_init (l0 : Nat) (h : Hp) : Sm rvV g_X1_init 0 (ent 1 [.ref l0]) [] h (f_X1_init l0 h) := by
  show Sm rvV g_X1_init 0 [.ref l0] [] h _
  unfold f_X1_init
  refine Sm.aload_n dX1_init_0 rfl rfl rfl ?_
  refine Sm.objInit dX1_init_1 rfl mw_106 mw_20 mw_21 (Nat.le_of_ble_eq_true rfl) (Nat.le_of_ble_eq_true rfl) rfl ?_
  refine Sm.aload_n dX1_init_4 rfl rfl rfl ?_
  refine Sm.sipush dX1_init_5 sp_3840 rfl ?_
  refine Sm.newL (by decide) (by decide) dX1_init_8 mw_111 rfl ?_
  refine Sm.nmH (fun h1 e2 e3 => ?_)
  refine Sm.ck (fun o4 => ?_)
  refine pf_X1_9 o4 dX1_init_10 rfl rfl rfl ?_
  exact Sm.ret (r := ()) dX1_init_13 trivial rfl
set_option maxRecDepth 20000 in
theorem kc_X9_42 {ρ : Type} {rv : ρ → Option Value} {G : Gx} {pc q : Nat} {lv st : List Value} {h : Hp} {a : Nat} {e : Unit → Hp → Option (ρ × Hp)} (d : decode G.2.1 pc = .ok (.invokespecial 42, 3)) (ho : G.1.cls = RX9) (hdep : (g_X1_init).2.2.2.2 < G.2.2.2.2) (hcat : catS st ≤ 8) (hq : pc + 3 = q) (k : ∀ r h1, Sm rv G q lv (st) h1 (e r h1)) : Sm rv G pc lv (.ref a :: st) h (bd (f_X1_init a h) e) :=
  Sm.callIN (rv' := rvV) (args := []) (n := 0) (t_X1_init a h) ho rfl rfl mw_103 mw_104 mw_5 mw_105 ⟨⟨by decide, rfl, hdep, Nat.le_of_ble_eq_true rfl⟩, Nat.le_of_ble_eq_true rfl, rfl, ⟨by decide, by decide⟩, hcat⟩ (by decide +kernel) (fun v hv => by cases hv) d hq k rfl
abbrev g_X4_nodeCount : Gx := (yX4_nodeCount, cX4_nodeCount, 1, (Option.some FieldType.int), 0)
def f_X4_nodeCount (l0 : Nat) (h : Hp) : Option (Int32 × Hp) :=
  (ck h l0 4
(some ((gI h l0 2), h)))
set_option maxRecDepth 20000 in
theorem t_X4_nodeCount (l0 : Nat) (h : Hp) : Sm rvI g_X4_nodeCount 0 (ent 1 [.ref l0]) [] h (f_X4_nodeCount l0 h) := by
  show Sm rvI g_X4_nodeCount 0 [.ref l0] [] h _
  unfold f_X4_nodeCount
  refine Sm.aload_n dX4_nodeCount_0 rfl rfl rfl ?_
  refine Sm.ck (fun o1 => ?_)
  refine gf_X4_18 o1 dX4_nodeCount_1 rfl rfl ?_
  exact Sm.ret dX4_nodeCount_4 trivial rfl
set_option maxRecDepth 20000 in
theorem kc_X9_100 {ρ : Type} {rv : ρ → Option Value} {G : Gx} {pc q : Nat} {lv st : List Value} {h : Hp} {a : Nat} {e : Int32 → Hp → Option (ρ × Hp)} (hk : isO h a 4) (d : decode G.2.1 pc = .ok (.invokevirtual 100, 3)) (ho : G.1.cls = RX9) (hdep : (g_X4_nodeCount).2.2.2.2 < G.2.2.2.2) (hcat : catS st ≤ 8) (hq : pc + 3 = q) (k : ∀ r h1, Sm rv G q lv (.int r :: st) h1 (e r h1)) : Sm rv G pc lv (.ref a :: st) h (bd (f_X4_nodeCount a h) e) :=
  Sm.callV (rv' := rvI) (args := []) (n := 0) (t_X4_nodeCount a h) hk (by decide) (r := (RX4, TX4, 4)) rfl rfl ho mw_378 mw_379 mw_380 mw_3 mw_381 ⟨⟨by decide, rfl, hdep, Nat.le_of_ble_eq_true rfl⟩, Nat.le_of_ble_eq_true rfl, rfl, ⟨by decide, by decide⟩, hcat⟩ (by decide +kernel) (fun v hv => by cases hv) d hq k rfl
set_option maxRecDepth 20000 in
theorem kc_X5_29 {ρ : Type} {rv : ρ → Option Value} {G : Gx} {pc q : Nat} {lv st : List Value} {h : Hp} {a : Nat} {e : Int32 → Hp → Option (ρ × Hp)} (hk : isO h a 4) (d : decode G.2.1 pc = .ok (.invokevirtual 29, 3)) (ho : G.1.cls = RX5) (hdep : (g_X4_nodeCount).2.2.2.2 < G.2.2.2.2) (hcat : catS st ≤ 8) (hq : pc + 3 = q) (k : ∀ r h1, Sm rv G q lv (.int r :: st) h1 (e r h1)) : Sm rv G pc lv (.ref a :: st) h (bd (f_X4_nodeCount a h) e) :=
  Sm.callV (rv' := rvI) (args := []) (n := 0) (t_X4_nodeCount a h) hk (by decide) (r := (RX4, TX4, 4)) rfl rfl ho mw_438 mw_379 mw_380 mw_3 mw_381 ⟨⟨by decide, rfl, hdep, Nat.le_of_ble_eq_true rfl⟩, Nat.le_of_ble_eq_true rfl, rfl, ⟨by decide, by decide⟩, hcat⟩ (by decide +kernel) (fun v hv => by cases hv) d hq k rfl
set_option maxRecDepth 20000 in
theorem kc_X1_15 {ρ : Type} {rv : ρ → Option Value} {G : Gx} {pc q : Nat} {lv st : List Value} {h : Hp} {a : Nat} {e : Int32 → Hp → Option (ρ × Hp)} (hk : isO h a 4) (d : decode G.2.1 pc = .ok (.invokevirtual 15, 3)) (ho : G.1.cls = RX1) (hdep : (g_X4_nodeCount).2.2.2.2 < G.2.2.2.2) (hcat : catS st ≤ 8) (hq : pc + 3 = q) (k : ∀ r h1, Sm rv G q lv (.int r :: st) h1 (e r h1)) : Sm rv G pc lv (.ref a :: st) h (bd (f_X4_nodeCount a h) e) :=
  Sm.callV (rv' := rvI) (args := []) (n := 0) (t_X4_nodeCount a h) hk (by decide) (r := (RX4, TX4, 4)) rfl rfl ho mw_502 mw_379 mw_380 mw_3 mw_381 ⟨⟨by decide, rfl, hdep, Nat.le_of_ble_eq_true rfl⟩, Nat.le_of_ble_eq_true rfl, rfl, ⟨by decide, by decide⟩, hcat⟩ (by decide +kernel) (fun v hv => by cases hv) d hq k rfl
abbrev g_X4_operandAt : Gx := (yX4_operandAt, cX4_operandAt, 5, (Option.some FieldType.int), 0)
def f_X4_operandAt_38 (l3 : Int32) (h : Hp) : Option (Int32 × Hp) :=
  (if l3 < 0 then
(some ((0 : Int32), h))
else
(if (60 : Int32) ≤ l3 then
(some ((0 : Int32), h))
else
(some (l3, h))))
set_option maxRecDepth 20000 in
theorem t_X4_operandAt_38 (l3 : Int32) (h : Hp) : Sm rvI g_X4_operandAt 38 [.null, .null, .null, .int l3, .null] [] h (f_X4_operandAt_38 l3 h) := by
  unfold f_X4_operandAt_38
  refine Sm.iload_n dX4_operandAt_38 rfl rfl rfl ?_
  refine Sm.if_lt (t := 52) dX4_operandAt_39 (by decide) rfl (fun b3 => ?_) (fun b3 => ?_)
  · refine Sm.iconst dX4_operandAt_52 ic_0 rfl ?_
    exact Sm.ret dX4_operandAt_53 trivial rfl
  · refine Sm.iload_n dX4_operandAt_42 rfl rfl rfl ?_
    refine Sm.bipush dX4_operandAt_43 bp_60 rfl ?_
    refine Sm.icmp_ge (t := 52) dX4_operandAt_45 (by decide) rfl (fun b4 => ?_) (fun b4 => ?_)
    · refine Sm.iconst dX4_operandAt_52 ic_0 rfl ?_
      exact Sm.ret dX4_operandAt_53 trivial rfl
    · refine Sm.iload_n dX4_operandAt_48 rfl rfl rfl ?_
      refine Sm.goto (t := 53) dX4_operandAt_49 (by decide) ?_
      exact Sm.ret dX4_operandAt_53 trivial rfl
def f_X4_operandAt_7 (k7 : (Int32 × Int32) → Option (Int32 × Hp)) (l0 : Nat) (l2 : Int32) (l3 : Int32) (l4 : Int32) (h : Hp) : Option (Int32 × Hp) :=
  (if l2 ≤ l4 then
(f_X4_operandAt_38 l3 h)
else
(if l3 < 0 then
(f_X4_operandAt_38 l3 h)
else
(if (60 : Int32) ≤ l3 then
(f_X4_operandAt_38 l3 h)
else
(ck h l0 4
((gP h l0 1).bind fun v8 =>
(ca h v8 20 l3
(nm ((gI h v8 l3.toNatClampNeg) - (1 : Int32)) fun v10 =>
(nm (l4 + (1 : Int32)) fun v11 =>
(k7 (v10, v11))))))))))
set_option maxRecDepth 20000 in
theorem t_X4_operandAt_7 (l0 : Nat) (l2 : Int32) (l3 : Int32) (l4 : Int32) (h : Hp) (k7 : (Int32 × Int32) → Option (Int32 × Hp)) (hk7 : ∀ s : Int32 × Int32, Sm rvI g_X4_operandAt 7 [.ref l0, .null, .int l2, .int s.1, .int s.2] [] h (k7 s)) : Sm rvI g_X4_operandAt 7 [.ref l0, .null, .int l2, .int l3, .int l4] [] h (f_X4_operandAt_7 k7 l0 l2 l3 l4 h) := by
  unfold f_X4_operandAt_7
  refine Sm.iload dX4_operandAt_7 rfl rfl ?_
  refine Sm.iload_n dX4_operandAt_9 rfl rfl rfl ?_
  refine Sm.icmp_ge (t := 38) dX4_operandAt_10 (by decide) rfl (fun b2 => ?_) (fun b2 => ?_)
  · exact Sm.wk (t_X4_operandAt_38 l3 h) ⟨Or.inl rfl, Or.inl rfl, Or.inl rfl, Or.inr rfl, Or.inl rfl, trivial⟩
  · refine Sm.iload_n dX4_operandAt_13 rfl rfl rfl ?_
    refine Sm.if_lt (t := 38) dX4_operandAt_14 (by decide) rfl (fun b5 => ?_) (fun b5 => ?_)
    · exact Sm.wk (t_X4_operandAt_38 l3 h) ⟨Or.inl rfl, Or.inl rfl, Or.inl rfl, Or.inr rfl, Or.inl rfl, trivial⟩
    · refine Sm.iload_n dX4_operandAt_17 rfl rfl rfl ?_
      refine Sm.bipush dX4_operandAt_18 bp_60 rfl ?_
      refine Sm.icmp_ge (t := 38) dX4_operandAt_20 (by decide) rfl (fun b6 => ?_) (fun b6 => ?_)
      · exact Sm.wk (t_X4_operandAt_38 l3 h) ⟨Or.inl rfl, Or.inl rfl, Or.inl rfl, Or.inr rfl, Or.inl rfl, trivial⟩
      · refine Sm.aload_n dX4_operandAt_23 rfl rfl rfl ?_
        refine Sm.ck (fun o7 => ?_)
        refine gf_X4_15 o7 dX4_operandAt_24 rfl rfl (fun v8 => ?_)
        refine Sm.iload_n dX4_operandAt_27 rfl rfl rfl ?_
        refine Sm.ca (fun q9 => ?_)
        refine Sm.iald q9 dX4_operandAt_28 rfl ?_
        refine Sm.iconst dX4_operandAt_29 ic_1 rfl ?_
        refine Sm.isub dX4_operandAt_30 rfl ?_
        refine Sm.nm (LV := fun v10 => [.ref l0, .null, .int l2, .int l3, .int l4]) (ST := fun v10 => [.int v10]) (fun v10 => ?_)
        refine Sm.istore_n (lv' := [.ref l0, .null, .int l2, .int v10, .int l4]) dX4_operandAt_31 rfl (Nat.le_of_ble_eq_true rfl) rfl rfl ?_
        refine Sm.iinc (lv' := [.ref l0, .null, .int l2, .int v10, .int (l4 + (1 : Int32))]) dX4_operandAt_32 rfl ic_1 rfl rfl ?_
        refine Sm.nm (LV := fun v11 => [.ref l0, .null, .int l2, .int v10, .int v11]) (ST := fun v11 => []) (fun v11 => ?_)
        refine Sm.goto (t := 7) dX4_operandAt_35 (by decide) ?_
        exact Sm.wk (hk7 (v10, v11)) ⟨Or.inr rfl, Or.inl rfl, Or.inr rfl, Or.inr rfl, Or.inr rfl, trivial⟩
def f_X4_operandAt (l0 : Nat) (l1 : Int32) (l2 : Int32) (h : Hp) : Option (Int32 × Hp) :=
  (nm (l1 - (1 : Int32)) fun v1 =>
(loopN (fun k s => f_X4_operandAt_7 k l0 l2 s.1 s.2 h) 5000 (v1, (0 : Int32))))
set_option maxRecDepth 20000 in
theorem t_X4_operandAt (l0 : Nat) (l1 : Int32) (l2 : Int32) (h : Hp) : Sm rvI g_X4_operandAt 0 (ent 5 [.ref l0, .int l1, .int l2]) [] h (f_X4_operandAt l0 l1 l2 h) := by
  show Sm rvI g_X4_operandAt 0 [.ref l0, .int l1, .int l2, .null, .null] [] h _
  unfold f_X4_operandAt
  refine Sm.iload_n dX4_operandAt_0 rfl rfl rfl ?_
  refine Sm.iconst dX4_operandAt_1 ic_1 rfl ?_
  refine Sm.isub dX4_operandAt_2 rfl ?_
  refine Sm.nm (LV := fun v1 => [.ref l0, .int l1, .int l2, .null, .null]) (ST := fun v1 => [.int v1]) (fun v1 => ?_)
  refine Sm.istore_n (lv' := [.ref l0, .int l1, .int l2, .int v1, .null]) dX4_operandAt_3 rfl (Nat.le_of_ble_eq_true rfl) rfl rfl ?_
  refine Sm.iconst dX4_operandAt_4 ic_0 rfl ?_
  refine Sm.istore (lv' := [.ref l0, .int l1, .int l2, .int v1, .int (0 : Int32)]) dX4_operandAt_5 (Nat.le_of_ble_eq_true rfl) rfl rfl ?_
  exact Sm.wk (Sm.loop (σ := Int32 × Int32) (LV := fun s => [.ref l0, .null, .int l2, .int s.1, .int s.2]) (HH := fun s => h) (fun k hk s => t_X4_operandAt_7 l0 l2 s.1 s.2 h k hk) 5000 (v1, (0 : Int32))) ⟨Or.inr rfl, Or.inl rfl, Or.inr rfl, Or.inr rfl, Or.inr rfl, trivial⟩
set_option maxRecDepth 20000 in
theorem kc_X5_53 {ρ : Type} {rv : ρ → Option Value} {G : Gx} {pc q : Nat} {lv st : List Value} {h : Hp} {a : Nat} {x1 : Int32} {x2 : Int32} {e : Int32 → Hp → Option (ρ × Hp)} (hk : isO h a 4) (d : decode G.2.1 pc = .ok (.invokevirtual 53, 3)) (ho : G.1.cls = RX5) (hdep : (g_X4_operandAt).2.2.2.2 < G.2.2.2.2) (hcat : catS st ≤ 8) (hq : pc + 3 = q) (k : ∀ r h1, Sm rv G q lv (.int r :: st) h1 (e r h1)) : Sm rv G pc lv (.int x2 :: .int x1 :: .ref a :: st) h (bd (f_X4_operandAt a x1 x2 h) e) :=
  Sm.callV (rv' := rvI) (args := [.int x1, .int x2]) (n := 2) (t_X4_operandAt a x1 x2 h) hk (by decide) (r := (RX4, TX4, 4)) rfl rfl ho mw_455 mw_456 mw_457 mw_3 mw_458 ⟨⟨by decide, rfl, hdep, Nat.le_of_ble_eq_true rfl⟩, Nat.le_of_ble_eq_true rfl, rfl, ⟨by decide, by decide⟩, hcat⟩ (by decide +kernel) (by intro v hv; simp only [List.mem_cons, List.not_mem_nil, or_false] at hv; rcases hv with rfl | rfl <;> intro x hx <;> cases hx) d hq k rfl
set_option maxRecDepth 20000 in
theorem kc_X1_35 {ρ : Type} {rv : ρ → Option Value} {G : Gx} {pc q : Nat} {lv st : List Value} {h : Hp} {a : Nat} {x1 : Int32} {x2 : Int32} {e : Int32 → Hp → Option (ρ × Hp)} (hk : isO h a 4) (d : decode G.2.1 pc = .ok (.invokevirtual 35, 3)) (ho : G.1.cls = RX1) (hdep : (g_X4_operandAt).2.2.2.2 < G.2.2.2.2) (hcat : catS st ≤ 8) (hq : pc + 3 = q) (k : ∀ r h1, Sm rv G q lv (.int r :: st) h1 (e r h1)) : Sm rv G pc lv (.int x2 :: .int x1 :: .ref a :: st) h (bd (f_X4_operandAt a x1 x2 h) e) :=
  Sm.callV (rv' := rvI) (args := [.int x1, .int x2]) (n := 2) (t_X4_operandAt a x1 x2 h) hk (by decide) (r := (RX4, TX4, 4)) rfl rfl ho mw_507 mw_456 mw_457 mw_3 mw_458 ⟨⟨by decide, rfl, hdep, Nat.le_of_ble_eq_true rfl⟩, Nat.le_of_ble_eq_true rfl, rfl, ⟨by decide, by decide⟩, hcat⟩ (by decide +kernel) (by intro v hv; simp only [List.mem_cons, List.not_mem_nil, or_false] at hv; rcases hv with rfl | rfl <;> intro x hx <;> cases hx) d hq k rfl
abbrev g_X4_nodeAt : Gx := (yX4_nodeAt, cX4_nodeAt, 2, (Option.some FieldType.int), 0)
def f_X4_nodeAt (l0 : Nat) (l1 : Int32) (h : Hp) : Option (Int32 × Hp) :=
  (if l1 < 0 then
(some ((0 : Int32), h))
else
(if (60 : Int32) ≤ l1 then
(some ((0 : Int32), h))
else
(ck h l0 4
((gP h l0 0).bind fun v4 =>
(ca h v4 20 l1
(some ((gI h v4 l1.toNatClampNeg), h)))))))
set_option maxRecDepth 20000 in
theorem t_X4_nodeAt (l0 : Nat) (l1 : Int32) (h : Hp) : Sm rvI g_X4_nodeAt 0 (ent 2 [.ref l0, .int l1]) [] h (f_X4_nodeAt l0 l1 h) := by
  show Sm rvI g_X4_nodeAt 0 [.ref l0, .int l1] [] h _
  unfold f_X4_nodeAt
  refine Sm.iload_n dX4_nodeAt_0 rfl rfl rfl ?_
  refine Sm.if_lt (t := 19) dX4_nodeAt_1 (by decide) rfl (fun b1 => ?_) (fun b1 => ?_)
  · refine Sm.iconst dX4_nodeAt_19 ic_0 rfl ?_
    exact Sm.ret dX4_nodeAt_20 trivial rfl
  · refine Sm.iload_n dX4_nodeAt_4 rfl rfl rfl ?_
    refine Sm.bipush dX4_nodeAt_5 bp_60 rfl ?_
    refine Sm.icmp_ge (t := 19) dX4_nodeAt_7 (by decide) rfl (fun b2 => ?_) (fun b2 => ?_)
    · refine Sm.iconst dX4_nodeAt_19 ic_0 rfl ?_
      exact Sm.ret dX4_nodeAt_20 trivial rfl
    · refine Sm.aload_n dX4_nodeAt_10 rfl rfl rfl ?_
      refine Sm.ck (fun o3 => ?_)
      refine gf_X4_9 o3 dX4_nodeAt_11 rfl rfl (fun v4 => ?_)
      refine Sm.iload_n dX4_nodeAt_14 rfl rfl rfl ?_
      refine Sm.ca (fun q5 => ?_)
      refine Sm.iald q5 dX4_nodeAt_15 rfl ?_
      refine Sm.goto (t := 20) dX4_nodeAt_16 (by decide) ?_
      exact Sm.ret dX4_nodeAt_20 trivial rfl
set_option maxRecDepth 20000 in
theorem kc_X4_30 {ρ : Type} {rv : ρ → Option Value} {G : Gx} {pc q : Nat} {lv st : List Value} {h : Hp} {a : Nat} {x1 : Int32} {e : Int32 → Hp → Option (ρ × Hp)} (hk : isO h a 4) (d : decode G.2.1 pc = .ok (.invokevirtual 30, 3)) (ho : G.1.cls = RX4) (hdep : (g_X4_nodeAt).2.2.2.2 < G.2.2.2.2) (hcat : catS st ≤ 8) (hq : pc + 3 = q) (k : ∀ r h1, Sm rv G q lv (.int r :: st) h1 (e r h1)) : Sm rv G pc lv (.int x1 :: .ref a :: st) h (bd (f_X4_nodeAt a x1 h) e) :=
  Sm.callV (rv' := rvI) (args := [.int x1]) (n := 1) (t_X4_nodeAt a x1 h) hk (by decide) (r := (RX4, TX4, 4)) rfl rfl ho mw_447 mw_449 mp_21 mw_3 mw_450 ⟨⟨by decide, rfl, hdep, Nat.le_of_ble_eq_true rfl⟩, Nat.le_of_ble_eq_true rfl, rfl, ⟨by decide, by decide⟩, hcat⟩ (by decide +kernel) (by intro v hv; simp only [List.mem_cons, List.not_mem_nil, or_false] at hv; rcases hv with rfl <;> intro x hx <;> cases hx) d hq k rfl
abbrev g_X4_kindAt : Gx := (yX4_kindAt, cX4_kindAt, 2, (Option.some FieldType.int), 1)
def f_X4_kindAt (l0 : Nat) (l1 : Int32) (h : Hp) : Option (Int32 × Hp) :=
  (ck h l0 4
(bd (f_X4_nodeAt l0 l1 h) fun v2 h3 =>
(some ((v2 >>> ((4 : Int32) &&& 31)), h3))))
set_option maxRecDepth 20000 in
theorem t_X4_kindAt (l0 : Nat) (l1 : Int32) (h : Hp) : Sm rvI g_X4_kindAt 0 (ent 2 [.ref l0, .int l1]) [] h (f_X4_kindAt l0 l1 h) := by
  show Sm rvI g_X4_kindAt 0 [.ref l0, .int l1] [] h _
  unfold f_X4_kindAt
  refine Sm.aload_n dX4_kindAt_0 rfl rfl rfl ?_
  refine Sm.iload_n dX4_kindAt_1 rfl rfl rfl ?_
  refine Sm.ck (fun o1 => ?_)
  refine kc_X4_30 o1 dX4_kindAt_2 rfl (Nat.le_of_ble_eq_true rfl) (Nat.le_of_ble_eq_true rfl) rfl (fun v2 h3 => ?_)
  refine Sm.iconst dX4_kindAt_5 ic_4 rfl ?_
  refine Sm.ishr dX4_kindAt_6 rfl ?_
  exact Sm.ret dX4_kindAt_7 trivial rfl
set_option maxRecDepth 20000 in
theorem kc_X5_43 {ρ : Type} {rv : ρ → Option Value} {G : Gx} {pc q : Nat} {lv st : List Value} {h : Hp} {a : Nat} {x1 : Int32} {e : Int32 → Hp → Option (ρ × Hp)} (hk : isO h a 4) (d : decode G.2.1 pc = .ok (.invokevirtual 43, 3)) (ho : G.1.cls = RX5) (hdep : (g_X4_kindAt).2.2.2.2 < G.2.2.2.2) (hcat : catS st ≤ 8) (hq : pc + 3 = q) (k : ∀ r h1, Sm rv G q lv (.int r :: st) h1 (e r h1)) : Sm rv G pc lv (.int x1 :: .ref a :: st) h (bd (f_X4_kindAt a x1 h) e) :=
  Sm.callV (rv' := rvI) (args := [.int x1]) (n := 1) (t_X4_kindAt a x1 h) hk (by decide) (r := (RX4, TX4, 4)) rfl rfl ho mw_443 mw_444 mw_445 mw_3 mw_446 ⟨⟨by decide, rfl, hdep, Nat.le_of_ble_eq_true rfl⟩, Nat.le_of_ble_eq_true rfl, rfl, ⟨by decide, by decide⟩, hcat⟩ (by decide +kernel) (by intro v hv; simp only [List.mem_cons, List.not_mem_nil, or_false] at hv; rcases hv with rfl <;> intro x hx <;> cases hx) d hq k rfl
set_option maxRecDepth 20000 in
theorem kc_X1_39 {ρ : Type} {rv : ρ → Option Value} {G : Gx} {pc q : Nat} {lv st : List Value} {h : Hp} {a : Nat} {x1 : Int32} {e : Int32 → Hp → Option (ρ × Hp)} (hk : isO h a 4) (d : decode G.2.1 pc = .ok (.invokevirtual 39, 3)) (ho : G.1.cls = RX1) (hdep : (g_X4_kindAt).2.2.2.2 < G.2.2.2.2) (hcat : catS st ≤ 8) (hq : pc + 3 = q) (k : ∀ r h1, Sm rv G q lv (.int r :: st) h1 (e r h1)) : Sm rv G pc lv (.int x1 :: .ref a :: st) h (bd (f_X4_kindAt a x1 h) e) :=
  Sm.callV (rv' := rvI) (args := [.int x1]) (n := 1) (t_X4_kindAt a x1 h) hk (by decide) (r := (RX4, TX4, 4)) rfl rfl ho mw_508 mw_444 mw_445 mw_3 mw_446 ⟨⟨by decide, rfl, hdep, Nat.le_of_ble_eq_true rfl⟩, Nat.le_of_ble_eq_true rfl, rfl, ⟨by decide, by decide⟩, hcat⟩ (by decide +kernel) (by intro v hv; simp only [List.mem_cons, List.not_mem_nil, or_false] at hv; rcases hv with rfl <;> intro x hx <;> cases hx) d hq k rfl
abbrev g_X1_imageOf : Gx := (yX1_imageOf, cX1_imageOf, 4, (Option.some FieldType.long), 0)
def f_X1_imageOf (l0 : Nat) (l1 : Int32) (l2 : Int32) (h : Hp) : Option (Int64 × Hp) :=
  (nm ((l1 * (64 : Int32)) + l2) fun v1 =>
(if v1 < 0 then
(some ((0 : Int64), h))
else
(ck h l0 1
((gP h l0 0).bind fun v4 =>
(ck h v4 22
(if (Int32.ofNat (gS h v4).2) ≤ v1 then
(some ((0 : Int64), h))
else
((gP h l0 0).bind fun v7 =>
(ca h v7 22 v1
(some ((gL h v7 v1.toNatClampNeg), h))))))))))
set_option maxRecDepth 20000 in
theorem t_X1_imageOf (l0 : Nat) (l1 : Int32) (l2 : Int32) (h : Hp) : Sm rvJ g_X1_imageOf 0 (ent 4 [.ref l0, .int l1, .int l2]) [] h (f_X1_imageOf l0 l1 l2 h) := by
  show Sm rvJ g_X1_imageOf 0 [.ref l0, .int l1, .int l2, .null] [] h _
  unfold f_X1_imageOf
  refine Sm.iload_n dX1_imageOf_0 rfl rfl rfl ?_
  refine Sm.bipush dX1_imageOf_1 bp_64 rfl ?_
  refine Sm.imul dX1_imageOf_3 rfl ?_
  refine Sm.iload_n dX1_imageOf_4 rfl rfl rfl ?_
  refine Sm.iadd dX1_imageOf_5 rfl ?_
  refine Sm.nm (LV := fun v1 => [.ref l0, .int l1, .int l2, .null]) (ST := fun v1 => [.int v1]) (fun v1 => ?_)
  refine Sm.istore_n (lv' := [.ref l0, .int l1, .int l2, .int v1]) dX1_imageOf_6 rfl (Nat.le_of_ble_eq_true rfl) rfl rfl ?_
  refine Sm.iload_n dX1_imageOf_7 rfl rfl rfl ?_
  refine Sm.if_lt (t := 29) dX1_imageOf_8 (by decide) rfl (fun b2 => ?_) (fun b2 => ?_)
  · refine Sm.lconst (v := (0 : Int64)) dX1_imageOf_29 (by decide) rfl ?_
    exact Sm.ret dX1_imageOf_30 trivial rfl
  · refine Sm.iload_n dX1_imageOf_11 rfl rfl rfl ?_
    refine Sm.aload_n dX1_imageOf_12 rfl rfl rfl ?_
    refine Sm.ck (fun o3 => ?_)
    refine gf_X1_9 o3 dX1_imageOf_13 rfl rfl (fun v4 => ?_)
    refine Sm.ck (fun o5 => ?_)
    refine Sm.alen o5 (by decide) dX1_imageOf_16 rfl ?_
    refine Sm.icmp_ge (t := 29) dX1_imageOf_17 (by decide) rfl (fun b6 => ?_) (fun b6 => ?_)
    · refine Sm.lconst (v := (0 : Int64)) dX1_imageOf_29 (by decide) rfl ?_
      exact Sm.ret dX1_imageOf_30 trivial rfl
    · refine Sm.aload_n dX1_imageOf_20 rfl rfl rfl ?_
      refine gf_X1_9 o3 dX1_imageOf_21 rfl rfl (fun v7 => ?_)
      refine Sm.iload_n dX1_imageOf_24 rfl rfl rfl ?_
      refine Sm.ca (fun q8 => ?_)
      refine Sm.lald q8 dX1_imageOf_25 rfl ?_
      refine Sm.goto (t := 30) dX1_imageOf_26 (by decide) ?_
      exact Sm.ret dX1_imageOf_30 trivial rfl
set_option maxRecDepth 20000 in
theorem kc_X1_25 {ρ : Type} {rv : ρ → Option Value} {G : Gx} {pc q : Nat} {lv st : List Value} {h : Hp} {a : Nat} {x1 : Int32} {x2 : Int32} {e : Int64 → Hp → Option (ρ × Hp)} (hk : isO h a 1) (d : decode G.2.1 pc = .ok (.invokevirtual 25, 3)) (ho : G.1.cls = RX1) (hdep : (g_X1_imageOf).2.2.2.2 < G.2.2.2.2) (hcat : catS st ≤ 8) (hq : pc + 3 = q) (k : ∀ r h1, Sm rv G q lv (.long r :: st) h1 (e r h1)) : Sm rv G pc lv (.int x2 :: .int x1 :: .ref a :: st) h (bd (f_X1_imageOf a x1 x2 h) e) :=
  Sm.callV (rv' := rvJ) (args := [.int x1, .int x2]) (n := 2) (t_X1_imageOf a x1 x2 h) hk (by decide) (r := (RX1, TX1, 1)) rfl rfl ho mw_513 mw_515 mp_31 mw_5 mw_516 ⟨⟨by decide, rfl, hdep, Nat.le_of_ble_eq_true rfl⟩, Nat.le_of_ble_eq_true rfl, rfl, ⟨by decide, by decide⟩, hcat⟩ (by decide +kernel) (by intro v hv; simp only [List.mem_cons, List.not_mem_nil, or_false] at hv; rcases hv with rfl | rfl <;> intro x hx <;> cases hx) d hq k rfl
abbrev g_X1_assign : Gx := (yX1_assign, cX1_assign, 6, (Option.none : Option FieldType), 0)
def f_X1_assign (l0 : Nat) (l1 : Int32) (l2 : Int32) (l3 : Int64) (h : Hp) : Option (Unit × Hp) :=
  (nm ((l1 * (64 : Int32)) + l2) fun v1 =>
(if v1 < 0 then
(some ((), h))
else
(ck h l0 1
((gP h l0 0).bind fun v4 =>
(ck h v4 22
(if (Int32.ofNat (gS h v4).2) ≤ v1 then
(some ((), h))
else
((gP h l0 0).bind fun v7 =>
(ca h v7 22 v1
(some ((), (sL h v7 v1.toNatClampNeg l3)))))))))))
set_option maxRecDepth 20000 in
theorem t_X1_assign (l0 : Nat) (l1 : Int32) (l2 : Int32) (l3 : Int64) (h : Hp) : Sm rvV g_X1_assign 0 (ent 6 [.ref l0, .int l1, .int l2, .long l3]) [] h (f_X1_assign l0 l1 l2 l3 h) := by
  show Sm rvV g_X1_assign 0 [.ref l0, .int l1, .int l2, .long l3, .null, .null] [] h _
  unfold f_X1_assign
  refine Sm.iload_n dX1_assign_0 rfl rfl rfl ?_
  refine Sm.bipush dX1_assign_1 bp_64 rfl ?_
  refine Sm.imul dX1_assign_3 rfl ?_
  refine Sm.iload_n dX1_assign_4 rfl rfl rfl ?_
  refine Sm.iadd dX1_assign_5 rfl ?_
  refine Sm.nm (LV := fun v1 => [.ref l0, .int l1, .int l2, .long l3, .null, .null]) (ST := fun v1 => [.int v1]) (fun v1 => ?_)
  refine Sm.istore (lv' := [.ref l0, .int l1, .int l2, .long l3, .null, .int v1]) dX1_assign_6 (Nat.le_of_ble_eq_true rfl) rfl rfl ?_
  refine Sm.iload dX1_assign_8 rfl rfl ?_
  refine Sm.if_lt (t := 31) dX1_assign_10 (by decide) rfl (fun b2 => ?_) (fun b2 => ?_)
  · exact Sm.ret (r := ()) dX1_assign_31 trivial rfl
  · refine Sm.iload dX1_assign_13 rfl rfl ?_
    refine Sm.aload_n dX1_assign_15 rfl rfl rfl ?_
    refine Sm.ck (fun o3 => ?_)
    refine gf_X1_9 o3 dX1_assign_16 rfl rfl (fun v4 => ?_)
    refine Sm.ck (fun o5 => ?_)
    refine Sm.alen o5 (by decide) dX1_assign_19 rfl ?_
    refine Sm.icmp_ge (t := 31) dX1_assign_20 (by decide) rfl (fun b6 => ?_) (fun b6 => ?_)
    · exact Sm.ret (r := ()) dX1_assign_31 trivial rfl
    · refine Sm.aload_n dX1_assign_23 rfl rfl rfl ?_
      refine gf_X1_9 o3 dX1_assign_24 rfl rfl (fun v7 => ?_)
      refine Sm.iload dX1_assign_27 rfl rfl ?_
      refine Sm.lload_n dX1_assign_29 rfl rfl rfl ?_
      refine Sm.ca (fun q8 => ?_)
      refine Sm.last q8 dX1_assign_30 rfl ?_
      exact Sm.ret (r := ()) dX1_assign_31 trivial rfl
set_option maxRecDepth 20000 in
theorem kc_X1_81 {ρ : Type} {rv : ρ → Option Value} {G : Gx} {pc q : Nat} {lv st : List Value} {h : Hp} {a : Nat} {x1 : Int32} {x2 : Int32} {x3 : Int64} {e : Unit → Hp → Option (ρ × Hp)} (hk : isO h a 1) (d : decode G.2.1 pc = .ok (.invokevirtual 81, 3)) (ho : G.1.cls = RX1) (hdep : (g_X1_assign).2.2.2.2 < G.2.2.2.2) (hcat : catS st ≤ 8) (hq : pc + 3 = q) (k : ∀ r h1, Sm rv G q lv (st) h1 (e r h1)) : Sm rv G pc lv (.long x3 :: .int x2 :: .int x1 :: .ref a :: st) h (bd (f_X1_assign a x1 x2 x3 h) e) :=
  Sm.callV (rv' := rvV) (args := [.int x1, .int x2, .long x3]) (n := 3) (t_X1_assign a x1 x2 x3 h) hk (by decide) (r := (RX1, TX1, 1)) rfl rfl ho mw_517 mw_519 mp_32 mw_5 mw_520 ⟨⟨by decide, rfl, hdep, Nat.le_of_ble_eq_true rfl⟩, Nat.le_of_ble_eq_true rfl, rfl, ⟨by decide, by decide⟩, hcat⟩ (by decide +kernel) (by intro v hv; simp only [List.mem_cons, List.not_mem_nil, or_false] at hv; rcases hv with rfl | rfl | rfl <;> intro x hx <;> cases hx) d hq k rfl
abbrev g_X1_unite : Gx := (yX1_unite, cX1_unite, 5, (Option.none : Option FieldType), 1)
def f_X1_unite_3 (k3 : (Int32 × Hp) → Option (Unit × Hp)) (l0 : Nat) (l1 : Int32) (l2 : Int32) (l3 : Int32) (l4 : Int32) (h : Hp) : Option (Unit × Hp) :=
  (if (64 : Int32) ≤ l4 then
(some ((), h))
else
(ck h l0 1
(bd (f_X1_imageOf l0 l2 l4 h) fun v3 h4 =>
(ck h4 l0 1
(bd (f_X1_imageOf l0 l3 l4 h4) fun v6 h7 =>
(ck h7 l0 1
(bd (f_X1_assign l0 l1 l4 (v3 ||| v6) h7) fun _ h9 =>
(nm (l4 + (1 : Int32)) fun v10 =>
(k3 (v10, h9))))))))))
set_option maxRecDepth 20000 in
theorem t_X1_unite_3 (l0 : Nat) (l1 : Int32) (l2 : Int32) (l3 : Int32) (l4 : Int32) (h : Hp) (k3 : (Int32 × Hp) → Option (Unit × Hp)) (hk3 : ∀ s : Int32 × Hp, Sm rvV g_X1_unite 3 [.ref l0, .int l1, .int l2, .int l3, .int s.1] [] s.2 (k3 s)) : Sm rvV g_X1_unite 3 [.ref l0, .int l1, .int l2, .int l3, .int l4] [] h (f_X1_unite_3 k3 l0 l1 l2 l3 l4 h) := by
  unfold f_X1_unite_3
  refine Sm.iload dX1_unite_3 rfl rfl ?_
  refine Sm.bipush dX1_unite_5 bp_64 rfl ?_
  refine Sm.icmp_ge (t := 38) dX1_unite_7 (by decide) rfl (fun b1 => ?_) (fun b1 => ?_)
  · exact Sm.ret (r := ()) dX1_unite_38 trivial rfl
  · refine Sm.aload_n dX1_unite_10 rfl rfl rfl ?_
    refine Sm.iload_n dX1_unite_11 rfl rfl rfl ?_
    refine Sm.iload dX1_unite_12 rfl rfl ?_
    refine Sm.aload_n dX1_unite_14 rfl rfl rfl ?_
    refine Sm.iload_n dX1_unite_15 rfl rfl rfl ?_
    refine Sm.iload dX1_unite_16 rfl rfl ?_
    refine Sm.ck (fun o2 => ?_)
    refine kc_X1_25 o2 dX1_unite_18 rfl (Nat.le_of_ble_eq_true rfl) (Nat.le_of_ble_eq_true rfl) rfl (fun v3 h4 => ?_)
    refine Sm.aload_n dX1_unite_21 rfl rfl rfl ?_
    refine Sm.iload_n dX1_unite_22 rfl rfl rfl ?_
    refine Sm.iload dX1_unite_23 rfl rfl ?_
    refine Sm.ck (fun o5 => ?_)
    refine kc_X1_25 o5 dX1_unite_25 rfl (Nat.le_of_ble_eq_true rfl) (Nat.le_of_ble_eq_true rfl) rfl (fun v6 h7 => ?_)
    refine Sm.lor dX1_unite_28 rfl ?_
    refine Sm.ck (fun o8 => ?_)
    refine kc_X1_81 o8 dX1_unite_29 rfl (Nat.le_of_ble_eq_true rfl) (Nat.le_of_ble_eq_true rfl) rfl (fun _ h9 => ?_)
    refine Sm.iinc (lv' := [.ref l0, .int l1, .int l2, .int l3, .int (l4 + (1 : Int32))]) dX1_unite_32 rfl ic_1 rfl rfl ?_
    refine Sm.nm (LV := fun v10 => [.ref l0, .int l1, .int l2, .int l3, .int v10]) (ST := fun v10 => []) (fun v10 => ?_)
    refine Sm.goto (t := 3) dX1_unite_35 (by decide) ?_
    exact Sm.wk (hk3 (v10, h9)) ⟨Or.inr rfl, Or.inr rfl, Or.inr rfl, Or.inr rfl, Or.inr rfl, trivial⟩
def f_X1_unite (l0 : Nat) (l1 : Int32) (l2 : Int32) (l3 : Int32) (h : Hp) : Option (Unit × Hp) :=
  (loopN (fun k s => f_X1_unite_3 k l0 l1 l2 l3 s.1 s.2) 5000 ((0 : Int32), h))
set_option maxRecDepth 20000 in
theorem t_X1_unite (l0 : Nat) (l1 : Int32) (l2 : Int32) (l3 : Int32) (h : Hp) : Sm rvV g_X1_unite 0 (ent 5 [.ref l0, .int l1, .int l2, .int l3]) [] h (f_X1_unite l0 l1 l2 l3 h) := by
  show Sm rvV g_X1_unite 0 [.ref l0, .int l1, .int l2, .int l3, .null] [] h _
  unfold f_X1_unite
  refine Sm.iconst dX1_unite_0 ic_0 rfl ?_
  refine Sm.istore (lv' := [.ref l0, .int l1, .int l2, .int l3, .int (0 : Int32)]) dX1_unite_1 (Nat.le_of_ble_eq_true rfl) rfl rfl ?_
  exact Sm.wk (Sm.loop (σ := Int32 × Hp) (LV := fun s => [.ref l0, .int l1, .int l2, .int l3, .int s.1]) (HH := fun s => s.2) (fun k hk s => t_X1_unite_3 l0 l1 l2 l3 s.1 s.2 k hk) 5000 ((0 : Int32), h)) ⟨Or.inr rfl, Or.inr rfl, Or.inr rfl, Or.inr rfl, Or.inr rfl, trivial⟩
set_option maxRecDepth 20000 in
theorem kc_X1_43 {ρ : Type} {rv : ρ → Option Value} {G : Gx} {pc q : Nat} {lv st : List Value} {h : Hp} {a : Nat} {x1 : Int32} {x2 : Int32} {x3 : Int32} {e : Unit → Hp → Option (ρ × Hp)} (hk : isO h a 1) (d : decode G.2.1 pc = .ok (.invokevirtual 43, 3)) (ho : G.1.cls = RX1) (hdep : (g_X1_unite).2.2.2.2 < G.2.2.2.2) (hcat : catS st ≤ 8) (hq : pc + 3 = q) (k : ∀ r h1, Sm rv G q lv (st) h1 (e r h1)) : Sm rv G pc lv (.int x3 :: .int x2 :: .int x1 :: .ref a :: st) h (bd (f_X1_unite a x1 x2 x3 h) e) :=
  Sm.callV (rv' := rvV) (args := [.int x1, .int x2, .int x3]) (n := 3) (t_X1_unite a x1 x2 x3 h) hk (by decide) (r := (RX1, TX1, 1)) rfl rfl ho mw_509 mw_511 mp_30 mw_5 mw_512 ⟨⟨by decide, rfl, hdep, Nat.le_of_ble_eq_true rfl⟩, Nat.le_of_ble_eq_true rfl, rfl, ⟨by decide, by decide⟩, hcat⟩ (by decide +kernel) (by intro v hv; simp only [List.mem_cons, List.not_mem_nil, or_false] at hv; rcases hv with rfl | rfl | rfl <;> intro x hx <;> cases hx) d hq k rfl
abbrev g_X9_imageOfSet : Gx := (yX9_imageOfSet, cX9_imageOfSet, 11, (Option.some FieldType.long), 2)
def f_X9_imageOfSet_52 (k15 : (Int64 × Int64 × Int32 × Hp) → Option (Int64 × Hp)) (l0 : Nat) (l1 : Int32) (l4 : Int64) (l6 : Int64) (l8 : Int32) (l9 : Int32) (h : Hp) : Option (Int64 × Hp) :=
  (nm (l6 &&& (l6 - (1 : Int64))) fun v8 =>
(nm (l9 + (1 : Int32)) fun v9 =>
(k15 (l4, v8, v9, h))))
set_option maxRecDepth 20000 in
theorem t_X9_imageOfSet_52 (l0 : Nat) (l1 : Int32) (l4 : Int64) (l6 : Int64) (l8 : Int32) (l9 : Int32) (h : Hp) (k15 : (Int64 × Int64 × Int32 × Hp) → Option (Int64 × Hp)) (hk15 : ∀ s : Int64 × Int64 × Int32 × Hp, Sm rvJ g_X9_imageOfSet 15 [.ref l0, .int l1, .null, .null, .long s.1, .null, .long s.2.1, .null, .int l8, .int s.2.2.1, .null] [] s.2.2.2 (k15 s)) : Sm rvJ g_X9_imageOfSet 52 [.ref l0, .int l1, .null, .null, .long l4, .null, .long l6, .null, .int l8, .int l9, .null] [] h (f_X9_imageOfSet_52 k15 l0 l1 l4 l6 l8 l9 h) := by
  unfold f_X9_imageOfSet_52
  refine Sm.lload dX9_imageOfSet_52 rfl rfl ?_
  refine Sm.lload dX9_imageOfSet_54 rfl rfl ?_
  refine Sm.lconst (v := (1 : Int64)) dX9_imageOfSet_56 (by decide) rfl ?_
  refine Sm.lsub dX9_imageOfSet_57 rfl ?_
  refine Sm.land dX9_imageOfSet_58 rfl ?_
  refine Sm.nm (LV := fun v8 => [.ref l0, .int l1, .null, .null, .long l4, .null, .long l6, .null, .int l8, .int l9, .null]) (ST := fun v8 => [.long v8]) (fun v8 => ?_)
  refine Sm.lstore (lv' := [.ref l0, .int l1, .null, .null, .long l4, .null, .long v8, .null, .int l8, .int l9, .null]) dX9_imageOfSet_59 (Nat.le_of_ble_eq_true rfl) rfl rfl ?_
  refine Sm.iinc (lv' := [.ref l0, .int l1, .null, .null, .long l4, .null, .long v8, .null, .int l8, .int (l9 + (1 : Int32)), .null]) dX9_imageOfSet_61 rfl ic_1 rfl rfl ?_
  refine Sm.nm (LV := fun v9 => [.ref l0, .int l1, .null, .null, .long l4, .null, .long v8, .null, .int l8, .int v9, .null]) (ST := fun v9 => []) (fun v9 => ?_)
  refine Sm.goto (t := 15) dX9_imageOfSet_64 (by decide) ?_
  exact Sm.wk (hk15 (l4, v8, v9, h)) ⟨Or.inr rfl, Or.inr rfl, Or.inl rfl, Or.inl rfl, Or.inr rfl, Or.inl rfl, Or.inr rfl, Or.inl rfl, Or.inr rfl, Or.inr rfl, Or.inl rfl, trivial⟩
def f_X9_imageOfSet_15 (k15 : (Int64 × Int64 × Int32 × Hp) → Option (Int64 × Hp)) (l0 : Nat) (l1 : Int32) (l4 : Int64) (l6 : Int64) (l8 : Int32) (l9 : Int32) (h : Hp) : Option (Int64 × Hp) :=
  (if l8 ≤ l9 then
(some (l4, h))
else
(bd (f_X9_lowestOf l6 h) fun v4 h5 =>
(nm (l1 + v4) fun v6 =>
(if v6 < 0 then
(f_X9_imageOfSet_52 k15 l0 l1 l4 l6 l8 l9 h5)
else
(ck h5 l0 22
(if (Int32.ofNat (gS h5 l0).2) ≤ v6 then
(f_X9_imageOfSet_52 k15 l0 l1 l4 l6 l8 l9 h5)
else
(ca h5 l0 22 v6
(nm (l4 ||| (gL h5 l0 v6.toNatClampNeg)) fun v13 =>
(f_X9_imageOfSet_52 k15 l0 l1 v13 l6 l8 l9 h5)))))))))
set_option maxRecDepth 20000 in
theorem t_X9_imageOfSet_15 (l0 : Nat) (l1 : Int32) (l4 : Int64) (l6 : Int64) (l8 : Int32) (l9 : Int32) (h : Hp) (k15 : (Int64 × Int64 × Int32 × Hp) → Option (Int64 × Hp)) (hk15 : ∀ s : Int64 × Int64 × Int32 × Hp, Sm rvJ g_X9_imageOfSet 15 [.ref l0, .int l1, .null, .null, .long s.1, .null, .long s.2.1, .null, .int l8, .int s.2.2.1, .null] [] s.2.2.2 (k15 s)) : Sm rvJ g_X9_imageOfSet 15 [.ref l0, .int l1, .null, .null, .long l4, .null, .long l6, .null, .int l8, .int l9, .null] [] h (f_X9_imageOfSet_15 k15 l0 l1 l4 l6 l8 l9 h) := by
  unfold f_X9_imageOfSet_15
  refine Sm.iload dX9_imageOfSet_15 rfl rfl ?_
  refine Sm.iload dX9_imageOfSet_17 rfl rfl ?_
  refine Sm.icmp_ge (t := 67) dX9_imageOfSet_19 (by decide) rfl (fun b3 => ?_) (fun b3 => ?_)
  · refine Sm.lload dX9_imageOfSet_67 rfl rfl ?_
    exact Sm.ret dX9_imageOfSet_69 trivial rfl
  · refine Sm.iload_n dX9_imageOfSet_22 rfl rfl rfl ?_
    refine Sm.lload dX9_imageOfSet_23 rfl rfl ?_
    refine kc_X9_150 dX9_imageOfSet_25 rfl (Nat.le_of_ble_eq_true rfl) (Nat.le_of_ble_eq_true rfl) rfl (fun v4 h5 => ?_)
    refine Sm.iadd dX9_imageOfSet_28 rfl ?_
    refine Sm.nm (LV := fun v6 => [.ref l0, .int l1, .null, .null, .long l4, .null, .long l6, .null, .int l8, .int l9, .null]) (ST := fun v6 => [.int v6]) (fun v6 => ?_)
    refine Sm.istore (lv' := [.ref l0, .int l1, .null, .null, .long l4, .null, .long l6, .null, .int l8, .int l9, .int v6]) dX9_imageOfSet_29 (Nat.le_of_ble_eq_true rfl) rfl rfl ?_
    refine Sm.iload dX9_imageOfSet_31 rfl rfl ?_
    refine Sm.if_lt (t := 52) dX9_imageOfSet_33 (by decide) rfl (fun b7 => ?_) (fun b7 => ?_)
    · exact Sm.wk (t_X9_imageOfSet_52 l0 l1 l4 l6 l8 l9 h5 k15 hk15) ⟨Or.inr rfl, Or.inr rfl, Or.inl rfl, Or.inl rfl, Or.inr rfl, Or.inl rfl, Or.inr rfl, Or.inl rfl, Or.inr rfl, Or.inr rfl, Or.inl rfl, trivial⟩
    · refine Sm.iload dX9_imageOfSet_36 rfl rfl ?_
      refine Sm.aload_n dX9_imageOfSet_38 rfl rfl rfl ?_
      refine Sm.ck (fun o10 => ?_)
      refine Sm.alen o10 (by decide) dX9_imageOfSet_39 rfl ?_
      refine Sm.icmp_ge (t := 52) dX9_imageOfSet_40 (by decide) rfl (fun b11 => ?_) (fun b11 => ?_)
      · exact Sm.wk (t_X9_imageOfSet_52 l0 l1 l4 l6 l8 l9 h5 k15 hk15) ⟨Or.inr rfl, Or.inr rfl, Or.inl rfl, Or.inl rfl, Or.inr rfl, Or.inl rfl, Or.inr rfl, Or.inl rfl, Or.inr rfl, Or.inr rfl, Or.inl rfl, trivial⟩
      · refine Sm.lload dX9_imageOfSet_43 rfl rfl ?_
        refine Sm.aload_n dX9_imageOfSet_45 rfl rfl rfl ?_
        refine Sm.iload dX9_imageOfSet_46 rfl rfl ?_
        refine Sm.ca (fun q12 => ?_)
        refine Sm.lald q12 dX9_imageOfSet_48 rfl ?_
        refine Sm.lor dX9_imageOfSet_49 rfl ?_
        refine Sm.nm (LV := fun v13 => [.ref l0, .int l1, .null, .null, .long l4, .null, .long l6, .null, .int l8, .int l9, .int v6]) (ST := fun v13 => [.long v13]) (fun v13 => ?_)
        refine Sm.lstore (lv' := [.ref l0, .int l1, .null, .null, .long v13, .null, .long l6, .null, .int l8, .int l9, .int v6]) dX9_imageOfSet_50 (Nat.le_of_ble_eq_true rfl) rfl rfl ?_
        exact Sm.wk (t_X9_imageOfSet_52 l0 l1 v13 l6 l8 l9 h5 k15 hk15) ⟨Or.inr rfl, Or.inr rfl, Or.inl rfl, Or.inl rfl, Or.inr rfl, Or.inl rfl, Or.inr rfl, Or.inl rfl, Or.inr rfl, Or.inr rfl, Or.inl rfl, trivial⟩
def f_X9_imageOfSet (l0 : Nat) (l1 : Int32) (l2 : Int64) (h : Hp) : Option (Int64 × Hp) :=
  (bd (f_J13_bitCount_95d88 l2 h) fun v1 h2 =>
(loopN (fun k s => f_X9_imageOfSet_15 k l0 l1 s.1 s.2.1 v1 s.2.2.1 s.2.2.2) 5000 ((0 : Int64), l2, (0 : Int32), h2)))
set_option maxRecDepth 20000 in
theorem t_X9_imageOfSet (l0 : Nat) (l1 : Int32) (l2 : Int64) (h : Hp) : Sm rvJ g_X9_imageOfSet 0 (ent 11 [.ref l0, .int l1, .long l2]) [] h (f_X9_imageOfSet l0 l1 l2 h) := by
  show Sm rvJ g_X9_imageOfSet 0 [.ref l0, .int l1, .long l2, .null, .null, .null, .null, .null, .null, .null, .null] [] h _
  unfold f_X9_imageOfSet
  refine Sm.lconst (v := (0 : Int64)) dX9_imageOfSet_0 (by decide) rfl ?_
  refine Sm.lstore (lv' := [.ref l0, .int l1, .long l2, .null, .long (0 : Int64), .null, .null, .null, .null, .null, .null]) dX9_imageOfSet_1 (Nat.le_of_ble_eq_true rfl) rfl rfl ?_
  refine Sm.lload_n dX9_imageOfSet_3 rfl rfl rfl ?_
  refine Sm.lstore (lv' := [.ref l0, .int l1, .long l2, .null, .long (0 : Int64), .null, .long l2, .null, .null, .null, .null]) dX9_imageOfSet_4 (Nat.le_of_ble_eq_true rfl) rfl rfl ?_
  refine Sm.lload_n dX9_imageOfSet_6 rfl rfl rfl ?_
  refine kc_X9_246 dX9_imageOfSet_7 rfl (Nat.le_of_ble_eq_true rfl) (Nat.le_of_ble_eq_true rfl) rfl (fun v1 h2 => ?_)
  refine Sm.istore (lv' := [.ref l0, .int l1, .long l2, .null, .long (0 : Int64), .null, .long l2, .null, .int v1, .null, .null]) dX9_imageOfSet_10 (Nat.le_of_ble_eq_true rfl) rfl rfl ?_
  refine Sm.iconst dX9_imageOfSet_12 ic_0 rfl ?_
  refine Sm.istore (lv' := [.ref l0, .int l1, .long l2, .null, .long (0 : Int64), .null, .long l2, .null, .int v1, .int (0 : Int32), .null]) dX9_imageOfSet_13 (Nat.le_of_ble_eq_true rfl) rfl rfl ?_
  exact Sm.wk (Sm.loop (σ := Int64 × Int64 × Int32 × Hp) (LV := fun s => [.ref l0, .int l1, .null, .null, .long s.1, .null, .long s.2.1, .null, .int v1, .int s.2.2.1, .null]) (HH := fun s => s.2.2.2) (fun k hk s => t_X9_imageOfSet_15 l0 l1 s.1 s.2.1 v1 s.2.2.1 s.2.2.2 k hk) 5000 ((0 : Int64), l2, (0 : Int32), h2)) ⟨Or.inr rfl, Or.inr rfl, Or.inl rfl, Or.inl rfl, Or.inr rfl, Or.inl rfl, Or.inr rfl, Or.inl rfl, Or.inr rfl, Or.inr rfl, Or.inl rfl, trivial⟩
set_option maxRecDepth 20000 in
theorem kc_X1_84 {ρ : Type} {rv : ρ → Option Value} {G : Gx} {pc q : Nat} {lv st : List Value} {h : Hp} {x0 : Nat} {x1 : Int32} {x2 : Int64} {e : Int64 → Hp → Option (ρ × Hp)} (d : decode G.2.1 pc = .ok (.invokestatic 84, 3)) (ho : G.1.cls = RX1) (hdep : (g_X9_imageOfSet).2.2.2.2 < G.2.2.2.2) (hcat : catS st ≤ 8) (hq : pc + 3 = q) (k : ∀ r h1, Sm rv G q lv (.long r :: st) h1 (e r h1)) : Sm rv G pc lv (.long x2 :: .int x1 :: .ref x0 :: st) h (bd (f_X9_imageOfSet x0 x1 x2 h) e) :=
  Sm.callSN (rv' := rvJ) (as := [.ref x0, .int x1, .long x2]) (n := 3) (t_X9_imageOfSet x0 x1 x2 h) ho mw_525 mw_526 mw_1 mw_527 ⟨⟨by decide, rfl, hdep, Nat.le_of_ble_eq_true rfl⟩, Nat.le_of_ble_eq_true rfl, rfl, ⟨by decide, by decide⟩, hcat⟩ (by decide +kernel) (by intro v hv; simp only [List.mem_cons, List.not_mem_nil, or_false] at hv; rcases hv with rfl | rfl | rfl <;> intro x hx <;> cases hx) d hq k rfl
set_option maxRecDepth 20000 in
theorem kc_X6_39 {ρ : Type} {rv : ρ → Option Value} {G : Gx} {pc q : Nat} {lv st : List Value} {h : Hp} {x0 : Nat} {x1 : Int32} {x2 : Int64} {e : Int64 → Hp → Option (ρ × Hp)} (d : decode G.2.1 pc = .ok (.invokestatic 39, 3)) (ho : G.1.cls = RX6) (hdep : (g_X9_imageOfSet).2.2.2.2 < G.2.2.2.2) (hcat : catS st ≤ 8) (hq : pc + 3 = q) (k : ∀ r h1, Sm rv G q lv (.long r :: st) h1 (e r h1)) : Sm rv G pc lv (.long x2 :: .int x1 :: .ref x0 :: st) h (bd (f_X9_imageOfSet x0 x1 x2 h) e) :=
  Sm.callSN (rv' := rvJ) (as := [.ref x0, .int x1, .long x2]) (n := 3) (t_X9_imageOfSet x0 x1 x2 h) ho mw_719 mw_526 mw_1 mw_527 ⟨⟨by decide, rfl, hdep, Nat.le_of_ble_eq_true rfl⟩, Nat.le_of_ble_eq_true rfl, rfl, ⟨by decide, by decide⟩, hcat⟩ (by decide +kernel) (by intro v hv; simp only [List.mem_cons, List.not_mem_nil, or_false] at hv; rcases hv with rfl | rfl | rfl <;> intro x hx <;> cases hx) d hq k rfl
abbrev g_X1_chain : Gx := (yX1_chain, cX1_chain, 5, (Option.none : Option FieldType), 3)
def f_X1_chain_3 (k3 : (Int32 × Hp) → Option (Unit × Hp)) (l0 : Nat) (l1 : Int32) (l2 : Int32) (l3 : Int32) (l4 : Int32) (h : Hp) : Option (Unit × Hp) :=
  (if (64 : Int32) ≤ l4 then
(some ((), h))
else
(ck h l0 1
((gP h l0 0).bind fun v3 =>
(bd (f_X1_imageOf l0 l2 l4 h) fun v4 h5 =>
(bd (f_X9_imageOfSet v3 (l3 * (64 : Int32)) v4 h5) fun v6 h7 =>
(ck h7 l0 1
(bd (f_X1_assign l0 l1 l4 v6 h7) fun _ h9 =>
(nm (l4 + (1 : Int32)) fun v10 =>
(k3 (v10, h9))))))))))
set_option maxRecDepth 20000 in
theorem t_X1_chain_3 (l0 : Nat) (l1 : Int32) (l2 : Int32) (l3 : Int32) (l4 : Int32) (h : Hp) (k3 : (Int32 × Hp) → Option (Unit × Hp)) (hk3 : ∀ s : Int32 × Hp, Sm rvV g_X1_chain 3 [.ref l0, .int l1, .int l2, .int l3, .int s.1] [] s.2 (k3 s)) : Sm rvV g_X1_chain 3 [.ref l0, .int l1, .int l2, .int l3, .int l4] [] h (f_X1_chain_3 k3 l0 l1 l2 l3 l4 h) := by
  unfold f_X1_chain_3
  refine Sm.iload dX1_chain_3 rfl rfl ?_
  refine Sm.bipush dX1_chain_5 bp_64 rfl ?_
  refine Sm.icmp_ge (t := 41) dX1_chain_7 (by decide) rfl (fun b1 => ?_) (fun b1 => ?_)
  · exact Sm.ret (r := ()) dX1_chain_41 trivial rfl
  · refine Sm.aload_n dX1_chain_10 rfl rfl rfl ?_
    refine Sm.iload_n dX1_chain_11 rfl rfl rfl ?_
    refine Sm.iload dX1_chain_12 rfl rfl ?_
    refine Sm.aload_n dX1_chain_14 rfl rfl rfl ?_
    refine Sm.ck (fun o2 => ?_)
    refine gf_X1_9 o2 dX1_chain_15 rfl rfl (fun v3 => ?_)
    refine Sm.iload_n dX1_chain_18 rfl rfl rfl ?_
    refine Sm.bipush dX1_chain_19 bp_64 rfl ?_
    refine Sm.imul dX1_chain_21 rfl ?_
    refine Sm.aload_n dX1_chain_22 rfl rfl rfl ?_
    refine Sm.iload_n dX1_chain_23 rfl rfl rfl ?_
    refine Sm.iload dX1_chain_24 rfl rfl ?_
    refine kc_X1_25 o2 dX1_chain_26 rfl (Nat.le_of_ble_eq_true rfl) (Nat.le_of_ble_eq_true rfl) rfl (fun v4 h5 => ?_)
    refine kc_X1_84 dX1_chain_29 rfl (Nat.le_of_ble_eq_true rfl) (Nat.le_of_ble_eq_true rfl) rfl (fun v6 h7 => ?_)
    refine Sm.ck (fun o8 => ?_)
    refine kc_X1_81 o8 dX1_chain_32 rfl (Nat.le_of_ble_eq_true rfl) (Nat.le_of_ble_eq_true rfl) rfl (fun _ h9 => ?_)
    refine Sm.iinc (lv' := [.ref l0, .int l1, .int l2, .int l3, .int (l4 + (1 : Int32))]) dX1_chain_35 rfl ic_1 rfl rfl ?_
    refine Sm.nm (LV := fun v10 => [.ref l0, .int l1, .int l2, .int l3, .int v10]) (ST := fun v10 => []) (fun v10 => ?_)
    refine Sm.goto (t := 3) dX1_chain_38 (by decide) ?_
    exact Sm.wk (hk3 (v10, h9)) ⟨Or.inr rfl, Or.inr rfl, Or.inr rfl, Or.inr rfl, Or.inr rfl, trivial⟩
def f_X1_chain (l0 : Nat) (l1 : Int32) (l2 : Int32) (l3 : Int32) (h : Hp) : Option (Unit × Hp) :=
  (loopN (fun k s => f_X1_chain_3 k l0 l1 l2 l3 s.1 s.2) 5000 ((0 : Int32), h))
set_option maxRecDepth 20000 in
theorem t_X1_chain (l0 : Nat) (l1 : Int32) (l2 : Int32) (l3 : Int32) (h : Hp) : Sm rvV g_X1_chain 0 (ent 5 [.ref l0, .int l1, .int l2, .int l3]) [] h (f_X1_chain l0 l1 l2 l3 h) := by
  show Sm rvV g_X1_chain 0 [.ref l0, .int l1, .int l2, .int l3, .null] [] h _
  unfold f_X1_chain
  refine Sm.iconst dX1_chain_0 ic_0 rfl ?_
  refine Sm.istore (lv' := [.ref l0, .int l1, .int l2, .int l3, .int (0 : Int32)]) dX1_chain_1 (Nat.le_of_ble_eq_true rfl) rfl rfl ?_
  exact Sm.wk (Sm.loop (σ := Int32 × Hp) (LV := fun s => [.ref l0, .int l1, .int l2, .int l3, .int s.1]) (HH := fun s => s.2) (fun k hk s => t_X1_chain_3 l0 l1 l2 l3 s.1 s.2 k hk) 5000 ((0 : Int32), h)) ⟨Or.inr rfl, Or.inr rfl, Or.inr rfl, Or.inr rfl, Or.inr rfl, trivial⟩
set_option maxRecDepth 20000 in
theorem kc_X1_47 {ρ : Type} {rv : ρ → Option Value} {G : Gx} {pc q : Nat} {lv st : List Value} {h : Hp} {a : Nat} {x1 : Int32} {x2 : Int32} {x3 : Int32} {e : Unit → Hp → Option (ρ × Hp)} (hk : isO h a 1) (d : decode G.2.1 pc = .ok (.invokevirtual 47, 3)) (ho : G.1.cls = RX1) (hdep : (g_X1_chain).2.2.2.2 < G.2.2.2.2) (hcat : catS st ≤ 8) (hq : pc + 3 = q) (k : ∀ r h1, Sm rv G q lv (st) h1 (e r h1)) : Sm rv G pc lv (.int x3 :: .int x2 :: .int x1 :: .ref a :: st) h (bd (f_X1_chain a x1 x2 x3 h) e) :=
  Sm.callV (rv' := rvV) (args := [.int x1, .int x2, .int x3]) (n := 3) (t_X1_chain a x1 x2 x3 h) hk (by decide) (r := (RX1, TX1, 1)) rfl rfl ho mw_521 mw_523 mp_33 mw_5 mw_524 ⟨⟨by decide, rfl, hdep, Nat.le_of_ble_eq_true rfl⟩, Nat.le_of_ble_eq_true rfl, rfl, ⟨by decide, by decide⟩, hcat⟩ (by decide +kernel) (by intro v hv; simp only [List.mem_cons, List.not_mem_nil, or_false] at hv; rcases hv with rfl | rfl | rfl <;> intro x hx <;> cases hx) d hq k rfl
abbrev g_X9_alone : Gx := (yX9_alone, cX9_alone, 1, (Option.some FieldType.long), 0)
def f_X9_alone (l0 : Int32) (h : Hp) : Option (Int64 × Hp) :=
  (some (((1 : Int64) <<< (l0.toInt64 &&& 63)), h))
set_option maxRecDepth 20000 in
theorem t_X9_alone (l0 : Int32) (h : Hp) : Sm rvJ g_X9_alone 0 (ent 1 [.int l0]) [] h (f_X9_alone l0 h) := by
  show Sm rvJ g_X9_alone 0 [.int l0] [] h _
  unfold f_X9_alone
  refine Sm.lconst (v := (1 : Int64)) dX9_alone_0 (by decide) rfl ?_
  refine Sm.iload_n dX9_alone_1 rfl rfl rfl ?_
  refine Sm.lshl dX9_alone_2 rfl ?_
  exact Sm.ret dX9_alone_3 trivial rfl
set_option maxRecDepth 20000 in
theorem kc_X1_77 {ρ : Type} {rv : ρ → Option Value} {G : Gx} {pc q : Nat} {lv st : List Value} {h : Hp} {x0 : Int32} {e : Int64 → Hp → Option (ρ × Hp)} (d : decode G.2.1 pc = .ok (.invokestatic 77, 3)) (ho : G.1.cls = RX1) (hdep : (g_X9_alone).2.2.2.2 < G.2.2.2.2) (hcat : catS st ≤ 8) (hq : pc + 3 = q) (k : ∀ r h1, Sm rv G q lv (.long r :: st) h1 (e r h1)) : Sm rv G pc lv (.int x0 :: st) h (bd (f_X9_alone x0 h) e) :=
  Sm.callSN (rv' := rvJ) (as := [.int x0]) (n := 1) (t_X9_alone x0 h) ho mw_541 mw_542 mw_1 mw_543 ⟨⟨by decide, rfl, hdep, Nat.le_of_ble_eq_true rfl⟩, Nat.le_of_ble_eq_true rfl, rfl, ⟨by decide, by decide⟩, hcat⟩ (by decide +kernel) (by intro v hv; simp only [List.mem_cons, List.not_mem_nil, or_false] at hv; rcases hv with rfl <;> intro x hx <;> cases hx) d hq k rfl
set_option maxRecDepth 20000 in
theorem kc_X6_19 {ρ : Type} {rv : ρ → Option Value} {G : Gx} {pc q : Nat} {lv st : List Value} {h : Hp} {x0 : Int32} {e : Int64 → Hp → Option (ρ × Hp)} (d : decode G.2.1 pc = .ok (.invokestatic 19, 3)) (ho : G.1.cls = RX6) (hdep : (g_X9_alone).2.2.2.2 < G.2.2.2.2) (hcat : catS st ≤ 8) (hq : pc + 3 = q) (k : ∀ r h1, Sm rv G q lv (.long r :: st) h1 (e r h1)) : Sm rv G pc lv (.int x0 :: st) h (bd (f_X9_alone x0 h) e) :=
  Sm.callSN (rv' := rvJ) (as := [.int x0]) (n := 1) (t_X9_alone x0 h) ho mw_696 mw_542 mw_1 mw_543 ⟨⟨by decide, rfl, hdep, Nat.le_of_ble_eq_true rfl⟩, Nat.le_of_ble_eq_true rfl, rfl, ⟨by decide, by decide⟩, hcat⟩ (by decide +kernel) (by intro v hv; simp only [List.mem_cons, List.not_mem_nil, or_false] at hv; rcases hv with rfl <;> intro x hx <;> cases hx) d hq k rfl
abbrev g_X1_repeat : Gx := (yX1_repeat, cX1_repeat, 9, (Option.none : Option FieldType), 1)
def f_X1_repeat_50 (k33 : (Int32 × Hp) → Option (Unit × Hp)) (k50 : (Int32 × Hp) → Option (Unit × Hp)) (l0 : Nat) (l1 : Int32) (l3 : Int32) (l4 : Int64) (l6 : Int32) (h : Hp) : Option (Unit × Hp) :=
  (if (64 : Int32) ≤ l6 then
(nm (l3 + (1 : Int32)) fun v7 =>
(k33 (v7, h)))
else
(ck h l0 1
(bd (f_X1_imageOf l0 l1 l6 h) fun v9 h10 =>
(bd (f_X9_holds v9 l3 h10) fun v11 h12 =>
(if v11 = 0 then
(nm (l6 + (1 : Int32)) fun v14 =>
(k50 (v14, h12)))
else
(ck h12 l0 1
(bd (f_X1_assign l0 l1 l6 (v9 ||| l4) h12) fun _ h16 =>
(nm (l6 + (1 : Int32)) fun v17 =>
(k50 (v17, h16))))))))))
set_option maxRecDepth 20000 in
theorem t_X1_repeat_50 (l0 : Nat) (l1 : Int32) (l3 : Int32) (l4 : Int64) (l6 : Int32) (h : Hp) (k33 : (Int32 × Hp) → Option (Unit × Hp)) (hk33 : ∀ s : Int32 × Hp, Sm rvV g_X1_repeat 33 [.ref l0, .int l1, .null, .int s.1, .null, .null, .null, .null, .null] [] s.2 (k33 s)) (k50 : (Int32 × Hp) → Option (Unit × Hp)) (hk50 : ∀ s : Int32 × Hp, Sm rvV g_X1_repeat 50 [.ref l0, .int l1, .null, .int l3, .long l4, .null, .int s.1, .null, .null] [] s.2 (k50 s)) : Sm rvV g_X1_repeat 50 [.ref l0, .int l1, .null, .int l3, .long l4, .null, .int l6, .null, .null] [] h (f_X1_repeat_50 k33 k50 l0 l1 l3 l4 l6 h) := by
  unfold f_X1_repeat_50
  refine Sm.iload dX1_repeat_50 rfl rfl ?_
  refine Sm.bipush dX1_repeat_52 bp_64 rfl ?_
  refine Sm.icmp_ge (t := 93) dX1_repeat_54 (by decide) rfl (fun b6 => ?_) (fun b6 => ?_)
  · refine Sm.iinc (lv' := [.ref l0, .int l1, .null, .int (l3 + (1 : Int32)), .long l4, .null, .int l6, .null, .null]) dX1_repeat_93 rfl ic_1 rfl rfl ?_
    refine Sm.nm (LV := fun v7 => [.ref l0, .int l1, .null, .int v7, .long l4, .null, .int l6, .null, .null]) (ST := fun v7 => []) (fun v7 => ?_)
    refine Sm.goto (t := 33) dX1_repeat_96 (by decide) ?_
    exact Sm.wk (hk33 (v7, h)) ⟨Or.inr rfl, Or.inr rfl, Or.inl rfl, Or.inr rfl, Or.inl rfl, Or.inl rfl, Or.inl rfl, Or.inl rfl, Or.inl rfl, trivial⟩
  · refine Sm.aload_n dX1_repeat_57 rfl rfl rfl ?_
    refine Sm.iload_n dX1_repeat_58 rfl rfl rfl ?_
    refine Sm.iload dX1_repeat_59 rfl rfl ?_
    refine Sm.ck (fun o8 => ?_)
    refine kc_X1_25 o8 dX1_repeat_61 rfl (Nat.le_of_ble_eq_true rfl) (Nat.le_of_ble_eq_true rfl) rfl (fun v9 h10 => ?_)
    refine Sm.lstore (lv' := [.ref l0, .int l1, .null, .int l3, .long l4, .null, .int l6, .long v9, .null]) dX1_repeat_64 (Nat.le_of_ble_eq_true rfl) rfl rfl ?_
    refine Sm.lload dX1_repeat_66 rfl rfl ?_
    refine Sm.iload_n dX1_repeat_68 rfl rfl rfl ?_
    refine kc_X1_88 dX1_repeat_69 rfl (Nat.le_of_ble_eq_true rfl) (Nat.le_of_ble_eq_true rfl) rfl (fun v11 h12 => ?_)
    refine Sm.if_eq (t := 87) dX1_repeat_72 (by decide) rfl (fun b13 => ?_) (fun b13 => ?_)
    · refine Sm.iinc (lv' := [.ref l0, .int l1, .null, .int l3, .long l4, .null, .int (l6 + (1 : Int32)), .long v9, .null]) dX1_repeat_87 rfl ic_1 rfl rfl ?_
      refine Sm.nm (LV := fun v14 => [.ref l0, .int l1, .null, .int l3, .long l4, .null, .int v14, .long v9, .null]) (ST := fun v14 => []) (fun v14 => ?_)
      refine Sm.goto (t := 50) dX1_repeat_90 (by decide) ?_
      exact Sm.wk (hk50 (v14, h12)) ⟨Or.inr rfl, Or.inr rfl, Or.inl rfl, Or.inr rfl, Or.inr rfl, Or.inl rfl, Or.inr rfl, Or.inl rfl, Or.inl rfl, trivial⟩
    · refine Sm.aload_n dX1_repeat_75 rfl rfl rfl ?_
      refine Sm.iload_n dX1_repeat_76 rfl rfl rfl ?_
      refine Sm.iload dX1_repeat_77 rfl rfl ?_
      refine Sm.lload dX1_repeat_79 rfl rfl ?_
      refine Sm.lload dX1_repeat_81 rfl rfl ?_
      refine Sm.lor dX1_repeat_83 rfl ?_
      refine Sm.ck (fun o15 => ?_)
      refine kc_X1_81 o15 dX1_repeat_84 rfl (Nat.le_of_ble_eq_true rfl) (Nat.le_of_ble_eq_true rfl) rfl (fun _ h16 => ?_)
      refine Sm.iinc (lv' := [.ref l0, .int l1, .null, .int l3, .long l4, .null, .int (l6 + (1 : Int32)), .long v9, .null]) dX1_repeat_87 rfl ic_1 rfl rfl ?_
      refine Sm.nm (LV := fun v17 => [.ref l0, .int l1, .null, .int l3, .long l4, .null, .int v17, .long v9, .null]) (ST := fun v17 => []) (fun v17 => ?_)
      refine Sm.goto (t := 50) dX1_repeat_90 (by decide) ?_
      exact Sm.wk (hk50 (v17, h16)) ⟨Or.inr rfl, Or.inr rfl, Or.inl rfl, Or.inr rfl, Or.inr rfl, Or.inl rfl, Or.inr rfl, Or.inl rfl, Or.inl rfl, trivial⟩
def f_X1_repeat_33 (k33 : (Int32 × Hp) → Option (Unit × Hp)) (l0 : Nat) (l1 : Int32) (l3 : Int32) (h : Hp) : Option (Unit × Hp) :=
  (if (64 : Int32) ≤ l3 then
(some ((), h))
else
(ck h l0 1
(bd (f_X1_imageOf l0 l1 l3 h) fun v4 h5 =>
(loopN (fun k s => f_X1_repeat_50 k33 k l0 l1 l3 v4 s.1 s.2) 5000 ((0 : Int32), h5)))))
set_option maxRecDepth 20000 in
theorem t_X1_repeat_33 (l0 : Nat) (l1 : Int32) (l3 : Int32) (h : Hp) (k33 : (Int32 × Hp) → Option (Unit × Hp)) (hk33 : ∀ s : Int32 × Hp, Sm rvV g_X1_repeat 33 [.ref l0, .int l1, .null, .int s.1, .null, .null, .null, .null, .null] [] s.2 (k33 s)) : Sm rvV g_X1_repeat 33 [.ref l0, .int l1, .null, .int l3, .null, .null, .null, .null, .null] [] h (f_X1_repeat_33 k33 l0 l1 l3 h) := by
  unfold f_X1_repeat_33
  refine Sm.iload_n dX1_repeat_33 rfl rfl rfl ?_
  refine Sm.bipush dX1_repeat_34 bp_64 rfl ?_
  refine Sm.icmp_ge (t := 99) dX1_repeat_36 (by decide) rfl (fun b2 => ?_) (fun b2 => ?_)
  · exact Sm.ret (r := ()) dX1_repeat_99 trivial rfl
  · refine Sm.aload_n dX1_repeat_39 rfl rfl rfl ?_
    refine Sm.iload_n dX1_repeat_40 rfl rfl rfl ?_
    refine Sm.iload_n dX1_repeat_41 rfl rfl rfl ?_
    refine Sm.ck (fun o3 => ?_)
    refine kc_X1_25 o3 dX1_repeat_42 rfl (Nat.le_of_ble_eq_true rfl) (Nat.le_of_ble_eq_true rfl) rfl (fun v4 h5 => ?_)
    refine Sm.lstore (lv' := [.ref l0, .int l1, .null, .int l3, .long v4, .null, .null, .null, .null]) dX1_repeat_45 (Nat.le_of_ble_eq_true rfl) rfl rfl ?_
    refine Sm.iconst dX1_repeat_47 ic_0 rfl ?_
    refine Sm.istore (lv' := [.ref l0, .int l1, .null, .int l3, .long v4, .null, .int (0 : Int32), .null, .null]) dX1_repeat_48 (Nat.le_of_ble_eq_true rfl) rfl rfl ?_
    exact Sm.wk (Sm.loop (σ := Int32 × Hp) (LV := fun s => [.ref l0, .int l1, .null, .int l3, .long v4, .null, .int s.1, .null, .null]) (HH := fun s => s.2) (fun k hk s => t_X1_repeat_50 l0 l1 l3 v4 s.1 s.2 k33 hk33 k hk) 5000 ((0 : Int32), h5)) ⟨Or.inr rfl, Or.inr rfl, Or.inl rfl, Or.inr rfl, Or.inr rfl, Or.inl rfl, Or.inr rfl, Or.inl rfl, Or.inl rfl, trivial⟩
def f_X1_repeat_2 (k2 : (Int32 × Hp) → Option (Unit × Hp)) (l0 : Nat) (l1 : Int32) (l2 : Int32) (l3 : Int32) (h : Hp) : Option (Unit × Hp) :=
  (if (64 : Int32) ≤ l3 then
(loopN (fun k s => f_X1_repeat_33 k l0 l1 s.1 s.2) 5000 ((0 : Int32), h))
else
(ck h l0 1
(bd (f_X1_imageOf l0 l2 l3 h) fun v19 h20 =>
(bd (f_X9_alone l3 h20) fun v21 h22 =>
(ck h22 l0 1
(bd (f_X1_assign l0 l1 l3 (v19 ||| v21) h22) fun _ h24 =>
(nm (l3 + (1 : Int32)) fun v25 =>
(k2 (v25, h24)))))))))
set_option maxRecDepth 20000 in
theorem t_X1_repeat_2 (l0 : Nat) (l1 : Int32) (l2 : Int32) (l3 : Int32) (h : Hp) (k2 : (Int32 × Hp) → Option (Unit × Hp)) (hk2 : ∀ s : Int32 × Hp, Sm rvV g_X1_repeat 2 [.ref l0, .int l1, .int l2, .int s.1, .null, .null, .null, .null, .null] [] s.2 (k2 s)) : Sm rvV g_X1_repeat 2 [.ref l0, .int l1, .int l2, .int l3, .null, .null, .null, .null, .null] [] h (f_X1_repeat_2 k2 l0 l1 l2 l3 h) := by
  unfold f_X1_repeat_2
  refine Sm.iload_n dX1_repeat_2 rfl rfl rfl ?_
  refine Sm.bipush dX1_repeat_3 bp_64 rfl ?_
  refine Sm.icmp_ge (t := 31) dX1_repeat_5 (by decide) rfl (fun b1 => ?_) (fun b1 => ?_)
  · refine Sm.iconst dX1_repeat_31 ic_0 rfl ?_
    refine Sm.istore_n (lv' := [.ref l0, .int l1, .int l2, .int (0 : Int32), .null, .null, .null, .null, .null]) dX1_repeat_32 rfl (Nat.le_of_ble_eq_true rfl) rfl rfl ?_
    exact Sm.wk (Sm.loop (σ := Int32 × Hp) (LV := fun s => [.ref l0, .int l1, .null, .int s.1, .null, .null, .null, .null, .null]) (HH := fun s => s.2) (fun k hk s => t_X1_repeat_33 l0 l1 s.1 s.2 k hk) 5000 ((0 : Int32), h)) ⟨Or.inr rfl, Or.inr rfl, Or.inl rfl, Or.inr rfl, Or.inl rfl, Or.inl rfl, Or.inl rfl, Or.inl rfl, Or.inl rfl, trivial⟩
  · refine Sm.aload_n dX1_repeat_8 rfl rfl rfl ?_
    refine Sm.iload_n dX1_repeat_9 rfl rfl rfl ?_
    refine Sm.iload_n dX1_repeat_10 rfl rfl rfl ?_
    refine Sm.aload_n dX1_repeat_11 rfl rfl rfl ?_
    refine Sm.iload_n dX1_repeat_12 rfl rfl rfl ?_
    refine Sm.iload_n dX1_repeat_13 rfl rfl rfl ?_
    refine Sm.ck (fun o18 => ?_)
    refine kc_X1_25 o18 dX1_repeat_14 rfl (Nat.le_of_ble_eq_true rfl) (Nat.le_of_ble_eq_true rfl) rfl (fun v19 h20 => ?_)
    refine Sm.iload_n dX1_repeat_17 rfl rfl rfl ?_
    refine kc_X1_77 dX1_repeat_18 rfl (Nat.le_of_ble_eq_true rfl) (Nat.le_of_ble_eq_true rfl) rfl (fun v21 h22 => ?_)
    refine Sm.lor dX1_repeat_21 rfl ?_
    refine Sm.ck (fun o23 => ?_)
    refine kc_X1_81 o23 dX1_repeat_22 rfl (Nat.le_of_ble_eq_true rfl) (Nat.le_of_ble_eq_true rfl) rfl (fun _ h24 => ?_)
    refine Sm.iinc (lv' := [.ref l0, .int l1, .int l2, .int (l3 + (1 : Int32)), .null, .null, .null, .null, .null]) dX1_repeat_25 rfl ic_1 rfl rfl ?_
    refine Sm.nm (LV := fun v25 => [.ref l0, .int l1, .int l2, .int v25, .null, .null, .null, .null, .null]) (ST := fun v25 => []) (fun v25 => ?_)
    refine Sm.goto (t := 2) dX1_repeat_28 (by decide) ?_
    exact Sm.wk (hk2 (v25, h24)) ⟨Or.inr rfl, Or.inr rfl, Or.inr rfl, Or.inr rfl, Or.inl rfl, Or.inl rfl, Or.inl rfl, Or.inl rfl, Or.inl rfl, trivial⟩
def f_X1_repeat (l0 : Nat) (l1 : Int32) (l2 : Int32) (h : Hp) : Option (Unit × Hp) :=
  (loopN (fun k s => f_X1_repeat_2 k l0 l1 l2 s.1 s.2) 5000 ((0 : Int32), h))
set_option maxRecDepth 20000 in
theorem t_X1_repeat (l0 : Nat) (l1 : Int32) (l2 : Int32) (h : Hp) : Sm rvV g_X1_repeat 0 (ent 9 [.ref l0, .int l1, .int l2]) [] h (f_X1_repeat l0 l1 l2 h) := by
  show Sm rvV g_X1_repeat 0 [.ref l0, .int l1, .int l2, .null, .null, .null, .null, .null, .null] [] h _
  unfold f_X1_repeat
  refine Sm.iconst dX1_repeat_0 ic_0 rfl ?_
  refine Sm.istore_n (lv' := [.ref l0, .int l1, .int l2, .int (0 : Int32), .null, .null, .null, .null, .null]) dX1_repeat_1 rfl (Nat.le_of_ble_eq_true rfl) rfl rfl ?_
  exact Sm.wk (Sm.loop (σ := Int32 × Hp) (LV := fun s => [.ref l0, .int l1, .int l2, .int s.1, .null, .null, .null, .null, .null]) (HH := fun s => s.2) (fun k hk s => t_X1_repeat_2 l0 l1 l2 s.1 s.2 k hk) 5000 ((0 : Int32), h)) ⟨Or.inr rfl, Or.inr rfl, Or.inr rfl, Or.inr rfl, Or.inl rfl, Or.inl rfl, Or.inl rfl, Or.inl rfl, Or.inl rfl, trivial⟩
set_option maxRecDepth 20000 in
theorem kc_X1_50 {ρ : Type} {rv : ρ → Option Value} {G : Gx} {pc q : Nat} {lv st : List Value} {h : Hp} {a : Nat} {x1 : Int32} {x2 : Int32} {e : Unit → Hp → Option (ρ × Hp)} (hk : isO h a 1) (d : decode G.2.1 pc = .ok (.invokevirtual 50, 3)) (ho : G.1.cls = RX1) (hdep : (g_X1_repeat).2.2.2.2 < G.2.2.2.2) (hcat : catS st ≤ 8) (hq : pc + 3 = q) (k : ∀ r h1, Sm rv G q lv (st) h1 (e r h1)) : Sm rv G pc lv (.int x2 :: .int x1 :: .ref a :: st) h (bd (f_X1_repeat a x1 x2 h) e) :=
  Sm.callV (rv' := rvV) (args := [.int x1, .int x2]) (n := 2) (t_X1_repeat a x1 x2 h) hk (by decide) (r := (RX1, TX1, 1)) rfl rfl ho mw_537 mw_539 mp_34 mw_5 mw_540 ⟨⟨by decide, rfl, hdep, Nat.le_of_ble_eq_true rfl⟩, Nat.le_of_ble_eq_true rfl, rfl, ⟨by decide, by decide⟩, hcat⟩ (by decide +kernel) (by intro v hv; simp only [List.mem_cons, List.not_mem_nil, or_false] at hv; rcases hv with rfl | rfl <;> intro x hx <;> cases hx) d hq k rfl
abbrev g_X1_negate : Gx := (yX1_negate, cX1_negate, 4, (Option.none : Option FieldType), 1)
def f_X1_negate_30 (k2 : (Int32 × Hp) → Option (Unit × Hp)) (l0 : Nat) (l1 : Int32) (l2 : Int32) (l3 : Int32) (s0 : Nat) (s1 : Int32) (s2 : Int32) (s3 : Int64) (h : Hp) : Option (Unit × Hp) :=
  (ck h s0 1
(bd (f_X1_assign s0 s1 s2 s3 h) fun _ h9 =>
(nm (l3 + (1 : Int32)) fun v10 =>
(k2 (v10, h9)))))
set_option maxRecDepth 20000 in
theorem t_X1_negate_30 (l0 : Nat) (l1 : Int32) (l2 : Int32) (l3 : Int32) (s0 : Nat) (s1 : Int32) (s2 : Int32) (s3 : Int64) (h : Hp) (k2 : (Int32 × Hp) → Option (Unit × Hp)) (hk2 : ∀ s : Int32 × Hp, Sm rvV g_X1_negate 2 [.ref l0, .int l1, .int l2, .int s.1] [] s.2 (k2 s)) : Sm rvV g_X1_negate 30 [.ref l0, .int l1, .int l2, .int l3] [.long s3, .int s2, .int s1, .ref s0] h (f_X1_negate_30 k2 l0 l1 l2 l3 s0 s1 s2 s3 h) := by
  unfold f_X1_negate_30
  refine Sm.ck (fun o8 => ?_)
  refine kc_X1_81 o8 dX1_negate_30 rfl (Nat.le_of_ble_eq_true rfl) (Nat.le_of_ble_eq_true rfl) rfl (fun _ h9 => ?_)
  refine Sm.iinc (lv' := [.ref l0, .int l1, .int l2, .int (l3 + (1 : Int32))]) dX1_negate_33 rfl ic_1 rfl rfl ?_
  refine Sm.nm (LV := fun v10 => [.ref l0, .int l1, .int l2, .int v10]) (ST := fun v10 => []) (fun v10 => ?_)
  refine Sm.goto (t := 2) dX1_negate_36 (by decide) ?_
  exact Sm.wk (hk2 (v10, h9)) ⟨Or.inr rfl, Or.inr rfl, Or.inr rfl, Or.inr rfl, trivial⟩
def f_X1_negate_2 (k2 : (Int32 × Hp) → Option (Unit × Hp)) (l0 : Nat) (l1 : Int32) (l2 : Int32) (l3 : Int32) (h : Hp) : Option (Unit × Hp) :=
  (if (64 : Int32) ≤ l3 then
(some ((), h))
else
(ck h l0 1
(bd (f_X1_imageOf l0 l2 l3 h) fun v3 h4 =>
(if (lg_cmp v3 (0 : Int64)) = 0 then
(bd (f_X9_alone l3 h4) fun v6 h7 =>
(f_X1_negate_30 k2 l0 l1 l2 l3 l0 l1 l3 v6 h7))
else
(f_X1_negate_30 k2 l0 l1 l2 l3 l0 l1 l3 (0 : Int64) h4)))))
set_option maxRecDepth 20000 in
theorem t_X1_negate_2 (l0 : Nat) (l1 : Int32) (l2 : Int32) (l3 : Int32) (h : Hp) (k2 : (Int32 × Hp) → Option (Unit × Hp)) (hk2 : ∀ s : Int32 × Hp, Sm rvV g_X1_negate 2 [.ref l0, .int l1, .int l2, .int s.1] [] s.2 (k2 s)) : Sm rvV g_X1_negate 2 [.ref l0, .int l1, .int l2, .int l3] [] h (f_X1_negate_2 k2 l0 l1 l2 l3 h) := by
  unfold f_X1_negate_2
  refine Sm.iload_n dX1_negate_2 rfl rfl rfl ?_
  refine Sm.bipush dX1_negate_3 bp_64 rfl ?_
  refine Sm.icmp_ge (t := 39) dX1_negate_5 (by decide) rfl (fun b1 => ?_) (fun b1 => ?_)
  · exact Sm.ret (r := ()) dX1_negate_39 trivial rfl
  · refine Sm.aload_n dX1_negate_8 rfl rfl rfl ?_
    refine Sm.iload_n dX1_negate_9 rfl rfl rfl ?_
    refine Sm.iload_n dX1_negate_10 rfl rfl rfl ?_
    refine Sm.aload_n dX1_negate_11 rfl rfl rfl ?_
    refine Sm.iload_n dX1_negate_12 rfl rfl rfl ?_
    refine Sm.iload_n dX1_negate_13 rfl rfl rfl ?_
    refine Sm.ck (fun o2 => ?_)
    refine kc_X1_25 o2 dX1_negate_14 rfl (Nat.le_of_ble_eq_true rfl) (Nat.le_of_ble_eq_true rfl) rfl (fun v3 h4 => ?_)
    refine Sm.lconst (v := (0 : Int64)) dX1_negate_17 (by decide) rfl ?_
    refine Sm.lcmp dX1_negate_18 rfl ?_
    refine Sm.if_ne (t := 29) dX1_negate_19 (by decide) rfl (fun b5 => ?_) (fun b5 => ?_)
    · refine Sm.iload_n dX1_negate_22 rfl rfl rfl ?_
      refine kc_X1_77 dX1_negate_23 rfl (Nat.le_of_ble_eq_true rfl) (Nat.le_of_ble_eq_true rfl) rfl (fun v6 h7 => ?_)
      refine Sm.goto (t := 30) dX1_negate_26 (by decide) ?_
      exact Sm.wk (t_X1_negate_30 l0 l1 l2 l3 l0 l1 l3 v6 h7 k2 hk2) ⟨Or.inr rfl, Or.inr rfl, Or.inr rfl, Or.inr rfl, trivial⟩
    · refine Sm.lconst (v := (0 : Int64)) dX1_negate_29 (by decide) rfl ?_
      exact Sm.wk (t_X1_negate_30 l0 l1 l2 l3 l0 l1 l3 (0 : Int64) h4 k2 hk2) ⟨Or.inr rfl, Or.inr rfl, Or.inr rfl, Or.inr rfl, trivial⟩
def f_X1_negate (l0 : Nat) (l1 : Int32) (l2 : Int32) (h : Hp) : Option (Unit × Hp) :=
  (loopN (fun k s => f_X1_negate_2 k l0 l1 l2 s.1 s.2) 5000 ((0 : Int32), h))
set_option maxRecDepth 20000 in
theorem t_X1_negate (l0 : Nat) (l1 : Int32) (l2 : Int32) (h : Hp) : Sm rvV g_X1_negate 0 (ent 4 [.ref l0, .int l1, .int l2]) [] h (f_X1_negate l0 l1 l2 h) := by
  show Sm rvV g_X1_negate 0 [.ref l0, .int l1, .int l2, .null] [] h _
  unfold f_X1_negate
  refine Sm.iconst dX1_negate_0 ic_0 rfl ?_
  refine Sm.istore_n (lv' := [.ref l0, .int l1, .int l2, .int (0 : Int32)]) dX1_negate_1 rfl (Nat.le_of_ble_eq_true rfl) rfl rfl ?_
  exact Sm.wk (Sm.loop (σ := Int32 × Hp) (LV := fun s => [.ref l0, .int l1, .int l2, .int s.1]) (HH := fun s => s.2) (fun k hk s => t_X1_negate_2 l0 l1 l2 s.1 s.2 k hk) 5000 ((0 : Int32), h)) ⟨Or.inr rfl, Or.inr rfl, Or.inr rfl, Or.inr rfl, trivial⟩
set_option maxRecDepth 20000 in
theorem kc_X1_54 {ρ : Type} {rv : ρ → Option Value} {G : Gx} {pc q : Nat} {lv st : List Value} {h : Hp} {a : Nat} {x1 : Int32} {x2 : Int32} {e : Unit → Hp → Option (ρ × Hp)} (hk : isO h a 1) (d : decode G.2.1 pc = .ok (.invokevirtual 54, 3)) (ho : G.1.cls = RX1) (hdep : (g_X1_negate).2.2.2.2 < G.2.2.2.2) (hcat : catS st ≤ 8) (hq : pc + 3 = q) (k : ∀ r h1, Sm rv G q lv (st) h1 (e r h1)) : Sm rv G pc lv (.int x2 :: .int x1 :: .ref a :: st) h (bd (f_X1_negate a x1 x2 h) e) :=
  Sm.callV (rv' := rvV) (args := [.int x1, .int x2]) (n := 2) (t_X1_negate a x1 x2 h) hk (by decide) (r := (RX1, TX1, 1)) rfl rfl ho mw_547 mw_549 mp_35 mw_5 mw_550 ⟨⟨by decide, rfl, hdep, Nat.le_of_ble_eq_true rfl⟩, Nat.le_of_ble_eq_true rfl, rfl, ⟨by decide, by decide⟩, hcat⟩ (by decide +kernel) (by intro v hv; simp only [List.mem_cons, List.not_mem_nil, or_false] at hv; rcases hv with rfl | rfl <;> intro x hx <;> cases hx) d hq k rfl
abbrev g_X1_choose : Gx := (yX1_choose, cX1_choose, 6, (Option.none : Option FieldType), 1)
def f_X1_choose_33 (k3 : (Int32 × Hp) → Option (Unit × Hp)) (l0 : Nat) (l1 : Int32) (l2 : Int32) (l3 : Int32) (l4 : Int32) (l5 : Int32) (s0 : Nat) (s1 : Int32) (s2 : Int32) (s3 : Nat) (s4 : Int32) (h : Hp) : Option (Unit × Hp) :=
  (ck h s3 1
(bd (f_X1_imageOf s3 s4 l5 h) fun v7 h8 =>
(ck h8 s0 1
(bd (f_X1_assign s0 s1 s2 v7 h8) fun _ h10 =>
(nm (l5 + (1 : Int32)) fun v11 =>
(k3 (v11, h10)))))))
set_option maxRecDepth 20000 in
theorem t_X1_choose_33 (l0 : Nat) (l1 : Int32) (l2 : Int32) (l3 : Int32) (l4 : Int32) (l5 : Int32) (s0 : Nat) (s1 : Int32) (s2 : Int32) (s3 : Nat) (s4 : Int32) (h : Hp) (k3 : (Int32 × Hp) → Option (Unit × Hp)) (hk3 : ∀ s : Int32 × Hp, Sm rvV g_X1_choose 3 [.ref l0, .int l1, .int l2, .int l3, .int l4, .int s.1] [] s.2 (k3 s)) : Sm rvV g_X1_choose 33 [.ref l0, .int l1, .int l2, .int l3, .int l4, .int l5] [.int s4, .ref s3, .int s2, .int s1, .ref s0] h (f_X1_choose_33 k3 l0 l1 l2 l3 l4 l5 s0 s1 s2 s3 s4 h) := by
  unfold f_X1_choose_33
  refine Sm.iload dX1_choose_33 rfl rfl ?_
  refine Sm.ck (fun o6 => ?_)
  refine kc_X1_25 o6 dX1_choose_35 rfl (Nat.le_of_ble_eq_true rfl) (Nat.le_of_ble_eq_true rfl) rfl (fun v7 h8 => ?_)
  refine Sm.ck (fun o9 => ?_)
  refine kc_X1_81 o9 dX1_choose_38 rfl (Nat.le_of_ble_eq_true rfl) (Nat.le_of_ble_eq_true rfl) rfl (fun _ h10 => ?_)
  refine Sm.iinc (lv' := [.ref l0, .int l1, .int l2, .int l3, .int l4, .int (l5 + (1 : Int32))]) dX1_choose_41 rfl ic_1 rfl rfl ?_
  refine Sm.nm (LV := fun v11 => [.ref l0, .int l1, .int l2, .int l3, .int l4, .int v11]) (ST := fun v11 => []) (fun v11 => ?_)
  refine Sm.goto (t := 3) dX1_choose_44 (by decide) ?_
  exact Sm.wk (hk3 (v11, h10)) ⟨Or.inr rfl, Or.inr rfl, Or.inr rfl, Or.inr rfl, Or.inr rfl, Or.inr rfl, trivial⟩
def f_X1_choose_3 (k3 : (Int32 × Hp) → Option (Unit × Hp)) (l0 : Nat) (l1 : Int32) (l2 : Int32) (l3 : Int32) (l4 : Int32) (l5 : Int32) (h : Hp) : Option (Unit × Hp) :=
  (if (64 : Int32) ≤ l5 then
(some ((), h))
else
(ck h l0 1
(bd (f_X1_imageOf l0 l2 l5 h) fun v3 h4 =>
(if (lg_cmp v3 (0 : Int64)) = 0 then
(f_X1_choose_33 k3 l0 l1 l2 l3 l4 l5 l0 l1 l5 l0 l4 h4)
else
(f_X1_choose_33 k3 l0 l1 l2 l3 l4 l5 l0 l1 l5 l0 l3 h4)))))
set_option maxRecDepth 20000 in
theorem t_X1_choose_3 (l0 : Nat) (l1 : Int32) (l2 : Int32) (l3 : Int32) (l4 : Int32) (l5 : Int32) (h : Hp) (k3 : (Int32 × Hp) → Option (Unit × Hp)) (hk3 : ∀ s : Int32 × Hp, Sm rvV g_X1_choose 3 [.ref l0, .int l1, .int l2, .int l3, .int l4, .int s.1] [] s.2 (k3 s)) : Sm rvV g_X1_choose 3 [.ref l0, .int l1, .int l2, .int l3, .int l4, .int l5] [] h (f_X1_choose_3 k3 l0 l1 l2 l3 l4 l5 h) := by
  unfold f_X1_choose_3
  refine Sm.iload dX1_choose_3 rfl rfl ?_
  refine Sm.bipush dX1_choose_5 bp_64 rfl ?_
  refine Sm.icmp_ge (t := 47) dX1_choose_7 (by decide) rfl (fun b1 => ?_) (fun b1 => ?_)
  · exact Sm.ret (r := ()) dX1_choose_47 trivial rfl
  · refine Sm.aload_n dX1_choose_10 rfl rfl rfl ?_
    refine Sm.iload_n dX1_choose_11 rfl rfl rfl ?_
    refine Sm.iload dX1_choose_12 rfl rfl ?_
    refine Sm.aload_n dX1_choose_14 rfl rfl rfl ?_
    refine Sm.aload_n dX1_choose_15 rfl rfl rfl ?_
    refine Sm.iload_n dX1_choose_16 rfl rfl rfl ?_
    refine Sm.iload dX1_choose_17 rfl rfl ?_
    refine Sm.ck (fun o2 => ?_)
    refine kc_X1_25 o2 dX1_choose_19 rfl (Nat.le_of_ble_eq_true rfl) (Nat.le_of_ble_eq_true rfl) rfl (fun v3 h4 => ?_)
    refine Sm.lconst (v := (0 : Int64)) dX1_choose_22 (by decide) rfl ?_
    refine Sm.lcmp dX1_choose_23 rfl ?_
    refine Sm.if_eq (t := 31) dX1_choose_24 (by decide) rfl (fun b5 => ?_) (fun b5 => ?_)
    · refine Sm.iload dX1_choose_31 rfl rfl ?_
      exact Sm.wk (t_X1_choose_33 l0 l1 l2 l3 l4 l5 l0 l1 l5 l0 l4 h4 k3 hk3) ⟨Or.inr rfl, Or.inr rfl, Or.inr rfl, Or.inr rfl, Or.inr rfl, Or.inr rfl, trivial⟩
    · refine Sm.iload_n dX1_choose_27 rfl rfl rfl ?_
      refine Sm.goto (t := 33) dX1_choose_28 (by decide) ?_
      exact Sm.wk (t_X1_choose_33 l0 l1 l2 l3 l4 l5 l0 l1 l5 l0 l3 h4 k3 hk3) ⟨Or.inr rfl, Or.inr rfl, Or.inr rfl, Or.inr rfl, Or.inr rfl, Or.inr rfl, trivial⟩
def f_X1_choose (l0 : Nat) (l1 : Int32) (l2 : Int32) (l3 : Int32) (l4 : Int32) (h : Hp) : Option (Unit × Hp) :=
  (loopN (fun k s => f_X1_choose_3 k l0 l1 l2 l3 l4 s.1 s.2) 5000 ((0 : Int32), h))
set_option maxRecDepth 20000 in
theorem t_X1_choose (l0 : Nat) (l1 : Int32) (l2 : Int32) (l3 : Int32) (l4 : Int32) (h : Hp) : Sm rvV g_X1_choose 0 (ent 6 [.ref l0, .int l1, .int l2, .int l3, .int l4]) [] h (f_X1_choose l0 l1 l2 l3 l4 h) := by
  show Sm rvV g_X1_choose 0 [.ref l0, .int l1, .int l2, .int l3, .int l4, .null] [] h _
  unfold f_X1_choose
  refine Sm.iconst dX1_choose_0 ic_0 rfl ?_
  refine Sm.istore (lv' := [.ref l0, .int l1, .int l2, .int l3, .int l4, .int (0 : Int32)]) dX1_choose_1 (Nat.le_of_ble_eq_true rfl) rfl rfl ?_
  exact Sm.wk (Sm.loop (σ := Int32 × Hp) (LV := fun s => [.ref l0, .int l1, .int l2, .int l3, .int l4, .int s.1]) (HH := fun s => s.2) (fun k hk s => t_X1_choose_3 l0 l1 l2 l3 l4 s.1 s.2 k hk) 5000 ((0 : Int32), h)) ⟨Or.inr rfl, Or.inr rfl, Or.inr rfl, Or.inr rfl, Or.inr rfl, Or.inr rfl, trivial⟩
set_option maxRecDepth 20000 in
theorem kc_X1_57 {ρ : Type} {rv : ρ → Option Value} {G : Gx} {pc q : Nat} {lv st : List Value} {h : Hp} {a : Nat} {x1 : Int32} {x2 : Int32} {x3 : Int32} {x4 : Int32} {e : Unit → Hp → Option (ρ × Hp)} (hk : isO h a 1) (d : decode G.2.1 pc = .ok (.invokevirtual 57, 3)) (ho : G.1.cls = RX1) (hdep : (g_X1_choose).2.2.2.2 < G.2.2.2.2) (hcat : catS st ≤ 8) (hq : pc + 3 = q) (k : ∀ r h1, Sm rv G q lv (st) h1 (e r h1)) : Sm rv G pc lv (.int x4 :: .int x3 :: .int x2 :: .int x1 :: .ref a :: st) h (bd (f_X1_choose a x1 x2 x3 x4 h) e) :=
  Sm.callV (rv' := rvV) (args := [.int x1, .int x2, .int x3, .int x4]) (n := 4) (t_X1_choose a x1 x2 x3 x4 h) hk (by decide) (r := (RX1, TX1, 1)) rfl rfl ho mw_551 mw_553 mp_36 mw_5 mw_554 ⟨⟨by decide, rfl, hdep, Nat.le_of_ble_eq_true rfl⟩, Nat.le_of_ble_eq_true rfl, rfl, ⟨by decide, by decide⟩, hcat⟩ (by decide +kernel) (by intro v hv; simp only [List.mem_cons, List.not_mem_nil, or_false] at hv; rcases hv with rfl | rfl | rfl | rfl <;> intro x hx <;> cases hx) d hq k rfl
abbrev g_X4_fieldAt : Gx := (yX4_fieldAt, cX4_fieldAt, 2, (Option.some FieldType.int), 1)
def f_X4_fieldAt (l0 : Nat) (l1 : Int32) (h : Hp) : Option (Int32 × Hp) :=
  (ck h l0 4
(bd (f_X4_nodeAt l0 l1 h) fun v2 h3 =>
(some (((v2 >>> ((2 : Int32) &&& 31)) &&& (3 : Int32)), h3))))
set_option maxRecDepth 20000 in
theorem t_X4_fieldAt (l0 : Nat) (l1 : Int32) (h : Hp) : Sm rvI g_X4_fieldAt 0 (ent 2 [.ref l0, .int l1]) [] h (f_X4_fieldAt l0 l1 h) := by
  show Sm rvI g_X4_fieldAt 0 [.ref l0, .int l1] [] h _
  unfold f_X4_fieldAt
  refine Sm.aload_n dX4_fieldAt_0 rfl rfl rfl ?_
  refine Sm.iload_n dX4_fieldAt_1 rfl rfl rfl ?_
  refine Sm.ck (fun o1 => ?_)
  refine kc_X4_30 o1 dX4_fieldAt_2 rfl (Nat.le_of_ble_eq_true rfl) (Nat.le_of_ble_eq_true rfl) rfl (fun v2 h3 => ?_)
  refine Sm.iconst dX4_fieldAt_5 ic_2 rfl ?_
  refine Sm.ishr dX4_fieldAt_6 rfl ?_
  refine Sm.iconst dX4_fieldAt_7 ic_3 rfl ?_
  refine Sm.iand dX4_fieldAt_8 rfl ?_
  exact Sm.ret dX4_fieldAt_9 trivial rfl
set_option maxRecDepth 20000 in
theorem kc_X5_81 {ρ : Type} {rv : ρ → Option Value} {G : Gx} {pc q : Nat} {lv st : List Value} {h : Hp} {a : Nat} {x1 : Int32} {e : Int32 → Hp → Option (ρ × Hp)} (hk : isO h a 4) (d : decode G.2.1 pc = .ok (.invokevirtual 81, 3)) (ho : G.1.cls = RX5) (hdep : (g_X4_fieldAt).2.2.2.2 < G.2.2.2.2) (hcat : catS st ≤ 8) (hq : pc + 3 = q) (k : ∀ r h1, Sm rv G q lv (.int r :: st) h1 (e r h1)) : Sm rv G pc lv (.int x1 :: .ref a :: st) h (bd (f_X4_fieldAt a x1 h) e) :=
  Sm.callV (rv' := rvI) (args := [.int x1]) (n := 1) (t_X4_fieldAt a x1 h) hk (by decide) (r := (RX4, TX4, 4)) rfl rfl ho mw_478 mw_479 mw_480 mw_3 mw_481 ⟨⟨by decide, rfl, hdep, Nat.le_of_ble_eq_true rfl⟩, Nat.le_of_ble_eq_true rfl, rfl, ⟨by decide, by decide⟩, hcat⟩ (by decide +kernel) (by intro v hv; simp only [List.mem_cons, List.not_mem_nil, or_false] at hv; rcases hv with rfl <;> intro x hx <;> cases hx) d hq k rfl
set_option maxRecDepth 20000 in
theorem kc_X1_64 {ρ : Type} {rv : ρ → Option Value} {G : Gx} {pc q : Nat} {lv st : List Value} {h : Hp} {a : Nat} {x1 : Int32} {e : Int32 → Hp → Option (ρ × Hp)} (hk : isO h a 4) (d : decode G.2.1 pc = .ok (.invokevirtual 64, 3)) (ho : G.1.cls = RX1) (hdep : (g_X4_fieldAt).2.2.2.2 < G.2.2.2.2) (hcat : catS st ≤ 8) (hq : pc + 3 = q) (k : ∀ r h1, Sm rv G q lv (.int r :: st) h1 (e r h1)) : Sm rv G pc lv (.int x1 :: .ref a :: st) h (bd (f_X4_fieldAt a x1 h) e) :=
  Sm.callV (rv' := rvI) (args := [.int x1]) (n := 1) (t_X4_fieldAt a x1 h) hk (by decide) (r := (RX4, TX4, 4)) rfl rfl ho mw_559 mw_479 mw_480 mw_3 mw_481 ⟨⟨by decide, rfl, hdep, Nat.le_of_ble_eq_true rfl⟩, Nat.le_of_ble_eq_true rfl, rfl, ⟨by decide, by decide⟩, hcat⟩ (by decide +kernel) (by intro v hv; simp only [List.mem_cons, List.not_mem_nil, or_false] at hv; rcases hv with rfl <;> intro x hx <;> cases hx) d hq k rfl
abbrev g_X4_valueAt : Gx := (yX4_valueAt, cX4_valueAt, 2, (Option.some FieldType.int), 1)
def f_X4_valueAt (l0 : Nat) (l1 : Int32) (h : Hp) : Option (Int32 × Hp) :=
  (ck h l0 4
(bd (f_X4_nodeAt l0 l1 h) fun v2 h3 =>
(some ((v2 &&& (3 : Int32)), h3))))
set_option maxRecDepth 20000 in
theorem t_X4_valueAt (l0 : Nat) (l1 : Int32) (h : Hp) : Sm rvI g_X4_valueAt 0 (ent 2 [.ref l0, .int l1]) [] h (f_X4_valueAt l0 l1 h) := by
  show Sm rvI g_X4_valueAt 0 [.ref l0, .int l1] [] h _
  unfold f_X4_valueAt
  refine Sm.aload_n dX4_valueAt_0 rfl rfl rfl ?_
  refine Sm.iload_n dX4_valueAt_1 rfl rfl rfl ?_
  refine Sm.ck (fun o1 => ?_)
  refine kc_X4_30 o1 dX4_valueAt_2 rfl (Nat.le_of_ble_eq_true rfl) (Nat.le_of_ble_eq_true rfl) rfl (fun v2 h3 => ?_)
  refine Sm.iconst dX4_valueAt_5 ic_3 rfl ?_
  refine Sm.iand dX4_valueAt_6 rfl ?_
  exact Sm.ret dX4_valueAt_7 trivial rfl
set_option maxRecDepth 20000 in
theorem kc_X5_84 {ρ : Type} {rv : ρ → Option Value} {G : Gx} {pc q : Nat} {lv st : List Value} {h : Hp} {a : Nat} {x1 : Int32} {e : Int32 → Hp → Option (ρ × Hp)} (hk : isO h a 4) (d : decode G.2.1 pc = .ok (.invokevirtual 84, 3)) (ho : G.1.cls = RX5) (hdep : (g_X4_valueAt).2.2.2.2 < G.2.2.2.2) (hcat : catS st ≤ 8) (hq : pc + 3 = q) (k : ∀ r h1, Sm rv G q lv (.int r :: st) h1 (e r h1)) : Sm rv G pc lv (.int x1 :: .ref a :: st) h (bd (f_X4_valueAt a x1 h) e) :=
  Sm.callV (rv' := rvI) (args := [.int x1]) (n := 1) (t_X4_valueAt a x1 h) hk (by decide) (r := (RX4, TX4, 4)) rfl rfl ho mw_482 mw_483 mw_484 mw_3 mw_485 ⟨⟨by decide, rfl, hdep, Nat.le_of_ble_eq_true rfl⟩, Nat.le_of_ble_eq_true rfl, rfl, ⟨by decide, by decide⟩, hcat⟩ (by decide +kernel) (by intro v hv; simp only [List.mem_cons, List.not_mem_nil, or_false] at hv; rcases hv with rfl <;> intro x hx <;> cases hx) d hq k rfl
set_option maxRecDepth 20000 in
theorem kc_X1_67 {ρ : Type} {rv : ρ → Option Value} {G : Gx} {pc q : Nat} {lv st : List Value} {h : Hp} {a : Nat} {x1 : Int32} {e : Int32 → Hp → Option (ρ × Hp)} (hk : isO h a 4) (d : decode G.2.1 pc = .ok (.invokevirtual 67, 3)) (ho : G.1.cls = RX1) (hdep : (g_X4_valueAt).2.2.2.2 < G.2.2.2.2) (hcat : catS st ≤ 8) (hq : pc + 3 = q) (k : ∀ r h1, Sm rv G q lv (.int r :: st) h1 (e r h1)) : Sm rv G pc lv (.int x1 :: .ref a :: st) h (bd (f_X4_valueAt a x1 h) e) :=
  Sm.callV (rv' := rvI) (args := [.int x1]) (n := 1) (t_X4_valueAt a x1 h) hk (by decide) (r := (RX4, TX4, 4)) rfl rfl ho mw_560 mw_483 mw_484 mw_3 mw_485 ⟨⟨by decide, rfl, hdep, Nat.le_of_ble_eq_true rfl⟩, Nat.le_of_ble_eq_true rfl, rfl, ⟨by decide, by decide⟩, hcat⟩ (by decide +kernel) (by intro v hv; simp only [List.mem_cons, List.not_mem_nil, or_false] at hv; rcases hv with rfl <;> intro x hx <;> cases hx) d hq k rfl
abbrev g_X9_withValue : Gx := (yX9_withValue, cX9_withValue, 4, (Option.some FieldType.int), 1)
def f_X9_withValue (l0 : Int32) (l1 : Int32) (l2 : Int32) (h : Hp) : Option (Int32 × Hp) :=
  (bd (f_X9_shiftOf l1 h) fun v1 h2 =>
(some (((l0 &&& (((3 : Int32) <<< (v1 &&& 31)) ^^^ (-1 : Int32))) ||| (l2 <<< (v1 &&& 31))), h2)))
set_option maxRecDepth 20000 in
theorem t_X9_withValue (l0 : Int32) (l1 : Int32) (l2 : Int32) (h : Hp) : Sm rvI g_X9_withValue 0 (ent 4 [.int l0, .int l1, .int l2]) [] h (f_X9_withValue l0 l1 l2 h) := by
  show Sm rvI g_X9_withValue 0 [.int l0, .int l1, .int l2, .null] [] h _
  unfold f_X9_withValue
  refine Sm.iload_n dX9_withValue_0 rfl rfl rfl ?_
  refine kc_X9_243 dX9_withValue_1 rfl (Nat.le_of_ble_eq_true rfl) (Nat.le_of_ble_eq_true rfl) rfl (fun v1 h2 => ?_)
  refine Sm.istore_n (lv' := [.int l0, .int l1, .int l2, .int v1]) dX9_withValue_4 rfl (Nat.le_of_ble_eq_true rfl) rfl rfl ?_
  refine Sm.iload_n dX9_withValue_5 rfl rfl rfl ?_
  refine Sm.iconst dX9_withValue_6 ic_3 rfl ?_
  refine Sm.iload_n dX9_withValue_7 rfl rfl rfl ?_
  refine Sm.ishl dX9_withValue_8 rfl ?_
  refine Sm.iconst dX9_withValue_9 ic_m1 rfl ?_
  refine Sm.ixor dX9_withValue_10 rfl ?_
  refine Sm.iand dX9_withValue_11 rfl ?_
  refine Sm.iload_n dX9_withValue_12 rfl rfl rfl ?_
  refine Sm.iload_n dX9_withValue_13 rfl rfl rfl ?_
  refine Sm.ishl dX9_withValue_14 rfl ?_
  refine Sm.ior dX9_withValue_15 rfl ?_
  exact Sm.ret dX9_withValue_16 trivial rfl
set_option maxRecDepth 20000 in
theorem kc_X1_73 {ρ : Type} {rv : ρ → Option Value} {G : Gx} {pc q : Nat} {lv st : List Value} {h : Hp} {x0 : Int32} {x1 : Int32} {x2 : Int32} {e : Int32 → Hp → Option (ρ × Hp)} (d : decode G.2.1 pc = .ok (.invokestatic 73, 3)) (ho : G.1.cls = RX1) (hdep : (g_X9_withValue).2.2.2.2 < G.2.2.2.2) (hcat : catS st ≤ 8) (hq : pc + 3 = q) (k : ∀ r h1, Sm rv G q lv (.int r :: st) h1 (e r h1)) : Sm rv G pc lv (.int x2 :: .int x1 :: .int x0 :: st) h (bd (f_X9_withValue x0 x1 x2 h) e) :=
  Sm.callSN (rv' := rvI) (as := [.int x0, .int x1, .int x2]) (n := 3) (t_X9_withValue x0 x1 x2 h) ho mw_567 mw_568 mw_1 mw_569 ⟨⟨by decide, rfl, hdep, Nat.le_of_ble_eq_true rfl⟩, Nat.le_of_ble_eq_true rfl, rfl, ⟨by decide, by decide⟩, hcat⟩ (by decide +kernel) (by intro v hv; simp only [List.mem_cons, List.not_mem_nil, or_false] at hv; rcases hv with rfl | rfl | rfl <;> intro x hx <;> cases hx) d hq k rfl
abbrev g_X1_evaluateLeaf : Gx := (yX1_evaluateLeaf, cX1_evaluateLeaf, 9, (Option.none : Option FieldType), 2)
def f_X1_evaluateLeaf_103 (k23 : (Int32 × Hp) → Option (Unit × Hp)) (l0 : Nat) (l2 : Int32) (l3 : Int32) (l4 : Int32) (l5 : Int32) (l6 : Int32) (s0 : Nat) (s1 : Int32) (s2 : Int32) (s3 : Int64) (h : Hp) : Option (Unit × Hp) :=
  (ck h s0 1
(bd (f_X1_assign s0 s1 s2 s3 h) fun _ h20 =>
(nm (l6 + (1 : Int32)) fun v21 =>
(k23 (v21, h20)))))
set_option maxRecDepth 20000 in
theorem t_X1_evaluateLeaf_103 (l0 : Nat) (l2 : Int32) (l3 : Int32) (l4 : Int32) (l5 : Int32) (l6 : Int32) (s0 : Nat) (s1 : Int32) (s2 : Int32) (s3 : Int64) (h : Hp) (k23 : (Int32 × Hp) → Option (Unit × Hp)) (hk23 : ∀ s : Int32 × Hp, Sm rvV g_X1_evaluateLeaf 23 [.ref l0, .null, .int l2, .int l3, .int l4, .int l5, .int s.1, .null, .null] [] s.2 (k23 s)) : Sm rvV g_X1_evaluateLeaf 103 [.ref l0, .null, .int l2, .int l3, .int l4, .int l5, .int l6, .null, .null] [.long s3, .int s2, .int s1, .ref s0] h (f_X1_evaluateLeaf_103 k23 l0 l2 l3 l4 l5 l6 s0 s1 s2 s3 h) := by
  unfold f_X1_evaluateLeaf_103
  refine Sm.ck (fun o19 => ?_)
  refine kc_X1_81 o19 dX1_evaluateLeaf_103 rfl (Nat.le_of_ble_eq_true rfl) (Nat.le_of_ble_eq_true rfl) rfl (fun _ h20 => ?_)
  refine Sm.iinc (lv' := [.ref l0, .null, .int l2, .int l3, .int l4, .int l5, .int (l6 + (1 : Int32)), .null, .null]) dX1_evaluateLeaf_106 rfl ic_1 rfl rfl ?_
  refine Sm.nm (LV := fun v21 => [.ref l0, .null, .int l2, .int l3, .int l4, .int l5, .int v21, .null, .null]) (ST := fun v21 => []) (fun v21 => ?_)
  refine Sm.goto (t := 23) dX1_evaluateLeaf_109 (by decide) ?_
  exact Sm.wk (hk23 (v21, h20)) ⟨Or.inr rfl, Or.inl rfl, Or.inr rfl, Or.inr rfl, Or.inr rfl, Or.inr rfl, Or.inr rfl, Or.inl rfl, Or.inl rfl, trivial⟩
def f_X1_evaluateLeaf_94 (k23 : (Int32 × Hp) → Option (Unit × Hp)) (l0 : Nat) (l2 : Int32) (l3 : Int32) (l4 : Int32) (l5 : Int32) (l6 : Int32) (l8 : Int32) (s0 : Nat) (s1 : Int32) (s2 : Int32) (h : Hp) : Option (Unit × Hp) :=
  (bd (f_X9_alone l8 h) fun v17 h18 =>
(f_X1_evaluateLeaf_103 k23 l0 l2 l3 l4 l5 l6 s0 s1 s2 v17 h18))
set_option maxRecDepth 20000 in
theorem t_X1_evaluateLeaf_94 (l0 : Nat) (l2 : Int32) (l3 : Int32) (l4 : Int32) (l5 : Int32) (l6 : Int32) (l8 : Int32) (s0 : Nat) (s1 : Int32) (s2 : Int32) (h : Hp) (k23 : (Int32 × Hp) → Option (Unit × Hp)) (hk23 : ∀ s : Int32 × Hp, Sm rvV g_X1_evaluateLeaf 23 [.ref l0, .null, .int l2, .int l3, .int l4, .int l5, .int s.1, .null, .null] [] s.2 (k23 s)) : Sm rvV g_X1_evaluateLeaf 94 [.ref l0, .null, .int l2, .int l3, .int l4, .int l5, .int l6, .null, .int l8] [.int s2, .int s1, .ref s0] h (f_X1_evaluateLeaf_94 k23 l0 l2 l3 l4 l5 l6 l8 s0 s1 s2 h) := by
  unfold f_X1_evaluateLeaf_94
  refine Sm.iload dX1_evaluateLeaf_94 rfl rfl ?_
  refine kc_X1_77 dX1_evaluateLeaf_96 rfl (Nat.le_of_ble_eq_true rfl) (Nat.le_of_ble_eq_true rfl) rfl (fun v17 h18 => ?_)
  refine Sm.goto (t := 103) dX1_evaluateLeaf_99 (by decide) ?_
  exact Sm.wk (t_X1_evaluateLeaf_103 l0 l2 l3 l4 l5 l6 s0 s1 s2 v17 h18 k23 hk23) ⟨Or.inr rfl, Or.inl rfl, Or.inr rfl, Or.inr rfl, Or.inr rfl, Or.inr rfl, Or.inr rfl, Or.inl rfl, Or.inl rfl, trivial⟩
def f_X1_evaluateLeaf_78 (k23 : (Int32 × Hp) → Option (Unit × Hp)) (l0 : Nat) (l2 : Int32) (l3 : Int32) (l4 : Int32) (l5 : Int32) (l6 : Int32) (l7 : Int32) (s0 : Int32) (h : Hp) : Option (Unit × Hp) :=
  (if l7 = 0 then
(if l3 = (3 : Int32) then
(f_X1_evaluateLeaf_94 k23 l0 l2 l3 l4 l5 l6 s0 l0 l2 l6 h)
else
(f_X1_evaluateLeaf_103 k23 l0 l2 l3 l4 l5 l6 l0 l2 l6 (0 : Int64) h))
else
(f_X1_evaluateLeaf_94 k23 l0 l2 l3 l4 l5 l6 s0 l0 l2 l6 h))
set_option maxRecDepth 20000 in
theorem t_X1_evaluateLeaf_78 (l0 : Nat) (l2 : Int32) (l3 : Int32) (l4 : Int32) (l5 : Int32) (l6 : Int32) (l7 : Int32) (s0 : Int32) (h : Hp) (k23 : (Int32 × Hp) → Option (Unit × Hp)) (hk23 : ∀ s : Int32 × Hp, Sm rvV g_X1_evaluateLeaf 23 [.ref l0, .null, .int l2, .int l3, .int l4, .int l5, .int s.1, .null, .null] [] s.2 (k23 s)) : Sm rvV g_X1_evaluateLeaf 78 [.ref l0, .null, .int l2, .int l3, .int l4, .int l5, .int l6, .int l7, .null] [.int s0] h (f_X1_evaluateLeaf_78 k23 l0 l2 l3 l4 l5 l6 l7 s0 h) := by
  unfold f_X1_evaluateLeaf_78
  refine Sm.istore (lv' := [.ref l0, .null, .int l2, .int l3, .int l4, .int l5, .int l6, .int l7, .int s0]) dX1_evaluateLeaf_78 (Nat.le_of_ble_eq_true rfl) rfl rfl ?_
  refine Sm.aload_n dX1_evaluateLeaf_80 rfl rfl rfl ?_
  refine Sm.iload_n dX1_evaluateLeaf_81 rfl rfl rfl ?_
  refine Sm.iload dX1_evaluateLeaf_82 rfl rfl ?_
  refine Sm.iload dX1_evaluateLeaf_84 rfl rfl ?_
  refine Sm.if_ne (t := 94) dX1_evaluateLeaf_86 (by decide) rfl (fun b15 => ?_) (fun b15 => ?_)
  · refine Sm.iload_n dX1_evaluateLeaf_89 rfl rfl rfl ?_
    refine Sm.iconst dX1_evaluateLeaf_90 ic_3 rfl ?_
    refine Sm.icmp_ne (t := 102) dX1_evaluateLeaf_91 (by decide) rfl (fun b16 => ?_) (fun b16 => ?_)
    · exact Sm.wk (t_X1_evaluateLeaf_94 l0 l2 l3 l4 l5 l6 s0 l0 l2 l6 h k23 hk23) ⟨Or.inr rfl, Or.inl rfl, Or.inr rfl, Or.inr rfl, Or.inr rfl, Or.inr rfl, Or.inr rfl, Or.inl rfl, Or.inr rfl, trivial⟩
    · refine Sm.lconst (v := (0 : Int64)) dX1_evaluateLeaf_102 (by decide) rfl ?_
      exact Sm.wk (t_X1_evaluateLeaf_103 l0 l2 l3 l4 l5 l6 l0 l2 l6 (0 : Int64) h k23 hk23) ⟨Or.inr rfl, Or.inl rfl, Or.inr rfl, Or.inr rfl, Or.inr rfl, Or.inr rfl, Or.inr rfl, Or.inl rfl, Or.inl rfl, trivial⟩
  · exact Sm.wk (t_X1_evaluateLeaf_94 l0 l2 l3 l4 l5 l6 s0 l0 l2 l6 h k23 hk23) ⟨Or.inr rfl, Or.inl rfl, Or.inr rfl, Or.inr rfl, Or.inr rfl, Or.inr rfl, Or.inr rfl, Or.inl rfl, Or.inr rfl, trivial⟩
def f_X1_evaluateLeaf_57 (k23 : (Int32 × Hp) → Option (Unit × Hp)) (l0 : Nat) (l2 : Int32) (l3 : Int32) (l4 : Int32) (l5 : Int32) (l6 : Int32) (s0 : Int32) (h : Hp) : Option (Unit × Hp) :=
  (if l3 = (3 : Int32) then
(bd (f_X9_withValue l6 l4 l5 h) fun v13 h14 =>
(f_X1_evaluateLeaf_78 k23 l0 l2 l3 l4 l5 l6 s0 v13 h14))
else
(f_X1_evaluateLeaf_78 k23 l0 l2 l3 l4 l5 l6 s0 l6 h))
set_option maxRecDepth 20000 in
theorem t_X1_evaluateLeaf_57 (l0 : Nat) (l2 : Int32) (l3 : Int32) (l4 : Int32) (l5 : Int32) (l6 : Int32) (s0 : Int32) (h : Hp) (k23 : (Int32 × Hp) → Option (Unit × Hp)) (hk23 : ∀ s : Int32 × Hp, Sm rvV g_X1_evaluateLeaf 23 [.ref l0, .null, .int l2, .int l3, .int l4, .int l5, .int s.1, .null, .null] [] s.2 (k23 s)) : Sm rvV g_X1_evaluateLeaf 57 [.ref l0, .null, .int l2, .int l3, .int l4, .int l5, .int l6, .null, .null] [.int s0] h (f_X1_evaluateLeaf_57 k23 l0 l2 l3 l4 l5 l6 s0 h) := by
  unfold f_X1_evaluateLeaf_57
  refine Sm.istore (lv' := [.ref l0, .null, .int l2, .int l3, .int l4, .int l5, .int l6, .int s0, .null]) dX1_evaluateLeaf_57 (Nat.le_of_ble_eq_true rfl) rfl rfl ?_
  refine Sm.iload_n dX1_evaluateLeaf_59 rfl rfl rfl ?_
  refine Sm.iconst dX1_evaluateLeaf_60 ic_3 rfl ?_
  refine Sm.icmp_ne (t := 76) dX1_evaluateLeaf_61 (by decide) rfl (fun b12 => ?_) (fun b12 => ?_)
  · refine Sm.iload dX1_evaluateLeaf_64 rfl rfl ?_
    refine Sm.iload dX1_evaluateLeaf_66 rfl rfl ?_
    refine Sm.iload dX1_evaluateLeaf_68 rfl rfl ?_
    refine kc_X1_73 dX1_evaluateLeaf_70 rfl (Nat.le_of_ble_eq_true rfl) (Nat.le_of_ble_eq_true rfl) rfl (fun v13 h14 => ?_)
    refine Sm.goto (t := 78) dX1_evaluateLeaf_73 (by decide) ?_
    exact Sm.wk (t_X1_evaluateLeaf_78 l0 l2 l3 l4 l5 l6 s0 v13 h14 k23 hk23) ⟨Or.inr rfl, Or.inl rfl, Or.inr rfl, Or.inr rfl, Or.inr rfl, Or.inr rfl, Or.inr rfl, Or.inr rfl, Or.inl rfl, trivial⟩
  · refine Sm.iload dX1_evaluateLeaf_76 rfl rfl ?_
    exact Sm.wk (t_X1_evaluateLeaf_78 l0 l2 l3 l4 l5 l6 s0 l6 h k23 hk23) ⟨Or.inr rfl, Or.inl rfl, Or.inr rfl, Or.inr rfl, Or.inr rfl, Or.inr rfl, Or.inr rfl, Or.inr rfl, Or.inl rfl, trivial⟩
def f_X1_evaluateLeaf_52 (k23 : (Int32 × Hp) → Option (Unit × Hp)) (l0 : Nat) (l2 : Int32) (l3 : Int32) (l4 : Int32) (l5 : Int32) (l6 : Int32) (h : Hp) : Option (Unit × Hp) :=
  (f_X1_evaluateLeaf_57 k23 l0 l2 l3 l4 l5 l6 (1 : Int32) h)
set_option maxRecDepth 20000 in
theorem t_X1_evaluateLeaf_52 (l0 : Nat) (l2 : Int32) (l3 : Int32) (l4 : Int32) (l5 : Int32) (l6 : Int32) (h : Hp) (k23 : (Int32 × Hp) → Option (Unit × Hp)) (hk23 : ∀ s : Int32 × Hp, Sm rvV g_X1_evaluateLeaf 23 [.ref l0, .null, .int l2, .int l3, .int l4, .int l5, .int s.1, .null, .null] [] s.2 (k23 s)) : Sm rvV g_X1_evaluateLeaf 52 [.ref l0, .null, .int l2, .int l3, .int l4, .int l5, .int l6, .null, .null] [] h (f_X1_evaluateLeaf_52 k23 l0 l2 l3 l4 l5 l6 h) := by
  unfold f_X1_evaluateLeaf_52
  refine Sm.iconst dX1_evaluateLeaf_52 ic_1 rfl ?_
  refine Sm.goto (t := 57) dX1_evaluateLeaf_53 (by decide) ?_
  exact Sm.wk (t_X1_evaluateLeaf_57 l0 l2 l3 l4 l5 l6 (1 : Int32) h k23 hk23) ⟨Or.inr rfl, Or.inl rfl, Or.inr rfl, Or.inr rfl, Or.inr rfl, Or.inr rfl, Or.inr rfl, Or.inl rfl, Or.inl rfl, trivial⟩
def f_X1_evaluateLeaf_56 (k23 : (Int32 × Hp) → Option (Unit × Hp)) (l0 : Nat) (l2 : Int32) (l3 : Int32) (l4 : Int32) (l5 : Int32) (l6 : Int32) (h : Hp) : Option (Unit × Hp) :=
  (f_X1_evaluateLeaf_57 k23 l0 l2 l3 l4 l5 l6 (0 : Int32) h)
set_option maxRecDepth 20000 in
theorem t_X1_evaluateLeaf_56 (l0 : Nat) (l2 : Int32) (l3 : Int32) (l4 : Int32) (l5 : Int32) (l6 : Int32) (h : Hp) (k23 : (Int32 × Hp) → Option (Unit × Hp)) (hk23 : ∀ s : Int32 × Hp, Sm rvV g_X1_evaluateLeaf 23 [.ref l0, .null, .int l2, .int l3, .int l4, .int l5, .int s.1, .null, .null] [] s.2 (k23 s)) : Sm rvV g_X1_evaluateLeaf 56 [.ref l0, .null, .int l2, .int l3, .int l4, .int l5, .int l6, .null, .null] [] h (f_X1_evaluateLeaf_56 k23 l0 l2 l3 l4 l5 l6 h) := by
  unfold f_X1_evaluateLeaf_56
  refine Sm.iconst dX1_evaluateLeaf_56 ic_0 rfl ?_
  exact Sm.wk (t_X1_evaluateLeaf_57 l0 l2 l3 l4 l5 l6 (0 : Int32) h k23 hk23) ⟨Or.inr rfl, Or.inl rfl, Or.inr rfl, Or.inr rfl, Or.inr rfl, Or.inr rfl, Or.inr rfl, Or.inl rfl, Or.inl rfl, trivial⟩
def f_X1_evaluateLeaf_23 (k23 : (Int32 × Hp) → Option (Unit × Hp)) (l0 : Nat) (l2 : Int32) (l3 : Int32) (l4 : Int32) (l5 : Int32) (l6 : Int32) (h : Hp) : Option (Unit × Hp) :=
  (if (64 : Int32) ≤ l6 then
(some ((), h))
else
(if l3 = (1 : Int32) then
(f_X1_evaluateLeaf_52 k23 l0 l2 l3 l4 l5 l6 h)
else
(if l3 = (2 : Int32) then
(bd (f_X9_valueOf l6 l4 h) fun v23 h24 =>
(if v23 = l5 then
(f_X1_evaluateLeaf_52 k23 l0 l2 l3 l4 l5 l6 h24)
else
(f_X1_evaluateLeaf_56 k23 l0 l2 l3 l4 l5 l6 h24)))
else
(f_X1_evaluateLeaf_56 k23 l0 l2 l3 l4 l5 l6 h))))
set_option maxRecDepth 20000 in
theorem t_X1_evaluateLeaf_23 (l0 : Nat) (l2 : Int32) (l3 : Int32) (l4 : Int32) (l5 : Int32) (l6 : Int32) (h : Hp) (k23 : (Int32 × Hp) → Option (Unit × Hp)) (hk23 : ∀ s : Int32 × Hp, Sm rvV g_X1_evaluateLeaf 23 [.ref l0, .null, .int l2, .int l3, .int l4, .int l5, .int s.1, .null, .null] [] s.2 (k23 s)) : Sm rvV g_X1_evaluateLeaf 23 [.ref l0, .null, .int l2, .int l3, .int l4, .int l5, .int l6, .null, .null] [] h (f_X1_evaluateLeaf_23 k23 l0 l2 l3 l4 l5 l6 h) := by
  unfold f_X1_evaluateLeaf_23
  refine Sm.iload dX1_evaluateLeaf_23 rfl rfl ?_
  refine Sm.bipush dX1_evaluateLeaf_25 bp_64 rfl ?_
  refine Sm.icmp_ge (t := 112) dX1_evaluateLeaf_27 (by decide) rfl (fun b10 => ?_) (fun b10 => ?_)
  · exact Sm.ret (r := ()) dX1_evaluateLeaf_112 trivial rfl
  · refine Sm.iload_n dX1_evaluateLeaf_30 rfl rfl rfl ?_
    refine Sm.iconst dX1_evaluateLeaf_31 ic_1 rfl ?_
    refine Sm.icmp_eq (t := 52) dX1_evaluateLeaf_32 (by decide) rfl (fun b11 => ?_) (fun b11 => ?_)
    · exact Sm.wk (t_X1_evaluateLeaf_52 l0 l2 l3 l4 l5 l6 h k23 hk23) ⟨Or.inr rfl, Or.inl rfl, Or.inr rfl, Or.inr rfl, Or.inr rfl, Or.inr rfl, Or.inr rfl, Or.inl rfl, Or.inl rfl, trivial⟩
    · refine Sm.iload_n dX1_evaluateLeaf_35 rfl rfl rfl ?_
      refine Sm.iconst dX1_evaluateLeaf_36 ic_2 rfl ?_
      refine Sm.icmp_ne (t := 56) dX1_evaluateLeaf_37 (by decide) rfl (fun b22 => ?_) (fun b22 => ?_)
      · refine Sm.iload dX1_evaluateLeaf_40 rfl rfl ?_
        refine Sm.iload dX1_evaluateLeaf_42 rfl rfl ?_
        refine kc_X1_70 dX1_evaluateLeaf_44 rfl (Nat.le_of_ble_eq_true rfl) (Nat.le_of_ble_eq_true rfl) rfl (fun v23 h24 => ?_)
        refine Sm.iload dX1_evaluateLeaf_47 rfl rfl ?_
        refine Sm.icmp_ne (t := 56) dX1_evaluateLeaf_49 (by decide) rfl (fun b25 => ?_) (fun b25 => ?_)
        · exact Sm.wk (t_X1_evaluateLeaf_52 l0 l2 l3 l4 l5 l6 h24 k23 hk23) ⟨Or.inr rfl, Or.inl rfl, Or.inr rfl, Or.inr rfl, Or.inr rfl, Or.inr rfl, Or.inr rfl, Or.inl rfl, Or.inl rfl, trivial⟩
        · exact Sm.wk (t_X1_evaluateLeaf_56 l0 l2 l3 l4 l5 l6 h24 k23 hk23) ⟨Or.inr rfl, Or.inl rfl, Or.inr rfl, Or.inr rfl, Or.inr rfl, Or.inr rfl, Or.inr rfl, Or.inl rfl, Or.inl rfl, trivial⟩
      · exact Sm.wk (t_X1_evaluateLeaf_56 l0 l2 l3 l4 l5 l6 h k23 hk23) ⟨Or.inr rfl, Or.inl rfl, Or.inr rfl, Or.inr rfl, Or.inr rfl, Or.inr rfl, Or.inr rfl, Or.inl rfl, Or.inl rfl, trivial⟩
def f_X1_evaluateLeaf (l0 : Nat) (l1 : Nat) (l2 : Int32) (h : Hp) : Option (Unit × Hp) :=
  (ck h l1 4
(bd (f_X4_kindAt l1 l2 h) fun v2 h3 =>
(ck h3 l1 4
(bd (f_X4_fieldAt l1 l2 h3) fun v5 h6 =>
(ck h6 l1 4
(bd (f_X4_valueAt l1 l2 h6) fun v8 h9 =>
(loopN (fun k s => f_X1_evaluateLeaf_23 k l0 l2 v2 v5 v8 s.1 s.2) 5000 ((0 : Int32), h9))))))))
set_option maxRecDepth 20000 in
theorem t_X1_evaluateLeaf (l0 : Nat) (l1 : Nat) (l2 : Int32) (h : Hp) : Sm rvV g_X1_evaluateLeaf 0 (ent 9 [.ref l0, .ref l1, .int l2]) [] h (f_X1_evaluateLeaf l0 l1 l2 h) := by
  show Sm rvV g_X1_evaluateLeaf 0 [.ref l0, .ref l1, .int l2, .null, .null, .null, .null, .null, .null] [] h _
  unfold f_X1_evaluateLeaf
  refine Sm.aload_n dX1_evaluateLeaf_0 rfl rfl rfl ?_
  refine Sm.iload_n dX1_evaluateLeaf_1 rfl rfl rfl ?_
  refine Sm.ck (fun o1 => ?_)
  refine kc_X1_39 o1 dX1_evaluateLeaf_2 rfl (Nat.le_of_ble_eq_true rfl) (Nat.le_of_ble_eq_true rfl) rfl (fun v2 h3 => ?_)
  refine Sm.istore_n (lv' := [.ref l0, .ref l1, .int l2, .int v2, .null, .null, .null, .null, .null]) dX1_evaluateLeaf_5 rfl (Nat.le_of_ble_eq_true rfl) rfl rfl ?_
  refine Sm.aload_n dX1_evaluateLeaf_6 rfl rfl rfl ?_
  refine Sm.iload_n dX1_evaluateLeaf_7 rfl rfl rfl ?_
  refine Sm.ck (fun o4 => ?_)
  refine kc_X1_64 o4 dX1_evaluateLeaf_8 rfl (Nat.le_of_ble_eq_true rfl) (Nat.le_of_ble_eq_true rfl) rfl (fun v5 h6 => ?_)
  refine Sm.istore (lv' := [.ref l0, .ref l1, .int l2, .int v2, .int v5, .null, .null, .null, .null]) dX1_evaluateLeaf_11 (Nat.le_of_ble_eq_true rfl) rfl rfl ?_
  refine Sm.aload_n dX1_evaluateLeaf_13 rfl rfl rfl ?_
  refine Sm.iload_n dX1_evaluateLeaf_14 rfl rfl rfl ?_
  refine Sm.ck (fun o7 => ?_)
  refine kc_X1_67 o7 dX1_evaluateLeaf_15 rfl (Nat.le_of_ble_eq_true rfl) (Nat.le_of_ble_eq_true rfl) rfl (fun v8 h9 => ?_)
  refine Sm.istore (lv' := [.ref l0, .ref l1, .int l2, .int v2, .int v5, .int v8, .null, .null, .null]) dX1_evaluateLeaf_18 (Nat.le_of_ble_eq_true rfl) rfl rfl ?_
  refine Sm.iconst dX1_evaluateLeaf_20 ic_0 rfl ?_
  refine Sm.istore (lv' := [.ref l0, .ref l1, .int l2, .int v2, .int v5, .int v8, .int (0 : Int32), .null, .null]) dX1_evaluateLeaf_21 (Nat.le_of_ble_eq_true rfl) rfl rfl ?_
  exact Sm.wk (Sm.loop (σ := Int32 × Hp) (LV := fun s => [.ref l0, .null, .int l2, .int v2, .int v5, .int v8, .int s.1, .null, .null]) (HH := fun s => s.2) (fun k hk s => t_X1_evaluateLeaf_23 l0 l2 v2 v5 v8 s.1 s.2 k hk) 5000 ((0 : Int32), h9)) ⟨Or.inr rfl, Or.inl rfl, Or.inr rfl, Or.inr rfl, Or.inr rfl, Or.inr rfl, Or.inr rfl, Or.inl rfl, Or.inl rfl, trivial⟩
set_option maxRecDepth 20000 in
theorem kc_X1_61 {ρ : Type} {rv : ρ → Option Value} {G : Gx} {pc q : Nat} {lv st : List Value} {h : Hp} {a : Nat} {x1 : Nat} {x2 : Int32} {e : Unit → Hp → Option (ρ × Hp)} (hk : isO h a 1) (d : decode G.2.1 pc = .ok (.invokevirtual 61, 3)) (ho : G.1.cls = RX1) (hdep : (g_X1_evaluateLeaf).2.2.2.2 < G.2.2.2.2) (hcat : catS st ≤ 8) (hq : pc + 3 = q) (k : ∀ r h1, Sm rv G q lv (st) h1 (e r h1)) : Sm rv G pc lv (.int x2 :: .ref x1 :: .ref a :: st) h (bd (f_X1_evaluateLeaf a x1 x2 h) e) :=
  Sm.callV (rv' := rvV) (args := [.ref x1, .int x2]) (n := 2) (t_X1_evaluateLeaf a x1 x2 h) hk (by decide) (r := (RX1, TX1, 1)) rfl rfl ho mw_555 mw_557 mp_37 mw_5 mw_558 ⟨⟨by decide, rfl, hdep, Nat.le_of_ble_eq_true rfl⟩, Nat.le_of_ble_eq_true rfl, rfl, ⟨by decide, by decide⟩, hcat⟩ (by decide +kernel) (by intro v hv; simp only [List.mem_cons, List.not_mem_nil, or_false] at hv; rcases hv with rfl | rfl <;> intro x hx <;> cases hx) d hq k rfl
abbrev g_X1_evaluateNode : Gx := (yX1_evaluateNode, cX1_evaluateNode, 4, (Option.none : Option FieldType), 4)
def f_X1_evaluateNode (l0 : Nat) (l1 : Nat) (l2 : Int32) (h : Hp) : Option (Unit × Hp) :=
  (ck h l1 4
(bd (f_X4_operandAt l1 l2 (0 : Int32) h) fun v2 h3 =>
(ck h3 l1 4
(bd (f_X4_kindAt l1 l2 h3) fun v5 h6 =>
(if v5 = (4 : Int32) then
(ck h6 l1 4
(bd (f_X4_operandAt l1 l2 (1 : Int32) h6) fun v9 h10 =>
(ck h10 l0 1
(bd (f_X1_unite l0 l2 v9 v2 h10) fun _ h12 =>
(some ((), h12))))))
else
(if v5 = (5 : Int32) then
(ck h6 l1 4
(bd (f_X4_operandAt l1 l2 (1 : Int32) h6) fun v15 h16 =>
(ck h16 l0 1
(bd (f_X1_chain l0 l2 v15 v2 h16) fun _ h18 =>
(some ((), h18))))))
else
(if v5 = (6 : Int32) then
(ck h6 l0 1
(bd (f_X1_repeat l0 l2 v2 h6) fun _ h21 =>
(some ((), h21))))
else
(if v5 = (7 : Int32) then
(ck h6 l0 1
(bd (f_X1_negate l0 l2 v2 h6) fun _ h24 =>
(some ((), h24))))
else
(if v5 = (8 : Int32) then
(ck h6 l1 4
(bd (f_X4_operandAt l1 l2 (2 : Int32) h6) fun v27 h28 =>
(ck h28 l1 4
(bd (f_X4_operandAt l1 l2 (1 : Int32) h28) fun v30 h31 =>
(ck h31 l0 1
(bd (f_X1_choose l0 l2 v27 v30 v2 h31) fun _ h33 =>
(some ((), h33))))))))
else
(ck h6 l0 1
(bd (f_X1_evaluateLeaf l0 l1 l2 h6) fun _ h35 =>
(some ((), h35)))))))))))))
set_option maxRecDepth 20000 in
theorem t_X1_evaluateNode (l0 : Nat) (l1 : Nat) (l2 : Int32) (h : Hp) : Sm rvV g_X1_evaluateNode 0 (ent 4 [.ref l0, .ref l1, .int l2]) [] h (f_X1_evaluateNode l0 l1 l2 h) := by
  show Sm rvV g_X1_evaluateNode 0 [.ref l0, .ref l1, .int l2, .null] [] h _
  unfold f_X1_evaluateNode
  refine Sm.aload_n dX1_evaluateNode_0 rfl rfl rfl ?_
  refine Sm.iload_n dX1_evaluateNode_1 rfl rfl rfl ?_
  refine Sm.iconst dX1_evaluateNode_2 ic_0 rfl ?_
  refine Sm.ck (fun o1 => ?_)
  refine kc_X1_35 o1 dX1_evaluateNode_3 rfl (Nat.le_of_ble_eq_true rfl) (Nat.le_of_ble_eq_true rfl) rfl (fun v2 h3 => ?_)
  refine Sm.istore_n (lv' := [.ref l0, .ref l1, .int l2, .int v2]) dX1_evaluateNode_6 rfl (Nat.le_of_ble_eq_true rfl) rfl rfl ?_
  refine Sm.aload_n dX1_evaluateNode_7 rfl rfl rfl ?_
  refine Sm.iload_n dX1_evaluateNode_8 rfl rfl rfl ?_
  refine Sm.ck (fun o4 => ?_)
  refine kc_X1_39 o4 dX1_evaluateNode_9 rfl (Nat.le_of_ble_eq_true rfl) (Nat.le_of_ble_eq_true rfl) rfl (fun v5 h6 => ?_)
  refine Sm.iff (fun b7 => ?_) (fun b7 => ?_)
  · refine Sm.tsAt (t := 48) (k := (4 : Int32)) (off := 36) b7 dX1_evaluateNode_12 (by decide) (by decide) (by decide) (by decide) ?_
    refine Sm.aload_n dX1_evaluateNode_48 rfl rfl rfl ?_
    refine Sm.iload_n dX1_evaluateNode_49 rfl rfl rfl ?_
    refine Sm.aload_n dX1_evaluateNode_50 rfl rfl rfl ?_
    refine Sm.iload_n dX1_evaluateNode_51 rfl rfl rfl ?_
    refine Sm.iconst dX1_evaluateNode_52 ic_1 rfl ?_
    refine Sm.ck (fun o8 => ?_)
    refine kc_X1_35 o8 dX1_evaluateNode_53 rfl (Nat.le_of_ble_eq_true rfl) (Nat.le_of_ble_eq_true rfl) rfl (fun v9 h10 => ?_)
    refine Sm.iload_n dX1_evaluateNode_56 rfl rfl rfl ?_
    refine Sm.ck (fun o11 => ?_)
    refine kc_X1_43 o11 dX1_evaluateNode_57 rfl (Nat.le_of_ble_eq_true rfl) (Nat.le_of_ble_eq_true rfl) rfl (fun _ h12 => ?_)
    refine Sm.goto (t := 123) dX1_evaluateNode_60 (by decide) ?_
    exact Sm.ret (r := ()) dX1_evaluateNode_123 trivial rfl
  refine Sm.iff (fun b13 => ?_) (fun b13 => ?_)
  · refine Sm.tsAt (t := 63) (k := (5 : Int32)) (off := 51) b13 dX1_evaluateNode_12 (by decide) (by decide) (by decide) (by decide) ?_
    refine Sm.aload_n dX1_evaluateNode_63 rfl rfl rfl ?_
    refine Sm.iload_n dX1_evaluateNode_64 rfl rfl rfl ?_
    refine Sm.aload_n dX1_evaluateNode_65 rfl rfl rfl ?_
    refine Sm.iload_n dX1_evaluateNode_66 rfl rfl rfl ?_
    refine Sm.iconst dX1_evaluateNode_67 ic_1 rfl ?_
    refine Sm.ck (fun o14 => ?_)
    refine kc_X1_35 o14 dX1_evaluateNode_68 rfl (Nat.le_of_ble_eq_true rfl) (Nat.le_of_ble_eq_true rfl) rfl (fun v15 h16 => ?_)
    refine Sm.iload_n dX1_evaluateNode_71 rfl rfl rfl ?_
    refine Sm.ck (fun o17 => ?_)
    refine kc_X1_47 o17 dX1_evaluateNode_72 rfl (Nat.le_of_ble_eq_true rfl) (Nat.le_of_ble_eq_true rfl) rfl (fun _ h18 => ?_)
    refine Sm.goto (t := 123) dX1_evaluateNode_75 (by decide) ?_
    exact Sm.ret (r := ()) dX1_evaluateNode_123 trivial rfl
  refine Sm.iff (fun b19 => ?_) (fun b19 => ?_)
  · refine Sm.tsAt (t := 78) (k := (6 : Int32)) (off := 66) b19 dX1_evaluateNode_12 (by decide) (by decide) (by decide) (by decide) ?_
    refine Sm.aload_n dX1_evaluateNode_78 rfl rfl rfl ?_
    refine Sm.iload_n dX1_evaluateNode_79 rfl rfl rfl ?_
    refine Sm.iload_n dX1_evaluateNode_80 rfl rfl rfl ?_
    refine Sm.ck (fun o20 => ?_)
    refine kc_X1_50 o20 dX1_evaluateNode_81 rfl (Nat.le_of_ble_eq_true rfl) (Nat.le_of_ble_eq_true rfl) rfl (fun _ h21 => ?_)
    refine Sm.goto (t := 123) dX1_evaluateNode_84 (by decide) ?_
    exact Sm.ret (r := ()) dX1_evaluateNode_123 trivial rfl
  refine Sm.iff (fun b22 => ?_) (fun b22 => ?_)
  · refine Sm.tsAt (t := 87) (k := (7 : Int32)) (off := 75) b22 dX1_evaluateNode_12 (by decide) (by decide) (by decide) (by decide) ?_
    refine Sm.aload_n dX1_evaluateNode_87 rfl rfl rfl ?_
    refine Sm.iload_n dX1_evaluateNode_88 rfl rfl rfl ?_
    refine Sm.iload_n dX1_evaluateNode_89 rfl rfl rfl ?_
    refine Sm.ck (fun o23 => ?_)
    refine kc_X1_54 o23 dX1_evaluateNode_90 rfl (Nat.le_of_ble_eq_true rfl) (Nat.le_of_ble_eq_true rfl) rfl (fun _ h24 => ?_)
    refine Sm.goto (t := 123) dX1_evaluateNode_93 (by decide) ?_
    exact Sm.ret (r := ()) dX1_evaluateNode_123 trivial rfl
  refine Sm.iff (fun b25 => ?_) (fun b25 => ?_)
  · refine Sm.tsAt (t := 96) (k := (8 : Int32)) (off := 84) b25 dX1_evaluateNode_12 (by decide) (by decide) (by decide) (by decide) ?_
    refine Sm.aload_n dX1_evaluateNode_96 rfl rfl rfl ?_
    refine Sm.iload_n dX1_evaluateNode_97 rfl rfl rfl ?_
    refine Sm.aload_n dX1_evaluateNode_98 rfl rfl rfl ?_
    refine Sm.iload_n dX1_evaluateNode_99 rfl rfl rfl ?_
    refine Sm.iconst dX1_evaluateNode_100 ic_2 rfl ?_
    refine Sm.ck (fun o26 => ?_)
    refine kc_X1_35 o26 dX1_evaluateNode_101 rfl (Nat.le_of_ble_eq_true rfl) (Nat.le_of_ble_eq_true rfl) rfl (fun v27 h28 => ?_)
    refine Sm.aload_n dX1_evaluateNode_104 rfl rfl rfl ?_
    refine Sm.iload_n dX1_evaluateNode_105 rfl rfl rfl ?_
    refine Sm.iconst dX1_evaluateNode_106 ic_1 rfl ?_
    refine Sm.ck (fun o29 => ?_)
    refine kc_X1_35 o29 dX1_evaluateNode_107 rfl (Nat.le_of_ble_eq_true rfl) (Nat.le_of_ble_eq_true rfl) rfl (fun v30 h31 => ?_)
    refine Sm.iload_n dX1_evaluateNode_110 rfl rfl rfl ?_
    refine Sm.ck (fun o32 => ?_)
    refine kc_X1_57 o32 dX1_evaluateNode_111 rfl (Nat.le_of_ble_eq_true rfl) (Nat.le_of_ble_eq_true rfl) rfl (fun _ h33 => ?_)
    refine Sm.goto (t := 123) dX1_evaluateNode_114 (by decide) ?_
    exact Sm.ret (r := ()) dX1_evaluateNode_123 trivial rfl
  have nb7 : ¬ v5.toInt = (4 : Int) := lv_neT b7 (by decide)
  have nb13 : ¬ v5.toInt = (5 : Int) := lv_neT b13 (by decide)
  have nb19 : ¬ v5.toInt = (6 : Int) := lv_neT b19 (by decide)
  have nb22 : ¬ v5.toInt = (7 : Int) := lv_neT b22 (by decide)
  have nb25 : ¬ v5.toInt = (8 : Int) := lv_neT b25 (by decide)
  refine Sm.tsOut (t := 117) dX1_evaluateNode_12 (by omega) (by decide) ?_
  refine Sm.aload_n dX1_evaluateNode_117 rfl rfl rfl ?_
  refine Sm.aload_n dX1_evaluateNode_118 rfl rfl rfl ?_
  refine Sm.iload_n dX1_evaluateNode_119 rfl rfl rfl ?_
  refine Sm.ck (fun o34 => ?_)
  refine kc_X1_61 o34 dX1_evaluateNode_120 rfl (Nat.le_of_ble_eq_true rfl) (Nat.le_of_ble_eq_true rfl) rfl (fun _ h35 => ?_)
  exact Sm.ret (r := ()) dX1_evaluateNode_123 trivial rfl
set_option maxRecDepth 20000 in
theorem kc_X1_21 {ρ : Type} {rv : ρ → Option Value} {G : Gx} {pc q : Nat} {lv st : List Value} {h : Hp} {a : Nat} {x1 : Nat} {x2 : Int32} {e : Unit → Hp → Option (ρ × Hp)} (hk : isO h a 1) (d : decode G.2.1 pc = .ok (.invokevirtual 21, 3)) (ho : G.1.cls = RX1) (hdep : (g_X1_evaluateNode).2.2.2.2 < G.2.2.2.2) (hcat : catS st ≤ 8) (hq : pc + 3 = q) (k : ∀ r h1, Sm rv G q lv (st) h1 (e r h1)) : Sm rv G pc lv (.int x2 :: .ref x1 :: .ref a :: st) h (bd (f_X1_evaluateNode a x1 x2 h) e) :=
  Sm.callV (rv' := rvV) (args := [.ref x1, .int x2]) (n := 2) (t_X1_evaluateNode a x1 x2 h) hk (by decide) (r := (RX1, TX1, 1)) rfl rfl ho mw_503 mw_505 mp_29 mw_5 mw_506 ⟨⟨by decide, rfl, hdep, Nat.le_of_ble_eq_true rfl⟩, Nat.le_of_ble_eq_true rfl, rfl, ⟨by decide, by decide⟩, hcat⟩ (by decide +kernel) (by intro v hv; simp only [List.mem_cons, List.not_mem_nil, or_false] at hv; rcases hv with rfl | rfl <;> intro x hx <;> cases hx) d hq k rfl
abbrev g_X6_assign : Gx := (yX6_assign, cX6_assign, 4, (Option.none : Option FieldType), 1)
def f_X6_assign (l0 : Nat) (l1 : Int32) (l2 : Int64) (h : Hp) : Option (Unit × Hp) :=
  (bd (f_X9_isPacket l1 h) fun v1 h2 =>
(if v1 = 0 then
(some ((), h2))
else
(ck h2 l0 6
((gP h2 l0 0).bind fun v5 =>
(ca h2 v5 22 l1
(some ((), (sL h2 v5 l1.toNatClampNeg l2))))))))
set_option maxRecDepth 20000 in
theorem t_X6_assign (l0 : Nat) (l1 : Int32) (l2 : Int64) (h : Hp) : Sm rvV g_X6_assign 0 (ent 4 [.ref l0, .int l1, .long l2]) [] h (f_X6_assign l0 l1 l2 h) := by
  show Sm rvV g_X6_assign 0 [.ref l0, .int l1, .long l2, .null] [] h _
  unfold f_X6_assign
  refine Sm.iload_n dX6_assign_0 rfl rfl rfl ?_
  refine kc_X6_15 dX6_assign_1 rfl (Nat.le_of_ble_eq_true rfl) (Nat.le_of_ble_eq_true rfl) rfl (fun v1 h2 => ?_)
  refine Sm.if_eq (t := 14) dX6_assign_4 (by decide) rfl (fun b3 => ?_) (fun b3 => ?_)
  · exact Sm.ret (r := ()) dX6_assign_14 trivial rfl
  · refine Sm.aload_n dX6_assign_7 rfl rfl rfl ?_
    refine Sm.ck (fun o4 => ?_)
    refine gf_X6_9 o4 dX6_assign_8 rfl rfl (fun v5 => ?_)
    refine Sm.iload_n dX6_assign_11 rfl rfl rfl ?_
    refine Sm.lload_n dX6_assign_12 rfl rfl rfl ?_
    refine Sm.ca (fun q6 => ?_)
    refine Sm.last q6 dX6_assign_13 rfl ?_
    exact Sm.ret (r := ()) dX6_assign_14 trivial rfl
set_option maxRecDepth 20000 in
theorem kc_X1_29 {ρ : Type} {rv : ρ → Option Value} {G : Gx} {pc q : Nat} {lv st : List Value} {h : Hp} {a : Nat} {x1 : Int32} {x2 : Int64} {e : Unit → Hp → Option (ρ × Hp)} (hk : isO h a 6) (d : decode G.2.1 pc = .ok (.invokevirtual 29, 3)) (ho : G.1.cls = RX1) (hdep : (g_X6_assign).2.2.2.2 < G.2.2.2.2) (hcat : catS st ≤ 8) (hq : pc + 3 = q) (k : ∀ r h1, Sm rv G q lv (st) h1 (e r h1)) : Sm rv G pc lv (.long x2 :: .int x1 :: .ref a :: st) h (bd (f_X6_assign a x1 x2 h) e) :=
  Sm.callV (rv' := rvV) (args := [.int x1, .long x2]) (n := 2) (t_X6_assign a x1 x2 h) hk (by decide) (r := (RX6, TX6, 1)) rfl rfl ho mw_570 mw_571 mw_572 mw_8 mw_573 ⟨⟨by decide, rfl, hdep, Nat.le_of_ble_eq_true rfl⟩, Nat.le_of_ble_eq_true rfl, rfl, ⟨by decide, by decide⟩, hcat⟩ (by decide +kernel) (by intro v hv; simp only [List.mem_cons, List.not_mem_nil, or_false] at hv; rcases hv with rfl | rfl <;> intro x hx <;> cases hx) d hq k rfl
abbrev g_X1_evaluate : Gx := (yX1_evaluate, cX1_evaluate, 5, (Option.none : Option FieldType), 5)
def f_X1_evaluate_37 (k37 : (Int32 × Hp) → Option (Unit × Hp)) (l0 : Nat) (l2 : Nat) (l3 : Int32) (l4 : Int32) (h : Hp) : Option (Unit × Hp) :=
  (if (64 : Int32) ≤ l4 then
(some ((), h))
else
(ck h l0 1
(bd (f_X1_imageOf l0 (l3 - (1 : Int32)) l4 h) fun v7 h8 =>
(ck h8 l2 6
(bd (f_X6_assign l2 l4 v7 h8) fun _ h10 =>
(nm (l4 + (1 : Int32)) fun v11 =>
(k37 (v11, h10))))))))
set_option maxRecDepth 20000 in
theorem t_X1_evaluate_37 (l0 : Nat) (l2 : Nat) (l3 : Int32) (l4 : Int32) (h : Hp) (k37 : (Int32 × Hp) → Option (Unit × Hp)) (hk37 : ∀ s : Int32 × Hp, Sm rvV g_X1_evaluate 37 [.ref l0, .null, .ref l2, .int l3, .int s.1] [] s.2 (k37 s)) : Sm rvV g_X1_evaluate 37 [.ref l0, .null, .ref l2, .int l3, .int l4] [] h (f_X1_evaluate_37 k37 l0 l2 l3 l4 h) := by
  unfold f_X1_evaluate_37
  refine Sm.iload dX1_evaluate_37 rfl rfl ?_
  refine Sm.bipush dX1_evaluate_39 bp_64 rfl ?_
  refine Sm.icmp_ge (t := 65) dX1_evaluate_41 (by decide) rfl (fun b5 => ?_) (fun b5 => ?_)
  · exact Sm.ret (r := ()) dX1_evaluate_65 trivial rfl
  · refine Sm.aload_n dX1_evaluate_44 rfl rfl rfl ?_
    refine Sm.iload dX1_evaluate_45 rfl rfl ?_
    refine Sm.aload_n dX1_evaluate_47 rfl rfl rfl ?_
    refine Sm.iload_n dX1_evaluate_48 rfl rfl rfl ?_
    refine Sm.iconst dX1_evaluate_49 ic_1 rfl ?_
    refine Sm.isub dX1_evaluate_50 rfl ?_
    refine Sm.iload dX1_evaluate_51 rfl rfl ?_
    refine Sm.ck (fun o6 => ?_)
    refine kc_X1_25 o6 dX1_evaluate_53 rfl (Nat.le_of_ble_eq_true rfl) (Nat.le_of_ble_eq_true rfl) rfl (fun v7 h8 => ?_)
    refine Sm.ck (fun o9 => ?_)
    refine kc_X1_29 o9 dX1_evaluate_56 rfl (Nat.le_of_ble_eq_true rfl) (Nat.le_of_ble_eq_true rfl) rfl (fun _ h10 => ?_)
    refine Sm.iinc (lv' := [.ref l0, .null, .ref l2, .int l3, .int (l4 + (1 : Int32))]) dX1_evaluate_59 rfl ic_1 rfl rfl ?_
    refine Sm.nm (LV := fun v11 => [.ref l0, .null, .ref l2, .int l3, .int v11]) (ST := fun v11 => []) (fun v11 => ?_)
    refine Sm.goto (t := 37) dX1_evaluate_62 (by decide) ?_
    exact Sm.wk (hk37 (v11, h10)) ⟨Or.inr rfl, Or.inl rfl, Or.inr rfl, Or.inr rfl, Or.inr rfl, trivial⟩
def f_X1_evaluate_8 (k8 : (Int32 × Hp) → Option (Unit × Hp)) (l0 : Nat) (l1 : Nat) (l2 : Nat) (l3 : Int32) (l4 : Int32) (h : Hp) : Option (Unit × Hp) :=
  (if l3 ≤ l4 then
(loopN (fun k s => f_X1_evaluate_37 k l0 l2 l3 s.1 s.2) 5000 ((0 : Int32), h))
else
(if (60 : Int32) ≤ l4 then
(loopN (fun k s => f_X1_evaluate_37 k l0 l2 l3 s.1 s.2) 5000 ((0 : Int32), h))
else
(ck h l0 1
(bd (f_X1_evaluateNode l0 l1 l4 h) fun _ h14 =>
(nm (l4 + (1 : Int32)) fun v15 =>
(k8 (v15, h14)))))))
set_option maxRecDepth 20000 in
theorem t_X1_evaluate_8 (l0 : Nat) (l1 : Nat) (l2 : Nat) (l3 : Int32) (l4 : Int32) (h : Hp) (k8 : (Int32 × Hp) → Option (Unit × Hp)) (hk8 : ∀ s : Int32 × Hp, Sm rvV g_X1_evaluate 8 [.ref l0, .ref l1, .ref l2, .int l3, .int s.1] [] s.2 (k8 s)) : Sm rvV g_X1_evaluate 8 [.ref l0, .ref l1, .ref l2, .int l3, .int l4] [] h (f_X1_evaluate_8 k8 l0 l1 l2 l3 l4 h) := by
  unfold f_X1_evaluate_8
  refine Sm.iload dX1_evaluate_8 rfl rfl ?_
  refine Sm.iload_n dX1_evaluate_10 rfl rfl rfl ?_
  refine Sm.icmp_ge (t := 34) dX1_evaluate_11 (by decide) rfl (fun b4 => ?_) (fun b4 => ?_)
  · refine Sm.iconst dX1_evaluate_34 ic_0 rfl ?_
    refine Sm.istore (lv' := [.ref l0, .ref l1, .ref l2, .int l3, .int (0 : Int32)]) dX1_evaluate_35 (Nat.le_of_ble_eq_true rfl) rfl rfl ?_
    exact Sm.wk (Sm.loop (σ := Int32 × Hp) (LV := fun s => [.ref l0, .null, .ref l2, .int l3, .int s.1]) (HH := fun s => s.2) (fun k hk s => t_X1_evaluate_37 l0 l2 l3 s.1 s.2 k hk) 5000 ((0 : Int32), h)) ⟨Or.inr rfl, Or.inl rfl, Or.inr rfl, Or.inr rfl, Or.inr rfl, trivial⟩
  · refine Sm.iload dX1_evaluate_14 rfl rfl ?_
    refine Sm.bipush dX1_evaluate_16 bp_60 rfl ?_
    refine Sm.icmp_ge (t := 34) dX1_evaluate_18 (by decide) rfl (fun b12 => ?_) (fun b12 => ?_)
    · refine Sm.iconst dX1_evaluate_34 ic_0 rfl ?_
      refine Sm.istore (lv' := [.ref l0, .ref l1, .ref l2, .int l3, .int (0 : Int32)]) dX1_evaluate_35 (Nat.le_of_ble_eq_true rfl) rfl rfl ?_
      exact Sm.wk (Sm.loop (σ := Int32 × Hp) (LV := fun s => [.ref l0, .null, .ref l2, .int l3, .int s.1]) (HH := fun s => s.2) (fun k hk s => t_X1_evaluate_37 l0 l2 l3 s.1 s.2 k hk) 5000 ((0 : Int32), h)) ⟨Or.inr rfl, Or.inl rfl, Or.inr rfl, Or.inr rfl, Or.inr rfl, trivial⟩
    · refine Sm.aload_n dX1_evaluate_21 rfl rfl rfl ?_
      refine Sm.aload_n dX1_evaluate_22 rfl rfl rfl ?_
      refine Sm.iload dX1_evaluate_23 rfl rfl ?_
      refine Sm.ck (fun o13 => ?_)
      refine kc_X1_21 o13 dX1_evaluate_25 rfl (Nat.le_of_ble_eq_true rfl) (Nat.le_of_ble_eq_true rfl) rfl (fun _ h14 => ?_)
      refine Sm.iinc (lv' := [.ref l0, .ref l1, .ref l2, .int l3, .int (l4 + (1 : Int32))]) dX1_evaluate_28 rfl ic_1 rfl rfl ?_
      refine Sm.nm (LV := fun v15 => [.ref l0, .ref l1, .ref l2, .int l3, .int v15]) (ST := fun v15 => []) (fun v15 => ?_)
      refine Sm.goto (t := 8) dX1_evaluate_31 (by decide) ?_
      exact Sm.wk (hk8 (v15, h14)) ⟨Or.inr rfl, Or.inr rfl, Or.inr rfl, Or.inr rfl, Or.inr rfl, trivial⟩
def f_X1_evaluate (l0 : Nat) (l1 : Nat) (l2 : Nat) (h : Hp) : Option (Unit × Hp) :=
  (ck h l1 4
(bd (f_X4_nodeCount l1 h) fun v2 h3 =>
(loopN (fun k s => f_X1_evaluate_8 k l0 l1 l2 v2 s.1 s.2) 5000 ((0 : Int32), h3))))
set_option maxRecDepth 20000 in
theorem t_X1_evaluate (l0 : Nat) (l1 : Nat) (l2 : Nat) (h : Hp) : Sm rvV g_X1_evaluate 0 (ent 5 [.ref l0, .ref l1, .ref l2]) [] h (f_X1_evaluate l0 l1 l2 h) := by
  show Sm rvV g_X1_evaluate 0 [.ref l0, .ref l1, .ref l2, .null, .null] [] h _
  unfold f_X1_evaluate
  refine Sm.aload_n dX1_evaluate_0 rfl rfl rfl ?_
  refine Sm.ck (fun o1 => ?_)
  refine kc_X1_15 o1 dX1_evaluate_1 rfl (Nat.le_of_ble_eq_true rfl) (Nat.le_of_ble_eq_true rfl) rfl (fun v2 h3 => ?_)
  refine Sm.istore_n (lv' := [.ref l0, .ref l1, .ref l2, .int v2, .null]) dX1_evaluate_4 rfl (Nat.le_of_ble_eq_true rfl) rfl rfl ?_
  refine Sm.iconst dX1_evaluate_5 ic_0 rfl ?_
  refine Sm.istore (lv' := [.ref l0, .ref l1, .ref l2, .int v2, .int (0 : Int32)]) dX1_evaluate_6 (Nat.le_of_ble_eq_true rfl) rfl rfl ?_
  exact Sm.wk (Sm.loop (σ := Int32 × Hp) (LV := fun s => [.ref l0, .ref l1, .ref l2, .int v2, .int s.1]) (HH := fun s => s.2) (fun k hk s => t_X1_evaluate_8 l0 l1 l2 v2 s.1 s.2 k hk) 5000 ((0 : Int32), h3)) ⟨Or.inr rfl, Or.inr rfl, Or.inr rfl, Or.inr rfl, Or.inr rfl, trivial⟩
set_option maxRecDepth 20000 in
theorem kc_X7_72 {ρ : Type} {rv : ρ → Option Value} {G : Gx} {pc q : Nat} {lv st : List Value} {h : Hp} {a : Nat} {x1 : Nat} {x2 : Nat} {e : Unit → Hp → Option (ρ × Hp)} (hk : isO h a 1) (d : decode G.2.1 pc = .ok (.invokevirtual 72, 3)) (ho : G.1.cls = RX7) (hdep : (g_X1_evaluate).2.2.2.2 < G.2.2.2.2) (hcat : catS st ≤ 8) (hq : pc + 3 = q) (k : ∀ r h1, Sm rv G q lv (st) h1 (e r h1)) : Sm rv G pc lv (.ref x2 :: .ref x1 :: .ref a :: st) h (bd (f_X1_evaluate a x1 x2 h) e) :=
  Sm.callV (rv' := rvV) (args := [.ref x1, .ref x2]) (n := 2) (t_X1_evaluate a x1 x2 h) hk (by decide) (r := (RX1, TX1, 1)) rfl rfl ho mw_498 mw_499 mw_500 mw_5 mw_501 ⟨⟨by decide, rfl, hdep, Nat.le_of_ble_eq_true rfl⟩, Nat.le_of_ble_eq_true rfl, rfl, ⟨by decide, by decide⟩, hcat⟩ (by decide +kernel) (by intro v hv; simp only [List.mem_cons, List.not_mem_nil, or_false] at hv; rcases hv with rfl | rfl <;> intro x hx <;> cases hx) d hq k rfl
abbrev g_X4_init : Gx := (yX4_init, cX4_init, 1, (Option.none : Option FieldType), 1)
def f_X4_init (l0 : Nat) (h : Hp) : Option (Unit × Hp) :=
  (nm (nwc h 20 60 60) fun h1 =>
(ck h1 l0 4
(nm (sP h1 l0 0 (some (gN h + 1))) fun h5 =>
(nm (nwc h5 20 60 60) fun h8 =>
(ck h8 l0 4
(nm (sI (sI (sP h8 l0 1 (some (gN h5 + 1))) l0 2 (0 : Int32)) l0 3 (0 : Int32)) fun h12 =>
(some ((), h12))))))))
set_option maxRecDepth 20000 in
theorem t_X4_init (l0 : Nat) (h : Hp) : Sm rvV g_X4_init 0 (ent 1 [.ref l0]) [] h (f_X4_init l0 h) := by
  show Sm rvV g_X4_init 0 [.ref l0] [] h _
  unfold f_X4_init
  refine Sm.aload_n dX4_init_0 rfl rfl rfl ?_
  refine Sm.objInit dX4_init_1 rfl mw_36 mw_20 mw_21 (Nat.le_of_ble_eq_true rfl) (Nat.le_of_ble_eq_true rfl) rfl ?_
  refine Sm.aload_n dX4_init_4 rfl rfl rfl ?_
  refine Sm.bipush dX4_init_5 bp_60 rfl ?_
  refine Sm.newI (by decide) (by decide) dX4_init_7 mw_50 rfl ?_
  refine Sm.nmH (fun h1 e2 e3 => ?_)
  refine Sm.ck (fun o4 => ?_)
  refine pf_X4_9 o4 dX4_init_9 rfl rfl rfl ?_
  refine Sm.aload_n dX4_init_12 rfl rfl rfl ?_
  refine Sm.bipush dX4_init_13 bp_60 rfl ?_
  refine Sm.nmH (fun h5 e6 e7 => ?_)
  refine Sm.newI (by decide) (by decide) dX4_init_15 mw_50 rfl ?_
  refine Sm.nmH (fun h8 e9 e10 => ?_)
  refine Sm.ck (fun o11 => ?_)
  refine pf_X4_15 o11 dX4_init_17 rfl rfl rfl ?_
  refine Sm.aload_n dX4_init_20 rfl rfl rfl ?_
  refine Sm.iconst dX4_init_21 ic_0 rfl ?_
  refine pf_X4_18 o11 dX4_init_22 rfl rfl ?_
  refine Sm.aload_n dX4_init_25 rfl rfl rfl ?_
  refine Sm.iconst dX4_init_26 ic_0 rfl ?_
  refine pf_X4_22 (Or.inl rfl) o11 dX4_init_27 rfl rfl ?_
  refine Sm.nmH (fun h12 e13 e14 => ?_)
  exact Sm.ret (r := ()) dX4_init_30 trivial rfl
set_option maxRecDepth 20000 in
theorem kc_X2_25 {ρ : Type} {rv : ρ → Option Value} {G : Gx} {pc q : Nat} {lv st : List Value} {h : Hp} {a : Nat} {e : Unit → Hp → Option (ρ × Hp)} (d : decode G.2.1 pc = .ok (.invokespecial 25, 3)) (ho : G.1.cls = RX2) (hdep : (g_X4_init).2.2.2.2 < G.2.2.2.2) (hcat : catS st ≤ 8) (hq : pc + 3 = q) (k : ∀ r h1, Sm rv G q lv (st) h1 (e r h1)) : Sm rv G pc lv (.ref a :: st) h (bd (f_X4_init a h) e) :=
  Sm.callIN (rv' := rvV) (args := []) (n := 0) (t_X4_init a h) ho rfl rfl mw_33 mw_34 mw_3 mw_35 ⟨⟨by decide, rfl, hdep, Nat.le_of_ble_eq_true rfl⟩, Nat.le_of_ble_eq_true rfl, rfl, ⟨by decide, by decide⟩, hcat⟩ (by decide +kernel) (fun v hv => by cases hv) d hq k rfl
set_option maxRecDepth 20000 in
theorem kc_X3_31 {ρ : Type} {rv : ρ → Option Value} {G : Gx} {pc q : Nat} {lv st : List Value} {h : Hp} {a : Nat} {e : Unit → Hp → Option (ρ × Hp)} (d : decode G.2.1 pc = .ok (.invokespecial 31, 3)) (ho : G.1.cls = RX3) (hdep : (g_X4_init).2.2.2.2 < G.2.2.2.2) (hcat : catS st ≤ 8) (hq : pc + 3 = q) (k : ∀ r h1, Sm rv G q lv (st) h1 (e r h1)) : Sm rv G pc lv (.ref a :: st) h (bd (f_X4_init a h) e) :=
  Sm.callIN (rv' := rvV) (args := []) (n := 0) (t_X4_init a h) ho rfl rfl mw_68 mw_34 mw_3 mw_35 ⟨⟨by decide, rfl, hdep, Nat.le_of_ble_eq_true rfl⟩, Nat.le_of_ble_eq_true rfl, rfl, ⟨by decide, by decide⟩, hcat⟩ (by decide +kernel) (fun v hv => by cases hv) d hq k rfl
set_option maxRecDepth 20000 in
theorem kc_X9_49 {ρ : Type} {rv : ρ → Option Value} {G : Gx} {pc q : Nat} {lv st : List Value} {h : Hp} {a : Nat} {e : Unit → Hp → Option (ρ × Hp)} (d : decode G.2.1 pc = .ok (.invokespecial 49, 3)) (ho : G.1.cls = RX9) (hdep : (g_X4_init).2.2.2.2 < G.2.2.2.2) (hcat : catS st ≤ 8) (hq : pc + 3 = q) (k : ∀ r h1, Sm rv G q lv (st) h1 (e r h1)) : Sm rv G pc lv (.ref a :: st) h (bd (f_X4_init a h) e) :=
  Sm.callIN (rv' := rvV) (args := []) (n := 0) (t_X4_init a h) ho rfl rfl mw_113 mw_34 mw_3 mw_35 ⟨⟨by decide, rfl, hdep, Nat.le_of_ble_eq_true rfl⟩, Nat.le_of_ble_eq_true rfl, rfl, ⟨by decide, by decide⟩, hcat⟩ (by decide +kernel) (fun v hv => by cases hv) d hq k rfl
set_option maxRecDepth 20000 in
theorem kc_X7_11 {ρ : Type} {rv : ρ → Option Value} {G : Gx} {pc q : Nat} {lv st : List Value} {h : Hp} {a : Nat} {e : Unit → Hp → Option (ρ × Hp)} (d : decode G.2.1 pc = .ok (.invokespecial 11, 3)) (ho : G.1.cls = RX7) (hdep : (g_X4_init).2.2.2.2 < G.2.2.2.2) (hcat : catS st ≤ 8) (hq : pc + 3 = q) (k : ∀ r h1, Sm rv G q lv (st) h1 (e r h1)) : Sm rv G pc lv (.ref a :: st) h (bd (f_X4_init a h) e) :=
  Sm.callIN (rv' := rvV) (args := []) (n := 0) (t_X4_init a h) ho rfl rfl mw_120 mw_34 mw_3 mw_35 ⟨⟨by decide, rfl, hdep, Nat.le_of_ble_eq_true rfl⟩, Nat.le_of_ble_eq_true rfl, rfl, ⟨by decide, by decide⟩, hcat⟩ (by decide +kernel) (fun v hv => by cases hv) d hq k rfl
abbrev g_X2_init : Gx := (yX2_init, cX2_init, 2, (Option.none : Option FieldType), 2)
def f_X2_init_26 (k26 : (Int32 × Hp) → Option (Unit × Hp)) (l0 : Nat) (l1 : Int32) (h : Hp) : Option (Unit × Hp) :=
  (if (5 : Int32) ≤ l1 then
(some ((), h))
else
(ck h l0 2
((gP h l0 1).bind fun v14 =>
(nm (nwc h 4 0 4) fun h15 =>
(bd (f_X4_init (gN h + 1) h15) fun _ h18 =>
(ck h18 (gN h + 1) 4
(ca h18 v14 24 l1
(nm (l1 + (1 : Int32)) fun v21 =>
(k26 (v21, (sP h18 v14 l1.toNatClampNeg (some (gN h + 1)))))))))))))
set_option maxRecDepth 20000 in
theorem t_X2_init_26 (l0 : Nat) (l1 : Int32) (h : Hp) (k26 : (Int32 × Hp) → Option (Unit × Hp)) (hk26 : ∀ s : Int32 × Hp, Sm rvV g_X2_init 26 [.ref l0, .int s.1] [] s.2 (k26 s)) : Sm rvV g_X2_init 26 [.ref l0, .int l1] [] h (f_X2_init_26 k26 l0 l1 h) := by
  unfold f_X2_init_26
  refine Sm.iload_n dX2_init_26 rfl rfl rfl ?_
  refine Sm.iconst dX2_init_27 ic_5 rfl ?_
  refine Sm.icmp_ge (t := 50) dX2_init_28 (by decide) rfl (fun b12 => ?_) (fun b12 => ?_)
  · exact Sm.ret (r := ()) dX2_init_50 trivial rfl
  · refine Sm.aload_n dX2_init_31 rfl rfl rfl ?_
    refine Sm.ck (fun o13 => ?_)
    refine gf_X2_17 o13 dX2_init_32 rfl rfl (fun v14 => ?_)
    refine Sm.iload_n dX2_init_35 rfl rfl rfl ?_
    refine Sm.new (ci := 4) (r := (RX4, TX4, 4)) dX2_init_36 mw_30 mw_32 mw_3 rfl (by decide) rfl rfl ?_
    refine Sm.nmH (fun h15 e16 e17 => ?_)
    refine Sm.dup dX2_init_39 rfl rfl ?_
    refine kc_X2_25 dX2_init_40 rfl (Nat.le_of_ble_eq_true rfl) (Nat.le_of_ble_eq_true rfl) rfl (fun _ h18 => ?_)
    refine Sm.ck (fun o19 => ?_)
    refine Sm.ca (fun q20 => ?_)
    refine Sm.aast q20 o19 (by decide) dX2_init_43 rfl ?_
    refine Sm.iinc (lv' := [.ref l0, .int (l1 + (1 : Int32))]) dX2_init_44 rfl ic_1 rfl rfl ?_
    refine Sm.nm (LV := fun v21 => [.ref l0, .int v21]) (ST := fun v21 => []) (fun v21 => ?_)
    refine Sm.goto (t := 26) dX2_init_47 (by decide) ?_
    exact Sm.wk (hk26 (v21, (sP h18 v14 l1.toNatClampNeg (some (gN h + 1))))) ⟨Or.inr rfl, Or.inr rfl, trivial⟩
def f_X2_init (l0 : Nat) (h : Hp) : Option (Unit × Hp) :=
  (nm (nwc h 20 5 5) fun h1 =>
(ck h1 l0 2
(nm (sP h1 l0 0 (some (gN h + 1))) fun h5 =>
(nm (nwc h5 24 5 5) fun h8 =>
(ck h8 l0 2
(loopN (fun k s => f_X2_init_26 k l0 s.1 s.2) 5000 ((0 : Int32), (sI (sP h8 l0 1 (some (gN h5 + 1))) l0 2 (0 : Int32)))))))))
set_option maxRecDepth 20000 in
theorem t_X2_init (l0 : Nat) (h : Hp) : Sm rvV g_X2_init 0 (ent 2 [.ref l0]) [] h (f_X2_init l0 h) := by
  show Sm rvV g_X2_init 0 [.ref l0, .null] [] h _
  unfold f_X2_init
  refine Sm.aload_n dX2_init_0 rfl rfl rfl ?_
  refine Sm.objInit dX2_init_1 rfl mw_29 mw_20 mw_21 (Nat.le_of_ble_eq_true rfl) (Nat.le_of_ble_eq_true rfl) rfl ?_
  refine Sm.aload_n dX2_init_4 rfl rfl rfl ?_
  refine Sm.iconst dX2_init_5 ic_5 rfl ?_
  refine Sm.newI (by decide) (by decide) dX2_init_6 mw_50 rfl ?_
  refine Sm.nmH (fun h1 e2 e3 => ?_)
  refine Sm.ck (fun o4 => ?_)
  refine pf_X2_9 o4 dX2_init_8 rfl rfl rfl ?_
  refine Sm.aload_n dX2_init_11 rfl rfl rfl ?_
  refine Sm.iconst dX2_init_12 ic_5 rfl ?_
  refine Sm.nmH (fun h5 e6 e7 => ?_)
  refine Sm.newQ (kd := 24) (C := RX4) (by first | exact Or.inl ⟨rfl, rfl⟩ | exact Or.inr ⟨rfl, rfl⟩) (by decide) (by decide) dX2_init_13 mw_30 rfl rfl ?_
  refine Sm.nmH (fun h8 e9 e10 => ?_)
  refine Sm.ck (fun o11 => ?_)
  refine pf_X2_17 o11 dX2_init_16 rfl rfl rfl ?_
  refine Sm.aload_n dX2_init_19 rfl rfl rfl ?_
  refine Sm.iconst dX2_init_20 ic_0 rfl ?_
  refine pf_X2_21 o11 dX2_init_21 rfl rfl ?_
  refine Sm.iconst dX2_init_24 ic_0 rfl ?_
  refine Sm.istore_n (lv' := [.ref l0, .int (0 : Int32)]) dX2_init_25 rfl (Nat.le_of_ble_eq_true rfl) rfl rfl ?_
  exact Sm.wk (Sm.loop (σ := Int32 × Hp) (LV := fun s => [.ref l0, .int s.1]) (HH := fun s => s.2) (fun k hk s => t_X2_init_26 l0 s.1 s.2 k hk) 5000 ((0 : Int32), (sI (sP h8 l0 1 (some (gN h5 + 1))) l0 2 (0 : Int32)))) ⟨Or.inr rfl, Or.inr rfl, trivial⟩
set_option maxRecDepth 20000 in
theorem kc_X9_25 {ρ : Type} {rv : ρ → Option Value} {G : Gx} {pc q : Nat} {lv st : List Value} {h : Hp} {a : Nat} {e : Unit → Hp → Option (ρ × Hp)} (d : decode G.2.1 pc = .ok (.invokespecial 25, 3)) (ho : G.1.cls = RX9) (hdep : (g_X2_init).2.2.2.2 < G.2.2.2.2) (hcat : catS st ≤ 8) (hq : pc + 3 = q) (k : ∀ r h1, Sm rv G q lv (st) h1 (e r h1)) : Sm rv G pc lv (.ref a :: st) h (bd (f_X2_init a h) e) :=
  Sm.callI (rv' := rvV) (args := []) (n := 0) (t_X2_init a h) ho rfl rfl mw_26 mw_27 mw_2 mw_28 ⟨⟨by decide, rfl, hdep, Nat.le_of_ble_eq_true rfl⟩, Nat.le_of_ble_eq_true rfl, rfl, ⟨by decide, by decide⟩, hcat⟩ (by decide +kernel) (fun v hv => by cases hv) d hq k rfl
abbrev g_X2_savedCount : Gx := (yX2_savedCount, cX2_savedCount, 1, (Option.some FieldType.int), 0)
def f_X2_savedCount (l0 : Nat) (h : Hp) : Option (Int32 × Hp) :=
  (ck h l0 2
(some ((gI h l0 2), h)))
set_option maxRecDepth 20000 in
theorem t_X2_savedCount (l0 : Nat) (h : Hp) : Sm rvI g_X2_savedCount 0 (ent 1 [.ref l0]) [] h (f_X2_savedCount l0 h) := by
  show Sm rvI g_X2_savedCount 0 [.ref l0] [] h _
  unfold f_X2_savedCount
  refine Sm.aload_n dX2_savedCount_0 rfl rfl rfl ?_
  refine Sm.ck (fun o1 => ?_)
  refine gf_X2_21 o1 dX2_savedCount_1 rfl rfl ?_
  exact Sm.ret dX2_savedCount_4 trivial rfl
set_option maxRecDepth 20000 in
theorem kc_X9_216 {ρ : Type} {rv : ρ → Option Value} {G : Gx} {pc q : Nat} {lv st : List Value} {h : Hp} {a : Nat} {e : Int32 → Hp → Option (ρ × Hp)} (hk : isO h a 2) (d : decode G.2.1 pc = .ok (.invokevirtual 216, 3)) (ho : G.1.cls = RX9) (hdep : (g_X2_savedCount).2.2.2.2 < G.2.2.2.2) (hcat : catS st ≤ 8) (hq : pc + 3 = q) (k : ∀ r h1, Sm rv G q lv (.int r :: st) h1 (e r h1)) : Sm rv G pc lv (.ref a :: st) h (bd (f_X2_savedCount a h) e) :=
  Sm.callV (rv' := rvI) (args := []) (n := 0) (t_X2_savedCount a h) hk (by decide) (r := (RX2, TX2, 3)) rfl rfl ho mw_864 mw_865 mw_866 mw_2 mw_867 ⟨⟨by decide, rfl, hdep, Nat.le_of_ble_eq_true rfl⟩, Nat.le_of_ble_eq_true rfl, rfl, ⟨by decide, by decide⟩, hcat⟩ (by decide +kernel) (fun v hv => by cases hv) d hq k rfl
abbrev g_X2_dropOldest : Gx := (yX2_dropOldest, cX2_dropOldest, 3, (Option.none : Option FieldType), 0)
def f_X2_dropOldest_9 (k9 : (Int32 × Hp) → Option (Unit × Hp)) (l0 : Nat) (l1 : Nat) (l2 : Int32) (h : Hp) : Option (Unit × Hp) :=
  (if (5 : Int32) ≤ l2 then
(ck h l0 2
((gP h l0 1).bind fun v7 =>
(ck h l1 4
(ca h v7 24 (4 : Int32)
(nm (sI (sP h v7 (4 : Int32).toNatClampNeg (some l1)) l0 2 ((gI (sP h v7 (4 : Int32).toNatClampNeg (some l1)) l0 2) - (1 : Int32))) fun h10 =>
(some ((), h10)))))))
else
(ck h l0 2
((gP h l0 0).bind fun v14 =>
((gP h l0 0).bind fun v15 =>
(ca h v15 20 l2
(ca h v14 20 (l2 - (1 : Int32))
((gP (sI h v14 (l2 - (1 : Int32)).toNatClampNeg (gI h v15 l2.toNatClampNeg)) l0 1).bind fun v18 =>
((gP (sI h v14 (l2 - (1 : Int32)).toNatClampNeg (gI h v15 l2.toNatClampNeg)) l0 1).bind fun v19 =>
(ca (sI h v14 (l2 - (1 : Int32)).toNatClampNeg (gI h v15 l2.toNatClampNeg)) v19 24 l2
((gP (sI h v14 (l2 - (1 : Int32)).toNatClampNeg (gI h v15 l2.toNatClampNeg)) v19 l2.toNatClampNeg).bind fun v21 =>
(ck (sI h v14 (l2 - (1 : Int32)).toNatClampNeg (gI h v15 l2.toNatClampNeg)) v21 4
(ca (sI h v14 (l2 - (1 : Int32)).toNatClampNeg (gI h v15 l2.toNatClampNeg)) v18 24 (l2 - (1 : Int32))
(nm (l2 + (1 : Int32)) fun v24 =>
(k9 (v24, (sP (sI h v14 (l2 - (1 : Int32)).toNatClampNeg (gI h v15 l2.toNatClampNeg)) v18 (l2 - (1 : Int32)).toNatClampNeg (some v21)))))))))))))))))
set_option maxRecDepth 20000 in
theorem t_X2_dropOldest_9 (l0 : Nat) (l1 : Nat) (l2 : Int32) (h : Hp) (k9 : (Int32 × Hp) → Option (Unit × Hp)) (hk9 : ∀ s : Int32 × Hp, Sm rvV g_X2_dropOldest 9 [.ref l0, .ref l1, .int s.1] [] s.2 (k9 s)) : Sm rvV g_X2_dropOldest 9 [.ref l0, .ref l1, .int l2] [] h (f_X2_dropOldest_9 k9 l0 l1 l2 h) := by
  unfold f_X2_dropOldest_9
  refine Sm.iload_n dX2_dropOldest_9 rfl rfl rfl ?_
  refine Sm.iconst dX2_dropOldest_10 ic_5 rfl ?_
  refine Sm.icmp_ge (t := 48) dX2_dropOldest_11 (by decide) rfl (fun b5 => ?_) (fun b5 => ?_)
  · refine Sm.aload_n dX2_dropOldest_48 rfl rfl rfl ?_
    refine Sm.ck (fun o6 => ?_)
    refine gf_X2_17 o6 dX2_dropOldest_49 rfl rfl (fun v7 => ?_)
    refine Sm.iconst dX2_dropOldest_52 ic_4 rfl ?_
    refine Sm.aload_n dX2_dropOldest_53 rfl rfl rfl ?_
    refine Sm.ck (fun o8 => ?_)
    refine Sm.ca (fun q9 => ?_)
    refine Sm.aast q9 o8 (by decide) dX2_dropOldest_54 rfl ?_
    refine Sm.aload_n dX2_dropOldest_55 rfl rfl rfl ?_
    refine Sm.dup dX2_dropOldest_56 rfl rfl ?_
    refine gf_X2_21 o6 dX2_dropOldest_57 rfl rfl ?_
    refine Sm.iconst dX2_dropOldest_60 ic_1 rfl ?_
    refine Sm.isub dX2_dropOldest_61 rfl ?_
    refine pf_X2_21 o6 dX2_dropOldest_62 rfl rfl ?_
    refine Sm.nmH (fun h10 e11 e12 => ?_)
    exact Sm.ret (r := ()) dX2_dropOldest_65 trivial rfl
  · refine Sm.aload_n dX2_dropOldest_14 rfl rfl rfl ?_
    refine Sm.ck (fun o13 => ?_)
    refine gf_X2_9 o13 dX2_dropOldest_15 rfl rfl (fun v14 => ?_)
    refine Sm.iload_n dX2_dropOldest_18 rfl rfl rfl ?_
    refine Sm.iconst dX2_dropOldest_19 ic_1 rfl ?_
    refine Sm.isub dX2_dropOldest_20 rfl ?_
    refine Sm.aload_n dX2_dropOldest_21 rfl rfl rfl ?_
    refine gf_X2_9 o13 dX2_dropOldest_22 rfl rfl (fun v15 => ?_)
    refine Sm.iload_n dX2_dropOldest_25 rfl rfl rfl ?_
    refine Sm.ca (fun q16 => ?_)
    refine Sm.iald q16 dX2_dropOldest_26 rfl ?_
    refine Sm.ca (fun q17 => ?_)
    refine Sm.iast q17 dX2_dropOldest_27 rfl ?_
    refine Sm.aload_n dX2_dropOldest_28 rfl rfl rfl ?_
    refine gf_X2_17 o13 dX2_dropOldest_29 rfl rfl (fun v18 => ?_)
    refine Sm.iload_n dX2_dropOldest_32 rfl rfl rfl ?_
    refine Sm.iconst dX2_dropOldest_33 ic_1 rfl ?_
    refine Sm.isub dX2_dropOldest_34 rfl ?_
    refine Sm.aload_n dX2_dropOldest_35 rfl rfl rfl ?_
    refine gf_X2_17 o13 dX2_dropOldest_36 rfl rfl (fun v19 => ?_)
    refine Sm.iload_n dX2_dropOldest_39 rfl rfl rfl ?_
    refine Sm.ca (fun q20 => ?_)
    refine Sm.aald q20 (by decide) dX2_dropOldest_40 rfl (fun v21 => ?_)
    refine Sm.ck (fun o22 => ?_)
    refine Sm.ca (fun q23 => ?_)
    refine Sm.aast q23 o22 (by decide) dX2_dropOldest_41 rfl ?_
    refine Sm.iinc (lv' := [.ref l0, .ref l1, .int (l2 + (1 : Int32))]) dX2_dropOldest_42 rfl ic_1 rfl rfl ?_
    refine Sm.nm (LV := fun v24 => [.ref l0, .ref l1, .int v24]) (ST := fun v24 => []) (fun v24 => ?_)
    refine Sm.goto (t := 9) dX2_dropOldest_45 (by decide) ?_
    exact Sm.wk (hk9 (v24, (sP (sI h v14 (l2 - (1 : Int32)).toNatClampNeg (gI h v15 l2.toNatClampNeg)) v18 (l2 - (1 : Int32)).toNatClampNeg (some v21)))) ⟨Or.inr rfl, Or.inr rfl, Or.inr rfl, trivial⟩
def f_X2_dropOldest (l0 : Nat) (h : Hp) : Option (Unit × Hp) :=
  (ck h l0 2
((gP h l0 1).bind fun v2 =>
(ca h v2 24 (0 : Int32)
((gP h v2 (0 : Int32).toNatClampNeg).bind fun v4 =>
(loopN (fun k s => f_X2_dropOldest_9 k l0 v4 s.1 s.2) 5000 ((1 : Int32), h))))))
set_option maxRecDepth 20000 in
theorem t_X2_dropOldest (l0 : Nat) (h : Hp) : Sm rvV g_X2_dropOldest 0 (ent 3 [.ref l0]) [] h (f_X2_dropOldest l0 h) := by
  show Sm rvV g_X2_dropOldest 0 [.ref l0, .null, .null] [] h _
  unfold f_X2_dropOldest
  refine Sm.aload_n dX2_dropOldest_0 rfl rfl rfl ?_
  refine Sm.ck (fun o1 => ?_)
  refine gf_X2_17 o1 dX2_dropOldest_1 rfl rfl (fun v2 => ?_)
  refine Sm.iconst dX2_dropOldest_4 ic_0 rfl ?_
  refine Sm.ca (fun q3 => ?_)
  refine Sm.aald q3 (by decide) dX2_dropOldest_5 rfl (fun v4 => ?_)
  refine Sm.astore_n (lv' := [.ref l0, .ref v4, .null]) dX2_dropOldest_6 rfl (Nat.le_of_ble_eq_true rfl) rfl rfl ?_
  refine Sm.iconst dX2_dropOldest_7 ic_1 rfl ?_
  refine Sm.istore_n (lv' := [.ref l0, .ref v4, .int (1 : Int32)]) dX2_dropOldest_8 rfl (Nat.le_of_ble_eq_true rfl) rfl rfl ?_
  exact Sm.wk (Sm.loop (σ := Int32 × Hp) (LV := fun s => [.ref l0, .ref v4, .int s.1]) (HH := fun s => s.2) (fun k hk s => t_X2_dropOldest_9 l0 v4 s.1 s.2 k hk) 5000 ((1 : Int32), h)) ⟨Or.inr rfl, Or.inr rfl, Or.inr rfl, trivial⟩
set_option maxRecDepth 20000 in
theorem kc_X2_26 {ρ : Type} {rv : ρ → Option Value} {G : Gx} {pc q : Nat} {lv st : List Value} {h : Hp} {a : Nat} {e : Unit → Hp → Option (ρ × Hp)} (hk : isO h a 2) (d : decode G.2.1 pc = .ok (.invokevirtual 26, 3)) (ho : G.1.cls = RX2) (hdep : (g_X2_dropOldest).2.2.2.2 < G.2.2.2.2) (hcat : catS st ≤ 8) (hq : pc + 3 = q) (k : ∀ r h1, Sm rv G q lv (st) h1 (e r h1)) : Sm rv G pc lv (.ref a :: st) h (bd (f_X2_dropOldest a h) e) :=
  Sm.callV (rv' := rvV) (args := []) (n := 0) (t_X2_dropOldest a h) hk (by decide) (r := (RX2, TX2, 3)) rfl rfl ho mw_387 mw_389 mp_19 mw_2 mw_390 ⟨⟨by decide, rfl, hdep, Nat.le_of_ble_eq_true rfl⟩, Nat.le_of_ble_eq_true rfl, rfl, ⟨by decide, by decide⟩, hcat⟩ (by decide +kernel) (fun v hv => by cases hv) d hq k rfl
abbrev g_X4_start : Gx := (yX4_start, cX4_start, 1, (Option.none : Option FieldType), 0)
def f_X4_start (l0 : Nat) (h : Hp) : Option (Unit × Hp) :=
  (ck h l0 4
(some ((), (sI (sI h l0 2 (0 : Int32)) l0 3 (0 : Int32)))))
set_option maxRecDepth 20000 in
theorem t_X4_start (l0 : Nat) (h : Hp) : Sm rvV g_X4_start 0 (ent 1 [.ref l0]) [] h (f_X4_start l0 h) := by
  show Sm rvV g_X4_start 0 [.ref l0] [] h _
  unfold f_X4_start
  refine Sm.aload_n dX4_start_0 rfl rfl rfl ?_
  refine Sm.iconst dX4_start_1 ic_0 rfl ?_
  refine Sm.ck (fun o1 => ?_)
  refine pf_X4_18 o1 dX4_start_2 rfl rfl ?_
  refine Sm.aload_n dX4_start_5 rfl rfl rfl ?_
  refine Sm.iconst dX4_start_6 ic_0 rfl ?_
  refine pf_X4_22 (Or.inl rfl) o1 dX4_start_7 rfl rfl ?_
  exact Sm.ret (r := ()) dX4_start_10 trivial rfl
set_option maxRecDepth 20000 in
theorem kc_X3_48 {ρ : Type} {rv : ρ → Option Value} {G : Gx} {pc q : Nat} {lv st : List Value} {h : Hp} {a : Nat} {e : Unit → Hp → Option (ρ × Hp)} (hk : isO h a 4) (d : decode G.2.1 pc = .ok (.invokevirtual 48, 3)) (ho : G.1.cls = RX3) (hdep : (g_X4_start).2.2.2.2 < G.2.2.2.2) (hcat : catS st ≤ 8) (hq : pc + 3 = q) (k : ∀ r h1, Sm rv G q lv (st) h1 (e r h1)) : Sm rv G pc lv (.ref a :: st) h (bd (f_X4_start a h) e) :=
  Sm.callV (rv' := rvV) (args := []) (n := 0) (t_X4_start a h) hk (by decide) (r := (RX4, TX4, 4)) rfl rfl ho mw_284 mw_285 mw_286 mw_3 mw_287 ⟨⟨by decide, rfl, hdep, Nat.le_of_ble_eq_true rfl⟩, Nat.le_of_ble_eq_true rfl, rfl, ⟨by decide, by decide⟩, hcat⟩ (by decide +kernel) (fun v hv => by cases hv) d hq k rfl
set_option maxRecDepth 20000 in
theorem kc_X2_29 {ρ : Type} {rv : ρ → Option Value} {G : Gx} {pc q : Nat} {lv st : List Value} {h : Hp} {a : Nat} {e : Unit → Hp → Option (ρ × Hp)} (hk : isO h a 4) (d : decode G.2.1 pc = .ok (.invokevirtual 29, 3)) (ho : G.1.cls = RX2) (hdep : (g_X4_start).2.2.2.2 < G.2.2.2.2) (hcat : catS st ≤ 8) (hq : pc + 3 = q) (k : ∀ r h1, Sm rv G q lv (st) h1 (e r h1)) : Sm rv G pc lv (.ref a :: st) h (bd (f_X4_start a h) e) :=
  Sm.callV (rv' := rvV) (args := []) (n := 0) (t_X4_start a h) hk (by decide) (r := (RX4, TX4, 4)) rfl rfl ho mw_391 mw_285 mw_286 mw_3 mw_287 ⟨⟨by decide, rfl, hdep, Nat.le_of_ble_eq_true rfl⟩, Nat.le_of_ble_eq_true rfl, rfl, ⟨by decide, by decide⟩, hcat⟩ (by decide +kernel) (fun v hv => by cases hv) d hq k rfl
set_option maxRecDepth 20000 in
theorem kc_X7_58 {ρ : Type} {rv : ρ → Option Value} {G : Gx} {pc q : Nat} {lv st : List Value} {h : Hp} {a : Nat} {e : Unit → Hp → Option (ρ × Hp)} (hk : isO h a 4) (d : decode G.2.1 pc = .ok (.invokevirtual 58, 3)) (ho : G.1.cls = RX7) (hdep : (g_X4_start).2.2.2.2 < G.2.2.2.2) (hcat : catS st ≤ 8) (hq : pc + 3 = q) (k : ∀ r h1, Sm rv G q lv (st) h1 (e r h1)) : Sm rv G pc lv (.ref a :: st) h (bd (f_X4_start a h) e) :=
  Sm.callV (rv' := rvV) (args := []) (n := 0) (t_X4_start a h) hk (by decide) (r := (RX4, TX4, 4)) rfl rfl ho mw_399 mw_285 mw_286 mw_3 mw_287 ⟨⟨by decide, rfl, hdep, Nat.le_of_ble_eq_true rfl⟩, Nat.le_of_ble_eq_true rfl, rfl, ⟨by decide, by decide⟩, hcat⟩ (by decide +kernel) (fun v hv => by cases hv) d hq k rfl
set_option maxRecDepth 20000 in
theorem kc_X9_81 {ρ : Type} {rv : ρ → Option Value} {G : Gx} {pc q : Nat} {lv st : List Value} {h : Hp} {a : Nat} {e : Unit → Hp → Option (ρ × Hp)} (hk : isO h a 4) (d : decode G.2.1 pc = .ok (.invokevirtual 81, 3)) (ho : G.1.cls = RX9) (hdep : (g_X4_start).2.2.2.2 < G.2.2.2.2) (hcat : catS st ≤ 8) (hq : pc + 3 = q) (k : ∀ r h1, Sm rv G q lv (st) h1 (e r h1)) : Sm rv G pc lv (.ref a :: st) h (bd (f_X4_start a h) e) :=
  Sm.callV (rv' := rvV) (args := []) (n := 0) (t_X4_start a h) hk (by decide) (r := (RX4, TX4, 4)) rfl rfl ho mw_409 mw_285 mw_286 mw_3 mw_287 ⟨⟨by decide, rfl, hdep, Nat.le_of_ble_eq_true rfl⟩, Nat.le_of_ble_eq_true rfl, rfl, ⟨by decide, by decide⟩, hcat⟩ (by decide +kernel) (fun v hv => by cases hv) d hq k rfl
abbrev g_X4_addAll : Gx := (yX4_addAll, cX4_addAll, 4, (Option.none : Option FieldType), 0)
def f_X4_addAll_62 (k7 : (Int32 × Hp) → Option (Unit × Hp)) (l0 : Nat) (l1 : Nat) (l2 : Int32) (l3 : Int32) (h : Hp) : Option (Unit × Hp) :=
  (ck h l0 4
(nm (l3 + (1 : Int32)) fun v9 =>
(k7 (v9, (sI h l0 2 ((gI h l0 2) + (1 : Int32)))))))
set_option maxRecDepth 20000 in
theorem t_X4_addAll_62 (l0 : Nat) (l1 : Nat) (l2 : Int32) (l3 : Int32) (h : Hp) (k7 : (Int32 × Hp) → Option (Unit × Hp)) (hk7 : ∀ s : Int32 × Hp, Sm rvV g_X4_addAll 7 [.ref l0, .ref l1, .int l2, .int s.1] [] s.2 (k7 s)) : Sm rvV g_X4_addAll 62 [.ref l0, .ref l1, .int l2, .int l3] [] h (f_X4_addAll_62 k7 l0 l1 l2 l3 h) := by
  unfold f_X4_addAll_62
  refine Sm.aload_n dX4_addAll_62 rfl rfl rfl ?_
  refine Sm.dup dX4_addAll_63 rfl rfl ?_
  refine Sm.ck (fun o8 => ?_)
  refine gf_X4_18 o8 dX4_addAll_64 rfl rfl ?_
  refine Sm.iconst dX4_addAll_67 ic_1 rfl ?_
  refine Sm.iadd dX4_addAll_68 rfl ?_
  refine pf_X4_18 o8 dX4_addAll_69 rfl rfl ?_
  refine Sm.iinc (lv' := [.ref l0, .ref l1, .int l2, .int (l3 + (1 : Int32))]) dX4_addAll_72 rfl ic_1 rfl rfl ?_
  refine Sm.nm (LV := fun v9 => [.ref l0, .ref l1, .int l2, .int v9]) (ST := fun v9 => []) (fun v9 => ?_)
  refine Sm.goto (t := 7) dX4_addAll_75 (by decide) ?_
  exact Sm.wk (hk7 (v9, (sI h l0 2 ((gI h l0 2) + (1 : Int32))))) ⟨Or.inr rfl, Or.inr rfl, Or.inr rfl, Or.inr rfl, trivial⟩
def f_X4_addAll_7 (k7 : (Int32 × Hp) → Option (Unit × Hp)) (l0 : Nat) (l1 : Nat) (l2 : Int32) (l3 : Int32) (h : Hp) : Option (Unit × Hp) :=
  (ck h l1 4
(if (gI h l1 2) ≤ l3 then
(some ((), h))
else
(if (60 : Int32) ≤ l3 then
(some ((), h))
else
(ck h l0 4
(if (60 : Int32) ≤ (gI h l0 2) then
(f_X4_addAll_62 k7 l0 l1 l2 l3 h)
else
((gP h l0 0).bind fun v10 =>
((gP h l1 0).bind fun v11 =>
(ca h v11 20 l3
(ca h v10 20 (gI h l0 2)
((gP (sI h v10 (gI h l0 2).toNatClampNeg (gI h v11 l3.toNatClampNeg)) l0 1).bind fun v14 =>
((gP (sI h v10 (gI h l0 2).toNatClampNeg (gI h v11 l3.toNatClampNeg)) l1 1).bind fun v15 =>
(ca (sI h v10 (gI h l0 2).toNatClampNeg (gI h v11 l3.toNatClampNeg)) v15 20 l3
(ca (sI h v10 (gI h l0 2).toNatClampNeg (gI h v11 l3.toNatClampNeg)) v14 20 (gI (sI h v10 (gI h l0 2).toNatClampNeg (gI h v11 l3.toNatClampNeg)) l0 2)
(nm (sI (sI h v10 (gI h l0 2).toNatClampNeg (gI h v11 l3.toNatClampNeg)) v14 (gI (sI h v10 (gI h l0 2).toNatClampNeg (gI h v11 l3.toNatClampNeg)) l0 2).toNatClampNeg (l2 + (gI (sI h v10 (gI h l0 2).toNatClampNeg (gI h v11 l3.toNatClampNeg)) v15 l3.toNatClampNeg))) fun h18 =>
(f_X4_addAll_62 k7 l0 l1 l2 l3 h18)))))))))))))))
set_option maxRecDepth 20000 in
theorem t_X4_addAll_7 (l0 : Nat) (l1 : Nat) (l2 : Int32) (l3 : Int32) (h : Hp) (k7 : (Int32 × Hp) → Option (Unit × Hp)) (hk7 : ∀ s : Int32 × Hp, Sm rvV g_X4_addAll 7 [.ref l0, .ref l1, .int l2, .int s.1] [] s.2 (k7 s)) : Sm rvV g_X4_addAll 7 [.ref l0, .ref l1, .int l2, .int l3] [] h (f_X4_addAll_7 k7 l0 l1 l2 l3 h) := by
  unfold f_X4_addAll_7
  refine Sm.iload_n dX4_addAll_7 rfl rfl rfl ?_
  refine Sm.aload_n dX4_addAll_8 rfl rfl rfl ?_
  refine Sm.ck (fun o3 => ?_)
  refine gf_X4_18 o3 dX4_addAll_9 rfl rfl ?_
  refine Sm.icmp_ge (t := 78) dX4_addAll_12 (by decide) rfl (fun b4 => ?_) (fun b4 => ?_)
  · exact Sm.ret (r := ()) dX4_addAll_78 trivial rfl
  · refine Sm.iload_n dX4_addAll_15 rfl rfl rfl ?_
    refine Sm.bipush dX4_addAll_16 bp_60 rfl ?_
    refine Sm.icmp_ge (t := 78) dX4_addAll_18 (by decide) rfl (fun b5 => ?_) (fun b5 => ?_)
    · exact Sm.ret (r := ()) dX4_addAll_78 trivial rfl
    · refine Sm.aload_n dX4_addAll_21 rfl rfl rfl ?_
      refine Sm.ck (fun o6 => ?_)
      refine gf_X4_18 o6 dX4_addAll_22 rfl rfl ?_
      refine Sm.bipush dX4_addAll_25 bp_60 rfl ?_
      refine Sm.icmp_ge (t := 62) dX4_addAll_27 (by decide) rfl (fun b7 => ?_) (fun b7 => ?_)
      · exact Sm.wk (t_X4_addAll_62 l0 l1 l2 l3 h k7 hk7) ⟨Or.inr rfl, Or.inr rfl, Or.inr rfl, Or.inr rfl, trivial⟩
      · refine Sm.aload_n dX4_addAll_30 rfl rfl rfl ?_
        refine gf_X4_9 o6 dX4_addAll_31 rfl rfl (fun v10 => ?_)
        refine Sm.aload_n dX4_addAll_34 rfl rfl rfl ?_
        refine gf_X4_18 o6 dX4_addAll_35 rfl rfl ?_
        refine Sm.aload_n dX4_addAll_38 rfl rfl rfl ?_
        refine gf_X4_9 o3 dX4_addAll_39 rfl rfl (fun v11 => ?_)
        refine Sm.iload_n dX4_addAll_42 rfl rfl rfl ?_
        refine Sm.ca (fun q12 => ?_)
        refine Sm.iald q12 dX4_addAll_43 rfl ?_
        refine Sm.ca (fun q13 => ?_)
        refine Sm.iast q13 dX4_addAll_44 rfl ?_
        refine Sm.aload_n dX4_addAll_45 rfl rfl rfl ?_
        refine gf_X4_15 o6 dX4_addAll_46 rfl rfl (fun v14 => ?_)
        refine Sm.aload_n dX4_addAll_49 rfl rfl rfl ?_
        refine gf_X4_18 o6 dX4_addAll_50 rfl rfl ?_
        refine Sm.iload_n dX4_addAll_53 rfl rfl rfl ?_
        refine Sm.aload_n dX4_addAll_54 rfl rfl rfl ?_
        refine gf_X4_15 o3 dX4_addAll_55 rfl rfl (fun v15 => ?_)
        refine Sm.iload_n dX4_addAll_58 rfl rfl rfl ?_
        refine Sm.ca (fun q16 => ?_)
        refine Sm.iald q16 dX4_addAll_59 rfl ?_
        refine Sm.iadd dX4_addAll_60 rfl ?_
        refine Sm.ca (fun q17 => ?_)
        refine Sm.iast q17 dX4_addAll_61 rfl ?_
        refine Sm.nmH (fun h18 e19 e20 => ?_)
        exact Sm.wk (t_X4_addAll_62 l0 l1 l2 l3 h18 k7 hk7) ⟨Or.inr rfl, Or.inr rfl, Or.inr rfl, Or.inr rfl, trivial⟩
def f_X4_addAll (l0 : Nat) (l1 : Nat) (h : Hp) : Option (Unit × Hp) :=
  (ck h l0 4
(nm (gI h l0 2) fun v2 =>
(loopN (fun k s => f_X4_addAll_7 k l0 l1 v2 s.1 s.2) 5000 ((0 : Int32), h))))
set_option maxRecDepth 20000 in
theorem t_X4_addAll (l0 : Nat) (l1 : Nat) (h : Hp) : Sm rvV g_X4_addAll 0 (ent 4 [.ref l0, .ref l1]) [] h (f_X4_addAll l0 l1 h) := by
  show Sm rvV g_X4_addAll 0 [.ref l0, .ref l1, .null, .null] [] h _
  unfold f_X4_addAll
  refine Sm.aload_n dX4_addAll_0 rfl rfl rfl ?_
  refine Sm.ck (fun o1 => ?_)
  refine gf_X4_18 o1 dX4_addAll_1 rfl rfl ?_
  refine Sm.nm (LV := fun v2 => [.ref l0, .ref l1, .null, .null]) (ST := fun v2 => [.int v2]) (fun v2 => ?_)
  refine Sm.istore_n (lv' := [.ref l0, .ref l1, .int v2, .null]) dX4_addAll_4 rfl (Nat.le_of_ble_eq_true rfl) rfl rfl ?_
  refine Sm.iconst dX4_addAll_5 ic_0 rfl ?_
  refine Sm.istore_n (lv' := [.ref l0, .ref l1, .int v2, .int (0 : Int32)]) dX4_addAll_6 rfl (Nat.le_of_ble_eq_true rfl) rfl rfl ?_
  exact Sm.wk (Sm.loop (σ := Int32 × Hp) (LV := fun s => [.ref l0, .ref l1, .int v2, .int s.1]) (HH := fun s => s.2) (fun k hk s => t_X4_addAll_7 l0 l1 v2 s.1 s.2 k hk) 5000 ((0 : Int32), h)) ⟨Or.inr rfl, Or.inr rfl, Or.inr rfl, Or.inr rfl, trivial⟩
set_option maxRecDepth 20000 in
theorem kc_X3_96 {ρ : Type} {rv : ρ → Option Value} {G : Gx} {pc q : Nat} {lv st : List Value} {h : Hp} {a : Nat} {x1 : Nat} {e : Unit → Hp → Option (ρ × Hp)} (hk : isO h a 4) (d : decode G.2.1 pc = .ok (.invokevirtual 96, 3)) (ho : G.1.cls = RX3) (hdep : (g_X4_addAll).2.2.2.2 < G.2.2.2.2) (hcat : catS st ≤ 8) (hq : pc + 3 = q) (k : ∀ r h1, Sm rv G q lv (st) h1 (e r h1)) : Sm rv G pc lv (.ref x1 :: .ref a :: st) h (bd (f_X4_addAll a x1 h) e) :=
  Sm.callV (rv' := rvV) (args := [.ref x1]) (n := 1) (t_X4_addAll a x1 h) hk (by decide) (r := (RX4, TX4, 4)) rfl rfl ho mw_309 mw_310 mw_311 mw_3 mw_312 ⟨⟨by decide, rfl, hdep, Nat.le_of_ble_eq_true rfl⟩, Nat.le_of_ble_eq_true rfl, rfl, ⟨by decide, by decide⟩, hcat⟩ (by decide +kernel) (by intro v hv; simp only [List.mem_cons, List.not_mem_nil, or_false] at hv; rcases hv with rfl <;> intro x hx <;> cases hx) d hq k rfl
set_option maxRecDepth 20000 in
theorem kc_X2_32 {ρ : Type} {rv : ρ → Option Value} {G : Gx} {pc q : Nat} {lv st : List Value} {h : Hp} {a : Nat} {x1 : Nat} {e : Unit → Hp → Option (ρ × Hp)} (hk : isO h a 4) (d : decode G.2.1 pc = .ok (.invokevirtual 32, 3)) (ho : G.1.cls = RX2) (hdep : (g_X4_addAll).2.2.2.2 < G.2.2.2.2) (hcat : catS st ≤ 8) (hq : pc + 3 = q) (k : ∀ r h1, Sm rv G q lv (st) h1 (e r h1)) : Sm rv G pc lv (.ref x1 :: .ref a :: st) h (bd (f_X4_addAll a x1 h) e) :=
  Sm.callV (rv' := rvV) (args := [.ref x1]) (n := 1) (t_X4_addAll a x1 h) hk (by decide) (r := (RX4, TX4, 4)) rfl rfl ho mw_392 mw_310 mw_311 mw_3 mw_312 ⟨⟨by decide, rfl, hdep, Nat.le_of_ble_eq_true rfl⟩, Nat.le_of_ble_eq_true rfl, rfl, ⟨by decide, by decide⟩, hcat⟩ (by decide +kernel) (by intro v hv; simp only [List.mem_cons, List.not_mem_nil, or_false] at hv; rcases hv with rfl <;> intro x hx <;> cases hx) d hq k rfl
set_option maxRecDepth 20000 in
theorem kc_X7_61 {ρ : Type} {rv : ρ → Option Value} {G : Gx} {pc q : Nat} {lv st : List Value} {h : Hp} {a : Nat} {x1 : Nat} {e : Unit → Hp → Option (ρ × Hp)} (hk : isO h a 4) (d : decode G.2.1 pc = .ok (.invokevirtual 61, 3)) (ho : G.1.cls = RX7) (hdep : (g_X4_addAll).2.2.2.2 < G.2.2.2.2) (hcat : catS st ≤ 8) (hq : pc + 3 = q) (k : ∀ r h1, Sm rv G q lv (st) h1 (e r h1)) : Sm rv G pc lv (.ref x1 :: .ref a :: st) h (bd (f_X4_addAll a x1 h) e) :=
  Sm.callV (rv' := rvV) (args := [.ref x1]) (n := 1) (t_X4_addAll a x1 h) hk (by decide) (r := (RX4, TX4, 4)) rfl rfl ho mw_400 mw_310 mw_311 mw_3 mw_312 ⟨⟨by decide, rfl, hdep, Nat.le_of_ble_eq_true rfl⟩, Nat.le_of_ble_eq_true rfl, rfl, ⟨by decide, by decide⟩, hcat⟩ (by decide +kernel) (by intro v hv; simp only [List.mem_cons, List.not_mem_nil, or_false] at hv; rcases hv with rfl <;> intro x hx <;> cases hx) d hq k rfl
set_option maxRecDepth 20000 in
theorem kc_X9_84 {ρ : Type} {rv : ρ → Option Value} {G : Gx} {pc q : Nat} {lv st : List Value} {h : Hp} {a : Nat} {x1 : Nat} {e : Unit → Hp → Option (ρ × Hp)} (hk : isO h a 4) (d : decode G.2.1 pc = .ok (.invokevirtual 84, 3)) (ho : G.1.cls = RX9) (hdep : (g_X4_addAll).2.2.2.2 < G.2.2.2.2) (hcat : catS st ≤ 8) (hq : pc + 3 = q) (k : ∀ r h1, Sm rv G q lv (st) h1 (e r h1)) : Sm rv G pc lv (.ref x1 :: .ref a :: st) h (bd (f_X4_addAll a x1 h) e) :=
  Sm.callV (rv' := rvV) (args := [.ref x1]) (n := 1) (t_X4_addAll a x1 h) hk (by decide) (r := (RX4, TX4, 4)) rfl rfl ho mw_410 mw_310 mw_311 mw_3 mw_312 ⟨⟨by decide, rfl, hdep, Nat.le_of_ble_eq_true rfl⟩, Nat.le_of_ble_eq_true rfl, rfl, ⟨by decide, by decide⟩, hcat⟩ (by decide +kernel) (by intro v hv; simp only [List.mem_cons, List.not_mem_nil, or_false] at hv; rcases hv with rfl <;> intro x hx <;> cases hx) d hq k rfl
abbrev g_X4_givesPredicate : Gx := (yX4_givesPredicate, cX4_givesPredicate, 1, (Option.some FieldType.boolean), 0)
def f_X4_givesPredicate (l0 : Nat) (h : Hp) : Option (Int32 × Hp) :=
  (ck h l0 4
(bz (gI h l0 3)
(some ((gI h l0 3), h))))
set_option maxRecDepth 20000 in
theorem t_X4_givesPredicate (l0 : Nat) (h : Hp) : Sm rvI g_X4_givesPredicate 0 (ent 1 [.ref l0]) [] h (f_X4_givesPredicate l0 h) := by
  show Sm rvI g_X4_givesPredicate 0 [.ref l0] [] h _
  unfold f_X4_givesPredicate
  refine Sm.aload_n dX4_givesPredicate_0 rfl rfl rfl ?_
  refine Sm.ck (fun o1 => ?_)
  refine gf_X4_22 o1 dX4_givesPredicate_1 rfl rfl ?_
  refine Sm.bz (fun z2 => ?_)
  exact Sm.ret dX4_givesPredicate_4 z2 rfl
set_option maxRecDepth 20000 in
theorem kc_X3_100 {ρ : Type} {rv : ρ → Option Value} {G : Gx} {pc q : Nat} {lv st : List Value} {h : Hp} {a : Nat} {e : Int32 → Hp → Option (ρ × Hp)} (hk : isO h a 4) (d : decode G.2.1 pc = .ok (.invokevirtual 100, 3)) (ho : G.1.cls = RX3) (hdep : (g_X4_givesPredicate).2.2.2.2 < G.2.2.2.2) (hcat : catS st ≤ 8) (hq : pc + 3 = q) (k : ∀ r h1, Sm rv G q lv (.int r :: st) h1 (e r h1)) : Sm rv G pc lv (.ref a :: st) h (bd (f_X4_givesPredicate a h) e) :=
  Sm.callV (rv' := rvI) (args := []) (n := 0) (t_X4_givesPredicate a h) hk (by decide) (r := (RX4, TX4, 4)) rfl rfl ho mw_313 mw_314 mw_315 mw_3 mw_316 ⟨⟨by decide, rfl, hdep, Nat.le_of_ble_eq_true rfl⟩, Nat.le_of_ble_eq_true rfl, rfl, ⟨by decide, by decide⟩, hcat⟩ (by decide +kernel) (fun v hv => by cases hv) d hq k rfl
set_option maxRecDepth 20000 in
theorem kc_X2_36 {ρ : Type} {rv : ρ → Option Value} {G : Gx} {pc q : Nat} {lv st : List Value} {h : Hp} {a : Nat} {e : Int32 → Hp → Option (ρ × Hp)} (hk : isO h a 4) (d : decode G.2.1 pc = .ok (.invokevirtual 36, 3)) (ho : G.1.cls = RX2) (hdep : (g_X4_givesPredicate).2.2.2.2 < G.2.2.2.2) (hcat : catS st ≤ 8) (hq : pc + 3 = q) (k : ∀ r h1, Sm rv G q lv (.int r :: st) h1 (e r h1)) : Sm rv G pc lv (.ref a :: st) h (bd (f_X4_givesPredicate a h) e) :=
  Sm.callV (rv' := rvI) (args := []) (n := 0) (t_X4_givesPredicate a h) hk (by decide) (r := (RX4, TX4, 4)) rfl rfl ho mw_393 mw_314 mw_315 mw_3 mw_316 ⟨⟨by decide, rfl, hdep, Nat.le_of_ble_eq_true rfl⟩, Nat.le_of_ble_eq_true rfl, rfl, ⟨by decide, by decide⟩, hcat⟩ (by decide +kernel) (fun v hv => by cases hv) d hq k rfl
set_option maxRecDepth 20000 in
theorem kc_X7_65 {ρ : Type} {rv : ρ → Option Value} {G : Gx} {pc q : Nat} {lv st : List Value} {h : Hp} {a : Nat} {e : Int32 → Hp → Option (ρ × Hp)} (hk : isO h a 4) (d : decode G.2.1 pc = .ok (.invokevirtual 65, 3)) (ho : G.1.cls = RX7) (hdep : (g_X4_givesPredicate).2.2.2.2 < G.2.2.2.2) (hcat : catS st ≤ 8) (hq : pc + 3 = q) (k : ∀ r h1, Sm rv G q lv (.int r :: st) h1 (e r h1)) : Sm rv G pc lv (.ref a :: st) h (bd (f_X4_givesPredicate a h) e) :=
  Sm.callV (rv' := rvI) (args := []) (n := 0) (t_X4_givesPredicate a h) hk (by decide) (r := (RX4, TX4, 4)) rfl rfl ho mw_401 mw_314 mw_315 mw_3 mw_316 ⟨⟨by decide, rfl, hdep, Nat.le_of_ble_eq_true rfl⟩, Nat.le_of_ble_eq_true rfl, rfl, ⟨by decide, by decide⟩, hcat⟩ (by decide +kernel) (fun v hv => by cases hv) d hq k rfl
set_option maxRecDepth 20000 in
theorem kc_X9_92 {ρ : Type} {rv : ρ → Option Value} {G : Gx} {pc q : Nat} {lv st : List Value} {h : Hp} {a : Nat} {e : Int32 → Hp → Option (ρ × Hp)} (hk : isO h a 4) (d : decode G.2.1 pc = .ok (.invokevirtual 92, 3)) (ho : G.1.cls = RX9) (hdep : (g_X4_givesPredicate).2.2.2.2 < G.2.2.2.2) (hcat : catS st ≤ 8) (hq : pc + 3 = q) (k : ∀ r h1, Sm rv G q lv (.int r :: st) h1 (e r h1)) : Sm rv G pc lv (.ref a :: st) h (bd (f_X4_givesPredicate a h) e) :=
  Sm.callV (rv' := rvI) (args := []) (n := 0) (t_X4_givesPredicate a h) hk (by decide) (r := (RX4, TX4, 4)) rfl rfl ho mw_412 mw_314 mw_315 mw_3 mw_316 ⟨⟨by decide, rfl, hdep, Nat.le_of_ble_eq_true rfl⟩, Nat.le_of_ble_eq_true rfl, rfl, ⟨by decide, by decide⟩, hcat⟩ (by decide +kernel) (fun v hv => by cases hv) d hq k rfl
abbrev g_X4_markPredicate : Gx := (yX4_markPredicate, cX4_markPredicate, 2, (Option.none : Option FieldType), 0)
def f_X4_markPredicate (l0 : Nat) (l1 : Int32) (h : Hp) : Option (Unit × Hp) :=
  (bz l1
(ck h l0 4
(some ((), (sI h l0 3 l1)))))
set_option maxRecDepth 20000 in
theorem t_X4_markPredicate (l0 : Nat) (l1 : Int32) (h : Hp) : Sm rvV g_X4_markPredicate 0 (ent 2 [.ref l0, .int l1]) [] h (f_X4_markPredicate l0 l1 h) := by
  show Sm rvV g_X4_markPredicate 0 [.ref l0, .int l1] [] h _
  unfold f_X4_markPredicate
  refine Sm.aload_n dX4_markPredicate_0 rfl rfl rfl ?_
  refine Sm.iload_n dX4_markPredicate_1 rfl rfl rfl ?_
  refine Sm.bz (fun z1 => ?_)
  refine Sm.ck (fun o2 => ?_)
  refine pf_X4_22 z1 o2 dX4_markPredicate_2 rfl rfl ?_
  exact Sm.ret (r := ()) dX4_markPredicate_5 trivial rfl
set_option maxRecDepth 20000 in
theorem kc_X7_54 {ρ : Type} {rv : ρ → Option Value} {G : Gx} {pc q : Nat} {lv st : List Value} {h : Hp} {a : Nat} {x1 : Int32} {e : Unit → Hp → Option (ρ × Hp)} (hk : isO h a 4) (d : decode G.2.1 pc = .ok (.invokevirtual 54, 3)) (ho : G.1.cls = RX7) (hdep : (g_X4_markPredicate).2.2.2.2 < G.2.2.2.2) (hcat : catS st ≤ 8) (hq : pc + 3 = q) (k : ∀ r h1, Sm rv G q lv (st) h1 (e r h1)) : Sm rv G pc lv (.int x1 :: .ref a :: st) h (bd (f_X4_markPredicate a x1 h) e) :=
  Sm.callV (rv' := rvV) (args := [.int x1]) (n := 1) (t_X4_markPredicate a x1 h) hk (by decide) (r := (RX4, TX4, 4)) rfl rfl ho mw_213 mw_214 mw_215 mw_3 mw_216 ⟨⟨by decide, rfl, hdep, Nat.le_of_ble_eq_true rfl⟩, Nat.le_of_ble_eq_true rfl, rfl, ⟨by decide, by decide⟩, hcat⟩ (by decide +kernel) (by intro v hv; simp only [List.mem_cons, List.not_mem_nil, or_false] at hv; rcases hv with rfl <;> intro x hx <;> cases hx) d hq k rfl
set_option maxRecDepth 20000 in
theorem kc_X3_79 {ρ : Type} {rv : ρ → Option Value} {G : Gx} {pc q : Nat} {lv st : List Value} {h : Hp} {a : Nat} {x1 : Int32} {e : Unit → Hp → Option (ρ × Hp)} (hk : isO h a 4) (d : decode G.2.1 pc = .ok (.invokevirtual 79, 3)) (ho : G.1.cls = RX3) (hdep : (g_X4_markPredicate).2.2.2.2 < G.2.2.2.2) (hcat : catS st ≤ 8) (hq : pc + 3 = q) (k : ∀ r h1, Sm rv G q lv (st) h1 (e r h1)) : Sm rv G pc lv (.int x1 :: .ref a :: st) h (bd (f_X4_markPredicate a x1 h) e) :=
  Sm.callV (rv' := rvV) (args := [.int x1]) (n := 1) (t_X4_markPredicate a x1 h) hk (by decide) (r := (RX4, TX4, 4)) rfl rfl ho mw_369 mw_214 mw_215 mw_3 mw_216 ⟨⟨by decide, rfl, hdep, Nat.le_of_ble_eq_true rfl⟩, Nat.le_of_ble_eq_true rfl, rfl, ⟨by decide, by decide⟩, hcat⟩ (by decide +kernel) (by intro v hv; simp only [List.mem_cons, List.not_mem_nil, or_false] at hv; rcases hv with rfl <;> intro x hx <;> cases hx) d hq k rfl
set_option maxRecDepth 20000 in
theorem kc_X2_40 {ρ : Type} {rv : ρ → Option Value} {G : Gx} {pc q : Nat} {lv st : List Value} {h : Hp} {a : Nat} {x1 : Int32} {e : Unit → Hp → Option (ρ × Hp)} (hk : isO h a 4) (d : decode G.2.1 pc = .ok (.invokevirtual 40, 3)) (ho : G.1.cls = RX2) (hdep : (g_X4_markPredicate).2.2.2.2 < G.2.2.2.2) (hcat : catS st ≤ 8) (hq : pc + 3 = q) (k : ∀ r h1, Sm rv G q lv (st) h1 (e r h1)) : Sm rv G pc lv (.int x1 :: .ref a :: st) h (bd (f_X4_markPredicate a x1 h) e) :=
  Sm.callV (rv' := rvV) (args := [.int x1]) (n := 1) (t_X4_markPredicate a x1 h) hk (by decide) (r := (RX4, TX4, 4)) rfl rfl ho mw_394 mw_214 mw_215 mw_3 mw_216 ⟨⟨by decide, rfl, hdep, Nat.le_of_ble_eq_true rfl⟩, Nat.le_of_ble_eq_true rfl, rfl, ⟨by decide, by decide⟩, hcat⟩ (by decide +kernel) (by intro v hv; simp only [List.mem_cons, List.not_mem_nil, or_false] at hv; rcases hv with rfl <;> intro x hx <;> cases hx) d hq k rfl
set_option maxRecDepth 20000 in
theorem kc_X9_96 {ρ : Type} {rv : ρ → Option Value} {G : Gx} {pc q : Nat} {lv st : List Value} {h : Hp} {a : Nat} {x1 : Int32} {e : Unit → Hp → Option (ρ × Hp)} (hk : isO h a 4) (d : decode G.2.1 pc = .ok (.invokevirtual 96, 3)) (ho : G.1.cls = RX9) (hdep : (g_X4_markPredicate).2.2.2.2 < G.2.2.2.2) (hcat : catS st ≤ 8) (hq : pc + 3 = q) (k : ∀ r h1, Sm rv G q lv (st) h1 (e r h1)) : Sm rv G pc lv (.int x1 :: .ref a :: st) h (bd (f_X4_markPredicate a x1 h) e) :=
  Sm.callV (rv' := rvV) (args := [.int x1]) (n := 1) (t_X4_markPredicate a x1 h) hk (by decide) (r := (RX4, TX4, 4)) rfl rfl ho mw_413 mw_214 mw_215 mw_3 mw_216 ⟨⟨by decide, rfl, hdep, Nat.le_of_ble_eq_true rfl⟩, Nat.le_of_ble_eq_true rfl, rfl, ⟨by decide, by decide⟩, hcat⟩ (by decide +kernel) (by intro v hv; simp only [List.mem_cons, List.not_mem_nil, or_false] at hv; rcases hv with rfl <;> intro x hx <;> cases hx) d hq k rfl
abbrev g_X2_save : Gx := (yX2_save, cX2_save, 3, (Option.none : Option FieldType), 1)
def f_X2_save_12 (l0 : Nat) (l1 : Int32) (l2 : Nat) (h : Hp) : Option (Unit × Hp) :=
  (ck h l0 2
(if (gI h l0 2) < 0 then
(some ((), h))
else
(if (5 : Int32) ≤ (gI h l0 2) then
(some ((), h))
else
((gP h l0 0).bind fun v6 =>
(ca h v6 20 (gI h l0 2)
((gP (sI h v6 (gI h l0 2).toNatClampNeg l1) l0 1).bind fun v8 =>
(ca (sI h v6 (gI h l0 2).toNatClampNeg l1) v8 24 (gI (sI h v6 (gI h l0 2).toNatClampNeg l1) l0 2)
((gP (sI h v6 (gI h l0 2).toNatClampNeg l1) v8 (gI (sI h v6 (gI h l0 2).toNatClampNeg l1) l0 2).toNatClampNeg).bind fun v10 =>
(ck (sI h v6 (gI h l0 2).toNatClampNeg l1) v10 4
(bd (f_X4_start v10 (sI h v6 (gI h l0 2).toNatClampNeg l1)) fun _ h12 =>
(ck h12 l0 2
((gP h12 l0 1).bind fun v14 =>
(ca h12 v14 24 (gI h12 l0 2)
((gP h12 v14 (gI h12 l0 2).toNatClampNeg).bind fun v16 =>
(ck h12 v16 4
(bd (f_X4_addAll v16 l2 h12) fun _ h18 =>
(ck h18 l0 2
((gP h18 l0 1).bind fun v20 =>
(ca h18 v20 24 (gI h18 l0 2)
((gP h18 v20 (gI h18 l0 2).toNatClampNeg).bind fun v22 =>
(ck h18 l2 4
(bd (f_X4_givesPredicate l2 h18) fun v24 h25 =>
(ck h25 v22 4
(bd (f_X4_markPredicate v22 v24 h25) fun _ h27 =>
(ck h27 l0 2
(some ((), (sI h27 l0 2 ((gI h27 l0 2) + (1 : Int32))))))))))))))))))))))))))))))
set_option maxRecDepth 20000 in
theorem t_X2_save_12 (l0 : Nat) (l1 : Int32) (l2 : Nat) (h : Hp) : Sm rvV g_X2_save 12 [.ref l0, .int l1, .ref l2] [] h (f_X2_save_12 l0 l1 l2 h) := by
  unfold f_X2_save_12
  refine Sm.aload_n dX2_save_12 rfl rfl rfl ?_
  refine Sm.ck (fun o3 => ?_)
  refine gf_X2_21 o3 dX2_save_13 rfl rfl ?_
  refine Sm.if_lt (t := 88) dX2_save_16 (by decide) rfl (fun b4 => ?_) (fun b4 => ?_)
  · exact Sm.ret (r := ()) dX2_save_88 trivial rfl
  · refine Sm.aload_n dX2_save_19 rfl rfl rfl ?_
    refine gf_X2_21 o3 dX2_save_20 rfl rfl ?_
    refine Sm.iconst dX2_save_23 ic_5 rfl ?_
    refine Sm.icmp_ge (t := 88) dX2_save_24 (by decide) rfl (fun b5 => ?_) (fun b5 => ?_)
    · exact Sm.ret (r := ()) dX2_save_88 trivial rfl
    · refine Sm.aload_n dX2_save_27 rfl rfl rfl ?_
      refine gf_X2_9 o3 dX2_save_28 rfl rfl (fun v6 => ?_)
      refine Sm.aload_n dX2_save_31 rfl rfl rfl ?_
      refine gf_X2_21 o3 dX2_save_32 rfl rfl ?_
      refine Sm.iload_n dX2_save_35 rfl rfl rfl ?_
      refine Sm.ca (fun q7 => ?_)
      refine Sm.iast q7 dX2_save_36 rfl ?_
      refine Sm.aload_n dX2_save_37 rfl rfl rfl ?_
      refine gf_X2_17 o3 dX2_save_38 rfl rfl (fun v8 => ?_)
      refine Sm.aload_n dX2_save_41 rfl rfl rfl ?_
      refine gf_X2_21 o3 dX2_save_42 rfl rfl ?_
      refine Sm.ca (fun q9 => ?_)
      refine Sm.aald q9 (by decide) dX2_save_45 rfl (fun v10 => ?_)
      refine Sm.ck (fun o11 => ?_)
      refine kc_X2_29 o11 dX2_save_46 rfl (Nat.le_of_ble_eq_true rfl) (Nat.le_of_ble_eq_true rfl) rfl (fun _ h12 => ?_)
      refine Sm.aload_n dX2_save_49 rfl rfl rfl ?_
      refine Sm.ck (fun o13 => ?_)
      refine gf_X2_17 o13 dX2_save_50 rfl rfl (fun v14 => ?_)
      refine Sm.aload_n dX2_save_53 rfl rfl rfl ?_
      refine gf_X2_21 o13 dX2_save_54 rfl rfl ?_
      refine Sm.ca (fun q15 => ?_)
      refine Sm.aald q15 (by decide) dX2_save_57 rfl (fun v16 => ?_)
      refine Sm.aload_n dX2_save_58 rfl rfl rfl ?_
      refine Sm.ck (fun o17 => ?_)
      refine kc_X2_32 o17 dX2_save_59 rfl (Nat.le_of_ble_eq_true rfl) (Nat.le_of_ble_eq_true rfl) rfl (fun _ h18 => ?_)
      refine Sm.aload_n dX2_save_62 rfl rfl rfl ?_
      refine Sm.ck (fun o19 => ?_)
      refine gf_X2_17 o19 dX2_save_63 rfl rfl (fun v20 => ?_)
      refine Sm.aload_n dX2_save_66 rfl rfl rfl ?_
      refine gf_X2_21 o19 dX2_save_67 rfl rfl ?_
      refine Sm.ca (fun q21 => ?_)
      refine Sm.aald q21 (by decide) dX2_save_70 rfl (fun v22 => ?_)
      refine Sm.aload_n dX2_save_71 rfl rfl rfl ?_
      refine Sm.ck (fun o23 => ?_)
      refine kc_X2_36 o23 dX2_save_72 rfl (Nat.le_of_ble_eq_true rfl) (Nat.le_of_ble_eq_true rfl) rfl (fun v24 h25 => ?_)
      refine Sm.ck (fun o26 => ?_)
      refine kc_X2_40 o26 dX2_save_75 rfl (Nat.le_of_ble_eq_true rfl) (Nat.le_of_ble_eq_true rfl) rfl (fun _ h27 => ?_)
      refine Sm.aload_n dX2_save_78 rfl rfl rfl ?_
      refine Sm.dup dX2_save_79 rfl rfl ?_
      refine Sm.ck (fun o28 => ?_)
      refine gf_X2_21 o28 dX2_save_80 rfl rfl ?_
      refine Sm.iconst dX2_save_83 ic_1 rfl ?_
      refine Sm.iadd dX2_save_84 rfl ?_
      refine pf_X2_21 o28 dX2_save_85 rfl rfl ?_
      exact Sm.ret (r := ()) dX2_save_88 trivial rfl
def f_X2_save (l0 : Nat) (l1 : Int32) (l2 : Nat) (h : Hp) : Option (Unit × Hp) :=
  (ck h l0 2
(if (gI h l0 2) < (5 : Int32) then
(f_X2_save_12 l0 l1 l2 h)
else
(bd (f_X2_dropOldest l0 h) fun _ h29 =>
(f_X2_save_12 l0 l1 l2 h29))))
set_option maxRecDepth 20000 in
theorem t_X2_save (l0 : Nat) (l1 : Int32) (l2 : Nat) (h : Hp) : Sm rvV g_X2_save 0 (ent 3 [.ref l0, .int l1, .ref l2]) [] h (f_X2_save l0 l1 l2 h) := by
  show Sm rvV g_X2_save 0 [.ref l0, .int l1, .ref l2] [] h _
  unfold f_X2_save
  refine Sm.aload_n dX2_save_0 rfl rfl rfl ?_
  refine Sm.ck (fun o1 => ?_)
  refine gf_X2_21 o1 dX2_save_1 rfl rfl ?_
  refine Sm.iconst dX2_save_4 ic_5 rfl ?_
  refine Sm.icmp_lt (t := 12) dX2_save_5 (by decide) rfl (fun b2 => ?_) (fun b2 => ?_)
  · exact Sm.wk (t_X2_save_12 l0 l1 l2 h) ⟨Or.inr rfl, Or.inr rfl, Or.inr rfl, trivial⟩
  · refine Sm.aload_n dX2_save_8 rfl rfl rfl ?_
    refine kc_X2_26 o1 dX2_save_9 rfl (Nat.le_of_ble_eq_true rfl) (Nat.le_of_ble_eq_true rfl) rfl (fun _ h29 => ?_)
    exact Sm.wk (t_X2_save_12 l0 l1 l2 h29) ⟨Or.inr rfl, Or.inr rfl, Or.inr rfl, trivial⟩
set_option maxRecDepth 20000 in
theorem kc_X9_239 {ρ : Type} {rv : ρ → Option Value} {G : Gx} {pc q : Nat} {lv st : List Value} {h : Hp} {a : Nat} {x1 : Int32} {x2 : Nat} {e : Unit → Hp → Option (ρ × Hp)} (hk : isO h a 2) (d : decode G.2.1 pc = .ok (.invokevirtual 239, 3)) (ho : G.1.cls = RX9) (hdep : (g_X2_save).2.2.2.2 < G.2.2.2.2) (hcat : catS st ≤ 8) (hq : pc + 3 = q) (k : ∀ r h1, Sm rv G q lv (st) h1 (e r h1)) : Sm rv G pc lv (.ref x2 :: .int x1 :: .ref a :: st) h (bd (f_X2_save a x1 x2 h) e) :=
  Sm.callV (rv' := rvV) (args := [.int x1, .ref x2]) (n := 2) (t_X2_save a x1 x2 h) hk (by decide) (r := (RX2, TX2, 3)) rfl rfl ho mw_383 mw_384 mw_385 mw_2 mw_386 ⟨⟨by decide, rfl, hdep, Nat.le_of_ble_eq_true rfl⟩, Nat.le_of_ble_eq_true rfl, rfl, ⟨by decide, by decide⟩, hcat⟩ (by decide +kernel) (by intro v hv; simp only [List.mem_cons, List.not_mem_nil, or_false] at hv; rcases hv with rfl | rfl <;> intro x hx <;> cases hx) d hq k rfl
abbrev g_X2_newestSlot : Gx := (yX2_newestSlot, cX2_newestSlot, 1, (Option.some FieldType.int), 0)
def f_X2_newestSlot (l0 : Nat) (h : Hp) : Option (Int32 × Hp) :=
  (ck h l0 2
(if (gI h l0 2) ≤ 0 then
(some ((-1 : Int32), h))
else
(if (5 : Int32) < (gI h l0 2) then
(some ((-1 : Int32), h))
else
((gP h l0 0).bind fun v4 =>
(ca h v4 20 ((gI h l0 2) - (1 : Int32))
(some ((gI h v4 ((gI h l0 2) - (1 : Int32)).toNatClampNeg), h)))))))
set_option maxRecDepth 20000 in
theorem t_X2_newestSlot (l0 : Nat) (h : Hp) : Sm rvI g_X2_newestSlot 0 (ent 1 [.ref l0]) [] h (f_X2_newestSlot l0 h) := by
  show Sm rvI g_X2_newestSlot 0 [.ref l0] [] h _
  unfold f_X2_newestSlot
  refine Sm.aload_n dX2_newestSlot_0 rfl rfl rfl ?_
  refine Sm.ck (fun o1 => ?_)
  refine gf_X2_21 o1 dX2_newestSlot_1 rfl rfl ?_
  refine Sm.if_le (t := 29) dX2_newestSlot_4 (by decide) rfl (fun b2 => ?_) (fun b2 => ?_)
  · refine Sm.iconst dX2_newestSlot_29 ic_m1 rfl ?_
    exact Sm.ret dX2_newestSlot_30 trivial rfl
  · refine Sm.aload_n dX2_newestSlot_7 rfl rfl rfl ?_
    refine gf_X2_21 o1 dX2_newestSlot_8 rfl rfl ?_
    refine Sm.iconst dX2_newestSlot_11 ic_5 rfl ?_
    refine Sm.icmp_gt (t := 29) dX2_newestSlot_12 (by decide) rfl (fun b3 => ?_) (fun b3 => ?_)
    · refine Sm.iconst dX2_newestSlot_29 ic_m1 rfl ?_
      exact Sm.ret dX2_newestSlot_30 trivial rfl
    · refine Sm.aload_n dX2_newestSlot_15 rfl rfl rfl ?_
      refine gf_X2_9 o1 dX2_newestSlot_16 rfl rfl (fun v4 => ?_)
      refine Sm.aload_n dX2_newestSlot_19 rfl rfl rfl ?_
      refine gf_X2_21 o1 dX2_newestSlot_20 rfl rfl ?_
      refine Sm.iconst dX2_newestSlot_23 ic_1 rfl ?_
      refine Sm.isub dX2_newestSlot_24 rfl ?_
      refine Sm.ca (fun q5 => ?_)
      refine Sm.iald q5 dX2_newestSlot_25 rfl ?_
      refine Sm.goto (t := 30) dX2_newestSlot_26 (by decide) ?_
      exact Sm.ret dX2_newestSlot_30 trivial rfl
set_option maxRecDepth 20000 in
theorem kc_X9_204 {ρ : Type} {rv : ρ → Option Value} {G : Gx} {pc q : Nat} {lv st : List Value} {h : Hp} {a : Nat} {e : Int32 → Hp → Option (ρ × Hp)} (hk : isO h a 2) (d : decode G.2.1 pc = .ok (.invokevirtual 204, 3)) (ho : G.1.cls = RX9) (hdep : (g_X2_newestSlot).2.2.2.2 < G.2.2.2.2) (hcat : catS st ≤ 8) (hq : pc + 3 = q) (k : ∀ r h1, Sm rv G q lv (.int r :: st) h1 (e r h1)) : Sm rv G pc lv (.ref a :: st) h (bd (f_X2_newestSlot a h) e) :=
  Sm.callV (rv' := rvI) (args := []) (n := 0) (t_X2_newestSlot a h) hk (by decide) (r := (RX2, TX2, 3)) rfl rfl ho mw_852 mw_853 mw_854 mw_2 mw_855 ⟨⟨by decide, rfl, hdep, Nat.le_of_ble_eq_true rfl⟩, Nat.le_of_ble_eq_true rfl, rfl, ⟨by decide, by decide⟩, hcat⟩ (by decide +kernel) (fun v hv => by cases hv) d hq k rfl
abbrev g_X2_newestPolicy : Gx := (yX2_newestPolicy, cX2_newestPolicy, 1, (Option.some (FieldType.object "PolicyCompiler$Policy")), 0)
def f_X2_newestPolicy (l0 : Nat) (h : Hp) : Option (Nat × Hp) :=
  (ck h l0 2
((gP h l0 1).bind fun v2 =>
(if (gI h l0 2) ≤ 0 then
(ca h v2 24 (0 : Int32)
((gP h v2 (0 : Int32).toNatClampNeg).bind fun v5 =>
(some (v5, h))))
else
(if (5 : Int32) < (gI h l0 2) then
(ca h v2 24 (0 : Int32)
((gP h v2 (0 : Int32).toNatClampNeg).bind fun v8 =>
(some (v8, h))))
else
(ca h v2 24 ((gI h l0 2) - (1 : Int32))
((gP h v2 ((gI h l0 2) - (1 : Int32)).toNatClampNeg).bind fun v10 =>
(some (v10, h))))))))
set_option maxRecDepth 20000 in
theorem t_X2_newestPolicy (l0 : Nat) (h : Hp) : Sm rvA g_X2_newestPolicy 0 (ent 1 [.ref l0]) [] h (f_X2_newestPolicy l0 h) := by
  show Sm rvA g_X2_newestPolicy 0 [.ref l0] [] h _
  unfold f_X2_newestPolicy
  refine Sm.aload_n dX2_newestPolicy_0 rfl rfl rfl ?_
  refine Sm.ck (fun o1 => ?_)
  refine gf_X2_17 o1 dX2_newestPolicy_1 rfl rfl (fun v2 => ?_)
  refine Sm.aload_n dX2_newestPolicy_4 rfl rfl rfl ?_
  refine gf_X2_21 o1 dX2_newestPolicy_5 rfl rfl ?_
  refine Sm.if_le (t := 28) dX2_newestPolicy_8 (by decide) rfl (fun b3 => ?_) (fun b3 => ?_)
  · refine Sm.iconst dX2_newestPolicy_28 ic_0 rfl ?_
    refine Sm.ca (fun q4 => ?_)
    refine Sm.aald q4 (by decide) dX2_newestPolicy_29 rfl (fun v5 => ?_)
    exact Sm.ret dX2_newestPolicy_30 trivial rfl
  · refine Sm.aload_n dX2_newestPolicy_11 rfl rfl rfl ?_
    refine gf_X2_21 o1 dX2_newestPolicy_12 rfl rfl ?_
    refine Sm.iconst dX2_newestPolicy_15 ic_5 rfl ?_
    refine Sm.icmp_gt (t := 28) dX2_newestPolicy_16 (by decide) rfl (fun b6 => ?_) (fun b6 => ?_)
    · refine Sm.iconst dX2_newestPolicy_28 ic_0 rfl ?_
      refine Sm.ca (fun q7 => ?_)
      refine Sm.aald q7 (by decide) dX2_newestPolicy_29 rfl (fun v8 => ?_)
      exact Sm.ret dX2_newestPolicy_30 trivial rfl
    · refine Sm.aload_n dX2_newestPolicy_19 rfl rfl rfl ?_
      refine gf_X2_21 o1 dX2_newestPolicy_20 rfl rfl ?_
      refine Sm.iconst dX2_newestPolicy_23 ic_1 rfl ?_
      refine Sm.isub dX2_newestPolicy_24 rfl ?_
      refine Sm.goto (t := 29) dX2_newestPolicy_25 (by decide) ?_
      refine Sm.ca (fun q9 => ?_)
      refine Sm.aald q9 (by decide) dX2_newestPolicy_29 rfl (fun v10 => ?_)
      exact Sm.ret dX2_newestPolicy_30 trivial rfl
set_option maxRecDepth 20000 in
theorem kc_X9_207 {ρ : Type} {rv : ρ → Option Value} {G : Gx} {pc q : Nat} {lv st : List Value} {h : Hp} {a : Nat} {e : Nat → Hp → Option (ρ × Hp)} (hk : isO h a 2) (d : decode G.2.1 pc = .ok (.invokevirtual 207, 3)) (ho : G.1.cls = RX9) (hdep : (g_X2_newestPolicy).2.2.2.2 < G.2.2.2.2) (hcat : catS st ≤ 8) (hq : pc + 3 = q) (k : ∀ r h1, Sm rv G q lv (.ref r :: st) h1 (e r h1)) : Sm rv G pc lv (.ref a :: st) h (bd (f_X2_newestPolicy a h) e) :=
  Sm.callV (rv' := rvA) (args := []) (n := 0) (t_X2_newestPolicy a h) hk (by decide) (r := (RX2, TX2, 3)) rfl rfl ho mw_856 mw_857 mw_858 mw_2 mw_859 ⟨⟨by decide, rfl, hdep, Nat.le_of_ble_eq_true rfl⟩, Nat.le_of_ble_eq_true rfl, rfl, ⟨by decide, by decide⟩, hcat⟩ (by decide +kernel) (fun v hv => by cases hv) d hq k rfl
abbrev g_X2_dropNewest : Gx := (yX2_dropNewest, cX2_dropNewest, 1, (Option.none : Option FieldType), 0)
def f_X2_dropNewest (l0 : Nat) (h : Hp) : Option (Unit × Hp) :=
  (ck h l0 2
(if (gI h l0 2) ≤ 0 then
(some ((), h))
else
(some ((), (sI h l0 2 ((gI h l0 2) - (1 : Int32)))))))
set_option maxRecDepth 20000 in
theorem t_X2_dropNewest (l0 : Nat) (h : Hp) : Sm rvV g_X2_dropNewest 0 (ent 1 [.ref l0]) [] h (f_X2_dropNewest l0 h) := by
  show Sm rvV g_X2_dropNewest 0 [.ref l0] [] h _
  unfold f_X2_dropNewest
  refine Sm.aload_n dX2_dropNewest_0 rfl rfl rfl ?_
  refine Sm.ck (fun o1 => ?_)
  refine gf_X2_21 o1 dX2_dropNewest_1 rfl rfl ?_
  refine Sm.if_le (t := 17) dX2_dropNewest_4 (by decide) rfl (fun b2 => ?_) (fun b2 => ?_)
  · exact Sm.ret (r := ()) dX2_dropNewest_17 trivial rfl
  · refine Sm.aload_n dX2_dropNewest_7 rfl rfl rfl ?_
    refine Sm.dup dX2_dropNewest_8 rfl rfl ?_
    refine gf_X2_21 o1 dX2_dropNewest_9 rfl rfl ?_
    refine Sm.iconst dX2_dropNewest_12 ic_1 rfl ?_
    refine Sm.isub dX2_dropNewest_13 rfl ?_
    refine pf_X2_21 o1 dX2_dropNewest_14 rfl rfl ?_
    exact Sm.ret (r := ()) dX2_dropNewest_17 trivial rfl
set_option maxRecDepth 20000 in
theorem kc_X9_213 {ρ : Type} {rv : ρ → Option Value} {G : Gx} {pc q : Nat} {lv st : List Value} {h : Hp} {a : Nat} {e : Unit → Hp → Option (ρ × Hp)} (hk : isO h a 2) (d : decode G.2.1 pc = .ok (.invokevirtual 213, 3)) (ho : G.1.cls = RX9) (hdep : (g_X2_dropNewest).2.2.2.2 < G.2.2.2.2) (hcat : catS st ≤ 8) (hq : pc + 3 = q) (k : ∀ r h1, Sm rv G q lv (st) h1 (e r h1)) : Sm rv G pc lv (.ref a :: st) h (bd (f_X2_dropNewest a h) e) :=
  Sm.callV (rv' := rvV) (args := []) (n := 0) (t_X2_dropNewest a h) hk (by decide) (r := (RX2, TX2, 3)) rfl rfl ho mw_860 mw_861 mw_862 mw_2 mw_863 ⟨⟨by decide, rfl, hdep, Nat.le_of_ble_eq_true rfl⟩, Nat.le_of_ble_eq_true rfl, rfl, ⟨by decide, by decide⟩, hcat⟩ (by decide +kernel) (fun v hv => by cases hv) d hq k rfl
abbrev g_X3_init : Gx := (yX3_init, cX3_init, 1, (Option.none : Option FieldType), 2)
def f_X3_init (l0 : Nat) (h : Hp) : Option (Unit × Hp) :=
  (nm (nwc h 20 150 150) fun h1 =>
(ck h1 l0 3
(nm (sP h1 l0 0 (some (gN h + 1))) fun h5 =>
(nm (nwc h5 20 150 150) fun h8 =>
(ck h8 l0 3
(nm (sI (sP h8 l0 1 (some (gN h5 + 1))) l0 2 (0 : Int32)) fun h12 =>
(nm (nwc h12 21 150 150) fun h15 =>
(ck h15 l0 3
(nm (sI (sP h15 l0 3 (some (gN h12 + 1))) l0 4 (0 : Int32)) fun h19 =>
(nm (nwc h19 4 0 4) fun h22 =>
(bd (f_X4_init (gN h19 + 1) h22) fun _ h25 =>
(ck h25 l0 3
(nm (sI (sI (sP h25 l0 5 (some (gN h19 + 1))) l0 6 (0 : Int32)) l0 7 (0 : Int32)) fun h27 =>
(some ((), (sI (sI h27 l0 8 (2 : Int32)) l0 9 (-1 : Int32)))))))))))))))))
set_option maxRecDepth 20000 in
theorem t_X3_init (l0 : Nat) (h : Hp) : Sm rvV g_X3_init 0 (ent 1 [.ref l0]) [] h (f_X3_init l0 h) := by
  show Sm rvV g_X3_init 0 [.ref l0] [] h _
  unfold f_X3_init
  refine Sm.aload_n dX3_init_0 rfl rfl rfl ?_
  refine Sm.objInit dX3_init_1 rfl mw_66 mw_20 mw_21 (Nat.le_of_ble_eq_true rfl) (Nat.le_of_ble_eq_true rfl) rfl ?_
  refine Sm.aload_n dX3_init_4 rfl rfl rfl ?_
  refine Sm.sipush dX3_init_5 sp_150 rfl ?_
  refine Sm.newI (by decide) (by decide) dX3_init_8 mw_50 rfl ?_
  refine Sm.nmH (fun h1 e2 e3 => ?_)
  refine Sm.ck (fun o4 => ?_)
  refine pf_X3_9 o4 dX3_init_10 rfl rfl rfl ?_
  refine Sm.aload_n dX3_init_13 rfl rfl rfl ?_
  refine Sm.sipush dX3_init_14 sp_150 rfl ?_
  refine Sm.nmH (fun h5 e6 e7 => ?_)
  refine Sm.newI (by decide) (by decide) dX3_init_17 mw_50 rfl ?_
  refine Sm.nmH (fun h8 e9 e10 => ?_)
  refine Sm.ck (fun o11 => ?_)
  refine pf_X3_15 o11 dX3_init_19 rfl rfl rfl ?_
  refine Sm.aload_n dX3_init_22 rfl rfl rfl ?_
  refine Sm.iconst dX3_init_23 ic_0 rfl ?_
  refine pf_X3_18 o11 dX3_init_24 rfl rfl ?_
  refine Sm.aload_n dX3_init_27 rfl rfl rfl ?_
  refine Sm.sipush dX3_init_28 sp_150 rfl ?_
  refine Sm.nmH (fun h12 e13 e14 => ?_)
  refine Sm.newZ (by decide) (by decide) dX3_init_31 mw_100 rfl ?_
  refine Sm.nmH (fun h15 e16 e17 => ?_)
  refine Sm.ck (fun o18 => ?_)
  refine pf_X3_22 o18 dX3_init_33 rfl rfl rfl ?_
  refine Sm.aload_n dX3_init_36 rfl rfl rfl ?_
  refine Sm.iconst dX3_init_37 ic_0 rfl ?_
  refine pf_X3_26 o18 dX3_init_38 rfl rfl ?_
  refine Sm.aload_n dX3_init_41 rfl rfl rfl ?_
  refine Sm.nmH (fun h19 e20 e21 => ?_)
  refine Sm.new (ci := 4) (r := (RX4, TX4, 4)) dX3_init_42 mw_67 mw_32 mw_3 rfl (by decide) rfl rfl ?_
  refine Sm.nmH (fun h22 e23 e24 => ?_)
  refine Sm.dup dX3_init_45 rfl rfl ?_
  refine kc_X3_31 dX3_init_46 rfl (Nat.le_of_ble_eq_true rfl) (Nat.le_of_ble_eq_true rfl) rfl (fun _ h25 => ?_)
  refine Sm.ck (fun o26 => ?_)
  refine pf_X3_32 o26 dX3_init_49 rfl rfl rfl ?_
  refine Sm.aload_n dX3_init_52 rfl rfl rfl ?_
  refine Sm.iconst dX3_init_53 ic_0 rfl ?_
  refine pf_X3_36 o26 dX3_init_54 rfl rfl ?_
  refine Sm.aload_n dX3_init_57 rfl rfl rfl ?_
  refine Sm.iconst dX3_init_58 ic_0 rfl ?_
  refine pf_X3_39 o26 dX3_init_59 rfl rfl ?_
  refine Sm.nmH (fun h27 e28 e29 => ?_)
  refine Sm.aload_n dX3_init_62 rfl rfl rfl ?_
  refine Sm.iconst dX3_init_63 ic_2 rfl ?_
  refine pf_X3_42 (isO.tr e28 e29 o26) dX3_init_64 rfl rfl ?_
  refine Sm.aload_n dX3_init_67 rfl rfl rfl ?_
  refine Sm.iconst dX3_init_68 ic_m1 rfl ?_
  refine pf_X3_45 (isO.tr e28 e29 o26) dX3_init_69 rfl rfl ?_
  exact Sm.ret (r := ()) dX3_init_72 trivial rfl
set_option maxRecDepth 20000 in
theorem kc_X9_35 {ρ : Type} {rv : ρ → Option Value} {G : Gx} {pc q : Nat} {lv st : List Value} {h : Hp} {a : Nat} {e : Unit → Hp → Option (ρ × Hp)} (d : decode G.2.1 pc = .ok (.invokespecial 35, 3)) (ho : G.1.cls = RX9) (hdep : (g_X3_init).2.2.2.2 < G.2.2.2.2) (hcat : catS st ≤ 8) (hq : pc + 3 = q) (k : ∀ r h1, Sm rv G q lv (st) h1 (e r h1)) : Sm rv G pc lv (.ref a :: st) h (bd (f_X3_init a h) e) :=
  Sm.callIN (rv' := rvV) (args := []) (n := 0) (t_X3_init a h) ho rfl rfl mw_63 mw_64 mw_4 mw_65 ⟨⟨by decide, rfl, hdep, Nat.le_of_ble_eq_true rfl⟩, Nat.le_of_ble_eq_true rfl, rfl, ⟨by decide, by decide⟩, hcat⟩ (by decide +kernel) (fun v hv => by cases hv) d hq k rfl
abbrev g_X3_result : Gx := (yX3_result, cX3_result, 1, (Option.some (FieldType.object "PolicyCompiler$Policy")), 0)
def f_X3_result (l0 : Nat) (h : Hp) : Option (Nat × Hp) :=
  (ck h l0 3
((gP h l0 5).bind fun v2 =>
(some (v2, h))))
set_option maxRecDepth 20000 in
theorem t_X3_result (l0 : Nat) (h : Hp) : Sm rvA g_X3_result 0 (ent 1 [.ref l0]) [] h (f_X3_result l0 h) := by
  show Sm rvA g_X3_result 0 [.ref l0] [] h _
  unfold f_X3_result
  refine Sm.aload_n dX3_result_0 rfl rfl rfl ?_
  refine Sm.ck (fun o1 => ?_)
  refine gf_X3_32 o1 dX3_result_1 rfl rfl (fun v2 => ?_)
  exact Sm.ret dX3_result_4 trivial rfl
set_option maxRecDepth 20000 in
theorem kc_X9_67 {ρ : Type} {rv : ρ → Option Value} {G : Gx} {pc q : Nat} {lv st : List Value} {h : Hp} {a : Nat} {e : Nat → Hp → Option (ρ × Hp)} (hk : isO h a 3) (d : decode G.2.1 pc = .ok (.invokevirtual 67, 3)) (ho : G.1.cls = RX9) (hdep : (g_X3_result).2.2.2.2 < G.2.2.2.2) (hcat : catS st ≤ 8) (hq : pc + 3 = q) (k : ∀ r h1, Sm rv G q lv (.ref r :: st) h1 (e r h1)) : Sm rv G pc lv (.ref a :: st) h (bd (f_X3_result a h) e) :=
  Sm.callV (rv' := rvA) (args := []) (n := 0) (t_X3_result a h) hk (by decide) (r := (RX3, TX3, 10)) rfl rfl ho mw_370 mw_371 mw_372 mw_4 mw_373 ⟨⟨by decide, rfl, hdep, Nat.le_of_ble_eq_true rfl⟩, Nat.le_of_ble_eq_true rfl, rfl, ⟨by decide, by decide⟩, hcat⟩ (by decide +kernel) (fun v hv => by cases hv) d hq k rfl
abbrev g_X3_open : Gx := (yX3_open, cX3_open, 3, (Option.none : Option FieldType), 0)
def f_X3_open (l0 : Nat) (l1 : Int32) (l2 : Int32) (h : Hp) : Option (Unit × Hp) :=
  (ck h l0 3
(if (gI h l0 2) < 0 then
(some ((), (sI h l0 6 (0 : Int32))))
else
(if (150 : Int32) ≤ (gI h l0 2) then
(some ((), (sI h l0 6 (0 : Int32))))
else
((gP h l0 0).bind fun v4 =>
(ca h v4 20 (gI h l0 2)
((gP (sI h v4 (gI h l0 2).toNatClampNeg l1) l0 1).bind fun v6 =>
(ca (sI h v4 (gI h l0 2).toNatClampNeg l1) v6 20 (gI (sI h v4 (gI h l0 2).toNatClampNeg l1) l0 2)
(nm (sI (sI h v4 (gI h l0 2).toNatClampNeg l1) v6 (gI (sI h v4 (gI h l0 2).toNatClampNeg l1) l0 2).toNatClampNeg l2) fun h8 =>
(some ((), (sI (sI h8 l0 2 ((gI h8 l0 2) + (1 : Int32))) l0 6 (0 : Int32))))))))))))
set_option maxRecDepth 20000 in
theorem t_X3_open (l0 : Nat) (l1 : Int32) (l2 : Int32) (h : Hp) : Sm rvV g_X3_open 0 (ent 3 [.ref l0, .int l1, .int l2]) [] h (f_X3_open l0 l1 l2 h) := by
  show Sm rvV g_X3_open 0 [.ref l0, .int l1, .int l2] [] h _
  unfold f_X3_open
  refine Sm.aload_n dX3_open_0 rfl rfl rfl ?_
  refine Sm.ck (fun o1 => ?_)
  refine gf_X3_18 o1 dX3_open_1 rfl rfl ?_
  refine Sm.if_lt (t := 47) dX3_open_4 (by decide) rfl (fun b2 => ?_) (fun b2 => ?_)
  · refine Sm.aload_n dX3_open_47 rfl rfl rfl ?_
    refine Sm.iconst dX3_open_48 ic_0 rfl ?_
    refine pf_X3_36 o1 dX3_open_49 rfl rfl ?_
    exact Sm.ret (r := ()) dX3_open_52 trivial rfl
  · refine Sm.aload_n dX3_open_7 rfl rfl rfl ?_
    refine gf_X3_18 o1 dX3_open_8 rfl rfl ?_
    refine Sm.sipush dX3_open_11 sp_150 rfl ?_
    refine Sm.icmp_ge (t := 47) dX3_open_14 (by decide) rfl (fun b3 => ?_) (fun b3 => ?_)
    · refine Sm.aload_n dX3_open_47 rfl rfl rfl ?_
      refine Sm.iconst dX3_open_48 ic_0 rfl ?_
      refine pf_X3_36 o1 dX3_open_49 rfl rfl ?_
      exact Sm.ret (r := ()) dX3_open_52 trivial rfl
    · refine Sm.aload_n dX3_open_17 rfl rfl rfl ?_
      refine gf_X3_9 o1 dX3_open_18 rfl rfl (fun v4 => ?_)
      refine Sm.aload_n dX3_open_21 rfl rfl rfl ?_
      refine gf_X3_18 o1 dX3_open_22 rfl rfl ?_
      refine Sm.iload_n dX3_open_25 rfl rfl rfl ?_
      refine Sm.ca (fun q5 => ?_)
      refine Sm.iast q5 dX3_open_26 rfl ?_
      refine Sm.aload_n dX3_open_27 rfl rfl rfl ?_
      refine gf_X3_15 o1 dX3_open_28 rfl rfl (fun v6 => ?_)
      refine Sm.aload_n dX3_open_31 rfl rfl rfl ?_
      refine gf_X3_18 o1 dX3_open_32 rfl rfl ?_
      refine Sm.iload_n dX3_open_35 rfl rfl rfl ?_
      refine Sm.ca (fun q7 => ?_)
      refine Sm.iast q7 dX3_open_36 rfl ?_
      refine Sm.nmH (fun h8 e9 e10 => ?_)
      refine Sm.aload_n dX3_open_37 rfl rfl rfl ?_
      refine Sm.dup dX3_open_38 rfl rfl ?_
      refine gf_X3_18 (isO.tr e9 e10 o1) dX3_open_39 rfl rfl ?_
      refine Sm.iconst dX3_open_42 ic_1 rfl ?_
      refine Sm.iadd dX3_open_43 rfl ?_
      refine pf_X3_18 (isO.tr e9 e10 o1) dX3_open_44 rfl rfl ?_
      refine Sm.aload_n dX3_open_47 rfl rfl rfl ?_
      refine Sm.iconst dX3_open_48 ic_0 rfl ?_
      refine pf_X3_36 (isO.tr e9 e10 o1) dX3_open_49 rfl rfl ?_
      exact Sm.ret (r := ()) dX3_open_52 trivial rfl
set_option maxRecDepth 20000 in
theorem kc_X3_83 {ρ : Type} {rv : ρ → Option Value} {G : Gx} {pc q : Nat} {lv st : List Value} {h : Hp} {a : Nat} {x1 : Int32} {x2 : Int32} {e : Unit → Hp → Option (ρ × Hp)} (hk : isO h a 3) (d : decode G.2.1 pc = .ok (.invokevirtual 83, 3)) (ho : G.1.cls = RX3) (hdep : (g_X3_open).2.2.2.2 < G.2.2.2.2) (hcat : catS st ≤ 8) (hq : pc + 3 = q) (k : ∀ r h1, Sm rv G q lv (st) h1 (e r h1)) : Sm rv G pc lv (.int x2 :: .int x1 :: .ref a :: st) h (bd (f_X3_open a x1 x2 h) e) :=
  Sm.callV (rv' := rvV) (args := [.int x1, .int x2]) (n := 2) (t_X3_open a x1 x2 h) hk (by decide) (r := (RX3, TX3, 10)) rfl rfl ho mw_292 mw_294 mp_2 mw_4 mw_295 ⟨⟨by decide, rfl, hdep, Nat.le_of_ble_eq_true rfl⟩, Nat.le_of_ble_eq_true rfl, rfl, ⟨by decide, by decide⟩, hcat⟩ (by decide +kernel) (by intro v hv; simp only [List.mem_cons, List.not_mem_nil, or_false] at hv; rcases hv with rfl | rfl <;> intro x hx <;> cases hx) d hq k rfl
abbrev g_X4_operandsOf : Gx := (yX4_operandsOf, cX4_operandsOf, 1, (Option.some FieldType.int), 0)
def f_X4_operandsOf (l0 : Int32) (h : Hp) : Option (Int32 × Hp) :=
  (if l0 = (4 : Int32) then
(some ((2 : Int32), h))
else
(if l0 = (5 : Int32) then
(some ((2 : Int32), h))
else
(if l0 = (6 : Int32) then
(some ((1 : Int32), h))
else
(if l0 = (7 : Int32) then
(some ((1 : Int32), h))
else
(if l0 = (8 : Int32) then
(some ((3 : Int32), h))
else
(some ((0 : Int32), h)))))))
set_option maxRecDepth 20000 in
theorem t_X4_operandsOf (l0 : Int32) (h : Hp) : Sm rvI g_X4_operandsOf 0 (ent 1 [.int l0]) [] h (f_X4_operandsOf l0 h) := by
  show Sm rvI g_X4_operandsOf 0 [.int l0] [] h _
  unfold f_X4_operandsOf
  refine Sm.iload_n dX4_operandsOf_0 rfl rfl rfl ?_
  refine Sm.iff (fun b1 => ?_) (fun b1 => ?_)
  · refine Sm.tsAt (t := 36) (k := (4 : Int32)) (off := 35) b1 dX4_operandsOf_1 (by decide) (by decide) (by decide) (by decide) ?_
    refine Sm.iconst dX4_operandsOf_36 ic_2 rfl ?_
    exact Sm.ret dX4_operandsOf_37 trivial rfl
  refine Sm.iff (fun b2 => ?_) (fun b2 => ?_)
  · refine Sm.tsAt (t := 36) (k := (5 : Int32)) (off := 35) b2 dX4_operandsOf_1 (by decide) (by decide) (by decide) (by decide) ?_
    refine Sm.iconst dX4_operandsOf_36 ic_2 rfl ?_
    exact Sm.ret dX4_operandsOf_37 trivial rfl
  refine Sm.iff (fun b3 => ?_) (fun b3 => ?_)
  · refine Sm.tsAt (t := 38) (k := (6 : Int32)) (off := 37) b3 dX4_operandsOf_1 (by decide) (by decide) (by decide) (by decide) ?_
    refine Sm.iconst dX4_operandsOf_38 ic_1 rfl ?_
    exact Sm.ret dX4_operandsOf_39 trivial rfl
  refine Sm.iff (fun b4 => ?_) (fun b4 => ?_)
  · refine Sm.tsAt (t := 38) (k := (7 : Int32)) (off := 37) b4 dX4_operandsOf_1 (by decide) (by decide) (by decide) (by decide) ?_
    refine Sm.iconst dX4_operandsOf_38 ic_1 rfl ?_
    exact Sm.ret dX4_operandsOf_39 trivial rfl
  refine Sm.iff (fun b5 => ?_) (fun b5 => ?_)
  · refine Sm.tsAt (t := 40) (k := (8 : Int32)) (off := 39) b5 dX4_operandsOf_1 (by decide) (by decide) (by decide) (by decide) ?_
    refine Sm.iconst dX4_operandsOf_40 ic_3 rfl ?_
    exact Sm.ret dX4_operandsOf_41 trivial rfl
  have nb1 : ¬ l0.toInt = (4 : Int) := lv_neT b1 (by decide)
  have nb2 : ¬ l0.toInt = (5 : Int) := lv_neT b2 (by decide)
  have nb3 : ¬ l0.toInt = (6 : Int) := lv_neT b3 (by decide)
  have nb4 : ¬ l0.toInt = (7 : Int) := lv_neT b4 (by decide)
  have nb5 : ¬ l0.toInt = (8 : Int) := lv_neT b5 (by decide)
  refine Sm.tsOut (t := 42) dX4_operandsOf_1 (by omega) (by decide) ?_
  refine Sm.iconst dX4_operandsOf_42 ic_0 rfl ?_
  exact Sm.ret dX4_operandsOf_43 trivial rfl
set_option maxRecDepth 20000 in
theorem kc_X4_26 {ρ : Type} {rv : ρ → Option Value} {G : Gx} {pc q : Nat} {lv st : List Value} {h : Hp} {x0 : Int32} {e : Int32 → Hp → Option (ρ × Hp)} (d : decode G.2.1 pc = .ok (.invokestatic 26, 3)) (ho : G.1.cls = RX4) (hdep : (g_X4_operandsOf).2.2.2.2 < G.2.2.2.2) (hcat : catS st ≤ 8) (hq : pc + 3 = q) (k : ∀ r h1, Sm rv G q lv (.int r :: st) h1 (e r h1)) : Sm rv G pc lv (.int x0 :: st) h (bd (f_X4_operandsOf x0 h) e) :=
  Sm.callS (rv' := rvI) (as := [.int x0]) (n := 1) (t_X4_operandsOf x0 h) ho mw_210 mw_211 mw_3 mw_212 ⟨⟨by decide, rfl, hdep, Nat.le_of_ble_eq_true rfl⟩, Nat.le_of_ble_eq_true rfl, rfl, ⟨by decide, by decide⟩, hcat⟩ (by decide +kernel) (by intro v hv; simp only [List.mem_cons, List.not_mem_nil, or_false] at hv; rcases hv with rfl <;> intro x hx <;> cases hx) d hq k rfl
set_option maxRecDepth 20000 in
theorem kc_X5_47 {ρ : Type} {rv : ρ → Option Value} {G : Gx} {pc q : Nat} {lv st : List Value} {h : Hp} {x0 : Int32} {e : Int32 → Hp → Option (ρ × Hp)} (d : decode G.2.1 pc = .ok (.invokestatic 47, 3)) (ho : G.1.cls = RX5) (hdep : (g_X4_operandsOf).2.2.2.2 < G.2.2.2.2) (hcat : catS st ≤ 8) (hq : pc + 3 = q) (k : ∀ r h1, Sm rv G q lv (.int r :: st) h1 (e r h1)) : Sm rv G pc lv (.int x0 :: st) h (bd (f_X4_operandsOf x0 h) e) :=
  Sm.callS (rv' := rvI) (as := [.int x0]) (n := 1) (t_X4_operandsOf x0 h) ho mw_451 mw_211 mw_3 mw_212 ⟨⟨by decide, rfl, hdep, Nat.le_of_ble_eq_true rfl⟩, Nat.le_of_ble_eq_true rfl, rfl, ⟨by decide, by decide⟩, hcat⟩ (by decide +kernel) (by intro v hv; simp only [List.mem_cons, List.not_mem_nil, or_false] at hv; rcases hv with rfl <;> intro x hx <;> cases hx) d hq k rfl
abbrev g_X4_add : Gx := (yX4_add, cX4_add, 7, (Option.none : Option FieldType), 1)
def f_X4_add_60 (l0 : Nat) (l1 : Int32) (l2 : Int32) (l3 : Int32) (l5 : Int32) (h : Hp) : Option (Unit × Hp) :=
  (ck h l0 4
((gP h l0 0).bind fun v9 =>
(ca h v9 20 (gI h l0 2)
((gP (sI h v9 (gI h l0 2).toNatClampNeg (((l1 <<< ((4 : Int32) &&& 31)) ||| (l2 <<< ((2 : Int32) &&& 31))) ||| l3)) l0 1).bind fun v11 =>
(ca (sI h v9 (gI h l0 2).toNatClampNeg (((l1 <<< ((4 : Int32) &&& 31)) ||| (l2 <<< ((2 : Int32) &&& 31))) ||| l3)) v11 20 (gI (sI h v9 (gI h l0 2).toNatClampNeg (((l1 <<< ((4 : Int32) &&& 31)) ||| (l2 <<< ((2 : Int32) &&& 31))) ||| l3)) l0 2)
(nm (sI (sI h v9 (gI h l0 2).toNatClampNeg (((l1 <<< ((4 : Int32) &&& 31)) ||| (l2 <<< ((2 : Int32) &&& 31))) ||| l3)) v11 (gI (sI h v9 (gI h l0 2).toNatClampNeg (((l1 <<< ((4 : Int32) &&& 31)) ||| (l2 <<< ((2 : Int32) &&& 31))) ||| l3)) l0 2).toNatClampNeg l5) fun h13 =>
(some ((), (sI h13 l0 2 ((gI h13 l0 2) + (1 : Int32)))))))))))
set_option maxRecDepth 20000 in
theorem t_X4_add_60 (l0 : Nat) (l1 : Int32) (l2 : Int32) (l3 : Int32) (l5 : Int32) (h : Hp) : Sm rvV g_X4_add 60 [.ref l0, .int l1, .int l2, .int l3, .null, .int l5, .null] [] h (f_X4_add_60 l0 l1 l2 l3 l5 h) := by
  unfold f_X4_add_60
  refine Sm.aload_n dX4_add_60 rfl rfl rfl ?_
  refine Sm.ck (fun o8 => ?_)
  refine gf_X4_9 o8 dX4_add_61 rfl rfl (fun v9 => ?_)
  refine Sm.aload_n dX4_add_64 rfl rfl rfl ?_
  refine gf_X4_18 o8 dX4_add_65 rfl rfl ?_
  refine Sm.iload_n dX4_add_68 rfl rfl rfl ?_
  refine Sm.iconst dX4_add_69 ic_4 rfl ?_
  refine Sm.ishl dX4_add_70 rfl ?_
  refine Sm.iload_n dX4_add_71 rfl rfl rfl ?_
  refine Sm.iconst dX4_add_72 ic_2 rfl ?_
  refine Sm.ishl dX4_add_73 rfl ?_
  refine Sm.ior dX4_add_74 rfl ?_
  refine Sm.iload_n dX4_add_75 rfl rfl rfl ?_
  refine Sm.ior dX4_add_76 rfl ?_
  refine Sm.ca (fun q10 => ?_)
  refine Sm.iast q10 dX4_add_77 rfl ?_
  refine Sm.aload_n dX4_add_78 rfl rfl rfl ?_
  refine gf_X4_15 o8 dX4_add_79 rfl rfl (fun v11 => ?_)
  refine Sm.aload_n dX4_add_82 rfl rfl rfl ?_
  refine gf_X4_18 o8 dX4_add_83 rfl rfl ?_
  refine Sm.iload dX4_add_86 rfl rfl ?_
  refine Sm.ca (fun q12 => ?_)
  refine Sm.iast q12 dX4_add_88 rfl ?_
  refine Sm.nmH (fun h13 e14 e15 => ?_)
  refine Sm.aload_n dX4_add_89 rfl rfl rfl ?_
  refine Sm.dup dX4_add_90 rfl rfl ?_
  refine gf_X4_18 (isO.tr e14 e15 o8) dX4_add_91 rfl rfl ?_
  refine Sm.iconst dX4_add_94 ic_1 rfl ?_
  refine Sm.iadd dX4_add_95 rfl ?_
  refine pf_X4_18 (isO.tr e14 e15 o8) dX4_add_96 rfl rfl ?_
  exact Sm.ret (r := ()) dX4_add_99 trivial rfl
def f_X4_add_24 (k24 : (Int32 × Int32) → Option (Unit × Hp)) (l0 : Nat) (l1 : Int32) (l2 : Int32) (l3 : Int32) (l4 : Int32) (l5 : Int32) (l6 : Int32) (h : Hp) : Option (Unit × Hp) :=
  (if l4 ≤ l6 then
(f_X4_add_60 l0 l1 l2 l3 l5 h)
else
(if l5 ≤ 0 then
(f_X4_add_60 l0 l1 l2 l3 l5 h)
else
(if (60 : Int32) < l5 then
(f_X4_add_60 l0 l1 l2 l3 l5 h)
else
(ck h l0 4
((gP h l0 1).bind fun v19 =>
(ca h v19 20 (l5 - (1 : Int32))
(nm (gI h v19 (l5 - (1 : Int32)).toNatClampNeg) fun v21 =>
(nm (l6 + (1 : Int32)) fun v22 =>
(k24 (v21, v22))))))))))
set_option maxRecDepth 20000 in
theorem t_X4_add_24 (l0 : Nat) (l1 : Int32) (l2 : Int32) (l3 : Int32) (l4 : Int32) (l5 : Int32) (l6 : Int32) (h : Hp) (k24 : (Int32 × Int32) → Option (Unit × Hp)) (hk24 : ∀ s : Int32 × Int32, Sm rvV g_X4_add 24 [.ref l0, .int l1, .int l2, .int l3, .int l4, .int s.1, .int s.2] [] h (k24 s)) : Sm rvV g_X4_add 24 [.ref l0, .int l1, .int l2, .int l3, .int l4, .int l5, .int l6] [] h (f_X4_add_24 k24 l0 l1 l2 l3 l4 l5 l6 h) := by
  unfold f_X4_add_24
  refine Sm.iload dX4_add_24 rfl rfl ?_
  refine Sm.iload dX4_add_26 rfl rfl ?_
  refine Sm.icmp_ge (t := 60) dX4_add_28 (by decide) rfl (fun b7 => ?_) (fun b7 => ?_)
  · exact Sm.wk (t_X4_add_60 l0 l1 l2 l3 l5 h) ⟨Or.inr rfl, Or.inr rfl, Or.inr rfl, Or.inr rfl, Or.inl rfl, Or.inr rfl, Or.inl rfl, trivial⟩
  · refine Sm.iload dX4_add_31 rfl rfl ?_
    refine Sm.if_le (t := 60) dX4_add_33 (by decide) rfl (fun b16 => ?_) (fun b16 => ?_)
    · exact Sm.wk (t_X4_add_60 l0 l1 l2 l3 l5 h) ⟨Or.inr rfl, Or.inr rfl, Or.inr rfl, Or.inr rfl, Or.inl rfl, Or.inr rfl, Or.inl rfl, trivial⟩
    · refine Sm.iload dX4_add_36 rfl rfl ?_
      refine Sm.bipush dX4_add_38 bp_60 rfl ?_
      refine Sm.icmp_gt (t := 60) dX4_add_40 (by decide) rfl (fun b17 => ?_) (fun b17 => ?_)
      · exact Sm.wk (t_X4_add_60 l0 l1 l2 l3 l5 h) ⟨Or.inr rfl, Or.inr rfl, Or.inr rfl, Or.inr rfl, Or.inl rfl, Or.inr rfl, Or.inl rfl, trivial⟩
      · refine Sm.aload_n dX4_add_43 rfl rfl rfl ?_
        refine Sm.ck (fun o18 => ?_)
        refine gf_X4_15 o18 dX4_add_44 rfl rfl (fun v19 => ?_)
        refine Sm.iload dX4_add_47 rfl rfl ?_
        refine Sm.iconst dX4_add_49 ic_1 rfl ?_
        refine Sm.isub dX4_add_50 rfl ?_
        refine Sm.ca (fun q20 => ?_)
        refine Sm.iald q20 dX4_add_51 rfl ?_
        refine Sm.nm (LV := fun v21 => [.ref l0, .int l1, .int l2, .int l3, .int l4, .int l5, .int l6]) (ST := fun v21 => [.int v21]) (fun v21 => ?_)
        refine Sm.istore (lv' := [.ref l0, .int l1, .int l2, .int l3, .int l4, .int v21, .int l6]) dX4_add_52 (Nat.le_of_ble_eq_true rfl) rfl rfl ?_
        refine Sm.iinc (lv' := [.ref l0, .int l1, .int l2, .int l3, .int l4, .int v21, .int (l6 + (1 : Int32))]) dX4_add_54 rfl ic_1 rfl rfl ?_
        refine Sm.nm (LV := fun v22 => [.ref l0, .int l1, .int l2, .int l3, .int l4, .int v21, .int v22]) (ST := fun v22 => []) (fun v22 => ?_)
        refine Sm.goto (t := 24) dX4_add_57 (by decide) ?_
        exact Sm.wk (hk24 (v21, v22)) ⟨Or.inr rfl, Or.inr rfl, Or.inr rfl, Or.inr rfl, Or.inr rfl, Or.inr rfl, Or.inr rfl, trivial⟩
def f_X4_add (l0 : Nat) (l1 : Int32) (l2 : Int32) (l3 : Int32) (h : Hp) : Option (Unit × Hp) :=
  (ck h l0 4
(if (60 : Int32) ≤ (gI h l0 2) then
(some ((), (sI h l0 2 ((gI h l0 2) + (1 : Int32)))))
else
(bd (f_X4_operandsOf l1 h) fun v3 h4 =>
(ck h4 l0 4
(nm (gI h4 l0 2) fun v6 =>
(loopN (fun k s => f_X4_add_24 k l0 l1 l2 l3 v3 s.1 s.2 h4) 5000 (v6, (0 : Int32))))))))
set_option maxRecDepth 20000 in
theorem t_X4_add (l0 : Nat) (l1 : Int32) (l2 : Int32) (l3 : Int32) (h : Hp) : Sm rvV g_X4_add 0 (ent 7 [.ref l0, .int l1, .int l2, .int l3]) [] h (f_X4_add l0 l1 l2 l3 h) := by
  show Sm rvV g_X4_add 0 [.ref l0, .int l1, .int l2, .int l3, .null, .null, .null] [] h _
  unfold f_X4_add
  refine Sm.aload_n dX4_add_0 rfl rfl rfl ?_
  refine Sm.ck (fun o1 => ?_)
  refine gf_X4_18 o1 dX4_add_1 rfl rfl ?_
  refine Sm.bipush dX4_add_4 bp_60 rfl ?_
  refine Sm.icmp_ge (t := 89) dX4_add_6 (by decide) rfl (fun b2 => ?_) (fun b2 => ?_)
  · refine Sm.aload_n dX4_add_89 rfl rfl rfl ?_
    refine Sm.dup dX4_add_90 rfl rfl ?_
    refine gf_X4_18 o1 dX4_add_91 rfl rfl ?_
    refine Sm.iconst dX4_add_94 ic_1 rfl ?_
    refine Sm.iadd dX4_add_95 rfl ?_
    refine pf_X4_18 o1 dX4_add_96 rfl rfl ?_
    exact Sm.ret (r := ()) dX4_add_99 trivial rfl
  · refine Sm.iload_n dX4_add_9 rfl rfl rfl ?_
    refine kc_X4_26 dX4_add_10 rfl (Nat.le_of_ble_eq_true rfl) (Nat.le_of_ble_eq_true rfl) rfl (fun v3 h4 => ?_)
    refine Sm.istore (lv' := [.ref l0, .int l1, .int l2, .int l3, .int v3, .null, .null]) dX4_add_13 (Nat.le_of_ble_eq_true rfl) rfl rfl ?_
    refine Sm.aload_n dX4_add_15 rfl rfl rfl ?_
    refine Sm.ck (fun o5 => ?_)
    refine gf_X4_18 o5 dX4_add_16 rfl rfl ?_
    refine Sm.nm (LV := fun v6 => [.ref l0, .int l1, .int l2, .int l3, .int v3, .null, .null]) (ST := fun v6 => [.int v6]) (fun v6 => ?_)
    refine Sm.istore (lv' := [.ref l0, .int l1, .int l2, .int l3, .int v3, .int v6, .null]) dX4_add_19 (Nat.le_of_ble_eq_true rfl) rfl rfl ?_
    refine Sm.iconst dX4_add_21 ic_0 rfl ?_
    refine Sm.istore (lv' := [.ref l0, .int l1, .int l2, .int l3, .int v3, .int v6, .int (0 : Int32)]) dX4_add_22 (Nat.le_of_ble_eq_true rfl) rfl rfl ?_
    exact Sm.wk (Sm.loop (σ := Int32 × Int32) (LV := fun s => [.ref l0, .int l1, .int l2, .int l3, .int v3, .int s.1, .int s.2]) (HH := fun s => h4) (fun k hk s => t_X4_add_24 l0 l1 l2 l3 v3 s.1 s.2 h4 k hk) 5000 (v6, (0 : Int32))) ⟨Or.inr rfl, Or.inr rfl, Or.inr rfl, Or.inr rfl, Or.inr rfl, Or.inr rfl, Or.inr rfl, trivial⟩
set_option maxRecDepth 20000 in
theorem kc_X7_50 {ρ : Type} {rv : ρ → Option Value} {G : Gx} {pc q : Nat} {lv st : List Value} {h : Hp} {a : Nat} {x1 : Int32} {x2 : Int32} {x3 : Int32} {e : Unit → Hp → Option (ρ × Hp)} (hk : isO h a 4) (d : decode G.2.1 pc = .ok (.invokevirtual 50, 3)) (ho : G.1.cls = RX7) (hdep : (g_X4_add).2.2.2.2 < G.2.2.2.2) (hcat : catS st ≤ 8) (hq : pc + 3 = q) (k : ∀ r h1, Sm rv G q lv (st) h1 (e r h1)) : Sm rv G pc lv (.int x3 :: .int x2 :: .int x1 :: .ref a :: st) h (bd (f_X4_add a x1 x2 x3 h) e) :=
  Sm.callV (rv' := rvV) (args := [.int x1, .int x2, .int x3]) (n := 3) (t_X4_add a x1 x2 x3 h) hk (by decide) (r := (RX4, TX4, 4)) rfl rfl ho mw_206 mw_207 mw_208 mw_3 mw_209 ⟨⟨by decide, rfl, hdep, Nat.le_of_ble_eq_true rfl⟩, Nat.le_of_ble_eq_true rfl, rfl, ⟨by decide, by decide⟩, hcat⟩ (by decide +kernel) (by intro v hv; simp only [List.mem_cons, List.not_mem_nil, or_false] at hv; rcases hv with rfl | rfl | rfl <;> intro x hx <;> cases hx) d hq k rfl
set_option maxRecDepth 20000 in
theorem kc_X3_106 {ρ : Type} {rv : ρ → Option Value} {G : Gx} {pc q : Nat} {lv st : List Value} {h : Hp} {a : Nat} {x1 : Int32} {x2 : Int32} {x3 : Int32} {e : Unit → Hp → Option (ρ × Hp)} (hk : isO h a 4) (d : decode G.2.1 pc = .ok (.invokevirtual 106, 3)) (ho : G.1.cls = RX3) (hdep : (g_X4_add).2.2.2.2 < G.2.2.2.2) (hcat : catS st ≤ 8) (hq : pc + 3 = q) (k : ∀ r h1, Sm rv G q lv (st) h1 (e r h1)) : Sm rv G pc lv (.int x3 :: .int x2 :: .int x1 :: .ref a :: st) h (bd (f_X4_add a x1 x2 x3 h) e) :=
  Sm.callV (rv' := rvV) (args := [.int x1, .int x2, .int x3]) (n := 3) (t_X4_add a x1 x2 x3 h) hk (by decide) (r := (RX4, TX4, 4)) rfl rfl ho mw_300 mw_207 mw_208 mw_3 mw_209 ⟨⟨by decide, rfl, hdep, Nat.le_of_ble_eq_true rfl⟩, Nat.le_of_ble_eq_true rfl, rfl, ⟨by decide, by decide⟩, hcat⟩ (by decide +kernel) (by intro v hv; simp only [List.mem_cons, List.not_mem_nil, or_false] at hv; rcases hv with rfl | rfl | rfl <;> intro x hx <;> cases hx) d hq k rfl
set_option maxRecDepth 20000 in
theorem kc_X9_88 {ρ : Type} {rv : ρ → Option Value} {G : Gx} {pc q : Nat} {lv st : List Value} {h : Hp} {a : Nat} {x1 : Int32} {x2 : Int32} {x3 : Int32} {e : Unit → Hp → Option (ρ × Hp)} (hk : isO h a 4) (d : decode G.2.1 pc = .ok (.invokevirtual 88, 3)) (ho : G.1.cls = RX9) (hdep : (g_X4_add).2.2.2.2 < G.2.2.2.2) (hcat : catS st ≤ 8) (hq : pc + 3 = q) (k : ∀ r h1, Sm rv G q lv (st) h1 (e r h1)) : Sm rv G pc lv (.int x3 :: .int x2 :: .int x1 :: .ref a :: st) h (bd (f_X4_add a x1 x2 x3 h) e) :=
  Sm.callV (rv' := rvV) (args := [.int x1, .int x2, .int x3]) (n := 3) (t_X4_add a x1 x2 x3 h) hk (by decide) (r := (RX4, TX4, 4)) rfl rfl ho mw_411 mw_207 mw_208 mw_3 mw_209 ⟨⟨by decide, rfl, hdep, Nat.le_of_ble_eq_true rfl⟩, Nat.le_of_ble_eq_true rfl, rfl, ⟨by decide, by decide⟩, hcat⟩ (by decide +kernel) (by intro v hv; simp only [List.mem_cons, List.not_mem_nil, or_false] at hv; rcases hv with rfl | rfl | rfl <;> intro x hx <;> cases hx) d hq k rfl
abbrev g_X3_pushOperand : Gx := (yX3_pushOperand, cX3_pushOperand, 2, (Option.none : Option FieldType), 0)
def f_X3_pushOperand (l0 : Nat) (l1 : Int32) (h : Hp) : Option (Unit × Hp) :=
  (ck h l0 3
(if (gI h l0 4) < 0 then
(some ((), h))
else
(if (150 : Int32) ≤ (gI h l0 4) then
(some ((), h))
else
((gP h l0 3).bind fun v4 =>
(bz l1
(ca h v4 21 (gI h l0 4)
(nm (sI (sI h v4 (gI h l0 4).toNatClampNeg l1) l0 4 ((gI (sI h v4 (gI h l0 4).toNatClampNeg l1) l0 4) + (1 : Int32))) fun h7 =>
(some ((), h7)))))))))
set_option maxRecDepth 20000 in
theorem t_X3_pushOperand (l0 : Nat) (l1 : Int32) (h : Hp) : Sm rvV g_X3_pushOperand 0 (ent 2 [.ref l0, .int l1]) [] h (f_X3_pushOperand l0 l1 h) := by
  show Sm rvV g_X3_pushOperand 0 [.ref l0, .int l1] [] h _
  unfold f_X3_pushOperand
  refine Sm.aload_n dX3_pushOperand_0 rfl rfl rfl ?_
  refine Sm.ck (fun o1 => ?_)
  refine gf_X3_26 o1 dX3_pushOperand_1 rfl rfl ?_
  refine Sm.if_lt (t := 37) dX3_pushOperand_4 (by decide) rfl (fun b2 => ?_) (fun b2 => ?_)
  · exact Sm.ret (r := ()) dX3_pushOperand_37 trivial rfl
  · refine Sm.aload_n dX3_pushOperand_7 rfl rfl rfl ?_
    refine gf_X3_26 o1 dX3_pushOperand_8 rfl rfl ?_
    refine Sm.sipush dX3_pushOperand_11 sp_150 rfl ?_
    refine Sm.icmp_ge (t := 37) dX3_pushOperand_14 (by decide) rfl (fun b3 => ?_) (fun b3 => ?_)
    · exact Sm.ret (r := ()) dX3_pushOperand_37 trivial rfl
    · refine Sm.aload_n dX3_pushOperand_17 rfl rfl rfl ?_
      refine gf_X3_22 o1 dX3_pushOperand_18 rfl rfl (fun v4 => ?_)
      refine Sm.aload_n dX3_pushOperand_21 rfl rfl rfl ?_
      refine gf_X3_26 o1 dX3_pushOperand_22 rfl rfl ?_
      refine Sm.iload_n dX3_pushOperand_25 rfl rfl rfl ?_
      refine Sm.bz (fun z5 => ?_)
      refine Sm.ca (fun q6 => ?_)
      refine Sm.zast z5 q6 dX3_pushOperand_26 rfl ?_
      refine Sm.aload_n dX3_pushOperand_27 rfl rfl rfl ?_
      refine Sm.dup dX3_pushOperand_28 rfl rfl ?_
      refine gf_X3_26 o1 dX3_pushOperand_29 rfl rfl ?_
      refine Sm.iconst dX3_pushOperand_32 ic_1 rfl ?_
      refine Sm.iadd dX3_pushOperand_33 rfl ?_
      refine pf_X3_26 o1 dX3_pushOperand_34 rfl rfl ?_
      refine Sm.nmH (fun h7 e8 e9 => ?_)
      exact Sm.ret (r := ()) dX3_pushOperand_37 trivial rfl
set_option maxRecDepth 20000 in
theorem kc_X3_103 {ρ : Type} {rv : ρ → Option Value} {G : Gx} {pc q : Nat} {lv st : List Value} {h : Hp} {a : Nat} {x1 : Int32} {e : Unit → Hp → Option (ρ × Hp)} (hk : isO h a 3) (d : decode G.2.1 pc = .ok (.invokevirtual 103, 3)) (ho : G.1.cls = RX3) (hdep : (g_X3_pushOperand).2.2.2.2 < G.2.2.2.2) (hcat : catS st ≤ 8) (hq : pc + 3 = q) (k : ∀ r h1, Sm rv G q lv (st) h1 (e r h1)) : Sm rv G pc lv (.int x1 :: .ref a :: st) h (bd (f_X3_pushOperand a x1 h) e) :=
  Sm.callV (rv' := rvV) (args := [.int x1]) (n := 1) (t_X3_pushOperand a x1 h) hk (by decide) (r := (RX3, TX3, 10)) rfl rfl ho mw_301 mw_303 mp_4 mw_4 mw_304 ⟨⟨by decide, rfl, hdep, Nat.le_of_ble_eq_true rfl⟩, Nat.le_of_ble_eq_true rfl, rfl, ⟨by decide, by decide⟩, hcat⟩ (by decide +kernel) (by intro v hv; simp only [List.mem_cons, List.not_mem_nil, or_false] at hv; rcases hv with rfl <;> intro x hx <;> cases hx) d hq k rfl
abbrev g_X3_endLeaf : Gx := (yX3_endLeaf, cX3_endLeaf, 4, (Option.none : Option FieldType), 2)
def f_X3_endLeaf_21 (l0 : Nat) (s0 : Nat) (s1 : Int32) (h : Hp) : Option (Unit × Hp) :=
  (ck h s0 3
(bd (f_X3_pushOperand s0 s1 h) fun _ h7 =>
(ck h7 l0 3
(some ((), (sI h7 l0 6 (3 : Int32)))))))
set_option maxRecDepth 20000 in
theorem t_X3_endLeaf_21 (l0 : Nat) (s0 : Nat) (s1 : Int32) (h : Hp) : Sm rvV g_X3_endLeaf 21 [.ref l0, .null, .null, .null] [.int s1, .ref s0] h (f_X3_endLeaf_21 l0 s0 s1 h) := by
  unfold f_X3_endLeaf_21
  refine Sm.ck (fun o6 => ?_)
  refine kc_X3_103 o6 dX3_endLeaf_21 rfl (Nat.le_of_ble_eq_true rfl) (Nat.le_of_ble_eq_true rfl) rfl (fun _ h7 => ?_)
  refine Sm.aload_n dX3_endLeaf_24 rfl rfl rfl ?_
  refine Sm.iconst dX3_endLeaf_25 ic_3 rfl ?_
  refine Sm.ck (fun o8 => ?_)
  refine pf_X3_36 o8 dX3_endLeaf_26 rfl rfl ?_
  exact Sm.ret (r := ()) dX3_endLeaf_29 trivial rfl
def f_X3_endLeaf (l0 : Nat) (l1 : Int32) (l2 : Int32) (l3 : Int32) (h : Hp) : Option (Unit × Hp) :=
  (ck h l0 3
((gP h l0 5).bind fun v2 =>
(ck h v2 4
(bd (f_X4_add v2 l1 l2 l3 h) fun _ h4 =>
(if l1 = (3 : Int32) then
(f_X3_endLeaf_21 l0 l0 (0 : Int32) h4)
else
(f_X3_endLeaf_21 l0 l0 (1 : Int32) h4))))))
set_option maxRecDepth 20000 in
theorem t_X3_endLeaf (l0 : Nat) (l1 : Int32) (l2 : Int32) (l3 : Int32) (h : Hp) : Sm rvV g_X3_endLeaf 0 (ent 4 [.ref l0, .int l1, .int l2, .int l3]) [] h (f_X3_endLeaf l0 l1 l2 l3 h) := by
  show Sm rvV g_X3_endLeaf 0 [.ref l0, .int l1, .int l2, .int l3] [] h _
  unfold f_X3_endLeaf
  refine Sm.aload_n dX3_endLeaf_0 rfl rfl rfl ?_
  refine Sm.ck (fun o1 => ?_)
  refine gf_X3_32 o1 dX3_endLeaf_1 rfl rfl (fun v2 => ?_)
  refine Sm.iload_n dX3_endLeaf_4 rfl rfl rfl ?_
  refine Sm.iload_n dX3_endLeaf_5 rfl rfl rfl ?_
  refine Sm.iload_n dX3_endLeaf_6 rfl rfl rfl ?_
  refine Sm.ck (fun o3 => ?_)
  refine kc_X3_106 o3 dX3_endLeaf_7 rfl (Nat.le_of_ble_eq_true rfl) (Nat.le_of_ble_eq_true rfl) rfl (fun _ h4 => ?_)
  refine Sm.aload_n dX3_endLeaf_10 rfl rfl rfl ?_
  refine Sm.iload_n dX3_endLeaf_11 rfl rfl rfl ?_
  refine Sm.iconst dX3_endLeaf_12 ic_3 rfl ?_
  refine Sm.icmp_eq (t := 20) dX3_endLeaf_13 (by decide) rfl (fun b5 => ?_) (fun b5 => ?_)
  · refine Sm.iconst dX3_endLeaf_20 ic_0 rfl ?_
    exact Sm.wk (t_X3_endLeaf_21 l0 l0 (0 : Int32) h4) ⟨Or.inr rfl, Or.inl rfl, Or.inl rfl, Or.inl rfl, trivial⟩
  · refine Sm.iconst dX3_endLeaf_16 ic_1 rfl ?_
    refine Sm.goto (t := 21) dX3_endLeaf_17 (by decide) ?_
    exact Sm.wk (t_X3_endLeaf_21 l0 l0 (1 : Int32) h4) ⟨Or.inr rfl, Or.inl rfl, Or.inl rfl, Or.inl rfl, trivial⟩
set_option maxRecDepth 20000 in
theorem kc_X3_86 {ρ : Type} {rv : ρ → Option Value} {G : Gx} {pc q : Nat} {lv st : List Value} {h : Hp} {a : Nat} {x1 : Int32} {x2 : Int32} {x3 : Int32} {e : Unit → Hp → Option (ρ × Hp)} (hk : isO h a 3) (d : decode G.2.1 pc = .ok (.invokevirtual 86, 3)) (ho : G.1.cls = RX3) (hdep : (g_X3_endLeaf).2.2.2.2 < G.2.2.2.2) (hcat : catS st ≤ 8) (hq : pc + 3 = q) (k : ∀ r h1, Sm rv G q lv (st) h1 (e r h1)) : Sm rv G pc lv (.int x3 :: .int x2 :: .int x1 :: .ref a :: st) h (bd (f_X3_endLeaf a x1 x2 x3 h) e) :=
  Sm.callV (rv' := rvV) (args := [.int x1, .int x2, .int x3]) (n := 3) (t_X3_endLeaf a x1 x2 x3 h) hk (by decide) (r := (RX3, TX3, 10)) rfl rfl ho mw_296 mw_298 mp_3 mw_4 mw_299 ⟨⟨by decide, rfl, hdep, Nat.le_of_ble_eq_true rfl⟩, Nat.le_of_ble_eq_true rfl, rfl, ⟨by decide, by decide⟩, hcat⟩ (by decide +kernel) (by intro v hv; simp only [List.mem_cons, List.not_mem_nil, or_false] at hv; rcases hv with rfl | rfl | rfl <;> intro x hx <;> cases hx) d hq k rfl
abbrev g_X7_policy : Gx := (yX7_policy, cX7_policy, 1, (Option.some (FieldType.object "PolicyCompiler$Policy")), 0)
def f_X7_policy (l0 : Nat) (h : Hp) : Option (Nat × Hp) :=
  (ck h l0 7
((gP h l0 0).bind fun v2 =>
(some (v2, h))))
set_option maxRecDepth 20000 in
theorem t_X7_policy (l0 : Nat) (h : Hp) : Sm rvA g_X7_policy 0 (ent 1 [.ref l0]) [] h (f_X7_policy l0 h) := by
  show Sm rvA g_X7_policy 0 [.ref l0] [] h _
  unfold f_X7_policy
  refine Sm.aload_n dX7_policy_0 rfl rfl rfl ?_
  refine Sm.ck (fun o1 => ?_)
  refine gf_X7_12 o1 dX7_policy_1 rfl rfl (fun v2 => ?_)
  exact Sm.ret dX7_policy_4 trivial rfl
set_option maxRecDepth 20000 in
theorem kc_X3_90 {ρ : Type} {rv : ρ → Option Value} {G : Gx} {pc q : Nat} {lv st : List Value} {h : Hp} {a : Nat} {e : Nat → Hp → Option (ρ × Hp)} (hk : isO h a 7) (d : decode G.2.1 pc = .ok (.invokevirtual 90, 3)) (ho : G.1.cls = RX3) (hdep : (g_X7_policy).2.2.2.2 < G.2.2.2.2) (hcat : catS st ≤ 8) (hq : pc + 3 = q) (k : ∀ r h1, Sm rv G q lv (.ref r :: st) h1 (e r h1)) : Sm rv G pc lv (.ref a :: st) h (bd (f_X7_policy a h) e) :=
  Sm.callV (rv' := rvA) (args := []) (n := 0) (t_X7_policy a h) hk (by decide) (r := (RX7, TX7, 6)) rfl rfl ho mw_305 mw_306 mw_307 mw_6 mw_308 ⟨⟨by decide, rfl, hdep, Nat.le_of_ble_eq_true rfl⟩, Nat.le_of_ble_eq_true rfl, rfl, ⟨by decide, by decide⟩, hcat⟩ (by decide +kernel) (fun v hv => by cases hv) d hq k rfl
set_option maxRecDepth 20000 in
theorem kc_X9_78 {ρ : Type} {rv : ρ → Option Value} {G : Gx} {pc q : Nat} {lv st : List Value} {h : Hp} {a : Nat} {e : Nat → Hp → Option (ρ × Hp)} (hk : isO h a 7) (d : decode G.2.1 pc = .ok (.invokevirtual 78, 3)) (ho : G.1.cls = RX9) (hdep : (g_X7_policy).2.2.2.2 < G.2.2.2.2) (hcat : catS st ≤ 8) (hq : pc + 3 = q) (k : ∀ r h1, Sm rv G q lv (.ref r :: st) h1 (e r h1)) : Sm rv G pc lv (.ref a :: st) h (bd (f_X7_policy a h) e) :=
  Sm.callV (rv' := rvA) (args := []) (n := 0) (t_X7_policy a h) hk (by decide) (r := (RX7, TX7, 6)) rfl rfl ho mw_382 mw_306 mw_307 mw_6 mw_308 ⟨⟨by decide, rfl, hdep, Nat.le_of_ble_eq_true rfl⟩, Nat.le_of_ble_eq_true rfl, rfl, ⟨by decide, by decide⟩, hcat⟩ (by decide +kernel) (fun v hv => by cases hv) d hq k rfl
abbrev g_X3_takeFactor : Gx := (yX3_takeFactor, cX3_takeFactor, 5, (Option.none : Option FieldType), 3)
def f_X3_takeFactor_69 (s0 : Nat) (s1 : Int32) (h : Hp) : Option (Unit × Hp) :=
  (ck h s0 3
(bd (f_X3_endLeaf s0 s1 (0 : Int32) (0 : Int32) h) fun _ h13 =>
(some ((), h13))))
set_option maxRecDepth 20000 in
theorem t_X3_takeFactor_69 (s0 : Nat) (s1 : Int32) (h : Hp) : Sm rvV g_X3_takeFactor 69 [.null, .null, .null, .null, .null] [.int s1, .ref s0] h (f_X3_takeFactor_69 s0 s1 h) := by
  unfold f_X3_takeFactor_69
  refine Sm.iconst dX3_takeFactor_69 ic_0 rfl ?_
  refine Sm.iconst dX3_takeFactor_70 ic_0 rfl ?_
  refine Sm.ck (fun o12 => ?_)
  refine kc_X3_86 o12 dX3_takeFactor_71 rfl (Nat.le_of_ble_eq_true rfl) (Nat.le_of_ble_eq_true rfl) rfl (fun _ h13 => ?_)
  refine Sm.goto (t := 168) dX3_takeFactor_74 (by decide) ?_
  exact Sm.ret (r := ()) dX3_takeFactor_168 trivial rfl
def f_X3_takeFactor_57 (l0 : Nat) (l1 : Int32) (h : Hp) : Option (Unit × Hp) :=
  (if l1 = (48 : Int32) then
(f_X3_takeFactor_69 l0 (0 : Int32) h)
else
(f_X3_takeFactor_69 l0 (1 : Int32) h))
set_option maxRecDepth 20000 in
theorem t_X3_takeFactor_57 (l0 : Nat) (l1 : Int32) (h : Hp) : Sm rvV g_X3_takeFactor 57 [.ref l0, .int l1, .null, .null, .null] [] h (f_X3_takeFactor_57 l0 l1 h) := by
  unfold f_X3_takeFactor_57
  refine Sm.aload_n dX3_takeFactor_57 rfl rfl rfl ?_
  refine Sm.iload_n dX3_takeFactor_58 rfl rfl rfl ?_
  refine Sm.bipush dX3_takeFactor_59 bp_48 rfl ?_
  refine Sm.icmp_ne (t := 68) dX3_takeFactor_61 (by decide) rfl (fun b11 => ?_) (fun b11 => ?_)
  · refine Sm.iconst dX3_takeFactor_64 ic_0 rfl ?_
    refine Sm.goto (t := 69) dX3_takeFactor_65 (by decide) ?_
    exact Sm.wk (t_X3_takeFactor_69 l0 (0 : Int32) h) ⟨Or.inl rfl, Or.inl rfl, Or.inl rfl, Or.inl rfl, Or.inl rfl, trivial⟩
  · refine Sm.iconst dX3_takeFactor_68 ic_1 rfl ?_
    exact Sm.wk (t_X3_takeFactor_69 l0 (1 : Int32) h) ⟨Or.inl rfl, Or.inl rfl, Or.inl rfl, Or.inl rfl, Or.inl rfl, trivial⟩
def f_X3_takeFactor_105 (l0 : Nat) (l1 : Int32) (l2 : Int32) (l3 : Nat) (h : Hp) : Option (Unit × Hp) :=
  (if l1 < (112 : Int32) then
(ck h l0 3
(some ((), (sI h l0 9 l2))))
else
(if (115 : Int32) < l1 then
(ck h l0 3
(some ((), (sI h l0 9 l2))))
else
(ck h l3 23
(if (Int32.ofNat (gS h l3).2) ≤ (l1 - (112 : Int32)) then
(ck h l0 3
(some ((), (sI h l0 9 l2))))
else
(ca h l3 23 (l1 - (112 : Int32))
((gP h l3 (l1 - (112 : Int32)).toNatClampNeg).bind fun v24 =>
(ck h v24 7
(bd (f_X7_policy v24 h) fun v26 h27 =>
(ck h27 l0 3
((gP h27 l0 5).bind fun v29 =>
(ck h27 v29 4
(bd (f_X4_addAll v29 v26 h27) fun _ h31 =>
(ck h31 v26 4
(bd (f_X4_givesPredicate v26 h31) fun v33 h34 =>
(ck h34 l0 3
(bd (f_X3_pushOperand l0 v33 h34) fun _ h36 =>
(ck h36 l0 3
(some ((), (sI h36 l0 6 (3 : Int32)))))))))))))))))))))
set_option maxRecDepth 20000 in
theorem t_X3_takeFactor_105 (l0 : Nat) (l1 : Int32) (l2 : Int32) (l3 : Nat) (h : Hp) : Sm rvV g_X3_takeFactor 105 [.ref l0, .int l1, .int l2, .ref l3, .null] [] h (f_X3_takeFactor_105 l0 l1 l2 l3 h) := by
  unfold f_X3_takeFactor_105
  refine Sm.iload_n dX3_takeFactor_105 rfl rfl rfl ?_
  refine Sm.bipush dX3_takeFactor_106 bp_112 rfl ?_
  refine Sm.icmp_lt (t := 163) dX3_takeFactor_108 (by decide) rfl (fun b16 => ?_) (fun b16 => ?_)
  · refine Sm.aload_n dX3_takeFactor_163 rfl rfl rfl ?_
    refine Sm.iload_n dX3_takeFactor_164 rfl rfl rfl ?_
    refine Sm.ck (fun o17 => ?_)
    refine pf_X3_45 o17 dX3_takeFactor_165 rfl rfl ?_
    exact Sm.ret (r := ()) dX3_takeFactor_168 trivial rfl
  · refine Sm.iload_n dX3_takeFactor_111 rfl rfl rfl ?_
    refine Sm.bipush dX3_takeFactor_112 bp_115 rfl ?_
    refine Sm.icmp_gt (t := 163) dX3_takeFactor_114 (by decide) rfl (fun b18 => ?_) (fun b18 => ?_)
    · refine Sm.aload_n dX3_takeFactor_163 rfl rfl rfl ?_
      refine Sm.iload_n dX3_takeFactor_164 rfl rfl rfl ?_
      refine Sm.ck (fun o19 => ?_)
      refine pf_X3_45 o19 dX3_takeFactor_165 rfl rfl ?_
      exact Sm.ret (r := ()) dX3_takeFactor_168 trivial rfl
    · refine Sm.iload_n dX3_takeFactor_117 rfl rfl rfl ?_
      refine Sm.bipush dX3_takeFactor_118 bp_112 rfl ?_
      refine Sm.isub dX3_takeFactor_120 rfl ?_
      refine Sm.aload_n dX3_takeFactor_121 rfl rfl rfl ?_
      refine Sm.ck (fun o20 => ?_)
      refine Sm.alen o20 (by decide) dX3_takeFactor_122 rfl ?_
      refine Sm.icmp_ge (t := 163) dX3_takeFactor_123 (by decide) rfl (fun b21 => ?_) (fun b21 => ?_)
      · refine Sm.aload_n dX3_takeFactor_163 rfl rfl rfl ?_
        refine Sm.iload_n dX3_takeFactor_164 rfl rfl rfl ?_
        refine Sm.ck (fun o22 => ?_)
        refine pf_X3_45 o22 dX3_takeFactor_165 rfl rfl ?_
        exact Sm.ret (r := ()) dX3_takeFactor_168 trivial rfl
      · refine Sm.aload_n dX3_takeFactor_126 rfl rfl rfl ?_
        refine Sm.iload_n dX3_takeFactor_127 rfl rfl rfl ?_
        refine Sm.bipush dX3_takeFactor_128 bp_112 rfl ?_
        refine Sm.isub dX3_takeFactor_130 rfl ?_
        refine Sm.ca (fun q23 => ?_)
        refine Sm.aald q23 (by decide) dX3_takeFactor_131 rfl (fun v24 => ?_)
        refine Sm.ck (fun o25 => ?_)
        refine kc_X3_90 o25 dX3_takeFactor_132 rfl (Nat.le_of_ble_eq_true rfl) (Nat.le_of_ble_eq_true rfl) rfl (fun v26 h27 => ?_)
        refine Sm.astore (lv' := [.ref l0, .int l1, .int l2, .ref l3, .ref v26]) dX3_takeFactor_135 (Nat.le_of_ble_eq_true rfl) rfl rfl ?_
        refine Sm.aload_n dX3_takeFactor_137 rfl rfl rfl ?_
        refine Sm.ck (fun o28 => ?_)
        refine gf_X3_32 o28 dX3_takeFactor_138 rfl rfl (fun v29 => ?_)
        refine Sm.aload dX3_takeFactor_141 rfl rfl ?_
        refine Sm.ck (fun o30 => ?_)
        refine kc_X3_96 o30 dX3_takeFactor_143 rfl (Nat.le_of_ble_eq_true rfl) (Nat.le_of_ble_eq_true rfl) rfl (fun _ h31 => ?_)
        refine Sm.aload_n dX3_takeFactor_146 rfl rfl rfl ?_
        refine Sm.aload dX3_takeFactor_147 rfl rfl ?_
        refine Sm.ck (fun o32 => ?_)
        refine kc_X3_100 o32 dX3_takeFactor_149 rfl (Nat.le_of_ble_eq_true rfl) (Nat.le_of_ble_eq_true rfl) rfl (fun v33 h34 => ?_)
        refine Sm.ck (fun o35 => ?_)
        refine kc_X3_103 o35 dX3_takeFactor_152 rfl (Nat.le_of_ble_eq_true rfl) (Nat.le_of_ble_eq_true rfl) rfl (fun _ h36 => ?_)
        refine Sm.aload_n dX3_takeFactor_155 rfl rfl rfl ?_
        refine Sm.iconst dX3_takeFactor_156 ic_3 rfl ?_
        refine Sm.ck (fun o37 => ?_)
        refine pf_X3_36 o37 dX3_takeFactor_157 rfl rfl ?_
        refine Sm.goto (t := 168) dX3_takeFactor_160 (by decide) ?_
        exact Sm.ret (r := ()) dX3_takeFactor_168 trivial rfl
def f_X3_takeFactor (l0 : Nat) (l1 : Int32) (l2 : Int32) (l3 : Nat) (h : Hp) : Option (Unit × Hp) :=
  (if l1 = (33 : Int32) then
(ck h l0 3
(bd (f_X3_open l0 (3 : Int32) l2 h) fun _ h3 =>
(some ((), h3))))
else
(if l1 = (40 : Int32) then
(ck h l0 3
(bd (f_X3_open l0 (4 : Int32) l2 h) fun _ h6 =>
(some ((), h6))))
else
(if l1 = (91 : Int32) then
(ck h l0 3
(bd (f_X3_open l0 (5 : Int32) l2 h) fun _ h9 =>
(some ((), h9))))
else
(if l1 = (48 : Int32) then
(f_X3_takeFactor_57 l0 l1 h)
else
(if l1 = (49 : Int32) then
(f_X3_takeFactor_57 l0 l1 h)
else
(if l1 < (120 : Int32) then
(f_X3_takeFactor_105 l0 l1 l2 l3 h)
else
(if (122 : Int32) < l1 then
(f_X3_takeFactor_105 l0 l1 l2 l3 h)
else
(ck h l0 3
(some ((), (sI (sI h l0 7 (l1 - (120 : Int32))) l0 6 (1 : Int32))))))))))))
set_option maxRecDepth 20000 in
theorem t_X3_takeFactor (l0 : Nat) (l1 : Int32) (l2 : Int32) (l3 : Nat) (h : Hp) : Sm rvV g_X3_takeFactor 0 (ent 5 [.ref l0, .int l1, .int l2, .ref l3]) [] h (f_X3_takeFactor l0 l1 l2 l3 h) := by
  show Sm rvV g_X3_takeFactor 0 [.ref l0, .int l1, .int l2, .ref l3, .null] [] h _
  unfold f_X3_takeFactor
  refine Sm.iload_n dX3_takeFactor_0 rfl rfl rfl ?_
  refine Sm.bipush dX3_takeFactor_1 bp_33 rfl ?_
  refine Sm.icmp_ne (t := 15) dX3_takeFactor_3 (by decide) rfl (fun b1 => ?_) (fun b1 => ?_)
  · refine Sm.aload_n dX3_takeFactor_6 rfl rfl rfl ?_
    refine Sm.iconst dX3_takeFactor_7 ic_3 rfl ?_
    refine Sm.iload_n dX3_takeFactor_8 rfl rfl rfl ?_
    refine Sm.ck (fun o2 => ?_)
    refine kc_X3_83 o2 dX3_takeFactor_9 rfl (Nat.le_of_ble_eq_true rfl) (Nat.le_of_ble_eq_true rfl) rfl (fun _ h3 => ?_)
    refine Sm.goto (t := 168) dX3_takeFactor_12 (by decide) ?_
    exact Sm.ret (r := ()) dX3_takeFactor_168 trivial rfl
  · refine Sm.iload_n dX3_takeFactor_15 rfl rfl rfl ?_
    refine Sm.bipush dX3_takeFactor_16 bp_40 rfl ?_
    refine Sm.icmp_ne (t := 30) dX3_takeFactor_18 (by decide) rfl (fun b4 => ?_) (fun b4 => ?_)
    · refine Sm.aload_n dX3_takeFactor_21 rfl rfl rfl ?_
      refine Sm.iconst dX3_takeFactor_22 ic_4 rfl ?_
      refine Sm.iload_n dX3_takeFactor_23 rfl rfl rfl ?_
      refine Sm.ck (fun o5 => ?_)
      refine kc_X3_83 o5 dX3_takeFactor_24 rfl (Nat.le_of_ble_eq_true rfl) (Nat.le_of_ble_eq_true rfl) rfl (fun _ h6 => ?_)
      refine Sm.goto (t := 168) dX3_takeFactor_27 (by decide) ?_
      exact Sm.ret (r := ()) dX3_takeFactor_168 trivial rfl
    · refine Sm.iload_n dX3_takeFactor_30 rfl rfl rfl ?_
      refine Sm.bipush dX3_takeFactor_31 bp_91 rfl ?_
      refine Sm.icmp_ne (t := 45) dX3_takeFactor_33 (by decide) rfl (fun b7 => ?_) (fun b7 => ?_)
      · refine Sm.aload_n dX3_takeFactor_36 rfl rfl rfl ?_
        refine Sm.iconst dX3_takeFactor_37 ic_5 rfl ?_
        refine Sm.iload_n dX3_takeFactor_38 rfl rfl rfl ?_
        refine Sm.ck (fun o8 => ?_)
        refine kc_X3_83 o8 dX3_takeFactor_39 rfl (Nat.le_of_ble_eq_true rfl) (Nat.le_of_ble_eq_true rfl) rfl (fun _ h9 => ?_)
        refine Sm.goto (t := 168) dX3_takeFactor_42 (by decide) ?_
        exact Sm.ret (r := ()) dX3_takeFactor_168 trivial rfl
      · refine Sm.iload_n dX3_takeFactor_45 rfl rfl rfl ?_
        refine Sm.bipush dX3_takeFactor_46 bp_48 rfl ?_
        refine Sm.icmp_eq (t := 57) dX3_takeFactor_48 (by decide) rfl (fun b10 => ?_) (fun b10 => ?_)
        · exact Sm.wk (t_X3_takeFactor_57 l0 l1 h) ⟨Or.inr rfl, Or.inr rfl, Or.inl rfl, Or.inl rfl, Or.inl rfl, trivial⟩
        · refine Sm.iload_n dX3_takeFactor_51 rfl rfl rfl ?_
          refine Sm.bipush dX3_takeFactor_52 bp_49 rfl ?_
          refine Sm.icmp_ne (t := 77) dX3_takeFactor_54 (by decide) rfl (fun b14 => ?_) (fun b14 => ?_)
          · exact Sm.wk (t_X3_takeFactor_57 l0 l1 h) ⟨Or.inr rfl, Or.inr rfl, Or.inl rfl, Or.inl rfl, Or.inl rfl, trivial⟩
          · refine Sm.iload_n dX3_takeFactor_77 rfl rfl rfl ?_
            refine Sm.bipush dX3_takeFactor_78 bp_120 rfl ?_
            refine Sm.icmp_lt (t := 105) dX3_takeFactor_80 (by decide) rfl (fun b15 => ?_) (fun b15 => ?_)
            · exact Sm.wk (t_X3_takeFactor_105 l0 l1 l2 l3 h) ⟨Or.inr rfl, Or.inr rfl, Or.inr rfl, Or.inr rfl, Or.inl rfl, trivial⟩
            · refine Sm.iload_n dX3_takeFactor_83 rfl rfl rfl ?_
              refine Sm.bipush dX3_takeFactor_84 bp_122 rfl ?_
              refine Sm.icmp_gt (t := 105) dX3_takeFactor_86 (by decide) rfl (fun b38 => ?_) (fun b38 => ?_)
              · exact Sm.wk (t_X3_takeFactor_105 l0 l1 l2 l3 h) ⟨Or.inr rfl, Or.inr rfl, Or.inr rfl, Or.inr rfl, Or.inl rfl, trivial⟩
              · refine Sm.aload_n dX3_takeFactor_89 rfl rfl rfl ?_
                refine Sm.iload_n dX3_takeFactor_90 rfl rfl rfl ?_
                refine Sm.bipush dX3_takeFactor_91 bp_120 rfl ?_
                refine Sm.isub dX3_takeFactor_93 rfl ?_
                refine Sm.ck (fun o39 => ?_)
                refine pf_X3_39 o39 dX3_takeFactor_94 rfl rfl ?_
                refine Sm.aload_n dX3_takeFactor_97 rfl rfl rfl ?_
                refine Sm.iconst dX3_takeFactor_98 ic_1 rfl ?_
                refine pf_X3_36 o39 dX3_takeFactor_99 rfl rfl ?_
                refine Sm.goto (t := 168) dX3_takeFactor_102 (by decide) ?_
                exact Sm.ret (r := ()) dX3_takeFactor_168 trivial rfl
set_option maxRecDepth 20000 in
theorem kc_X3_51 {ρ : Type} {rv : ρ → Option Value} {G : Gx} {pc q : Nat} {lv st : List Value} {h : Hp} {a : Nat} {x1 : Int32} {x2 : Int32} {x3 : Nat} {e : Unit → Hp → Option (ρ × Hp)} (hk : isO h a 3) (d : decode G.2.1 pc = .ok (.invokevirtual 51, 3)) (ho : G.1.cls = RX3) (hdep : (g_X3_takeFactor).2.2.2.2 < G.2.2.2.2) (hcat : catS st ≤ 8) (hq : pc + 3 = q) (k : ∀ r h1, Sm rv G q lv (st) h1 (e r h1)) : Sm rv G pc lv (.ref x3 :: .int x2 :: .int x1 :: .ref a :: st) h (bd (f_X3_takeFactor a x1 x2 x3 h) e) :=
  Sm.callV (rv' := rvV) (args := [.int x1, .int x2, .ref x3]) (n := 3) (t_X3_takeFactor a x1 x2 x3 h) hk (by decide) (r := (RX3, TX3, 10)) rfl rfl ho mw_288 mw_290 mp_1 mw_4 mw_291 ⟨⟨by decide, rfl, hdep, Nat.le_of_ble_eq_true rfl⟩, Nat.le_of_ble_eq_true rfl, rfl, ⟨by decide, by decide⟩, hcat⟩ (by decide +kernel) (by intro v hv; simp only [List.mem_cons, List.not_mem_nil, or_false] at hv; rcases hv with rfl | rfl | rfl <;> intro x hx <;> cases hx) d hq k rfl
abbrev g_X3_takeSign : Gx := (yX3_takeSign, cX3_takeSign, 3, (Option.none : Option FieldType), 0)
def f_X3_takeSign_12 (l0 : Nat) (l1 : Int32) (h : Hp) : Option (Unit × Hp) :=
  (if l1 = (61 : Int32) then
(ck h l0 3
(some ((), (sI (sI h l0 8 (2 : Int32)) l0 6 (2 : Int32)))))
else
(ck h l0 3
(some ((), (sI (sI h l0 8 (3 : Int32)) l0 6 (2 : Int32))))))
set_option maxRecDepth 20000 in
theorem t_X3_takeSign_12 (l0 : Nat) (l1 : Int32) (h : Hp) : Sm rvV g_X3_takeSign 12 [.ref l0, .int l1, .null] [] h (f_X3_takeSign_12 l0 l1 h) := by
  unfold f_X3_takeSign_12
  refine Sm.aload_n dX3_takeSign_12 rfl rfl rfl ?_
  refine Sm.iload_n dX3_takeSign_13 rfl rfl rfl ?_
  refine Sm.bipush dX3_takeSign_14 bp_61 rfl ?_
  refine Sm.icmp_ne (t := 23) dX3_takeSign_16 (by decide) rfl (fun b2 => ?_) (fun b2 => ?_)
  · refine Sm.iconst dX3_takeSign_19 ic_2 rfl ?_
    refine Sm.goto (t := 24) dX3_takeSign_20 (by decide) ?_
    refine Sm.ck (fun o3 => ?_)
    refine pf_X3_42 o3 dX3_takeSign_24 rfl rfl ?_
    refine Sm.aload_n dX3_takeSign_27 rfl rfl rfl ?_
    refine Sm.iconst dX3_takeSign_28 ic_2 rfl ?_
    refine pf_X3_36 o3 dX3_takeSign_29 rfl rfl ?_
    refine Sm.goto (t := 40) dX3_takeSign_32 (by decide) ?_
    exact Sm.ret (r := ()) dX3_takeSign_40 trivial rfl
  · refine Sm.iconst dX3_takeSign_23 ic_3 rfl ?_
    refine Sm.ck (fun o4 => ?_)
    refine pf_X3_42 o4 dX3_takeSign_24 rfl rfl ?_
    refine Sm.aload_n dX3_takeSign_27 rfl rfl rfl ?_
    refine Sm.iconst dX3_takeSign_28 ic_2 rfl ?_
    refine pf_X3_36 o4 dX3_takeSign_29 rfl rfl ?_
    refine Sm.goto (t := 40) dX3_takeSign_32 (by decide) ?_
    exact Sm.ret (r := ()) dX3_takeSign_40 trivial rfl
def f_X3_takeSign (l0 : Nat) (l1 : Int32) (l2 : Int32) (h : Hp) : Option (Unit × Hp) :=
  (if l1 = (61 : Int32) then
(f_X3_takeSign_12 l0 l1 h)
else
(if l1 = (58 : Int32) then
(f_X3_takeSign_12 l0 l1 h)
else
(ck h l0 3
(some ((), (sI h l0 9 l2))))))
set_option maxRecDepth 20000 in
theorem t_X3_takeSign (l0 : Nat) (l1 : Int32) (l2 : Int32) (h : Hp) : Sm rvV g_X3_takeSign 0 (ent 3 [.ref l0, .int l1, .int l2]) [] h (f_X3_takeSign l0 l1 l2 h) := by
  show Sm rvV g_X3_takeSign 0 [.ref l0, .int l1, .int l2] [] h _
  unfold f_X3_takeSign
  refine Sm.iload_n dX3_takeSign_0 rfl rfl rfl ?_
  refine Sm.bipush dX3_takeSign_1 bp_61 rfl ?_
  refine Sm.icmp_eq (t := 12) dX3_takeSign_3 (by decide) rfl (fun b1 => ?_) (fun b1 => ?_)
  · exact Sm.wk (t_X3_takeSign_12 l0 l1 h) ⟨Or.inr rfl, Or.inr rfl, Or.inl rfl, trivial⟩
  · refine Sm.iload_n dX3_takeSign_6 rfl rfl rfl ?_
    refine Sm.bipush dX3_takeSign_7 bp_58 rfl ?_
    refine Sm.icmp_ne (t := 35) dX3_takeSign_9 (by decide) rfl (fun b5 => ?_) (fun b5 => ?_)
    · exact Sm.wk (t_X3_takeSign_12 l0 l1 h) ⟨Or.inr rfl, Or.inr rfl, Or.inl rfl, trivial⟩
    · refine Sm.aload_n dX3_takeSign_35 rfl rfl rfl ?_
      refine Sm.iload_n dX3_takeSign_36 rfl rfl rfl ?_
      refine Sm.ck (fun o6 => ?_)
      refine pf_X3_45 o6 dX3_takeSign_37 rfl rfl ?_
      exact Sm.ret (r := ()) dX3_takeSign_40 trivial rfl
set_option maxRecDepth 20000 in
theorem kc_X3_55 {ρ : Type} {rv : ρ → Option Value} {G : Gx} {pc q : Nat} {lv st : List Value} {h : Hp} {a : Nat} {x1 : Int32} {x2 : Int32} {e : Unit → Hp → Option (ρ × Hp)} (hk : isO h a 3) (d : decode G.2.1 pc = .ok (.invokevirtual 55, 3)) (ho : G.1.cls = RX3) (hdep : (g_X3_takeSign).2.2.2.2 < G.2.2.2.2) (hcat : catS st ≤ 8) (hq : pc + 3 = q) (k : ∀ r h1, Sm rv G q lv (st) h1 (e r h1)) : Sm rv G pc lv (.int x2 :: .int x1 :: .ref a :: st) h (bd (f_X3_takeSign a x1 x2 h) e) :=
  Sm.callV (rv' := rvV) (args := [.int x1, .int x2]) (n := 2) (t_X3_takeSign a x1 x2 h) hk (by decide) (r := (RX3, TX3, 10)) rfl rfl ho mw_317 mw_319 mp_5 mw_4 mw_320 ⟨⟨by decide, rfl, hdep, Nat.le_of_ble_eq_true rfl⟩, Nat.le_of_ble_eq_true rfl, rfl, ⟨by decide, by decide⟩, hcat⟩ (by decide +kernel) (by intro v hv; simp only [List.mem_cons, List.not_mem_nil, or_false] at hv; rcases hv with rfl | rfl <;> intro x hx <;> cases hx) d hq k rfl
abbrev g_X3_takeDigit : Gx := (yX3_takeDigit, cX3_takeDigit, 3, (Option.none : Option FieldType), 3)
def f_X3_takeDigit (l0 : Nat) (l1 : Int32) (l2 : Int32) (h : Hp) : Option (Unit × Hp) :=
  (if l1 < (48 : Int32) then
(ck h l0 3
(some ((), (sI h l0 9 l2))))
else
(if (52 : Int32) ≤ l1 then
(ck h l0 3
(some ((), (sI h l0 9 l2))))
else
(ck h l0 3
(bd (f_X3_endLeaf l0 (gI h l0 8) (gI h l0 7) (l1 - (48 : Int32)) h) fun _ h6 =>
(some ((), h6))))))
set_option maxRecDepth 20000 in
theorem t_X3_takeDigit (l0 : Nat) (l1 : Int32) (l2 : Int32) (h : Hp) : Sm rvV g_X3_takeDigit 0 (ent 3 [.ref l0, .int l1, .int l2]) [] h (f_X3_takeDigit l0 l1 l2 h) := by
  show Sm rvV g_X3_takeDigit 0 [.ref l0, .int l1, .int l2] [] h _
  unfold f_X3_takeDigit
  refine Sm.iload_n dX3_takeDigit_0 rfl rfl rfl ?_
  refine Sm.bipush dX3_takeDigit_1 bp_48 rfl ?_
  refine Sm.icmp_lt (t := 31) dX3_takeDigit_3 (by decide) rfl (fun b1 => ?_) (fun b1 => ?_)
  · refine Sm.aload_n dX3_takeDigit_31 rfl rfl rfl ?_
    refine Sm.iload_n dX3_takeDigit_32 rfl rfl rfl ?_
    refine Sm.ck (fun o2 => ?_)
    refine pf_X3_45 o2 dX3_takeDigit_33 rfl rfl ?_
    exact Sm.ret (r := ()) dX3_takeDigit_36 trivial rfl
  · refine Sm.iload_n dX3_takeDigit_6 rfl rfl rfl ?_
    refine Sm.bipush dX3_takeDigit_7 bp_52 rfl ?_
    refine Sm.icmp_ge (t := 31) dX3_takeDigit_9 (by decide) rfl (fun b3 => ?_) (fun b3 => ?_)
    · refine Sm.aload_n dX3_takeDigit_31 rfl rfl rfl ?_
      refine Sm.iload_n dX3_takeDigit_32 rfl rfl rfl ?_
      refine Sm.ck (fun o4 => ?_)
      refine pf_X3_45 o4 dX3_takeDigit_33 rfl rfl ?_
      exact Sm.ret (r := ()) dX3_takeDigit_36 trivial rfl
    · refine Sm.aload_n dX3_takeDigit_12 rfl rfl rfl ?_
      refine Sm.aload_n dX3_takeDigit_13 rfl rfl rfl ?_
      refine Sm.ck (fun o5 => ?_)
      refine gf_X3_42 o5 dX3_takeDigit_14 rfl rfl ?_
      refine Sm.aload_n dX3_takeDigit_17 rfl rfl rfl ?_
      refine gf_X3_39 o5 dX3_takeDigit_18 rfl rfl ?_
      refine Sm.iload_n dX3_takeDigit_21 rfl rfl rfl ?_
      refine Sm.bipush dX3_takeDigit_22 bp_48 rfl ?_
      refine Sm.isub dX3_takeDigit_24 rfl ?_
      refine kc_X3_86 o5 dX3_takeDigit_25 rfl (Nat.le_of_ble_eq_true rfl) (Nat.le_of_ble_eq_true rfl) rfl (fun _ h6 => ?_)
      refine Sm.goto (t := 36) dX3_takeDigit_28 (by decide) ?_
      exact Sm.ret (r := ()) dX3_takeDigit_36 trivial rfl
set_option maxRecDepth 20000 in
theorem kc_X3_59 {ρ : Type} {rv : ρ → Option Value} {G : Gx} {pc q : Nat} {lv st : List Value} {h : Hp} {a : Nat} {x1 : Int32} {x2 : Int32} {e : Unit → Hp → Option (ρ × Hp)} (hk : isO h a 3) (d : decode G.2.1 pc = .ok (.invokevirtual 59, 3)) (ho : G.1.cls = RX3) (hdep : (g_X3_takeDigit).2.2.2.2 < G.2.2.2.2) (hcat : catS st ≤ 8) (hq : pc + 3 = q) (k : ∀ r h1, Sm rv G q lv (st) h1 (e r h1)) : Sm rv G pc lv (.int x2 :: .int x1 :: .ref a :: st) h (bd (f_X3_takeDigit a x1 x2 h) e) :=
  Sm.callV (rv' := rvV) (args := [.int x1, .int x2]) (n := 2) (t_X3_takeDigit a x1 x2 h) hk (by decide) (r := (RX3, TX3, 10)) rfl rfl ho mw_321 mw_323 mp_6 mw_4 mw_324 ⟨⟨by decide, rfl, hdep, Nat.le_of_ble_eq_true rfl⟩, Nat.le_of_ble_eq_true rfl, rfl, ⟨by decide, by decide⟩, hcat⟩ (by decide +kernel) (by intro v hv; simp only [List.mem_cons, List.not_mem_nil, or_false] at hv; rcases hv with rfl | rfl <;> intro x hx <;> cases hx) d hq k rfl
abbrev g_X3_topIsPredicate : Gx := (yX3_topIsPredicate, cX3_topIsPredicate, 1, (Option.some FieldType.boolean), 0)
def f_X3_topIsPredicate (l0 : Nat) (h : Hp) : Option (Int32 × Hp) :=
  (ck h l0 3
(if (gI h l0 4) ≤ 0 then
(some ((0 : Int32), h))
else
(if (150 : Int32) < (gI h l0 4) then
(some ((0 : Int32), h))
else
((gP h l0 3).bind fun v4 =>
(ca h v4 21 ((gI h l0 4) - (1 : Int32))
(if (gI h v4 ((gI h l0 4) - (1 : Int32)).toNatClampNeg) = 0 then
(some ((0 : Int32), h))
else
(some ((1 : Int32), h))))))))
set_option maxRecDepth 20000 in
theorem t_X3_topIsPredicate (l0 : Nat) (h : Hp) : Sm rvI g_X3_topIsPredicate 0 (ent 1 [.ref l0]) [] h (f_X3_topIsPredicate l0 h) := by
  show Sm rvI g_X3_topIsPredicate 0 [.ref l0] [] h _
  unfold f_X3_topIsPredicate
  refine Sm.aload_n dX3_topIsPredicate_0 rfl rfl rfl ?_
  refine Sm.ck (fun o1 => ?_)
  refine gf_X3_26 o1 dX3_topIsPredicate_1 rfl rfl ?_
  refine Sm.if_le (t := 35) dX3_topIsPredicate_4 (by decide) rfl (fun b2 => ?_) (fun b2 => ?_)
  · refine Sm.iconst dX3_topIsPredicate_35 ic_0 rfl ?_
    exact Sm.ret dX3_topIsPredicate_36 (Or.inl rfl) rfl
  · refine Sm.aload_n dX3_topIsPredicate_7 rfl rfl rfl ?_
    refine gf_X3_26 o1 dX3_topIsPredicate_8 rfl rfl ?_
    refine Sm.sipush dX3_topIsPredicate_11 sp_150 rfl ?_
    refine Sm.icmp_gt (t := 35) dX3_topIsPredicate_14 (by decide) rfl (fun b3 => ?_) (fun b3 => ?_)
    · refine Sm.iconst dX3_topIsPredicate_35 ic_0 rfl ?_
      exact Sm.ret dX3_topIsPredicate_36 (Or.inl rfl) rfl
    · refine Sm.aload_n dX3_topIsPredicate_17 rfl rfl rfl ?_
      refine gf_X3_22 o1 dX3_topIsPredicate_18 rfl rfl (fun v4 => ?_)
      refine Sm.aload_n dX3_topIsPredicate_21 rfl rfl rfl ?_
      refine gf_X3_26 o1 dX3_topIsPredicate_22 rfl rfl ?_
      refine Sm.iconst dX3_topIsPredicate_25 ic_1 rfl ?_
      refine Sm.isub dX3_topIsPredicate_26 rfl ?_
      refine Sm.ca (fun q5 => ?_)
      refine Sm.zald q5 dX3_topIsPredicate_27 rfl ?_
      refine Sm.if_eq (t := 35) dX3_topIsPredicate_28 (by decide) rfl (fun b6 => ?_) (fun b6 => ?_)
      · refine Sm.iconst dX3_topIsPredicate_35 ic_0 rfl ?_
        exact Sm.ret dX3_topIsPredicate_36 (Or.inl rfl) rfl
      · refine Sm.iconst dX3_topIsPredicate_31 ic_1 rfl ?_
        refine Sm.goto (t := 36) dX3_topIsPredicate_32 (by decide) ?_
        exact Sm.ret dX3_topIsPredicate_36 (Or.inr rfl) rfl
set_option maxRecDepth 20000 in
theorem kc_X3_75 {ρ : Type} {rv : ρ → Option Value} {G : Gx} {pc q : Nat} {lv st : List Value} {h : Hp} {a : Nat} {e : Int32 → Hp → Option (ρ × Hp)} (hk : isO h a 3) (d : decode G.2.1 pc = .ok (.invokevirtual 75, 3)) (ho : G.1.cls = RX3) (hdep : (g_X3_topIsPredicate).2.2.2.2 < G.2.2.2.2) (hcat : catS st ≤ 8) (hq : pc + 3 = q) (k : ∀ r h1, Sm rv G q lv (.int r :: st) h1 (e r h1)) : Sm rv G pc lv (.ref a :: st) h (bd (f_X3_topIsPredicate a h) e) :=
  Sm.callV (rv' := rvI) (args := []) (n := 0) (t_X3_topIsPredicate a h) hk (by decide) (r := (RX3, TX3, 10)) rfl rfl ho mw_333 mw_335 mp_9 mw_4 mw_336 ⟨⟨by decide, rfl, hdep, Nat.le_of_ble_eq_true rfl⟩, Nat.le_of_ble_eq_true rfl, rfl, ⟨by decide, by decide⟩, hcat⟩ (by decide +kernel) (fun v hv => by cases hv) d hq k rfl
abbrev g_X3_popOperand : Gx := (yX3_popOperand, cX3_popOperand, 2, (Option.some FieldType.boolean), 1)
def f_X3_popOperand (l0 : Nat) (h : Hp) : Option (Int32 × Hp) :=
  (ck h l0 3
(bd (f_X3_topIsPredicate l0 h) fun v2 h3 =>
(ck h3 l0 3
(if (gI h3 l0 4) ≤ 0 then
(bz v2
(some (v2, h3)))
else
(bz v2
(some (v2, (sI h3 l0 4 ((gI h3 l0 4) - (1 : Int32))))))))))
set_option maxRecDepth 20000 in
theorem t_X3_popOperand (l0 : Nat) (h : Hp) : Sm rvI g_X3_popOperand 0 (ent 2 [.ref l0]) [] h (f_X3_popOperand l0 h) := by
  show Sm rvI g_X3_popOperand 0 [.ref l0, .null] [] h _
  unfold f_X3_popOperand
  refine Sm.aload_n dX3_popOperand_0 rfl rfl rfl ?_
  refine Sm.ck (fun o1 => ?_)
  refine kc_X3_75 o1 dX3_popOperand_1 rfl (Nat.le_of_ble_eq_true rfl) (Nat.le_of_ble_eq_true rfl) rfl (fun v2 h3 => ?_)
  refine Sm.istore_n (lv' := [.ref l0, .int v2]) dX3_popOperand_4 rfl (Nat.le_of_ble_eq_true rfl) rfl rfl ?_
  refine Sm.aload_n dX3_popOperand_5 rfl rfl rfl ?_
  refine Sm.ck (fun o4 => ?_)
  refine gf_X3_26 o4 dX3_popOperand_6 rfl rfl ?_
  refine Sm.if_le (t := 22) dX3_popOperand_9 (by decide) rfl (fun b5 => ?_) (fun b5 => ?_)
  · refine Sm.iload_n dX3_popOperand_22 rfl rfl rfl ?_
    refine Sm.bz (fun z6 => ?_)
    exact Sm.ret dX3_popOperand_23 z6 rfl
  · refine Sm.aload_n dX3_popOperand_12 rfl rfl rfl ?_
    refine Sm.dup dX3_popOperand_13 rfl rfl ?_
    refine gf_X3_26 o4 dX3_popOperand_14 rfl rfl ?_
    refine Sm.iconst dX3_popOperand_17 ic_1 rfl ?_
    refine Sm.isub dX3_popOperand_18 rfl ?_
    refine pf_X3_26 o4 dX3_popOperand_19 rfl rfl ?_
    refine Sm.iload_n dX3_popOperand_22 rfl rfl rfl ?_
    refine Sm.bz (fun z7 => ?_)
    exact Sm.ret dX3_popOperand_23 z7 rfl
set_option maxRecDepth 20000 in
theorem kc_X3_109 {ρ : Type} {rv : ρ → Option Value} {G : Gx} {pc q : Nat} {lv st : List Value} {h : Hp} {a : Nat} {e : Int32 → Hp → Option (ρ × Hp)} (hk : isO h a 3) (d : decode G.2.1 pc = .ok (.invokevirtual 109, 3)) (ho : G.1.cls = RX3) (hdep : (g_X3_popOperand).2.2.2.2 < G.2.2.2.2) (hcat : catS st ≤ 8) (hq : pc + 3 = q) (k : ∀ r h1, Sm rv G q lv (.int r :: st) h1 (e r h1)) : Sm rv G pc lv (.ref a :: st) h (bd (f_X3_popOperand a h) e) :=
  Sm.callV (rv' := rvI) (args := []) (n := 0) (t_X3_popOperand a h) hk (by decide) (r := (RX3, TX3, 10)) rfl rfl ho mw_329 mw_331 mp_8 mw_4 mw_332 ⟨⟨by decide, rfl, hdep, Nat.le_of_ble_eq_true rfl⟩, Nat.le_of_ble_eq_true rfl, rfl, ⟨by decide, by decide⟩, hcat⟩ (by decide +kernel) (fun v hv => by cases hv) d hq k rfl
abbrev g_X3_innermost : Gx := (yX3_innermost, cX3_innermost, 1, (Option.some FieldType.int), 0)
def f_X3_innermost (l0 : Nat) (h : Hp) : Option (Int32 × Hp) :=
  (ck h l0 3
(if (gI h l0 2) ≤ 0 then
(some ((0 : Int32), h))
else
(if (150 : Int32) < (gI h l0 2) then
(some ((0 : Int32), h))
else
((gP h l0 0).bind fun v4 =>
(ca h v4 20 ((gI h l0 2) - (1 : Int32))
(some ((gI h v4 ((gI h l0 2) - (1 : Int32)).toNatClampNeg), h)))))))
set_option maxRecDepth 20000 in
theorem t_X3_innermost (l0 : Nat) (h : Hp) : Sm rvI g_X3_innermost 0 (ent 1 [.ref l0]) [] h (f_X3_innermost l0 h) := by
  show Sm rvI g_X3_innermost 0 [.ref l0] [] h _
  unfold f_X3_innermost
  refine Sm.aload_n dX3_innermost_0 rfl rfl rfl ?_
  refine Sm.ck (fun o1 => ?_)
  refine gf_X3_18 o1 dX3_innermost_1 rfl rfl ?_
  refine Sm.if_le (t := 31) dX3_innermost_4 (by decide) rfl (fun b2 => ?_) (fun b2 => ?_)
  · refine Sm.iconst dX3_innermost_31 ic_0 rfl ?_
    exact Sm.ret dX3_innermost_32 trivial rfl
  · refine Sm.aload_n dX3_innermost_7 rfl rfl rfl ?_
    refine gf_X3_18 o1 dX3_innermost_8 rfl rfl ?_
    refine Sm.sipush dX3_innermost_11 sp_150 rfl ?_
    refine Sm.icmp_gt (t := 31) dX3_innermost_14 (by decide) rfl (fun b3 => ?_) (fun b3 => ?_)
    · refine Sm.iconst dX3_innermost_31 ic_0 rfl ?_
      exact Sm.ret dX3_innermost_32 trivial rfl
    · refine Sm.aload_n dX3_innermost_17 rfl rfl rfl ?_
      refine gf_X3_9 o1 dX3_innermost_18 rfl rfl (fun v4 => ?_)
      refine Sm.aload_n dX3_innermost_21 rfl rfl rfl ?_
      refine gf_X3_18 o1 dX3_innermost_22 rfl rfl ?_
      refine Sm.iconst dX3_innermost_25 ic_1 rfl ?_
      refine Sm.isub dX3_innermost_26 rfl ?_
      refine Sm.ca (fun q5 => ?_)
      refine Sm.iald q5 dX3_innermost_27 rfl ?_
      refine Sm.goto (t := 32) dX3_innermost_28 (by decide) ?_
      exact Sm.ret dX3_innermost_32 trivial rfl
set_option maxRecDepth 20000 in
theorem kc_X3_118 {ρ : Type} {rv : ρ → Option Value} {G : Gx} {pc q : Nat} {lv st : List Value} {h : Hp} {a : Nat} {e : Int32 → Hp → Option (ρ × Hp)} (hk : isO h a 3) (d : decode G.2.1 pc = .ok (.invokevirtual 118, 3)) (ho : G.1.cls = RX3) (hdep : (g_X3_innermost).2.2.2.2 < G.2.2.2.2) (hcat : catS st ≤ 8) (hq : pc + 3 = q) (k : ∀ r h1, Sm rv G q lv (.int r :: st) h1 (e r h1)) : Sm rv G pc lv (.ref a :: st) h (bd (f_X3_innermost a h) e) :=
  Sm.callV (rv' := rvI) (args := []) (n := 0) (t_X3_innermost a h) hk (by decide) (r := (RX3, TX3, 10)) rfl rfl ho mw_341 mw_343 mp_11 mw_4 mw_344 ⟨⟨by decide, rfl, hdep, Nat.le_of_ble_eq_true rfl⟩, Nat.le_of_ble_eq_true rfl, rfl, ⟨by decide, by decide⟩, hcat⟩ (by decide +kernel) (fun v hv => by cases hv) d hq k rfl
abbrev g_X3_innermostBegin : Gx := (yX3_innermostBegin, cX3_innermostBegin, 1, (Option.some FieldType.int), 0)
def f_X3_innermostBegin (l0 : Nat) (h : Hp) : Option (Int32 × Hp) :=
  (ck h l0 3
(if (gI h l0 2) ≤ 0 then
(some ((0 : Int32), h))
else
(if (150 : Int32) < (gI h l0 2) then
(some ((0 : Int32), h))
else
((gP h l0 1).bind fun v4 =>
(ca h v4 20 ((gI h l0 2) - (1 : Int32))
(some (((gI h v4 ((gI h l0 2) - (1 : Int32)).toNatClampNeg) + (1 : Int32)), h)))))))
set_option maxRecDepth 20000 in
theorem t_X3_innermostBegin (l0 : Nat) (h : Hp) : Sm rvI g_X3_innermostBegin 0 (ent 1 [.ref l0]) [] h (f_X3_innermostBegin l0 h) := by
  show Sm rvI g_X3_innermostBegin 0 [.ref l0] [] h _
  unfold f_X3_innermostBegin
  refine Sm.aload_n dX3_innermostBegin_0 rfl rfl rfl ?_
  refine Sm.ck (fun o1 => ?_)
  refine gf_X3_18 o1 dX3_innermostBegin_1 rfl rfl ?_
  refine Sm.if_le (t := 33) dX3_innermostBegin_4 (by decide) rfl (fun b2 => ?_) (fun b2 => ?_)
  · refine Sm.iconst dX3_innermostBegin_33 ic_0 rfl ?_
    exact Sm.ret dX3_innermostBegin_34 trivial rfl
  · refine Sm.aload_n dX3_innermostBegin_7 rfl rfl rfl ?_
    refine gf_X3_18 o1 dX3_innermostBegin_8 rfl rfl ?_
    refine Sm.sipush dX3_innermostBegin_11 sp_150 rfl ?_
    refine Sm.icmp_gt (t := 33) dX3_innermostBegin_14 (by decide) rfl (fun b3 => ?_) (fun b3 => ?_)
    · refine Sm.iconst dX3_innermostBegin_33 ic_0 rfl ?_
      exact Sm.ret dX3_innermostBegin_34 trivial rfl
    · refine Sm.aload_n dX3_innermostBegin_17 rfl rfl rfl ?_
      refine gf_X3_15 o1 dX3_innermostBegin_18 rfl rfl (fun v4 => ?_)
      refine Sm.aload_n dX3_innermostBegin_21 rfl rfl rfl ?_
      refine gf_X3_18 o1 dX3_innermostBegin_22 rfl rfl ?_
      refine Sm.iconst dX3_innermostBegin_25 ic_1 rfl ?_
      refine Sm.isub dX3_innermostBegin_26 rfl ?_
      refine Sm.ca (fun q5 => ?_)
      refine Sm.iald q5 dX3_innermostBegin_27 rfl ?_
      refine Sm.iconst dX3_innermostBegin_28 ic_1 rfl ?_
      refine Sm.iadd dX3_innermostBegin_29 rfl ?_
      refine Sm.goto (t := 34) dX3_innermostBegin_30 (by decide) ?_
      exact Sm.ret dX3_innermostBegin_34 trivial rfl
set_option maxRecDepth 20000 in
theorem kc_X3_122 {ρ : Type} {rv : ρ → Option Value} {G : Gx} {pc q : Nat} {lv st : List Value} {h : Hp} {a : Nat} {e : Int32 → Hp → Option (ρ × Hp)} (hk : isO h a 3) (d : decode G.2.1 pc = .ok (.invokevirtual 122, 3)) (ho : G.1.cls = RX3) (hdep : (g_X3_innermostBegin).2.2.2.2 < G.2.2.2.2) (hcat : catS st ≤ 8) (hq : pc + 3 = q) (k : ∀ r h1, Sm rv G q lv (.int r :: st) h1 (e r h1)) : Sm rv G pc lv (.ref a :: st) h (bd (f_X3_innermostBegin a h) e) :=
  Sm.callV (rv' := rvI) (args := []) (n := 0) (t_X3_innermostBegin a h) hk (by decide) (r := (RX3, TX3, 10)) rfl rfl ho mw_345 mw_347 mp_12 mw_4 mw_348 ⟨⟨by decide, rfl, hdep, Nat.le_of_ble_eq_true rfl⟩, Nat.le_of_ble_eq_true rfl, rfl, ⟨by decide, by decide⟩, hcat⟩ (by decide +kernel) (fun v hv => by cases hv) d hq k rfl
abbrev g_X3_endPair : Gx := (yX3_endPair, cX3_endPair, 5, (Option.none : Option FieldType), 2)
def f_X3_endPair_52 (l0 : Nat) (s0 : Nat) (s1 : Int32) (h : Hp) : Option (Unit × Hp) :=
  (ck h s0 3
(bd (f_X3_pushOperand s0 s1 h) fun _ h18 =>
(ck h18 l0 3
(some ((), (sI h18 l0 2 ((gI h18 l0 2) - (1 : Int32))))))))
set_option maxRecDepth 20000 in
theorem t_X3_endPair_52 (l0 : Nat) (s0 : Nat) (s1 : Int32) (h : Hp) : Sm rvV g_X3_endPair 52 [.ref l0, .null, .null, .null, .null] [.int s1, .ref s0] h (f_X3_endPair_52 l0 s0 s1 h) := by
  unfold f_X3_endPair_52
  refine Sm.ck (fun o17 => ?_)
  refine kc_X3_103 o17 dX3_endPair_52 rfl (Nat.le_of_ble_eq_true rfl) (Nat.le_of_ble_eq_true rfl) rfl (fun _ h18 => ?_)
  refine Sm.aload_n dX3_endPair_55 rfl rfl rfl ?_
  refine Sm.dup dX3_endPair_56 rfl rfl ?_
  refine Sm.ck (fun o19 => ?_)
  refine gf_X3_18 o19 dX3_endPair_57 rfl rfl ?_
  refine Sm.iconst dX3_endPair_60 ic_1 rfl ?_
  refine Sm.isub dX3_endPair_61 rfl ?_
  refine pf_X3_18 o19 dX3_endPair_62 rfl rfl ?_
  exact Sm.ret (r := ()) dX3_endPair_65 trivial rfl
def f_X3_endPair_51 (l0 : Nat) (s0 : Nat) (h : Hp) : Option (Unit × Hp) :=
  (f_X3_endPair_52 l0 s0 (0 : Int32) h)
set_option maxRecDepth 20000 in
theorem t_X3_endPair_51 (l0 : Nat) (s0 : Nat) (h : Hp) : Sm rvV g_X3_endPair 51 [.ref l0, .null, .null, .null, .null] [.ref s0] h (f_X3_endPair_51 l0 s0 h) := by
  unfold f_X3_endPair_51
  refine Sm.iconst dX3_endPair_51 ic_0 rfl ?_
  exact Sm.wk (t_X3_endPair_52 l0 s0 (0 : Int32) h) ⟨Or.inr rfl, Or.inl rfl, Or.inl rfl, Or.inl rfl, Or.inl rfl, trivial⟩
def f_X3_endPair (l0 : Nat) (l1 : Int32) (l2 : Int32) (h : Hp) : Option (Unit × Hp) :=
  (ck h l0 3
(if (gI h l0 9) = (-1 : Int32) then
(bd (f_X3_innermost l0 h) fun v3 h4 =>
(if v3 = l1 then
(ck h4 l0 3
((gP h4 l0 5).bind fun v7 =>
(ck h4 v7 4
(bd (f_X4_add v7 l2 (0 : Int32) (0 : Int32) h4) fun _ h9 =>
(ck h9 l0 3
(bd (f_X3_popOperand l0 h9) fun v11 h12 =>
(ck h12 l0 3
(bd (f_X3_popOperand l0 h12) fun v14 h15 =>
(if v14 = 0 then
(f_X3_endPair_51 l0 l0 h15)
else
(if v11 = 0 then
(f_X3_endPair_51 l0 l0 h15)
else
(f_X3_endPair_52 l0 l0 (1 : Int32) h15)))))))))))
else
(some ((), h4))))
else
(some ((), h))))
set_option maxRecDepth 20000 in
theorem t_X3_endPair (l0 : Nat) (l1 : Int32) (l2 : Int32) (h : Hp) : Sm rvV g_X3_endPair 0 (ent 5 [.ref l0, .int l1, .int l2]) [] h (f_X3_endPair l0 l1 l2 h) := by
  show Sm rvV g_X3_endPair 0 [.ref l0, .int l1, .int l2, .null, .null] [] h _
  unfold f_X3_endPair
  refine Sm.aload_n dX3_endPair_0 rfl rfl rfl ?_
  refine Sm.ck (fun o1 => ?_)
  refine gf_X3_45 o1 dX3_endPair_1 rfl rfl ?_
  refine Sm.iconst dX3_endPair_4 ic_m1 rfl ?_
  refine Sm.icmp_ne (t := 65) dX3_endPair_5 (by decide) rfl (fun b2 => ?_) (fun b2 => ?_)
  · refine Sm.aload_n dX3_endPair_8 rfl rfl rfl ?_
    refine kc_X3_118 o1 dX3_endPair_9 rfl (Nat.le_of_ble_eq_true rfl) (Nat.le_of_ble_eq_true rfl) rfl (fun v3 h4 => ?_)
    refine Sm.iload_n dX3_endPair_12 rfl rfl rfl ?_
    refine Sm.icmp_ne (t := 65) dX3_endPair_13 (by decide) rfl (fun b5 => ?_) (fun b5 => ?_)
    · refine Sm.aload_n dX3_endPair_16 rfl rfl rfl ?_
      refine Sm.ck (fun o6 => ?_)
      refine gf_X3_32 o6 dX3_endPair_17 rfl rfl (fun v7 => ?_)
      refine Sm.iload_n dX3_endPair_20 rfl rfl rfl ?_
      refine Sm.iconst dX3_endPair_21 ic_0 rfl ?_
      refine Sm.iconst dX3_endPair_22 ic_0 rfl ?_
      refine Sm.ck (fun o8 => ?_)
      refine kc_X3_106 o8 dX3_endPair_23 rfl (Nat.le_of_ble_eq_true rfl) (Nat.le_of_ble_eq_true rfl) rfl (fun _ h9 => ?_)
      refine Sm.aload_n dX3_endPair_26 rfl rfl rfl ?_
      refine Sm.ck (fun o10 => ?_)
      refine kc_X3_109 o10 dX3_endPair_27 rfl (Nat.le_of_ble_eq_true rfl) (Nat.le_of_ble_eq_true rfl) rfl (fun v11 h12 => ?_)
      refine Sm.istore_n (lv' := [.ref l0, .int l1, .int l2, .int v11, .null]) dX3_endPair_30 rfl (Nat.le_of_ble_eq_true rfl) rfl rfl ?_
      refine Sm.aload_n dX3_endPair_31 rfl rfl rfl ?_
      refine Sm.ck (fun o13 => ?_)
      refine kc_X3_109 o13 dX3_endPair_32 rfl (Nat.le_of_ble_eq_true rfl) (Nat.le_of_ble_eq_true rfl) rfl (fun v14 h15 => ?_)
      refine Sm.istore (lv' := [.ref l0, .int l1, .int l2, .int v11, .int v14]) dX3_endPair_35 (Nat.le_of_ble_eq_true rfl) rfl rfl ?_
      refine Sm.aload_n dX3_endPair_37 rfl rfl rfl ?_
      refine Sm.iload dX3_endPair_38 rfl rfl ?_
      refine Sm.if_eq (t := 51) dX3_endPair_40 (by decide) rfl (fun b16 => ?_) (fun b16 => ?_)
      · exact Sm.wk (t_X3_endPair_51 l0 l0 h15) ⟨Or.inr rfl, Or.inl rfl, Or.inl rfl, Or.inl rfl, Or.inl rfl, trivial⟩
      · refine Sm.iload_n dX3_endPair_43 rfl rfl rfl ?_
        refine Sm.if_eq (t := 51) dX3_endPair_44 (by decide) rfl (fun b20 => ?_) (fun b20 => ?_)
        · exact Sm.wk (t_X3_endPair_51 l0 l0 h15) ⟨Or.inr rfl, Or.inl rfl, Or.inl rfl, Or.inl rfl, Or.inl rfl, trivial⟩
        · refine Sm.iconst dX3_endPair_47 ic_1 rfl ?_
          refine Sm.goto (t := 52) dX3_endPair_48 (by decide) ?_
          exact Sm.wk (t_X3_endPair_52 l0 l0 (1 : Int32) h15) ⟨Or.inr rfl, Or.inl rfl, Or.inl rfl, Or.inl rfl, Or.inl rfl, trivial⟩
    · exact Sm.ret (r := ()) dX3_endPair_65 trivial rfl
  · exact Sm.ret (r := ()) dX3_endPair_65 trivial rfl
set_option maxRecDepth 20000 in
theorem kc_X3_112 {ρ : Type} {rv : ρ → Option Value} {G : Gx} {pc q : Nat} {lv st : List Value} {h : Hp} {a : Nat} {x1 : Int32} {x2 : Int32} {e : Unit → Hp → Option (ρ × Hp)} (hk : isO h a 3) (d : decode G.2.1 pc = .ok (.invokevirtual 112, 3)) (ho : G.1.cls = RX3) (hdep : (g_X3_endPair).2.2.2.2 < G.2.2.2.2) (hcat : catS st ≤ 8) (hq : pc + 3 = q) (k : ∀ r h1, Sm rv G q lv (st) h1 (e r h1)) : Sm rv G pc lv (.int x2 :: .int x1 :: .ref a :: st) h (bd (f_X3_endPair a x1 x2 h) e) :=
  Sm.callV (rv' := rvV) (args := [.int x1, .int x2]) (n := 2) (t_X3_endPair a x1 x2 h) hk (by decide) (r := (RX3, TX3, 10)) rfl rfl ho mw_349 mw_351 mp_13 mw_4 mw_352 ⟨⟨by decide, rfl, hdep, Nat.le_of_ble_eq_true rfl⟩, Nat.le_of_ble_eq_true rfl, rfl, ⟨by decide, by decide⟩, hcat⟩ (by decide +kernel) (by intro v hv; simp only [List.mem_cons, List.not_mem_nil, or_false] at hv; rcases hv with rfl | rfl <;> intro x hx <;> cases hx) d hq k rfl
abbrev g_X3_endFactor : Gx := (yX3_endFactor, cX3_endFactor, 2, (Option.none : Option FieldType), 3)
def f_X3_endFactor_70 (l0 : Nat) (h : Hp) : Option (Unit × Hp) :=
  (ck h l0 3
(bd (f_X3_endPair l0 (2 : Int32) (5 : Int32) h) fun _ h5 =>
(some ((), h5))))
set_option maxRecDepth 20000 in
theorem t_X3_endFactor_70 (l0 : Nat) (h : Hp) : Sm rvV g_X3_endFactor 70 [.ref l0, .null] [] h (f_X3_endFactor_70 l0 h) := by
  unfold f_X3_endFactor_70
  refine Sm.aload_n dX3_endFactor_70 rfl rfl rfl ?_
  refine Sm.iconst dX3_endFactor_71 ic_2 rfl ?_
  refine Sm.iconst dX3_endFactor_72 ic_5 rfl ?_
  refine Sm.ck (fun o4 => ?_)
  refine kc_X3_112 o4 dX3_endFactor_73 rfl (Nat.le_of_ble_eq_true rfl) (Nat.le_of_ble_eq_true rfl) rfl (fun _ h5 => ?_)
  exact Sm.ret (r := ()) dX3_endFactor_76 trivial rfl
def f_X3_endFactor_5 (k5 : (Int32 × Hp) → Option (Unit × Hp)) (l0 : Nat) (l1 : Int32) (h : Hp) : Option (Unit × Hp) :=
  (if l1 ≤ 0 then
(f_X3_endFactor_70 l0 h)
else
(ck h l0 3
(bd (f_X3_innermost l0 h) fun v7 h8 =>
(if v7 = (3 : Int32) then
(ck h8 l0 3
(if (gI h8 l0 9) = (-1 : Int32) then
(bd (f_X3_topIsPredicate l0 h8) fun v12 h13 =>
(if v12 = 0 then
(ck h13 l0 3
(bd (f_X3_innermostBegin l0 h13) fun v16 h17 =>
(ck h17 l0 3
(nm (l1 + (-1 : Int32)) fun v19 =>
(k5 (v19, (sI h17 l0 9 v16)))))))
else
(ck h13 l0 3
((gP h13 l0 5).bind fun v21 =>
(ck h13 v21 4
(bd (f_X4_add v21 (7 : Int32) (0 : Int32) (0 : Int32) h13) fun _ h23 =>
(ck h23 l0 3
(nm (l1 + (-1 : Int32)) fun v25 =>
(k5 (v25, (sI h23 l0 2 ((gI h23 l0 2) - (1 : Int32)))))))))))))
else
(f_X3_endFactor_70 l0 h8)))
else
(f_X3_endFactor_70 l0 h8)))))
set_option maxRecDepth 20000 in
theorem t_X3_endFactor_5 (l0 : Nat) (l1 : Int32) (h : Hp) (k5 : (Int32 × Hp) → Option (Unit × Hp)) (hk5 : ∀ s : Int32 × Hp, Sm rvV g_X3_endFactor 5 [.ref l0, .int s.1] [] s.2 (k5 s)) : Sm rvV g_X3_endFactor 5 [.ref l0, .int l1] [] h (f_X3_endFactor_5 k5 l0 l1 h) := by
  unfold f_X3_endFactor_5
  refine Sm.iload_n dX3_endFactor_5 rfl rfl rfl ?_
  refine Sm.if_le (t := 70) dX3_endFactor_6 (by decide) rfl (fun b3 => ?_) (fun b3 => ?_)
  · exact Sm.wk (t_X3_endFactor_70 l0 h) ⟨Or.inr rfl, Or.inl rfl, trivial⟩
  · refine Sm.aload_n dX3_endFactor_9 rfl rfl rfl ?_
    refine Sm.ck (fun o6 => ?_)
    refine kc_X3_118 o6 dX3_endFactor_10 rfl (Nat.le_of_ble_eq_true rfl) (Nat.le_of_ble_eq_true rfl) rfl (fun v7 h8 => ?_)
    refine Sm.iconst dX3_endFactor_13 ic_3 rfl ?_
    refine Sm.icmp_ne (t := 70) dX3_endFactor_14 (by decide) rfl (fun b9 => ?_) (fun b9 => ?_)
    · refine Sm.aload_n dX3_endFactor_17 rfl rfl rfl ?_
      refine Sm.ck (fun o10 => ?_)
      refine gf_X3_45 o10 dX3_endFactor_18 rfl rfl ?_
      refine Sm.iconst dX3_endFactor_21 ic_m1 rfl ?_
      refine Sm.icmp_ne (t := 70) dX3_endFactor_22 (by decide) rfl (fun b11 => ?_) (fun b11 => ?_)
      · refine Sm.aload_n dX3_endFactor_25 rfl rfl rfl ?_
        refine kc_X3_75 o10 dX3_endFactor_26 rfl (Nat.le_of_ble_eq_true rfl) (Nat.le_of_ble_eq_true rfl) rfl (fun v12 h13 => ?_)
        refine Sm.if_eq (t := 56) dX3_endFactor_29 (by decide) rfl (fun b14 => ?_) (fun b14 => ?_)
        · refine Sm.aload_n dX3_endFactor_56 rfl rfl rfl ?_
          refine Sm.aload_n dX3_endFactor_57 rfl rfl rfl ?_
          refine Sm.ck (fun o15 => ?_)
          refine kc_X3_122 o15 dX3_endFactor_58 rfl (Nat.le_of_ble_eq_true rfl) (Nat.le_of_ble_eq_true rfl) rfl (fun v16 h17 => ?_)
          refine Sm.ck (fun o18 => ?_)
          refine pf_X3_45 o18 dX3_endFactor_61 rfl rfl ?_
          refine Sm.iinc (lv' := [.ref l0, .int (l1 + (-1 : Int32))]) dX3_endFactor_64 rfl ic_m1 rfl rfl ?_
          refine Sm.nm (LV := fun v19 => [.ref l0, .int v19]) (ST := fun v19 => []) (fun v19 => ?_)
          refine Sm.goto (t := 5) dX3_endFactor_67 (by decide) ?_
          exact Sm.wk (hk5 (v19, (sI h17 l0 9 v16))) ⟨Or.inr rfl, Or.inr rfl, trivial⟩
        · refine Sm.aload_n dX3_endFactor_32 rfl rfl rfl ?_
          refine Sm.ck (fun o20 => ?_)
          refine gf_X3_32 o20 dX3_endFactor_33 rfl rfl (fun v21 => ?_)
          refine Sm.bipush dX3_endFactor_36 bp_7 rfl ?_
          refine Sm.iconst dX3_endFactor_38 ic_0 rfl ?_
          refine Sm.iconst dX3_endFactor_39 ic_0 rfl ?_
          refine Sm.ck (fun o22 => ?_)
          refine kc_X3_106 o22 dX3_endFactor_40 rfl (Nat.le_of_ble_eq_true rfl) (Nat.le_of_ble_eq_true rfl) rfl (fun _ h23 => ?_)
          refine Sm.aload_n dX3_endFactor_43 rfl rfl rfl ?_
          refine Sm.dup dX3_endFactor_44 rfl rfl ?_
          refine Sm.ck (fun o24 => ?_)
          refine gf_X3_18 o24 dX3_endFactor_45 rfl rfl ?_
          refine Sm.iconst dX3_endFactor_48 ic_1 rfl ?_
          refine Sm.isub dX3_endFactor_49 rfl ?_
          refine pf_X3_18 o24 dX3_endFactor_50 rfl rfl ?_
          refine Sm.goto (t := 64) dX3_endFactor_53 (by decide) ?_
          refine Sm.iinc (lv' := [.ref l0, .int (l1 + (-1 : Int32))]) dX3_endFactor_64 rfl ic_m1 rfl rfl ?_
          refine Sm.nm (LV := fun v25 => [.ref l0, .int v25]) (ST := fun v25 => []) (fun v25 => ?_)
          refine Sm.goto (t := 5) dX3_endFactor_67 (by decide) ?_
          exact Sm.wk (hk5 (v25, (sI h23 l0 2 ((gI h23 l0 2) - (1 : Int32))))) ⟨Or.inr rfl, Or.inr rfl, trivial⟩
      · exact Sm.wk (t_X3_endFactor_70 l0 h8) ⟨Or.inr rfl, Or.inl rfl, trivial⟩
    · exact Sm.wk (t_X3_endFactor_70 l0 h8) ⟨Or.inr rfl, Or.inl rfl, trivial⟩
def f_X3_endFactor (l0 : Nat) (h : Hp) : Option (Unit × Hp) :=
  (ck h l0 3
(nm (gI h l0 2) fun v2 =>
(loopN (fun k s => f_X3_endFactor_5 k l0 s.1 s.2) 5000 (v2, h))))
set_option maxRecDepth 20000 in
theorem t_X3_endFactor (l0 : Nat) (h : Hp) : Sm rvV g_X3_endFactor 0 (ent 2 [.ref l0]) [] h (f_X3_endFactor l0 h) := by
  show Sm rvV g_X3_endFactor 0 [.ref l0, .null] [] h _
  unfold f_X3_endFactor
  refine Sm.aload_n dX3_endFactor_0 rfl rfl rfl ?_
  refine Sm.ck (fun o1 => ?_)
  refine gf_X3_18 o1 dX3_endFactor_1 rfl rfl ?_
  refine Sm.nm (LV := fun v2 => [.ref l0, .null]) (ST := fun v2 => [.int v2]) (fun v2 => ?_)
  refine Sm.istore_n (lv' := [.ref l0, .int v2]) dX3_endFactor_4 rfl (Nat.le_of_ble_eq_true rfl) rfl rfl ?_
  exact Sm.wk (Sm.loop (σ := Int32 × Hp) (LV := fun s => [.ref l0, .int s.1]) (HH := fun s => s.2) (fun k hk s => t_X3_endFactor_5 l0 s.1 s.2 k hk) 5000 (v2, h)) ⟨Or.inr rfl, Or.inr rfl, trivial⟩
set_option maxRecDepth 20000 in
theorem kc_X3_69 {ρ : Type} {rv : ρ → Option Value} {G : Gx} {pc q : Nat} {lv st : List Value} {h : Hp} {a : Nat} {e : Unit → Hp → Option (ρ × Hp)} (hk : isO h a 3) (d : decode G.2.1 pc = .ok (.invokevirtual 69, 3)) (ho : G.1.cls = RX3) (hdep : (g_X3_endFactor).2.2.2.2 < G.2.2.2.2) (hcat : catS st ≤ 8) (hq : pc + 3 = q) (k : ∀ r h1, Sm rv G q lv (st) h1 (e r h1)) : Sm rv G pc lv (.ref a :: st) h (bd (f_X3_endFactor a h) e) :=
  Sm.callV (rv' := rvV) (args := []) (n := 0) (t_X3_endFactor a h) hk (by decide) (r := (RX3, TX3, 10)) rfl rfl ho mw_337 mw_339 mp_10 mw_4 mw_340 ⟨⟨by decide, rfl, hdep, Nat.le_of_ble_eq_true rfl⟩, Nat.le_of_ble_eq_true rfl, rfl, ⟨by decide, by decide⟩, hcat⟩ (by decide +kernel) (fun v hv => by cases hv) d hq k rfl
abbrev g_X3_endUnion : Gx := (yX3_endUnion, cX3_endUnion, 1, (Option.none : Option FieldType), 3)
def f_X3_endUnion (l0 : Nat) (h : Hp) : Option (Unit × Hp) :=
  (ck h l0 3
(bd (f_X3_endPair l0 (1 : Int32) (4 : Int32) h) fun _ h2 =>
(ck h2 l0 3
(if (gI h2 l0 9) = (-1 : Int32) then
(bd (f_X3_innermost l0 h2) fun v5 h6 =>
(if v5 = (5 : Int32) then
(ck h6 l0 3
(bd (f_X3_topIsPredicate l0 h6) fun v9 h10 =>
(if v9 = 0 then
(ck h10 l0 3
(bd (f_X3_innermostBegin l0 h10) fun v13 h14 =>
(ck h14 l0 3
(some ((), (sI h14 l0 9 v13))))))
else
(some ((), h10)))))
else
(some ((), h6))))
else
(some ((), h2))))))
set_option maxRecDepth 20000 in
theorem t_X3_endUnion (l0 : Nat) (h : Hp) : Sm rvV g_X3_endUnion 0 (ent 1 [.ref l0]) [] h (f_X3_endUnion l0 h) := by
  show Sm rvV g_X3_endUnion 0 [.ref l0] [] h _
  unfold f_X3_endUnion
  refine Sm.aload_n dX3_endUnion_0 rfl rfl rfl ?_
  refine Sm.iconst dX3_endUnion_1 ic_1 rfl ?_
  refine Sm.iconst dX3_endUnion_2 ic_4 rfl ?_
  refine Sm.ck (fun o1 => ?_)
  refine kc_X3_112 o1 dX3_endUnion_3 rfl (Nat.le_of_ble_eq_true rfl) (Nat.le_of_ble_eq_true rfl) rfl (fun _ h2 => ?_)
  refine Sm.aload_n dX3_endUnion_6 rfl rfl rfl ?_
  refine Sm.ck (fun o3 => ?_)
  refine gf_X3_45 o3 dX3_endUnion_7 rfl rfl ?_
  refine Sm.iconst dX3_endUnion_10 ic_m1 rfl ?_
  refine Sm.icmp_ne (t := 37) dX3_endUnion_11 (by decide) rfl (fun b4 => ?_) (fun b4 => ?_)
  · refine Sm.aload_n dX3_endUnion_14 rfl rfl rfl ?_
    refine kc_X3_118 o3 dX3_endUnion_15 rfl (Nat.le_of_ble_eq_true rfl) (Nat.le_of_ble_eq_true rfl) rfl (fun v5 h6 => ?_)
    refine Sm.iconst dX3_endUnion_18 ic_5 rfl ?_
    refine Sm.icmp_ne (t := 37) dX3_endUnion_19 (by decide) rfl (fun b7 => ?_) (fun b7 => ?_)
    · refine Sm.aload_n dX3_endUnion_22 rfl rfl rfl ?_
      refine Sm.ck (fun o8 => ?_)
      refine kc_X3_75 o8 dX3_endUnion_23 rfl (Nat.le_of_ble_eq_true rfl) (Nat.le_of_ble_eq_true rfl) rfl (fun v9 h10 => ?_)
      refine Sm.if_ne (t := 37) dX3_endUnion_26 (by decide) rfl (fun b11 => ?_) (fun b11 => ?_)
      · refine Sm.aload_n dX3_endUnion_29 rfl rfl rfl ?_
        refine Sm.aload_n dX3_endUnion_30 rfl rfl rfl ?_
        refine Sm.ck (fun o12 => ?_)
        refine kc_X3_122 o12 dX3_endUnion_31 rfl (Nat.le_of_ble_eq_true rfl) (Nat.le_of_ble_eq_true rfl) rfl (fun v13 h14 => ?_)
        refine Sm.ck (fun o15 => ?_)
        refine pf_X3_45 o15 dX3_endUnion_34 rfl rfl ?_
        exact Sm.ret (r := ()) dX3_endUnion_37 trivial rfl
      · exact Sm.ret (r := ()) dX3_endUnion_37 trivial rfl
    · exact Sm.ret (r := ()) dX3_endUnion_37 trivial rfl
  · exact Sm.ret (r := ()) dX3_endUnion_37 trivial rfl
set_option maxRecDepth 20000 in
theorem kc_X3_72 {ρ : Type} {rv : ρ → Option Value} {G : Gx} {pc q : Nat} {lv st : List Value} {h : Hp} {a : Nat} {e : Unit → Hp → Option (ρ × Hp)} (hk : isO h a 3) (d : decode G.2.1 pc = .ok (.invokevirtual 72, 3)) (ho : G.1.cls = RX3) (hdep : (g_X3_endUnion).2.2.2.2 < G.2.2.2.2) (hcat : catS st ≤ 8) (hq : pc + 3 = q) (k : ∀ r h1, Sm rv G q lv (st) h1 (e r h1)) : Sm rv G pc lv (.ref a :: st) h (bd (f_X3_endUnion a h) e) :=
  Sm.callV (rv' := rvV) (args := []) (n := 0) (t_X3_endUnion a h) hk (by decide) (r := (RX3, TX3, 10)) rfl rfl ho mw_353 mw_355 mp_14 mw_4 mw_356 ⟨⟨by decide, rfl, hdep, Nat.le_of_ble_eq_true rfl⟩, Nat.le_of_ble_eq_true rfl, rfl, ⟨by decide, by decide⟩, hcat⟩ (by decide +kernel) (fun v hv => by cases hv) d hq k rfl
abbrev g_X3_endChoice : Gx := (yX3_endChoice, cX3_endChoice, 3, (Option.none : Option FieldType), 2)
def f_X3_endChoice_40 (s0 : Nat) (s1 : Int32) (h : Hp) : Option (Unit × Hp) :=
  (ck h s0 3
(bd (f_X3_pushOperand s0 s1 h) fun _ h16 =>
(some ((), h16))))
set_option maxRecDepth 20000 in
theorem t_X3_endChoice_40 (s0 : Nat) (s1 : Int32) (h : Hp) : Sm rvV g_X3_endChoice 40 [.null, .null, .null] [.int s1, .ref s0] h (f_X3_endChoice_40 s0 s1 h) := by
  unfold f_X3_endChoice_40
  refine Sm.ck (fun o15 => ?_)
  refine kc_X3_103 o15 dX3_endChoice_40 rfl (Nat.le_of_ble_eq_true rfl) (Nat.le_of_ble_eq_true rfl) rfl (fun _ h16 => ?_)
  exact Sm.ret (r := ()) dX3_endChoice_43 trivial rfl
def f_X3_endChoice_39 (s0 : Nat) (h : Hp) : Option (Unit × Hp) :=
  (f_X3_endChoice_40 s0 (0 : Int32) h)
set_option maxRecDepth 20000 in
theorem t_X3_endChoice_39 (s0 : Nat) (h : Hp) : Sm rvV g_X3_endChoice 39 [.null, .null, .null] [.ref s0] h (f_X3_endChoice_39 s0 h) := by
  unfold f_X3_endChoice_39
  refine Sm.iconst dX3_endChoice_39 ic_0 rfl ?_
  exact Sm.wk (t_X3_endChoice_40 s0 (0 : Int32) h) ⟨Or.inl rfl, Or.inl rfl, Or.inl rfl, trivial⟩
def f_X3_endChoice (l0 : Nat) (h : Hp) : Option (Unit × Hp) :=
  (ck h l0 3
((gP h l0 5).bind fun v2 =>
(ck h v2 4
(bd (f_X4_add v2 (8 : Int32) (0 : Int32) (0 : Int32) h) fun _ h4 =>
(ck h4 l0 3
(bd (f_X3_popOperand l0 h4) fun v6 h7 =>
(ck h7 l0 3
(bd (f_X3_popOperand l0 h7) fun v9 h10 =>
(ck h10 l0 3
(bd (f_X3_popOperand l0 h10) fun v12 h13 =>
(if v9 = 0 then
(f_X3_endChoice_39 l0 h13)
else
(if v6 = 0 then
(f_X3_endChoice_39 l0 h13)
else
(f_X3_endChoice_40 l0 (1 : Int32) h13)))))))))))))
set_option maxRecDepth 20000 in
theorem t_X3_endChoice (l0 : Nat) (h : Hp) : Sm rvV g_X3_endChoice 0 (ent 3 [.ref l0]) [] h (f_X3_endChoice l0 h) := by
  show Sm rvV g_X3_endChoice 0 [.ref l0, .null, .null] [] h _
  unfold f_X3_endChoice
  refine Sm.aload_n dX3_endChoice_0 rfl rfl rfl ?_
  refine Sm.ck (fun o1 => ?_)
  refine gf_X3_32 o1 dX3_endChoice_1 rfl rfl (fun v2 => ?_)
  refine Sm.bipush dX3_endChoice_4 bp_8 rfl ?_
  refine Sm.iconst dX3_endChoice_6 ic_0 rfl ?_
  refine Sm.iconst dX3_endChoice_7 ic_0 rfl ?_
  refine Sm.ck (fun o3 => ?_)
  refine kc_X3_106 o3 dX3_endChoice_8 rfl (Nat.le_of_ble_eq_true rfl) (Nat.le_of_ble_eq_true rfl) rfl (fun _ h4 => ?_)
  refine Sm.aload_n dX3_endChoice_11 rfl rfl rfl ?_
  refine Sm.ck (fun o5 => ?_)
  refine kc_X3_109 o5 dX3_endChoice_12 rfl (Nat.le_of_ble_eq_true rfl) (Nat.le_of_ble_eq_true rfl) rfl (fun v6 h7 => ?_)
  refine Sm.istore_n (lv' := [.ref l0, .int v6, .null]) dX3_endChoice_15 rfl (Nat.le_of_ble_eq_true rfl) rfl rfl ?_
  refine Sm.aload_n dX3_endChoice_16 rfl rfl rfl ?_
  refine Sm.ck (fun o8 => ?_)
  refine kc_X3_109 o8 dX3_endChoice_17 rfl (Nat.le_of_ble_eq_true rfl) (Nat.le_of_ble_eq_true rfl) rfl (fun v9 h10 => ?_)
  refine Sm.istore_n (lv' := [.ref l0, .int v6, .int v9]) dX3_endChoice_20 rfl (Nat.le_of_ble_eq_true rfl) rfl rfl ?_
  refine Sm.aload_n dX3_endChoice_21 rfl rfl rfl ?_
  refine Sm.ck (fun o11 => ?_)
  refine kc_X3_109 o11 dX3_endChoice_22 rfl (Nat.le_of_ble_eq_true rfl) (Nat.le_of_ble_eq_true rfl) rfl (fun v12 h13 => ?_)
  refine Sm.pop dX3_endChoice_25 rfl rfl ?_
  refine Sm.aload_n dX3_endChoice_26 rfl rfl rfl ?_
  refine Sm.iload_n dX3_endChoice_27 rfl rfl rfl ?_
  refine Sm.if_eq (t := 39) dX3_endChoice_28 (by decide) rfl (fun b14 => ?_) (fun b14 => ?_)
  · exact Sm.wk (t_X3_endChoice_39 l0 h13) ⟨Or.inl rfl, Or.inl rfl, Or.inl rfl, trivial⟩
  · refine Sm.iload_n dX3_endChoice_31 rfl rfl rfl ?_
    refine Sm.if_eq (t := 39) dX3_endChoice_32 (by decide) rfl (fun b17 => ?_) (fun b17 => ?_)
    · exact Sm.wk (t_X3_endChoice_39 l0 h13) ⟨Or.inl rfl, Or.inl rfl, Or.inl rfl, trivial⟩
    · refine Sm.iconst dX3_endChoice_35 ic_1 rfl ?_
      refine Sm.goto (t := 40) dX3_endChoice_36 (by decide) ?_
      exact Sm.wk (t_X3_endChoice_40 l0 (1 : Int32) h13) ⟨Or.inl rfl, Or.inl rfl, Or.inl rfl, trivial⟩
set_option maxRecDepth 20000 in
theorem kc_X3_125 {ρ : Type} {rv : ρ → Option Value} {G : Gx} {pc q : Nat} {lv st : List Value} {h : Hp} {a : Nat} {e : Unit → Hp → Option (ρ × Hp)} (hk : isO h a 3) (d : decode G.2.1 pc = .ok (.invokevirtual 125, 3)) (ho : G.1.cls = RX3) (hdep : (g_X3_endChoice).2.2.2.2 < G.2.2.2.2) (hcat : catS st ≤ 8) (hq : pc + 3 = q) (k : ∀ r h1, Sm rv G q lv (st) h1 (e r h1)) : Sm rv G pc lv (.ref a :: st) h (bd (f_X3_endChoice a h) e) :=
  Sm.callV (rv' := rvV) (args := []) (n := 0) (t_X3_endChoice a h) hk (by decide) (r := (RX3, TX3, 10)) rfl rfl ho mw_361 mw_363 mp_16 mw_4 mw_364 ⟨⟨by decide, rfl, hdep, Nat.le_of_ble_eq_true rfl⟩, Nat.le_of_ble_eq_true rfl, rfl, ⟨by decide, by decide⟩, hcat⟩ (by decide +kernel) (fun v hv => by cases hv) d hq k rfl
abbrev g_X3_takeBracket : Gx := (yX3_takeBracket, cX3_takeBracket, 4, (Option.none : Option FieldType), 3)
def f_X3_takeBracket_92 (l0 : Nat) (l1 : Int32) (l2 : Int32) (l3 : Int32) (h : Hp) : Option (Unit × Hp) :=
  (if l1 = (93 : Int32) then
(if l3 = (7 : Int32) then
(ck h l0 3
(bd (f_X3_endChoice l0 (sI h l0 2 ((gI h l0 2) - (1 : Int32)))) fun _ h18 =>
(some ((), h18))))
else
(ck h l0 3
(some ((), (sI h l0 9 l2)))))
else
(ck h l0 3
(some ((), (sI h l0 9 l2)))))
set_option maxRecDepth 20000 in
theorem t_X3_takeBracket_92 (l0 : Nat) (l1 : Int32) (l2 : Int32) (l3 : Int32) (h : Hp) : Sm rvV g_X3_takeBracket 92 [.ref l0, .int l1, .int l2, .int l3] [] h (f_X3_takeBracket_92 l0 l1 l2 l3 h) := by
  unfold f_X3_takeBracket_92
  refine Sm.iload_n dX3_takeBracket_92 rfl rfl rfl ?_
  refine Sm.bipush dX3_takeBracket_93 bp_93 rfl ?_
  refine Sm.icmp_ne (t := 121) dX3_takeBracket_95 (by decide) rfl (fun b15 => ?_) (fun b15 => ?_)
  · refine Sm.iload_n dX3_takeBracket_98 rfl rfl rfl ?_
    refine Sm.bipush dX3_takeBracket_99 bp_7 rfl ?_
    refine Sm.icmp_ne (t := 121) dX3_takeBracket_101 (by decide) rfl (fun b16 => ?_) (fun b16 => ?_)
    · refine Sm.aload_n dX3_takeBracket_104 rfl rfl rfl ?_
      refine Sm.dup dX3_takeBracket_105 rfl rfl ?_
      refine Sm.ck (fun o17 => ?_)
      refine gf_X3_18 o17 dX3_takeBracket_106 rfl rfl ?_
      refine Sm.iconst dX3_takeBracket_109 ic_1 rfl ?_
      refine Sm.isub dX3_takeBracket_110 rfl ?_
      refine pf_X3_18 o17 dX3_takeBracket_111 rfl rfl ?_
      refine Sm.aload_n dX3_takeBracket_114 rfl rfl rfl ?_
      refine kc_X3_125 o17 dX3_takeBracket_115 rfl (Nat.le_of_ble_eq_true rfl) (Nat.le_of_ble_eq_true rfl) rfl (fun _ h18 => ?_)
      refine Sm.goto (t := 126) dX3_takeBracket_118 (by decide) ?_
      exact Sm.ret (r := ()) dX3_takeBracket_126 trivial rfl
    · refine Sm.aload_n dX3_takeBracket_121 rfl rfl rfl ?_
      refine Sm.iload_n dX3_takeBracket_122 rfl rfl rfl ?_
      refine Sm.ck (fun o19 => ?_)
      refine pf_X3_45 o19 dX3_takeBracket_123 rfl rfl ?_
      exact Sm.ret (r := ()) dX3_takeBracket_126 trivial rfl
  · refine Sm.aload_n dX3_takeBracket_121 rfl rfl rfl ?_
    refine Sm.iload_n dX3_takeBracket_122 rfl rfl rfl ?_
    refine Sm.ck (fun o20 => ?_)
    refine pf_X3_45 o20 dX3_takeBracket_123 rfl rfl ?_
    exact Sm.ret (r := ()) dX3_takeBracket_126 trivial rfl
def f_X3_takeBracket_60 (l0 : Nat) (l1 : Int32) (l2 : Int32) (l3 : Int32) (h : Hp) : Option (Unit × Hp) :=
  (if l1 = (124 : Int32) then
(if l3 = (6 : Int32) then
(ck h l0 3
(bd (f_X3_open l0 (7 : Int32) l2 (sI h l0 2 ((gI h l0 2) - (1 : Int32)))) fun _ h14 =>
(some ((), h14))))
else
(f_X3_takeBracket_92 l0 l1 l2 l3 h))
else
(f_X3_takeBracket_92 l0 l1 l2 l3 h))
set_option maxRecDepth 20000 in
theorem t_X3_takeBracket_60 (l0 : Nat) (l1 : Int32) (l2 : Int32) (l3 : Int32) (h : Hp) : Sm rvV g_X3_takeBracket 60 [.ref l0, .int l1, .int l2, .int l3] [] h (f_X3_takeBracket_60 l0 l1 l2 l3 h) := by
  unfold f_X3_takeBracket_60
  refine Sm.iload_n dX3_takeBracket_60 rfl rfl rfl ?_
  refine Sm.bipush dX3_takeBracket_61 bp_124 rfl ?_
  refine Sm.icmp_ne (t := 92) dX3_takeBracket_63 (by decide) rfl (fun b11 => ?_) (fun b11 => ?_)
  · refine Sm.iload_n dX3_takeBracket_66 rfl rfl rfl ?_
    refine Sm.bipush dX3_takeBracket_67 bp_6 rfl ?_
    refine Sm.icmp_ne (t := 92) dX3_takeBracket_69 (by decide) rfl (fun b12 => ?_) (fun b12 => ?_)
    · refine Sm.aload_n dX3_takeBracket_72 rfl rfl rfl ?_
      refine Sm.dup dX3_takeBracket_73 rfl rfl ?_
      refine Sm.ck (fun o13 => ?_)
      refine gf_X3_18 o13 dX3_takeBracket_74 rfl rfl ?_
      refine Sm.iconst dX3_takeBracket_77 ic_1 rfl ?_
      refine Sm.isub dX3_takeBracket_78 rfl ?_
      refine pf_X3_18 o13 dX3_takeBracket_79 rfl rfl ?_
      refine Sm.aload_n dX3_takeBracket_82 rfl rfl rfl ?_
      refine Sm.bipush dX3_takeBracket_83 bp_7 rfl ?_
      refine Sm.iload_n dX3_takeBracket_85 rfl rfl rfl ?_
      refine kc_X3_83 o13 dX3_takeBracket_86 rfl (Nat.le_of_ble_eq_true rfl) (Nat.le_of_ble_eq_true rfl) rfl (fun _ h14 => ?_)
      refine Sm.goto (t := 126) dX3_takeBracket_89 (by decide) ?_
      exact Sm.ret (r := ()) dX3_takeBracket_126 trivial rfl
    · exact Sm.wk (t_X3_takeBracket_92 l0 l1 l2 l3 h) ⟨Or.inr rfl, Or.inr rfl, Or.inr rfl, Or.inr rfl, trivial⟩
  · exact Sm.wk (t_X3_takeBracket_92 l0 l1 l2 l3 h) ⟨Or.inr rfl, Or.inr rfl, Or.inr rfl, Or.inr rfl, trivial⟩
def f_X3_takeBracket_29 (l0 : Nat) (l1 : Int32) (l2 : Int32) (l3 : Int32) (h : Hp) : Option (Unit × Hp) :=
  (if l1 = (63 : Int32) then
(if l3 = (5 : Int32) then
(ck h l0 3
(bd (f_X3_open l0 (6 : Int32) l2 (sI h l0 2 ((gI h l0 2) - (1 : Int32)))) fun _ h10 =>
(some ((), h10))))
else
(f_X3_takeBracket_60 l0 l1 l2 l3 h))
else
(f_X3_takeBracket_60 l0 l1 l2 l3 h))
set_option maxRecDepth 20000 in
theorem t_X3_takeBracket_29 (l0 : Nat) (l1 : Int32) (l2 : Int32) (l3 : Int32) (h : Hp) : Sm rvV g_X3_takeBracket 29 [.ref l0, .int l1, .int l2, .int l3] [] h (f_X3_takeBracket_29 l0 l1 l2 l3 h) := by
  unfold f_X3_takeBracket_29
  refine Sm.iload_n dX3_takeBracket_29 rfl rfl rfl ?_
  refine Sm.bipush dX3_takeBracket_30 bp_63 rfl ?_
  refine Sm.icmp_ne (t := 60) dX3_takeBracket_32 (by decide) rfl (fun b7 => ?_) (fun b7 => ?_)
  · refine Sm.iload_n dX3_takeBracket_35 rfl rfl rfl ?_
    refine Sm.iconst dX3_takeBracket_36 ic_5 rfl ?_
    refine Sm.icmp_ne (t := 60) dX3_takeBracket_37 (by decide) rfl (fun b8 => ?_) (fun b8 => ?_)
    · refine Sm.aload_n dX3_takeBracket_40 rfl rfl rfl ?_
      refine Sm.dup dX3_takeBracket_41 rfl rfl ?_
      refine Sm.ck (fun o9 => ?_)
      refine gf_X3_18 o9 dX3_takeBracket_42 rfl rfl ?_
      refine Sm.iconst dX3_takeBracket_45 ic_1 rfl ?_
      refine Sm.isub dX3_takeBracket_46 rfl ?_
      refine pf_X3_18 o9 dX3_takeBracket_47 rfl rfl ?_
      refine Sm.aload_n dX3_takeBracket_50 rfl rfl rfl ?_
      refine Sm.bipush dX3_takeBracket_51 bp_6 rfl ?_
      refine Sm.iload_n dX3_takeBracket_53 rfl rfl rfl ?_
      refine kc_X3_83 o9 dX3_takeBracket_54 rfl (Nat.le_of_ble_eq_true rfl) (Nat.le_of_ble_eq_true rfl) rfl (fun _ h10 => ?_)
      refine Sm.goto (t := 126) dX3_takeBracket_57 (by decide) ?_
      exact Sm.ret (r := ()) dX3_takeBracket_126 trivial rfl
    · exact Sm.wk (t_X3_takeBracket_60 l0 l1 l2 l3 h) ⟨Or.inr rfl, Or.inr rfl, Or.inr rfl, Or.inr rfl, trivial⟩
  · exact Sm.wk (t_X3_takeBracket_60 l0 l1 l2 l3 h) ⟨Or.inr rfl, Or.inr rfl, Or.inr rfl, Or.inr rfl, trivial⟩
def f_X3_takeBracket (l0 : Nat) (l1 : Int32) (l2 : Int32) (h : Hp) : Option (Unit × Hp) :=
  (ck h l0 3
(bd (f_X3_innermost l0 h) fun v2 h3 =>
(if l1 = (41 : Int32) then
(if v2 = (4 : Int32) then
(ck h3 l0 3
(some ((), (sI h3 l0 2 ((gI h3 l0 2) - (1 : Int32))))))
else
(f_X3_takeBracket_29 l0 l1 l2 v2 h3))
else
(f_X3_takeBracket_29 l0 l1 l2 v2 h3))))
set_option maxRecDepth 20000 in
theorem t_X3_takeBracket (l0 : Nat) (l1 : Int32) (l2 : Int32) (h : Hp) : Sm rvV g_X3_takeBracket 0 (ent 4 [.ref l0, .int l1, .int l2]) [] h (f_X3_takeBracket l0 l1 l2 h) := by
  show Sm rvV g_X3_takeBracket 0 [.ref l0, .int l1, .int l2, .null] [] h _
  unfold f_X3_takeBracket
  refine Sm.aload_n dX3_takeBracket_0 rfl rfl rfl ?_
  refine Sm.ck (fun o1 => ?_)
  refine kc_X3_118 o1 dX3_takeBracket_1 rfl (Nat.le_of_ble_eq_true rfl) (Nat.le_of_ble_eq_true rfl) rfl (fun v2 h3 => ?_)
  refine Sm.istore_n (lv' := [.ref l0, .int l1, .int l2, .int v2]) dX3_takeBracket_4 rfl (Nat.le_of_ble_eq_true rfl) rfl rfl ?_
  refine Sm.iload_n dX3_takeBracket_5 rfl rfl rfl ?_
  refine Sm.bipush dX3_takeBracket_6 bp_41 rfl ?_
  refine Sm.icmp_ne (t := 29) dX3_takeBracket_8 (by decide) rfl (fun b4 => ?_) (fun b4 => ?_)
  · refine Sm.iload_n dX3_takeBracket_11 rfl rfl rfl ?_
    refine Sm.iconst dX3_takeBracket_12 ic_4 rfl ?_
    refine Sm.icmp_ne (t := 29) dX3_takeBracket_13 (by decide) rfl (fun b5 => ?_) (fun b5 => ?_)
    · refine Sm.aload_n dX3_takeBracket_16 rfl rfl rfl ?_
      refine Sm.dup dX3_takeBracket_17 rfl rfl ?_
      refine Sm.ck (fun o6 => ?_)
      refine gf_X3_18 o6 dX3_takeBracket_18 rfl rfl ?_
      refine Sm.iconst dX3_takeBracket_21 ic_1 rfl ?_
      refine Sm.isub dX3_takeBracket_22 rfl ?_
      refine pf_X3_18 o6 dX3_takeBracket_23 rfl rfl ?_
      refine Sm.goto (t := 126) dX3_takeBracket_26 (by decide) ?_
      exact Sm.ret (r := ()) dX3_takeBracket_126 trivial rfl
    · exact Sm.wk (t_X3_takeBracket_29 l0 l1 l2 v2 h3) ⟨Or.inr rfl, Or.inr rfl, Or.inr rfl, Or.inr rfl, trivial⟩
  · exact Sm.wk (t_X3_takeBracket_29 l0 l1 l2 v2 h3) ⟨Or.inr rfl, Or.inr rfl, Or.inr rfl, Or.inr rfl, trivial⟩
set_option maxRecDepth 20000 in
theorem kc_X3_115 {ρ : Type} {rv : ρ → Option Value} {G : Gx} {pc q : Nat} {lv st : List Value} {h : Hp} {a : Nat} {x1 : Int32} {x2 : Int32} {e : Unit → Hp → Option (ρ × Hp)} (hk : isO h a 3) (d : decode G.2.1 pc = .ok (.invokevirtual 115, 3)) (ho : G.1.cls = RX3) (hdep : (g_X3_takeBracket).2.2.2.2 < G.2.2.2.2) (hcat : catS st ≤ 8) (hq : pc + 3 = q) (k : ∀ r h1, Sm rv G q lv (st) h1 (e r h1)) : Sm rv G pc lv (.int x2 :: .int x1 :: .ref a :: st) h (bd (f_X3_takeBracket a x1 x2 h) e) :=
  Sm.callV (rv' := rvV) (args := [.int x1, .int x2]) (n := 2) (t_X3_takeBracket a x1 x2 h) hk (by decide) (r := (RX3, TX3, 10)) rfl rfl ho mw_357 mw_359 mp_15 mw_4 mw_360 ⟨⟨by decide, rfl, hdep, Nat.le_of_ble_eq_true rfl⟩, Nat.le_of_ble_eq_true rfl, rfl, ⟨by decide, by decide⟩, hcat⟩ (by decide +kernel) (by intro v hv; simp only [List.mem_cons, List.not_mem_nil, or_false] at hv; rcases hv with rfl | rfl <;> intro x hx <;> cases hx) d hq k rfl
abbrev g_X3_takeBehindAtom : Gx := (yX3_takeBehindAtom, cX3_takeBehindAtom, 3, (Option.none : Option FieldType), 4)
def f_X3_takeBehindAtom_80 (l0 : Nat) (l1 : Int32) (l2 : Int32) (h : Hp) : Option (Unit × Hp) :=
  (ck h l0 3
(bd (f_X3_endUnion l0 h) fun _ h24 =>
(ck h24 l0 3
(if (gI h24 l0 9) = (-1 : Int32) then
(bd (f_X3_takeBracket l0 l1 l2 h24) fun _ h27 =>
(some ((), h27)))
else
(some ((), h24))))))
set_option maxRecDepth 20000 in
theorem t_X3_takeBehindAtom_80 (l0 : Nat) (l1 : Int32) (l2 : Int32) (h : Hp) : Sm rvV g_X3_takeBehindAtom 80 [.ref l0, .int l1, .int l2] [] h (f_X3_takeBehindAtom_80 l0 l1 l2 h) := by
  unfold f_X3_takeBehindAtom_80
  refine Sm.aload_n dX3_takeBehindAtom_80 rfl rfl rfl ?_
  refine Sm.ck (fun o23 => ?_)
  refine kc_X3_72 o23 dX3_takeBehindAtom_81 rfl (Nat.le_of_ble_eq_true rfl) (Nat.le_of_ble_eq_true rfl) rfl (fun _ h24 => ?_)
  refine Sm.aload_n dX3_takeBehindAtom_84 rfl rfl rfl ?_
  refine Sm.ck (fun o25 => ?_)
  refine gf_X3_45 o25 dX3_takeBehindAtom_85 rfl rfl ?_
  refine Sm.iconst dX3_takeBehindAtom_88 ic_m1 rfl ?_
  refine Sm.icmp_ne (t := 98) dX3_takeBehindAtom_89 (by decide) rfl (fun b26 => ?_) (fun b26 => ?_)
  · refine Sm.aload_n dX3_takeBehindAtom_92 rfl rfl rfl ?_
    refine Sm.iload_n dX3_takeBehindAtom_93 rfl rfl rfl ?_
    refine Sm.iload_n dX3_takeBehindAtom_94 rfl rfl rfl ?_
    refine kc_X3_115 o25 dX3_takeBehindAtom_95 rfl (Nat.le_of_ble_eq_true rfl) (Nat.le_of_ble_eq_true rfl) rfl (fun _ h27 => ?_)
    exact Sm.ret (r := ()) dX3_takeBehindAtom_98 trivial rfl
  · exact Sm.ret (r := ()) dX3_takeBehindAtom_98 trivial rfl
def f_X3_takeBehindAtom_53 (l0 : Nat) (l1 : Int32) (l2 : Int32) (h : Hp) : Option (Unit × Hp) :=
  (ck h l0 3
(bd (f_X3_endPair l0 (1 : Int32) (4 : Int32) h) fun _ h18 =>
(if l1 = (43 : Int32) then
(ck h18 l0 3
(if (gI h18 l0 9) = (-1 : Int32) then
(bd (f_X3_open l0 (1 : Int32) l2 h18) fun _ h22 =>
(some ((), h22)))
else
(f_X3_takeBehindAtom_80 l0 l1 l2 h18)))
else
(f_X3_takeBehindAtom_80 l0 l1 l2 h18))))
set_option maxRecDepth 20000 in
theorem t_X3_takeBehindAtom_53 (l0 : Nat) (l1 : Int32) (l2 : Int32) (h : Hp) : Sm rvV g_X3_takeBehindAtom 53 [.ref l0, .int l1, .int l2] [] h (f_X3_takeBehindAtom_53 l0 l1 l2 h) := by
  unfold f_X3_takeBehindAtom_53
  refine Sm.aload_n dX3_takeBehindAtom_53 rfl rfl rfl ?_
  refine Sm.iconst dX3_takeBehindAtom_54 ic_1 rfl ?_
  refine Sm.iconst dX3_takeBehindAtom_55 ic_4 rfl ?_
  refine Sm.ck (fun o17 => ?_)
  refine kc_X3_112 o17 dX3_takeBehindAtom_56 rfl (Nat.le_of_ble_eq_true rfl) (Nat.le_of_ble_eq_true rfl) rfl (fun _ h18 => ?_)
  refine Sm.iload_n dX3_takeBehindAtom_59 rfl rfl rfl ?_
  refine Sm.bipush dX3_takeBehindAtom_60 bp_43 rfl ?_
  refine Sm.icmp_ne (t := 80) dX3_takeBehindAtom_62 (by decide) rfl (fun b19 => ?_) (fun b19 => ?_)
  · refine Sm.aload_n dX3_takeBehindAtom_65 rfl rfl rfl ?_
    refine Sm.ck (fun o20 => ?_)
    refine gf_X3_45 o20 dX3_takeBehindAtom_66 rfl rfl ?_
    refine Sm.iconst dX3_takeBehindAtom_69 ic_m1 rfl ?_
    refine Sm.icmp_ne (t := 80) dX3_takeBehindAtom_70 (by decide) rfl (fun b21 => ?_) (fun b21 => ?_)
    · refine Sm.aload_n dX3_takeBehindAtom_73 rfl rfl rfl ?_
      refine Sm.iconst dX3_takeBehindAtom_74 ic_1 rfl ?_
      refine Sm.iload_n dX3_takeBehindAtom_75 rfl rfl rfl ?_
      refine kc_X3_83 o20 dX3_takeBehindAtom_76 rfl (Nat.le_of_ble_eq_true rfl) (Nat.le_of_ble_eq_true rfl) rfl (fun _ h22 => ?_)
      exact Sm.ret (r := ()) dX3_takeBehindAtom_79 trivial rfl
    · exact Sm.wk (t_X3_takeBehindAtom_80 l0 l1 l2 h18) ⟨Or.inr rfl, Or.inr rfl, Or.inr rfl, trivial⟩
  · exact Sm.wk (t_X3_takeBehindAtom_80 l0 l1 l2 h18) ⟨Or.inr rfl, Or.inr rfl, Or.inr rfl, trivial⟩
def f_X3_takeBehindAtom (l0 : Nat) (l1 : Int32) (l2 : Int32) (h : Hp) : Option (Unit × Hp) :=
  (if l1 = (42 : Int32) then
(ck h l0 3
((gP h l0 5).bind fun v3 =>
(ck h v3 4
(bd (f_X4_add v3 (6 : Int32) (0 : Int32) (0 : Int32) h) fun _ h5 =>
(ck h5 l0 3
(bd (f_X3_popOperand l0 h5) fun v7 h8 =>
(ck h8 l0 3
(bd (f_X3_pushOperand l0 (0 : Int32) h8) fun _ h10 =>
(some ((), h10))))))))))
else
(ck h l0 3
(bd (f_X3_endFactor l0 h) fun _ h12 =>
(if l1 = (46 : Int32) then
(ck h12 l0 3
(if (gI h12 l0 9) = (-1 : Int32) then
(bd (f_X3_open l0 (2 : Int32) l2 h12) fun _ h16 =>
(some ((), h16)))
else
(f_X3_takeBehindAtom_53 l0 l1 l2 h12)))
else
(f_X3_takeBehindAtom_53 l0 l1 l2 h12)))))
set_option maxRecDepth 20000 in
theorem t_X3_takeBehindAtom (l0 : Nat) (l1 : Int32) (l2 : Int32) (h : Hp) : Sm rvV g_X3_takeBehindAtom 0 (ent 3 [.ref l0, .int l1, .int l2]) [] h (f_X3_takeBehindAtom l0 l1 l2 h) := by
  show Sm rvV g_X3_takeBehindAtom 0 [.ref l0, .int l1, .int l2] [] h _
  unfold f_X3_takeBehindAtom
  refine Sm.iload_n dX3_takeBehindAtom_0 rfl rfl rfl ?_
  refine Sm.bipush dX3_takeBehindAtom_1 bp_42 rfl ?_
  refine Sm.icmp_ne (t := 28) dX3_takeBehindAtom_3 (by decide) rfl (fun b1 => ?_) (fun b1 => ?_)
  · refine Sm.aload_n dX3_takeBehindAtom_6 rfl rfl rfl ?_
    refine Sm.ck (fun o2 => ?_)
    refine gf_X3_32 o2 dX3_takeBehindAtom_7 rfl rfl (fun v3 => ?_)
    refine Sm.bipush dX3_takeBehindAtom_10 bp_6 rfl ?_
    refine Sm.iconst dX3_takeBehindAtom_12 ic_0 rfl ?_
    refine Sm.iconst dX3_takeBehindAtom_13 ic_0 rfl ?_
    refine Sm.ck (fun o4 => ?_)
    refine kc_X3_106 o4 dX3_takeBehindAtom_14 rfl (Nat.le_of_ble_eq_true rfl) (Nat.le_of_ble_eq_true rfl) rfl (fun _ h5 => ?_)
    refine Sm.aload_n dX3_takeBehindAtom_17 rfl rfl rfl ?_
    refine Sm.ck (fun o6 => ?_)
    refine kc_X3_109 o6 dX3_takeBehindAtom_18 rfl (Nat.le_of_ble_eq_true rfl) (Nat.le_of_ble_eq_true rfl) rfl (fun v7 h8 => ?_)
    refine Sm.pop dX3_takeBehindAtom_21 rfl rfl ?_
    refine Sm.aload_n dX3_takeBehindAtom_22 rfl rfl rfl ?_
    refine Sm.iconst dX3_takeBehindAtom_23 ic_0 rfl ?_
    refine Sm.ck (fun o9 => ?_)
    refine kc_X3_103 o9 dX3_takeBehindAtom_24 rfl (Nat.le_of_ble_eq_true rfl) (Nat.le_of_ble_eq_true rfl) rfl (fun _ h10 => ?_)
    exact Sm.ret (r := ()) dX3_takeBehindAtom_27 trivial rfl
  · refine Sm.aload_n dX3_takeBehindAtom_28 rfl rfl rfl ?_
    refine Sm.ck (fun o11 => ?_)
    refine kc_X3_69 o11 dX3_takeBehindAtom_29 rfl (Nat.le_of_ble_eq_true rfl) (Nat.le_of_ble_eq_true rfl) rfl (fun _ h12 => ?_)
    refine Sm.iload_n dX3_takeBehindAtom_32 rfl rfl rfl ?_
    refine Sm.bipush dX3_takeBehindAtom_33 bp_46 rfl ?_
    refine Sm.icmp_ne (t := 53) dX3_takeBehindAtom_35 (by decide) rfl (fun b13 => ?_) (fun b13 => ?_)
    · refine Sm.aload_n dX3_takeBehindAtom_38 rfl rfl rfl ?_
      refine Sm.ck (fun o14 => ?_)
      refine gf_X3_45 o14 dX3_takeBehindAtom_39 rfl rfl ?_
      refine Sm.iconst dX3_takeBehindAtom_42 ic_m1 rfl ?_
      refine Sm.icmp_ne (t := 53) dX3_takeBehindAtom_43 (by decide) rfl (fun b15 => ?_) (fun b15 => ?_)
      · refine Sm.aload_n dX3_takeBehindAtom_46 rfl rfl rfl ?_
        refine Sm.iconst dX3_takeBehindAtom_47 ic_2 rfl ?_
        refine Sm.iload_n dX3_takeBehindAtom_48 rfl rfl rfl ?_
        refine kc_X3_83 o14 dX3_takeBehindAtom_49 rfl (Nat.le_of_ble_eq_true rfl) (Nat.le_of_ble_eq_true rfl) rfl (fun _ h16 => ?_)
        exact Sm.ret (r := ()) dX3_takeBehindAtom_52 trivial rfl
      · exact Sm.wk (t_X3_takeBehindAtom_53 l0 l1 l2 h12) ⟨Or.inr rfl, Or.inr rfl, Or.inr rfl, trivial⟩
    · exact Sm.wk (t_X3_takeBehindAtom_53 l0 l1 l2 h12) ⟨Or.inr rfl, Or.inr rfl, Or.inr rfl, trivial⟩
set_option maxRecDepth 20000 in
theorem kc_X3_62 {ρ : Type} {rv : ρ → Option Value} {G : Gx} {pc q : Nat} {lv st : List Value} {h : Hp} {a : Nat} {x1 : Int32} {x2 : Int32} {e : Unit → Hp → Option (ρ × Hp)} (hk : isO h a 3) (d : decode G.2.1 pc = .ok (.invokevirtual 62, 3)) (ho : G.1.cls = RX3) (hdep : (g_X3_takeBehindAtom).2.2.2.2 < G.2.2.2.2) (hcat : catS st ≤ 8) (hq : pc + 3 = q) (k : ∀ r h1, Sm rv G q lv (st) h1 (e r h1)) : Sm rv G pc lv (.int x2 :: .int x1 :: .ref a :: st) h (bd (f_X3_takeBehindAtom a x1 x2 h) e) :=
  Sm.callV (rv' := rvV) (args := [.int x1, .int x2]) (n := 2) (t_X3_takeBehindAtom a x1 x2 h) hk (by decide) (r := (RX3, TX3, 10)) rfl rfl ho mw_325 mw_327 mp_7 mw_4 mw_328 ⟨⟨by decide, rfl, hdep, Nat.le_of_ble_eq_true rfl⟩, Nat.le_of_ble_eq_true rfl, rfl, ⟨by decide, by decide⟩, hcat⟩ (by decide +kernel) (by intro v hv; simp only [List.mem_cons, List.not_mem_nil, or_false] at hv; rcases hv with rfl | rfl <;> intro x hx <;> cases hx) d hq k rfl
abbrev g_X3_finish : Gx := (yX3_finish, cX3_finish, 2, (Option.none : Option FieldType), 4)
def f_X3_finish_42 (l0 : Nat) (h : Hp) : Option (Unit × Hp) :=
  (ck h l0 3
((gP h l0 5).bind fun v10 =>
(bd (f_X3_topIsPredicate l0 h) fun v11 h12 =>
(ck h12 v10 4
(bd (f_X4_markPredicate v10 v11 h12) fun _ h14 =>
(some ((), h14)))))))
set_option maxRecDepth 20000 in
theorem t_X3_finish_42 (l0 : Nat) (h : Hp) : Sm rvV g_X3_finish 42 [.ref l0, .null] [] h (f_X3_finish_42 l0 h) := by
  unfold f_X3_finish_42
  refine Sm.aload_n dX3_finish_42 rfl rfl rfl ?_
  refine Sm.ck (fun o9 => ?_)
  refine gf_X3_32 o9 dX3_finish_43 rfl rfl (fun v10 => ?_)
  refine Sm.aload_n dX3_finish_46 rfl rfl rfl ?_
  refine kc_X3_75 o9 dX3_finish_47 rfl (Nat.le_of_ble_eq_true rfl) (Nat.le_of_ble_eq_true rfl) rfl (fun v11 h12 => ?_)
  refine Sm.ck (fun o13 => ?_)
  refine kc_X3_79 o13 dX3_finish_50 rfl (Nat.le_of_ble_eq_true rfl) (Nat.le_of_ble_eq_true rfl) rfl (fun _ h14 => ?_)
  exact Sm.ret (r := ()) dX3_finish_53 trivial rfl
def f_X3_finish (l0 : Nat) (l1 : Int32) (h : Hp) : Option (Unit × Hp) :=
  (ck h l0 3
(if (gI h l0 6) = (3 : Int32) then
(bd (f_X3_endFactor l0 h) fun _ h3 =>
(ck h3 l0 3
(bd (f_X3_endUnion l0 h3) fun _ h5 =>
(ck h5 l0 3
(if (gI h5 l0 9) = (-1 : Int32) then
(if (gI h5 l0 2) ≤ 0 then
(f_X3_finish_42 l0 h5)
else
(f_X3_finish_42 l0 (sI h5 l0 9 l1)))
else
(f_X3_finish_42 l0 h5))))))
else
(some ((), (sI h l0 9 l1)))))
set_option maxRecDepth 20000 in
theorem t_X3_finish (l0 : Nat) (l1 : Int32) (h : Hp) : Sm rvV g_X3_finish 0 (ent 2 [.ref l0, .int l1]) [] h (f_X3_finish l0 l1 h) := by
  show Sm rvV g_X3_finish 0 [.ref l0, .int l1] [] h _
  unfold f_X3_finish
  refine Sm.aload_n dX3_finish_0 rfl rfl rfl ?_
  refine Sm.ck (fun o1 => ?_)
  refine gf_X3_36 o1 dX3_finish_1 rfl rfl ?_
  refine Sm.iconst dX3_finish_4 ic_3 rfl ?_
  refine Sm.icmp_eq (t := 14) dX3_finish_5 (by decide) rfl (fun b2 => ?_) (fun b2 => ?_)
  · refine Sm.aload_n dX3_finish_14 rfl rfl rfl ?_
    refine kc_X3_69 o1 dX3_finish_15 rfl (Nat.le_of_ble_eq_true rfl) (Nat.le_of_ble_eq_true rfl) rfl (fun _ h3 => ?_)
    refine Sm.aload_n dX3_finish_18 rfl rfl rfl ?_
    refine Sm.ck (fun o4 => ?_)
    refine kc_X3_72 o4 dX3_finish_19 rfl (Nat.le_of_ble_eq_true rfl) (Nat.le_of_ble_eq_true rfl) rfl (fun _ h5 => ?_)
    refine Sm.aload_n dX3_finish_22 rfl rfl rfl ?_
    refine Sm.ck (fun o6 => ?_)
    refine gf_X3_45 o6 dX3_finish_23 rfl rfl ?_
    refine Sm.iconst dX3_finish_26 ic_m1 rfl ?_
    refine Sm.icmp_ne (t := 42) dX3_finish_27 (by decide) rfl (fun b7 => ?_) (fun b7 => ?_)
    · refine Sm.aload_n dX3_finish_30 rfl rfl rfl ?_
      refine gf_X3_18 o6 dX3_finish_31 rfl rfl ?_
      refine Sm.if_le (t := 42) dX3_finish_34 (by decide) rfl (fun b8 => ?_) (fun b8 => ?_)
      · exact Sm.wk (t_X3_finish_42 l0 h5) ⟨Or.inr rfl, Or.inl rfl, trivial⟩
      · refine Sm.aload_n dX3_finish_37 rfl rfl rfl ?_
        refine Sm.iload_n dX3_finish_38 rfl rfl rfl ?_
        refine pf_X3_45 o6 dX3_finish_39 rfl rfl ?_
        exact Sm.wk (t_X3_finish_42 l0 (sI h5 l0 9 l1)) ⟨Or.inr rfl, Or.inl rfl, trivial⟩
    · exact Sm.wk (t_X3_finish_42 l0 h5) ⟨Or.inr rfl, Or.inl rfl, trivial⟩
  · refine Sm.aload_n dX3_finish_8 rfl rfl rfl ?_
    refine Sm.iload_n dX3_finish_9 rfl rfl rfl ?_
    refine pf_X3_45 o1 dX3_finish_10 rfl rfl ?_
    exact Sm.ret (r := ()) dX3_finish_13 trivial rfl
set_option maxRecDepth 20000 in
theorem kc_X3_65 {ρ : Type} {rv : ρ → Option Value} {G : Gx} {pc q : Nat} {lv st : List Value} {h : Hp} {a : Nat} {x1 : Int32} {e : Unit → Hp → Option (ρ × Hp)} (hk : isO h a 3) (d : decode G.2.1 pc = .ok (.invokevirtual 65, 3)) (ho : G.1.cls = RX3) (hdep : (g_X3_finish).2.2.2.2 < G.2.2.2.2) (hcat : catS st ≤ 8) (hq : pc + 3 = q) (k : ∀ r h1, Sm rv G q lv (st) h1 (e r h1)) : Sm rv G pc lv (.int x1 :: .ref a :: st) h (bd (f_X3_finish a x1 h) e) :=
  Sm.callV (rv' := rvV) (args := [.int x1]) (n := 1) (t_X3_finish a x1 h) hk (by decide) (r := (RX3, TX3, 10)) rfl rfl ho mw_365 mw_367 mp_17 mw_4 mw_368 ⟨⟨by decide, rfl, hdep, Nat.le_of_ble_eq_true rfl⟩, Nat.le_of_ble_eq_true rfl, rfl, ⟨by decide, by decide⟩, hcat⟩ (by decide +kernel) (by intro v hv; simp only [List.mem_cons, List.not_mem_nil, or_false] at hv; rcases hv with rfl <;> intro x hx <;> cases hx) d hq k rfl
abbrev g_X3_read : Gx := (yX3_read, cX3_read, 5, (Option.some FieldType.int), 5)
def f_X3_read_136 (l0 : Nat) (l2 : Int32) (h : Hp) : Option (Int32 × Hp) :=
  (ck h l0 3
(if (gI h l0 9) = (-1 : Int32) then
(bd (f_X3_finish l0 l2 h) fun _ h12 =>
(ck h12 l0 3
(some ((gI h12 l0 9), h12))))
else
(some ((gI h l0 9), h))))
set_option maxRecDepth 20000 in
theorem t_X3_read_136 (l0 : Nat) (l2 : Int32) (h : Hp) : Sm rvI g_X3_read 136 [.ref l0, .null, .int l2, .null, .null] [] h (f_X3_read_136 l0 l2 h) := by
  unfold f_X3_read_136
  refine Sm.aload_n dX3_read_136 rfl rfl rfl ?_
  refine Sm.ck (fun o10 => ?_)
  refine gf_X3_45 o10 dX3_read_137 rfl rfl ?_
  refine Sm.iconst dX3_read_140 ic_m1 rfl ?_
  refine Sm.icmp_ne (t := 149) dX3_read_141 (by decide) rfl (fun b11 => ?_) (fun b11 => ?_)
  · refine Sm.aload_n dX3_read_144 rfl rfl rfl ?_
    refine Sm.iload_n dX3_read_145 rfl rfl rfl ?_
    refine kc_X3_65 o10 dX3_read_146 rfl (Nat.le_of_ble_eq_true rfl) (Nat.le_of_ble_eq_true rfl) rfl (fun _ h12 => ?_)
    refine Sm.aload_n dX3_read_149 rfl rfl rfl ?_
    refine Sm.ck (fun o13 => ?_)
    refine gf_X3_45 o13 dX3_read_150 rfl rfl ?_
    exact Sm.ret dX3_read_153 trivial rfl
  · refine Sm.aload_n dX3_read_149 rfl rfl rfl ?_
    refine gf_X3_45 o10 dX3_read_150 rfl rfl ?_
    exact Sm.ret dX3_read_153 trivial rfl
def f_X3_read_30 (k30 : (Int32 × Hp) → Option (Int32 × Hp)) (l0 : Nat) (l1 : Nat) (l2 : Int32) (l3 : Nat) (l4 : Int32) (h : Hp) : Option (Int32 × Hp) :=
  (if l2 ≤ l4 then
(f_X3_read_136 l0 l2 h)
else
(ck h l1 20
(if (Int32.ofNat (gS h l1).2) ≤ l4 then
(f_X3_read_136 l0 l2 h)
else
(ck h l0 3
(if (gI h l0 9) = (-1 : Int32) then
(nm (gI h l0 6) fun v18 =>
(if v18 = (0 : Int32) then
(ca h l1 20 l4
(bd (f_X3_takeFactor l0 (gI h l1 l4.toNatClampNeg) l4 l3 h) fun _ h21 =>
(nm (l4 + (1 : Int32)) fun v22 =>
(k30 (v22, h21)))))
else
(if v18 = (1 : Int32) then
(ca h l1 20 l4
(bd (f_X3_takeSign l0 (gI h l1 l4.toNatClampNeg) l4 h) fun _ h25 =>
(nm (l4 + (1 : Int32)) fun v26 =>
(k30 (v26, h25)))))
else
(if v18 = (2 : Int32) then
(ca h l1 20 l4
(bd (f_X3_takeDigit l0 (gI h l1 l4.toNatClampNeg) l4 h) fun _ h29 =>
(nm (l4 + (1 : Int32)) fun v30 =>
(k30 (v30, h29)))))
else
(ca h l1 20 l4
(bd (f_X3_takeBehindAtom l0 (gI h l1 l4.toNatClampNeg) l4 h) fun _ h32 =>
(nm (l4 + (1 : Int32)) fun v33 =>
(k30 (v33, h32)))))))))
else
(f_X3_read_136 l0 l2 h))))))
set_option maxRecDepth 20000 in
theorem t_X3_read_30 (l0 : Nat) (l1 : Nat) (l2 : Int32) (l3 : Nat) (l4 : Int32) (h : Hp) (k30 : (Int32 × Hp) → Option (Int32 × Hp)) (hk30 : ∀ s : Int32 × Hp, Sm rvI g_X3_read 30 [.ref l0, .ref l1, .int l2, .ref l3, .int s.1] [] s.2 (k30 s)) : Sm rvI g_X3_read 30 [.ref l0, .ref l1, .int l2, .ref l3, .int l4] [] h (f_X3_read_30 k30 l0 l1 l2 l3 l4 h) := by
  unfold f_X3_read_30
  refine Sm.iload dX3_read_30 rfl rfl ?_
  refine Sm.iload_n dX3_read_32 rfl rfl rfl ?_
  refine Sm.icmp_ge (t := 136) dX3_read_33 (by decide) rfl (fun b9 => ?_) (fun b9 => ?_)
  · exact Sm.wk (t_X3_read_136 l0 l2 h) ⟨Or.inr rfl, Or.inl rfl, Or.inr rfl, Or.inl rfl, Or.inl rfl, trivial⟩
  · refine Sm.iload dX3_read_36 rfl rfl ?_
    refine Sm.aload_n dX3_read_38 rfl rfl rfl ?_
    refine Sm.ck (fun o14 => ?_)
    refine Sm.alen o14 (by decide) dX3_read_39 rfl ?_
    refine Sm.icmp_ge (t := 136) dX3_read_40 (by decide) rfl (fun b15 => ?_) (fun b15 => ?_)
    · exact Sm.wk (t_X3_read_136 l0 l2 h) ⟨Or.inr rfl, Or.inl rfl, Or.inr rfl, Or.inl rfl, Or.inl rfl, trivial⟩
    · refine Sm.aload_n dX3_read_43 rfl rfl rfl ?_
      refine Sm.ck (fun o16 => ?_)
      refine gf_X3_45 o16 dX3_read_44 rfl rfl ?_
      refine Sm.iconst dX3_read_47 ic_m1 rfl ?_
      refine Sm.icmp_ne (t := 136) dX3_read_48 (by decide) rfl (fun b17 => ?_) (fun b17 => ?_)
      · refine Sm.aload_n dX3_read_51 rfl rfl rfl ?_
        refine gf_X3_36 o16 dX3_read_52 rfl rfl ?_
        refine Sm.nm (LV := fun v18 => [.ref l0, .ref l1, .int l2, .ref l3, .int l4]) (ST := fun v18 => [.int v18]) (fun v18 => ?_)
        refine Sm.iff (fun b19 => ?_) (fun b19 => ?_)
        · refine Sm.tsAt (t := 80) (k := (0 : Int32)) (off := 25) b19 dX3_read_55 (by decide) (by decide) (by decide) (by decide) ?_
          refine Sm.aload_n dX3_read_80 rfl rfl rfl ?_
          refine Sm.aload_n dX3_read_81 rfl rfl rfl ?_
          refine Sm.iload dX3_read_82 rfl rfl ?_
          refine Sm.ca (fun q20 => ?_)
          refine Sm.iald q20 dX3_read_84 rfl ?_
          refine Sm.iload dX3_read_85 rfl rfl ?_
          refine Sm.aload_n dX3_read_87 rfl rfl rfl ?_
          refine kc_X3_51 o16 dX3_read_88 rfl (Nat.le_of_ble_eq_true rfl) (Nat.le_of_ble_eq_true rfl) rfl (fun _ h21 => ?_)
          refine Sm.goto (t := 130) dX3_read_91 (by decide) ?_
          refine Sm.iinc (lv' := [.ref l0, .ref l1, .int l2, .ref l3, .int (l4 + (1 : Int32))]) dX3_read_130 rfl ic_1 rfl rfl ?_
          refine Sm.nm (LV := fun v22 => [.ref l0, .ref l1, .int l2, .ref l3, .int v22]) (ST := fun v22 => []) (fun v22 => ?_)
          refine Sm.goto (t := 30) dX3_read_133 (by decide) ?_
          exact Sm.wk (hk30 (v22, h21)) ⟨Or.inr rfl, Or.inr rfl, Or.inr rfl, Or.inr rfl, Or.inr rfl, trivial⟩
        refine Sm.iff (fun b23 => ?_) (fun b23 => ?_)
        · refine Sm.tsAt (t := 94) (k := (1 : Int32)) (off := 39) b23 dX3_read_55 (by decide) (by decide) (by decide) (by decide) ?_
          refine Sm.aload_n dX3_read_94 rfl rfl rfl ?_
          refine Sm.aload_n dX3_read_95 rfl rfl rfl ?_
          refine Sm.iload dX3_read_96 rfl rfl ?_
          refine Sm.ca (fun q24 => ?_)
          refine Sm.iald q24 dX3_read_98 rfl ?_
          refine Sm.iload dX3_read_99 rfl rfl ?_
          refine kc_X3_55 o16 dX3_read_101 rfl (Nat.le_of_ble_eq_true rfl) (Nat.le_of_ble_eq_true rfl) rfl (fun _ h25 => ?_)
          refine Sm.goto (t := 130) dX3_read_104 (by decide) ?_
          refine Sm.iinc (lv' := [.ref l0, .ref l1, .int l2, .ref l3, .int (l4 + (1 : Int32))]) dX3_read_130 rfl ic_1 rfl rfl ?_
          refine Sm.nm (LV := fun v26 => [.ref l0, .ref l1, .int l2, .ref l3, .int v26]) (ST := fun v26 => []) (fun v26 => ?_)
          refine Sm.goto (t := 30) dX3_read_133 (by decide) ?_
          exact Sm.wk (hk30 (v26, h25)) ⟨Or.inr rfl, Or.inr rfl, Or.inr rfl, Or.inr rfl, Or.inr rfl, trivial⟩
        refine Sm.iff (fun b27 => ?_) (fun b27 => ?_)
        · refine Sm.tsAt (t := 107) (k := (2 : Int32)) (off := 52) b27 dX3_read_55 (by decide) (by decide) (by decide) (by decide) ?_
          refine Sm.aload_n dX3_read_107 rfl rfl rfl ?_
          refine Sm.aload_n dX3_read_108 rfl rfl rfl ?_
          refine Sm.iload dX3_read_109 rfl rfl ?_
          refine Sm.ca (fun q28 => ?_)
          refine Sm.iald q28 dX3_read_111 rfl ?_
          refine Sm.iload dX3_read_112 rfl rfl ?_
          refine kc_X3_59 o16 dX3_read_114 rfl (Nat.le_of_ble_eq_true rfl) (Nat.le_of_ble_eq_true rfl) rfl (fun _ h29 => ?_)
          refine Sm.goto (t := 130) dX3_read_117 (by decide) ?_
          refine Sm.iinc (lv' := [.ref l0, .ref l1, .int l2, .ref l3, .int (l4 + (1 : Int32))]) dX3_read_130 rfl ic_1 rfl rfl ?_
          refine Sm.nm (LV := fun v30 => [.ref l0, .ref l1, .int l2, .ref l3, .int v30]) (ST := fun v30 => []) (fun v30 => ?_)
          refine Sm.goto (t := 30) dX3_read_133 (by decide) ?_
          exact Sm.wk (hk30 (v30, h29)) ⟨Or.inr rfl, Or.inr rfl, Or.inr rfl, Or.inr rfl, Or.inr rfl, trivial⟩
        have nb19 : ¬ v18.toInt = (0 : Int) := lv_neT b19 (by decide)
        have nb23 : ¬ v18.toInt = (1 : Int) := lv_neT b23 (by decide)
        have nb27 : ¬ v18.toInt = (2 : Int) := lv_neT b27 (by decide)
        refine Sm.tsOut (t := 120) dX3_read_55 (by omega) (by decide) ?_
        refine Sm.aload_n dX3_read_120 rfl rfl rfl ?_
        refine Sm.aload_n dX3_read_121 rfl rfl rfl ?_
        refine Sm.iload dX3_read_122 rfl rfl ?_
        refine Sm.ca (fun q31 => ?_)
        refine Sm.iald q31 dX3_read_124 rfl ?_
        refine Sm.iload dX3_read_125 rfl rfl ?_
        refine kc_X3_62 o16 dX3_read_127 rfl (Nat.le_of_ble_eq_true rfl) (Nat.le_of_ble_eq_true rfl) rfl (fun _ h32 => ?_)
        refine Sm.iinc (lv' := [.ref l0, .ref l1, .int l2, .ref l3, .int (l4 + (1 : Int32))]) dX3_read_130 rfl ic_1 rfl rfl ?_
        refine Sm.nm (LV := fun v33 => [.ref l0, .ref l1, .int l2, .ref l3, .int v33]) (ST := fun v33 => []) (fun v33 => ?_)
        refine Sm.goto (t := 30) dX3_read_133 (by decide) ?_
        exact Sm.wk (hk30 (v33, h32)) ⟨Or.inr rfl, Or.inr rfl, Or.inr rfl, Or.inr rfl, Or.inr rfl, trivial⟩
      · exact Sm.wk (t_X3_read_136 l0 l2 h) ⟨Or.inr rfl, Or.inl rfl, Or.inr rfl, Or.inl rfl, Or.inl rfl, trivial⟩
def f_X3_read (l0 : Nat) (l1 : Nat) (l2 : Int32) (l3 : Nat) (h : Hp) : Option (Int32 × Hp) :=
  (ck h l0 3
((gP h l0 5).bind fun v2 =>
(ck h v2 4
(bd (f_X4_start v2 h) fun _ h4 =>
(ck h4 l0 3
(nm (sI (sI (sI h4 l0 2 (0 : Int32)) l0 4 (0 : Int32)) l0 6 (0 : Int32)) fun h6 =>
(loopN (fun k s => f_X3_read_30 k l0 l1 l2 l3 s.1 s.2) 5000 ((0 : Int32), (sI h6 l0 9 (-1 : Int32))))))))))
set_option maxRecDepth 20000 in
theorem t_X3_read (l0 : Nat) (l1 : Nat) (l2 : Int32) (l3 : Nat) (h : Hp) : Sm rvI g_X3_read 0 (ent 5 [.ref l0, .ref l1, .int l2, .ref l3]) [] h (f_X3_read l0 l1 l2 l3 h) := by
  show Sm rvI g_X3_read 0 [.ref l0, .ref l1, .int l2, .ref l3, .null] [] h _
  unfold f_X3_read
  refine Sm.aload_n dX3_read_0 rfl rfl rfl ?_
  refine Sm.ck (fun o1 => ?_)
  refine gf_X3_32 o1 dX3_read_1 rfl rfl (fun v2 => ?_)
  refine Sm.ck (fun o3 => ?_)
  refine kc_X3_48 o3 dX3_read_4 rfl (Nat.le_of_ble_eq_true rfl) (Nat.le_of_ble_eq_true rfl) rfl (fun _ h4 => ?_)
  refine Sm.aload_n dX3_read_7 rfl rfl rfl ?_
  refine Sm.iconst dX3_read_8 ic_0 rfl ?_
  refine Sm.ck (fun o5 => ?_)
  refine pf_X3_18 o5 dX3_read_9 rfl rfl ?_
  refine Sm.aload_n dX3_read_12 rfl rfl rfl ?_
  refine Sm.iconst dX3_read_13 ic_0 rfl ?_
  refine pf_X3_26 o5 dX3_read_14 rfl rfl ?_
  refine Sm.aload_n dX3_read_17 rfl rfl rfl ?_
  refine Sm.iconst dX3_read_18 ic_0 rfl ?_
  refine pf_X3_36 o5 dX3_read_19 rfl rfl ?_
  refine Sm.nmH (fun h6 e7 e8 => ?_)
  refine Sm.aload_n dX3_read_22 rfl rfl rfl ?_
  refine Sm.iconst dX3_read_23 ic_m1 rfl ?_
  refine pf_X3_45 (isO.tr e7 e8 o5) dX3_read_24 rfl rfl ?_
  refine Sm.iconst dX3_read_27 ic_0 rfl ?_
  refine Sm.istore (lv' := [.ref l0, .ref l1, .int l2, .ref l3, .int (0 : Int32)]) dX3_read_28 (Nat.le_of_ble_eq_true rfl) rfl rfl ?_
  exact Sm.wk (Sm.loop (σ := Int32 × Hp) (LV := fun s => [.ref l0, .ref l1, .int l2, .ref l3, .int s.1]) (HH := fun s => s.2) (fun k hk s => t_X3_read_30 l0 l1 l2 l3 s.1 s.2 k hk) 5000 ((0 : Int32), (sI h6 l0 9 (-1 : Int32)))) ⟨Or.inr rfl, Or.inr rfl, Or.inr rfl, Or.inr rfl, Or.inr rfl, trivial⟩
set_option maxRecDepth 20000 in
theorem kc_X9_63 {ρ : Type} {rv : ρ → Option Value} {G : Gx} {pc q : Nat} {lv st : List Value} {h : Hp} {a : Nat} {x1 : Nat} {x2 : Int32} {x3 : Nat} {e : Int32 → Hp → Option (ρ × Hp)} (hk : isO h a 3) (d : decode G.2.1 pc = .ok (.invokevirtual 63, 3)) (ho : G.1.cls = RX9) (hdep : (g_X3_read).2.2.2.2 < G.2.2.2.2) (hcat : catS st ≤ 8) (hq : pc + 3 = q) (k : ∀ r h1, Sm rv G q lv (.int r :: st) h1 (e r h1)) : Sm rv G pc lv (.ref x3 :: .int x2 :: .ref x1 :: .ref a :: st) h (bd (f_X3_read a x1 x2 x3 h) e) :=
  Sm.callV (rv' := rvI) (args := [.ref x1, .int x2, .ref x3]) (n := 3) (t_X3_read a x1 x2 x3 h) hk (by decide) (r := (RX3, TX3, 10)) rfl rfl ho mw_280 mw_281 mw_282 mw_4 mw_283 ⟨⟨by decide, rfl, hdep, Nat.le_of_ble_eq_true rfl⟩, Nat.le_of_ble_eq_true rfl, rfl, ⟨by decide, by decide⟩, hcat⟩ (by decide +kernel) (by intro v hv; simp only [List.mem_cons, List.not_mem_nil, or_false] at hv; rcases hv with rfl | rfl | rfl <;> intro x hx <;> cases hx) d hq k rfl
abbrev g_X5_init : Gx := (yX5_init, cX5_init, 1, (Option.none : Option FieldType), 1)
def f_X5_init (l0 : Nat) (h : Hp) : Option (Unit × Hp) :=
  (nm (nwc h 20 360 360) fun h1 =>
(ck h1 l0 5
(nm (sP h1 l0 0 (some (gN h + 1))) fun h5 =>
(nm (nwc h5 20 60 60) fun h8 =>
(ck h8 l0 5
(nm (sP h8 l0 1 (some (gN h5 + 1))) fun h12 =>
(nm (nwc h12 21 60 60) fun h15 =>
(ck h15 l0 5
(nm (sP h15 l0 2 (some (gN h12 + 1))) fun h19 =>
(nm (nwc h19 20 60 60) fun h22 =>
(ck h22 l0 5
(some ((), (sI (sP h22 l0 3 (some (gN h19 + 1))) l0 4 (0 : Int32)))))))))))))))
set_option maxRecDepth 20000 in
theorem t_X5_init (l0 : Nat) (h : Hp) : Sm rvV g_X5_init 0 (ent 1 [.ref l0]) [] h (f_X5_init l0 h) := by
  show Sm rvV g_X5_init 0 [.ref l0] [] h _
  unfold f_X5_init
  refine Sm.aload_n dX5_init_0 rfl rfl rfl ?_
  refine Sm.objInit dX5_init_1 rfl mw_126 mw_20 mw_21 (Nat.le_of_ble_eq_true rfl) (Nat.le_of_ble_eq_true rfl) rfl ?_
  refine Sm.aload_n dX5_init_4 rfl rfl rfl ?_
  refine Sm.sipush dX5_init_5 sp_360 rfl ?_
  refine Sm.newI (by decide) (by decide) dX5_init_8 mw_50 rfl ?_
  refine Sm.nmH (fun h1 e2 e3 => ?_)
  refine Sm.ck (fun o4 => ?_)
  refine pf_X5_11 o4 dX5_init_10 rfl rfl rfl ?_
  refine Sm.aload_n dX5_init_13 rfl rfl rfl ?_
  refine Sm.bipush dX5_init_14 bp_60 rfl ?_
  refine Sm.nmH (fun h5 e6 e7 => ?_)
  refine Sm.newI (by decide) (by decide) dX5_init_16 mw_50 rfl ?_
  refine Sm.nmH (fun h8 e9 e10 => ?_)
  refine Sm.ck (fun o11 => ?_)
  refine pf_X5_15 o11 dX5_init_18 rfl rfl rfl ?_
  refine Sm.aload_n dX5_init_21 rfl rfl rfl ?_
  refine Sm.bipush dX5_init_22 bp_60 rfl ?_
  refine Sm.nmH (fun h12 e13 e14 => ?_)
  refine Sm.newZ (by decide) (by decide) dX5_init_24 mw_100 rfl ?_
  refine Sm.nmH (fun h15 e16 e17 => ?_)
  refine Sm.ck (fun o18 => ?_)
  refine pf_X5_18 o18 dX5_init_26 rfl rfl rfl ?_
  refine Sm.aload_n dX5_init_29 rfl rfl rfl ?_
  refine Sm.bipush dX5_init_30 bp_60 rfl ?_
  refine Sm.nmH (fun h19 e20 e21 => ?_)
  refine Sm.newI (by decide) (by decide) dX5_init_32 mw_50 rfl ?_
  refine Sm.nmH (fun h22 e23 e24 => ?_)
  refine Sm.ck (fun o25 => ?_)
  refine pf_X5_22 o25 dX5_init_34 rfl rfl rfl ?_
  refine Sm.aload_n dX5_init_37 rfl rfl rfl ?_
  refine Sm.iconst dX5_init_38 ic_0 rfl ?_
  refine pf_X5_25 o25 dX5_init_39 rfl rfl ?_
  exact Sm.ret (r := ()) dX5_init_42 trivial rfl
set_option maxRecDepth 20000 in
theorem kc_X7_20 {ρ : Type} {rv : ρ → Option Value} {G : Gx} {pc q : Nat} {lv st : List Value} {h : Hp} {a : Nat} {e : Unit → Hp → Option (ρ × Hp)} (d : decode G.2.1 pc = .ok (.invokespecial 20, 3)) (ho : G.1.cls = RX7) (hdep : (g_X5_init).2.2.2.2 < G.2.2.2.2) (hcat : catS st ≤ 8) (hq : pc + 3 = q) (k : ∀ r h1, Sm rv G q lv (st) h1 (e r h1)) : Sm rv G pc lv (.ref a :: st) h (bd (f_X5_init a h) e) :=
  Sm.callIN (rv' := rvV) (args := []) (n := 0) (t_X5_init a h) ho rfl rfl mw_123 mw_124 mw_7 mw_125 ⟨⟨by decide, rfl, hdep, Nat.le_of_ble_eq_true rfl⟩, Nat.le_of_ble_eq_true rfl, rfl, ⟨by decide, by decide⟩, hcat⟩ (by decide +kernel) (fun v hv => by cases hv) d hq k rfl
abbrev g_X5_byteCount : Gx := (yX5_byteCount, cX5_byteCount, 1, (Option.some FieldType.int), 0)
def f_X5_byteCount (l0 : Nat) (h : Hp) : Option (Int32 × Hp) :=
  (ck h l0 5
(some ((gI h l0 4), h)))
set_option maxRecDepth 20000 in
theorem t_X5_byteCount (l0 : Nat) (h : Hp) : Sm rvI g_X5_byteCount 0 (ent 1 [.ref l0]) [] h (f_X5_byteCount l0 h) := by
  show Sm rvI g_X5_byteCount 0 [.ref l0] [] h _
  unfold f_X5_byteCount
  refine Sm.aload_n dX5_byteCount_0 rfl rfl rfl ?_
  refine Sm.ck (fun o1 => ?_)
  refine gf_X5_25 o1 dX5_byteCount_1 rfl rfl ?_
  exact Sm.ret dX5_byteCount_4 trivial rfl
set_option maxRecDepth 20000 in
theorem kc_X9_112 {ρ : Type} {rv : ρ → Option Value} {G : Gx} {pc q : Nat} {lv st : List Value} {h : Hp} {a : Nat} {e : Int32 → Hp → Option (ρ × Hp)} (hk : isO h a 5) (d : decode G.2.1 pc = .ok (.invokevirtual 112, 3)) (ho : G.1.cls = RX9) (hdep : (g_X5_byteCount).2.2.2.2 < G.2.2.2.2) (hcat : catS st ≤ 8) (hq : pc + 3 = q) (k : ∀ r h1, Sm rv G q lv (.int r :: st) h1 (e r h1)) : Sm rv G pc lv (.ref a :: st) h (bd (f_X5_byteCount a h) e) :=
  Sm.callV (rv' := rvI) (args := []) (n := 0) (t_X5_byteCount a h) hk (by decide) (r := (RX5, TX5, 5)) rfl rfl ho mw_670 mw_671 mw_672 mw_7 mw_673 ⟨⟨by decide, rfl, hdep, Nat.le_of_ble_eq_true rfl⟩, Nat.le_of_ble_eq_true rfl, rfl, ⟨by decide, by decide⟩, hcat⟩ (by decide +kernel) (fun v hv => by cases hv) d hq k rfl
abbrev g_X5_byteAt : Gx := (yX5_byteAt, cX5_byteAt, 2, (Option.some FieldType.int), 0)
def f_X5_byteAt (l0 : Nat) (l1 : Int32) (h : Hp) : Option (Int32 × Hp) :=
  (if l1 < 0 then
(some ((-1 : Int32), h))
else
(ck h l0 5
(if (gI h l0 4) ≤ l1 then
(some ((-1 : Int32), h))
else
(if (360 : Int32) ≤ l1 then
(some ((-1 : Int32), h))
else
((gP h l0 0).bind fun v5 =>
(ca h v5 20 l1
(some ((gI h v5 l1.toNatClampNeg), h))))))))
set_option maxRecDepth 20000 in
theorem t_X5_byteAt (l0 : Nat) (l1 : Int32) (h : Hp) : Sm rvI g_X5_byteAt 0 (ent 2 [.ref l0, .int l1]) [] h (f_X5_byteAt l0 l1 h) := by
  show Sm rvI g_X5_byteAt 0 [.ref l0, .int l1] [] h _
  unfold f_X5_byteAt
  refine Sm.iload_n dX5_byteAt_0 rfl rfl rfl ?_
  refine Sm.if_lt (t := 28) dX5_byteAt_1 (by decide) rfl (fun b1 => ?_) (fun b1 => ?_)
  · refine Sm.iconst dX5_byteAt_28 ic_m1 rfl ?_
    exact Sm.ret dX5_byteAt_29 trivial rfl
  · refine Sm.iload_n dX5_byteAt_4 rfl rfl rfl ?_
    refine Sm.aload_n dX5_byteAt_5 rfl rfl rfl ?_
    refine Sm.ck (fun o2 => ?_)
    refine gf_X5_25 o2 dX5_byteAt_6 rfl rfl ?_
    refine Sm.icmp_ge (t := 28) dX5_byteAt_9 (by decide) rfl (fun b3 => ?_) (fun b3 => ?_)
    · refine Sm.iconst dX5_byteAt_28 ic_m1 rfl ?_
      exact Sm.ret dX5_byteAt_29 trivial rfl
    · refine Sm.iload_n dX5_byteAt_12 rfl rfl rfl ?_
      refine Sm.sipush dX5_byteAt_13 sp_360 rfl ?_
      refine Sm.icmp_ge (t := 28) dX5_byteAt_16 (by decide) rfl (fun b4 => ?_) (fun b4 => ?_)
      · refine Sm.iconst dX5_byteAt_28 ic_m1 rfl ?_
        exact Sm.ret dX5_byteAt_29 trivial rfl
      · refine Sm.aload_n dX5_byteAt_19 rfl rfl rfl ?_
        refine gf_X5_11 o2 dX5_byteAt_20 rfl rfl (fun v5 => ?_)
        refine Sm.iload_n dX5_byteAt_23 rfl rfl rfl ?_
        refine Sm.ca (fun q6 => ?_)
        refine Sm.iald q6 dX5_byteAt_24 rfl ?_
        refine Sm.goto (t := 29) dX5_byteAt_25 (by decide) ?_
        exact Sm.ret dX5_byteAt_29 trivial rfl
set_option maxRecDepth 20000 in
theorem kc_X9_117 {ρ : Type} {rv : ρ → Option Value} {G : Gx} {pc q : Nat} {lv st : List Value} {h : Hp} {a : Nat} {x1 : Int32} {e : Int32 → Hp → Option (ρ × Hp)} (hk : isO h a 5) (d : decode G.2.1 pc = .ok (.invokevirtual 117, 3)) (ho : G.1.cls = RX9) (hdep : (g_X5_byteAt).2.2.2.2 < G.2.2.2.2) (hcat : catS st ≤ 8) (hq : pc + 3 = q) (k : ∀ r h1, Sm rv G q lv (.int r :: st) h1 (e r h1)) : Sm rv G pc lv (.int x1 :: .ref a :: st) h (bd (f_X5_byteAt a x1 h) e) :=
  Sm.callV (rv' := rvI) (args := [.int x1]) (n := 1) (t_X5_byteAt a x1 h) hk (by decide) (r := (RX5, TX5, 5)) rfl rfl ho mw_674 mw_675 mw_676 mw_7 mw_677 ⟨⟨by decide, rfl, hdep, Nat.le_of_ble_eq_true rfl⟩, Nat.le_of_ble_eq_true rfl, rfl, ⟨by decide, by decide⟩, hcat⟩ (by decide +kernel) (by intro v hv; simp only [List.mem_cons, List.not_mem_nil, or_false] at hv; rcases hv with rfl <;> intro x hx <;> cases hx) d hq k rfl
abbrev g_X5_ownLength : Gx := (yX5_ownLength, cX5_ownLength, 1, (Option.some FieldType.int), 0)
def f_X5_ownLength (l0 : Int32) (h : Hp) : Option (Int32 × Hp) :=
  (if l0 = (2 : Int32) then
(some ((3 : Int32), h))
else
(if l0 = (3 : Int32) then
(some ((3 : Int32), h))
else
(if l0 = (8 : Int32) then
(some ((4 : Int32), h))
else
(some ((1 : Int32), h)))))
set_option maxRecDepth 20000 in
theorem t_X5_ownLength (l0 : Int32) (h : Hp) : Sm rvI g_X5_ownLength 0 (ent 1 [.int l0]) [] h (f_X5_ownLength l0 h) := by
  show Sm rvI g_X5_ownLength 0 [.int l0] [] h _
  unfold f_X5_ownLength
  refine Sm.iload_n dX5_ownLength_0 rfl rfl rfl ?_
  refine Sm.iff (fun b1 => ?_) (fun b1 => ?_)
  · refine Sm.lsAt (t := 36) (k := (2 : Int32)) (off := 35) b1 dX5_ownLength_1 (by decide) (by decide) (by decide) ?_
    refine Sm.iconst dX5_ownLength_36 ic_3 rfl ?_
    exact Sm.ret dX5_ownLength_37 trivial rfl
  refine Sm.iff (fun b2 => ?_) (fun b2 => ?_)
  · refine Sm.lsAt (t := 36) (k := (3 : Int32)) (off := 35) b2 dX5_ownLength_1 (by decide) (by decide) (by decide) ?_
    refine Sm.iconst dX5_ownLength_36 ic_3 rfl ?_
    exact Sm.ret dX5_ownLength_37 trivial rfl
  refine Sm.iff (fun b3 => ?_) (fun b3 => ?_)
  · refine Sm.lsAt (t := 38) (k := (8 : Int32)) (off := 37) b3 dX5_ownLength_1 (by decide) (by decide) (by decide) ?_
    refine Sm.iconst dX5_ownLength_38 ic_4 rfl ?_
    exact Sm.ret dX5_ownLength_39 trivial rfl
  refine Sm.lsOut (t := 40) (off := 39) dX5_ownLength_1 (by decide) (by rw [show (#[(2, 35), (3, 35), (8, 37)] : Array (Int × Int)).toList = [(2, 35), (3, 35), (8, 37)] from rfl, lv_osw b1 (by decide), lv_osw b2 (by decide), lv_osw b3 (by decide)]; rfl) (by decide) ?_
  refine Sm.iconst dX5_ownLength_40 ic_1 rfl ?_
  exact Sm.ret dX5_ownLength_41 trivial rfl
set_option maxRecDepth 20000 in
theorem kc_X5_50 {ρ : Type} {rv : ρ → Option Value} {G : Gx} {pc q : Nat} {lv st : List Value} {h : Hp} {x0 : Int32} {e : Int32 → Hp → Option (ρ × Hp)} (d : decode G.2.1 pc = .ok (.invokestatic 50, 3)) (ho : G.1.cls = RX5) (hdep : (g_X5_ownLength).2.2.2.2 < G.2.2.2.2) (hcat : catS st ≤ 8) (hq : pc + 3 = q) (k : ∀ r h1, Sm rv G q lv (.int r :: st) h1 (e r h1)) : Sm rv G pc lv (.int x0 :: st) h (bd (f_X5_ownLength x0 h) e) :=
  Sm.callS (rv' := rvI) (as := [.int x0]) (n := 1) (t_X5_ownLength x0 h) ho mw_452 mw_453 mw_7 mw_454 ⟨⟨by decide, rfl, hdep, Nat.le_of_ble_eq_true rfl⟩, Nat.le_of_ble_eq_true rfl, rfl, ⟨by decide, by decide⟩, hcat⟩ (by decide +kernel) (by intro v hv; simp only [List.mem_cons, List.not_mem_nil, or_false] at hv; rcases hv with rfl <;> intro x hx <;> cases hx) d hq k rfl
abbrev g_X5_needsParentheses : Gx := (yX5_needsParentheses, cX5_needsParentheses, 3, (Option.some FieldType.boolean), 0)
def f_X5_needsParentheses (l0 : Int32) (l1 : Int32) (l2 : Int32) (h : Hp) : Option (Int32 × Hp) :=
  (if l0 = (4 : Int32) then
(if l2 = 0 then
(some ((0 : Int32), h))
else
(if l1 = (4 : Int32) then
(some ((1 : Int32), h))
else
(some ((0 : Int32), h))))
else
(if l0 = (5 : Int32) then
(if l1 = (4 : Int32) then
(some ((1 : Int32), h))
else
(if l2 = 0 then
(some ((0 : Int32), h))
else
(if l1 = (5 : Int32) then
(some ((1 : Int32), h))
else
(some ((0 : Int32), h)))))
else
(if l0 = (6 : Int32) then
(if l1 = (4 : Int32) then
(some ((1 : Int32), h))
else
(if l1 = (5 : Int32) then
(some ((1 : Int32), h))
else
(if l1 = (7 : Int32) then
(some ((1 : Int32), h))
else
(some ((0 : Int32), h)))))
else
(if l0 = (7 : Int32) then
(if l1 = (4 : Int32) then
(some ((1 : Int32), h))
else
(if l1 = (5 : Int32) then
(some ((1 : Int32), h))
else
(some ((0 : Int32), h))))
else
(some ((0 : Int32), h))))))
set_option maxRecDepth 20000 in
theorem t_X5_needsParentheses (l0 : Int32) (l1 : Int32) (l2 : Int32) (h : Hp) : Sm rvI g_X5_needsParentheses 0 (ent 3 [.int l0, .int l1, .int l2]) [] h (f_X5_needsParentheses l0 l1 l2 h) := by
  show Sm rvI g_X5_needsParentheses 0 [.int l0, .int l1, .int l2] [] h _
  unfold f_X5_needsParentheses
  refine Sm.iload_n dX5_needsParentheses_0 rfl rfl rfl ?_
  refine Sm.iff (fun b1 => ?_) (fun b1 => ?_)
  · refine Sm.tsAt (t := 32) (k := (4 : Int32)) (off := 31) b1 dX5_needsParentheses_1 (by decide) (by decide) (by decide) (by decide) ?_
    refine Sm.iload_n dX5_needsParentheses_32 rfl rfl rfl ?_
    refine Sm.if_eq (t := 45) dX5_needsParentheses_33 (by decide) rfl (fun b2 => ?_) (fun b2 => ?_)
    · refine Sm.iconst dX5_needsParentheses_45 ic_0 rfl ?_
      exact Sm.ret dX5_needsParentheses_46 (Or.inl rfl) rfl
    · refine Sm.iload_n dX5_needsParentheses_36 rfl rfl rfl ?_
      refine Sm.iconst dX5_needsParentheses_37 ic_4 rfl ?_
      refine Sm.icmp_ne (t := 45) dX5_needsParentheses_38 (by decide) rfl (fun b3 => ?_) (fun b3 => ?_)
      · refine Sm.iconst dX5_needsParentheses_41 ic_1 rfl ?_
        refine Sm.goto (t := 46) dX5_needsParentheses_42 (by decide) ?_
        exact Sm.ret dX5_needsParentheses_46 (Or.inr rfl) rfl
      · refine Sm.iconst dX5_needsParentheses_45 ic_0 rfl ?_
        exact Sm.ret dX5_needsParentheses_46 (Or.inl rfl) rfl
  refine Sm.iff (fun b4 => ?_) (fun b4 => ?_)
  · refine Sm.tsAt (t := 47) (k := (5 : Int32)) (off := 46) b4 dX5_needsParentheses_1 (by decide) (by decide) (by decide) (by decide) ?_
    refine Sm.iload_n dX5_needsParentheses_47 rfl rfl rfl ?_
    refine Sm.iconst dX5_needsParentheses_48 ic_4 rfl ?_
    refine Sm.icmp_eq (t := 61) dX5_needsParentheses_49 (by decide) rfl (fun b5 => ?_) (fun b5 => ?_)
    · refine Sm.iconst dX5_needsParentheses_61 ic_1 rfl ?_
      refine Sm.goto (t := 66) dX5_needsParentheses_62 (by decide) ?_
      exact Sm.ret dX5_needsParentheses_66 (Or.inr rfl) rfl
    · refine Sm.iload_n dX5_needsParentheses_52 rfl rfl rfl ?_
      refine Sm.if_eq (t := 65) dX5_needsParentheses_53 (by decide) rfl (fun b6 => ?_) (fun b6 => ?_)
      · refine Sm.iconst dX5_needsParentheses_65 ic_0 rfl ?_
        exact Sm.ret dX5_needsParentheses_66 (Or.inl rfl) rfl
      · refine Sm.iload_n dX5_needsParentheses_56 rfl rfl rfl ?_
        refine Sm.iconst dX5_needsParentheses_57 ic_5 rfl ?_
        refine Sm.icmp_ne (t := 65) dX5_needsParentheses_58 (by decide) rfl (fun b7 => ?_) (fun b7 => ?_)
        · refine Sm.iconst dX5_needsParentheses_61 ic_1 rfl ?_
          refine Sm.goto (t := 66) dX5_needsParentheses_62 (by decide) ?_
          exact Sm.ret dX5_needsParentheses_66 (Or.inr rfl) rfl
        · refine Sm.iconst dX5_needsParentheses_65 ic_0 rfl ?_
          exact Sm.ret dX5_needsParentheses_66 (Or.inl rfl) rfl
  refine Sm.iff (fun b8 => ?_) (fun b8 => ?_)
  · refine Sm.tsAt (t := 67) (k := (6 : Int32)) (off := 66) b8 dX5_needsParentheses_1 (by decide) (by decide) (by decide) (by decide) ?_
    refine Sm.iload_n dX5_needsParentheses_67 rfl rfl rfl ?_
    refine Sm.iconst dX5_needsParentheses_68 ic_4 rfl ?_
    refine Sm.icmp_eq (t := 83) dX5_needsParentheses_69 (by decide) rfl (fun b9 => ?_) (fun b9 => ?_)
    · refine Sm.iconst dX5_needsParentheses_83 ic_1 rfl ?_
      refine Sm.goto (t := 88) dX5_needsParentheses_84 (by decide) ?_
      exact Sm.ret dX5_needsParentheses_88 (Or.inr rfl) rfl
    · refine Sm.iload_n dX5_needsParentheses_72 rfl rfl rfl ?_
      refine Sm.iconst dX5_needsParentheses_73 ic_5 rfl ?_
      refine Sm.icmp_eq (t := 83) dX5_needsParentheses_74 (by decide) rfl (fun b10 => ?_) (fun b10 => ?_)
      · refine Sm.iconst dX5_needsParentheses_83 ic_1 rfl ?_
        refine Sm.goto (t := 88) dX5_needsParentheses_84 (by decide) ?_
        exact Sm.ret dX5_needsParentheses_88 (Or.inr rfl) rfl
      · refine Sm.iload_n dX5_needsParentheses_77 rfl rfl rfl ?_
        refine Sm.bipush dX5_needsParentheses_78 bp_7 rfl ?_
        refine Sm.icmp_ne (t := 87) dX5_needsParentheses_80 (by decide) rfl (fun b11 => ?_) (fun b11 => ?_)
        · refine Sm.iconst dX5_needsParentheses_83 ic_1 rfl ?_
          refine Sm.goto (t := 88) dX5_needsParentheses_84 (by decide) ?_
          exact Sm.ret dX5_needsParentheses_88 (Or.inr rfl) rfl
        · refine Sm.iconst dX5_needsParentheses_87 ic_0 rfl ?_
          exact Sm.ret dX5_needsParentheses_88 (Or.inl rfl) rfl
  refine Sm.iff (fun b12 => ?_) (fun b12 => ?_)
  · refine Sm.tsAt (t := 89) (k := (7 : Int32)) (off := 88) b12 dX5_needsParentheses_1 (by decide) (by decide) (by decide) (by decide) ?_
    refine Sm.iload_n dX5_needsParentheses_89 rfl rfl rfl ?_
    refine Sm.iconst dX5_needsParentheses_90 ic_4 rfl ?_
    refine Sm.icmp_eq (t := 99) dX5_needsParentheses_91 (by decide) rfl (fun b13 => ?_) (fun b13 => ?_)
    · refine Sm.iconst dX5_needsParentheses_99 ic_1 rfl ?_
      refine Sm.goto (t := 104) dX5_needsParentheses_100 (by decide) ?_
      exact Sm.ret dX5_needsParentheses_104 (Or.inr rfl) rfl
    · refine Sm.iload_n dX5_needsParentheses_94 rfl rfl rfl ?_
      refine Sm.iconst dX5_needsParentheses_95 ic_5 rfl ?_
      refine Sm.icmp_ne (t := 103) dX5_needsParentheses_96 (by decide) rfl (fun b14 => ?_) (fun b14 => ?_)
      · refine Sm.iconst dX5_needsParentheses_99 ic_1 rfl ?_
        refine Sm.goto (t := 104) dX5_needsParentheses_100 (by decide) ?_
        exact Sm.ret dX5_needsParentheses_104 (Or.inr rfl) rfl
      · refine Sm.iconst dX5_needsParentheses_103 ic_0 rfl ?_
        exact Sm.ret dX5_needsParentheses_104 (Or.inl rfl) rfl
  have nb1 : ¬ l0.toInt = (4 : Int) := lv_neT b1 (by decide)
  have nb4 : ¬ l0.toInt = (5 : Int) := lv_neT b4 (by decide)
  have nb8 : ¬ l0.toInt = (6 : Int) := lv_neT b8 (by decide)
  have nb12 : ¬ l0.toInt = (7 : Int) := lv_neT b12 (by decide)
  refine Sm.tsOut (t := 105) dX5_needsParentheses_1 (by omega) (by decide) ?_
  refine Sm.iconst dX5_needsParentheses_105 ic_0 rfl ?_
  exact Sm.ret dX5_needsParentheses_106 (Or.inl rfl) rfl
set_option maxRecDepth 20000 in
theorem kc_X5_57 {ρ : Type} {rv : ρ → Option Value} {G : Gx} {pc q : Nat} {lv st : List Value} {h : Hp} {x0 : Int32} {x1 : Int32} {x2 : Int32} {e : Int32 → Hp → Option (ρ × Hp)} (d : decode G.2.1 pc = .ok (.invokestatic 57, 3)) (ho : G.1.cls = RX5) (hdep : (g_X5_needsParentheses).2.2.2.2 < G.2.2.2.2) (hcat : catS st ≤ 8) (hq : pc + 3 = q) (k : ∀ r h1, Sm rv G q lv (.int r :: st) h1 (e r h1)) : Sm rv G pc lv (.int x2 :: .int x1 :: .int x0 :: st) h (bd (f_X5_needsParentheses x0 x1 x2 h) e) :=
  Sm.callS (rv' := rvI) (as := [.int x0, .int x1, .int x2]) (n := 3) (t_X5_needsParentheses x0 x1 x2 h) ho mw_459 mw_460 mw_7 mw_461 ⟨⟨by decide, rfl, hdep, Nat.le_of_ble_eq_true rfl⟩, Nat.le_of_ble_eq_true rfl, rfl, ⟨by decide, by decide⟩, hcat⟩ (by decide +kernel) (by intro v hv; simp only [List.mem_cons, List.not_mem_nil, or_false] at hv; rcases hv with rfl | rfl | rfl <;> intro x hx <;> cases hx) d hq k rfl
abbrev g_X5_measured : Gx := (yX5_measured, cX5_measured, 8, (Option.some FieldType.int), 2)
def f_X5_measured_91 (k21 : (Int32 × Int32 × Hp) → Option (Int32 × Hp)) (l0 : Nat) (l1 : Nat) (l2 : Int32) (l3 : Int32) (l4 : Int32) (l5 : Int32) (l6 : Int32) (l7 : Int32) (h : Hp) : Option (Int32 × Hp) :=
  (ck h l0 5
((gP h l0 1).bind fun v24 =>
(ca h v24 20 l7
(nm (l5 + (gI h v24 l7.toNatClampNeg)) fun v26 =>
(nm (l6 + (1 : Int32)) fun v27 =>
(k21 (v26, v27, h)))))))
set_option maxRecDepth 20000 in
theorem t_X5_measured_91 (l0 : Nat) (l1 : Nat) (l2 : Int32) (l3 : Int32) (l4 : Int32) (l5 : Int32) (l6 : Int32) (l7 : Int32) (h : Hp) (k21 : (Int32 × Int32 × Hp) → Option (Int32 × Hp)) (hk21 : ∀ s : Int32 × Int32 × Hp, Sm rvI g_X5_measured 21 [.ref l0, .ref l1, .int l2, .int l3, .int l4, .int s.1, .int s.2.1, .null] [] s.2.2 (k21 s)) : Sm rvI g_X5_measured 91 [.ref l0, .ref l1, .int l2, .int l3, .int l4, .int l5, .int l6, .int l7] [] h (f_X5_measured_91 k21 l0 l1 l2 l3 l4 l5 l6 l7 h) := by
  unfold f_X5_measured_91
  refine Sm.iload dX5_measured_91 rfl rfl ?_
  refine Sm.aload_n dX5_measured_93 rfl rfl rfl ?_
  refine Sm.ck (fun o23 => ?_)
  refine gf_X5_15 o23 dX5_measured_94 rfl rfl (fun v24 => ?_)
  refine Sm.iload dX5_measured_97 rfl rfl ?_
  refine Sm.ca (fun q25 => ?_)
  refine Sm.iald q25 dX5_measured_99 rfl ?_
  refine Sm.iadd dX5_measured_100 rfl ?_
  refine Sm.nm (LV := fun v26 => [.ref l0, .ref l1, .int l2, .int l3, .int l4, .int l5, .int l6, .int l7]) (ST := fun v26 => [.int v26]) (fun v26 => ?_)
  refine Sm.istore (lv' := [.ref l0, .ref l1, .int l2, .int l3, .int l4, .int v26, .int l6, .int l7]) dX5_measured_101 (Nat.le_of_ble_eq_true rfl) rfl rfl ?_
  refine Sm.iinc (lv' := [.ref l0, .ref l1, .int l2, .int l3, .int l4, .int v26, .int (l6 + (1 : Int32)), .int l7]) dX5_measured_103 rfl ic_1 rfl rfl ?_
  refine Sm.nm (LV := fun v27 => [.ref l0, .ref l1, .int l2, .int l3, .int l4, .int v26, .int v27, .int l7]) (ST := fun v27 => []) (fun v27 => ?_)
  refine Sm.goto (t := 21) dX5_measured_106 (by decide) ?_
  exact Sm.wk (hk21 (v26, v27, h)) ⟨Or.inr rfl, Or.inr rfl, Or.inr rfl, Or.inr rfl, Or.inr rfl, Or.inr rfl, Or.inr rfl, Or.inl rfl, trivial⟩
def f_X5_measured_66 (k21 : (Int32 × Int32 × Hp) → Option (Int32 × Hp)) (l0 : Nat) (l1 : Nat) (l2 : Int32) (l3 : Int32) (l4 : Int32) (l5 : Int32) (l6 : Int32) (l7 : Int32) (s0 : Int32) (s1 : Int32) (s2 : Int32) (h : Hp) : Option (Int32 × Hp) :=
  (bd (f_X5_needsParentheses s0 s1 s2 h) fun v20 h21 =>
(if v20 = 0 then
(f_X5_measured_91 k21 l0 l1 l2 l3 l4 l5 l6 l7 h21)
else
(ck h21 l0 5
((gP h21 l0 2).bind fun v29 =>
(ca h21 v29 21 l7
((gP (sI h21 v29 l7.toNatClampNeg (1 : Int32)) l0 1).bind fun v31 =>
(ca (sI h21 v29 l7.toNatClampNeg (1 : Int32)) v31 20 l7
(ca (sI h21 v29 l7.toNatClampNeg (1 : Int32)) v31 20 l7
(nm (sI (sI h21 v29 l7.toNatClampNeg (1 : Int32)) v31 l7.toNatClampNeg ((gI (sI h21 v29 l7.toNatClampNeg (1 : Int32)) v31 l7.toNatClampNeg) + (2 : Int32))) fun h34 =>
(f_X5_measured_91 k21 l0 l1 l2 l3 l4 l5 l6 l7 h34))))))))))
set_option maxRecDepth 20000 in
theorem t_X5_measured_66 (l0 : Nat) (l1 : Nat) (l2 : Int32) (l3 : Int32) (l4 : Int32) (l5 : Int32) (l6 : Int32) (l7 : Int32) (s0 : Int32) (s1 : Int32) (s2 : Int32) (h : Hp) (k21 : (Int32 × Int32 × Hp) → Option (Int32 × Hp)) (hk21 : ∀ s : Int32 × Int32 × Hp, Sm rvI g_X5_measured 21 [.ref l0, .ref l1, .int l2, .int l3, .int l4, .int s.1, .int s.2.1, .null] [] s.2.2 (k21 s)) : Sm rvI g_X5_measured 66 [.ref l0, .ref l1, .int l2, .int l3, .int l4, .int l5, .int l6, .int l7] [.int s2, .int s1, .int s0] h (f_X5_measured_66 k21 l0 l1 l2 l3 l4 l5 l6 l7 s0 s1 s2 h) := by
  unfold f_X5_measured_66
  refine kc_X5_57 dX5_measured_66 rfl (Nat.le_of_ble_eq_true rfl) (Nat.le_of_ble_eq_true rfl) rfl (fun v20 h21 => ?_)
  refine Sm.if_eq (t := 91) dX5_measured_69 (by decide) rfl (fun b22 => ?_) (fun b22 => ?_)
  · exact Sm.wk (t_X5_measured_91 l0 l1 l2 l3 l4 l5 l6 l7 h21 k21 hk21) ⟨Or.inr rfl, Or.inr rfl, Or.inr rfl, Or.inr rfl, Or.inr rfl, Or.inr rfl, Or.inr rfl, Or.inr rfl, trivial⟩
  · refine Sm.aload_n dX5_measured_72 rfl rfl rfl ?_
    refine Sm.ck (fun o28 => ?_)
    refine gf_X5_18 o28 dX5_measured_73 rfl rfl (fun v29 => ?_)
    refine Sm.iload dX5_measured_76 rfl rfl ?_
    refine Sm.iconst dX5_measured_78 ic_1 rfl ?_
    refine Sm.ca (fun q30 => ?_)
    refine Sm.zast (Or.inr rfl) q30 dX5_measured_79 rfl ?_
    refine Sm.aload_n dX5_measured_80 rfl rfl rfl ?_
    refine gf_X5_15 o28 dX5_measured_81 rfl rfl (fun v31 => ?_)
    refine Sm.iload dX5_measured_84 rfl rfl ?_
    refine Sm.dup2 dX5_measured_86 rfl rfl rfl ?_
    refine Sm.ca (fun q32 => ?_)
    refine Sm.iald q32 dX5_measured_87 rfl ?_
    refine Sm.iconst dX5_measured_88 ic_2 rfl ?_
    refine Sm.iadd dX5_measured_89 rfl ?_
    refine Sm.ca (fun q33 => ?_)
    refine Sm.iast q33 dX5_measured_90 rfl ?_
    refine Sm.nmH (fun h34 e35 e36 => ?_)
    exact Sm.wk (t_X5_measured_91 l0 l1 l2 l3 l4 l5 l6 l7 h34 k21 hk21) ⟨Or.inr rfl, Or.inr rfl, Or.inr rfl, Or.inr rfl, Or.inr rfl, Or.inr rfl, Or.inr rfl, Or.inr rfl, trivial⟩
def f_X5_measured_21 (k21 : (Int32 × Int32 × Hp) → Option (Int32 × Hp)) (l0 : Nat) (l1 : Nat) (l2 : Int32) (l3 : Int32) (l4 : Int32) (l5 : Int32) (l6 : Int32) (h : Hp) : Option (Int32 × Hp) :=
  (if l4 ≤ l6 then
(some (l5, h))
else
(ck h l1 4
(bd (f_X4_operandAt l1 l2 l6 h) fun v10 h11 =>
(if v10 < 0 then
(nm (l6 + (1 : Int32)) fun v13 =>
(k21 (l5, v13, h11)))
else
(if (60 : Int32) ≤ v10 then
(nm (l6 + (1 : Int32)) fun v15 =>
(k21 (l5, v15, h11)))
else
(ck h11 l1 4
(bd (f_X4_kindAt l1 v10 h11) fun v17 h18 =>
(if l6 = 0 then
(f_X5_measured_66 k21 l0 l1 l2 l3 l4 l5 l6 v10 l3 v17 (1 : Int32) h18)
else
(f_X5_measured_66 k21 l0 l1 l2 l3 l4 l5 l6 v10 l3 v17 (0 : Int32) h18)))))))))
set_option maxRecDepth 20000 in
theorem t_X5_measured_21 (l0 : Nat) (l1 : Nat) (l2 : Int32) (l3 : Int32) (l4 : Int32) (l5 : Int32) (l6 : Int32) (h : Hp) (k21 : (Int32 × Int32 × Hp) → Option (Int32 × Hp)) (hk21 : ∀ s : Int32 × Int32 × Hp, Sm rvI g_X5_measured 21 [.ref l0, .ref l1, .int l2, .int l3, .int l4, .int s.1, .int s.2.1, .null] [] s.2.2 (k21 s)) : Sm rvI g_X5_measured 21 [.ref l0, .ref l1, .int l2, .int l3, .int l4, .int l5, .int l6, .null] [] h (f_X5_measured_21 k21 l0 l1 l2 l3 l4 l5 l6 h) := by
  unfold f_X5_measured_21
  refine Sm.iload dX5_measured_21 rfl rfl ?_
  refine Sm.iload dX5_measured_23 rfl rfl ?_
  refine Sm.icmp_ge (t := 109) dX5_measured_25 (by decide) rfl (fun b8 => ?_) (fun b8 => ?_)
  · refine Sm.iload dX5_measured_109 rfl rfl ?_
    exact Sm.ret dX5_measured_111 trivial rfl
  · refine Sm.aload_n dX5_measured_28 rfl rfl rfl ?_
    refine Sm.iload_n dX5_measured_29 rfl rfl rfl ?_
    refine Sm.iload dX5_measured_30 rfl rfl ?_
    refine Sm.ck (fun o9 => ?_)
    refine kc_X5_53 o9 dX5_measured_32 rfl (Nat.le_of_ble_eq_true rfl) (Nat.le_of_ble_eq_true rfl) rfl (fun v10 h11 => ?_)
    refine Sm.istore (lv' := [.ref l0, .ref l1, .int l2, .int l3, .int l4, .int l5, .int l6, .int v10]) dX5_measured_35 (Nat.le_of_ble_eq_true rfl) rfl rfl ?_
    refine Sm.iload dX5_measured_37 rfl rfl ?_
    refine Sm.if_lt (t := 103) dX5_measured_39 (by decide) rfl (fun b12 => ?_) (fun b12 => ?_)
    · refine Sm.iinc (lv' := [.ref l0, .ref l1, .int l2, .int l3, .int l4, .int l5, .int (l6 + (1 : Int32)), .int v10]) dX5_measured_103 rfl ic_1 rfl rfl ?_
      refine Sm.nm (LV := fun v13 => [.ref l0, .ref l1, .int l2, .int l3, .int l4, .int l5, .int v13, .int v10]) (ST := fun v13 => []) (fun v13 => ?_)
      refine Sm.goto (t := 21) dX5_measured_106 (by decide) ?_
      exact Sm.wk (hk21 (l5, v13, h11)) ⟨Or.inr rfl, Or.inr rfl, Or.inr rfl, Or.inr rfl, Or.inr rfl, Or.inr rfl, Or.inr rfl, Or.inl rfl, trivial⟩
    · refine Sm.iload dX5_measured_42 rfl rfl ?_
      refine Sm.bipush dX5_measured_44 bp_60 rfl ?_
      refine Sm.icmp_ge (t := 103) dX5_measured_46 (by decide) rfl (fun b14 => ?_) (fun b14 => ?_)
      · refine Sm.iinc (lv' := [.ref l0, .ref l1, .int l2, .int l3, .int l4, .int l5, .int (l6 + (1 : Int32)), .int v10]) dX5_measured_103 rfl ic_1 rfl rfl ?_
        refine Sm.nm (LV := fun v15 => [.ref l0, .ref l1, .int l2, .int l3, .int l4, .int l5, .int v15, .int v10]) (ST := fun v15 => []) (fun v15 => ?_)
        refine Sm.goto (t := 21) dX5_measured_106 (by decide) ?_
        exact Sm.wk (hk21 (l5, v15, h11)) ⟨Or.inr rfl, Or.inr rfl, Or.inr rfl, Or.inr rfl, Or.inr rfl, Or.inr rfl, Or.inr rfl, Or.inl rfl, trivial⟩
      · refine Sm.iload_n dX5_measured_49 rfl rfl rfl ?_
        refine Sm.aload_n dX5_measured_50 rfl rfl rfl ?_
        refine Sm.iload dX5_measured_51 rfl rfl ?_
        refine Sm.ck (fun o16 => ?_)
        refine kc_X5_43 o16 dX5_measured_53 rfl (Nat.le_of_ble_eq_true rfl) (Nat.le_of_ble_eq_true rfl) rfl (fun v17 h18 => ?_)
        refine Sm.iload dX5_measured_56 rfl rfl ?_
        refine Sm.if_ne (t := 65) dX5_measured_58 (by decide) rfl (fun b19 => ?_) (fun b19 => ?_)
        · refine Sm.iconst dX5_measured_61 ic_1 rfl ?_
          refine Sm.goto (t := 66) dX5_measured_62 (by decide) ?_
          exact Sm.wk (t_X5_measured_66 l0 l1 l2 l3 l4 l5 l6 v10 l3 v17 (1 : Int32) h18 k21 hk21) ⟨Or.inr rfl, Or.inr rfl, Or.inr rfl, Or.inr rfl, Or.inr rfl, Or.inr rfl, Or.inr rfl, Or.inr rfl, trivial⟩
        · refine Sm.iconst dX5_measured_65 ic_0 rfl ?_
          exact Sm.wk (t_X5_measured_66 l0 l1 l2 l3 l4 l5 l6 v10 l3 v17 (0 : Int32) h18 k21 hk21) ⟨Or.inr rfl, Or.inr rfl, Or.inr rfl, Or.inr rfl, Or.inr rfl, Or.inr rfl, Or.inr rfl, Or.inr rfl, trivial⟩
def f_X5_measured (l0 : Nat) (l1 : Nat) (l2 : Int32) (h : Hp) : Option (Int32 × Hp) :=
  (ck h l1 4
(bd (f_X4_kindAt l1 l2 h) fun v2 h3 =>
(bd (f_X4_operandsOf v2 h3) fun v4 h5 =>
(bd (f_X5_ownLength v2 h5) fun v6 h7 =>
(loopN (fun k s => f_X5_measured_21 k l0 l1 l2 v2 v4 s.1 s.2.1 s.2.2) 5000 (v6, (0 : Int32), h7))))))
set_option maxRecDepth 20000 in
theorem t_X5_measured (l0 : Nat) (l1 : Nat) (l2 : Int32) (h : Hp) : Sm rvI g_X5_measured 0 (ent 8 [.ref l0, .ref l1, .int l2]) [] h (f_X5_measured l0 l1 l2 h) := by
  show Sm rvI g_X5_measured 0 [.ref l0, .ref l1, .int l2, .null, .null, .null, .null, .null] [] h _
  unfold f_X5_measured
  refine Sm.aload_n dX5_measured_0 rfl rfl rfl ?_
  refine Sm.iload_n dX5_measured_1 rfl rfl rfl ?_
  refine Sm.ck (fun o1 => ?_)
  refine kc_X5_43 o1 dX5_measured_2 rfl (Nat.le_of_ble_eq_true rfl) (Nat.le_of_ble_eq_true rfl) rfl (fun v2 h3 => ?_)
  refine Sm.istore_n (lv' := [.ref l0, .ref l1, .int l2, .int v2, .null, .null, .null, .null]) dX5_measured_5 rfl (Nat.le_of_ble_eq_true rfl) rfl rfl ?_
  refine Sm.iload_n dX5_measured_6 rfl rfl rfl ?_
  refine kc_X5_47 dX5_measured_7 rfl (Nat.le_of_ble_eq_true rfl) (Nat.le_of_ble_eq_true rfl) rfl (fun v4 h5 => ?_)
  refine Sm.istore (lv' := [.ref l0, .ref l1, .int l2, .int v2, .int v4, .null, .null, .null]) dX5_measured_10 (Nat.le_of_ble_eq_true rfl) rfl rfl ?_
  refine Sm.iload_n dX5_measured_12 rfl rfl rfl ?_
  refine kc_X5_50 dX5_measured_13 rfl (Nat.le_of_ble_eq_true rfl) (Nat.le_of_ble_eq_true rfl) rfl (fun v6 h7 => ?_)
  refine Sm.istore (lv' := [.ref l0, .ref l1, .int l2, .int v2, .int v4, .int v6, .null, .null]) dX5_measured_16 (Nat.le_of_ble_eq_true rfl) rfl rfl ?_
  refine Sm.iconst dX5_measured_18 ic_0 rfl ?_
  refine Sm.istore (lv' := [.ref l0, .ref l1, .int l2, .int v2, .int v4, .int v6, .int (0 : Int32), .null]) dX5_measured_19 (Nat.le_of_ble_eq_true rfl) rfl rfl ?_
  exact Sm.wk (Sm.loop (σ := Int32 × Int32 × Hp) (LV := fun s => [.ref l0, .ref l1, .int l2, .int v2, .int v4, .int s.1, .int s.2.1, .null]) (HH := fun s => s.2.2) (fun k hk s => t_X5_measured_21 l0 l1 l2 v2 v4 s.1 s.2.1 s.2.2 k hk) 5000 (v6, (0 : Int32), h7)) ⟨Or.inr rfl, Or.inr rfl, Or.inr rfl, Or.inr rfl, Or.inr rfl, Or.inr rfl, Or.inr rfl, Or.inl rfl, trivial⟩
set_option maxRecDepth 20000 in
theorem kc_X5_35 {ρ : Type} {rv : ρ → Option Value} {G : Gx} {pc q : Nat} {lv st : List Value} {h : Hp} {a : Nat} {x1 : Nat} {x2 : Int32} {e : Int32 → Hp → Option (ρ × Hp)} (hk : isO h a 5) (d : decode G.2.1 pc = .ok (.invokevirtual 35, 3)) (ho : G.1.cls = RX5) (hdep : (g_X5_measured).2.2.2.2 < G.2.2.2.2) (hcat : catS st ≤ 8) (hq : pc + 3 = q) (k : ∀ r h1, Sm rv G q lv (.int r :: st) h1 (e r h1)) : Sm rv G pc lv (.int x2 :: .ref x1 :: .ref a :: st) h (bd (f_X5_measured a x1 x2 h) e) :=
  Sm.callV (rv' := rvI) (args := [.ref x1, .int x2]) (n := 2) (t_X5_measured a x1 x2 h) hk (by decide) (r := (RX5, TX5, 5)) rfl rfl ho mw_439 mw_441 mp_20 mw_7 mw_442 ⟨⟨by decide, rfl, hdep, Nat.le_of_ble_eq_true rfl⟩, Nat.le_of_ble_eq_true rfl, rfl, ⟨by decide, by decide⟩, hcat⟩ (by decide +kernel) (by intro v hv; simp only [List.mem_cons, List.not_mem_nil, or_false] at hv; rcases hv with rfl | rfl <;> intro x hx <;> cases hx) d hq k rfl
abbrev g_X5_innerPlace : Gx := (yX5_innerPlace, cX5_innerPlace, 2, (Option.some FieldType.int), 0)
def f_X5_innerPlace (l0 : Nat) (l1 : Int32) (h : Hp) : Option (Int32 × Hp) :=
  (if l1 < 0 then
(some ((0 : Int32), h))
else
(if l1 < (60 : Int32) then
(ck h l0 5
((gP h l0 2).bind fun v4 =>
(ca h v4 21 l1
(if (gI h v4 l1.toNatClampNeg) = 0 then
((gP h l0 3).bind fun v7 =>
(ca h v7 20 l1
(some ((gI h v7 l1.toNatClampNeg), h))))
else
((gP h l0 3).bind fun v9 =>
(ca h v9 20 l1
(some (((gI h v9 l1.toNatClampNeg) + (1 : Int32)), h))))))))
else
(some ((0 : Int32), h))))
set_option maxRecDepth 20000 in
theorem t_X5_innerPlace (l0 : Nat) (l1 : Int32) (h : Hp) : Sm rvI g_X5_innerPlace 0 (ent 2 [.ref l0, .int l1]) [] h (f_X5_innerPlace l0 l1 h) := by
  show Sm rvI g_X5_innerPlace 0 [.ref l0, .int l1] [] h _
  unfold f_X5_innerPlace
  refine Sm.iload_n dX5_innerPlace_0 rfl rfl rfl ?_
  refine Sm.if_lt (t := 10) dX5_innerPlace_1 (by decide) rfl (fun b1 => ?_) (fun b1 => ?_)
  · refine Sm.iconst dX5_innerPlace_10 ic_0 rfl ?_
    exact Sm.ret dX5_innerPlace_11 trivial rfl
  · refine Sm.iload_n dX5_innerPlace_4 rfl rfl rfl ?_
    refine Sm.bipush dX5_innerPlace_5 bp_60 rfl ?_
    refine Sm.icmp_lt (t := 12) dX5_innerPlace_7 (by decide) rfl (fun b2 => ?_) (fun b2 => ?_)
    · refine Sm.aload_n dX5_innerPlace_12 rfl rfl rfl ?_
      refine Sm.ck (fun o3 => ?_)
      refine gf_X5_18 o3 dX5_innerPlace_13 rfl rfl (fun v4 => ?_)
      refine Sm.iload_n dX5_innerPlace_16 rfl rfl rfl ?_
      refine Sm.ca (fun q5 => ?_)
      refine Sm.zald q5 dX5_innerPlace_17 rfl ?_
      refine Sm.if_eq (t := 32) dX5_innerPlace_18 (by decide) rfl (fun b6 => ?_) (fun b6 => ?_)
      · refine Sm.aload_n dX5_innerPlace_32 rfl rfl rfl ?_
        refine gf_X5_22 o3 dX5_innerPlace_33 rfl rfl (fun v7 => ?_)
        refine Sm.iload_n dX5_innerPlace_36 rfl rfl rfl ?_
        refine Sm.ca (fun q8 => ?_)
        refine Sm.iald q8 dX5_innerPlace_37 rfl ?_
        exact Sm.ret dX5_innerPlace_38 trivial rfl
      · refine Sm.aload_n dX5_innerPlace_21 rfl rfl rfl ?_
        refine gf_X5_22 o3 dX5_innerPlace_22 rfl rfl (fun v9 => ?_)
        refine Sm.iload_n dX5_innerPlace_25 rfl rfl rfl ?_
        refine Sm.ca (fun q10 => ?_)
        refine Sm.iald q10 dX5_innerPlace_26 rfl ?_
        refine Sm.iconst dX5_innerPlace_27 ic_1 rfl ?_
        refine Sm.iadd dX5_innerPlace_28 rfl ?_
        refine Sm.goto (t := 38) dX5_innerPlace_29 (by decide) ?_
        exact Sm.ret dX5_innerPlace_38 trivial rfl
    · refine Sm.iconst dX5_innerPlace_10 ic_0 rfl ?_
      exact Sm.ret dX5_innerPlace_11 trivial rfl
set_option maxRecDepth 20000 in
theorem kc_X5_61 {ρ : Type} {rv : ρ → Option Value} {G : Gx} {pc q : Nat} {lv st : List Value} {h : Hp} {a : Nat} {x1 : Int32} {e : Int32 → Hp → Option (ρ × Hp)} (hk : isO h a 5) (d : decode G.2.1 pc = .ok (.invokevirtual 61, 3)) (ho : G.1.cls = RX5) (hdep : (g_X5_innerPlace).2.2.2.2 < G.2.2.2.2) (hcat : catS st ≤ 8) (hq : pc + 3 = q) (k : ∀ r h1, Sm rv G q lv (.int r :: st) h1 (e r h1)) : Sm rv G pc lv (.int x1 :: .ref a :: st) h (bd (f_X5_innerPlace a x1 h) e) :=
  Sm.callV (rv' := rvI) (args := [.int x1]) (n := 1) (t_X5_innerPlace a x1 h) hk (by decide) (r := (RX5, TX5, 5)) rfl rfl ho mw_466 mw_468 mp_23 mw_7 mw_469 ⟨⟨by decide, rfl, hdep, Nat.le_of_ble_eq_true rfl⟩, Nat.le_of_ble_eq_true rfl, rfl, ⟨by decide, by decide⟩, hcat⟩ (by decide +kernel) (by intro v hv; simp only [List.mem_cons, List.not_mem_nil, or_false] at hv; rcases hv with rfl <;> intro x hx <;> cases hx) d hq k rfl
abbrev g_X5_put : Gx := (yX5_put, cX5_put, 3, (Option.none : Option FieldType), 0)
def f_X5_put (l0 : Nat) (l1 : Int32) (l2 : Int32) (h : Hp) : Option (Unit × Hp) :=
  (if l1 < 0 then
(some ((), h))
else
(if (360 : Int32) ≤ l1 then
(some ((), h))
else
(ck h l0 5
((gP h l0 0).bind fun v4 =>
(ca h v4 20 l1
(some ((), (sI h v4 l1.toNatClampNeg l2))))))))
set_option maxRecDepth 20000 in
theorem t_X5_put (l0 : Nat) (l1 : Int32) (l2 : Int32) (h : Hp) : Sm rvV g_X5_put 0 (ent 3 [.ref l0, .int l1, .int l2]) [] h (f_X5_put l0 l1 l2 h) := by
  show Sm rvV g_X5_put 0 [.ref l0, .int l1, .int l2] [] h _
  unfold f_X5_put
  refine Sm.iload_n dX5_put_0 rfl rfl rfl ?_
  refine Sm.if_lt (t := 18) dX5_put_1 (by decide) rfl (fun b1 => ?_) (fun b1 => ?_)
  · exact Sm.ret (r := ()) dX5_put_18 trivial rfl
  · refine Sm.iload_n dX5_put_4 rfl rfl rfl ?_
    refine Sm.sipush dX5_put_5 sp_360 rfl ?_
    refine Sm.icmp_ge (t := 18) dX5_put_8 (by decide) rfl (fun b2 => ?_) (fun b2 => ?_)
    · exact Sm.ret (r := ()) dX5_put_18 trivial rfl
    · refine Sm.aload_n dX5_put_11 rfl rfl rfl ?_
      refine Sm.ck (fun o3 => ?_)
      refine gf_X5_11 o3 dX5_put_12 rfl rfl (fun v4 => ?_)
      refine Sm.iload_n dX5_put_15 rfl rfl rfl ?_
      refine Sm.iload_n dX5_put_16 rfl rfl rfl ?_
      refine Sm.ca (fun q5 => ?_)
      refine Sm.iast q5 dX5_put_17 rfl ?_
      exact Sm.ret (r := ()) dX5_put_18 trivial rfl
set_option maxRecDepth 20000 in
theorem kc_X5_64 {ρ : Type} {rv : ρ → Option Value} {G : Gx} {pc q : Nat} {lv st : List Value} {h : Hp} {a : Nat} {x1 : Int32} {x2 : Int32} {e : Unit → Hp → Option (ρ × Hp)} (hk : isO h a 5) (d : decode G.2.1 pc = .ok (.invokevirtual 64, 3)) (ho : G.1.cls = RX5) (hdep : (g_X5_put).2.2.2.2 < G.2.2.2.2) (hcat : catS st ≤ 8) (hq : pc + 3 = q) (k : ∀ r h1, Sm rv G q lv (st) h1 (e r h1)) : Sm rv G pc lv (.int x2 :: .int x1 :: .ref a :: st) h (bd (f_X5_put a x1 x2 h) e) :=
  Sm.callV (rv' := rvV) (args := [.int x1, .int x2]) (n := 2) (t_X5_put a x1 x2 h) hk (by decide) (r := (RX5, TX5, 5)) rfl rfl ho mw_470 mw_472 mp_24 mw_7 mw_473 ⟨⟨by decide, rfl, hdep, Nat.le_of_ble_eq_true rfl⟩, Nat.le_of_ble_eq_true rfl, rfl, ⟨by decide, by decide⟩, hcat⟩ (by decide +kernel) (by intro v hv; simp only [List.mem_cons, List.not_mem_nil, or_false] at hv; rcases hv with rfl | rfl <;> intro x hx <;> cases hx) d hq k rfl
abbrev g_X5_printLeaf : Gx := (yX5_printLeaf, cX5_printLeaf, 5, (Option.none : Option FieldType), 2)
def f_X5_printLeaf (l0 : Nat) (l1 : Nat) (l2 : Int32) (l3 : Int32) (h : Hp) : Option (Unit × Hp) :=
  (ck h l0 5
(bd (f_X5_innerPlace l0 l2 h) fun v2 h3 =>
(ck h3 l1 4
(bd (f_X4_fieldAt l1 l2 h3) fun v5 h6 =>
(ck h6 l0 5
(bd (f_X5_put l0 v2 ((120 : Int32) + v5) h6) fun _ h8 =>
(ck h8 l0 5
(bd (f_X5_put l0 (v2 + (1 : Int32)) l3 h8) fun _ h10 =>
(ck h10 l1 4
(bd (f_X4_valueAt l1 l2 h10) fun v12 h13 =>
(ck h13 l0 5
(bd (f_X5_put l0 (v2 + (2 : Int32)) ((48 : Int32) + v12) h13) fun _ h15 =>
(some ((), h15))))))))))))))
set_option maxRecDepth 20000 in
theorem t_X5_printLeaf (l0 : Nat) (l1 : Nat) (l2 : Int32) (l3 : Int32) (h : Hp) : Sm rvV g_X5_printLeaf 0 (ent 5 [.ref l0, .ref l1, .int l2, .int l3]) [] h (f_X5_printLeaf l0 l1 l2 l3 h) := by
  show Sm rvV g_X5_printLeaf 0 [.ref l0, .ref l1, .int l2, .int l3, .null] [] h _
  unfold f_X5_printLeaf
  refine Sm.aload_n dX5_printLeaf_0 rfl rfl rfl ?_
  refine Sm.iload_n dX5_printLeaf_1 rfl rfl rfl ?_
  refine Sm.ck (fun o1 => ?_)
  refine kc_X5_61 o1 dX5_printLeaf_2 rfl (Nat.le_of_ble_eq_true rfl) (Nat.le_of_ble_eq_true rfl) rfl (fun v2 h3 => ?_)
  refine Sm.istore (lv' := [.ref l0, .ref l1, .int l2, .int l3, .int v2]) dX5_printLeaf_5 (Nat.le_of_ble_eq_true rfl) rfl rfl ?_
  refine Sm.aload_n dX5_printLeaf_7 rfl rfl rfl ?_
  refine Sm.iload dX5_printLeaf_8 rfl rfl ?_
  refine Sm.bipush dX5_printLeaf_10 bp_120 rfl ?_
  refine Sm.aload_n dX5_printLeaf_12 rfl rfl rfl ?_
  refine Sm.iload_n dX5_printLeaf_13 rfl rfl rfl ?_
  refine Sm.ck (fun o4 => ?_)
  refine kc_X5_81 o4 dX5_printLeaf_14 rfl (Nat.le_of_ble_eq_true rfl) (Nat.le_of_ble_eq_true rfl) rfl (fun v5 h6 => ?_)
  refine Sm.iadd dX5_printLeaf_17 rfl ?_
  refine Sm.ck (fun o7 => ?_)
  refine kc_X5_64 o7 dX5_printLeaf_18 rfl (Nat.le_of_ble_eq_true rfl) (Nat.le_of_ble_eq_true rfl) rfl (fun _ h8 => ?_)
  refine Sm.aload_n dX5_printLeaf_21 rfl rfl rfl ?_
  refine Sm.iload dX5_printLeaf_22 rfl rfl ?_
  refine Sm.iconst dX5_printLeaf_24 ic_1 rfl ?_
  refine Sm.iadd dX5_printLeaf_25 rfl ?_
  refine Sm.iload_n dX5_printLeaf_26 rfl rfl rfl ?_
  refine Sm.ck (fun o9 => ?_)
  refine kc_X5_64 o9 dX5_printLeaf_27 rfl (Nat.le_of_ble_eq_true rfl) (Nat.le_of_ble_eq_true rfl) rfl (fun _ h10 => ?_)
  refine Sm.aload_n dX5_printLeaf_30 rfl rfl rfl ?_
  refine Sm.iload dX5_printLeaf_31 rfl rfl ?_
  refine Sm.iconst dX5_printLeaf_33 ic_2 rfl ?_
  refine Sm.iadd dX5_printLeaf_34 rfl ?_
  refine Sm.bipush dX5_printLeaf_35 bp_48 rfl ?_
  refine Sm.aload_n dX5_printLeaf_37 rfl rfl rfl ?_
  refine Sm.iload_n dX5_printLeaf_38 rfl rfl rfl ?_
  refine Sm.ck (fun o11 => ?_)
  refine kc_X5_84 o11 dX5_printLeaf_39 rfl (Nat.le_of_ble_eq_true rfl) (Nat.le_of_ble_eq_true rfl) rfl (fun v12 h13 => ?_)
  refine Sm.iadd dX5_printLeaf_42 rfl ?_
  refine Sm.ck (fun o14 => ?_)
  refine kc_X5_64 o14 dX5_printLeaf_43 rfl (Nat.le_of_ble_eq_true rfl) (Nat.le_of_ble_eq_true rfl) rfl (fun _ h15 => ?_)
  exact Sm.ret (r := ()) dX5_printLeaf_46 trivial rfl
set_option maxRecDepth 20000 in
theorem kc_X5_68 {ρ : Type} {rv : ρ → Option Value} {G : Gx} {pc q : Nat} {lv st : List Value} {h : Hp} {a : Nat} {x1 : Nat} {x2 : Int32} {x3 : Int32} {e : Unit → Hp → Option (ρ × Hp)} (hk : isO h a 5) (d : decode G.2.1 pc = .ok (.invokevirtual 68, 3)) (ho : G.1.cls = RX5) (hdep : (g_X5_printLeaf).2.2.2.2 < G.2.2.2.2) (hcat : catS st ≤ 8) (hq : pc + 3 = q) (k : ∀ r h1, Sm rv G q lv (st) h1 (e r h1)) : Sm rv G pc lv (.int x3 :: .int x2 :: .ref x1 :: .ref a :: st) h (bd (f_X5_printLeaf a x1 x2 x3 h) e) :=
  Sm.callV (rv' := rvV) (args := [.ref x1, .int x2, .int x3]) (n := 3) (t_X5_printLeaf a x1 x2 x3 h) hk (by decide) (r := (RX5, TX5, 5)) rfl rfl ho mw_474 mw_476 mp_25 mw_7 mw_477 ⟨⟨by decide, rfl, hdep, Nat.le_of_ble_eq_true rfl⟩, Nat.le_of_ble_eq_true rfl, rfl, ⟨by decide, by decide⟩, hcat⟩ (by decide +kernel) (by intro v hv; simp only [List.mem_cons, List.not_mem_nil, or_false] at hv; rcases hv with rfl | rfl | rfl <;> intro x hx <;> cases hx) d hq k rfl
abbrev g_X5_placed : Gx := (yX5_placed, cX5_placed, 4, (Option.some FieldType.int), 1)
def f_X5_placed (l0 : Nat) (l1 : Int32) (l2 : Int32) (h : Hp) : Option (Int32 × Hp) :=
  (if l1 < 0 then
(some (l2, h))
else
(if l1 < (60 : Int32) then
(ck h l0 5
((gP h l0 1).bind fun v4 =>
(ca h v4 20 l1
(nm (l2 + (gI h v4 l1.toNatClampNeg)) fun v6 =>
((gP h l0 3).bind fun v7 =>
(ca h v7 20 l1
((gP (sI h v7 l1.toNatClampNeg l2) l0 2).bind fun v9 =>
(ca (sI h v7 l1.toNatClampNeg l2) v9 21 l1
(if (gI (sI h v7 l1.toNatClampNeg l2) v9 l1.toNatClampNeg) = 0 then
(some (v6, (sI h v7 l1.toNatClampNeg l2)))
else
(bd (f_X5_put l0 l2 (40 : Int32) (sI h v7 l1.toNatClampNeg l2)) fun _ h12 =>
(ck h12 l0 5
(bd (f_X5_put l0 (v6 - (1 : Int32)) (41 : Int32) h12) fun _ h14 =>
(some (v6, h14))))))))))))))
else
(some (l2, h))))
set_option maxRecDepth 20000 in
theorem t_X5_placed (l0 : Nat) (l1 : Int32) (l2 : Int32) (h : Hp) : Sm rvI g_X5_placed 0 (ent 4 [.ref l0, .int l1, .int l2]) [] h (f_X5_placed l0 l1 l2 h) := by
  show Sm rvI g_X5_placed 0 [.ref l0, .int l1, .int l2, .null] [] h _
  unfold f_X5_placed
  refine Sm.iload_n dX5_placed_0 rfl rfl rfl ?_
  refine Sm.if_lt (t := 10) dX5_placed_1 (by decide) rfl (fun b1 => ?_) (fun b1 => ?_)
  · refine Sm.iload_n dX5_placed_10 rfl rfl rfl ?_
    exact Sm.ret dX5_placed_11 trivial rfl
  · refine Sm.iload_n dX5_placed_4 rfl rfl rfl ?_
    refine Sm.bipush dX5_placed_5 bp_60 rfl ?_
    refine Sm.icmp_lt (t := 12) dX5_placed_7 (by decide) rfl (fun b2 => ?_) (fun b2 => ?_)
    · refine Sm.iload_n dX5_placed_12 rfl rfl rfl ?_
      refine Sm.aload_n dX5_placed_13 rfl rfl rfl ?_
      refine Sm.ck (fun o3 => ?_)
      refine gf_X5_15 o3 dX5_placed_14 rfl rfl (fun v4 => ?_)
      refine Sm.iload_n dX5_placed_17 rfl rfl rfl ?_
      refine Sm.ca (fun q5 => ?_)
      refine Sm.iald q5 dX5_placed_18 rfl ?_
      refine Sm.iadd dX5_placed_19 rfl ?_
      refine Sm.nm (LV := fun v6 => [.ref l0, .int l1, .int l2, .null]) (ST := fun v6 => [.int v6]) (fun v6 => ?_)
      refine Sm.istore_n (lv' := [.ref l0, .int l1, .int l2, .int v6]) dX5_placed_20 rfl (Nat.le_of_ble_eq_true rfl) rfl rfl ?_
      refine Sm.aload_n dX5_placed_21 rfl rfl rfl ?_
      refine gf_X5_22 o3 dX5_placed_22 rfl rfl (fun v7 => ?_)
      refine Sm.iload_n dX5_placed_25 rfl rfl rfl ?_
      refine Sm.iload_n dX5_placed_26 rfl rfl rfl ?_
      refine Sm.ca (fun q8 => ?_)
      refine Sm.iast q8 dX5_placed_27 rfl ?_
      refine Sm.aload_n dX5_placed_28 rfl rfl rfl ?_
      refine gf_X5_18 o3 dX5_placed_29 rfl rfl (fun v9 => ?_)
      refine Sm.iload_n dX5_placed_32 rfl rfl rfl ?_
      refine Sm.ca (fun q10 => ?_)
      refine Sm.zald q10 dX5_placed_33 rfl ?_
      refine Sm.if_eq (t := 53) dX5_placed_34 (by decide) rfl (fun b11 => ?_) (fun b11 => ?_)
      · refine Sm.iload_n dX5_placed_53 rfl rfl rfl ?_
        exact Sm.ret dX5_placed_54 trivial rfl
      · refine Sm.aload_n dX5_placed_37 rfl rfl rfl ?_
        refine Sm.iload_n dX5_placed_38 rfl rfl rfl ?_
        refine Sm.bipush dX5_placed_39 bp_40 rfl ?_
        refine kc_X5_64 o3 dX5_placed_41 rfl (Nat.le_of_ble_eq_true rfl) (Nat.le_of_ble_eq_true rfl) rfl (fun _ h12 => ?_)
        refine Sm.aload_n dX5_placed_44 rfl rfl rfl ?_
        refine Sm.iload_n dX5_placed_45 rfl rfl rfl ?_
        refine Sm.iconst dX5_placed_46 ic_1 rfl ?_
        refine Sm.isub dX5_placed_47 rfl ?_
        refine Sm.bipush dX5_placed_48 bp_41 rfl ?_
        refine Sm.ck (fun o13 => ?_)
        refine kc_X5_64 o13 dX5_placed_50 rfl (Nat.le_of_ble_eq_true rfl) (Nat.le_of_ble_eq_true rfl) rfl (fun _ h14 => ?_)
        refine Sm.iload_n dX5_placed_53 rfl rfl rfl ?_
        exact Sm.ret dX5_placed_54 trivial rfl
    · refine Sm.iload_n dX5_placed_10 rfl rfl rfl ?_
      exact Sm.ret dX5_placed_11 trivial rfl
set_option maxRecDepth 20000 in
theorem kc_X5_75 {ρ : Type} {rv : ρ → Option Value} {G : Gx} {pc q : Nat} {lv st : List Value} {h : Hp} {a : Nat} {x1 : Int32} {x2 : Int32} {e : Int32 → Hp → Option (ρ × Hp)} (hk : isO h a 5) (d : decode G.2.1 pc = .ok (.invokevirtual 75, 3)) (ho : G.1.cls = RX5) (hdep : (g_X5_placed).2.2.2.2 < G.2.2.2.2) (hcat : catS st ≤ 8) (hq : pc + 3 = q) (k : ∀ r h1, Sm rv G q lv (.int r :: st) h1 (e r h1)) : Sm rv G pc lv (.int x2 :: .int x1 :: .ref a :: st) h (bd (f_X5_placed a x1 x2 h) e) :=
  Sm.callV (rv' := rvI) (args := [.int x1, .int x2]) (n := 2) (t_X5_placed a x1 x2 h) hk (by decide) (r := (RX5, TX5, 5)) rfl rfl ho mw_490 mw_492 mp_27 mw_7 mw_493 ⟨⟨by decide, rfl, hdep, Nat.le_of_ble_eq_true rfl⟩, Nat.le_of_ble_eq_true rfl, rfl, ⟨by decide, by decide⟩, hcat⟩ (by decide +kernel) (by intro v hv; simp only [List.mem_cons, List.not_mem_nil, or_false] at hv; rcases hv with rfl | rfl <;> intro x hx <;> cases hx) d hq k rfl
abbrev g_X5_printPair : Gx := (yX5_printPair, cX5_printPair, 5, (Option.none : Option FieldType), 2)
def f_X5_printPair (l0 : Nat) (l1 : Nat) (l2 : Int32) (l3 : Int32) (h : Hp) : Option (Unit × Hp) :=
  (ck h l1 4
(bd (f_X4_operandAt l1 l2 (1 : Int32) h) fun v2 h3 =>
(ck h3 l0 5
(bd (f_X5_innerPlace l0 l2 h3) fun v5 h6 =>
(ck h6 l0 5
(bd (f_X5_placed l0 v2 v5 h6) fun v8 h9 =>
(ck h9 l0 5
(bd (f_X5_put l0 v8 l3 h9) fun _ h11 =>
(ck h11 l1 4
(bd (f_X4_operandAt l1 l2 (0 : Int32) h11) fun v13 h14 =>
(ck h14 l0 5
(bd (f_X5_placed l0 v13 (v8 + (1 : Int32)) h14) fun v16 h17 =>
(some ((), h17))))))))))))))
set_option maxRecDepth 20000 in
theorem t_X5_printPair (l0 : Nat) (l1 : Nat) (l2 : Int32) (l3 : Int32) (h : Hp) : Sm rvV g_X5_printPair 0 (ent 5 [.ref l0, .ref l1, .int l2, .int l3]) [] h (f_X5_printPair l0 l1 l2 l3 h) := by
  show Sm rvV g_X5_printPair 0 [.ref l0, .ref l1, .int l2, .int l3, .null] [] h _
  unfold f_X5_printPair
  refine Sm.aload_n dX5_printPair_0 rfl rfl rfl ?_
  refine Sm.aload_n dX5_printPair_1 rfl rfl rfl ?_
  refine Sm.iload_n dX5_printPair_2 rfl rfl rfl ?_
  refine Sm.iconst dX5_printPair_3 ic_1 rfl ?_
  refine Sm.ck (fun o1 => ?_)
  refine kc_X5_53 o1 dX5_printPair_4 rfl (Nat.le_of_ble_eq_true rfl) (Nat.le_of_ble_eq_true rfl) rfl (fun v2 h3 => ?_)
  refine Sm.aload_n dX5_printPair_7 rfl rfl rfl ?_
  refine Sm.iload_n dX5_printPair_8 rfl rfl rfl ?_
  refine Sm.ck (fun o4 => ?_)
  refine kc_X5_61 o4 dX5_printPair_9 rfl (Nat.le_of_ble_eq_true rfl) (Nat.le_of_ble_eq_true rfl) rfl (fun v5 h6 => ?_)
  refine Sm.ck (fun o7 => ?_)
  refine kc_X5_75 o7 dX5_printPair_12 rfl (Nat.le_of_ble_eq_true rfl) (Nat.le_of_ble_eq_true rfl) rfl (fun v8 h9 => ?_)
  refine Sm.istore (lv' := [.ref l0, .ref l1, .int l2, .int l3, .int v8]) dX5_printPair_15 (Nat.le_of_ble_eq_true rfl) rfl rfl ?_
  refine Sm.aload_n dX5_printPair_17 rfl rfl rfl ?_
  refine Sm.iload dX5_printPair_18 rfl rfl ?_
  refine Sm.iload_n dX5_printPair_20 rfl rfl rfl ?_
  refine Sm.ck (fun o10 => ?_)
  refine kc_X5_64 o10 dX5_printPair_21 rfl (Nat.le_of_ble_eq_true rfl) (Nat.le_of_ble_eq_true rfl) rfl (fun _ h11 => ?_)
  refine Sm.aload_n dX5_printPair_24 rfl rfl rfl ?_
  refine Sm.aload_n dX5_printPair_25 rfl rfl rfl ?_
  refine Sm.iload_n dX5_printPair_26 rfl rfl rfl ?_
  refine Sm.iconst dX5_printPair_27 ic_0 rfl ?_
  refine Sm.ck (fun o12 => ?_)
  refine kc_X5_53 o12 dX5_printPair_28 rfl (Nat.le_of_ble_eq_true rfl) (Nat.le_of_ble_eq_true rfl) rfl (fun v13 h14 => ?_)
  refine Sm.iload dX5_printPair_31 rfl rfl ?_
  refine Sm.iconst dX5_printPair_33 ic_1 rfl ?_
  refine Sm.iadd dX5_printPair_34 rfl ?_
  refine Sm.ck (fun o15 => ?_)
  refine kc_X5_75 o15 dX5_printPair_35 rfl (Nat.le_of_ble_eq_true rfl) (Nat.le_of_ble_eq_true rfl) rfl (fun v16 h17 => ?_)
  refine Sm.pop dX5_printPair_38 rfl rfl ?_
  exact Sm.ret (r := ()) dX5_printPair_39 trivial rfl
set_option maxRecDepth 20000 in
theorem kc_X5_72 {ρ : Type} {rv : ρ → Option Value} {G : Gx} {pc q : Nat} {lv st : List Value} {h : Hp} {a : Nat} {x1 : Nat} {x2 : Int32} {x3 : Int32} {e : Unit → Hp → Option (ρ × Hp)} (hk : isO h a 5) (d : decode G.2.1 pc = .ok (.invokevirtual 72, 3)) (ho : G.1.cls = RX5) (hdep : (g_X5_printPair).2.2.2.2 < G.2.2.2.2) (hcat : catS st ≤ 8) (hq : pc + 3 = q) (k : ∀ r h1, Sm rv G q lv (st) h1 (e r h1)) : Sm rv G pc lv (.int x3 :: .int x2 :: .ref x1 :: .ref a :: st) h (bd (f_X5_printPair a x1 x2 x3 h) e) :=
  Sm.callV (rv' := rvV) (args := [.ref x1, .int x2, .int x3]) (n := 3) (t_X5_printPair a x1 x2 x3 h) hk (by decide) (r := (RX5, TX5, 5)) rfl rfl ho mw_486 mw_488 mp_26 mw_7 mw_489 ⟨⟨by decide, rfl, hdep, Nat.le_of_ble_eq_true rfl⟩, Nat.le_of_ble_eq_true rfl, rfl, ⟨by decide, by decide⟩, hcat⟩ (by decide +kernel) (by intro v hv; simp only [List.mem_cons, List.not_mem_nil, or_false] at hv; rcases hv with rfl | rfl | rfl <;> intro x hx <;> cases hx) d hq k rfl
abbrev g_X5_printChoice : Gx := (yX5_printChoice, cX5_printChoice, 6, (Option.none : Option FieldType), 2)
def f_X5_printChoice (l0 : Nat) (l1 : Nat) (l2 : Int32) (h : Hp) : Option (Unit × Hp) :=
  (ck h l0 5
(bd (f_X5_innerPlace l0 l2 h) fun v2 h3 =>
(ck h3 l0 5
(bd (f_X5_put l0 v2 (91 : Int32) h3) fun _ h5 =>
(ck h5 l1 4
(bd (f_X4_operandAt l1 l2 (2 : Int32) h5) fun v7 h8 =>
(ck h8 l0 5
(bd (f_X5_placed l0 v7 (v2 + (1 : Int32)) h8) fun v10 h11 =>
(ck h11 l0 5
(bd (f_X5_put l0 v10 (63 : Int32) h11) fun _ h13 =>
(ck h13 l1 4
(bd (f_X4_operandAt l1 l2 (1 : Int32) h13) fun v15 h16 =>
(ck h16 l0 5
(bd (f_X5_placed l0 v15 (v10 + (1 : Int32)) h16) fun v18 h19 =>
(ck h19 l0 5
(bd (f_X5_put l0 v18 (124 : Int32) h19) fun _ h21 =>
(ck h21 l1 4
(bd (f_X4_operandAt l1 l2 (0 : Int32) h21) fun v23 h24 =>
(ck h24 l0 5
(bd (f_X5_placed l0 v23 (v18 + (1 : Int32)) h24) fun v26 h27 =>
(ck h27 l0 5
(bd (f_X5_put l0 v26 (93 : Int32) h27) fun _ h29 =>
(some ((), h29))))))))))))))))))))))))
set_option maxRecDepth 20000 in
theorem t_X5_printChoice (l0 : Nat) (l1 : Nat) (l2 : Int32) (h : Hp) : Sm rvV g_X5_printChoice 0 (ent 6 [.ref l0, .ref l1, .int l2]) [] h (f_X5_printChoice l0 l1 l2 h) := by
  show Sm rvV g_X5_printChoice 0 [.ref l0, .ref l1, .int l2, .null, .null, .null] [] h _
  unfold f_X5_printChoice
  refine Sm.aload_n dX5_printChoice_0 rfl rfl rfl ?_
  refine Sm.iload_n dX5_printChoice_1 rfl rfl rfl ?_
  refine Sm.ck (fun o1 => ?_)
  refine kc_X5_61 o1 dX5_printChoice_2 rfl (Nat.le_of_ble_eq_true rfl) (Nat.le_of_ble_eq_true rfl) rfl (fun v2 h3 => ?_)
  refine Sm.istore_n (lv' := [.ref l0, .ref l1, .int l2, .int v2, .null, .null]) dX5_printChoice_5 rfl (Nat.le_of_ble_eq_true rfl) rfl rfl ?_
  refine Sm.aload_n dX5_printChoice_6 rfl rfl rfl ?_
  refine Sm.iload_n dX5_printChoice_7 rfl rfl rfl ?_
  refine Sm.bipush dX5_printChoice_8 bp_91 rfl ?_
  refine Sm.ck (fun o4 => ?_)
  refine kc_X5_64 o4 dX5_printChoice_10 rfl (Nat.le_of_ble_eq_true rfl) (Nat.le_of_ble_eq_true rfl) rfl (fun _ h5 => ?_)
  refine Sm.aload_n dX5_printChoice_13 rfl rfl rfl ?_
  refine Sm.aload_n dX5_printChoice_14 rfl rfl rfl ?_
  refine Sm.iload_n dX5_printChoice_15 rfl rfl rfl ?_
  refine Sm.iconst dX5_printChoice_16 ic_2 rfl ?_
  refine Sm.ck (fun o6 => ?_)
  refine kc_X5_53 o6 dX5_printChoice_17 rfl (Nat.le_of_ble_eq_true rfl) (Nat.le_of_ble_eq_true rfl) rfl (fun v7 h8 => ?_)
  refine Sm.iload_n dX5_printChoice_20 rfl rfl rfl ?_
  refine Sm.iconst dX5_printChoice_21 ic_1 rfl ?_
  refine Sm.iadd dX5_printChoice_22 rfl ?_
  refine Sm.ck (fun o9 => ?_)
  refine kc_X5_75 o9 dX5_printChoice_23 rfl (Nat.le_of_ble_eq_true rfl) (Nat.le_of_ble_eq_true rfl) rfl (fun v10 h11 => ?_)
  refine Sm.istore (lv' := [.ref l0, .ref l1, .int l2, .int v2, .int v10, .null]) dX5_printChoice_26 (Nat.le_of_ble_eq_true rfl) rfl rfl ?_
  refine Sm.aload_n dX5_printChoice_28 rfl rfl rfl ?_
  refine Sm.iload dX5_printChoice_29 rfl rfl ?_
  refine Sm.bipush dX5_printChoice_31 bp_63 rfl ?_
  refine Sm.ck (fun o12 => ?_)
  refine kc_X5_64 o12 dX5_printChoice_33 rfl (Nat.le_of_ble_eq_true rfl) (Nat.le_of_ble_eq_true rfl) rfl (fun _ h13 => ?_)
  refine Sm.aload_n dX5_printChoice_36 rfl rfl rfl ?_
  refine Sm.aload_n dX5_printChoice_37 rfl rfl rfl ?_
  refine Sm.iload_n dX5_printChoice_38 rfl rfl rfl ?_
  refine Sm.iconst dX5_printChoice_39 ic_1 rfl ?_
  refine Sm.ck (fun o14 => ?_)
  refine kc_X5_53 o14 dX5_printChoice_40 rfl (Nat.le_of_ble_eq_true rfl) (Nat.le_of_ble_eq_true rfl) rfl (fun v15 h16 => ?_)
  refine Sm.iload dX5_printChoice_43 rfl rfl ?_
  refine Sm.iconst dX5_printChoice_45 ic_1 rfl ?_
  refine Sm.iadd dX5_printChoice_46 rfl ?_
  refine Sm.ck (fun o17 => ?_)
  refine kc_X5_75 o17 dX5_printChoice_47 rfl (Nat.le_of_ble_eq_true rfl) (Nat.le_of_ble_eq_true rfl) rfl (fun v18 h19 => ?_)
  refine Sm.istore (lv' := [.ref l0, .ref l1, .int l2, .int v2, .int v10, .int v18]) dX5_printChoice_50 (Nat.le_of_ble_eq_true rfl) rfl rfl ?_
  refine Sm.aload_n dX5_printChoice_52 rfl rfl rfl ?_
  refine Sm.iload dX5_printChoice_53 rfl rfl ?_
  refine Sm.bipush dX5_printChoice_55 bp_124 rfl ?_
  refine Sm.ck (fun o20 => ?_)
  refine kc_X5_64 o20 dX5_printChoice_57 rfl (Nat.le_of_ble_eq_true rfl) (Nat.le_of_ble_eq_true rfl) rfl (fun _ h21 => ?_)
  refine Sm.aload_n dX5_printChoice_60 rfl rfl rfl ?_
  refine Sm.aload_n dX5_printChoice_61 rfl rfl rfl ?_
  refine Sm.aload_n dX5_printChoice_62 rfl rfl rfl ?_
  refine Sm.iload_n dX5_printChoice_63 rfl rfl rfl ?_
  refine Sm.iconst dX5_printChoice_64 ic_0 rfl ?_
  refine Sm.ck (fun o22 => ?_)
  refine kc_X5_53 o22 dX5_printChoice_65 rfl (Nat.le_of_ble_eq_true rfl) (Nat.le_of_ble_eq_true rfl) rfl (fun v23 h24 => ?_)
  refine Sm.iload dX5_printChoice_68 rfl rfl ?_
  refine Sm.iconst dX5_printChoice_70 ic_1 rfl ?_
  refine Sm.iadd dX5_printChoice_71 rfl ?_
  refine Sm.ck (fun o25 => ?_)
  refine kc_X5_75 o25 dX5_printChoice_72 rfl (Nat.le_of_ble_eq_true rfl) (Nat.le_of_ble_eq_true rfl) rfl (fun v26 h27 => ?_)
  refine Sm.bipush dX5_printChoice_75 bp_93 rfl ?_
  refine Sm.ck (fun o28 => ?_)
  refine kc_X5_64 o28 dX5_printChoice_77 rfl (Nat.le_of_ble_eq_true rfl) (Nat.le_of_ble_eq_true rfl) rfl (fun _ h29 => ?_)
  exact Sm.ret (r := ()) dX5_printChoice_80 trivial rfl
set_option maxRecDepth 20000 in
theorem kc_X5_78 {ρ : Type} {rv : ρ → Option Value} {G : Gx} {pc q : Nat} {lv st : List Value} {h : Hp} {a : Nat} {x1 : Nat} {x2 : Int32} {e : Unit → Hp → Option (ρ × Hp)} (hk : isO h a 5) (d : decode G.2.1 pc = .ok (.invokevirtual 78, 3)) (ho : G.1.cls = RX5) (hdep : (g_X5_printChoice).2.2.2.2 < G.2.2.2.2) (hcat : catS st ≤ 8) (hq : pc + 3 = q) (k : ∀ r h1, Sm rv G q lv (st) h1 (e r h1)) : Sm rv G pc lv (.int x2 :: .ref x1 :: .ref a :: st) h (bd (f_X5_printChoice a x1 x2 h) e) :=
  Sm.callV (rv' := rvV) (args := [.ref x1, .int x2]) (n := 2) (t_X5_printChoice a x1 x2 h) hk (by decide) (r := (RX5, TX5, 5)) rfl rfl ho mw_494 mw_496 mp_28 mw_7 mw_497 ⟨⟨by decide, rfl, hdep, Nat.le_of_ble_eq_true rfl⟩, Nat.le_of_ble_eq_true rfl, rfl, ⟨by decide, by decide⟩, hcat⟩ (by decide +kernel) (by intro v hv; simp only [List.mem_cons, List.not_mem_nil, or_false] at hv; rcases hv with rfl | rfl <;> intro x hx <;> cases hx) d hq k rfl
abbrev g_X5_printNode : Gx := (yX5_printNode, cX5_printNode, 4, (Option.none : Option FieldType), 3)
def f_X5_printNode (l0 : Nat) (l1 : Nat) (l2 : Int32) (h : Hp) : Option (Unit × Hp) :=
  (ck h l0 5
(bd (f_X5_innerPlace l0 l2 h) fun v2 h3 =>
(ck h3 l1 4
(bd (f_X4_kindAt l1 l2 h3) fun v5 h6 =>
(if v5 = (0 : Int32) then
(ck h6 l0 5
(bd (f_X5_put l0 v2 (48 : Int32) h6) fun _ h9 =>
(some ((), h9))))
else
(if v5 = (1 : Int32) then
(ck h6 l0 5
(bd (f_X5_put l0 v2 (49 : Int32) h6) fun _ h12 =>
(some ((), h12))))
else
(if v5 = (2 : Int32) then
(ck h6 l0 5
(bd (f_X5_printLeaf l0 l1 l2 (61 : Int32) h6) fun _ h15 =>
(some ((), h15))))
else
(if v5 = (3 : Int32) then
(ck h6 l0 5
(bd (f_X5_printLeaf l0 l1 l2 (58 : Int32) h6) fun _ h18 =>
(some ((), h18))))
else
(if v5 = (4 : Int32) then
(ck h6 l0 5
(bd (f_X5_printPair l0 l1 l2 (43 : Int32) h6) fun _ h21 =>
(some ((), h21))))
else
(if v5 = (5 : Int32) then
(ck h6 l0 5
(bd (f_X5_printPair l0 l1 l2 (46 : Int32) h6) fun _ h24 =>
(some ((), h24))))
else
(if v5 = (6 : Int32) then
(ck h6 l1 4
(bd (f_X4_operandAt l1 l2 (0 : Int32) h6) fun v27 h28 =>
(ck h28 l0 5
(bd (f_X5_placed l0 v27 v2 h28) fun v30 h31 =>
(ck h31 l0 5
(bd (f_X5_put l0 v30 (42 : Int32) h31) fun _ h33 =>
(some ((), h33))))))))
else
(if v5 = (7 : Int32) then
(ck h6 l0 5
(bd (f_X5_put l0 v2 (33 : Int32) h6) fun _ h36 =>
(ck h36 l1 4
(bd (f_X4_operandAt l1 l2 (0 : Int32) h36) fun v38 h39 =>
(ck h39 l0 5
(bd (f_X5_placed l0 v38 (v2 + (1 : Int32)) h39) fun v41 h42 =>
(some ((), h42))))))))
else
(ck h6 l0 5
(bd (f_X5_printChoice l0 l1 l2 h6) fun _ h44 =>
(some ((), h44))))))))))))))))
set_option maxRecDepth 20000 in
theorem t_X5_printNode (l0 : Nat) (l1 : Nat) (l2 : Int32) (h : Hp) : Sm rvV g_X5_printNode 0 (ent 4 [.ref l0, .ref l1, .int l2]) [] h (f_X5_printNode l0 l1 l2 h) := by
  show Sm rvV g_X5_printNode 0 [.ref l0, .ref l1, .int l2, .null] [] h _
  unfold f_X5_printNode
  refine Sm.aload_n dX5_printNode_0 rfl rfl rfl ?_
  refine Sm.iload_n dX5_printNode_1 rfl rfl rfl ?_
  refine Sm.ck (fun o1 => ?_)
  refine kc_X5_61 o1 dX5_printNode_2 rfl (Nat.le_of_ble_eq_true rfl) (Nat.le_of_ble_eq_true rfl) rfl (fun v2 h3 => ?_)
  refine Sm.istore_n (lv' := [.ref l0, .ref l1, .int l2, .int v2]) dX5_printNode_5 rfl (Nat.le_of_ble_eq_true rfl) rfl rfl ?_
  refine Sm.aload_n dX5_printNode_6 rfl rfl rfl ?_
  refine Sm.iload_n dX5_printNode_7 rfl rfl rfl ?_
  refine Sm.ck (fun o4 => ?_)
  refine kc_X5_43 o4 dX5_printNode_8 rfl (Nat.le_of_ble_eq_true rfl) (Nat.le_of_ble_eq_true rfl) rfl (fun v5 h6 => ?_)
  refine Sm.iff (fun b7 => ?_) (fun b7 => ?_)
  · refine Sm.tsAt (t := 56) (k := (0 : Int32)) (off := 45) b7 dX5_printNode_11 (by decide) (by decide) (by decide) (by decide) ?_
    refine Sm.aload_n dX5_printNode_56 rfl rfl rfl ?_
    refine Sm.iload_n dX5_printNode_57 rfl rfl rfl ?_
    refine Sm.bipush dX5_printNode_58 bp_48 rfl ?_
    refine Sm.ck (fun o8 => ?_)
    refine kc_X5_64 o8 dX5_printNode_60 rfl (Nat.le_of_ble_eq_true rfl) (Nat.le_of_ble_eq_true rfl) rfl (fun _ h9 => ?_)
    refine Sm.goto (t := 170) dX5_printNode_63 (by decide) ?_
    exact Sm.ret (r := ()) dX5_printNode_170 trivial rfl
  refine Sm.iff (fun b10 => ?_) (fun b10 => ?_)
  · refine Sm.tsAt (t := 66) (k := (1 : Int32)) (off := 55) b10 dX5_printNode_11 (by decide) (by decide) (by decide) (by decide) ?_
    refine Sm.aload_n dX5_printNode_66 rfl rfl rfl ?_
    refine Sm.iload_n dX5_printNode_67 rfl rfl rfl ?_
    refine Sm.bipush dX5_printNode_68 bp_49 rfl ?_
    refine Sm.ck (fun o11 => ?_)
    refine kc_X5_64 o11 dX5_printNode_70 rfl (Nat.le_of_ble_eq_true rfl) (Nat.le_of_ble_eq_true rfl) rfl (fun _ h12 => ?_)
    refine Sm.goto (t := 170) dX5_printNode_73 (by decide) ?_
    exact Sm.ret (r := ()) dX5_printNode_170 trivial rfl
  refine Sm.iff (fun b13 => ?_) (fun b13 => ?_)
  · refine Sm.tsAt (t := 76) (k := (2 : Int32)) (off := 65) b13 dX5_printNode_11 (by decide) (by decide) (by decide) (by decide) ?_
    refine Sm.aload_n dX5_printNode_76 rfl rfl rfl ?_
    refine Sm.aload_n dX5_printNode_77 rfl rfl rfl ?_
    refine Sm.iload_n dX5_printNode_78 rfl rfl rfl ?_
    refine Sm.bipush dX5_printNode_79 bp_61 rfl ?_
    refine Sm.ck (fun o14 => ?_)
    refine kc_X5_68 o14 dX5_printNode_81 rfl (Nat.le_of_ble_eq_true rfl) (Nat.le_of_ble_eq_true rfl) rfl (fun _ h15 => ?_)
    refine Sm.goto (t := 170) dX5_printNode_84 (by decide) ?_
    exact Sm.ret (r := ()) dX5_printNode_170 trivial rfl
  refine Sm.iff (fun b16 => ?_) (fun b16 => ?_)
  · refine Sm.tsAt (t := 87) (k := (3 : Int32)) (off := 76) b16 dX5_printNode_11 (by decide) (by decide) (by decide) (by decide) ?_
    refine Sm.aload_n dX5_printNode_87 rfl rfl rfl ?_
    refine Sm.aload_n dX5_printNode_88 rfl rfl rfl ?_
    refine Sm.iload_n dX5_printNode_89 rfl rfl rfl ?_
    refine Sm.bipush dX5_printNode_90 bp_58 rfl ?_
    refine Sm.ck (fun o17 => ?_)
    refine kc_X5_68 o17 dX5_printNode_92 rfl (Nat.le_of_ble_eq_true rfl) (Nat.le_of_ble_eq_true rfl) rfl (fun _ h18 => ?_)
    refine Sm.goto (t := 170) dX5_printNode_95 (by decide) ?_
    exact Sm.ret (r := ()) dX5_printNode_170 trivial rfl
  refine Sm.iff (fun b19 => ?_) (fun b19 => ?_)
  · refine Sm.tsAt (t := 98) (k := (4 : Int32)) (off := 87) b19 dX5_printNode_11 (by decide) (by decide) (by decide) (by decide) ?_
    refine Sm.aload_n dX5_printNode_98 rfl rfl rfl ?_
    refine Sm.aload_n dX5_printNode_99 rfl rfl rfl ?_
    refine Sm.iload_n dX5_printNode_100 rfl rfl rfl ?_
    refine Sm.bipush dX5_printNode_101 bp_43 rfl ?_
    refine Sm.ck (fun o20 => ?_)
    refine kc_X5_72 o20 dX5_printNode_103 rfl (Nat.le_of_ble_eq_true rfl) (Nat.le_of_ble_eq_true rfl) rfl (fun _ h21 => ?_)
    refine Sm.goto (t := 170) dX5_printNode_106 (by decide) ?_
    exact Sm.ret (r := ()) dX5_printNode_170 trivial rfl
  refine Sm.iff (fun b22 => ?_) (fun b22 => ?_)
  · refine Sm.tsAt (t := 109) (k := (5 : Int32)) (off := 98) b22 dX5_printNode_11 (by decide) (by decide) (by decide) (by decide) ?_
    refine Sm.aload_n dX5_printNode_109 rfl rfl rfl ?_
    refine Sm.aload_n dX5_printNode_110 rfl rfl rfl ?_
    refine Sm.iload_n dX5_printNode_111 rfl rfl rfl ?_
    refine Sm.bipush dX5_printNode_112 bp_46 rfl ?_
    refine Sm.ck (fun o23 => ?_)
    refine kc_X5_72 o23 dX5_printNode_114 rfl (Nat.le_of_ble_eq_true rfl) (Nat.le_of_ble_eq_true rfl) rfl (fun _ h24 => ?_)
    refine Sm.goto (t := 170) dX5_printNode_117 (by decide) ?_
    exact Sm.ret (r := ()) dX5_printNode_170 trivial rfl
  refine Sm.iff (fun b25 => ?_) (fun b25 => ?_)
  · refine Sm.tsAt (t := 120) (k := (6 : Int32)) (off := 109) b25 dX5_printNode_11 (by decide) (by decide) (by decide) (by decide) ?_
    refine Sm.aload_n dX5_printNode_120 rfl rfl rfl ?_
    refine Sm.aload_n dX5_printNode_121 rfl rfl rfl ?_
    refine Sm.aload_n dX5_printNode_122 rfl rfl rfl ?_
    refine Sm.iload_n dX5_printNode_123 rfl rfl rfl ?_
    refine Sm.iconst dX5_printNode_124 ic_0 rfl ?_
    refine Sm.ck (fun o26 => ?_)
    refine kc_X5_53 o26 dX5_printNode_125 rfl (Nat.le_of_ble_eq_true rfl) (Nat.le_of_ble_eq_true rfl) rfl (fun v27 h28 => ?_)
    refine Sm.iload_n dX5_printNode_128 rfl rfl rfl ?_
    refine Sm.ck (fun o29 => ?_)
    refine kc_X5_75 o29 dX5_printNode_129 rfl (Nat.le_of_ble_eq_true rfl) (Nat.le_of_ble_eq_true rfl) rfl (fun v30 h31 => ?_)
    refine Sm.bipush dX5_printNode_132 bp_42 rfl ?_
    refine Sm.ck (fun o32 => ?_)
    refine kc_X5_64 o32 dX5_printNode_134 rfl (Nat.le_of_ble_eq_true rfl) (Nat.le_of_ble_eq_true rfl) rfl (fun _ h33 => ?_)
    refine Sm.goto (t := 170) dX5_printNode_137 (by decide) ?_
    exact Sm.ret (r := ()) dX5_printNode_170 trivial rfl
  refine Sm.iff (fun b34 => ?_) (fun b34 => ?_)
  · refine Sm.tsAt (t := 140) (k := (7 : Int32)) (off := 129) b34 dX5_printNode_11 (by decide) (by decide) (by decide) (by decide) ?_
    refine Sm.aload_n dX5_printNode_140 rfl rfl rfl ?_
    refine Sm.iload_n dX5_printNode_141 rfl rfl rfl ?_
    refine Sm.bipush dX5_printNode_142 bp_33 rfl ?_
    refine Sm.ck (fun o35 => ?_)
    refine kc_X5_64 o35 dX5_printNode_144 rfl (Nat.le_of_ble_eq_true rfl) (Nat.le_of_ble_eq_true rfl) rfl (fun _ h36 => ?_)
    refine Sm.aload_n dX5_printNode_147 rfl rfl rfl ?_
    refine Sm.aload_n dX5_printNode_148 rfl rfl rfl ?_
    refine Sm.iload_n dX5_printNode_149 rfl rfl rfl ?_
    refine Sm.iconst dX5_printNode_150 ic_0 rfl ?_
    refine Sm.ck (fun o37 => ?_)
    refine kc_X5_53 o37 dX5_printNode_151 rfl (Nat.le_of_ble_eq_true rfl) (Nat.le_of_ble_eq_true rfl) rfl (fun v38 h39 => ?_)
    refine Sm.iload_n dX5_printNode_154 rfl rfl rfl ?_
    refine Sm.iconst dX5_printNode_155 ic_1 rfl ?_
    refine Sm.iadd dX5_printNode_156 rfl ?_
    refine Sm.ck (fun o40 => ?_)
    refine kc_X5_75 o40 dX5_printNode_157 rfl (Nat.le_of_ble_eq_true rfl) (Nat.le_of_ble_eq_true rfl) rfl (fun v41 h42 => ?_)
    refine Sm.pop dX5_printNode_160 rfl rfl ?_
    refine Sm.goto (t := 170) dX5_printNode_161 (by decide) ?_
    exact Sm.ret (r := ()) dX5_printNode_170 trivial rfl
  have nb7 : ¬ v5.toInt = (0 : Int) := lv_neT b7 (by decide)
  have nb10 : ¬ v5.toInt = (1 : Int) := lv_neT b10 (by decide)
  have nb13 : ¬ v5.toInt = (2 : Int) := lv_neT b13 (by decide)
  have nb16 : ¬ v5.toInt = (3 : Int) := lv_neT b16 (by decide)
  have nb19 : ¬ v5.toInt = (4 : Int) := lv_neT b19 (by decide)
  have nb22 : ¬ v5.toInt = (5 : Int) := lv_neT b22 (by decide)
  have nb25 : ¬ v5.toInt = (6 : Int) := lv_neT b25 (by decide)
  have nb34 : ¬ v5.toInt = (7 : Int) := lv_neT b34 (by decide)
  refine Sm.tsOut (t := 164) dX5_printNode_11 (by omega) (by decide) ?_
  refine Sm.aload_n dX5_printNode_164 rfl rfl rfl ?_
  refine Sm.aload_n dX5_printNode_165 rfl rfl rfl ?_
  refine Sm.iload_n dX5_printNode_166 rfl rfl rfl ?_
  refine Sm.ck (fun o43 => ?_)
  refine kc_X5_78 o43 dX5_printNode_167 rfl (Nat.le_of_ble_eq_true rfl) (Nat.le_of_ble_eq_true rfl) rfl (fun _ h44 => ?_)
  exact Sm.ret (r := ()) dX5_printNode_170 trivial rfl
set_option maxRecDepth 20000 in
theorem kc_X5_39 {ρ : Type} {rv : ρ → Option Value} {G : Gx} {pc q : Nat} {lv st : List Value} {h : Hp} {a : Nat} {x1 : Nat} {x2 : Int32} {e : Unit → Hp → Option (ρ × Hp)} (hk : isO h a 5) (d : decode G.2.1 pc = .ok (.invokevirtual 39, 3)) (ho : G.1.cls = RX5) (hdep : (g_X5_printNode).2.2.2.2 < G.2.2.2.2) (hcat : catS st ≤ 8) (hq : pc + 3 = q) (k : ∀ r h1, Sm rv G q lv (st) h1 (e r h1)) : Sm rv G pc lv (.int x2 :: .ref x1 :: .ref a :: st) h (bd (f_X5_printNode a x1 x2 h) e) :=
  Sm.callV (rv' := rvV) (args := [.ref x1, .int x2]) (n := 2) (t_X5_printNode a x1 x2 h) hk (by decide) (r := (RX5, TX5, 5)) rfl rfl ho mw_462 mw_464 mp_22 mw_7 mw_465 ⟨⟨by decide, rfl, hdep, Nat.le_of_ble_eq_true rfl⟩, Nat.le_of_ble_eq_true rfl, rfl, ⟨by decide, by decide⟩, hcat⟩ (by decide +kernel) (by intro v hv; simp only [List.mem_cons, List.not_mem_nil, or_false] at hv; rcases hv with rfl | rfl <;> intro x hx <;> cases hx) d hq k rfl
abbrev g_X5_print : Gx := (yX5_print, cX5_print, 4, (Option.none : Option FieldType), 4)
def f_X5_print_79 (k79 : (Int32 × Hp) → Option (Unit × Hp)) (l0 : Nat) (l1 : Nat) (l3 : Int32) (h : Hp) : Option (Unit × Hp) :=
  (if l3 < 0 then
(some ((), h))
else
(ck h l0 5
(bd (f_X5_printNode l0 l1 l3 h) fun _ h16 =>
(nm (l3 + (-1 : Int32)) fun v17 =>
(k79 (v17, h16))))))
set_option maxRecDepth 20000 in
theorem t_X5_print_79 (l0 : Nat) (l1 : Nat) (l3 : Int32) (h : Hp) (k79 : (Int32 × Hp) → Option (Unit × Hp)) (hk79 : ∀ s : Int32 × Hp, Sm rvV g_X5_print 79 [.ref l0, .ref l1, .null, .int s.1] [] s.2 (k79 s)) : Sm rvV g_X5_print 79 [.ref l0, .ref l1, .null, .int l3] [] h (f_X5_print_79 k79 l0 l1 l3 h) := by
  unfold f_X5_print_79
  refine Sm.iload_n dX5_print_79 rfl rfl rfl ?_
  refine Sm.if_lt (t := 95) dX5_print_80 (by decide) rfl (fun b14 => ?_) (fun b14 => ?_)
  · exact Sm.ret (r := ()) dX5_print_95 trivial rfl
  · refine Sm.aload_n dX5_print_83 rfl rfl rfl ?_
    refine Sm.aload_n dX5_print_84 rfl rfl rfl ?_
    refine Sm.iload_n dX5_print_85 rfl rfl rfl ?_
    refine Sm.ck (fun o15 => ?_)
    refine kc_X5_39 o15 dX5_print_86 rfl (Nat.le_of_ble_eq_true rfl) (Nat.le_of_ble_eq_true rfl) rfl (fun _ h16 => ?_)
    refine Sm.iinc (lv' := [.ref l0, .ref l1, .null, .int (l3 + (-1 : Int32))]) dX5_print_89 rfl ic_m1 rfl rfl ?_
    refine Sm.nm (LV := fun v17 => [.ref l0, .ref l1, .null, .int v17]) (ST := fun v17 => []) (fun v17 => ?_)
    refine Sm.goto (t := 79) dX5_print_92 (by decide) ?_
    exact Sm.wk (hk79 (v17, h16)) ⟨Or.inr rfl, Or.inr rfl, Or.inl rfl, Or.inr rfl, trivial⟩
def f_X5_print_24 (k24 : (Int32 × Hp) → Option (Unit × Hp)) (l0 : Nat) (l1 : Nat) (l2 : Int32) (l3 : Int32) (h : Hp) : Option (Unit × Hp) :=
  (if l2 ≤ l3 then
(ck h l0 5
((gP h l0 1).bind fun v9 =>
(ca h v9 20 (l2 - (1 : Int32))
((gP (sI h l0 4 (gI h v9 (l2 - (1 : Int32)).toNatClampNeg)) l0 3).bind fun v11 =>
(ca (sI h l0 4 (gI h v9 (l2 - (1 : Int32)).toNatClampNeg)) v11 20 (l2 - (1 : Int32))
(nm (l2 - (1 : Int32)) fun v13 =>
(loopN (fun k s => f_X5_print_79 k l0 l1 s.1 s.2) 5000 (v13, (sI (sI h l0 4 (gI h v9 (l2 - (1 : Int32)).toNatClampNeg)) v11 (l2 - (1 : Int32)).toNatClampNeg (0 : Int32))))))))))
else
(ck h l0 5
((gP h l0 2).bind fun v19 =>
(ca h v19 21 l3
((gP (sI h v19 l3.toNatClampNeg (0 : Int32)) l0 1).bind fun v21 =>
(bd (f_X5_measured l0 l1 l3 (sI h v19 l3.toNatClampNeg (0 : Int32))) fun v22 h23 =>
(ca h23 v21 20 l3
(nm (l3 + (1 : Int32)) fun v25 =>
(k24 (v25, (sI h23 v21 l3.toNatClampNeg v22)))))))))))
set_option maxRecDepth 20000 in
theorem t_X5_print_24 (l0 : Nat) (l1 : Nat) (l2 : Int32) (l3 : Int32) (h : Hp) (k24 : (Int32 × Hp) → Option (Unit × Hp)) (hk24 : ∀ s : Int32 × Hp, Sm rvV g_X5_print 24 [.ref l0, .ref l1, .int l2, .int s.1] [] s.2 (k24 s)) : Sm rvV g_X5_print 24 [.ref l0, .ref l1, .int l2, .int l3] [] h (f_X5_print_24 k24 l0 l1 l2 l3 h) := by
  unfold f_X5_print_24
  refine Sm.iload_n dX5_print_24 rfl rfl rfl ?_
  refine Sm.iload_n dX5_print_25 rfl rfl rfl ?_
  refine Sm.icmp_ge (t := 54) dX5_print_26 (by decide) rfl (fun b7 => ?_) (fun b7 => ?_)
  · refine Sm.aload_n dX5_print_54 rfl rfl rfl ?_
    refine Sm.aload_n dX5_print_55 rfl rfl rfl ?_
    refine Sm.ck (fun o8 => ?_)
    refine gf_X5_15 o8 dX5_print_56 rfl rfl (fun v9 => ?_)
    refine Sm.iload_n dX5_print_59 rfl rfl rfl ?_
    refine Sm.iconst dX5_print_60 ic_1 rfl ?_
    refine Sm.isub dX5_print_61 rfl ?_
    refine Sm.ca (fun q10 => ?_)
    refine Sm.iald q10 dX5_print_62 rfl ?_
    refine pf_X5_25 o8 dX5_print_63 rfl rfl ?_
    refine Sm.aload_n dX5_print_66 rfl rfl rfl ?_
    refine gf_X5_22 o8 dX5_print_67 rfl rfl (fun v11 => ?_)
    refine Sm.iload_n dX5_print_70 rfl rfl rfl ?_
    refine Sm.iconst dX5_print_71 ic_1 rfl ?_
    refine Sm.isub dX5_print_72 rfl ?_
    refine Sm.iconst dX5_print_73 ic_0 rfl ?_
    refine Sm.ca (fun q12 => ?_)
    refine Sm.iast q12 dX5_print_74 rfl ?_
    refine Sm.iload_n dX5_print_75 rfl rfl rfl ?_
    refine Sm.iconst dX5_print_76 ic_1 rfl ?_
    refine Sm.isub dX5_print_77 rfl ?_
    refine Sm.nm (LV := fun v13 => [.ref l0, .ref l1, .int l2, .int l3]) (ST := fun v13 => [.int v13]) (fun v13 => ?_)
    refine Sm.istore_n (lv' := [.ref l0, .ref l1, .int l2, .int v13]) dX5_print_78 rfl (Nat.le_of_ble_eq_true rfl) rfl rfl ?_
    exact Sm.wk (Sm.loop (σ := Int32 × Hp) (LV := fun s => [.ref l0, .ref l1, .null, .int s.1]) (HH := fun s => s.2) (fun k hk s => t_X5_print_79 l0 l1 s.1 s.2 k hk) 5000 (v13, (sI (sI h l0 4 (gI h v9 (l2 - (1 : Int32)).toNatClampNeg)) v11 (l2 - (1 : Int32)).toNatClampNeg (0 : Int32)))) ⟨Or.inr rfl, Or.inr rfl, Or.inl rfl, Or.inr rfl, trivial⟩
  · refine Sm.aload_n dX5_print_29 rfl rfl rfl ?_
    refine Sm.ck (fun o18 => ?_)
    refine gf_X5_18 o18 dX5_print_30 rfl rfl (fun v19 => ?_)
    refine Sm.iload_n dX5_print_33 rfl rfl rfl ?_
    refine Sm.iconst dX5_print_34 ic_0 rfl ?_
    refine Sm.ca (fun q20 => ?_)
    refine Sm.zast (Or.inl rfl) q20 dX5_print_35 rfl ?_
    refine Sm.aload_n dX5_print_36 rfl rfl rfl ?_
    refine gf_X5_15 o18 dX5_print_37 rfl rfl (fun v21 => ?_)
    refine Sm.iload_n dX5_print_40 rfl rfl rfl ?_
    refine Sm.aload_n dX5_print_41 rfl rfl rfl ?_
    refine Sm.aload_n dX5_print_42 rfl rfl rfl ?_
    refine Sm.iload_n dX5_print_43 rfl rfl rfl ?_
    refine kc_X5_35 o18 dX5_print_44 rfl (Nat.le_of_ble_eq_true rfl) (Nat.le_of_ble_eq_true rfl) rfl (fun v22 h23 => ?_)
    refine Sm.ca (fun q24 => ?_)
    refine Sm.iast q24 dX5_print_47 rfl ?_
    refine Sm.iinc (lv' := [.ref l0, .ref l1, .int l2, .int (l3 + (1 : Int32))]) dX5_print_48 rfl ic_1 rfl rfl ?_
    refine Sm.nm (LV := fun v25 => [.ref l0, .ref l1, .int l2, .int v25]) (ST := fun v25 => []) (fun v25 => ?_)
    refine Sm.goto (t := 24) dX5_print_51 (by decide) ?_
    exact Sm.wk (hk24 (v25, (sI h23 v21 l3.toNatClampNeg v22))) ⟨Or.inr rfl, Or.inr rfl, Or.inr rfl, Or.inr rfl, trivial⟩
def f_X5_print (l0 : Nat) (l1 : Nat) (h : Hp) : Option (Unit × Hp) :=
  (ck h l1 4
(bd (f_X4_nodeCount l1 h) fun v2 h3 =>
(if v2 < (1 : Int32) then
(ck h3 l0 5
(some ((), (sI h3 l0 4 (0 : Int32)))))
else
(if v2 ≤ (60 : Int32) then
(loopN (fun k s => f_X5_print_24 k l0 l1 v2 s.1 s.2) 5000 ((0 : Int32), h3))
else
(ck h3 l0 5
(some ((), (sI h3 l0 4 (0 : Int32)))))))))
set_option maxRecDepth 20000 in
theorem t_X5_print (l0 : Nat) (l1 : Nat) (h : Hp) : Sm rvV g_X5_print 0 (ent 4 [.ref l0, .ref l1]) [] h (f_X5_print l0 l1 h) := by
  show Sm rvV g_X5_print 0 [.ref l0, .ref l1, .null, .null] [] h _
  unfold f_X5_print
  refine Sm.aload_n dX5_print_0 rfl rfl rfl ?_
  refine Sm.ck (fun o1 => ?_)
  refine kc_X5_29 o1 dX5_print_1 rfl (Nat.le_of_ble_eq_true rfl) (Nat.le_of_ble_eq_true rfl) rfl (fun v2 h3 => ?_)
  refine Sm.istore_n (lv' := [.ref l0, .ref l1, .int v2, .null]) dX5_print_4 rfl (Nat.le_of_ble_eq_true rfl) rfl rfl ?_
  refine Sm.iload_n dX5_print_5 rfl rfl rfl ?_
  refine Sm.iconst dX5_print_6 ic_1 rfl ?_
  refine Sm.icmp_lt (t := 16) dX5_print_7 (by decide) rfl (fun b4 => ?_) (fun b4 => ?_)
  · refine Sm.aload_n dX5_print_16 rfl rfl rfl ?_
    refine Sm.iconst dX5_print_17 ic_0 rfl ?_
    refine Sm.ck (fun o5 => ?_)
    refine pf_X5_25 o5 dX5_print_18 rfl rfl ?_
    exact Sm.ret (r := ()) dX5_print_21 trivial rfl
  · refine Sm.iload_n dX5_print_10 rfl rfl rfl ?_
    refine Sm.bipush dX5_print_11 bp_60 rfl ?_
    refine Sm.icmp_le (t := 22) dX5_print_13 (by decide) rfl (fun b6 => ?_) (fun b6 => ?_)
    · refine Sm.iconst dX5_print_22 ic_0 rfl ?_
      refine Sm.istore_n (lv' := [.ref l0, .ref l1, .int v2, .int (0 : Int32)]) dX5_print_23 rfl (Nat.le_of_ble_eq_true rfl) rfl rfl ?_
      exact Sm.wk (Sm.loop (σ := Int32 × Hp) (LV := fun s => [.ref l0, .ref l1, .int v2, .int s.1]) (HH := fun s => s.2) (fun k hk s => t_X5_print_24 l0 l1 v2 s.1 s.2 k hk) 5000 ((0 : Int32), h3)) ⟨Or.inr rfl, Or.inr rfl, Or.inr rfl, Or.inr rfl, trivial⟩
    · refine Sm.aload_n dX5_print_16 rfl rfl rfl ?_
      refine Sm.iconst dX5_print_17 ic_0 rfl ?_
      refine Sm.ck (fun o26 => ?_)
      refine pf_X5_25 o26 dX5_print_18 rfl rfl ?_
      exact Sm.ret (r := ()) dX5_print_21 trivial rfl
set_option maxRecDepth 20000 in
theorem kc_X7_69 {ρ : Type} {rv : ρ → Option Value} {G : Gx} {pc q : Nat} {lv st : List Value} {h : Hp} {a : Nat} {x1 : Nat} {e : Unit → Hp → Option (ρ × Hp)} (hk : isO h a 5) (d : decode G.2.1 pc = .ok (.invokevirtual 69, 3)) (ho : G.1.cls = RX7) (hdep : (g_X5_print).2.2.2.2 < G.2.2.2.2) (hcat : catS st ≤ 8) (hq : pc + 3 = q) (k : ∀ r h1, Sm rv G q lv (st) h1 (e r h1)) : Sm rv G pc lv (.ref x1 :: .ref a :: st) h (bd (f_X5_print a x1 h) e) :=
  Sm.callV (rv' := rvV) (args := [.ref x1]) (n := 1) (t_X5_print a x1 h) hk (by decide) (r := (RX5, TX5, 5)) rfl rfl ho mw_434 mw_435 mw_436 mw_7 mw_437 ⟨⟨by decide, rfl, hdep, Nat.le_of_ble_eq_true rfl⟩, Nat.le_of_ble_eq_true rfl, rfl, ⟨by decide, by decide⟩, hcat⟩ (by decide +kernel) (by intro v hv; simp only [List.mem_cons, List.not_mem_nil, or_false] at hv; rcases hv with rfl <;> intro x hx <;> cases hx) d hq k rfl
abbrev g_X6_init : Gx := (yX6_init, cX6_init, 1, (Option.none : Option FieldType), 1)
def f_X6_init (l0 : Nat) (h : Hp) : Option (Unit × Hp) :=
  (nm (nwc h 22 64 64) fun h1 =>
(ck h1 l0 6
(some ((), (sP h1 l0 0 (some (gN h + 1)))))))
set_option maxRecDepth 20000 in
theorem t_X6_init (l0 : Nat) (h : Hp) : Sm rvV g_X6_init 0 (ent 1 [.ref l0]) [] h (f_X6_init l0 h) := by
  show Sm rvV g_X6_init 0 [.ref l0] [] h _
  unfold f_X6_init
  refine Sm.aload_n dX6_init_0 rfl rfl rfl ?_
  refine Sm.objInit dX6_init_1 rfl mw_148 mw_20 mw_21 (Nat.le_of_ble_eq_true rfl) (Nat.le_of_ble_eq_true rfl) rfl ?_
  refine Sm.aload_n dX6_init_4 rfl rfl rfl ?_
  refine Sm.bipush dX6_init_5 bp_64 rfl ?_
  refine Sm.newL (by decide) (by decide) dX6_init_7 mw_111 rfl ?_
  refine Sm.nmH (fun h1 e2 e3 => ?_)
  refine Sm.ck (fun o4 => ?_)
  refine pf_X6_9 o4 dX6_init_9 rfl rfl rfl ?_
  exact Sm.ret (r := ()) dX6_init_12 trivial rfl
set_option maxRecDepth 20000 in
theorem kc_X7_27 {ρ : Type} {rv : ρ → Option Value} {G : Gx} {pc q : Nat} {lv st : List Value} {h : Hp} {a : Nat} {e : Unit → Hp → Option (ρ × Hp)} (d : decode G.2.1 pc = .ok (.invokespecial 27, 3)) (ho : G.1.cls = RX7) (hdep : (g_X6_init).2.2.2.2 < G.2.2.2.2) (hcat : catS st ≤ 8) (hq : pc + 3 = q) (k : ∀ r h1, Sm rv G q lv (st) h1 (e r h1)) : Sm rv G pc lv (.ref a :: st) h (bd (f_X6_init a h) e) :=
  Sm.callIN (rv' := rvV) (args := []) (n := 0) (t_X6_init a h) ho rfl rfl mw_145 mw_146 mw_8 mw_147 ⟨⟨by decide, rfl, hdep, Nat.le_of_ble_eq_true rfl⟩, Nat.le_of_ble_eq_true rfl, rfl, ⟨by decide, by decide⟩, hcat⟩ (by decide +kernel) (fun v hv => by cases hv) d hq k rfl
abbrev g_X6_domain : Gx := (yX6_domain, cX6_domain, 4, (Option.some FieldType.long), 1)
def f_X6_domain_4 (k4 : (Int64 × Int32 × Hp) → Option (Int64 × Hp)) (l0 : Nat) (l1 : Int64) (l3 : Int32) (h : Hp) : Option (Int64 × Hp) :=
  (if (64 : Int32) ≤ l3 then
(some (l1, h))
else
(ck h l0 6
((gP h l0 0).bind fun v3 =>
(ca h v3 22 l3
(if (lg_cmp (gL h v3 l3.toNatClampNeg) (0 : Int64)) = 0 then
(nm (l3 + (1 : Int32)) fun v6 =>
(k4 (l1, v6, h)))
else
(bd (f_X9_alone l3 h) fun v7 h8 =>
(nm (l1 ||| v7) fun v9 =>
(nm (l3 + (1 : Int32)) fun v10 =>
(k4 (v9, v10, h8))))))))))
set_option maxRecDepth 20000 in
theorem t_X6_domain_4 (l0 : Nat) (l1 : Int64) (l3 : Int32) (h : Hp) (k4 : (Int64 × Int32 × Hp) → Option (Int64 × Hp)) (hk4 : ∀ s : Int64 × Int32 × Hp, Sm rvJ g_X6_domain 4 [.ref l0, .long s.1, .null, .int s.2.1] [] s.2.2 (k4 s)) : Sm rvJ g_X6_domain 4 [.ref l0, .long l1, .null, .int l3] [] h (f_X6_domain_4 k4 l0 l1 l3 h) := by
  unfold f_X6_domain_4
  refine Sm.iload_n dX6_domain_4 rfl rfl rfl ?_
  refine Sm.bipush dX6_domain_5 bp_64 rfl ?_
  refine Sm.icmp_ge (t := 34) dX6_domain_7 (by decide) rfl (fun b1 => ?_) (fun b1 => ?_)
  · refine Sm.lload_n dX6_domain_34 rfl rfl rfl ?_
    exact Sm.ret dX6_domain_35 trivial rfl
  · refine Sm.aload_n dX6_domain_10 rfl rfl rfl ?_
    refine Sm.ck (fun o2 => ?_)
    refine gf_X6_9 o2 dX6_domain_11 rfl rfl (fun v3 => ?_)
    refine Sm.iload_n dX6_domain_14 rfl rfl rfl ?_
    refine Sm.ca (fun q4 => ?_)
    refine Sm.lald q4 dX6_domain_15 rfl ?_
    refine Sm.lconst (v := (0 : Int64)) dX6_domain_16 (by decide) rfl ?_
    refine Sm.lcmp dX6_domain_17 rfl ?_
    refine Sm.if_eq (t := 28) dX6_domain_18 (by decide) rfl (fun b5 => ?_) (fun b5 => ?_)
    · refine Sm.iinc (lv' := [.ref l0, .long l1, .null, .int (l3 + (1 : Int32))]) dX6_domain_28 rfl ic_1 rfl rfl ?_
      refine Sm.nm (LV := fun v6 => [.ref l0, .long l1, .null, .int v6]) (ST := fun v6 => []) (fun v6 => ?_)
      refine Sm.goto (t := 4) dX6_domain_31 (by decide) ?_
      exact Sm.wk (hk4 (l1, v6, h)) ⟨Or.inr rfl, Or.inr rfl, Or.inl rfl, Or.inr rfl, trivial⟩
    · refine Sm.lload_n dX6_domain_21 rfl rfl rfl ?_
      refine Sm.iload_n dX6_domain_22 rfl rfl rfl ?_
      refine kc_X6_19 dX6_domain_23 rfl (Nat.le_of_ble_eq_true rfl) (Nat.le_of_ble_eq_true rfl) rfl (fun v7 h8 => ?_)
      refine Sm.lor dX6_domain_26 rfl ?_
      refine Sm.nm (LV := fun v9 => [.ref l0, .long l1, .null, .int l3]) (ST := fun v9 => [.long v9]) (fun v9 => ?_)
      refine Sm.lstore_n (lv' := [.ref l0, .long v9, .null, .int l3]) dX6_domain_27 rfl (Nat.le_of_ble_eq_true rfl) rfl rfl ?_
      refine Sm.iinc (lv' := [.ref l0, .long v9, .null, .int (l3 + (1 : Int32))]) dX6_domain_28 rfl ic_1 rfl rfl ?_
      refine Sm.nm (LV := fun v10 => [.ref l0, .long v9, .null, .int v10]) (ST := fun v10 => []) (fun v10 => ?_)
      refine Sm.goto (t := 4) dX6_domain_31 (by decide) ?_
      exact Sm.wk (hk4 (v9, v10, h8)) ⟨Or.inr rfl, Or.inr rfl, Or.inl rfl, Or.inr rfl, trivial⟩
def f_X6_domain (l0 : Nat) (h : Hp) : Option (Int64 × Hp) :=
  (loopN (fun k s => f_X6_domain_4 k l0 s.1 s.2.1 s.2.2) 5000 ((0 : Int64), (0 : Int32), h))
set_option maxRecDepth 20000 in
theorem t_X6_domain (l0 : Nat) (h : Hp) : Sm rvJ g_X6_domain 0 (ent 4 [.ref l0]) [] h (f_X6_domain l0 h) := by
  show Sm rvJ g_X6_domain 0 [.ref l0, .null, .null, .null] [] h _
  unfold f_X6_domain
  refine Sm.lconst (v := (0 : Int64)) dX6_domain_0 (by decide) rfl ?_
  refine Sm.lstore_n (lv' := [.ref l0, .long (0 : Int64), .null, .null]) dX6_domain_1 rfl (Nat.le_of_ble_eq_true rfl) rfl rfl ?_
  refine Sm.iconst dX6_domain_2 ic_0 rfl ?_
  refine Sm.istore_n (lv' := [.ref l0, .long (0 : Int64), .null, .int (0 : Int32)]) dX6_domain_3 rfl (Nat.le_of_ble_eq_true rfl) rfl rfl ?_
  exact Sm.wk (Sm.loop (σ := Int64 × Int32 × Hp) (LV := fun s => [.ref l0, .long s.1, .null, .int s.2.1]) (HH := fun s => s.2.2) (fun k hk s => t_X6_domain_4 l0 s.1 s.2.1 s.2.2 k hk) 5000 ((0 : Int64), (0 : Int32), h)) ⟨Or.inr rfl, Or.inr rfl, Or.inl rfl, Or.inr rfl, trivial⟩
set_option maxRecDepth 20000 in
theorem kc_X9_133 {ρ : Type} {rv : ρ → Option Value} {G : Gx} {pc q : Nat} {lv st : List Value} {h : Hp} {a : Nat} {e : Int64 → Hp → Option (ρ × Hp)} (hk : isO h a 6) (d : decode G.2.1 pc = .ok (.invokevirtual 133, 3)) (ho : G.1.cls = RX9) (hdep : (g_X6_domain).2.2.2.2 < G.2.2.2.2) (hcat : catS st ≤ 8) (hq : pc + 3 = q) (k : ∀ r h1, Sm rv G q lv (.long r :: st) h1 (e r h1)) : Sm rv G pc lv (.ref a :: st) h (bd (f_X6_domain a h) e) :=
  Sm.callV (rv' := rvJ) (args := []) (n := 0) (t_X6_domain a h) hk (by decide) (r := (RX6, TX6, 1)) rfl rfl ho mw_692 mw_693 mw_694 mw_8 mw_695 ⟨⟨by decide, rfl, hdep, Nat.le_of_ble_eq_true rfl⟩, Nat.le_of_ble_eq_true rfl, rfl, ⟨by decide, by decide⟩, hcat⟩ (by decide +kernel) (fun v hv => by cases hv) d hq k rfl
abbrev g_X6_widest : Gx := (yX6_widest, cX6_widest, 3, (Option.some FieldType.int), 1)
def f_X6_widest_4 (k4 : (Int32 × Int32 × Hp) → Option (Int32 × Hp)) (l0 : Nat) (l1 : Int32) (l2 : Int32) (h : Hp) : Option (Int32 × Hp) :=
  (if (64 : Int32) ≤ l2 then
(some (l1, h))
else
(ck h l0 6
((gP h l0 0).bind fun v3 =>
(ca h v3 22 l2
(bd (f_J13_bitCount_95d88 (gL h v3 l2.toNatClampNeg) h) fun v5 h6 =>
(nm (if l1 < v5 then v5 else l1) fun v7 =>
(nm (l2 + (1 : Int32)) fun v8 =>
(k4 (v7, v8, h6)))))))))
set_option maxRecDepth 20000 in
theorem t_X6_widest_4 (l0 : Nat) (l1 : Int32) (l2 : Int32) (h : Hp) (k4 : (Int32 × Int32 × Hp) → Option (Int32 × Hp)) (hk4 : ∀ s : Int32 × Int32 × Hp, Sm rvI g_X6_widest 4 [.ref l0, .int s.1, .int s.2.1] [] s.2.2 (k4 s)) : Sm rvI g_X6_widest 4 [.ref l0, .int l1, .int l2] [] h (f_X6_widest_4 k4 l0 l1 l2 h) := by
  unfold f_X6_widest_4
  refine Sm.iload_n dX6_widest_4 rfl rfl rfl ?_
  refine Sm.bipush dX6_widest_5 bp_64 rfl ?_
  refine Sm.icmp_ge (t := 30) dX6_widest_7 (by decide) rfl (fun b1 => ?_) (fun b1 => ?_)
  · refine Sm.iload_n dX6_widest_30 rfl rfl rfl ?_
    exact Sm.ret dX6_widest_31 trivial rfl
  · refine Sm.iload_n dX6_widest_10 rfl rfl rfl ?_
    refine Sm.aload_n dX6_widest_11 rfl rfl rfl ?_
    refine Sm.ck (fun o2 => ?_)
    refine gf_X6_9 o2 dX6_widest_12 rfl rfl (fun v3 => ?_)
    refine Sm.iload_n dX6_widest_15 rfl rfl rfl ?_
    refine Sm.ca (fun q4 => ?_)
    refine Sm.lald q4 dX6_widest_16 rfl ?_
    refine kc_X6_23 dX6_widest_17 rfl (Nat.le_of_ble_eq_true rfl) (Nat.le_of_ble_eq_true rfl) rfl (fun v5 h6 => ?_)
    refine Sm.mmax dX6_widest_20 rfl mw_706 mw_627 mw_13 mw_628 (Nat.le_of_ble_eq_true rfl) (Nat.le_of_ble_eq_true rfl) rfl ?_
    refine Sm.nm (LV := fun v7 => [.ref l0, .int l1, .int l2]) (ST := fun v7 => [.int v7]) (fun v7 => ?_)
    refine Sm.istore_n (lv' := [.ref l0, .int v7, .int l2]) dX6_widest_23 rfl (Nat.le_of_ble_eq_true rfl) rfl rfl ?_
    refine Sm.iinc (lv' := [.ref l0, .int v7, .int (l2 + (1 : Int32))]) dX6_widest_24 rfl ic_1 rfl rfl ?_
    refine Sm.nm (LV := fun v8 => [.ref l0, .int v7, .int v8]) (ST := fun v8 => []) (fun v8 => ?_)
    refine Sm.goto (t := 4) dX6_widest_27 (by decide) ?_
    exact Sm.wk (hk4 (v7, v8, h6)) ⟨Or.inr rfl, Or.inr rfl, Or.inr rfl, trivial⟩
def f_X6_widest (l0 : Nat) (h : Hp) : Option (Int32 × Hp) :=
  (loopN (fun k s => f_X6_widest_4 k l0 s.1 s.2.1 s.2.2) 5000 ((0 : Int32), (0 : Int32), h))
set_option maxRecDepth 20000 in
theorem t_X6_widest (l0 : Nat) (h : Hp) : Sm rvI g_X6_widest 0 (ent 3 [.ref l0]) [] h (f_X6_widest l0 h) := by
  show Sm rvI g_X6_widest 0 [.ref l0, .null, .null] [] h _
  unfold f_X6_widest
  refine Sm.iconst dX6_widest_0 ic_0 rfl ?_
  refine Sm.istore_n (lv' := [.ref l0, .int (0 : Int32), .null]) dX6_widest_1 rfl (Nat.le_of_ble_eq_true rfl) rfl rfl ?_
  refine Sm.iconst dX6_widest_2 ic_0 rfl ?_
  refine Sm.istore_n (lv' := [.ref l0, .int (0 : Int32), .int (0 : Int32)]) dX6_widest_3 rfl (Nat.le_of_ble_eq_true rfl) rfl rfl ?_
  exact Sm.wk (Sm.loop (σ := Int32 × Int32 × Hp) (LV := fun s => [.ref l0, .int s.1, .int s.2.1]) (HH := fun s => s.2.2) (fun k hk s => t_X6_widest_4 l0 s.1 s.2.1 s.2.2 k hk) 5000 ((0 : Int32), (0 : Int32), h)) ⟨Or.inr rfl, Or.inr rfl, Or.inr rfl, trivial⟩
set_option maxRecDepth 20000 in
theorem kc_X9_137 {ρ : Type} {rv : ρ → Option Value} {G : Gx} {pc q : Nat} {lv st : List Value} {h : Hp} {a : Nat} {e : Int32 → Hp → Option (ρ × Hp)} (hk : isO h a 6) (d : decode G.2.1 pc = .ok (.invokevirtual 137, 3)) (ho : G.1.cls = RX9) (hdep : (g_X6_widest).2.2.2.2 < G.2.2.2.2) (hcat : catS st ≤ 8) (hq : pc + 3 = q) (k : ∀ r h1, Sm rv G q lv (.int r :: st) h1 (e r h1)) : Sm rv G pc lv (.ref a :: st) h (bd (f_X6_widest a h) e) :=
  Sm.callV (rv' := rvI) (args := []) (n := 0) (t_X6_widest a h) hk (by decide) (r := (RX6, TX6, 1)) rfl rfl ho mw_701 mw_702 mw_703 mw_8 mw_704 ⟨⟨by decide, rfl, hdep, Nat.le_of_ble_eq_true rfl⟩, Nat.le_of_ble_eq_true rfl, rfl, ⟨by decide, by decide⟩, hcat⟩ (by decide +kernel) (fun v hv => by cases hv) d hq k rfl
abbrev g_X6_stepsFrom : Gx := (yX6_stepsFrom, cX6_stepsFrom, 8, (Option.some FieldType.int), 3)
def f_X6_stepsFrom_14 (k14 : (Int64 × Int64 × Int32 × Int32 × Hp) → Option (Int32 × Hp)) (l0 : Nat) (l2 : Int64) (l4 : Int64) (l6 : Int32) (l7 : Int32) (h : Hp) : Option (Int32 × Hp) :=
  (if (64 : Int32) < l7 then
(some (l6, h))
else
(if (lg_cmp l4 (0 : Int64)) = 0 then
(some (l6, h))
else
(nm (l6 + (1 : Int32)) fun v5 =>
(ck h l0 6
((gP h l0 0).bind fun v7 =>
(bd (f_X9_imageOfSet v7 (0 : Int32) l4 h) fun v8 h9 =>
(nm (v8 &&& (l2 ^^^ (-1 : Int64))) fun v10 =>
(nm (l2 ||| v10) fun v11 =>
(nm (l7 + (1 : Int32)) fun v12 =>
(k14 (v11, v10, v5, v12, h9)))))))))))
set_option maxRecDepth 20000 in
theorem t_X6_stepsFrom_14 (l0 : Nat) (l2 : Int64) (l4 : Int64) (l6 : Int32) (l7 : Int32) (h : Hp) (k14 : (Int64 × Int64 × Int32 × Int32 × Hp) → Option (Int32 × Hp)) (hk14 : ∀ s : Int64 × Int64 × Int32 × Int32 × Hp, Sm rvI g_X6_stepsFrom 14 [.ref l0, .null, .long s.1, .null, .long s.2.1, .null, .int s.2.2.1, .int s.2.2.2.1] [] s.2.2.2.2 (k14 s)) : Sm rvI g_X6_stepsFrom 14 [.ref l0, .null, .long l2, .null, .long l4, .null, .int l6, .int l7] [] h (f_X6_stepsFrom_14 k14 l0 l2 l4 l6 l7 h) := by
  unfold f_X6_stepsFrom_14
  refine Sm.iload dX6_stepsFrom_14 rfl rfl ?_
  refine Sm.bipush dX6_stepsFrom_16 bp_64 rfl ?_
  refine Sm.icmp_gt (t := 60) dX6_stepsFrom_18 (by decide) rfl (fun b3 => ?_) (fun b3 => ?_)
  · refine Sm.iload dX6_stepsFrom_60 rfl rfl ?_
    exact Sm.ret dX6_stepsFrom_62 trivial rfl
  · refine Sm.lload dX6_stepsFrom_21 rfl rfl ?_
    refine Sm.lconst (v := (0 : Int64)) dX6_stepsFrom_23 (by decide) rfl ?_
    refine Sm.lcmp dX6_stepsFrom_24 rfl ?_
    refine Sm.if_eq (t := 60) dX6_stepsFrom_25 (by decide) rfl (fun b4 => ?_) (fun b4 => ?_)
    · refine Sm.iload dX6_stepsFrom_60 rfl rfl ?_
      exact Sm.ret dX6_stepsFrom_62 trivial rfl
    · refine Sm.iinc (lv' := [.ref l0, .null, .long l2, .null, .long l4, .null, .int (l6 + (1 : Int32)), .int l7]) dX6_stepsFrom_28 rfl ic_1 rfl rfl ?_
      refine Sm.nm (LV := fun v5 => [.ref l0, .null, .long l2, .null, .long l4, .null, .int v5, .int l7]) (ST := fun v5 => []) (fun v5 => ?_)
      refine Sm.aload_n dX6_stepsFrom_31 rfl rfl rfl ?_
      refine Sm.ck (fun o6 => ?_)
      refine gf_X6_9 o6 dX6_stepsFrom_32 rfl rfl (fun v7 => ?_)
      refine Sm.iconst dX6_stepsFrom_35 ic_0 rfl ?_
      refine Sm.lload dX6_stepsFrom_36 rfl rfl ?_
      refine kc_X6_39 dX6_stepsFrom_38 rfl (Nat.le_of_ble_eq_true rfl) (Nat.le_of_ble_eq_true rfl) rfl (fun v8 h9 => ?_)
      refine Sm.lload_n dX6_stepsFrom_41 rfl rfl rfl ?_
      refine Sm.ldc2 dX6_stepsFrom_42 mw_720 rfl ?_
      refine Sm.lxor dX6_stepsFrom_45 rfl ?_
      refine Sm.land dX6_stepsFrom_46 rfl ?_
      refine Sm.nm (LV := fun v10 => [.ref l0, .null, .long l2, .null, .long l4, .null, .int v5, .int l7]) (ST := fun v10 => [.long v10]) (fun v10 => ?_)
      refine Sm.lstore (lv' := [.ref l0, .null, .long l2, .null, .long v10, .null, .int v5, .int l7]) dX6_stepsFrom_47 (Nat.le_of_ble_eq_true rfl) rfl rfl ?_
      refine Sm.lload_n dX6_stepsFrom_49 rfl rfl rfl ?_
      refine Sm.lload dX6_stepsFrom_50 rfl rfl ?_
      refine Sm.lor dX6_stepsFrom_52 rfl ?_
      refine Sm.nm (LV := fun v11 => [.ref l0, .null, .long l2, .null, .long v10, .null, .int v5, .int l7]) (ST := fun v11 => [.long v11]) (fun v11 => ?_)
      refine Sm.lstore_n (lv' := [.ref l0, .null, .long v11, .null, .long v10, .null, .int v5, .int l7]) dX6_stepsFrom_53 rfl (Nat.le_of_ble_eq_true rfl) rfl rfl ?_
      refine Sm.iinc (lv' := [.ref l0, .null, .long v11, .null, .long v10, .null, .int v5, .int (l7 + (1 : Int32))]) dX6_stepsFrom_54 rfl ic_1 rfl rfl ?_
      refine Sm.nm (LV := fun v12 => [.ref l0, .null, .long v11, .null, .long v10, .null, .int v5, .int v12]) (ST := fun v12 => []) (fun v12 => ?_)
      refine Sm.goto (t := 14) dX6_stepsFrom_57 (by decide) ?_
      exact Sm.wk (hk14 (v11, v10, v5, v12, h9)) ⟨Or.inr rfl, Or.inl rfl, Or.inr rfl, Or.inl rfl, Or.inr rfl, Or.inl rfl, Or.inr rfl, Or.inr rfl, trivial⟩
def f_X6_stepsFrom (l0 : Nat) (l1 : Int32) (h : Hp) : Option (Int32 × Hp) :=
  (bd (f_X9_alone l1 h) fun v1 h2 =>
(loopN (fun k s => f_X6_stepsFrom_14 k l0 s.1 s.2.1 s.2.2.1 s.2.2.2.1 s.2.2.2.2) 5000 (v1, v1, (-1 : Int32), (0 : Int32), h2)))
set_option maxRecDepth 20000 in
theorem t_X6_stepsFrom (l0 : Nat) (l1 : Int32) (h : Hp) : Sm rvI g_X6_stepsFrom 0 (ent 8 [.ref l0, .int l1]) [] h (f_X6_stepsFrom l0 l1 h) := by
  show Sm rvI g_X6_stepsFrom 0 [.ref l0, .int l1, .null, .null, .null, .null, .null, .null] [] h _
  unfold f_X6_stepsFrom
  refine Sm.iload_n dX6_stepsFrom_0 rfl rfl rfl ?_
  refine kc_X6_19 dX6_stepsFrom_1 rfl (Nat.le_of_ble_eq_true rfl) (Nat.le_of_ble_eq_true rfl) rfl (fun v1 h2 => ?_)
  refine Sm.lstore_n (lv' := [.ref l0, .int l1, .long v1, .null, .null, .null, .null, .null]) dX6_stepsFrom_4 rfl (Nat.le_of_ble_eq_true rfl) rfl rfl ?_
  refine Sm.lload_n dX6_stepsFrom_5 rfl rfl rfl ?_
  refine Sm.lstore (lv' := [.ref l0, .int l1, .long v1, .null, .long v1, .null, .null, .null]) dX6_stepsFrom_6 (Nat.le_of_ble_eq_true rfl) rfl rfl ?_
  refine Sm.iconst dX6_stepsFrom_8 ic_m1 rfl ?_
  refine Sm.istore (lv' := [.ref l0, .int l1, .long v1, .null, .long v1, .null, .int (-1 : Int32), .null]) dX6_stepsFrom_9 (Nat.le_of_ble_eq_true rfl) rfl rfl ?_
  refine Sm.iconst dX6_stepsFrom_11 ic_0 rfl ?_
  refine Sm.istore (lv' := [.ref l0, .int l1, .long v1, .null, .long v1, .null, .int (-1 : Int32), .int (0 : Int32)]) dX6_stepsFrom_12 (Nat.le_of_ble_eq_true rfl) rfl rfl ?_
  exact Sm.wk (Sm.loop (σ := Int64 × Int64 × Int32 × Int32 × Hp) (LV := fun s => [.ref l0, .null, .long s.1, .null, .long s.2.1, .null, .int s.2.2.1, .int s.2.2.2.1]) (HH := fun s => s.2.2.2.2) (fun k hk s => t_X6_stepsFrom_14 l0 s.1 s.2.1 s.2.2.1 s.2.2.2.1 s.2.2.2.2 k hk) 5000 (v1, v1, (-1 : Int32), (0 : Int32), h2)) ⟨Or.inr rfl, Or.inl rfl, Or.inr rfl, Or.inl rfl, Or.inr rfl, Or.inl rfl, Or.inr rfl, Or.inr rfl, trivial⟩
set_option maxRecDepth 20000 in
theorem kc_X6_35 {ρ : Type} {rv : ρ → Option Value} {G : Gx} {pc q : Nat} {lv st : List Value} {h : Hp} {a : Nat} {x1 : Int32} {e : Int32 → Hp → Option (ρ × Hp)} (hk : isO h a 6) (d : decode G.2.1 pc = .ok (.invokevirtual 35, 3)) (ho : G.1.cls = RX6) (hdep : (g_X6_stepsFrom).2.2.2.2 < G.2.2.2.2) (hcat : catS st ≤ 8) (hq : pc + 3 = q) (k : ∀ r h1, Sm rv G q lv (.int r :: st) h1 (e r h1)) : Sm rv G pc lv (.int x1 :: .ref a :: st) h (bd (f_X6_stepsFrom a x1 h) e) :=
  Sm.callV (rv' := rvI) (args := [.int x1]) (n := 1) (t_X6_stepsFrom a x1 h) hk (by decide) (r := (RX6, TX6, 1)) rfl rfl ho mw_715 mw_717 mp_47 mw_8 mw_718 ⟨⟨by decide, rfl, hdep, Nat.le_of_ble_eq_true rfl⟩, Nat.le_of_ble_eq_true rfl, rfl, ⟨by decide, by decide⟩, hcat⟩ (by decide +kernel) (by intro v hv; simp only [List.mem_cons, List.not_mem_nil, or_false] at hv; rcases hv with rfl <;> intro x hx <;> cases hx) d hq k rfl
abbrev g_X6_mostSteps : Gx := (yX6_mostSteps, cX6_mostSteps, 3, (Option.some FieldType.int), 4)
def f_X6_mostSteps_4 (k4 : (Int32 × Int32 × Hp) → Option (Int32 × Hp)) (l0 : Nat) (l1 : Int32) (l2 : Int32) (h : Hp) : Option (Int32 × Hp) :=
  (if (64 : Int32) ≤ l2 then
(some (l1, h))
else
(ck h l0 6
(bd (f_X6_stepsFrom l0 l2 h) fun v3 h4 =>
(nm (if l1 < v3 then v3 else l1) fun v5 =>
(nm (l2 + (1 : Int32)) fun v6 =>
(k4 (v5, v6, h4)))))))
set_option maxRecDepth 20000 in
theorem t_X6_mostSteps_4 (l0 : Nat) (l1 : Int32) (l2 : Int32) (h : Hp) (k4 : (Int32 × Int32 × Hp) → Option (Int32 × Hp)) (hk4 : ∀ s : Int32 × Int32 × Hp, Sm rvI g_X6_mostSteps 4 [.ref l0, .int s.1, .int s.2.1] [] s.2.2 (k4 s)) : Sm rvI g_X6_mostSteps 4 [.ref l0, .int l1, .int l2] [] h (f_X6_mostSteps_4 k4 l0 l1 l2 h) := by
  unfold f_X6_mostSteps_4
  refine Sm.iload_n dX6_mostSteps_4 rfl rfl rfl ?_
  refine Sm.bipush dX6_mostSteps_5 bp_64 rfl ?_
  refine Sm.icmp_ge (t := 26) dX6_mostSteps_7 (by decide) rfl (fun b1 => ?_) (fun b1 => ?_)
  · refine Sm.iload_n dX6_mostSteps_26 rfl rfl rfl ?_
    exact Sm.ret dX6_mostSteps_27 trivial rfl
  · refine Sm.iload_n dX6_mostSteps_10 rfl rfl rfl ?_
    refine Sm.aload_n dX6_mostSteps_11 rfl rfl rfl ?_
    refine Sm.iload_n dX6_mostSteps_12 rfl rfl rfl ?_
    refine Sm.ck (fun o2 => ?_)
    refine kc_X6_35 o2 dX6_mostSteps_13 rfl (Nat.le_of_ble_eq_true rfl) (Nat.le_of_ble_eq_true rfl) rfl (fun v3 h4 => ?_)
    refine Sm.mmax dX6_mostSteps_16 rfl mw_706 mw_627 mw_13 mw_628 (Nat.le_of_ble_eq_true rfl) (Nat.le_of_ble_eq_true rfl) rfl ?_
    refine Sm.nm (LV := fun v5 => [.ref l0, .int l1, .int l2]) (ST := fun v5 => [.int v5]) (fun v5 => ?_)
    refine Sm.istore_n (lv' := [.ref l0, .int v5, .int l2]) dX6_mostSteps_19 rfl (Nat.le_of_ble_eq_true rfl) rfl rfl ?_
    refine Sm.iinc (lv' := [.ref l0, .int v5, .int (l2 + (1 : Int32))]) dX6_mostSteps_20 rfl ic_1 rfl rfl ?_
    refine Sm.nm (LV := fun v6 => [.ref l0, .int v5, .int v6]) (ST := fun v6 => []) (fun v6 => ?_)
    refine Sm.goto (t := 4) dX6_mostSteps_23 (by decide) ?_
    exact Sm.wk (hk4 (v5, v6, h4)) ⟨Or.inr rfl, Or.inr rfl, Or.inr rfl, trivial⟩
def f_X6_mostSteps (l0 : Nat) (h : Hp) : Option (Int32 × Hp) :=
  (loopN (fun k s => f_X6_mostSteps_4 k l0 s.1 s.2.1 s.2.2) 5000 ((0 : Int32), (0 : Int32), h))
set_option maxRecDepth 20000 in
theorem t_X6_mostSteps (l0 : Nat) (h : Hp) : Sm rvI g_X6_mostSteps 0 (ent 3 [.ref l0]) [] h (f_X6_mostSteps l0 h) := by
  show Sm rvI g_X6_mostSteps 0 [.ref l0, .null, .null] [] h _
  unfold f_X6_mostSteps
  refine Sm.iconst dX6_mostSteps_0 ic_0 rfl ?_
  refine Sm.istore_n (lv' := [.ref l0, .int (0 : Int32), .null]) dX6_mostSteps_1 rfl (Nat.le_of_ble_eq_true rfl) rfl rfl ?_
  refine Sm.iconst dX6_mostSteps_2 ic_0 rfl ?_
  refine Sm.istore_n (lv' := [.ref l0, .int (0 : Int32), .int (0 : Int32)]) dX6_mostSteps_3 rfl (Nat.le_of_ble_eq_true rfl) rfl rfl ?_
  exact Sm.wk (Sm.loop (σ := Int32 × Int32 × Hp) (LV := fun s => [.ref l0, .int s.1, .int s.2.1]) (HH := fun s => s.2.2) (fun k hk s => t_X6_mostSteps_4 l0 s.1 s.2.1 s.2.2 k hk) 5000 ((0 : Int32), (0 : Int32), h)) ⟨Or.inr rfl, Or.inr rfl, Or.inr rfl, trivial⟩
set_option maxRecDepth 20000 in
theorem kc_X9_140 {ρ : Type} {rv : ρ → Option Value} {G : Gx} {pc q : Nat} {lv st : List Value} {h : Hp} {a : Nat} {e : Int32 → Hp → Option (ρ × Hp)} (hk : isO h a 6) (d : decode G.2.1 pc = .ok (.invokevirtual 140, 3)) (ho : G.1.cls = RX9) (hdep : (g_X6_mostSteps).2.2.2.2 < G.2.2.2.2) (hcat : catS st ≤ 8) (hq : pc + 3 = q) (k : ∀ r h1, Sm rv G q lv (.int r :: st) h1 (e r h1)) : Sm rv G pc lv (.ref a :: st) h (bd (f_X6_mostSteps a h) e) :=
  Sm.callV (rv' := rvI) (args := []) (n := 0) (t_X6_mostSteps a h) hk (by decide) (r := (RX6, TX6, 1)) rfl rfl ho mw_711 mw_712 mw_713 mw_8 mw_714 ⟨⟨by decide, rfl, hdep, Nat.le_of_ble_eq_true rfl⟩, Nat.le_of_ble_eq_true rfl, rfl, ⟨by decide, by decide⟩, hcat⟩ (by decide +kernel) (fun v hv => by cases hv) d hq k rfl
abbrev g_X6_orderTo : Gx := (yX6_orderTo, cX6_orderTo, 5, (Option.some FieldType.int), 0)
def f_X6_orderTo_47 (k7 : (Int32 × Int32 × Int32) → Option (Int32 × Hp)) (l0 : Nat) (l1 : Nat) (l3 : Int32) (l4 : Int32) (s0 : Int32) (h : Hp) : Option (Int32 × Hp) :=
  (if l3 = 0 then
(nm (l4 + (1 : Int32)) fun v7 =>
(k7 (s0, (0 : Int32), v7)))
else
(ck h l1 6
((gP h l1 0).bind fun v9 =>
(ca h v9 22 l4
(ck h l0 6
((gP h l0 0).bind fun v12 =>
(ca h v12 22 l4
(if (lg_cmp ((gL h v9 l4.toNatClampNeg) &&& ((gL h v12 l4.toNatClampNeg) ^^^ (-1 : Int64))) (0 : Int64)) = 0 then
(nm (l4 + (1 : Int32)) fun v15 =>
(k7 (s0, (1 : Int32), v15)))
else
(nm (l4 + (1 : Int32)) fun v16 =>
(k7 (s0, (0 : Int32), v16)))))))))))
set_option maxRecDepth 20000 in
theorem t_X6_orderTo_47 (l0 : Nat) (l1 : Nat) (l3 : Int32) (l4 : Int32) (s0 : Int32) (h : Hp) (k7 : (Int32 × Int32 × Int32) → Option (Int32 × Hp)) (hk7 : ∀ s : Int32 × Int32 × Int32, Sm rvI g_X6_orderTo 7 [.ref l0, .ref l1, .int s.1, .int s.2.1, .int s.2.2] [] h (k7 s)) : Sm rvI g_X6_orderTo 47 [.ref l0, .ref l1, .null, .int l3, .int l4] [.int s0] h (f_X6_orderTo_47 k7 l0 l1 l3 l4 s0 h) := by
  unfold f_X6_orderTo_47
  refine Sm.istore_n (lv' := [.ref l0, .ref l1, .int s0, .int l3, .int l4]) dX6_orderTo_47 rfl (Nat.le_of_ble_eq_true rfl) rfl rfl ?_
  refine Sm.iload_n dX6_orderTo_48 rfl rfl rfl ?_
  refine Sm.if_eq (t := 80) dX6_orderTo_49 (by decide) rfl (fun b6 => ?_) (fun b6 => ?_)
  · refine Sm.iconst dX6_orderTo_80 ic_0 rfl ?_
    refine Sm.istore_n (lv' := [.ref l0, .ref l1, .int s0, .int (0 : Int32), .int l4]) dX6_orderTo_81 rfl (Nat.le_of_ble_eq_true rfl) rfl rfl ?_
    refine Sm.iinc (lv' := [.ref l0, .ref l1, .int s0, .int (0 : Int32), .int (l4 + (1 : Int32))]) dX6_orderTo_82 rfl ic_1 rfl rfl ?_
    refine Sm.nm (LV := fun v7 => [.ref l0, .ref l1, .int s0, .int (0 : Int32), .int v7]) (ST := fun v7 => []) (fun v7 => ?_)
    refine Sm.goto (t := 7) dX6_orderTo_85 (by decide) ?_
    exact Sm.wk (hk7 (s0, (0 : Int32), v7)) ⟨Or.inr rfl, Or.inr rfl, Or.inr rfl, Or.inr rfl, Or.inr rfl, trivial⟩
  · refine Sm.aload_n dX6_orderTo_52 rfl rfl rfl ?_
    refine Sm.ck (fun o8 => ?_)
    refine gf_X6_9 o8 dX6_orderTo_53 rfl rfl (fun v9 => ?_)
    refine Sm.iload dX6_orderTo_56 rfl rfl ?_
    refine Sm.ca (fun q10 => ?_)
    refine Sm.lald q10 dX6_orderTo_58 rfl ?_
    refine Sm.aload_n dX6_orderTo_59 rfl rfl rfl ?_
    refine Sm.ck (fun o11 => ?_)
    refine gf_X6_9 o11 dX6_orderTo_60 rfl rfl (fun v12 => ?_)
    refine Sm.iload dX6_orderTo_63 rfl rfl ?_
    refine Sm.ca (fun q13 => ?_)
    refine Sm.lald q13 dX6_orderTo_65 rfl ?_
    refine Sm.ldc2 dX6_orderTo_66 mw_720 rfl ?_
    refine Sm.lxor dX6_orderTo_69 rfl ?_
    refine Sm.land dX6_orderTo_70 rfl ?_
    refine Sm.lconst (v := (0 : Int64)) dX6_orderTo_71 (by decide) rfl ?_
    refine Sm.lcmp dX6_orderTo_72 rfl ?_
    refine Sm.if_ne (t := 80) dX6_orderTo_73 (by decide) rfl (fun b14 => ?_) (fun b14 => ?_)
    · refine Sm.iconst dX6_orderTo_76 ic_1 rfl ?_
      refine Sm.goto (t := 81) dX6_orderTo_77 (by decide) ?_
      refine Sm.istore_n (lv' := [.ref l0, .ref l1, .int s0, .int (1 : Int32), .int l4]) dX6_orderTo_81 rfl (Nat.le_of_ble_eq_true rfl) rfl rfl ?_
      refine Sm.iinc (lv' := [.ref l0, .ref l1, .int s0, .int (1 : Int32), .int (l4 + (1 : Int32))]) dX6_orderTo_82 rfl ic_1 rfl rfl ?_
      refine Sm.nm (LV := fun v15 => [.ref l0, .ref l1, .int s0, .int (1 : Int32), .int v15]) (ST := fun v15 => []) (fun v15 => ?_)
      refine Sm.goto (t := 7) dX6_orderTo_85 (by decide) ?_
      exact Sm.wk (hk7 (s0, (1 : Int32), v15)) ⟨Or.inr rfl, Or.inr rfl, Or.inr rfl, Or.inr rfl, Or.inr rfl, trivial⟩
    · refine Sm.iconst dX6_orderTo_80 ic_0 rfl ?_
      refine Sm.istore_n (lv' := [.ref l0, .ref l1, .int s0, .int (0 : Int32), .int l4]) dX6_orderTo_81 rfl (Nat.le_of_ble_eq_true rfl) rfl rfl ?_
      refine Sm.iinc (lv' := [.ref l0, .ref l1, .int s0, .int (0 : Int32), .int (l4 + (1 : Int32))]) dX6_orderTo_82 rfl ic_1 rfl rfl ?_
      refine Sm.nm (LV := fun v16 => [.ref l0, .ref l1, .int s0, .int (0 : Int32), .int v16]) (ST := fun v16 => []) (fun v16 => ?_)
      refine Sm.goto (t := 7) dX6_orderTo_85 (by decide) ?_
      exact Sm.wk (hk7 (s0, (0 : Int32), v16)) ⟨Or.inr rfl, Or.inr rfl, Or.inr rfl, Or.inr rfl, Or.inr rfl, trivial⟩
def f_X6_orderTo_46 (k7 : (Int32 × Int32 × Int32) → Option (Int32 × Hp)) (l0 : Nat) (l1 : Nat) (l3 : Int32) (l4 : Int32) (h : Hp) : Option (Int32 × Hp) :=
  (f_X6_orderTo_47 k7 l0 l1 l3 l4 (0 : Int32) h)
set_option maxRecDepth 20000 in
theorem t_X6_orderTo_46 (l0 : Nat) (l1 : Nat) (l3 : Int32) (l4 : Int32) (h : Hp) (k7 : (Int32 × Int32 × Int32) → Option (Int32 × Hp)) (hk7 : ∀ s : Int32 × Int32 × Int32, Sm rvI g_X6_orderTo 7 [.ref l0, .ref l1, .int s.1, .int s.2.1, .int s.2.2] [] h (k7 s)) : Sm rvI g_X6_orderTo 46 [.ref l0, .ref l1, .null, .int l3, .int l4] [] h (f_X6_orderTo_46 k7 l0 l1 l3 l4 h) := by
  unfold f_X6_orderTo_46
  refine Sm.iconst dX6_orderTo_46 ic_0 rfl ?_
  exact Sm.wk (t_X6_orderTo_47 l0 l1 l3 l4 (0 : Int32) h k7 hk7) ⟨Or.inr rfl, Or.inr rfl, Or.inl rfl, Or.inr rfl, Or.inr rfl, trivial⟩
def f_X6_orderTo_7 (k7 : (Int32 × Int32 × Int32) → Option (Int32 × Hp)) (l0 : Nat) (l1 : Nat) (l2 : Int32) (l3 : Int32) (l4 : Int32) (h : Hp) : Option (Int32 × Hp) :=
  (if (64 : Int32) ≤ l4 then
(if l2 = 0 then
(if l3 = 0 then
(some ((3 : Int32), h))
else
(some ((2 : Int32), h)))
else
(if l3 = 0 then
(some ((1 : Int32), h))
else
(some ((0 : Int32), h))))
else
(if l2 = 0 then
(f_X6_orderTo_46 k7 l0 l1 l3 l4 h)
else
(ck h l0 6
((gP h l0 0).bind fun v18 =>
(ca h v18 22 l4
(ck h l1 6
((gP h l1 0).bind fun v21 =>
(ca h v21 22 l4
(if (lg_cmp ((gL h v18 l4.toNatClampNeg) &&& ((gL h v21 l4.toNatClampNeg) ^^^ (-1 : Int64))) (0 : Int64)) = 0 then
(f_X6_orderTo_47 k7 l0 l1 l3 l4 (1 : Int32) h)
else
(f_X6_orderTo_46 k7 l0 l1 l3 l4 h))))))))))
set_option maxRecDepth 20000 in
theorem t_X6_orderTo_7 (l0 : Nat) (l1 : Nat) (l2 : Int32) (l3 : Int32) (l4 : Int32) (h : Hp) (k7 : (Int32 × Int32 × Int32) → Option (Int32 × Hp)) (hk7 : ∀ s : Int32 × Int32 × Int32, Sm rvI g_X6_orderTo 7 [.ref l0, .ref l1, .int s.1, .int s.2.1, .int s.2.2] [] h (k7 s)) : Sm rvI g_X6_orderTo 7 [.ref l0, .ref l1, .int l2, .int l3, .int l4] [] h (f_X6_orderTo_7 k7 l0 l1 l2 l3 l4 h) := by
  unfold f_X6_orderTo_7
  refine Sm.iload dX6_orderTo_7 rfl rfl ?_
  refine Sm.bipush dX6_orderTo_9 bp_64 rfl ?_
  refine Sm.icmp_ge (t := 88) dX6_orderTo_11 (by decide) rfl (fun b1 => ?_) (fun b1 => ?_)
  · refine Sm.iload_n dX6_orderTo_88 rfl rfl rfl ?_
    refine Sm.if_eq (t := 102) dX6_orderTo_89 (by decide) rfl (fun b2 => ?_) (fun b2 => ?_)
    · refine Sm.iload_n dX6_orderTo_102 rfl rfl rfl ?_
      refine Sm.if_eq (t := 110) dX6_orderTo_103 (by decide) rfl (fun b3 => ?_) (fun b3 => ?_)
      · refine Sm.iconst dX6_orderTo_110 ic_3 rfl ?_
        exact Sm.ret dX6_orderTo_111 trivial rfl
      · refine Sm.iconst dX6_orderTo_106 ic_2 rfl ?_
        refine Sm.goto (t := 111) dX6_orderTo_107 (by decide) ?_
        exact Sm.ret dX6_orderTo_111 trivial rfl
    · refine Sm.iload_n dX6_orderTo_92 rfl rfl rfl ?_
      refine Sm.if_eq (t := 100) dX6_orderTo_93 (by decide) rfl (fun b4 => ?_) (fun b4 => ?_)
      · refine Sm.iconst dX6_orderTo_100 ic_1 rfl ?_
        exact Sm.ret dX6_orderTo_101 trivial rfl
      · refine Sm.iconst dX6_orderTo_96 ic_0 rfl ?_
        refine Sm.goto (t := 101) dX6_orderTo_97 (by decide) ?_
        exact Sm.ret dX6_orderTo_101 trivial rfl
  · refine Sm.iload_n dX6_orderTo_14 rfl rfl rfl ?_
    refine Sm.if_eq (t := 46) dX6_orderTo_15 (by decide) rfl (fun b5 => ?_) (fun b5 => ?_)
    · exact Sm.wk (t_X6_orderTo_46 l0 l1 l3 l4 h k7 hk7) ⟨Or.inr rfl, Or.inr rfl, Or.inl rfl, Or.inr rfl, Or.inr rfl, trivial⟩
    · refine Sm.aload_n dX6_orderTo_18 rfl rfl rfl ?_
      refine Sm.ck (fun o17 => ?_)
      refine gf_X6_9 o17 dX6_orderTo_19 rfl rfl (fun v18 => ?_)
      refine Sm.iload dX6_orderTo_22 rfl rfl ?_
      refine Sm.ca (fun q19 => ?_)
      refine Sm.lald q19 dX6_orderTo_24 rfl ?_
      refine Sm.aload_n dX6_orderTo_25 rfl rfl rfl ?_
      refine Sm.ck (fun o20 => ?_)
      refine gf_X6_9 o20 dX6_orderTo_26 rfl rfl (fun v21 => ?_)
      refine Sm.iload dX6_orderTo_29 rfl rfl ?_
      refine Sm.ca (fun q22 => ?_)
      refine Sm.lald q22 dX6_orderTo_31 rfl ?_
      refine Sm.ldc2 dX6_orderTo_32 mw_720 rfl ?_
      refine Sm.lxor dX6_orderTo_35 rfl ?_
      refine Sm.land dX6_orderTo_36 rfl ?_
      refine Sm.lconst (v := (0 : Int64)) dX6_orderTo_37 (by decide) rfl ?_
      refine Sm.lcmp dX6_orderTo_38 rfl ?_
      refine Sm.if_ne (t := 46) dX6_orderTo_39 (by decide) rfl (fun b23 => ?_) (fun b23 => ?_)
      · refine Sm.iconst dX6_orderTo_42 ic_1 rfl ?_
        refine Sm.goto (t := 47) dX6_orderTo_43 (by decide) ?_
        exact Sm.wk (t_X6_orderTo_47 l0 l1 l3 l4 (1 : Int32) h k7 hk7) ⟨Or.inr rfl, Or.inr rfl, Or.inl rfl, Or.inr rfl, Or.inr rfl, trivial⟩
      · exact Sm.wk (t_X6_orderTo_46 l0 l1 l3 l4 h k7 hk7) ⟨Or.inr rfl, Or.inr rfl, Or.inl rfl, Or.inr rfl, Or.inr rfl, trivial⟩
def f_X6_orderTo (l0 : Nat) (l1 : Nat) (h : Hp) : Option (Int32 × Hp) :=
  (loopN (fun k s => f_X6_orderTo_7 k l0 l1 s.1 s.2.1 s.2.2 h) 5000 ((1 : Int32), (1 : Int32), (0 : Int32)))
set_option maxRecDepth 20000 in
theorem t_X6_orderTo (l0 : Nat) (l1 : Nat) (h : Hp) : Sm rvI g_X6_orderTo 0 (ent 5 [.ref l0, .ref l1]) [] h (f_X6_orderTo l0 l1 h) := by
  show Sm rvI g_X6_orderTo 0 [.ref l0, .ref l1, .null, .null, .null] [] h _
  unfold f_X6_orderTo
  refine Sm.iconst dX6_orderTo_0 ic_1 rfl ?_
  refine Sm.istore_n (lv' := [.ref l0, .ref l1, .int (1 : Int32), .null, .null]) dX6_orderTo_1 rfl (Nat.le_of_ble_eq_true rfl) rfl rfl ?_
  refine Sm.iconst dX6_orderTo_2 ic_1 rfl ?_
  refine Sm.istore_n (lv' := [.ref l0, .ref l1, .int (1 : Int32), .int (1 : Int32), .null]) dX6_orderTo_3 rfl (Nat.le_of_ble_eq_true rfl) rfl rfl ?_
  refine Sm.iconst dX6_orderTo_4 ic_0 rfl ?_
  refine Sm.istore (lv' := [.ref l0, .ref l1, .int (1 : Int32), .int (1 : Int32), .int (0 : Int32)]) dX6_orderTo_5 (Nat.le_of_ble_eq_true rfl) rfl rfl ?_
  exact Sm.wk (Sm.loop (σ := Int32 × Int32 × Int32) (LV := fun s => [.ref l0, .ref l1, .int s.1, .int s.2.1, .int s.2.2]) (HH := fun s => h) (fun k hk s => t_X6_orderTo_7 l0 l1 s.1 s.2.1 s.2.2 h k hk) 5000 ((1 : Int32), (1 : Int32), (0 : Int32))) ⟨Or.inr rfl, Or.inr rfl, Or.inr rfl, Or.inr rfl, Or.inr rfl, trivial⟩
set_option maxRecDepth 20000 in
theorem kc_X9_143 {ρ : Type} {rv : ρ → Option Value} {G : Gx} {pc q : Nat} {lv st : List Value} {h : Hp} {a : Nat} {x1 : Nat} {e : Int32 → Hp → Option (ρ × Hp)} (hk : isO h a 6) (d : decode G.2.1 pc = .ok (.invokevirtual 143, 3)) (ho : G.1.cls = RX9) (hdep : (g_X6_orderTo).2.2.2.2 < G.2.2.2.2) (hcat : catS st ≤ 8) (hq : pc + 3 = q) (k : ∀ r h1, Sm rv G q lv (.int r :: st) h1 (e r h1)) : Sm rv G pc lv (.ref x1 :: .ref a :: st) h (bd (f_X6_orderTo a x1 h) e) :=
  Sm.callV (rv' := rvI) (args := [.ref x1]) (n := 1) (t_X6_orderTo a x1 h) hk (by decide) (r := (RX6, TX6, 1)) rfl rfl ho mw_725 mw_726 mw_727 mw_8 mw_728 ⟨⟨by decide, rfl, hdep, Nat.le_of_ble_eq_true rfl⟩, Nat.le_of_ble_eq_true rfl, rfl, ⟨by decide, by decide⟩, hcat⟩ (by decide +kernel) (by intro v hv; simp only [List.mem_cons, List.not_mem_nil, or_false] at hv; rcases hv with rfl <;> intro x hx <;> cases hx) d hq k rfl
abbrev g_X6_firstUnlike : Gx := (yX6_firstUnlike, cX6_firstUnlike, 3, (Option.some FieldType.int), 0)
def f_X6_firstUnlike_2 (k2 : Int32 → Option (Int32 × Hp)) (l0 : Nat) (l1 : Nat) (l2 : Int32) (h : Hp) : Option (Int32 × Hp) :=
  (if (64 : Int32) ≤ l2 then
(some ((-1 : Int32), h))
else
(ck h l0 6
((gP h l0 0).bind fun v3 =>
(ca h v3 22 l2
(ck h l1 6
((gP h l1 0).bind fun v6 =>
(ca h v6 22 l2
(if (lg_cmp (gL h v3 l2.toNatClampNeg) (gL h v6 l2.toNatClampNeg)) = 0 then
(nm (l2 + (1 : Int32)) fun v9 =>
(k2 v9))
else
(some (l2, h))))))))))
set_option maxRecDepth 20000 in
theorem t_X6_firstUnlike_2 (l0 : Nat) (l1 : Nat) (l2 : Int32) (h : Hp) (k2 : Int32 → Option (Int32 × Hp)) (hk2 : ∀ s : Int32, Sm rvI g_X6_firstUnlike 2 [.ref l0, .ref l1, .int s] [] h (k2 s)) : Sm rvI g_X6_firstUnlike 2 [.ref l0, .ref l1, .int l2] [] h (f_X6_firstUnlike_2 k2 l0 l1 l2 h) := by
  unfold f_X6_firstUnlike_2
  refine Sm.iload_n dX6_firstUnlike_2 rfl rfl rfl ?_
  refine Sm.bipush dX6_firstUnlike_3 bp_64 rfl ?_
  refine Sm.icmp_ge (t := 32) dX6_firstUnlike_5 (by decide) rfl (fun b1 => ?_) (fun b1 => ?_)
  · refine Sm.iconst dX6_firstUnlike_32 ic_m1 rfl ?_
    exact Sm.ret dX6_firstUnlike_33 trivial rfl
  · refine Sm.aload_n dX6_firstUnlike_8 rfl rfl rfl ?_
    refine Sm.ck (fun o2 => ?_)
    refine gf_X6_9 o2 dX6_firstUnlike_9 rfl rfl (fun v3 => ?_)
    refine Sm.iload_n dX6_firstUnlike_12 rfl rfl rfl ?_
    refine Sm.ca (fun q4 => ?_)
    refine Sm.lald q4 dX6_firstUnlike_13 rfl ?_
    refine Sm.aload_n dX6_firstUnlike_14 rfl rfl rfl ?_
    refine Sm.ck (fun o5 => ?_)
    refine gf_X6_9 o5 dX6_firstUnlike_15 rfl rfl (fun v6 => ?_)
    refine Sm.iload_n dX6_firstUnlike_18 rfl rfl rfl ?_
    refine Sm.ca (fun q7 => ?_)
    refine Sm.lald q7 dX6_firstUnlike_19 rfl ?_
    refine Sm.lcmp dX6_firstUnlike_20 rfl ?_
    refine Sm.if_eq (t := 26) dX6_firstUnlike_21 (by decide) rfl (fun b8 => ?_) (fun b8 => ?_)
    · refine Sm.iinc (lv' := [.ref l0, .ref l1, .int (l2 + (1 : Int32))]) dX6_firstUnlike_26 rfl ic_1 rfl rfl ?_
      refine Sm.nm (LV := fun v9 => [.ref l0, .ref l1, .int v9]) (ST := fun v9 => []) (fun v9 => ?_)
      refine Sm.goto (t := 2) dX6_firstUnlike_29 (by decide) ?_
      exact Sm.wk (hk2 v9) ⟨Or.inr rfl, Or.inr rfl, Or.inr rfl, trivial⟩
    · refine Sm.iload_n dX6_firstUnlike_24 rfl rfl rfl ?_
      exact Sm.ret dX6_firstUnlike_25 trivial rfl
def f_X6_firstUnlike (l0 : Nat) (l1 : Nat) (h : Hp) : Option (Int32 × Hp) :=
  (loopN (fun k s => f_X6_firstUnlike_2 k l0 l1 s h) 5000 (0 : Int32))
set_option maxRecDepth 20000 in
theorem t_X6_firstUnlike (l0 : Nat) (l1 : Nat) (h : Hp) : Sm rvI g_X6_firstUnlike 0 (ent 3 [.ref l0, .ref l1]) [] h (f_X6_firstUnlike l0 l1 h) := by
  show Sm rvI g_X6_firstUnlike 0 [.ref l0, .ref l1, .null] [] h _
  unfold f_X6_firstUnlike
  refine Sm.iconst dX6_firstUnlike_0 ic_0 rfl ?_
  refine Sm.istore_n (lv' := [.ref l0, .ref l1, .int (0 : Int32)]) dX6_firstUnlike_1 rfl (Nat.le_of_ble_eq_true rfl) rfl rfl ?_
  exact Sm.wk (Sm.loop (σ := Int32) (LV := fun s => [.ref l0, .ref l1, .int s]) (HH := fun s => h) (fun k hk s => t_X6_firstUnlike_2 l0 l1 s h k hk) 5000 (0 : Int32)) ⟨Or.inr rfl, Or.inr rfl, Or.inr rfl, trivial⟩
set_option maxRecDepth 20000 in
theorem kc_X9_147 {ρ : Type} {rv : ρ → Option Value} {G : Gx} {pc q : Nat} {lv st : List Value} {h : Hp} {a : Nat} {x1 : Nat} {e : Int32 → Hp → Option (ρ × Hp)} (hk : isO h a 6) (d : decode G.2.1 pc = .ok (.invokevirtual 147, 3)) (ho : G.1.cls = RX9) (hdep : (g_X6_firstUnlike).2.2.2.2 < G.2.2.2.2) (hcat : catS st ≤ 8) (hq : pc + 3 = q) (k : ∀ r h1, Sm rv G q lv (.int r :: st) h1 (e r h1)) : Sm rv G pc lv (.ref x1 :: .ref a :: st) h (bd (f_X6_firstUnlike a x1 h) e) :=
  Sm.callV (rv' := rvI) (args := [.ref x1]) (n := 1) (t_X6_firstUnlike a x1 h) hk (by decide) (r := (RX6, TX6, 1)) rfl rfl ho mw_733 mw_734 mw_735 mw_8 mw_736 ⟨⟨by decide, rfl, hdep, Nat.le_of_ble_eq_true rfl⟩, Nat.le_of_ble_eq_true rfl, rfl, ⟨by decide, by decide⟩, hcat⟩ (by decide +kernel) (by intro v hv; simp only [List.mem_cons, List.not_mem_nil, or_false] at hv; rcases hv with rfl <;> intro x hx <;> cases hx) d hq k rfl
abbrev g_X8_init : Gx := (yX8_init, cX8_init, 1, (Option.none : Option FieldType), 1)
def f_X8_init (l0 : Nat) (h : Hp) : Option (Unit × Hp) :=
  (nm (nwc h 20 64 64) fun h1 =>
(ck h1 l0 8
(nm (sP h1 l0 0 (some (gN h + 1))) fun h5 =>
(nm (nwc h5 20 64 64) fun h8 =>
(ck h8 l0 8
(some ((), (sI (sP h8 l0 1 (some (gN h5 + 1))) l0 2 (0 : Int32)))))))))
set_option maxRecDepth 20000 in
theorem t_X8_init (l0 : Nat) (h : Hp) : Sm rvV g_X8_init 0 (ent 1 [.ref l0]) [] h (f_X8_init l0 h) := by
  show Sm rvV g_X8_init 0 [.ref l0] [] h _
  unfold f_X8_init
  refine Sm.aload_n dX8_init_0 rfl rfl rfl ?_
  refine Sm.objInit dX8_init_1 rfl mw_195 mw_20 mw_21 (Nat.le_of_ble_eq_true rfl) (Nat.le_of_ble_eq_true rfl) rfl ?_
  refine Sm.aload_n dX8_init_4 rfl rfl rfl ?_
  refine Sm.bipush dX8_init_5 bp_64 rfl ?_
  refine Sm.newI (by decide) (by decide) dX8_init_7 mw_50 rfl ?_
  refine Sm.nmH (fun h1 e2 e3 => ?_)
  refine Sm.ck (fun o4 => ?_)
  refine pf_X8_9 o4 dX8_init_9 rfl rfl rfl ?_
  refine Sm.aload_n dX8_init_12 rfl rfl rfl ?_
  refine Sm.bipush dX8_init_13 bp_64 rfl ?_
  refine Sm.nmH (fun h5 e6 e7 => ?_)
  refine Sm.newI (by decide) (by decide) dX8_init_15 mw_50 rfl ?_
  refine Sm.nmH (fun h8 e9 e10 => ?_)
  refine Sm.ck (fun o11 => ?_)
  refine pf_X8_15 o11 dX8_init_17 rfl rfl rfl ?_
  refine Sm.aload_n dX8_init_20 rfl rfl rfl ?_
  refine Sm.iconst dX8_init_21 ic_0 rfl ?_
  refine pf_X8_18 o11 dX8_init_22 rfl rfl ?_
  exact Sm.ret (r := ()) dX8_init_25 trivial rfl
set_option maxRecDepth 20000 in
theorem kc_X7_41 {ρ : Type} {rv : ρ → Option Value} {G : Gx} {pc q : Nat} {lv st : List Value} {h : Hp} {a : Nat} {e : Unit → Hp → Option (ρ × Hp)} (d : decode G.2.1 pc = .ok (.invokespecial 41, 3)) (ho : G.1.cls = RX7) (hdep : (g_X8_init).2.2.2.2 < G.2.2.2.2) (hcat : catS st ≤ 8) (hq : pc + 3 = q) (k : ∀ r h1, Sm rv G q lv (st) h1 (e r h1)) : Sm rv G pc lv (.ref a :: st) h (bd (f_X8_init a h) e) :=
  Sm.callIN (rv' := rvV) (args := []) (n := 0) (t_X8_init a h) ho rfl rfl mw_192 mw_193 mw_10 mw_194 ⟨⟨by decide, rfl, hdep, Nat.le_of_ble_eq_true rfl⟩, Nat.le_of_ble_eq_true rfl, rfl, ⟨by decide, by decide⟩, hcat⟩ (by decide +kernel) (fun v hv => by cases hv) d hq k rfl
abbrev g_X7_init : Gx := (yX7_init, cX7_init, 1, (Option.none : Option FieldType), 2)
def f_X7_init (l0 : Nat) (h : Hp) : Option (Unit × Hp) :=
  (nm (nwc h 4 0 4) fun h1 =>
(bd (f_X4_init (gN h + 1) h1) fun _ h4 =>
(ck h4 l0 7
(nm (sP h4 l0 0 (some (gN h + 1))) fun h6 =>
(nm (nwc h6 5 0 5) fun h9 =>
(bd (f_X5_init (gN h6 + 1) h9) fun _ h12 =>
(ck h12 l0 7
(nm (sP h12 l0 1 (some (gN h6 + 1))) fun h14 =>
(nm (nwc h14 6 0 1) fun h17 =>
(bd (f_X6_init (gN h14 + 1) h17) fun _ h20 =>
(ck h20 l0 7
(nm (sP h20 l0 2 (some (gN h14 + 1))) fun h22 =>
(nm (nwc h22 0 0 10) fun h25 =>
(bd (f_X0_init (gN h22 + 1) h25) fun _ h28 =>
(ck h28 l0 7
(nm (sP h28 l0 3 (some (gN h22 + 1))) fun h30 =>
(nm (nwc h30 8 0 3) fun h33 =>
(bd (f_X8_init (gN h30 + 1) h33) fun _ h36 =>
(ck h36 l0 7
((gP (sI (sP h36 l0 4 (some (gN h30 + 1))) l0 5 (0 : Int32)) l0 0).bind fun v38 =>
(ck (sI (sP h36 l0 4 (some (gN h30 + 1))) l0 5 (0 : Int32)) v38 4
(bd (f_X4_add v38 (1 : Int32) (0 : Int32) (0 : Int32) (sI (sP h36 l0 4 (some (gN h30 + 1))) l0 5 (0 : Int32))) fun _ h40 =>
(ck h40 l0 7
((gP h40 l0 0).bind fun v42 =>
(ck h40 v42 4
(bd (f_X4_markPredicate v42 (1 : Int32) h40) fun _ h44 =>
(some ((), h44))))))))))))))))))))))))))))
set_option maxRecDepth 20000 in
theorem t_X7_init (l0 : Nat) (h : Hp) : Sm rvV g_X7_init 0 (ent 1 [.ref l0]) [] h (f_X7_init l0 h) := by
  show Sm rvV g_X7_init 0 [.ref l0] [] h _
  unfold f_X7_init
  refine Sm.aload_n dX7_init_0 rfl rfl rfl ?_
  refine Sm.objInit dX7_init_1 rfl mw_118 mw_20 mw_21 (Nat.le_of_ble_eq_true rfl) (Nat.le_of_ble_eq_true rfl) rfl ?_
  refine Sm.aload_n dX7_init_4 rfl rfl rfl ?_
  refine Sm.new (ci := 4) (r := (RX4, TX4, 4)) dX7_init_5 mw_119 mw_32 mw_3 rfl (by decide) rfl rfl ?_
  refine Sm.nmH (fun h1 e2 e3 => ?_)
  refine Sm.dup dX7_init_8 rfl rfl ?_
  refine kc_X7_11 dX7_init_9 rfl (Nat.le_of_ble_eq_true rfl) (Nat.le_of_ble_eq_true rfl) rfl (fun _ h4 => ?_)
  refine Sm.ck (fun o5 => ?_)
  refine pf_X7_12 o5 dX7_init_12 rfl rfl rfl ?_
  refine Sm.aload_n dX7_init_15 rfl rfl rfl ?_
  refine Sm.nmH (fun h6 e7 e8 => ?_)
  refine Sm.new (ci := 5) (r := (RX5, TX5, 5)) dX7_init_16 mw_121 mw_122 mw_7 rfl (by decide) rfl rfl ?_
  refine Sm.nmH (fun h9 e10 e11 => ?_)
  refine Sm.dup dX7_init_19 rfl rfl ?_
  refine kc_X7_20 dX7_init_20 rfl (Nat.le_of_ble_eq_true rfl) (Nat.le_of_ble_eq_true rfl) rfl (fun _ h12 => ?_)
  refine Sm.ck (fun o13 => ?_)
  refine pf_X7_21 o13 dX7_init_23 rfl rfl rfl ?_
  refine Sm.aload_n dX7_init_26 rfl rfl rfl ?_
  refine Sm.nmH (fun h14 e15 e16 => ?_)
  refine Sm.new (ci := 6) (r := (RX6, TX6, 1)) dX7_init_27 mw_143 mw_144 mw_8 rfl (by decide) rfl rfl ?_
  refine Sm.nmH (fun h17 e18 e19 => ?_)
  refine Sm.dup dX7_init_30 rfl rfl ?_
  refine kc_X7_27 dX7_init_31 rfl (Nat.le_of_ble_eq_true rfl) (Nat.le_of_ble_eq_true rfl) rfl (fun _ h20 => ?_)
  refine Sm.ck (fun o21 => ?_)
  refine pf_X7_28 o21 dX7_init_34 rfl rfl rfl ?_
  refine Sm.aload_n dX7_init_37 rfl rfl rfl ?_
  refine Sm.nmH (fun h22 e23 e24 => ?_)
  refine Sm.new (ci := 0) (r := (RX0, TX0, 10)) dX7_init_38 mw_153 mw_154 mw_9 rfl (by decide) rfl rfl ?_
  refine Sm.nmH (fun h25 e26 e27 => ?_)
  refine Sm.dup dX7_init_41 rfl rfl ?_
  refine kc_X7_34 dX7_init_42 rfl (Nat.le_of_ble_eq_true rfl) (Nat.le_of_ble_eq_true rfl) rfl (fun _ h28 => ?_)
  refine Sm.ck (fun o29 => ?_)
  refine pf_X7_35 o29 dX7_init_45 rfl rfl rfl ?_
  refine Sm.aload_n dX7_init_48 rfl rfl rfl ?_
  refine Sm.nmH (fun h30 e31 e32 => ?_)
  refine Sm.new (ci := 8) (r := (RX8, TX8, 3)) dX7_init_49 mw_190 mw_191 mw_10 rfl (by decide) rfl rfl ?_
  refine Sm.nmH (fun h33 e34 e35 => ?_)
  refine Sm.dup dX7_init_52 rfl rfl ?_
  refine kc_X7_41 dX7_init_53 rfl (Nat.le_of_ble_eq_true rfl) (Nat.le_of_ble_eq_true rfl) rfl (fun _ h36 => ?_)
  refine Sm.ck (fun o37 => ?_)
  refine pf_X7_42 o37 dX7_init_56 rfl rfl rfl ?_
  refine Sm.aload_n dX7_init_59 rfl rfl rfl ?_
  refine Sm.iconst dX7_init_60 ic_0 rfl ?_
  refine pf_X7_46 (Or.inl rfl) o37 dX7_init_61 rfl rfl ?_
  refine Sm.aload_n dX7_init_64 rfl rfl rfl ?_
  refine gf_X7_12 o37 dX7_init_65 rfl rfl (fun v38 => ?_)
  refine Sm.iconst dX7_init_68 ic_1 rfl ?_
  refine Sm.iconst dX7_init_69 ic_0 rfl ?_
  refine Sm.iconst dX7_init_70 ic_0 rfl ?_
  refine Sm.ck (fun o39 => ?_)
  refine kc_X7_50 o39 dX7_init_71 rfl (Nat.le_of_ble_eq_true rfl) (Nat.le_of_ble_eq_true rfl) rfl (fun _ h40 => ?_)
  refine Sm.aload_n dX7_init_74 rfl rfl rfl ?_
  refine Sm.ck (fun o41 => ?_)
  refine gf_X7_12 o41 dX7_init_75 rfl rfl (fun v42 => ?_)
  refine Sm.iconst dX7_init_78 ic_1 rfl ?_
  refine Sm.ck (fun o43 => ?_)
  refine kc_X7_54 o43 dX7_init_79 rfl (Nat.le_of_ble_eq_true rfl) (Nat.le_of_ble_eq_true rfl) rfl (fun _ h44 => ?_)
  exact Sm.ret (r := ()) dX7_init_82 trivial rfl
set_option maxRecDepth 20000 in
theorem kc_X9_54 {ρ : Type} {rv : ρ → Option Value} {G : Gx} {pc q : Nat} {lv st : List Value} {h : Hp} {a : Nat} {e : Unit → Hp → Option (ρ × Hp)} (d : decode G.2.1 pc = .ok (.invokespecial 54, 3)) (ho : G.1.cls = RX9) (hdep : (g_X7_init).2.2.2.2 < G.2.2.2.2) (hcat : catS st ≤ 8) (hq : pc + 3 = q) (k : ∀ r h1, Sm rv G q lv (st) h1 (e r h1)) : Sm rv G pc lv (.ref a :: st) h (bd (f_X7_init a h) e) :=
  Sm.callI (rv' := rvV) (args := []) (n := 0) (t_X7_init a h) ho rfl rfl mw_115 mw_116 mw_6 mw_117 ⟨⟨by decide, rfl, hdep, Nat.le_of_ble_eq_true rfl⟩, Nat.le_of_ble_eq_true rfl, rfl, ⟨by decide, by decide⟩, hcat⟩ (by decide +kernel) (fun v hv => by cases hv) d hq k rfl
abbrev g_X7_hold : Gx := (yX7_hold, cX7_hold, 2, (Option.none : Option FieldType), 1)
def f_X7_hold (l0 : Nat) (l1 : Nat) (h : Hp) : Option (Unit × Hp) :=
  (ck h l0 7
((gP h l0 0).bind fun v2 =>
(ck h v2 4
(bd (f_X4_start v2 h) fun _ h4 =>
(ck h4 l0 7
((gP h4 l0 0).bind fun v6 =>
(ck h4 v6 4
(bd (f_X4_addAll v6 l1 h4) fun _ h8 =>
(ck h8 l0 7
((gP h8 l0 0).bind fun v10 =>
(ck h8 l1 4
(bd (f_X4_givesPredicate l1 h8) fun v12 h13 =>
(ck h13 v10 4
(bd (f_X4_markPredicate v10 v12 h13) fun _ h15 =>
(ck h15 l0 7
(some ((), (sI h15 l0 5 (0 : Int32)))))))))))))))))))
set_option maxRecDepth 20000 in
theorem t_X7_hold (l0 : Nat) (l1 : Nat) (h : Hp) : Sm rvV g_X7_hold 0 (ent 2 [.ref l0, .ref l1]) [] h (f_X7_hold l0 l1 h) := by
  show Sm rvV g_X7_hold 0 [.ref l0, .ref l1] [] h _
  unfold f_X7_hold
  refine Sm.aload_n dX7_hold_0 rfl rfl rfl ?_
  refine Sm.ck (fun o1 => ?_)
  refine gf_X7_12 o1 dX7_hold_1 rfl rfl (fun v2 => ?_)
  refine Sm.ck (fun o3 => ?_)
  refine kc_X7_58 o3 dX7_hold_4 rfl (Nat.le_of_ble_eq_true rfl) (Nat.le_of_ble_eq_true rfl) rfl (fun _ h4 => ?_)
  refine Sm.aload_n dX7_hold_7 rfl rfl rfl ?_
  refine Sm.ck (fun o5 => ?_)
  refine gf_X7_12 o5 dX7_hold_8 rfl rfl (fun v6 => ?_)
  refine Sm.aload_n dX7_hold_11 rfl rfl rfl ?_
  refine Sm.ck (fun o7 => ?_)
  refine kc_X7_61 o7 dX7_hold_12 rfl (Nat.le_of_ble_eq_true rfl) (Nat.le_of_ble_eq_true rfl) rfl (fun _ h8 => ?_)
  refine Sm.aload_n dX7_hold_15 rfl rfl rfl ?_
  refine Sm.ck (fun o9 => ?_)
  refine gf_X7_12 o9 dX7_hold_16 rfl rfl (fun v10 => ?_)
  refine Sm.aload_n dX7_hold_19 rfl rfl rfl ?_
  refine Sm.ck (fun o11 => ?_)
  refine kc_X7_65 o11 dX7_hold_20 rfl (Nat.le_of_ble_eq_true rfl) (Nat.le_of_ble_eq_true rfl) rfl (fun v12 h13 => ?_)
  refine Sm.ck (fun o14 => ?_)
  refine kc_X7_54 o14 dX7_hold_23 rfl (Nat.le_of_ble_eq_true rfl) (Nat.le_of_ble_eq_true rfl) rfl (fun _ h15 => ?_)
  refine Sm.aload_n dX7_hold_26 rfl rfl rfl ?_
  refine Sm.iconst dX7_hold_27 ic_0 rfl ?_
  refine Sm.ck (fun o16 => ?_)
  refine pf_X7_46 (Or.inl rfl) o16 dX7_hold_28 rfl rfl ?_
  exact Sm.ret (r := ()) dX7_hold_31 trivial rfl
set_option maxRecDepth 20000 in
theorem kc_X9_210 {ρ : Type} {rv : ρ → Option Value} {G : Gx} {pc q : Nat} {lv st : List Value} {h : Hp} {a : Nat} {x1 : Nat} {e : Unit → Hp → Option (ρ × Hp)} (hk : isO h a 7) (d : decode G.2.1 pc = .ok (.invokevirtual 210, 3)) (ho : G.1.cls = RX9) (hdep : (g_X7_hold).2.2.2.2 < G.2.2.2.2) (hcat : catS st ≤ 8) (hq : pc + 3 = q) (k : ∀ r h1, Sm rv G q lv (st) h1 (e r h1)) : Sm rv G pc lv (.ref x1 :: .ref a :: st) h (bd (f_X7_hold a x1 h) e) :=
  Sm.callV (rv' := rvV) (args := [.ref x1]) (n := 1) (t_X7_hold a x1 h) hk (by decide) (r := (RX7, TX7, 6)) rfl rfl ho mw_395 mw_396 mw_397 mw_6 mw_398 ⟨⟨by decide, rfl, hdep, Nat.le_of_ble_eq_true rfl⟩, Nat.le_of_ble_eq_true rfl, rfl, ⟨by decide, by decide⟩, hcat⟩ (by decide +kernel) (by intro v hv; simp only [List.mem_cons, List.not_mem_nil, or_false] at hv; rcases hv with rfl <;> intro x hx <;> cases hx) d hq k rfl
abbrev g_X8_addRow : Gx := (yX8_addRow, cX8_addRow, 3, (Option.none : Option FieldType), 0)
def f_X8_addRow (l0 : Nat) (l1 : Int32) (l2 : Int32) (h : Hp) : Option (Unit × Hp) :=
  (ck h l0 8
(if (64 : Int32) ≤ (gI h l0 2) then
(some ((), h))
else
((gP h l0 0).bind fun v3 =>
(ca h v3 20 (gI h l0 2)
((gP (sI h v3 (gI h l0 2).toNatClampNeg l1) l0 1).bind fun v5 =>
(ca (sI h v3 (gI h l0 2).toNatClampNeg l1) v5 20 (gI (sI h v3 (gI h l0 2).toNatClampNeg l1) l0 2)
(nm (sI (sI h v3 (gI h l0 2).toNatClampNeg l1) v5 (gI (sI h v3 (gI h l0 2).toNatClampNeg l1) l0 2).toNatClampNeg l2) fun h7 =>
(some ((), (sI h7 l0 2 ((gI h7 l0 2) + (1 : Int32))))))))))))
set_option maxRecDepth 20000 in
theorem t_X8_addRow (l0 : Nat) (l1 : Int32) (l2 : Int32) (h : Hp) : Sm rvV g_X8_addRow 0 (ent 3 [.ref l0, .int l1, .int l2]) [] h (f_X8_addRow l0 l1 l2 h) := by
  show Sm rvV g_X8_addRow 0 [.ref l0, .int l1, .int l2] [] h _
  unfold f_X8_addRow
  refine Sm.aload_n dX8_addRow_0 rfl rfl rfl ?_
  refine Sm.ck (fun o1 => ?_)
  refine gf_X8_18 o1 dX8_addRow_1 rfl rfl ?_
  refine Sm.bipush dX8_addRow_4 bp_64 rfl ?_
  refine Sm.icmp_ge (t := 39) dX8_addRow_6 (by decide) rfl (fun b2 => ?_) (fun b2 => ?_)
  · exact Sm.ret (r := ()) dX8_addRow_39 trivial rfl
  · refine Sm.aload_n dX8_addRow_9 rfl rfl rfl ?_
    refine gf_X8_9 o1 dX8_addRow_10 rfl rfl (fun v3 => ?_)
    refine Sm.aload_n dX8_addRow_13 rfl rfl rfl ?_
    refine gf_X8_18 o1 dX8_addRow_14 rfl rfl ?_
    refine Sm.iload_n dX8_addRow_17 rfl rfl rfl ?_
    refine Sm.ca (fun q4 => ?_)
    refine Sm.iast q4 dX8_addRow_18 rfl ?_
    refine Sm.aload_n dX8_addRow_19 rfl rfl rfl ?_
    refine gf_X8_15 o1 dX8_addRow_20 rfl rfl (fun v5 => ?_)
    refine Sm.aload_n dX8_addRow_23 rfl rfl rfl ?_
    refine gf_X8_18 o1 dX8_addRow_24 rfl rfl ?_
    refine Sm.iload_n dX8_addRow_27 rfl rfl rfl ?_
    refine Sm.ca (fun q6 => ?_)
    refine Sm.iast q6 dX8_addRow_28 rfl ?_
    refine Sm.nmH (fun h7 e8 e9 => ?_)
    refine Sm.aload_n dX8_addRow_29 rfl rfl rfl ?_
    refine Sm.dup dX8_addRow_30 rfl rfl ?_
    refine gf_X8_18 (isO.tr e8 e9 o1) dX8_addRow_31 rfl rfl ?_
    refine Sm.iconst dX8_addRow_34 ic_1 rfl ?_
    refine Sm.iadd dX8_addRow_35 rfl ?_
    refine pf_X8_18 (isO.tr e8 e9 o1) dX8_addRow_36 rfl rfl ?_
    exact Sm.ret (r := ()) dX8_addRow_39 trivial rfl
set_option maxRecDepth 20000 in
theorem kc_X8_40 {ρ : Type} {rv : ρ → Option Value} {G : Gx} {pc q : Nat} {lv st : List Value} {h : Hp} {a : Nat} {x1 : Int32} {x2 : Int32} {e : Unit → Hp → Option (ρ × Hp)} (hk : isO h a 8) (d : decode G.2.1 pc = .ok (.invokevirtual 40, 3)) (ho : G.1.cls = RX8) (hdep : (g_X8_addRow).2.2.2.2 < G.2.2.2.2) (hcat : catS st ≤ 8) (hq : pc + 3 = q) (k : ∀ r h1, Sm rv G q lv (st) h1 (e r h1)) : Sm rv G pc lv (.int x2 :: .int x1 :: .ref a :: st) h (bd (f_X8_addRow a x1 x2 h) e) :=
  Sm.callV (rv' := rvV) (args := [.int x1, .int x2]) (n := 2) (t_X8_addRow a x1 x2 h) hk (by decide) (r := (RX8, TX8, 3)) rfl rfl ho mw_644 mw_646 mp_45 mw_10 mw_647 ⟨⟨by decide, rfl, hdep, Nat.le_of_ble_eq_true rfl⟩, Nat.le_of_ble_eq_true rfl, rfl, ⟨by decide, by decide⟩, hcat⟩ (by decide +kernel) (by intro v hv; simp only [List.mem_cons, List.not_mem_nil, or_false] at hv; rcases hv with rfl | rfl <;> intro x hx <;> cases hx) d hq k rfl
abbrev g_X8_visit (n : Nat) : Gx := (yX8_visit, cX8_visit, 9, (Option.none : Option FieldType), n + 3)
set_option maxRecDepth 20000 in
theorem kr_X8_visit {ρ : Type} {rv : ρ → Option Value} {pc : Nat} {lv st : List Value} {h : Hp} (n : Nat) (self : Nat → Nat → Int32 → Int32 → Int32 → Hp → Option (Unit × Hp)) (hself : ∀ (l0 : Nat) (l1 : Nat) (l2 : Int32) (l3 : Int32) (l4 : Int32) (h : Hp), Sm rvV (g_X8_visit n) 0 (ent (g_X8_visit n).2.2.1 [.ref l0, .ref l1, .int l2, .int l3, .int l4]) [] h (self l0 l1 l2 l3 l4 h)) {l0 : Nat} {l1 : Nat} {l2 : Int32} {l3 : Int32} {l4 : Int32} {e : Unit → Hp → Option (ρ × Hp)} (d : decode (g_X8_visit (n + 1)).2.1 pc = .ok (.invokestatic 28, 3)) (hcat : catS st ≤ 8) (k : ∀ r h1, Sm rv (g_X8_visit (n + 1)) (pc + 3) lv (st) h1 (e r h1)) : Sm rv (g_X8_visit (n + 1)) pc lv (.int l4 :: .int l3 :: .int l2 :: .ref l1 :: .ref l0 :: st) h (bd (self l0 l1 l2 l3 l4 h) e) :=
  Sm.callS (rv' := rvV) (n := 5) (hself l0 l1 l2 l3 l4 h) rfl mw_637 mw_638 mw_10 mw_639 ⟨⟨(by show plainName RX8 = true; decide), rfl, by show n + 3 < (n + 1) + 3; omega, Nat.le_of_ble_eq_true rfl⟩, Nat.le_of_ble_eq_true rfl, rfl, ⟨(by show RX8 ≠ "java/lang/invoke/MethodHandle"; decide), (by show RX8 ≠ "java/lang/invoke/VarHandle"; decide)⟩, hcat⟩ (by show (parseMethodDescriptor "(LPolicyCompiler$Table;LPolicyCompiler$Diagram;III)V").map (fun d => d.parameters.length) = some 5; decide +kernel) (by intro v hv; simp only [List.mem_cons, List.not_mem_nil, or_false] at hv; rcases hv with rfl | rfl | rfl | rfl | rfl <;> intro x hx <;> cases hx) d rfl k rfl
def f_X8_visit_39 (self : Nat → Nat → Int32 → Int32 → Int32 → Hp → Option (Unit × Hp)) (k39 : (Int32 × Hp) → Option (Unit × Hp)) (l0 : Nat) (l1 : Nat) (l2 : Int32) (l3 : Int32) (l4 : Int32) (l5 : Int32) (l6 : Int32) (l7 : Int32) (h : Hp) : Option (Unit × Hp) :=
  (if (4 : Int32) ≤ l7 then
(bd (self l0 l1 l6 l3 (l4 + (1 : Int32)) h) fun _ h13 =>
(some ((), h13)))
else
(ck h l1 0
(bd (f_X0_childOf l1 l2 l7 h) fun v15 h16 =>
(if v15 = l6 then
(nm (l7 + (1 : Int32)) fun v18 =>
(k39 (v18, h16)))
else
(bd (f_X9_weightOf l5 h16) fun v19 h20 =>
(bd (self l0 l1 v15 (l3 + ((l7 - (4 : Int32)) * v19)) (l4 + (1 : Int32)) h20) fun _ h21 =>
(nm (l7 + (1 : Int32)) fun v22 =>
(k39 (v22, h21)))))))))
set_option maxRecDepth 20000 in
theorem t_X8_visit_39 (n : Nat) (self : Nat → Nat → Int32 → Int32 → Int32 → Hp → Option (Unit × Hp)) (hself : ∀ (l0 : Nat) (l1 : Nat) (l2 : Int32) (l3 : Int32) (l4 : Int32) (h : Hp), Sm rvV (g_X8_visit n) 0 (ent (g_X8_visit n).2.2.1 [.ref l0, .ref l1, .int l2, .int l3, .int l4]) [] h (self l0 l1 l2 l3 l4 h)) (l0 : Nat) (l1 : Nat) (l2 : Int32) (l3 : Int32) (l4 : Int32) (l5 : Int32) (l6 : Int32) (l7 : Int32) (h : Hp) (k39 : (Int32 × Hp) → Option (Unit × Hp)) (hk39 : ∀ s : Int32 × Hp, Sm rvV (g_X8_visit (n + 1)) 39 [.ref l0, .ref l1, .int l2, .int l3, .int l4, .int l5, .int l6, .int s.1, .null] [] s.2 (k39 s)) : Sm rvV (g_X8_visit (n + 1)) 39 [.ref l0, .ref l1, .int l2, .int l3, .int l4, .int l5, .int l6, .int l7, .null] [] h (f_X8_visit_39 self k39 l0 l1 l2 l3 l4 l5 l6 l7 h) := by
  unfold f_X8_visit_39
  refine Sm.iload dX8_visit_39 rfl rfl ?_
  refine Sm.iconst dX8_visit_41 ic_4 rfl ?_
  refine Sm.icmp_ge (t := 90) dX8_visit_42 (by decide) rfl (fun b12 => ?_) (fun b12 => ?_)
  · refine Sm.aload_n dX8_visit_90 rfl rfl rfl ?_
    refine Sm.aload_n dX8_visit_91 rfl rfl rfl ?_
    refine Sm.iload dX8_visit_92 rfl rfl ?_
    refine Sm.iload_n dX8_visit_94 rfl rfl rfl ?_
    refine Sm.iload dX8_visit_95 rfl rfl ?_
    refine Sm.iconst dX8_visit_97 ic_1 rfl ?_
    refine Sm.iadd dX8_visit_98 rfl ?_
    refine kr_X8_visit n self hself dX8_visit_99 (Nat.le_of_ble_eq_true rfl) (fun _ h13 => ?_)
    exact Sm.ret (r := ()) dX8_visit_102 trivial rfl
  · refine Sm.aload_n dX8_visit_45 rfl rfl rfl ?_
    refine Sm.iload_n dX8_visit_46 rfl rfl rfl ?_
    refine Sm.iload dX8_visit_47 rfl rfl ?_
    refine Sm.ck (fun o14 => ?_)
    refine kc_X8_50 o14 dX8_visit_49 rfl (Nat.le_of_ble_eq_true rfl) (Nat.le_of_ble_eq_true rfl) rfl (fun v15 h16 => ?_)
    refine Sm.istore (lv' := [.ref l0, .ref l1, .int l2, .int l3, .int l4, .int l5, .int l6, .int l7, .int v15]) dX8_visit_52 (Nat.le_of_ble_eq_true rfl) rfl rfl ?_
    refine Sm.iload dX8_visit_54 rfl rfl ?_
    refine Sm.iload dX8_visit_56 rfl rfl ?_
    refine Sm.icmp_eq (t := 84) dX8_visit_58 (by decide) rfl (fun b17 => ?_) (fun b17 => ?_)
    · refine Sm.iinc (lv' := [.ref l0, .ref l1, .int l2, .int l3, .int l4, .int l5, .int l6, .int (l7 + (1 : Int32)), .int v15]) dX8_visit_84 rfl ic_1 rfl rfl ?_
      refine Sm.nm (LV := fun v18 => [.ref l0, .ref l1, .int l2, .int l3, .int l4, .int l5, .int l6, .int v18, .int v15]) (ST := fun v18 => []) (fun v18 => ?_)
      refine Sm.goto (t := 39) dX8_visit_87 (by decide) ?_
      exact Sm.wk (hk39 (v18, h16)) ⟨Or.inr rfl, Or.inr rfl, Or.inr rfl, Or.inr rfl, Or.inr rfl, Or.inr rfl, Or.inr rfl, Or.inr rfl, Or.inl rfl, trivial⟩
    · refine Sm.aload_n dX8_visit_61 rfl rfl rfl ?_
      refine Sm.aload_n dX8_visit_62 rfl rfl rfl ?_
      refine Sm.iload dX8_visit_63 rfl rfl ?_
      refine Sm.iload_n dX8_visit_65 rfl rfl rfl ?_
      refine Sm.iload dX8_visit_66 rfl rfl ?_
      refine Sm.iconst dX8_visit_68 ic_4 rfl ?_
      refine Sm.isub dX8_visit_69 rfl ?_
      refine Sm.iload dX8_visit_70 rfl rfl ?_
      refine kc_X8_54 dX8_visit_72 rfl (Nat.le_of_ble_eq_true rfl) (Nat.le_of_ble_eq_true rfl) rfl (fun v19 h20 => ?_)
      refine Sm.imul dX8_visit_75 rfl ?_
      refine Sm.iadd dX8_visit_76 rfl ?_
      refine Sm.iload dX8_visit_77 rfl rfl ?_
      refine Sm.iconst dX8_visit_79 ic_1 rfl ?_
      refine Sm.iadd dX8_visit_80 rfl ?_
      refine kr_X8_visit n self hself dX8_visit_81 (Nat.le_of_ble_eq_true rfl) (fun _ h21 => ?_)
      refine Sm.iinc (lv' := [.ref l0, .ref l1, .int l2, .int l3, .int l4, .int l5, .int l6, .int (l7 + (1 : Int32)), .int v15]) dX8_visit_84 rfl ic_1 rfl rfl ?_
      refine Sm.nm (LV := fun v22 => [.ref l0, .ref l1, .int l2, .int l3, .int l4, .int l5, .int l6, .int v22, .int v15]) (ST := fun v22 => []) (fun v22 => ?_)
      refine Sm.goto (t := 39) dX8_visit_87 (by decide) ?_
      exact Sm.wk (hk39 (v22, h21)) ⟨Or.inr rfl, Or.inr rfl, Or.inr rfl, Or.inr rfl, Or.inr rfl, Or.inr rfl, Or.inr rfl, Or.inr rfl, Or.inl rfl, trivial⟩
def e_X8_visit (self : Nat → Nat → Int32 → Int32 → Int32 → Hp → Option (Unit × Hp)) (l0 : Nat) (l1 : Nat) (l2 : Int32) (l3 : Int32) (l4 : Int32) (h : Hp) : Option (Unit × Hp) :=
  (ck h l1 0
(bd (f_X0_isLeaf l1 l2 h) fun v2 h3 =>
(if v2 = 0 then
(if l4 < (3 : Int32) then
(ck h3 l1 0
(bd (f_X0_fieldOf l1 l2 h3) fun v7 h8 =>
(ck h8 l1 0
(bd (f_X0_mainChildOf l1 l2 h8) fun v10 h11 =>
(loopN (fun k s => f_X8_visit_39 self k l0 l1 l2 l3 l4 v7 v10 s.1 s.2) 5000 ((0 : Int32), h11))))))
else
(some ((), h3)))
else
(ck h3 l0 8
(bd (f_X8_addRow l0 l3 l2 h3) fun _ h24 =>
(some ((), h24)))))))
set_option maxRecDepth 20000 in
theorem te_X8_visit (n : Nat) (self : Nat → Nat → Int32 → Int32 → Int32 → Hp → Option (Unit × Hp)) (hself : ∀ (l0 : Nat) (l1 : Nat) (l2 : Int32) (l3 : Int32) (l4 : Int32) (h : Hp), Sm rvV (g_X8_visit n) 0 (ent (g_X8_visit n).2.2.1 [.ref l0, .ref l1, .int l2, .int l3, .int l4]) [] h (self l0 l1 l2 l3 l4 h)) (l0 : Nat) (l1 : Nat) (l2 : Int32) (l3 : Int32) (l4 : Int32) (h : Hp) : Sm rvV (g_X8_visit (n + 1)) 0 (ent 9 [.ref l0, .ref l1, .int l2, .int l3, .int l4]) [] h (e_X8_visit self l0 l1 l2 l3 l4 h) := by
  show Sm rvV (g_X8_visit (n + 1)) 0 [.ref l0, .ref l1, .int l2, .int l3, .int l4, .null, .null, .null, .null] [] h _
  unfold e_X8_visit
  refine Sm.aload_n dX8_visit_0 rfl rfl rfl ?_
  refine Sm.iload_n dX8_visit_1 rfl rfl rfl ?_
  refine Sm.ck (fun o1 => ?_)
  refine kc_X8_36 o1 dX8_visit_2 rfl (Nat.le_of_ble_eq_true rfl) (Nat.le_of_ble_eq_true rfl) rfl (fun v2 h3 => ?_)
  refine Sm.if_eq (t := 15) dX8_visit_5 (by decide) rfl (fun b4 => ?_) (fun b4 => ?_)
  · refine Sm.iload dX8_visit_15 rfl rfl ?_
    refine Sm.iconst dX8_visit_17 ic_3 rfl ?_
    refine Sm.icmp_lt (t := 22) dX8_visit_18 (by decide) rfl (fun b5 => ?_) (fun b5 => ?_)
    · refine Sm.aload_n dX8_visit_22 rfl rfl rfl ?_
      refine Sm.iload_n dX8_visit_23 rfl rfl rfl ?_
      refine Sm.ck (fun o6 => ?_)
      refine kc_X8_44 o6 dX8_visit_24 rfl (Nat.le_of_ble_eq_true rfl) (Nat.le_of_ble_eq_true rfl) rfl (fun v7 h8 => ?_)
      refine Sm.istore (lv' := [.ref l0, .ref l1, .int l2, .int l3, .int l4, .int v7, .null, .null, .null]) dX8_visit_27 (Nat.le_of_ble_eq_true rfl) rfl rfl ?_
      refine Sm.aload_n dX8_visit_29 rfl rfl rfl ?_
      refine Sm.iload_n dX8_visit_30 rfl rfl rfl ?_
      refine Sm.ck (fun o9 => ?_)
      refine kc_X8_47 o9 dX8_visit_31 rfl (Nat.le_of_ble_eq_true rfl) (Nat.le_of_ble_eq_true rfl) rfl (fun v10 h11 => ?_)
      refine Sm.istore (lv' := [.ref l0, .ref l1, .int l2, .int l3, .int l4, .int v7, .int v10, .null, .null]) dX8_visit_34 (Nat.le_of_ble_eq_true rfl) rfl rfl ?_
      refine Sm.iconst dX8_visit_36 ic_0 rfl ?_
      refine Sm.istore (lv' := [.ref l0, .ref l1, .int l2, .int l3, .int l4, .int v7, .int v10, .int (0 : Int32), .null]) dX8_visit_37 (Nat.le_of_ble_eq_true rfl) rfl rfl ?_
      exact Sm.wk (Sm.loop (σ := Int32 × Hp) (LV := fun s => [.ref l0, .ref l1, .int l2, .int l3, .int l4, .int v7, .int v10, .int s.1, .null]) (HH := fun s => s.2) (fun k hk s => t_X8_visit_39 n self hself l0 l1 l2 l3 l4 v7 v10 s.1 s.2 k hk) 5000 ((0 : Int32), h11)) ⟨Or.inr rfl, Or.inr rfl, Or.inr rfl, Or.inr rfl, Or.inr rfl, Or.inr rfl, Or.inr rfl, Or.inr rfl, Or.inl rfl, trivial⟩
    · exact Sm.ret (r := ()) dX8_visit_21 trivial rfl
  · refine Sm.aload_n dX8_visit_8 rfl rfl rfl ?_
    refine Sm.iload_n dX8_visit_9 rfl rfl rfl ?_
    refine Sm.iload_n dX8_visit_10 rfl rfl rfl ?_
    refine Sm.ck (fun o23 => ?_)
    refine kc_X8_40 o23 dX8_visit_11 rfl (Nat.le_of_ble_eq_true rfl) (Nat.le_of_ble_eq_true rfl) rfl (fun _ h24 => ?_)
    exact Sm.ret (r := ()) dX8_visit_14 trivial rfl
def f_X8_visit : Nat → Nat → Nat → Int32 → Int32 → Int32 → Hp → Option (Unit × Hp)
  | 0 => fun _ _ _ _ _ _ => none
  | n + 1 => e_X8_visit (f_X8_visit n)
set_option maxRecDepth 20000 in
theorem t_X8_visit : ∀ (n : Nat) (l0 : Nat) (l1 : Nat) (l2 : Int32) (l3 : Int32) (l4 : Int32) (h : Hp), Sm rvV (g_X8_visit n) 0 (ent 9 [.ref l0, .ref l1, .int l2, .int l3, .int l4]) [] h (f_X8_visit n l0 l1 l2 l3 l4 h)
  | 0, _, _, _, _, _, _ => Sm.none
  | n + 1, l0, l1, l2, l3, l4, h => te_X8_visit n (f_X8_visit n) (t_X8_visit n) l0 l1 l2 l3 l4 h
set_option maxRecDepth 20000 in
theorem kc_X8_28 {ρ : Type} {rv : ρ → Option Value} {G : Gx} {pc q : Nat} {lv st : List Value} {h : Hp} {x0 : Nat} {x1 : Nat} {x2 : Int32} {x3 : Int32} {x4 : Int32} {e : Unit → Hp → Option (ρ × Hp)} (d : decode G.2.1 pc = .ok (.invokestatic 28, 3)) (ho : G.1.cls = RX8) (hdep : ((g_X8_visit 5)).2.2.2.2 < G.2.2.2.2) (hcat : catS st ≤ 8) (hq : pc + 3 = q) (k : ∀ r h1, Sm rv G q lv (st) h1 (e r h1)) : Sm rv G pc lv (.int x4 :: .int x3 :: .int x2 :: .ref x1 :: .ref x0 :: st) h (bd (f_X8_visit 5 x0 x1 x2 x3 x4 h) e) :=
  Sm.callS (rv' := rvV) (as := [.ref x0, .ref x1, .int x2, .int x3, .int x4]) (n := 5) (t_X8_visit 5 x0 x1 x2 x3 x4 h) ho mw_637 mw_638 mw_10 mw_639 ⟨⟨by decide, rfl, hdep, Nat.le_of_ble_eq_true rfl⟩, Nat.le_of_ble_eq_true rfl, rfl, ⟨by decide, by decide⟩, hcat⟩ (by decide +kernel) (by intro v hv; simp only [List.mem_cons, List.not_mem_nil, or_false] at hv; rcases hv with rfl | rfl | rfl | rfl | rfl <;> intro x hx <;> cases hx) d hq k rfl
abbrev g_X8_build : Gx := (yX8_build, cX8_build, 4, (Option.none : Option FieldType), 10)
def f_X8_build_21 (k21 : (Int32 × Int32 × Hp) → Option (Unit × Hp)) (l0 : Nat) (l1 : Nat) (l2 : Int32) (l3 : Int32) (h : Hp) : Option (Unit × Hp) :=
  (ck h l0 8
(if (gI h l0 2) ≤ l3 then
(some ((), (sI h l0 2 l2)))
else
(if (64 : Int32) ≤ l3 then
(some ((), (sI h l0 2 l2)))
else
((gP h l0 1).bind fun v9 =>
(ca h v9 20 l3
(ck h l1 0
(bd (f_X0_actionTotal l1 (gI h v9 l3.toNatClampNeg) h) fun v12 h13 =>
(if v12 ≤ 0 then
(nm (l3 + (1 : Int32)) fun v15 =>
(k21 (l2, v15, h13)))
else
(nm (l3 + (1 : Int32)) fun v16 =>
(nm (l3 + (1 : Int32)) fun v17 =>
(k21 (v16, v17, h13))))))))))))
set_option maxRecDepth 20000 in
theorem t_X8_build_21 (l0 : Nat) (l1 : Nat) (l2 : Int32) (l3 : Int32) (h : Hp) (k21 : (Int32 × Int32 × Hp) → Option (Unit × Hp)) (hk21 : ∀ s : Int32 × Int32 × Hp, Sm rvV g_X8_build 21 [.ref l0, .ref l1, .int s.1, .int s.2.1] [] s.2.2 (k21 s)) : Sm rvV g_X8_build 21 [.ref l0, .ref l1, .int l2, .int l3] [] h (f_X8_build_21 k21 l0 l1 l2 l3 h) := by
  unfold f_X8_build_21
  refine Sm.iload_n dX8_build_21 rfl rfl rfl ?_
  refine Sm.aload_n dX8_build_22 rfl rfl rfl ?_
  refine Sm.ck (fun o6 => ?_)
  refine gf_X8_18 o6 dX8_build_23 rfl rfl ?_
  refine Sm.icmp_ge (t := 58) dX8_build_26 (by decide) rfl (fun b7 => ?_) (fun b7 => ?_)
  · refine Sm.aload_n dX8_build_58 rfl rfl rfl ?_
    refine Sm.iload_n dX8_build_59 rfl rfl rfl ?_
    refine pf_X8_18 o6 dX8_build_60 rfl rfl ?_
    exact Sm.ret (r := ()) dX8_build_63 trivial rfl
  · refine Sm.iload_n dX8_build_29 rfl rfl rfl ?_
    refine Sm.bipush dX8_build_30 bp_64 rfl ?_
    refine Sm.icmp_ge (t := 58) dX8_build_32 (by decide) rfl (fun b8 => ?_) (fun b8 => ?_)
    · refine Sm.aload_n dX8_build_58 rfl rfl rfl ?_
      refine Sm.iload_n dX8_build_59 rfl rfl rfl ?_
      refine pf_X8_18 o6 dX8_build_60 rfl rfl ?_
      exact Sm.ret (r := ()) dX8_build_63 trivial rfl
    · refine Sm.aload_n dX8_build_35 rfl rfl rfl ?_
      refine Sm.aload_n dX8_build_36 rfl rfl rfl ?_
      refine gf_X8_15 o6 dX8_build_37 rfl rfl (fun v9 => ?_)
      refine Sm.iload_n dX8_build_40 rfl rfl rfl ?_
      refine Sm.ca (fun q10 => ?_)
      refine Sm.iald q10 dX8_build_41 rfl ?_
      refine Sm.ck (fun o11 => ?_)
      refine kc_X8_32 o11 dX8_build_42 rfl (Nat.le_of_ble_eq_true rfl) (Nat.le_of_ble_eq_true rfl) rfl (fun v12 h13 => ?_)
      refine Sm.if_le (t := 52) dX8_build_45 (by decide) rfl (fun b14 => ?_) (fun b14 => ?_)
      · refine Sm.iinc (lv' := [.ref l0, .ref l1, .int l2, .int (l3 + (1 : Int32))]) dX8_build_52 rfl ic_1 rfl rfl ?_
        refine Sm.nm (LV := fun v15 => [.ref l0, .ref l1, .int l2, .int v15]) (ST := fun v15 => []) (fun v15 => ?_)
        refine Sm.goto (t := 21) dX8_build_55 (by decide) ?_
        exact Sm.wk (hk21 (l2, v15, h13)) ⟨Or.inr rfl, Or.inr rfl, Or.inr rfl, Or.inr rfl, trivial⟩
      · refine Sm.iload_n dX8_build_48 rfl rfl rfl ?_
        refine Sm.iconst dX8_build_49 ic_1 rfl ?_
        refine Sm.iadd dX8_build_50 rfl ?_
        refine Sm.nm (LV := fun v16 => [.ref l0, .ref l1, .int l2, .int l3]) (ST := fun v16 => [.int v16]) (fun v16 => ?_)
        refine Sm.istore_n (lv' := [.ref l0, .ref l1, .int v16, .int l3]) dX8_build_51 rfl (Nat.le_of_ble_eq_true rfl) rfl rfl ?_
        refine Sm.iinc (lv' := [.ref l0, .ref l1, .int v16, .int (l3 + (1 : Int32))]) dX8_build_52 rfl ic_1 rfl rfl ?_
        refine Sm.nm (LV := fun v17 => [.ref l0, .ref l1, .int v16, .int v17]) (ST := fun v17 => []) (fun v17 => ?_)
        refine Sm.goto (t := 21) dX8_build_55 (by decide) ?_
        exact Sm.wk (hk21 (v16, v17, h13)) ⟨Or.inr rfl, Or.inr rfl, Or.inr rfl, Or.inr rfl, trivial⟩
def f_X8_build (l0 : Nat) (l1 : Nat) (h : Hp) : Option (Unit × Hp) :=
  (ck h l0 8
(ck (sI h l0 2 (0 : Int32)) l1 0
(bd (f_X0_rootNode l1 (sI h l0 2 (0 : Int32))) fun v3 h4 =>
(bd (f_X8_visit 5 l0 l1 v3 (124 : Int32) (0 : Int32) h4) fun _ h5 =>
(loopN (fun k s => f_X8_build_21 k l0 l1 s.1 s.2.1 s.2.2) 5000 ((0 : Int32), (0 : Int32), h5))))))
set_option maxRecDepth 20000 in
theorem t_X8_build (l0 : Nat) (l1 : Nat) (h : Hp) : Sm rvV g_X8_build 0 (ent 4 [.ref l0, .ref l1]) [] h (f_X8_build l0 l1 h) := by
  show Sm rvV g_X8_build 0 [.ref l0, .ref l1, .null, .null] [] h _
  unfold f_X8_build
  refine Sm.aload_n dX8_build_0 rfl rfl rfl ?_
  refine Sm.iconst dX8_build_1 ic_0 rfl ?_
  refine Sm.ck (fun o1 => ?_)
  refine pf_X8_18 o1 dX8_build_2 rfl rfl ?_
  refine Sm.aload_n dX8_build_5 rfl rfl rfl ?_
  refine Sm.aload_n dX8_build_6 rfl rfl rfl ?_
  refine Sm.aload_n dX8_build_7 rfl rfl rfl ?_
  refine Sm.ck (fun o2 => ?_)
  refine kc_X8_22 o2 dX8_build_8 rfl (Nat.le_of_ble_eq_true rfl) (Nat.le_of_ble_eq_true rfl) rfl (fun v3 h4 => ?_)
  refine Sm.bipush dX8_build_11 bp_124 rfl ?_
  refine Sm.iconst dX8_build_13 ic_0 rfl ?_
  refine kc_X8_28 dX8_build_14 rfl (Nat.le_of_ble_eq_true rfl) (Nat.le_of_ble_eq_true rfl) rfl (fun _ h5 => ?_)
  refine Sm.iconst dX8_build_17 ic_0 rfl ?_
  refine Sm.istore_n (lv' := [.ref l0, .ref l1, .int (0 : Int32), .null]) dX8_build_18 rfl (Nat.le_of_ble_eq_true rfl) rfl rfl ?_
  refine Sm.iconst dX8_build_19 ic_0 rfl ?_
  refine Sm.istore_n (lv' := [.ref l0, .ref l1, .int (0 : Int32), .int (0 : Int32)]) dX8_build_20 rfl (Nat.le_of_ble_eq_true rfl) rfl rfl ?_
  exact Sm.wk (Sm.loop (σ := Int32 × Int32 × Hp) (LV := fun s => [.ref l0, .ref l1, .int s.1, .int s.2.1]) (HH := fun s => s.2.2) (fun k hk s => t_X8_build_21 l0 l1 s.1 s.2.1 s.2.2 k hk) 5000 ((0 : Int32), (0 : Int32), h5)) ⟨Or.inr rfl, Or.inr rfl, Or.inr rfl, Or.inr rfl, trivial⟩
set_option maxRecDepth 20000 in
theorem kc_X7_82 {ρ : Type} {rv : ρ → Option Value} {G : Gx} {pc q : Nat} {lv st : List Value} {h : Hp} {a : Nat} {x1 : Nat} {e : Unit → Hp → Option (ρ × Hp)} (hk : isO h a 8) (d : decode G.2.1 pc = .ok (.invokevirtual 82, 3)) (ho : G.1.cls = RX7) (hdep : (g_X8_build).2.2.2.2 < G.2.2.2.2) (hcat : catS st ≤ 8) (hq : pc + 3 = q) (k : ∀ r h1, Sm rv G q lv (st) h1 (e r h1)) : Sm rv G pc lv (.ref x1 :: .ref a :: st) h (bd (f_X8_build a x1 h) e) :=
  Sm.callV (rv' := rvV) (args := [.ref x1]) (n := 1) (t_X8_build a x1 h) hk (by decide) (r := (RX8, TX8, 3)) rfl rfl ho mw_629 mw_630 mw_631 mw_10 mw_632 ⟨⟨by decide, rfl, hdep, Nat.le_of_ble_eq_true rfl⟩, Nat.le_of_ble_eq_true rfl, rfl, ⟨by decide, by decide⟩, hcat⟩ (by decide +kernel) (by intro v hv; simp only [List.mem_cons, List.not_mem_nil, or_false] at hv; rcases hv with rfl <;> intro x hx <;> cases hx) d hq k rfl
abbrev g_X7_upToDate : Gx := (yX7_upToDate, cX7_upToDate, 2, (Option.some (FieldType.object "PolicyCompiler$Slot")), 11)
def f_X7_upToDate (l0 : Nat) (l1 : Nat) (h : Hp) : Option (Nat × Hp) :=
  (ck h l0 7
(if (gI h l0 5) = 0 then
((gP h l0 1).bind fun v3 =>
((gP h l0 0).bind fun v4 =>
(ck h v3 5
(bd (f_X5_print v3 v4 h) fun _ h6 =>
(ck h6 l0 7
((gP h6 l0 0).bind fun v8 =>
((gP h6 l0 2).bind fun v9 =>
(ck h6 l1 1
(bd (f_X1_evaluate l1 v8 v9 h6) fun _ h11 =>
(ck h11 l0 7
((gP h11 l0 3).bind fun v13 =>
((gP h11 l0 2).bind fun v14 =>
(ck h11 v13 0
(bd (f_X0_build v13 v14 h11) fun _ h16 =>
(ck h16 l0 7
((gP h16 l0 4).bind fun v18 =>
((gP h16 l0 3).bind fun v19 =>
(ck h16 v18 8
(bd (f_X8_build v18 v19 h16) fun _ h21 =>
(ck h21 l0 7
(some (l0, (sI h21 l0 5 (1 : Int32))))))))))))))))))))))))
else
(some (l0, h))))
set_option maxRecDepth 20000 in
theorem t_X7_upToDate (l0 : Nat) (l1 : Nat) (h : Hp) : Sm rvA g_X7_upToDate 0 (ent 2 [.ref l0, .ref l1]) [] h (f_X7_upToDate l0 l1 h) := by
  show Sm rvA g_X7_upToDate 0 [.ref l0, .ref l1] [] h _
  unfold f_X7_upToDate
  refine Sm.aload_n dX7_upToDate_0 rfl rfl rfl ?_
  refine Sm.ck (fun o1 => ?_)
  refine gf_X7_46 o1 dX7_upToDate_1 rfl rfl ?_
  refine Sm.if_ne (t := 57) dX7_upToDate_4 (by decide) rfl (fun b2 => ?_) (fun b2 => ?_)
  · refine Sm.aload_n dX7_upToDate_7 rfl rfl rfl ?_
    refine gf_X7_21 o1 dX7_upToDate_8 rfl rfl (fun v3 => ?_)
    refine Sm.aload_n dX7_upToDate_11 rfl rfl rfl ?_
    refine gf_X7_12 o1 dX7_upToDate_12 rfl rfl (fun v4 => ?_)
    refine Sm.ck (fun o5 => ?_)
    refine kc_X7_69 o5 dX7_upToDate_15 rfl (Nat.le_of_ble_eq_true rfl) (Nat.le_of_ble_eq_true rfl) rfl (fun _ h6 => ?_)
    refine Sm.aload_n dX7_upToDate_18 rfl rfl rfl ?_
    refine Sm.aload_n dX7_upToDate_19 rfl rfl rfl ?_
    refine Sm.ck (fun o7 => ?_)
    refine gf_X7_12 o7 dX7_upToDate_20 rfl rfl (fun v8 => ?_)
    refine Sm.aload_n dX7_upToDate_23 rfl rfl rfl ?_
    refine gf_X7_28 o7 dX7_upToDate_24 rfl rfl (fun v9 => ?_)
    refine Sm.ck (fun o10 => ?_)
    refine kc_X7_72 o10 dX7_upToDate_27 rfl (Nat.le_of_ble_eq_true rfl) (Nat.le_of_ble_eq_true rfl) rfl (fun _ h11 => ?_)
    refine Sm.aload_n dX7_upToDate_30 rfl rfl rfl ?_
    refine Sm.ck (fun o12 => ?_)
    refine gf_X7_35 o12 dX7_upToDate_31 rfl rfl (fun v13 => ?_)
    refine Sm.aload_n dX7_upToDate_34 rfl rfl rfl ?_
    refine gf_X7_28 o12 dX7_upToDate_35 rfl rfl (fun v14 => ?_)
    refine Sm.ck (fun o15 => ?_)
    refine kc_X7_78 o15 dX7_upToDate_38 rfl (Nat.le_of_ble_eq_true rfl) (Nat.le_of_ble_eq_true rfl) rfl (fun _ h16 => ?_)
    refine Sm.aload_n dX7_upToDate_41 rfl rfl rfl ?_
    refine Sm.ck (fun o17 => ?_)
    refine gf_X7_42 o17 dX7_upToDate_42 rfl rfl (fun v18 => ?_)
    refine Sm.aload_n dX7_upToDate_45 rfl rfl rfl ?_
    refine gf_X7_35 o17 dX7_upToDate_46 rfl rfl (fun v19 => ?_)
    refine Sm.ck (fun o20 => ?_)
    refine kc_X7_82 o20 dX7_upToDate_49 rfl (Nat.le_of_ble_eq_true rfl) (Nat.le_of_ble_eq_true rfl) rfl (fun _ h21 => ?_)
    refine Sm.aload_n dX7_upToDate_52 rfl rfl rfl ?_
    refine Sm.iconst dX7_upToDate_53 ic_1 rfl ?_
    refine Sm.ck (fun o22 => ?_)
    refine pf_X7_46 (Or.inr rfl) o22 dX7_upToDate_54 rfl rfl ?_
    refine Sm.aload_n dX7_upToDate_57 rfl rfl rfl ?_
    exact Sm.ret dX7_upToDate_58 trivial rfl
  · refine Sm.aload_n dX7_upToDate_57 rfl rfl rfl ?_
    exact Sm.ret dX7_upToDate_58 trivial rfl
set_option maxRecDepth 20000 in
theorem kc_X9_104 {ρ : Type} {rv : ρ → Option Value} {G : Gx} {pc q : Nat} {lv st : List Value} {h : Hp} {a : Nat} {x1 : Nat} {e : Nat → Hp → Option (ρ × Hp)} (hk : isO h a 7) (d : decode G.2.1 pc = .ok (.invokevirtual 104, 3)) (ho : G.1.cls = RX9) (hdep : (g_X7_upToDate).2.2.2.2 < G.2.2.2.2) (hcat : catS st ≤ 8) (hq : pc + 3 = q) (k : ∀ r h1, Sm rv G q lv (.ref r :: st) h1 (e r h1)) : Sm rv G pc lv (.ref x1 :: .ref a :: st) h (bd (f_X7_upToDate a x1 h) e) :=
  Sm.callV (rv' := rvA) (args := [.ref x1]) (n := 1) (t_X7_upToDate a x1 h) hk (by decide) (r := (RX7, TX7, 6)) rfl rfl ho mw_430 mw_431 mw_432 mw_6 mw_433 ⟨⟨by decide, rfl, hdep, Nat.le_of_ble_eq_true rfl⟩, Nat.le_of_ble_eq_true rfl, rfl, ⟨by decide, by decide⟩, hcat⟩ (by decide +kernel) (by intro v hv; simp only [List.mem_cons, List.not_mem_nil, or_false] at hv; rcases hv with rfl <;> intro x hx <;> cases hx) d hq k rfl
abbrev g_X7_printout : Gx := (yX7_printout, cX7_printout, 1, (Option.some (FieldType.object "PolicyCompiler$Printout")), 0)
def f_X7_printout (l0 : Nat) (h : Hp) : Option (Nat × Hp) :=
  (ck h l0 7
((gP h l0 1).bind fun v2 =>
(some (v2, h))))
set_option maxRecDepth 20000 in
theorem t_X7_printout (l0 : Nat) (h : Hp) : Sm rvA g_X7_printout 0 (ent 1 [.ref l0]) [] h (f_X7_printout l0 h) := by
  show Sm rvA g_X7_printout 0 [.ref l0] [] h _
  unfold f_X7_printout
  refine Sm.aload_n dX7_printout_0 rfl rfl rfl ?_
  refine Sm.ck (fun o1 => ?_)
  refine gf_X7_21 o1 dX7_printout_1 rfl rfl (fun v2 => ?_)
  exact Sm.ret dX7_printout_4 trivial rfl
set_option maxRecDepth 20000 in
theorem kc_X9_108 {ρ : Type} {rv : ρ → Option Value} {G : Gx} {pc q : Nat} {lv st : List Value} {h : Hp} {a : Nat} {e : Nat → Hp → Option (ρ × Hp)} (hk : isO h a 7) (d : decode G.2.1 pc = .ok (.invokevirtual 108, 3)) (ho : G.1.cls = RX9) (hdep : (g_X7_printout).2.2.2.2 < G.2.2.2.2) (hcat : catS st ≤ 8) (hq : pc + 3 = q) (k : ∀ r h1, Sm rv G q lv (.ref r :: st) h1 (e r h1)) : Sm rv G pc lv (.ref a :: st) h (bd (f_X7_printout a h) e) :=
  Sm.callV (rv' := rvA) (args := []) (n := 0) (t_X7_printout a h) hk (by decide) (r := (RX7, TX7, 6)) rfl rfl ho mw_666 mw_667 mw_668 mw_6 mw_669 ⟨⟨by decide, rfl, hdep, Nat.le_of_ble_eq_true rfl⟩, Nat.le_of_ble_eq_true rfl, rfl, ⟨by decide, by decide⟩, hcat⟩ (by decide +kernel) (fun v hv => by cases hv) d hq k rfl
abbrev g_X7_relation : Gx := (yX7_relation, cX7_relation, 1, (Option.some (FieldType.object "PolicyCompiler$Relation")), 0)
def f_X7_relation (l0 : Nat) (h : Hp) : Option (Nat × Hp) :=
  (ck h l0 7
((gP h l0 2).bind fun v2 =>
(some (v2, h))))
set_option maxRecDepth 20000 in
theorem t_X7_relation (l0 : Nat) (h : Hp) : Sm rvA g_X7_relation 0 (ent 1 [.ref l0]) [] h (f_X7_relation l0 h) := by
  show Sm rvA g_X7_relation 0 [.ref l0] [] h _
  unfold f_X7_relation
  refine Sm.aload_n dX7_relation_0 rfl rfl rfl ?_
  refine Sm.ck (fun o1 => ?_)
  refine gf_X7_28 o1 dX7_relation_1 rfl rfl (fun v2 => ?_)
  exact Sm.ret dX7_relation_4 trivial rfl
set_option maxRecDepth 20000 in
theorem kc_X9_123 {ρ : Type} {rv : ρ → Option Value} {G : Gx} {pc q : Nat} {lv st : List Value} {h : Hp} {a : Nat} {e : Nat → Hp → Option (ρ × Hp)} (hk : isO h a 7) (d : decode G.2.1 pc = .ok (.invokevirtual 123, 3)) (ho : G.1.cls = RX9) (hdep : (g_X7_relation).2.2.2.2 < G.2.2.2.2) (hcat : catS st ≤ 8) (hq : pc + 3 = q) (k : ∀ r h1, Sm rv G q lv (.ref r :: st) h1 (e r h1)) : Sm rv G pc lv (.ref a :: st) h (bd (f_X7_relation a h) e) :=
  Sm.callV (rv' := rvA) (args := []) (n := 0) (t_X7_relation a h) hk (by decide) (r := (RX7, TX7, 6)) rfl rfl ho mw_683 mw_684 mw_685 mw_6 mw_686 ⟨⟨by decide, rfl, hdep, Nat.le_of_ble_eq_true rfl⟩, Nat.le_of_ble_eq_true rfl, rfl, ⟨by decide, by decide⟩, hcat⟩ (by decide +kernel) (fun v hv => by cases hv) d hq k rfl
abbrev g_X7_diagram : Gx := (yX7_diagram, cX7_diagram, 1, (Option.some (FieldType.object "PolicyCompiler$Diagram")), 0)
def f_X7_diagram (l0 : Nat) (h : Hp) : Option (Nat × Hp) :=
  (ck h l0 7
((gP h l0 3).bind fun v2 =>
(some (v2, h))))
set_option maxRecDepth 20000 in
theorem t_X7_diagram (l0 : Nat) (h : Hp) : Sm rvA g_X7_diagram 0 (ent 1 [.ref l0]) [] h (f_X7_diagram l0 h) := by
  show Sm rvA g_X7_diagram 0 [.ref l0] [] h _
  unfold f_X7_diagram
  refine Sm.aload_n dX7_diagram_0 rfl rfl rfl ?_
  refine Sm.ck (fun o1 => ?_)
  refine gf_X7_35 o1 dX7_diagram_1 rfl rfl (fun v2 => ?_)
  exact Sm.ret dX7_diagram_4 trivial rfl
set_option maxRecDepth 20000 in
theorem kc_X9_154 {ρ : Type} {rv : ρ → Option Value} {G : Gx} {pc q : Nat} {lv st : List Value} {h : Hp} {a : Nat} {e : Nat → Hp → Option (ρ × Hp)} (hk : isO h a 7) (d : decode G.2.1 pc = .ok (.invokevirtual 154, 3)) (ho : G.1.cls = RX9) (hdep : (g_X7_diagram).2.2.2.2 < G.2.2.2.2) (hcat : catS st ≤ 8) (hq : pc + 3 = q) (k : ∀ r h1, Sm rv G q lv (.ref r :: st) h1 (e r h1)) : Sm rv G pc lv (.ref a :: st) h (bd (f_X7_diagram a h) e) :=
  Sm.callV (rv' := rvA) (args := []) (n := 0) (t_X7_diagram a h) hk (by decide) (r := (RX7, TX7, 6)) rfl rfl ho mw_745 mw_746 mw_747 mw_6 mw_748 ⟨⟨by decide, rfl, hdep, Nat.le_of_ble_eq_true rfl⟩, Nat.le_of_ble_eq_true rfl, rfl, ⟨by decide, by decide⟩, hcat⟩ (by decide +kernel) (fun v hv => by cases hv) d hq k rfl
abbrev g_X7_table : Gx := (yX7_table, cX7_table, 1, (Option.some (FieldType.object "PolicyCompiler$Table")), 0)
def f_X7_table (l0 : Nat) (h : Hp) : Option (Nat × Hp) :=
  (ck h l0 7
((gP h l0 4).bind fun v2 =>
(some (v2, h))))
set_option maxRecDepth 20000 in
theorem t_X7_table (l0 : Nat) (h : Hp) : Sm rvA g_X7_table 0 (ent 1 [.ref l0]) [] h (f_X7_table l0 h) := by
  show Sm rvA g_X7_table 0 [.ref l0] [] h _
  unfold f_X7_table
  refine Sm.aload_n dX7_table_0 rfl rfl rfl ?_
  refine Sm.ck (fun o1 => ?_)
  refine gf_X7_42 o1 dX7_table_1 rfl rfl (fun v2 => ?_)
  exact Sm.ret dX7_table_4 trivial rfl
set_option maxRecDepth 20000 in
theorem kc_X9_173 {ρ : Type} {rv : ρ → Option Value} {G : Gx} {pc q : Nat} {lv st : List Value} {h : Hp} {a : Nat} {e : Nat → Hp → Option (ρ × Hp)} (hk : isO h a 7) (d : decode G.2.1 pc = .ok (.invokevirtual 173, 3)) (ho : G.1.cls = RX9) (hdep : (g_X7_table).2.2.2.2 < G.2.2.2.2) (hcat : catS st ≤ 8) (hq : pc + 3 = q) (k : ∀ r h1, Sm rv G q lv (.ref r :: st) h1 (e r h1)) : Sm rv G pc lv (.ref a :: st) h (bd (f_X7_table a h) e) :=
  Sm.callV (rv' := rvA) (args := []) (n := 0) (t_X7_table a h) hk (by decide) (r := (RX7, TX7, 6)) rfl rfl ho mw_790 mw_791 mw_792 mw_6 mw_793 ⟨⟨by decide, rfl, hdep, Nat.le_of_ble_eq_true rfl⟩, Nat.le_of_ble_eq_true rfl, rfl, ⟨by decide, by decide⟩, hcat⟩ (by decide +kernel) (fun v hv => by cases hv) d hq k rfl
abbrev g_X8_rowTotal : Gx := (yX8_rowTotal, cX8_rowTotal, 1, (Option.some FieldType.int), 0)
def f_X8_rowTotal (l0 : Nat) (h : Hp) : Option (Int32 × Hp) :=
  (ck h l0 8
(some ((gI h l0 2), h)))
set_option maxRecDepth 20000 in
theorem t_X8_rowTotal (l0 : Nat) (h : Hp) : Sm rvI g_X8_rowTotal 0 (ent 1 [.ref l0]) [] h (f_X8_rowTotal l0 h) := by
  show Sm rvI g_X8_rowTotal 0 [.ref l0] [] h _
  unfold f_X8_rowTotal
  refine Sm.aload_n dX8_rowTotal_0 rfl rfl rfl ?_
  refine Sm.ck (fun o1 => ?_)
  refine gf_X8_18 o1 dX8_rowTotal_1 rfl rfl ?_
  exact Sm.ret dX8_rowTotal_4 trivial rfl
set_option maxRecDepth 20000 in
theorem kc_X9_177 {ρ : Type} {rv : ρ → Option Value} {G : Gx} {pc q : Nat} {lv st : List Value} {h : Hp} {a : Nat} {e : Int32 → Hp → Option (ρ × Hp)} (hk : isO h a 8) (d : decode G.2.1 pc = .ok (.invokevirtual 177, 3)) (ho : G.1.cls = RX9) (hdep : (g_X8_rowTotal).2.2.2.2 < G.2.2.2.2) (hcat : catS st ≤ 8) (hq : pc + 3 = q) (k : ∀ r h1, Sm rv G q lv (.int r :: st) h1 (e r h1)) : Sm rv G pc lv (.ref a :: st) h (bd (f_X8_rowTotal a h) e) :=
  Sm.callV (rv' := rvI) (args := []) (n := 0) (t_X8_rowTotal a h) hk (by decide) (r := (RX8, TX8, 3)) rfl rfl ho mw_794 mw_795 mw_796 mw_10 mw_797 ⟨⟨by decide, rfl, hdep, Nat.le_of_ble_eq_true rfl⟩, Nat.le_of_ble_eq_true rfl, rfl, ⟨by decide, by decide⟩, hcat⟩ (by decide +kernel) (fun v hv => by cases hv) d hq k rfl
abbrev g_X8_hasRow : Gx := (yX8_hasRow, cX8_hasRow, 2, (Option.some FieldType.boolean), 0)
def f_X8_hasRow (l0 : Nat) (l1 : Int32) (h : Hp) : Option (Int32 × Hp) :=
  (if l1 < 0 then
(some ((0 : Int32), h))
else
(ck h l0 8
(if (gI h l0 2) ≤ l1 then
(some ((0 : Int32), h))
else
(some ((1 : Int32), h)))))
set_option maxRecDepth 20000 in
theorem t_X8_hasRow (l0 : Nat) (l1 : Int32) (h : Hp) : Sm rvI g_X8_hasRow 0 (ent 2 [.ref l0, .int l1]) [] h (f_X8_hasRow l0 l1 h) := by
  show Sm rvI g_X8_hasRow 0 [.ref l0, .int l1] [] h _
  unfold f_X8_hasRow
  refine Sm.iload_n dX8_hasRow_0 rfl rfl rfl ?_
  refine Sm.if_lt (t := 16) dX8_hasRow_1 (by decide) rfl (fun b1 => ?_) (fun b1 => ?_)
  · refine Sm.iconst dX8_hasRow_16 ic_0 rfl ?_
    exact Sm.ret dX8_hasRow_17 (Or.inl rfl) rfl
  · refine Sm.iload_n dX8_hasRow_4 rfl rfl rfl ?_
    refine Sm.aload_n dX8_hasRow_5 rfl rfl rfl ?_
    refine Sm.ck (fun o2 => ?_)
    refine gf_X8_18 o2 dX8_hasRow_6 rfl rfl ?_
    refine Sm.icmp_ge (t := 16) dX8_hasRow_9 (by decide) rfl (fun b3 => ?_) (fun b3 => ?_)
    · refine Sm.iconst dX8_hasRow_16 ic_0 rfl ?_
      exact Sm.ret dX8_hasRow_17 (Or.inl rfl) rfl
    · refine Sm.iconst dX8_hasRow_12 ic_1 rfl ?_
      refine Sm.goto (t := 17) dX8_hasRow_13 (by decide) ?_
      exact Sm.ret dX8_hasRow_17 (Or.inr rfl) rfl
set_option maxRecDepth 20000 in
theorem kc_X9_182 {ρ : Type} {rv : ρ → Option Value} {G : Gx} {pc q : Nat} {lv st : List Value} {h : Hp} {a : Nat} {x1 : Int32} {e : Int32 → Hp → Option (ρ × Hp)} (hk : isO h a 8) (d : decode G.2.1 pc = .ok (.invokevirtual 182, 3)) (ho : G.1.cls = RX9) (hdep : (g_X8_hasRow).2.2.2.2 < G.2.2.2.2) (hcat : catS st ≤ 8) (hq : pc + 3 = q) (k : ∀ r h1, Sm rv G q lv (.int r :: st) h1 (e r h1)) : Sm rv G pc lv (.int x1 :: .ref a :: st) h (bd (f_X8_hasRow a x1 h) e) :=
  Sm.callV (rv' := rvI) (args := [.int x1]) (n := 1) (t_X8_hasRow a x1 h) hk (by decide) (r := (RX8, TX8, 3)) rfl rfl ho mw_802 mw_803 mw_804 mw_10 mw_805 ⟨⟨by decide, rfl, hdep, Nat.le_of_ble_eq_true rfl⟩, Nat.le_of_ble_eq_true rfl, rfl, ⟨by decide, by decide⟩, hcat⟩ (by decide +kernel) (by intro v hv; simp only [List.mem_cons, List.not_mem_nil, or_false] at hv; rcases hv with rfl <;> intro x hx <;> cases hx) d hq k rfl
abbrev g_X8_demandsOf : Gx := (yX8_demandsOf, cX8_demandsOf, 2, (Option.some FieldType.int), 0)
def f_X8_demandsOf (l0 : Nat) (l1 : Int32) (h : Hp) : Option (Int32 × Hp) :=
  (if l1 < 0 then
(some ((124 : Int32), h))
else
(if (64 : Int32) ≤ l1 then
(some ((124 : Int32), h))
else
(ck h l0 8
((gP h l0 0).bind fun v4 =>
(ca h v4 20 l1
(some ((gI h v4 l1.toNatClampNeg), h)))))))
set_option maxRecDepth 20000 in
theorem t_X8_demandsOf (l0 : Nat) (l1 : Int32) (h : Hp) : Sm rvI g_X8_demandsOf 0 (ent 2 [.ref l0, .int l1]) [] h (f_X8_demandsOf l0 l1 h) := by
  show Sm rvI g_X8_demandsOf 0 [.ref l0, .int l1] [] h _
  unfold f_X8_demandsOf
  refine Sm.iload_n dX8_demandsOf_0 rfl rfl rfl ?_
  refine Sm.if_lt (t := 19) dX8_demandsOf_1 (by decide) rfl (fun b1 => ?_) (fun b1 => ?_)
  · refine Sm.bipush dX8_demandsOf_19 bp_124 rfl ?_
    exact Sm.ret dX8_demandsOf_21 trivial rfl
  · refine Sm.iload_n dX8_demandsOf_4 rfl rfl rfl ?_
    refine Sm.bipush dX8_demandsOf_5 bp_64 rfl ?_
    refine Sm.icmp_ge (t := 19) dX8_demandsOf_7 (by decide) rfl (fun b2 => ?_) (fun b2 => ?_)
    · refine Sm.bipush dX8_demandsOf_19 bp_124 rfl ?_
      exact Sm.ret dX8_demandsOf_21 trivial rfl
    · refine Sm.aload_n dX8_demandsOf_10 rfl rfl rfl ?_
      refine Sm.ck (fun o3 => ?_)
      refine gf_X8_9 o3 dX8_demandsOf_11 rfl rfl (fun v4 => ?_)
      refine Sm.iload_n dX8_demandsOf_14 rfl rfl rfl ?_
      refine Sm.ca (fun q5 => ?_)
      refine Sm.iald q5 dX8_demandsOf_15 rfl ?_
      refine Sm.goto (t := 21) dX8_demandsOf_16 (by decide) ?_
      exact Sm.ret dX8_demandsOf_21 trivial rfl
set_option maxRecDepth 20000 in
theorem kc_X9_185 {ρ : Type} {rv : ρ → Option Value} {G : Gx} {pc q : Nat} {lv st : List Value} {h : Hp} {a : Nat} {x1 : Int32} {e : Int32 → Hp → Option (ρ × Hp)} (hk : isO h a 8) (d : decode G.2.1 pc = .ok (.invokevirtual 185, 3)) (ho : G.1.cls = RX9) (hdep : (g_X8_demandsOf).2.2.2.2 < G.2.2.2.2) (hcat : catS st ≤ 8) (hq : pc + 3 = q) (k : ∀ r h1, Sm rv G q lv (.int r :: st) h1 (e r h1)) : Sm rv G pc lv (.int x1 :: .ref a :: st) h (bd (f_X8_demandsOf a x1 h) e) :=
  Sm.callV (rv' := rvI) (args := [.int x1]) (n := 1) (t_X8_demandsOf a x1 h) hk (by decide) (r := (RX8, TX8, 3)) rfl rfl ho mw_806 mw_807 mw_808 mw_10 mw_809 ⟨⟨by decide, rfl, hdep, Nat.le_of_ble_eq_true rfl⟩, Nat.le_of_ble_eq_true rfl, rfl, ⟨by decide, by decide⟩, hcat⟩ (by decide +kernel) (by intro v hv; simp only [List.mem_cons, List.not_mem_nil, or_false] at hv; rcases hv with rfl <;> intro x hx <;> cases hx) d hq k rfl
abbrev g_X8_leafOf : Gx := (yX8_leafOf, cX8_leafOf, 2, (Option.some FieldType.int), 0)
def f_X8_leafOf (l0 : Nat) (l1 : Int32) (h : Hp) : Option (Int32 × Hp) :=
  (if l1 < 0 then
(some ((0 : Int32), h))
else
(if (64 : Int32) ≤ l1 then
(some ((0 : Int32), h))
else
(ck h l0 8
((gP h l0 1).bind fun v4 =>
(ca h v4 20 l1
(some ((gI h v4 l1.toNatClampNeg), h)))))))
set_option maxRecDepth 20000 in
theorem t_X8_leafOf (l0 : Nat) (l1 : Int32) (h : Hp) : Sm rvI g_X8_leafOf 0 (ent 2 [.ref l0, .int l1]) [] h (f_X8_leafOf l0 l1 h) := by
  show Sm rvI g_X8_leafOf 0 [.ref l0, .int l1] [] h _
  unfold f_X8_leafOf
  refine Sm.iload_n dX8_leafOf_0 rfl rfl rfl ?_
  refine Sm.if_lt (t := 19) dX8_leafOf_1 (by decide) rfl (fun b1 => ?_) (fun b1 => ?_)
  · refine Sm.iconst dX8_leafOf_19 ic_0 rfl ?_
    exact Sm.ret dX8_leafOf_20 trivial rfl
  · refine Sm.iload_n dX8_leafOf_4 rfl rfl rfl ?_
    refine Sm.bipush dX8_leafOf_5 bp_64 rfl ?_
    refine Sm.icmp_ge (t := 19) dX8_leafOf_7 (by decide) rfl (fun b2 => ?_) (fun b2 => ?_)
    · refine Sm.iconst dX8_leafOf_19 ic_0 rfl ?_
      exact Sm.ret dX8_leafOf_20 trivial rfl
    · refine Sm.aload_n dX8_leafOf_10 rfl rfl rfl ?_
      refine Sm.ck (fun o3 => ?_)
      refine gf_X8_15 o3 dX8_leafOf_11 rfl rfl (fun v4 => ?_)
      refine Sm.iload_n dX8_leafOf_14 rfl rfl rfl ?_
      refine Sm.ca (fun q5 => ?_)
      refine Sm.iald q5 dX8_leafOf_15 rfl ?_
      refine Sm.goto (t := 20) dX8_leafOf_16 (by decide) ?_
      exact Sm.ret dX8_leafOf_20 trivial rfl
set_option maxRecDepth 20000 in
theorem kc_X9_192 {ρ : Type} {rv : ρ → Option Value} {G : Gx} {pc q : Nat} {lv st : List Value} {h : Hp} {a : Nat} {x1 : Int32} {e : Int32 → Hp → Option (ρ × Hp)} (hk : isO h a 8) (d : decode G.2.1 pc = .ok (.invokevirtual 192, 3)) (ho : G.1.cls = RX9) (hdep : (g_X8_leafOf).2.2.2.2 < G.2.2.2.2) (hcat : catS st ≤ 8) (hq : pc + 3 = q) (k : ∀ r h1, Sm rv G q lv (.int r :: st) h1 (e r h1)) : Sm rv G pc lv (.int x1 :: .ref a :: st) h (bd (f_X8_leafOf a x1 h) e) :=
  Sm.callV (rv' := rvI) (args := [.int x1]) (n := 1) (t_X8_leafOf a x1 h) hk (by decide) (r := (RX8, TX8, 3)) rfl rfl ho mw_817 mw_818 mw_819 mw_10 mw_820 ⟨⟨by decide, rfl, hdep, Nat.le_of_ble_eq_true rfl⟩, Nat.le_of_ble_eq_true rfl, rfl, ⟨by decide, by decide⟩, hcat⟩ (by decide +kernel) (by intro v hv; simp only [List.mem_cons, List.not_mem_nil, or_false] at hv; rcases hv with rfl <;> intro x hx <;> cases hx) d hq k rfl
abbrev g_X9_entryOf : Gx := (yX9_entryOf, cX9_entryOf, 3, (Option.some FieldType.int), 0)
def f_X9_entryOf (l0 : Int32) (l1 : Int32) (h : Hp) : Option (Int32 × Hp) :=
  (if l1 = 0 then
(nm (l0 / (25 : Int32)) fun v2 =>
(some ((v2 - v2 / (5 : Int32) * (5 : Int32)), h)))
else
(if l1 = (1 : Int32) then
(nm (l0 / (5 : Int32)) fun v4 =>
(some ((v4 - v4 / (5 : Int32) * (5 : Int32)), h)))
else
(some ((l0 - l0 / (5 : Int32) * (5 : Int32)), h))))
set_option maxRecDepth 20000 in
theorem t_X9_entryOf (l0 : Int32) (l1 : Int32) (h : Hp) : Sm rvI g_X9_entryOf 0 (ent 3 [.int l0, .int l1]) [] h (f_X9_entryOf l0 l1 h) := by
  show Sm rvI g_X9_entryOf 0 [.int l0, .int l1, .null] [] h _
  unfold f_X9_entryOf
  refine Sm.iload_n dX9_entryOf_0 rfl rfl rfl ?_
  refine Sm.if_ne (t := 11) dX9_entryOf_1 (by decide) rfl (fun b1 => ?_) (fun b1 => ?_)
  · refine Sm.iload_n dX9_entryOf_4 rfl rfl rfl ?_
    refine Sm.bipush dX9_entryOf_5 bp_25 rfl ?_
    refine Sm.idiv dX9_entryOf_7 (by decide) rfl ?_
    refine Sm.goto (t := 23) dX9_entryOf_8 (by decide) ?_
    refine Sm.nm (LV := fun v2 => [.int l0, .int l1, .null]) (ST := fun v2 => [.int v2]) (fun v2 => ?_)
    refine Sm.istore_n (lv' := [.int l0, .int l1, .int v2]) dX9_entryOf_23 rfl (Nat.le_of_ble_eq_true rfl) rfl rfl ?_
    refine Sm.iload_n dX9_entryOf_24 rfl rfl rfl ?_
    refine Sm.iconst dX9_entryOf_25 ic_5 rfl ?_
    refine Sm.irem dX9_entryOf_26 (by decide) rfl ?_
    exact Sm.ret dX9_entryOf_27 trivial rfl
  · refine Sm.iload_n dX9_entryOf_11 rfl rfl rfl ?_
    refine Sm.iconst dX9_entryOf_12 ic_1 rfl ?_
    refine Sm.icmp_ne (t := 22) dX9_entryOf_13 (by decide) rfl (fun b3 => ?_) (fun b3 => ?_)
    · refine Sm.iload_n dX9_entryOf_16 rfl rfl rfl ?_
      refine Sm.iconst dX9_entryOf_17 ic_5 rfl ?_
      refine Sm.idiv dX9_entryOf_18 (by decide) rfl ?_
      refine Sm.goto (t := 23) dX9_entryOf_19 (by decide) ?_
      refine Sm.nm (LV := fun v4 => [.int l0, .int l1, .null]) (ST := fun v4 => [.int v4]) (fun v4 => ?_)
      refine Sm.istore_n (lv' := [.int l0, .int l1, .int v4]) dX9_entryOf_23 rfl (Nat.le_of_ble_eq_true rfl) rfl rfl ?_
      refine Sm.iload_n dX9_entryOf_24 rfl rfl rfl ?_
      refine Sm.iconst dX9_entryOf_25 ic_5 rfl ?_
      refine Sm.irem dX9_entryOf_26 (by decide) rfl ?_
      exact Sm.ret dX9_entryOf_27 trivial rfl
    · refine Sm.iload_n dX9_entryOf_22 rfl rfl rfl ?_
      refine Sm.istore_n (lv' := [.int l0, .int l1, .int l0]) dX9_entryOf_23 rfl (Nat.le_of_ble_eq_true rfl) rfl rfl ?_
      refine Sm.iload_n dX9_entryOf_24 rfl rfl rfl ?_
      refine Sm.iconst dX9_entryOf_25 ic_5 rfl ?_
      refine Sm.irem dX9_entryOf_26 (by decide) rfl ?_
      exact Sm.ret dX9_entryOf_27 trivial rfl
set_option maxRecDepth 20000 in
theorem kc_X9_188 {ρ : Type} {rv : ρ → Option Value} {G : Gx} {pc q : Nat} {lv st : List Value} {h : Hp} {x0 : Int32} {x1 : Int32} {e : Int32 → Hp → Option (ρ × Hp)} (d : decode G.2.1 pc = .ok (.invokestatic 188, 3)) (ho : G.1.cls = RX9) (hdep : (g_X9_entryOf).2.2.2.2 < G.2.2.2.2) (hcat : catS st ≤ 8) (hq : pc + 3 = q) (k : ∀ r h1, Sm rv G q lv (.int r :: st) h1 (e r h1)) : Sm rv G pc lv (.int x1 :: .int x0 :: st) h (bd (f_X9_entryOf x0 x1 h) e) :=
  Sm.callS (rv' := rvI) (as := [.int x0, .int x1]) (n := 2) (t_X9_entryOf x0 x1 h) ho mw_810 mw_811 mw_1 mw_812 ⟨⟨by decide, rfl, hdep, Nat.le_of_ble_eq_true rfl⟩, Nat.le_of_ble_eq_true rfl, rfl, ⟨by decide, by decide⟩, hcat⟩ (by decide +kernel) (by intro v hv; simp only [List.mem_cons, List.not_mem_nil, or_false] at hv; rcases hv with rfl | rfl <;> intro x hx <;> cases hx) d hq k rfl
set_option maxRecDepth 20000 in
theorem kc_X8_61 {ρ : Type} {rv : ρ → Option Value} {G : Gx} {pc q : Nat} {lv st : List Value} {h : Hp} {x0 : Int32} {x1 : Int32} {e : Int32 → Hp → Option (ρ × Hp)} (d : decode G.2.1 pc = .ok (.invokestatic 61, 3)) (ho : G.1.cls = RX8) (hdep : (g_X9_entryOf).2.2.2.2 < G.2.2.2.2) (hcat : catS st ≤ 8) (hq : pc + 3 = q) (k : ∀ r h1, Sm rv G q lv (.int r :: st) h1 (e r h1)) : Sm rv G pc lv (.int x1 :: .int x0 :: st) h (bd (f_X9_entryOf x0 x1 h) e) :=
  Sm.callSN (rv' := rvI) (as := [.int x0, .int x1]) (n := 2) (t_X9_entryOf x0 x1 h) ho mw_842 mw_811 mw_1 mw_812 ⟨⟨by decide, rfl, hdep, Nat.le_of_ble_eq_true rfl⟩, Nat.le_of_ble_eq_true rfl, rfl, ⟨by decide, by decide⟩, hcat⟩ (by decide +kernel) (by intro v hv; simp only [List.mem_cons, List.not_mem_nil, or_false] at hv; rcases hv with rfl | rfl <;> intro x hx <;> cases hx) d hq k rfl
abbrev g_X8_meets : Gx := (yX8_meets, cX8_meets, 4, (Option.some FieldType.boolean), 2)
def f_X8_meets_2 (k2 : (Int32 × Hp) → Option (Int32 × Hp)) (l0 : Int32) (l1 : Int32) (l2 : Int32) (h : Hp) : Option (Int32 × Hp) :=
  (if (3 : Int32) ≤ l2 then
(some ((1 : Int32), h))
else
(bd (f_X9_entryOf l1 l2 h) fun v2 h3 =>
(if v2 = (4 : Int32) then
(nm (l2 + (1 : Int32)) fun v5 =>
(k2 (v5, h3)))
else
(bd (f_X9_valueOf l0 l2 h3) fun v6 h7 =>
(if v2 = v6 then
(nm (l2 + (1 : Int32)) fun v9 =>
(k2 (v9, h7)))
else
(some ((0 : Int32), h7)))))))
set_option maxRecDepth 20000 in
theorem t_X8_meets_2 (l0 : Int32) (l1 : Int32) (l2 : Int32) (h : Hp) (k2 : (Int32 × Hp) → Option (Int32 × Hp)) (hk2 : ∀ s : Int32 × Hp, Sm rvI g_X8_meets 2 [.int l0, .int l1, .int s.1, .null] [] s.2 (k2 s)) : Sm rvI g_X8_meets 2 [.int l0, .int l1, .int l2, .null] [] h (f_X8_meets_2 k2 l0 l1 l2 h) := by
  unfold f_X8_meets_2
  refine Sm.iload_n dX8_meets_2 rfl rfl rfl ?_
  refine Sm.iconst dX8_meets_3 ic_3 rfl ?_
  refine Sm.icmp_ge (t := 35) dX8_meets_4 (by decide) rfl (fun b1 => ?_) (fun b1 => ?_)
  · refine Sm.iconst dX8_meets_35 ic_1 rfl ?_
    exact Sm.ret dX8_meets_36 (Or.inr rfl) rfl
  · refine Sm.iload_n dX8_meets_7 rfl rfl rfl ?_
    refine Sm.iload_n dX8_meets_8 rfl rfl rfl ?_
    refine kc_X8_61 dX8_meets_9 rfl (Nat.le_of_ble_eq_true rfl) (Nat.le_of_ble_eq_true rfl) rfl (fun v2 h3 => ?_)
    refine Sm.istore_n (lv' := [.int l0, .int l1, .int l2, .int v2]) dX8_meets_12 rfl (Nat.le_of_ble_eq_true rfl) rfl rfl ?_
    refine Sm.iload_n dX8_meets_13 rfl rfl rfl ?_
    refine Sm.iconst dX8_meets_14 ic_4 rfl ?_
    refine Sm.icmp_eq (t := 29) dX8_meets_15 (by decide) rfl (fun b4 => ?_) (fun b4 => ?_)
    · refine Sm.iinc (lv' := [.int l0, .int l1, .int (l2 + (1 : Int32)), .int v2]) dX8_meets_29 rfl ic_1 rfl rfl ?_
      refine Sm.nm (LV := fun v5 => [.int l0, .int l1, .int v5, .int v2]) (ST := fun v5 => []) (fun v5 => ?_)
      refine Sm.goto (t := 2) dX8_meets_32 (by decide) ?_
      exact Sm.wk (hk2 (v5, h3)) ⟨Or.inr rfl, Or.inr rfl, Or.inr rfl, Or.inl rfl, trivial⟩
    · refine Sm.iload_n dX8_meets_18 rfl rfl rfl ?_
      refine Sm.iload_n dX8_meets_19 rfl rfl rfl ?_
      refine Sm.iload_n dX8_meets_20 rfl rfl rfl ?_
      refine kc_X8_64 dX8_meets_21 rfl (Nat.le_of_ble_eq_true rfl) (Nat.le_of_ble_eq_true rfl) rfl (fun v6 h7 => ?_)
      refine Sm.icmp_eq (t := 29) dX8_meets_24 (by decide) rfl (fun b8 => ?_) (fun b8 => ?_)
      · refine Sm.iinc (lv' := [.int l0, .int l1, .int (l2 + (1 : Int32)), .int v2]) dX8_meets_29 rfl ic_1 rfl rfl ?_
        refine Sm.nm (LV := fun v9 => [.int l0, .int l1, .int v9, .int v2]) (ST := fun v9 => []) (fun v9 => ?_)
        refine Sm.goto (t := 2) dX8_meets_32 (by decide) ?_
        exact Sm.wk (hk2 (v9, h7)) ⟨Or.inr rfl, Or.inr rfl, Or.inr rfl, Or.inl rfl, trivial⟩
      · refine Sm.iconst dX8_meets_27 ic_0 rfl ?_
        exact Sm.ret dX8_meets_28 (Or.inl rfl) rfl
def f_X8_meets (l0 : Int32) (l1 : Int32) (h : Hp) : Option (Int32 × Hp) :=
  (loopN (fun k s => f_X8_meets_2 k l0 l1 s.1 s.2) 5000 ((0 : Int32), h))
set_option maxRecDepth 20000 in
theorem t_X8_meets (l0 : Int32) (l1 : Int32) (h : Hp) : Sm rvI g_X8_meets 0 (ent 4 [.int l0, .int l1]) [] h (f_X8_meets l0 l1 h) := by
  show Sm rvI g_X8_meets 0 [.int l0, .int l1, .null, .null] [] h _
  unfold f_X8_meets
  refine Sm.iconst dX8_meets_0 ic_0 rfl ?_
  refine Sm.istore_n (lv' := [.int l0, .int l1, .int (0 : Int32), .null]) dX8_meets_1 rfl (Nat.le_of_ble_eq_true rfl) rfl rfl ?_
  exact Sm.wk (Sm.loop (σ := Int32 × Hp) (LV := fun s => [.int l0, .int l1, .int s.1, .null]) (HH := fun s => s.2) (fun k hk s => t_X8_meets_2 l0 l1 s.1 s.2 k hk) 5000 ((0 : Int32), h)) ⟨Or.inr rfl, Or.inr rfl, Or.inr rfl, Or.inl rfl, trivial⟩
set_option maxRecDepth 20000 in
theorem kc_X8_57 {ρ : Type} {rv : ρ → Option Value} {G : Gx} {pc q : Nat} {lv st : List Value} {h : Hp} {x0 : Int32} {x1 : Int32} {e : Int32 → Hp → Option (ρ × Hp)} (d : decode G.2.1 pc = .ok (.invokestatic 57, 3)) (ho : G.1.cls = RX8) (hdep : (g_X8_meets).2.2.2.2 < G.2.2.2.2) (hcat : catS st ≤ 8) (hq : pc + 3 = q) (k : ∀ r h1, Sm rv G q lv (.int r :: st) h1 (e r h1)) : Sm rv G pc lv (.int x1 :: .int x0 :: st) h (bd (f_X8_meets x0 x1 h) e) :=
  Sm.callS (rv' := rvI) (as := [.int x0, .int x1]) (n := 2) (t_X8_meets x0 x1 h) ho mw_839 mw_840 mw_10 mw_841 ⟨⟨by decide, rfl, hdep, Nat.le_of_ble_eq_true rfl⟩, Nat.le_of_ble_eq_true rfl, rfl, ⟨by decide, by decide⟩, hcat⟩ (by decide +kernel) (by intro v hv; simp only [List.mem_cons, List.not_mem_nil, or_false] at hv; rcases hv with rfl | rfl <;> intro x hx <;> cases hx) d hq k rfl
abbrev g_X8_firstRowFor : Gx := (yX8_firstRowFor, cX8_firstRowFor, 3, (Option.some FieldType.int), 3)
def f_X8_firstRowFor_2 (k2 : (Int32 × Hp) → Option (Int32 × Hp)) (l0 : Nat) (l1 : Int32) (l2 : Int32) (h : Hp) : Option (Int32 × Hp) :=
  (ck h l0 8
(if (gI h l0 2) ≤ l2 then
(some ((-1 : Int32), h))
else
(if (64 : Int32) ≤ l2 then
(some ((-1 : Int32), h))
else
((gP h l0 0).bind fun v4 =>
(ca h v4 20 l2
(bd (f_X8_meets l1 (gI h v4 l2.toNatClampNeg) h) fun v6 h7 =>
(if v6 = 0 then
(nm (l2 + (1 : Int32)) fun v9 =>
(k2 (v9, h7)))
else
(some (l2, h7)))))))))
set_option maxRecDepth 20000 in
theorem t_X8_firstRowFor_2 (l0 : Nat) (l1 : Int32) (l2 : Int32) (h : Hp) (k2 : (Int32 × Hp) → Option (Int32 × Hp)) (hk2 : ∀ s : Int32 × Hp, Sm rvI g_X8_firstRowFor 2 [.ref l0, .int l1, .int s.1] [] s.2 (k2 s)) : Sm rvI g_X8_firstRowFor 2 [.ref l0, .int l1, .int l2] [] h (f_X8_firstRowFor_2 k2 l0 l1 l2 h) := by
  unfold f_X8_firstRowFor_2
  refine Sm.iload_n dX8_firstRowFor_2 rfl rfl rfl ?_
  refine Sm.aload_n dX8_firstRowFor_3 rfl rfl rfl ?_
  refine Sm.ck (fun o1 => ?_)
  refine gf_X8_18 o1 dX8_firstRowFor_4 rfl rfl ?_
  refine Sm.icmp_ge (t := 37) dX8_firstRowFor_7 (by decide) rfl (fun b2 => ?_) (fun b2 => ?_)
  · refine Sm.iconst dX8_firstRowFor_37 ic_m1 rfl ?_
    exact Sm.ret dX8_firstRowFor_38 trivial rfl
  · refine Sm.iload_n dX8_firstRowFor_10 rfl rfl rfl ?_
    refine Sm.bipush dX8_firstRowFor_11 bp_64 rfl ?_
    refine Sm.icmp_ge (t := 37) dX8_firstRowFor_13 (by decide) rfl (fun b3 => ?_) (fun b3 => ?_)
    · refine Sm.iconst dX8_firstRowFor_37 ic_m1 rfl ?_
      exact Sm.ret dX8_firstRowFor_38 trivial rfl
    · refine Sm.iload_n dX8_firstRowFor_16 rfl rfl rfl ?_
      refine Sm.aload_n dX8_firstRowFor_17 rfl rfl rfl ?_
      refine gf_X8_9 o1 dX8_firstRowFor_18 rfl rfl (fun v4 => ?_)
      refine Sm.iload_n dX8_firstRowFor_21 rfl rfl rfl ?_
      refine Sm.ca (fun q5 => ?_)
      refine Sm.iald q5 dX8_firstRowFor_22 rfl ?_
      refine kc_X8_57 dX8_firstRowFor_23 rfl (Nat.le_of_ble_eq_true rfl) (Nat.le_of_ble_eq_true rfl) rfl (fun v6 h7 => ?_)
      refine Sm.if_eq (t := 31) dX8_firstRowFor_26 (by decide) rfl (fun b8 => ?_) (fun b8 => ?_)
      · refine Sm.iinc (lv' := [.ref l0, .int l1, .int (l2 + (1 : Int32))]) dX8_firstRowFor_31 rfl ic_1 rfl rfl ?_
        refine Sm.nm (LV := fun v9 => [.ref l0, .int l1, .int v9]) (ST := fun v9 => []) (fun v9 => ?_)
        refine Sm.goto (t := 2) dX8_firstRowFor_34 (by decide) ?_
        exact Sm.wk (hk2 (v9, h7)) ⟨Or.inr rfl, Or.inr rfl, Or.inr rfl, trivial⟩
      · refine Sm.iload_n dX8_firstRowFor_29 rfl rfl rfl ?_
        exact Sm.ret dX8_firstRowFor_30 trivial rfl
def f_X8_firstRowFor (l0 : Nat) (l1 : Int32) (h : Hp) : Option (Int32 × Hp) :=
  (loopN (fun k s => f_X8_firstRowFor_2 k l0 l1 s.1 s.2) 5000 ((0 : Int32), h))
set_option maxRecDepth 20000 in
theorem t_X8_firstRowFor (l0 : Nat) (l1 : Int32) (h : Hp) : Sm rvI g_X8_firstRowFor 0 (ent 3 [.ref l0, .int l1]) [] h (f_X8_firstRowFor l0 l1 h) := by
  show Sm rvI g_X8_firstRowFor 0 [.ref l0, .int l1, .null] [] h _
  unfold f_X8_firstRowFor
  refine Sm.iconst dX8_firstRowFor_0 ic_0 rfl ?_
  refine Sm.istore_n (lv' := [.ref l0, .int l1, .int (0 : Int32)]) dX8_firstRowFor_1 rfl (Nat.le_of_ble_eq_true rfl) rfl rfl ?_
  exact Sm.wk (Sm.loop (σ := Int32 × Hp) (LV := fun s => [.ref l0, .int l1, .int s.1]) (HH := fun s => s.2) (fun k hk s => t_X8_firstRowFor_2 l0 l1 s.1 s.2 k hk) 5000 ((0 : Int32), h)) ⟨Or.inr rfl, Or.inr rfl, Or.inr rfl, trivial⟩
set_option maxRecDepth 20000 in
theorem kc_X9_201 {ρ : Type} {rv : ρ → Option Value} {G : Gx} {pc q : Nat} {lv st : List Value} {h : Hp} {a : Nat} {x1 : Int32} {e : Int32 → Hp → Option (ρ × Hp)} (hk : isO h a 8) (d : decode G.2.1 pc = .ok (.invokevirtual 201, 3)) (ho : G.1.cls = RX9) (hdep : (g_X8_firstRowFor).2.2.2.2 < G.2.2.2.2) (hcat : catS st ≤ 8) (hq : pc + 3 = q) (k : ∀ r h1, Sm rv G q lv (.int r :: st) h1 (e r h1)) : Sm rv G pc lv (.int x1 :: .ref a :: st) h (bd (f_X8_firstRowFor a x1 h) e) :=
  Sm.callV (rv' := rvI) (args := [.int x1]) (n := 1) (t_X8_firstRowFor a x1 h) hk (by decide) (r := (RX8, TX8, 3)) rfl rfl ho mw_835 mw_836 mw_837 mw_10 mw_838 ⟨⟨by decide, rfl, hdep, Nat.le_of_ble_eq_true rfl⟩, Nat.le_of_ble_eq_true rfl, rfl, ⟨by decide, by decide⟩, hcat⟩ (by decide +kernel) (by intro v hv; simp only [List.mem_cons, List.not_mem_nil, or_false] at hv; rcases hv with rfl <;> intro x hx <;> cases hx) d hq k rfl
abbrev g_X9_init : Gx := (yX9_init, cX9_init, 2, (Option.none : Option FieldType), 3)
def f_X9_init_79 (k79 : (Int32 × Hp) → Option (Unit × Hp)) (l0 : Nat) (l1 : Int32) (h : Hp) : Option (Unit × Hp) :=
  (if (4 : Int32) ≤ l1 then
(some ((), h))
else
(ck h l0 9
((gP h l0 2).bind fun v53 =>
(nm (nwc h 7 0 6) fun h54 =>
(bd (f_X7_init (gN h + 1) h54) fun _ h57 =>
(ck h57 (gN h + 1) 7
(ca h57 v53 23 l1
(nm (l1 + (1 : Int32)) fun v60 =>
(k79 (v60, (sP h57 v53 l1.toNatClampNeg (some (gN h + 1)))))))))))))
set_option maxRecDepth 20000 in
theorem t_X9_init_79 (l0 : Nat) (l1 : Int32) (h : Hp) (k79 : (Int32 × Hp) → Option (Unit × Hp)) (hk79 : ∀ s : Int32 × Hp, Sm rvV g_X9_init 79 [.ref l0, .int s.1] [] s.2 (k79 s)) : Sm rvV g_X9_init 79 [.ref l0, .int l1] [] h (f_X9_init_79 k79 l0 l1 h) := by
  unfold f_X9_init_79
  refine Sm.iload_n dX9_init_79 rfl rfl rfl ?_
  refine Sm.iconst dX9_init_80 ic_4 rfl ?_
  refine Sm.icmp_ge (t := 103) dX9_init_81 (by decide) rfl (fun b51 => ?_) (fun b51 => ?_)
  · exact Sm.ret (r := ()) dX9_init_103 trivial rfl
  · refine Sm.aload_n dX9_init_84 rfl rfl rfl ?_
    refine Sm.ck (fun o52 => ?_)
    refine gf_X9_19 o52 dX9_init_85 rfl rfl (fun v53 => ?_)
    refine Sm.iload_n dX9_init_88 rfl rfl rfl ?_
    refine Sm.new (ci := 7) (r := (RX7, TX7, 6)) dX9_init_89 mw_22 mw_114 mw_6 rfl (by decide) rfl rfl ?_
    refine Sm.nmH (fun h54 e55 e56 => ?_)
    refine Sm.dup dX9_init_92 rfl rfl ?_
    refine kc_X9_54 dX9_init_93 rfl (Nat.le_of_ble_eq_true rfl) (Nat.le_of_ble_eq_true rfl) rfl (fun _ h57 => ?_)
    refine Sm.ck (fun o58 => ?_)
    refine Sm.ca (fun q59 => ?_)
    refine Sm.aast q59 o58 (by decide) dX9_init_96 rfl ?_
    refine Sm.iinc (lv' := [.ref l0, .int (l1 + (1 : Int32))]) dX9_init_97 rfl ic_1 rfl rfl ?_
    refine Sm.nm (LV := fun v60 => [.ref l0, .int v60]) (ST := fun v60 => []) (fun v60 => ?_)
    refine Sm.goto (t := 79) dX9_init_100 (by decide) ?_
    exact Sm.wk (hk79 (v60, (sP h57 v53 l1.toNatClampNeg (some (gN h + 1))))) ⟨Or.inr rfl, Or.inr rfl, trivial⟩
def f_X9_init (l0 : Nat) (h : Hp) : Option (Unit × Hp) :=
  (nm (nwc h 20 150 150) fun h1 =>
(ck h1 l0 9
(nm (sI (sP h1 l0 0 (some (gN h + 1))) l0 1 (0 : Int32)) fun h5 =>
(nm (nwc h5 23 4 4) fun h8 =>
(ck h8 l0 9
(nm (sP h8 l0 2 (some (gN h5 + 1))) fun h12 =>
(nm (nwc h12 2 0 3) fun h15 =>
(bd (f_X2_init (gN h12 + 1) h15) fun _ h18 =>
(ck h18 l0 9
(nm (sP h18 l0 3 (some (gN h12 + 1))) fun h20 =>
(nm (nwc h20 20 5 5) fun h23 =>
(ck h23 l0 9
(nm (sP h23 l0 4 (some (gN h20 + 1))) fun h27 =>
(nm (nwc h27 3 0 10) fun h30 =>
(bd (f_X3_init (gN h27 + 1) h30) fun _ h33 =>
(ck h33 l0 9
(nm (sP h33 l0 5 (some (gN h27 + 1))) fun h35 =>
(nm (nwc h35 1 0 1) fun h38 =>
(bd (f_X1_init (gN h35 + 1) h38) fun _ h41 =>
(ck h41 l0 9
(nm (sP h41 l0 6 (some (gN h35 + 1))) fun h43 =>
(nm (nwc h43 4 0 4) fun h46 =>
(bd (f_X4_init (gN h43 + 1) h46) fun _ h49 =>
(ck h49 l0 9
(loopN (fun k s => f_X9_init_79 k l0 s.1 s.2) 5000 ((0 : Int32), (sP h49 l0 7 (some (gN h43 + 1)))))))))))))))))))))))))))))
set_option maxRecDepth 20000 in
theorem t_X9_init (l0 : Nat) (h : Hp) : Sm rvV g_X9_init 0 (ent 2 [.ref l0]) [] h (f_X9_init l0 h) := by
  show Sm rvV g_X9_init 0 [.ref l0, .null] [] h _
  unfold f_X9_init
  refine Sm.aload_n dX9_init_0 rfl rfl rfl ?_
  refine Sm.objInit dX9_init_1 rfl mw_19 mw_20 mw_21 (Nat.le_of_ble_eq_true rfl) (Nat.le_of_ble_eq_true rfl) rfl ?_
  refine Sm.aload_n dX9_init_4 rfl rfl rfl ?_
  refine Sm.sipush dX9_init_5 sp_150 rfl ?_
  refine Sm.newI (by decide) (by decide) dX9_init_8 mw_50 rfl ?_
  refine Sm.nmH (fun h1 e2 e3 => ?_)
  refine Sm.ck (fun o4 => ?_)
  refine pf_X9_9 o4 dX9_init_10 rfl rfl rfl ?_
  refine Sm.aload_n dX9_init_13 rfl rfl rfl ?_
  refine Sm.iconst dX9_init_14 ic_0 rfl ?_
  refine pf_X9_13 o4 dX9_init_15 rfl rfl ?_
  refine Sm.aload_n dX9_init_18 rfl rfl rfl ?_
  refine Sm.iconst dX9_init_19 ic_4 rfl ?_
  refine Sm.nmH (fun h5 e6 e7 => ?_)
  refine Sm.newQ (kd := 23) (C := RX7) (by first | exact Or.inl ⟨rfl, rfl⟩ | exact Or.inr ⟨rfl, rfl⟩) (by decide) (by decide) dX9_init_20 mw_22 rfl rfl ?_
  refine Sm.nmH (fun h8 e9 e10 => ?_)
  refine Sm.ck (fun o11 => ?_)
  refine pf_X9_19 o11 dX9_init_23 rfl rfl rfl ?_
  refine Sm.aload_n dX9_init_26 rfl rfl rfl ?_
  refine Sm.nmH (fun h12 e13 e14 => ?_)
  refine Sm.new (ci := 2) (r := (RX2, TX2, 3)) dX9_init_27 mw_24 mw_25 mw_2 rfl (by decide) rfl rfl ?_
  refine Sm.nmH (fun h15 e16 e17 => ?_)
  refine Sm.dup dX9_init_30 rfl rfl ?_
  refine kc_X9_25 dX9_init_31 rfl (Nat.le_of_ble_eq_true rfl) (Nat.le_of_ble_eq_true rfl) rfl (fun _ h18 => ?_)
  refine Sm.ck (fun o19 => ?_)
  refine pf_X9_26 o19 dX9_init_34 rfl rfl rfl ?_
  refine Sm.aload_n dX9_init_37 rfl rfl rfl ?_
  refine Sm.iconst dX9_init_38 ic_5 rfl ?_
  refine Sm.nmH (fun h20 e21 e22 => ?_)
  refine Sm.newI (by decide) (by decide) dX9_init_39 mw_50 rfl ?_
  refine Sm.nmH (fun h23 e24 e25 => ?_)
  refine Sm.ck (fun o26 => ?_)
  refine pf_X9_30 o26 dX9_init_41 rfl rfl rfl ?_
  refine Sm.aload_n dX9_init_44 rfl rfl rfl ?_
  refine Sm.nmH (fun h27 e28 e29 => ?_)
  refine Sm.new (ci := 3) (r := (RX3, TX3, 10)) dX9_init_45 mw_61 mw_62 mw_4 rfl (by decide) rfl rfl ?_
  refine Sm.nmH (fun h30 e31 e32 => ?_)
  refine Sm.dup dX9_init_48 rfl rfl ?_
  refine kc_X9_35 dX9_init_49 rfl (Nat.le_of_ble_eq_true rfl) (Nat.le_of_ble_eq_true rfl) rfl (fun _ h33 => ?_)
  refine Sm.ck (fun o34 => ?_)
  refine pf_X9_36 o34 dX9_init_52 rfl rfl rfl ?_
  refine Sm.aload_n dX9_init_55 rfl rfl rfl ?_
  refine Sm.nmH (fun h35 e36 e37 => ?_)
  refine Sm.new (ci := 1) (r := (RX1, TX1, 1)) dX9_init_56 mw_101 mw_102 mw_5 rfl (by decide) rfl rfl ?_
  refine Sm.nmH (fun h38 e39 e40 => ?_)
  refine Sm.dup dX9_init_59 rfl rfl ?_
  refine kc_X9_42 dX9_init_60 rfl (Nat.le_of_ble_eq_true rfl) (Nat.le_of_ble_eq_true rfl) rfl (fun _ h41 => ?_)
  refine Sm.ck (fun o42 => ?_)
  refine pf_X9_43 o42 dX9_init_63 rfl rfl rfl ?_
  refine Sm.aload_n dX9_init_66 rfl rfl rfl ?_
  refine Sm.nmH (fun h43 e44 e45 => ?_)
  refine Sm.new (ci := 4) (r := (RX4, TX4, 4)) dX9_init_67 mw_112 mw_32 mw_3 rfl (by decide) rfl rfl ?_
  refine Sm.nmH (fun h46 e47 e48 => ?_)
  refine Sm.dup dX9_init_70 rfl rfl ?_
  refine kc_X9_49 dX9_init_71 rfl (Nat.le_of_ble_eq_true rfl) (Nat.le_of_ble_eq_true rfl) rfl (fun _ h49 => ?_)
  refine Sm.ck (fun o50 => ?_)
  refine pf_X9_50 o50 dX9_init_74 rfl rfl rfl ?_
  refine Sm.iconst dX9_init_77 ic_0 rfl ?_
  refine Sm.istore_n (lv' := [.ref l0, .int (0 : Int32)]) dX9_init_78 rfl (Nat.le_of_ble_eq_true rfl) rfl rfl ?_
  exact Sm.wk (Sm.loop (σ := Int32 × Hp) (LV := fun s => [.ref l0, .int s.1]) (HH := fun s => s.2) (fun k hk s => t_X9_init_79 l0 s.1 s.2 k hk) 5000 ((0 : Int32), (sP h49 l0 7 (some (gN h43 + 1))))) ⟨Or.inr rfl, Or.inr rfl, trivial⟩
set_option maxRecDepth 20000 in
theorem kc_L_9 {ρ : Type} {rv : ρ → Option Value} {G : Gx} {pc q : Nat} {lv st : List Value} {h : Hp} {a : Nat} {e : Unit → Hp → Option (ρ × Hp)} (d : decode G.2.1 pc = .ok (.invokespecial 9, 3)) (ho : G.1.cls = RL) (hdep : (g_X9_init).2.2.2.2 < G.2.2.2.2) (hcat : catS st ≤ 8) (hq : pc + 3 = q) (k : ∀ r h1, Sm rv G q lv (st) h1 (e r h1)) : Sm rv G pc lv (.ref a :: st) h (bd (f_X9_init a h) e) :=
  Sm.callI (rv' := rvV) (args := []) (n := 0) (t_X9_init a h) ho rfl rfl mw_16 mw_17 mw_1 mw_18 ⟨⟨by decide, rfl, hdep, Nat.le_of_ble_eq_true rfl⟩, Nat.le_of_ble_eq_true rfl, rfl, ⟨by decide, by decide⟩, hcat⟩ (by decide +kernel) (fun v hv => by cases hv) d hq k rfl
abbrev g_X9_fail : Gx := (yX9_fail, cX9_fail, 3, (Option.some FieldType.int), 0)
def f_X9_fail (l0 : Nat) (l1 : Int32) (h : Hp) : Option (Int32 × Hp) :=
  (nm ((-2 : Int32) - l1) fun v1 =>
(if v1 < 0 then
(some (l1, h))
else
(if (5 : Int32) ≤ v1 then
(some (l1, h))
else
(ck h l0 9
((gP h l0 4).bind fun v5 =>
(ca h v5 20 v1
(ca h v5 20 v1
(some (l1, (sI h v5 v1.toNatClampNeg ((gI h v5 v1.toNatClampNeg) + (1 : Int32))))))))))))
set_option maxRecDepth 20000 in
theorem t_X9_fail (l0 : Nat) (l1 : Int32) (h : Hp) : Sm rvI g_X9_fail 0 (ent 3 [.ref l0, .int l1]) [] h (f_X9_fail l0 l1 h) := by
  show Sm rvI g_X9_fail 0 [.ref l0, .int l1, .null] [] h _
  unfold f_X9_fail
  refine Sm.bipush dX9_fail_0 bp_m2 rfl ?_
  refine Sm.iload_n dX9_fail_2 rfl rfl rfl ?_
  refine Sm.isub dX9_fail_3 rfl ?_
  refine Sm.nm (LV := fun v1 => [.ref l0, .int l1, .null]) (ST := fun v1 => [.int v1]) (fun v1 => ?_)
  refine Sm.istore_n (lv' := [.ref l0, .int l1, .int v1]) dX9_fail_4 rfl (Nat.le_of_ble_eq_true rfl) rfl rfl ?_
  refine Sm.iload_n dX9_fail_5 rfl rfl rfl ?_
  refine Sm.if_lt (t := 24) dX9_fail_6 (by decide) rfl (fun b2 => ?_) (fun b2 => ?_)
  · refine Sm.iload_n dX9_fail_24 rfl rfl rfl ?_
    exact Sm.ret dX9_fail_25 trivial rfl
  · refine Sm.iload_n dX9_fail_9 rfl rfl rfl ?_
    refine Sm.iconst dX9_fail_10 ic_5 rfl ?_
    refine Sm.icmp_ge (t := 24) dX9_fail_11 (by decide) rfl (fun b3 => ?_) (fun b3 => ?_)
    · refine Sm.iload_n dX9_fail_24 rfl rfl rfl ?_
      exact Sm.ret dX9_fail_25 trivial rfl
    · refine Sm.aload_n dX9_fail_14 rfl rfl rfl ?_
      refine Sm.ck (fun o4 => ?_)
      refine gf_X9_30 o4 dX9_fail_15 rfl rfl (fun v5 => ?_)
      refine Sm.iload_n dX9_fail_18 rfl rfl rfl ?_
      refine Sm.dup2 dX9_fail_19 rfl rfl rfl ?_
      refine Sm.ca (fun q6 => ?_)
      refine Sm.iald q6 dX9_fail_20 rfl ?_
      refine Sm.iconst dX9_fail_21 ic_1 rfl ?_
      refine Sm.iadd dX9_fail_22 rfl ?_
      refine Sm.ca (fun q7 => ?_)
      refine Sm.iast q7 dX9_fail_23 rfl ?_
      refine Sm.iload_n dX9_fail_24 rfl rfl rfl ?_
      exact Sm.ret dX9_fail_25 trivial rfl
set_option maxRecDepth 20000 in
theorem kc_X9_55 {ρ : Type} {rv : ρ → Option Value} {G : Gx} {pc q : Nat} {lv st : List Value} {h : Hp} {a : Nat} {x1 : Int32} {e : Int32 → Hp → Option (ρ × Hp)} (hk : isO h a 9) (d : decode G.2.1 pc = .ok (.invokevirtual 55, 3)) (ho : G.1.cls = RX9) (hdep : (g_X9_fail).2.2.2.2 < G.2.2.2.2) (hcat : catS st ≤ 8) (hq : pc + 3 = q) (k : ∀ r h1, Sm rv G q lv (.int r :: st) h1 (e r h1)) : Sm rv G pc lv (.int x1 :: .ref a :: st) h (bd (f_X9_fail a x1 h) e) :=
  Sm.callV (rv' := rvI) (args := [.int x1]) (n := 1) (t_X9_fail a x1 h) hk (by decide) (r := (RX9, TX9, 8)) rfl rfl ho mw_265 mw_267 mp_0 mw_1 mw_268 ⟨⟨by decide, rfl, hdep, Nat.le_of_ble_eq_true rfl⟩, Nat.le_of_ble_eq_true rfl, rfl, ⟨by decide, by decide⟩, hcat⟩ (by decide +kernel) (by intro v hv; simp only [List.mem_cons, List.not_mem_nil, or_false] at hv; rcases hv with rfl <;> intro x hx <;> cases hx) d hq k rfl
abbrev g_X9_append : Gx := (yX9_append, cX9_append, 2, (Option.some FieldType.int), 1)
def f_X9_append_10 (l0 : Nat) (h : Hp) : Option (Int32 × Hp) :=
  (ck h l0 9
(bd (f_X9_fail l0 (-2 : Int32) h) fun v3 h4 =>
(some (v3, h4))))
set_option maxRecDepth 20000 in
theorem t_X9_append_10 (l0 : Nat) (h : Hp) : Sm rvI g_X9_append 10 [.ref l0, .null] [] h (f_X9_append_10 l0 h) := by
  unfold f_X9_append_10
  refine Sm.aload_n dX9_append_10 rfl rfl rfl ?_
  refine Sm.bipush dX9_append_11 bp_m2 rfl ?_
  refine Sm.ck (fun o2 => ?_)
  refine kc_X9_55 o2 dX9_append_13 rfl (Nat.le_of_ble_eq_true rfl) (Nat.le_of_ble_eq_true rfl) rfl (fun v3 h4 => ?_)
  exact Sm.ret dX9_append_16 trivial rfl
def f_X9_append (l0 : Nat) (l1 : Int32) (h : Hp) : Option (Int32 × Hp) :=
  (if l1 < 0 then
(f_X9_append_10 l0 h)
else
(if l1 ≤ (127 : Int32) then
(ck h l0 9
(if (gI h l0 1) < (150 : Int32) then
((gP h l0 0).bind fun v8 =>
(ca h v8 20 (gI h l0 1)
(nm (sI (sI h v8 (gI h l0 1).toNatClampNeg l1) l0 1 ((gI (sI h v8 (gI h l0 1).toNatClampNeg l1) l0 1) + (1 : Int32))) fun h10 =>
(some ((gI h10 l0 1), h10)))))
else
(bd (f_X9_fail l0 (-5 : Int32) h) fun v13 h14 =>
(some (v13, h14)))))
else
(f_X9_append_10 l0 h)))
set_option maxRecDepth 20000 in
theorem t_X9_append (l0 : Nat) (l1 : Int32) (h : Hp) : Sm rvI g_X9_append 0 (ent 2 [.ref l0, .int l1]) [] h (f_X9_append l0 l1 h) := by
  show Sm rvI g_X9_append 0 [.ref l0, .int l1] [] h _
  unfold f_X9_append
  refine Sm.iload_n dX9_append_0 rfl rfl rfl ?_
  refine Sm.if_lt (t := 10) dX9_append_1 (by decide) rfl (fun b1 => ?_) (fun b1 => ?_)
  · exact Sm.wk (t_X9_append_10 l0 h) ⟨Or.inr rfl, Or.inl rfl, trivial⟩
  · refine Sm.iload_n dX9_append_4 rfl rfl rfl ?_
    refine Sm.bipush dX9_append_5 bp_127 rfl ?_
    refine Sm.icmp_le (t := 17) dX9_append_7 (by decide) rfl (fun b5 => ?_) (fun b5 => ?_)
    · refine Sm.aload_n dX9_append_17 rfl rfl rfl ?_
      refine Sm.ck (fun o6 => ?_)
      refine gf_X9_13 o6 dX9_append_18 rfl rfl ?_
      refine Sm.sipush dX9_append_21 sp_150 rfl ?_
      refine Sm.icmp_lt (t := 34) dX9_append_24 (by decide) rfl (fun b7 => ?_) (fun b7 => ?_)
      · refine Sm.aload_n dX9_append_34 rfl rfl rfl ?_
        refine gf_X9_9 o6 dX9_append_35 rfl rfl (fun v8 => ?_)
        refine Sm.aload_n dX9_append_38 rfl rfl rfl ?_
        refine gf_X9_13 o6 dX9_append_39 rfl rfl ?_
        refine Sm.iload_n dX9_append_42 rfl rfl rfl ?_
        refine Sm.ca (fun q9 => ?_)
        refine Sm.iast q9 dX9_append_43 rfl ?_
        refine Sm.aload_n dX9_append_44 rfl rfl rfl ?_
        refine Sm.dup dX9_append_45 rfl rfl ?_
        refine gf_X9_13 o6 dX9_append_46 rfl rfl ?_
        refine Sm.iconst dX9_append_49 ic_1 rfl ?_
        refine Sm.iadd dX9_append_50 rfl ?_
        refine pf_X9_13 o6 dX9_append_51 rfl rfl ?_
        refine Sm.nmH (fun h10 e11 e12 => ?_)
        refine Sm.aload_n dX9_append_54 rfl rfl rfl ?_
        refine gf_X9_13 (isO.tr e11 e12 o6) dX9_append_55 rfl rfl ?_
        exact Sm.ret dX9_append_58 trivial rfl
      · refine Sm.aload_n dX9_append_27 rfl rfl rfl ?_
        refine Sm.bipush dX9_append_28 bp_m5 rfl ?_
        refine kc_X9_55 o6 dX9_append_30 rfl (Nat.le_of_ble_eq_true rfl) (Nat.le_of_ble_eq_true rfl) rfl (fun v13 h14 => ?_)
        exact Sm.ret dX9_append_33 trivial rfl
    · exact Sm.wk (t_X9_append_10 l0 h) ⟨Or.inr rfl, Or.inl rfl, trivial⟩
set_option maxRecDepth 20000 in
theorem kc_L_13 {ρ : Type} {rv : ρ → Option Value} {G : Gx} {pc q : Nat} {lv st : List Value} {h : Hp} {a : Nat} {x1 : Int32} {e : Int32 → Hp → Option (ρ × Hp)} (hk : isO h a 9) (d : decode G.2.1 pc = .ok (.invokevirtual 13, 3)) (ho : G.1.cls = RL) (hdep : (g_X9_append).2.2.2.2 < G.2.2.2.2) (hcat : catS st ≤ 8) (hq : pc + 3 = q) (k : ∀ r h1, Sm rv G q lv (.int r :: st) h1 (e r h1)) : Sm rv G pc lv (.int x1 :: .ref a :: st) h (bd (f_X9_append a x1 h) e) :=
  Sm.callV (rv' := rvI) (args := [.int x1]) (n := 1) (t_X9_append a x1 h) hk (by decide) (r := (RX9, TX9, 8)) rfl rfl ho mw_261 mw_262 mw_263 mw_1 mw_264 ⟨⟨by decide, rfl, hdep, Nat.le_of_ble_eq_true rfl⟩, Nat.le_of_ble_eq_true rfl, rfl, ⟨by decide, by decide⟩, hcat⟩ (by decide +kernel) (by intro v hv; simp only [List.mem_cons, List.not_mem_nil, or_false] at hv; rcases hv with rfl <;> intro x hx <;> cases hx) d hq k rfl
abbrev g_X9_clearText : Gx := (yX9_clearText, cX9_clearText, 2, (Option.some FieldType.int), 0)
def f_X9_clearText (l0 : Nat) (h : Hp) : Option (Int32 × Hp) :=
  (ck h l0 9
(nm (gI h l0 1) fun v2 =>
(some (v2, (sI h l0 1 (0 : Int32))))))
set_option maxRecDepth 20000 in
theorem t_X9_clearText (l0 : Nat) (h : Hp) : Sm rvI g_X9_clearText 0 (ent 2 [.ref l0]) [] h (f_X9_clearText l0 h) := by
  show Sm rvI g_X9_clearText 0 [.ref l0, .null] [] h _
  unfold f_X9_clearText
  refine Sm.aload_n dX9_clearText_0 rfl rfl rfl ?_
  refine Sm.ck (fun o1 => ?_)
  refine gf_X9_13 o1 dX9_clearText_1 rfl rfl ?_
  refine Sm.nm (LV := fun v2 => [.ref l0, .null]) (ST := fun v2 => [.int v2]) (fun v2 => ?_)
  refine Sm.istore_n (lv' := [.ref l0, .int v2]) dX9_clearText_4 rfl (Nat.le_of_ble_eq_true rfl) rfl rfl ?_
  refine Sm.aload_n dX9_clearText_5 rfl rfl rfl ?_
  refine Sm.iconst dX9_clearText_6 ic_0 rfl ?_
  refine pf_X9_13 o1 dX9_clearText_7 rfl rfl ?_
  refine Sm.iload_n dX9_clearText_10 rfl rfl rfl ?_
  exact Sm.ret dX9_clearText_11 trivial rfl
set_option maxRecDepth 20000 in
theorem kc_L_18 {ρ : Type} {rv : ρ → Option Value} {G : Gx} {pc q : Nat} {lv st : List Value} {h : Hp} {a : Nat} {e : Int32 → Hp → Option (ρ × Hp)} (hk : isO h a 9) (d : decode G.2.1 pc = .ok (.invokevirtual 18, 3)) (ho : G.1.cls = RL) (hdep : (g_X9_clearText).2.2.2.2 < G.2.2.2.2) (hcat : catS st ≤ 8) (hq : pc + 3 = q) (k : ∀ r h1, Sm rv G q lv (.int r :: st) h1 (e r h1)) : Sm rv G pc lv (.ref a :: st) h (bd (f_X9_clearText a h) e) :=
  Sm.callV (rv' := rvI) (args := []) (n := 0) (t_X9_clearText a h) hk (by decide) (r := (RX9, TX9, 8)) rfl rfl ho mw_269 mw_270 mw_271 mw_1 mw_272 ⟨⟨by decide, rfl, hdep, Nat.le_of_ble_eq_true rfl⟩, Nat.le_of_ble_eq_true rfl, rfl, ⟨by decide, by decide⟩, hcat⟩ (by decide +kernel) (fun v hv => by cases hv) d hq k rfl
abbrev g_X9_isSlot : Gx := (yX9_isSlot, cX9_isSlot, 1, (Option.some FieldType.boolean), 0)
def f_X9_isSlot (l0 : Int32) (h : Hp) : Option (Int32 × Hp) :=
  (if l0 < 0 then
(some ((0 : Int32), h))
else
(if (4 : Int32) ≤ l0 then
(some ((0 : Int32), h))
else
(some ((1 : Int32), h))))
set_option maxRecDepth 20000 in
theorem t_X9_isSlot (l0 : Int32) (h : Hp) : Sm rvI g_X9_isSlot 0 (ent 1 [.int l0]) [] h (f_X9_isSlot l0 h) := by
  show Sm rvI g_X9_isSlot 0 [.int l0] [] h _
  unfold f_X9_isSlot
  refine Sm.iload_n dX9_isSlot_0 rfl rfl rfl ?_
  refine Sm.if_lt (t := 13) dX9_isSlot_1 (by decide) rfl (fun b1 => ?_) (fun b1 => ?_)
  · refine Sm.iconst dX9_isSlot_13 ic_0 rfl ?_
    exact Sm.ret dX9_isSlot_14 (Or.inl rfl) rfl
  · refine Sm.iload_n dX9_isSlot_4 rfl rfl rfl ?_
    refine Sm.iconst dX9_isSlot_5 ic_4 rfl ?_
    refine Sm.icmp_ge (t := 13) dX9_isSlot_6 (by decide) rfl (fun b2 => ?_) (fun b2 => ?_)
    · refine Sm.iconst dX9_isSlot_13 ic_0 rfl ?_
      exact Sm.ret dX9_isSlot_14 (Or.inl rfl) rfl
    · refine Sm.iconst dX9_isSlot_9 ic_1 rfl ?_
      refine Sm.goto (t := 14) dX9_isSlot_10 (by decide) ?_
      exact Sm.ret dX9_isSlot_14 (Or.inr rfl) rfl
set_option maxRecDepth 20000 in
theorem kc_X9_59 {ρ : Type} {rv : ρ → Option Value} {G : Gx} {pc q : Nat} {lv st : List Value} {h : Hp} {x0 : Int32} {e : Int32 → Hp → Option (ρ × Hp)} (d : decode G.2.1 pc = .ok (.invokestatic 59, 3)) (ho : G.1.cls = RX9) (hdep : (g_X9_isSlot).2.2.2.2 < G.2.2.2.2) (hcat : catS st ≤ 8) (hq : pc + 3 = q) (k : ∀ r h1, Sm rv G q lv (.int r :: st) h1 (e r h1)) : Sm rv G pc lv (.int x0 :: st) h (bd (f_X9_isSlot x0 h) e) :=
  Sm.callS (rv' := rvI) (as := [.int x0]) (n := 1) (t_X9_isSlot x0 h) ho mw_277 mw_278 mw_1 mw_279 ⟨⟨by decide, rfl, hdep, Nat.le_of_ble_eq_true rfl⟩, Nat.le_of_ble_eq_true rfl, rfl, ⟨by decide, by decide⟩, hcat⟩ (by decide +kernel) (by intro v hv; simp only [List.mem_cons, List.not_mem_nil, or_false] at hv; rcases hv with rfl <;> intro x hx <;> cases hx) d hq k rfl
abbrev g_X9_store : Gx := (yX9_store, cX9_store, 3, (Option.some FieldType.int), 2)
def f_X9_store (l0 : Nat) (l1 : Nat) (l2 : Int32) (h : Hp) : Option (Int32 × Hp) :=
  (ck h l1 4
(bd (f_X4_nodeCount l1 h) fun v2 h3 =>
(if v2 ≤ (60 : Int32) then
(ck h3 l0 9
((gP h3 l0 3).bind fun v6 =>
((gP h3 l0 2).bind fun v7 =>
(ca h3 v7 23 l2
((gP h3 v7 l2.toNatClampNeg).bind fun v9 =>
(ck h3 v9 7
(bd (f_X7_policy v9 h3) fun v11 h12 =>
(ck h12 v6 2
(bd (f_X2_save v6 l2 v11 h12) fun _ h14 =>
(ck h14 l0 9
((gP h14 l0 2).bind fun v16 =>
(ca h14 v16 23 l2
((gP h14 v16 l2.toNatClampNeg).bind fun v18 =>
(ck h14 v18 7
(bd (f_X7_hold v18 l1 h14) fun _ h20 =>
(ck h20 l1 4
(bd (f_X4_nodeCount l1 h20) fun v22 h23 =>
(some (v22, h23)))))))))))))))))))
else
(ck h3 l0 9
(bd (f_X9_fail l0 (-4 : Int32) h3) fun v25 h26 =>
(some (v25, h26)))))))
set_option maxRecDepth 20000 in
theorem t_X9_store (l0 : Nat) (l1 : Nat) (l2 : Int32) (h : Hp) : Sm rvI g_X9_store 0 (ent 3 [.ref l0, .ref l1, .int l2]) [] h (f_X9_store l0 l1 l2 h) := by
  show Sm rvI g_X9_store 0 [.ref l0, .ref l1, .int l2] [] h _
  unfold f_X9_store
  refine Sm.aload_n dX9_store_0 rfl rfl rfl ?_
  refine Sm.ck (fun o1 => ?_)
  refine kc_X9_100 o1 dX9_store_1 rfl (Nat.le_of_ble_eq_true rfl) (Nat.le_of_ble_eq_true rfl) rfl (fun v2 h3 => ?_)
  refine Sm.bipush dX9_store_4 bp_60 rfl ?_
  refine Sm.icmp_le (t := 16) dX9_store_6 (by decide) rfl (fun b4 => ?_) (fun b4 => ?_)
  · refine Sm.aload_n dX9_store_16 rfl rfl rfl ?_
    refine Sm.ck (fun o5 => ?_)
    refine gf_X9_26 o5 dX9_store_17 rfl rfl (fun v6 => ?_)
    refine Sm.iload_n dX9_store_20 rfl rfl rfl ?_
    refine Sm.aload_n dX9_store_21 rfl rfl rfl ?_
    refine gf_X9_19 o5 dX9_store_22 rfl rfl (fun v7 => ?_)
    refine Sm.iload_n dX9_store_25 rfl rfl rfl ?_
    refine Sm.ca (fun q8 => ?_)
    refine Sm.aald q8 (by decide) dX9_store_26 rfl (fun v9 => ?_)
    refine Sm.ck (fun o10 => ?_)
    refine kc_X9_78 o10 dX9_store_27 rfl (Nat.le_of_ble_eq_true rfl) (Nat.le_of_ble_eq_true rfl) rfl (fun v11 h12 => ?_)
    refine Sm.ck (fun o13 => ?_)
    refine kc_X9_239 o13 dX9_store_30 rfl (Nat.le_of_ble_eq_true rfl) (Nat.le_of_ble_eq_true rfl) rfl (fun _ h14 => ?_)
    refine Sm.aload_n dX9_store_33 rfl rfl rfl ?_
    refine Sm.ck (fun o15 => ?_)
    refine gf_X9_19 o15 dX9_store_34 rfl rfl (fun v16 => ?_)
    refine Sm.iload_n dX9_store_37 rfl rfl rfl ?_
    refine Sm.ca (fun q17 => ?_)
    refine Sm.aald q17 (by decide) dX9_store_38 rfl (fun v18 => ?_)
    refine Sm.aload_n dX9_store_39 rfl rfl rfl ?_
    refine Sm.ck (fun o19 => ?_)
    refine kc_X9_210 o19 dX9_store_40 rfl (Nat.le_of_ble_eq_true rfl) (Nat.le_of_ble_eq_true rfl) rfl (fun _ h20 => ?_)
    refine Sm.aload_n dX9_store_43 rfl rfl rfl ?_
    refine Sm.ck (fun o21 => ?_)
    refine kc_X9_100 o21 dX9_store_44 rfl (Nat.le_of_ble_eq_true rfl) (Nat.le_of_ble_eq_true rfl) rfl (fun v22 h23 => ?_)
    exact Sm.ret dX9_store_47 trivial rfl
  · refine Sm.aload_n dX9_store_9 rfl rfl rfl ?_
    refine Sm.bipush dX9_store_10 bp_m4 rfl ?_
    refine Sm.ck (fun o24 => ?_)
    refine kc_X9_55 o24 dX9_store_12 rfl (Nat.le_of_ble_eq_true rfl) (Nat.le_of_ble_eq_true rfl) rfl (fun v25 h26 => ?_)
    exact Sm.ret dX9_store_15 trivial rfl
set_option maxRecDepth 20000 in
theorem kc_X9_71 {ρ : Type} {rv : ρ → Option Value} {G : Gx} {pc q : Nat} {lv st : List Value} {h : Hp} {a : Nat} {x1 : Nat} {x2 : Int32} {e : Int32 → Hp → Option (ρ × Hp)} (hk : isO h a 9) (d : decode G.2.1 pc = .ok (.invokevirtual 71, 3)) (ho : G.1.cls = RX9) (hdep : (g_X9_store).2.2.2.2 < G.2.2.2.2) (hcat : catS st ≤ 8) (hq : pc + 3 = q) (k : ∀ r h1, Sm rv G q lv (.int r :: st) h1 (e r h1)) : Sm rv G pc lv (.int x2 :: .ref x1 :: .ref a :: st) h (bd (f_X9_store a x1 x2 h) e) :=
  Sm.callV (rv' := rvI) (args := [.ref x1, .int x2]) (n := 2) (t_X9_store a x1 x2 h) hk (by decide) (r := (RX9, TX9, 8)) rfl rfl ho mw_374 mw_376 mp_18 mw_1 mw_377 ⟨⟨by decide, rfl, hdep, Nat.le_of_ble_eq_true rfl⟩, Nat.le_of_ble_eq_true rfl, rfl, ⟨by decide, by decide⟩, hcat⟩ (by decide +kernel) (by intro v hv; simp only [List.mem_cons, List.not_mem_nil, or_false] at hv; rcases hv with rfl | rfl <;> intro x hx <;> cases hx) d hq k rfl
abbrev g_X9_parse : Gx := (yX9_parse, cX9_parse, 3, (Option.some FieldType.int), 6)
def f_X9_parse (l0 : Nat) (l1 : Int32) (h : Hp) : Option (Int32 × Hp) :=
  (bd (f_X9_isSlot l1 h) fun v1 h2 =>
(if v1 = 0 then
(ck h2 l0 9
(bd (f_X9_fail l0 (-2 : Int32) h2) fun v5 h6 =>
(some (v5, h6))))
else
(ck h2 l0 9
((gP h2 l0 5).bind fun v8 =>
((gP h2 l0 0).bind fun v9 =>
((gP h2 l0 2).bind fun v10 =>
(ck h2 v8 3
(bd (f_X3_read v8 v9 (gI h2 l0 1) v10 h2) fun v12 h13 =>
(if v12 = (-1 : Int32) then
(ck h13 l0 9
((gP h13 l0 5).bind fun v16 =>
(ck h13 v16 3
(bd (f_X3_result v16 h13) fun v18 h19 =>
(ck h19 l0 9
(bd (f_X9_store l0 v18 l1 h19) fun v21 h22 =>
(some (v21, h22))))))))
else
(some (((-10 : Int32) - v12), h13)))))))))))
set_option maxRecDepth 20000 in
theorem t_X9_parse (l0 : Nat) (l1 : Int32) (h : Hp) : Sm rvI g_X9_parse 0 (ent 3 [.ref l0, .int l1]) [] h (f_X9_parse l0 l1 h) := by
  show Sm rvI g_X9_parse 0 [.ref l0, .int l1, .null] [] h _
  unfold f_X9_parse
  refine Sm.iload_n dX9_parse_0 rfl rfl rfl ?_
  refine kc_X9_59 dX9_parse_1 rfl (Nat.le_of_ble_eq_true rfl) (Nat.le_of_ble_eq_true rfl) rfl (fun v1 h2 => ?_)
  refine Sm.if_ne (t := 14) dX9_parse_4 (by decide) rfl (fun b3 => ?_) (fun b3 => ?_)
  · refine Sm.aload_n dX9_parse_7 rfl rfl rfl ?_
    refine Sm.bipush dX9_parse_8 bp_m2 rfl ?_
    refine Sm.ck (fun o4 => ?_)
    refine kc_X9_55 o4 dX9_parse_10 rfl (Nat.le_of_ble_eq_true rfl) (Nat.le_of_ble_eq_true rfl) rfl (fun v5 h6 => ?_)
    exact Sm.ret dX9_parse_13 trivial rfl
  · refine Sm.aload_n dX9_parse_14 rfl rfl rfl ?_
    refine Sm.ck (fun o7 => ?_)
    refine gf_X9_36 o7 dX9_parse_15 rfl rfl (fun v8 => ?_)
    refine Sm.aload_n dX9_parse_18 rfl rfl rfl ?_
    refine gf_X9_9 o7 dX9_parse_19 rfl rfl (fun v9 => ?_)
    refine Sm.aload_n dX9_parse_22 rfl rfl rfl ?_
    refine gf_X9_13 o7 dX9_parse_23 rfl rfl ?_
    refine Sm.aload_n dX9_parse_26 rfl rfl rfl ?_
    refine gf_X9_19 o7 dX9_parse_27 rfl rfl (fun v10 => ?_)
    refine Sm.ck (fun o11 => ?_)
    refine kc_X9_63 o11 dX9_parse_30 rfl (Nat.le_of_ble_eq_true rfl) (Nat.le_of_ble_eq_true rfl) rfl (fun v12 h13 => ?_)
    refine Sm.istore_n (lv' := [.ref l0, .int l1, .int v12]) dX9_parse_33 rfl (Nat.le_of_ble_eq_true rfl) rfl rfl ?_
    refine Sm.iload_n dX9_parse_34 rfl rfl rfl ?_
    refine Sm.iconst dX9_parse_35 ic_m1 rfl ?_
    refine Sm.icmp_eq (t := 44) dX9_parse_36 (by decide) rfl (fun b14 => ?_) (fun b14 => ?_)
    · refine Sm.aload_n dX9_parse_44 rfl rfl rfl ?_
      refine Sm.aload_n dX9_parse_45 rfl rfl rfl ?_
      refine Sm.ck (fun o15 => ?_)
      refine gf_X9_36 o15 dX9_parse_46 rfl rfl (fun v16 => ?_)
      refine Sm.ck (fun o17 => ?_)
      refine kc_X9_67 o17 dX9_parse_49 rfl (Nat.le_of_ble_eq_true rfl) (Nat.le_of_ble_eq_true rfl) rfl (fun v18 h19 => ?_)
      refine Sm.iload_n dX9_parse_52 rfl rfl rfl ?_
      refine Sm.ck (fun o20 => ?_)
      refine kc_X9_71 o20 dX9_parse_53 rfl (Nat.le_of_ble_eq_true rfl) (Nat.le_of_ble_eq_true rfl) rfl (fun v21 h22 => ?_)
      exact Sm.ret dX9_parse_56 trivial rfl
    · refine Sm.bipush dX9_parse_39 bp_m10 rfl ?_
      refine Sm.iload_n dX9_parse_41 rfl rfl rfl ?_
      refine Sm.isub dX9_parse_42 rfl ?_
      exact Sm.ret dX9_parse_43 trivial rfl
set_option maxRecDepth 20000 in
theorem kc_L_23 {ρ : Type} {rv : ρ → Option Value} {G : Gx} {pc q : Nat} {lv st : List Value} {h : Hp} {a : Nat} {x1 : Int32} {e : Int32 → Hp → Option (ρ × Hp)} (hk : isO h a 9) (d : decode G.2.1 pc = .ok (.invokevirtual 23, 3)) (ho : G.1.cls = RL) (hdep : (g_X9_parse).2.2.2.2 < G.2.2.2.2) (hcat : catS st ≤ 8) (hq : pc + 3 = q) (k : ∀ r h1, Sm rv G q lv (.int r :: st) h1 (e r h1)) : Sm rv G pc lv (.int x1 :: .ref a :: st) h (bd (f_X9_parse a x1 h) e) :=
  Sm.callV (rv' := rvI) (args := [.int x1]) (n := 1) (t_X9_parse a x1 h) hk (by decide) (r := (RX9, TX9, 8)) rfl rfl ho mw_273 mw_274 mw_275 mw_1 mw_276 ⟨⟨by decide, rfl, hdep, Nat.le_of_ble_eq_true rfl⟩, Nat.le_of_ble_eq_true rfl, rfl, ⟨by decide, by decide⟩, hcat⟩ (by decide +kernel) (by intro v hv; simp only [List.mem_cons, List.not_mem_nil, or_false] at hv; rcases hv with rfl <;> intro x hx <;> cases hx) d hq k rfl
abbrev g_X9_isBit : Gx := (yX9_isBit, cX9_isBit, 1, (Option.some FieldType.boolean), 0)
def f_X9_isBit (l0 : Int32) (h : Hp) : Option (Int32 × Hp) :=
  (if l0 = 0 then
(some ((1 : Int32), h))
else
(if l0 = (1 : Int32) then
(some ((1 : Int32), h))
else
(some ((0 : Int32), h))))
set_option maxRecDepth 20000 in
theorem t_X9_isBit (l0 : Int32) (h : Hp) : Sm rvI g_X9_isBit 0 (ent 1 [.int l0]) [] h (f_X9_isBit l0 h) := by
  show Sm rvI g_X9_isBit 0 [.int l0] [] h _
  unfold f_X9_isBit
  refine Sm.iload_n dX9_isBit_0 rfl rfl rfl ?_
  refine Sm.if_eq (t := 9) dX9_isBit_1 (by decide) rfl (fun b1 => ?_) (fun b1 => ?_)
  · refine Sm.iconst dX9_isBit_9 ic_1 rfl ?_
    refine Sm.goto (t := 14) dX9_isBit_10 (by decide) ?_
    exact Sm.ret dX9_isBit_14 (Or.inr rfl) rfl
  · refine Sm.iload_n dX9_isBit_4 rfl rfl rfl ?_
    refine Sm.iconst dX9_isBit_5 ic_1 rfl ?_
    refine Sm.icmp_ne (t := 13) dX9_isBit_6 (by decide) rfl (fun b2 => ?_) (fun b2 => ?_)
    · refine Sm.iconst dX9_isBit_9 ic_1 rfl ?_
      refine Sm.goto (t := 14) dX9_isBit_10 (by decide) ?_
      exact Sm.ret dX9_isBit_14 (Or.inr rfl) rfl
    · refine Sm.iconst dX9_isBit_13 ic_0 rfl ?_
      exact Sm.ret dX9_isBit_14 (Or.inl rfl) rfl
set_option maxRecDepth 20000 in
theorem kc_X9_75 {ρ : Type} {rv : ρ → Option Value} {G : Gx} {pc q : Nat} {lv st : List Value} {h : Hp} {x0 : Int32} {e : Int32 → Hp → Option (ρ × Hp)} (d : decode G.2.1 pc = .ok (.invokestatic 75, 3)) (ho : G.1.cls = RX9) (hdep : (g_X9_isBit).2.2.2.2 < G.2.2.2.2) (hcat : catS st ≤ 8) (hq : pc + 3 = q) (k : ∀ r h1, Sm rv G q lv (.int r :: st) h1 (e r h1)) : Sm rv G pc lv (.int x0 :: st) h (bd (f_X9_isBit x0 h) e) :=
  Sm.callS (rv' := rvI) (as := [.int x0]) (n := 1) (t_X9_isBit x0 h) ho mw_406 mw_407 mw_1 mw_408 ⟨⟨by decide, rfl, hdep, Nat.le_of_ble_eq_true rfl⟩, Nat.le_of_ble_eq_true rfl, rfl, ⟨by decide, by decide⟩, hcat⟩ (by decide +kernel) (by intro v hv; simp only [List.mem_cons, List.not_mem_nil, or_false] at hv; rcases hv with rfl <;> intro x hx <;> cases hx) d hq k rfl
abbrev g_X9_combine : Gx := (yX9_combine, cX9_combine, 7, (Option.some FieldType.int), 3)
def f_X9_combine_29 (l0 : Nat) (h : Hp) : Option (Int32 × Hp) :=
  (ck h l0 9
(bd (f_X9_fail l0 (-2 : Int32) h) fun v5 h6 =>
(some (v5, h6))))
set_option maxRecDepth 20000 in
theorem t_X9_combine_29 (l0 : Nat) (h : Hp) : Sm rvI g_X9_combine 29 [.ref l0, .null, .null, .null, .null, .null, .null] [] h (f_X9_combine_29 l0 h) := by
  unfold f_X9_combine_29
  refine Sm.aload_n dX9_combine_29 rfl rfl rfl ?_
  refine Sm.bipush dX9_combine_30 bp_m2 rfl ?_
  refine Sm.ck (fun o4 => ?_)
  refine kc_X9_55 o4 dX9_combine_32 rfl (Nat.le_of_ble_eq_true rfl) (Nat.le_of_ble_eq_true rfl) rfl (fun v5 h6 => ?_)
  exact Sm.ret dX9_combine_35 trivial rfl
def f_X9_combine_126 (l0 : Nat) (l4 : Int32) (s0 : Nat) (s1 : Int32) (h : Hp) : Option (Int32 × Hp) :=
  (ck h s0 4
(bd (f_X4_markPredicate s0 s1 h) fun _ h54 =>
(ck h54 l0 9
((gP h54 l0 7).bind fun v56 =>
(bd (f_X9_store l0 v56 l4 h54) fun v57 h58 =>
(some (v57, h58)))))))
set_option maxRecDepth 20000 in
theorem t_X9_combine_126 (l0 : Nat) (l4 : Int32) (s0 : Nat) (s1 : Int32) (h : Hp) : Sm rvI g_X9_combine 126 [.ref l0, .null, .null, .null, .int l4, .null, .null] [.int s1, .ref s0] h (f_X9_combine_126 l0 l4 s0 s1 h) := by
  unfold f_X9_combine_126
  refine Sm.ck (fun o53 => ?_)
  refine kc_X9_96 o53 dX9_combine_126 rfl (Nat.le_of_ble_eq_true rfl) (Nat.le_of_ble_eq_true rfl) rfl (fun _ h54 => ?_)
  refine Sm.aload_n dX9_combine_129 rfl rfl rfl ?_
  refine Sm.aload_n dX9_combine_130 rfl rfl rfl ?_
  refine Sm.ck (fun o55 => ?_)
  refine gf_X9_50 o55 dX9_combine_131 rfl rfl (fun v56 => ?_)
  refine Sm.iload dX9_combine_134 rfl rfl ?_
  refine kc_X9_71 o55 dX9_combine_136 rfl (Nat.le_of_ble_eq_true rfl) (Nat.le_of_ble_eq_true rfl) rfl (fun v57 h58 => ?_)
  exact Sm.ret dX9_combine_139 trivial rfl
def f_X9_combine_125 (l0 : Nat) (l4 : Int32) (s0 : Nat) (h : Hp) : Option (Int32 × Hp) :=
  (f_X9_combine_126 l0 l4 s0 (0 : Int32) h)
set_option maxRecDepth 20000 in
theorem t_X9_combine_125 (l0 : Nat) (l4 : Int32) (s0 : Nat) (h : Hp) : Sm rvI g_X9_combine 125 [.ref l0, .null, .null, .null, .int l4, .null, .null] [.ref s0] h (f_X9_combine_125 l0 l4 s0 h) := by
  unfold f_X9_combine_125
  refine Sm.iconst dX9_combine_125 ic_0 rfl ?_
  exact Sm.wk (t_X9_combine_126 l0 l4 s0 (0 : Int32) h) ⟨Or.inr rfl, Or.inl rfl, Or.inl rfl, Or.inl rfl, Or.inr rfl, Or.inl rfl, Or.inl rfl, trivial⟩
def f_X9_combine_96 (l0 : Nat) (l4 : Int32) (l5 : Nat) (l6 : Nat) (s0 : Nat) (s1 : Int32) (h : Hp) : Option (Int32 × Hp) :=
  (ck h s0 4
(bd (f_X4_add s0 s1 (0 : Int32) (0 : Int32) h) fun _ h46 =>
(ck h46 l0 9
((gP h46 l0 7).bind fun v48 =>
(ck h46 l5 4
(bd (f_X4_givesPredicate l5 h46) fun v50 h51 =>
(if v50 = 0 then
(f_X9_combine_125 l0 l4 v48 h51)
else
(ck h51 l6 4
(bd (f_X4_givesPredicate l6 h51) fun v60 h61 =>
(if v60 = 0 then
(f_X9_combine_125 l0 l4 v48 h61)
else
(f_X9_combine_126 l0 l4 v48 (1 : Int32) h61)))))))))))
set_option maxRecDepth 20000 in
theorem t_X9_combine_96 (l0 : Nat) (l4 : Int32) (l5 : Nat) (l6 : Nat) (s0 : Nat) (s1 : Int32) (h : Hp) : Sm rvI g_X9_combine 96 [.ref l0, .null, .null, .null, .int l4, .ref l5, .ref l6] [.int s1, .ref s0] h (f_X9_combine_96 l0 l4 l5 l6 s0 s1 h) := by
  unfold f_X9_combine_96
  refine Sm.iconst dX9_combine_96 ic_0 rfl ?_
  refine Sm.iconst dX9_combine_97 ic_0 rfl ?_
  refine Sm.ck (fun o45 => ?_)
  refine kc_X9_88 o45 dX9_combine_98 rfl (Nat.le_of_ble_eq_true rfl) (Nat.le_of_ble_eq_true rfl) rfl (fun _ h46 => ?_)
  refine Sm.aload_n dX9_combine_101 rfl rfl rfl ?_
  refine Sm.ck (fun o47 => ?_)
  refine gf_X9_50 o47 dX9_combine_102 rfl rfl (fun v48 => ?_)
  refine Sm.aload dX9_combine_105 rfl rfl ?_
  refine Sm.ck (fun o49 => ?_)
  refine kc_X9_92 o49 dX9_combine_107 rfl (Nat.le_of_ble_eq_true rfl) (Nat.le_of_ble_eq_true rfl) rfl (fun v50 h51 => ?_)
  refine Sm.if_eq (t := 125) dX9_combine_110 (by decide) rfl (fun b52 => ?_) (fun b52 => ?_)
  · exact Sm.wk (t_X9_combine_125 l0 l4 v48 h51) ⟨Or.inr rfl, Or.inl rfl, Or.inl rfl, Or.inl rfl, Or.inr rfl, Or.inl rfl, Or.inl rfl, trivial⟩
  · refine Sm.aload dX9_combine_113 rfl rfl ?_
    refine Sm.ck (fun o59 => ?_)
    refine kc_X9_92 o59 dX9_combine_115 rfl (Nat.le_of_ble_eq_true rfl) (Nat.le_of_ble_eq_true rfl) rfl (fun v60 h61 => ?_)
    refine Sm.if_eq (t := 125) dX9_combine_118 (by decide) rfl (fun b62 => ?_) (fun b62 => ?_)
    · exact Sm.wk (t_X9_combine_125 l0 l4 v48 h61) ⟨Or.inr rfl, Or.inl rfl, Or.inl rfl, Or.inl rfl, Or.inr rfl, Or.inl rfl, Or.inl rfl, trivial⟩
    · refine Sm.iconst dX9_combine_121 ic_1 rfl ?_
      refine Sm.goto (t := 126) dX9_combine_122 (by decide) ?_
      exact Sm.wk (t_X9_combine_126 l0 l4 v48 (1 : Int32) h61) ⟨Or.inr rfl, Or.inl rfl, Or.inl rfl, Or.inl rfl, Or.inr rfl, Or.inl rfl, Or.inl rfl, trivial⟩
def f_X9_combine (l0 : Nat) (l1 : Int32) (l2 : Int32) (l3 : Int32) (l4 : Int32) (h : Hp) : Option (Int32 × Hp) :=
  (bd (f_X9_isBit l1 h) fun v1 h2 =>
(if v1 = 0 then
(f_X9_combine_29 l0 h2)
else
(bd (f_X9_isSlot l2 h2) fun v7 h8 =>
(if v7 = 0 then
(f_X9_combine_29 l0 h8)
else
(bd (f_X9_isSlot l3 h8) fun v10 h11 =>
(if v10 = 0 then
(f_X9_combine_29 l0 h11)
else
(bd (f_X9_isSlot l4 h11) fun v13 h14 =>
(if v13 = 0 then
(f_X9_combine_29 l0 h14)
else
(ck h14 l0 9
((gP h14 l0 2).bind fun v17 =>
(ca h14 v17 23 l2
((gP h14 v17 l2.toNatClampNeg).bind fun v19 =>
(ck h14 v19 7
(bd (f_X7_policy v19 h14) fun v21 h22 =>
(ck h22 l0 9
((gP h22 l0 2).bind fun v24 =>
(ca h22 v24 23 l3
((gP h22 v24 l3.toNatClampNeg).bind fun v26 =>
(ck h22 v26 7
(bd (f_X7_policy v26 h22) fun v28 h29 =>
(ck h29 l0 9
((gP h29 l0 7).bind fun v31 =>
(ck h29 v31 4
(bd (f_X4_start v31 h29) fun _ h33 =>
(ck h33 l0 9
((gP h33 l0 7).bind fun v35 =>
(ck h33 v35 4
(bd (f_X4_addAll v35 v21 h33) fun _ h37 =>
(ck h37 l0 9
((gP h37 l0 7).bind fun v39 =>
(ck h37 v39 4
(bd (f_X4_addAll v39 v28 h37) fun _ h41 =>
(ck h41 l0 9
((gP h41 l0 7).bind fun v43 =>
(if l1 = 0 then
(f_X9_combine_96 l0 l4 v21 v28 v43 (4 : Int32) h41)
else
(f_X9_combine_96 l0 l4 v21 v28 v43 (5 : Int32) h41))))))))))))))))))))))))))))))))))))
set_option maxRecDepth 20000 in
theorem t_X9_combine (l0 : Nat) (l1 : Int32) (l2 : Int32) (l3 : Int32) (l4 : Int32) (h : Hp) : Sm rvI g_X9_combine 0 (ent 7 [.ref l0, .int l1, .int l2, .int l3, .int l4]) [] h (f_X9_combine l0 l1 l2 l3 l4 h) := by
  show Sm rvI g_X9_combine 0 [.ref l0, .int l1, .int l2, .int l3, .int l4, .null, .null] [] h _
  unfold f_X9_combine
  refine Sm.iload_n dX9_combine_0 rfl rfl rfl ?_
  refine kc_X9_75 dX9_combine_1 rfl (Nat.le_of_ble_eq_true rfl) (Nat.le_of_ble_eq_true rfl) rfl (fun v1 h2 => ?_)
  refine Sm.if_eq (t := 29) dX9_combine_4 (by decide) rfl (fun b3 => ?_) (fun b3 => ?_)
  · exact Sm.wk (t_X9_combine_29 l0 h2) ⟨Or.inr rfl, Or.inl rfl, Or.inl rfl, Or.inl rfl, Or.inl rfl, Or.inl rfl, Or.inl rfl, trivial⟩
  · refine Sm.iload_n dX9_combine_7 rfl rfl rfl ?_
    refine kc_X9_59 dX9_combine_8 rfl (Nat.le_of_ble_eq_true rfl) (Nat.le_of_ble_eq_true rfl) rfl (fun v7 h8 => ?_)
    refine Sm.if_eq (t := 29) dX9_combine_11 (by decide) rfl (fun b9 => ?_) (fun b9 => ?_)
    · exact Sm.wk (t_X9_combine_29 l0 h8) ⟨Or.inr rfl, Or.inl rfl, Or.inl rfl, Or.inl rfl, Or.inl rfl, Or.inl rfl, Or.inl rfl, trivial⟩
    · refine Sm.iload_n dX9_combine_14 rfl rfl rfl ?_
      refine kc_X9_59 dX9_combine_15 rfl (Nat.le_of_ble_eq_true rfl) (Nat.le_of_ble_eq_true rfl) rfl (fun v10 h11 => ?_)
      refine Sm.if_eq (t := 29) dX9_combine_18 (by decide) rfl (fun b12 => ?_) (fun b12 => ?_)
      · exact Sm.wk (t_X9_combine_29 l0 h11) ⟨Or.inr rfl, Or.inl rfl, Or.inl rfl, Or.inl rfl, Or.inl rfl, Or.inl rfl, Or.inl rfl, trivial⟩
      · refine Sm.iload dX9_combine_21 rfl rfl ?_
        refine kc_X9_59 dX9_combine_23 rfl (Nat.le_of_ble_eq_true rfl) (Nat.le_of_ble_eq_true rfl) rfl (fun v13 h14 => ?_)
        refine Sm.if_ne (t := 36) dX9_combine_26 (by decide) rfl (fun b15 => ?_) (fun b15 => ?_)
        · exact Sm.wk (t_X9_combine_29 l0 h14) ⟨Or.inr rfl, Or.inl rfl, Or.inl rfl, Or.inl rfl, Or.inl rfl, Or.inl rfl, Or.inl rfl, trivial⟩
        · refine Sm.aload_n dX9_combine_36 rfl rfl rfl ?_
          refine Sm.ck (fun o16 => ?_)
          refine gf_X9_19 o16 dX9_combine_37 rfl rfl (fun v17 => ?_)
          refine Sm.iload_n dX9_combine_40 rfl rfl rfl ?_
          refine Sm.ca (fun q18 => ?_)
          refine Sm.aald q18 (by decide) dX9_combine_41 rfl (fun v19 => ?_)
          refine Sm.ck (fun o20 => ?_)
          refine kc_X9_78 o20 dX9_combine_42 rfl (Nat.le_of_ble_eq_true rfl) (Nat.le_of_ble_eq_true rfl) rfl (fun v21 h22 => ?_)
          refine Sm.astore (lv' := [.ref l0, .int l1, .int l2, .int l3, .int l4, .ref v21, .null]) dX9_combine_45 (Nat.le_of_ble_eq_true rfl) rfl rfl ?_
          refine Sm.aload_n dX9_combine_47 rfl rfl rfl ?_
          refine Sm.ck (fun o23 => ?_)
          refine gf_X9_19 o23 dX9_combine_48 rfl rfl (fun v24 => ?_)
          refine Sm.iload_n dX9_combine_51 rfl rfl rfl ?_
          refine Sm.ca (fun q25 => ?_)
          refine Sm.aald q25 (by decide) dX9_combine_52 rfl (fun v26 => ?_)
          refine Sm.ck (fun o27 => ?_)
          refine kc_X9_78 o27 dX9_combine_53 rfl (Nat.le_of_ble_eq_true rfl) (Nat.le_of_ble_eq_true rfl) rfl (fun v28 h29 => ?_)
          refine Sm.astore (lv' := [.ref l0, .int l1, .int l2, .int l3, .int l4, .ref v21, .ref v28]) dX9_combine_56 (Nat.le_of_ble_eq_true rfl) rfl rfl ?_
          refine Sm.aload_n dX9_combine_58 rfl rfl rfl ?_
          refine Sm.ck (fun o30 => ?_)
          refine gf_X9_50 o30 dX9_combine_59 rfl rfl (fun v31 => ?_)
          refine Sm.ck (fun o32 => ?_)
          refine kc_X9_81 o32 dX9_combine_62 rfl (Nat.le_of_ble_eq_true rfl) (Nat.le_of_ble_eq_true rfl) rfl (fun _ h33 => ?_)
          refine Sm.aload_n dX9_combine_65 rfl rfl rfl ?_
          refine Sm.ck (fun o34 => ?_)
          refine gf_X9_50 o34 dX9_combine_66 rfl rfl (fun v35 => ?_)
          refine Sm.aload dX9_combine_69 rfl rfl ?_
          refine Sm.ck (fun o36 => ?_)
          refine kc_X9_84 o36 dX9_combine_71 rfl (Nat.le_of_ble_eq_true rfl) (Nat.le_of_ble_eq_true rfl) rfl (fun _ h37 => ?_)
          refine Sm.aload_n dX9_combine_74 rfl rfl rfl ?_
          refine Sm.ck (fun o38 => ?_)
          refine gf_X9_50 o38 dX9_combine_75 rfl rfl (fun v39 => ?_)
          refine Sm.aload dX9_combine_78 rfl rfl ?_
          refine Sm.ck (fun o40 => ?_)
          refine kc_X9_84 o40 dX9_combine_80 rfl (Nat.le_of_ble_eq_true rfl) (Nat.le_of_ble_eq_true rfl) rfl (fun _ h41 => ?_)
          refine Sm.aload_n dX9_combine_83 rfl rfl rfl ?_
          refine Sm.ck (fun o42 => ?_)
          refine gf_X9_50 o42 dX9_combine_84 rfl rfl (fun v43 => ?_)
          refine Sm.iload_n dX9_combine_87 rfl rfl rfl ?_
          refine Sm.if_ne (t := 95) dX9_combine_88 (by decide) rfl (fun b44 => ?_) (fun b44 => ?_)
          · refine Sm.iconst dX9_combine_91 ic_4 rfl ?_
            refine Sm.goto (t := 96) dX9_combine_92 (by decide) ?_
            exact Sm.wk (t_X9_combine_96 l0 l4 v21 v28 v43 (4 : Int32) h41) ⟨Or.inr rfl, Or.inl rfl, Or.inl rfl, Or.inl rfl, Or.inr rfl, Or.inr rfl, Or.inr rfl, trivial⟩
          · refine Sm.iconst dX9_combine_95 ic_5 rfl ?_
            exact Sm.wk (t_X9_combine_96 l0 l4 v21 v28 v43 (5 : Int32) h41) ⟨Or.inr rfl, Or.inl rfl, Or.inl rfl, Or.inl rfl, Or.inr rfl, Or.inr rfl, Or.inr rfl, trivial⟩
set_option maxRecDepth 20000 in
theorem kc_L_27 {ρ : Type} {rv : ρ → Option Value} {G : Gx} {pc q : Nat} {lv st : List Value} {h : Hp} {a : Nat} {x1 : Int32} {x2 : Int32} {x3 : Int32} {x4 : Int32} {e : Int32 → Hp → Option (ρ × Hp)} (hk : isO h a 9) (d : decode G.2.1 pc = .ok (.invokevirtual 27, 3)) (ho : G.1.cls = RL) (hdep : (g_X9_combine).2.2.2.2 < G.2.2.2.2) (hcat : catS st ≤ 8) (hq : pc + 3 = q) (k : ∀ r h1, Sm rv G q lv (.int r :: st) h1 (e r h1)) : Sm rv G pc lv (.int x4 :: .int x3 :: .int x2 :: .int x1 :: .ref a :: st) h (bd (f_X9_combine a x1 x2 x3 x4 h) e) :=
  Sm.callV (rv' := rvI) (args := [.int x1, .int x2, .int x3, .int x4]) (n := 4) (t_X9_combine a x1 x2 x3 x4 h) hk (by decide) (r := (RX9, TX9, 8)) rfl rfl ho mw_402 mw_403 mw_404 mw_1 mw_405 ⟨⟨by decide, rfl, hdep, Nat.le_of_ble_eq_true rfl⟩, Nat.le_of_ble_eq_true rfl, rfl, ⟨by decide, by decide⟩, hcat⟩ (by decide +kernel) (by intro v hv; simp only [List.mem_cons, List.not_mem_nil, or_false] at hv; rcases hv with rfl | rfl | rfl | rfl <;> intro x hx <;> cases hx) d hq k rfl
abbrev g_X9_modify : Gx := (yX9_modify, cX9_modify, 6, (Option.some FieldType.int), 3)
def f_X9_modify_21 (l0 : Nat) (h : Hp) : Option (Int32 × Hp) :=
  (ck h l0 9
(bd (f_X9_fail l0 (-2 : Int32) h) fun v5 h6 =>
(some (v5, h6))))
set_option maxRecDepth 20000 in
theorem t_X9_modify_21 (l0 : Nat) (h : Hp) : Sm rvI g_X9_modify 21 [.ref l0, .null, .null, .null, .null, .null] [] h (f_X9_modify_21 l0 h) := by
  unfold f_X9_modify_21
  refine Sm.aload_n dX9_modify_21 rfl rfl rfl ?_
  refine Sm.bipush dX9_modify_22 bp_m2 rfl ?_
  refine Sm.ck (fun o4 => ?_)
  refine kc_X9_55 o4 dX9_modify_24 rfl (Nat.le_of_ble_eq_true rfl) (Nat.le_of_ble_eq_true rfl) rfl (fun v5 h6 => ?_)
  exact Sm.ret dX9_modify_27 trivial rfl
def f_X9_modify_103 (l0 : Nat) (l3 : Int32) (l5 : Int32) (s0 : Nat) (s1 : Int32) (h : Hp) : Option (Int32 × Hp) :=
  (ck h s0 4
(bd (f_X4_add s0 s1 (0 : Int32) (0 : Int32) h) fun _ h34 =>
(ck h34 l0 9
((gP h34 l0 7).bind fun v36 =>
(ck h34 v36 4
(bd (f_X4_markPredicate v36 l5 h34) fun _ h38 =>
(ck h38 l0 9
((gP h38 l0 7).bind fun v40 =>
(bd (f_X9_store l0 v40 l3 h38) fun v41 h42 =>
(some (v41, h42)))))))))))
set_option maxRecDepth 20000 in
theorem t_X9_modify_103 (l0 : Nat) (l3 : Int32) (l5 : Int32) (s0 : Nat) (s1 : Int32) (h : Hp) : Sm rvI g_X9_modify 103 [.ref l0, .null, .null, .int l3, .null, .int l5] [.int s1, .ref s0] h (f_X9_modify_103 l0 l3 l5 s0 s1 h) := by
  unfold f_X9_modify_103
  refine Sm.iconst dX9_modify_103 ic_0 rfl ?_
  refine Sm.iconst dX9_modify_104 ic_0 rfl ?_
  refine Sm.ck (fun o33 => ?_)
  refine kc_X9_88 o33 dX9_modify_105 rfl (Nat.le_of_ble_eq_true rfl) (Nat.le_of_ble_eq_true rfl) rfl (fun _ h34 => ?_)
  refine Sm.aload_n dX9_modify_108 rfl rfl rfl ?_
  refine Sm.ck (fun o35 => ?_)
  refine gf_X9_50 o35 dX9_modify_109 rfl rfl (fun v36 => ?_)
  refine Sm.iload dX9_modify_112 rfl rfl ?_
  refine Sm.ck (fun o37 => ?_)
  refine kc_X9_96 o37 dX9_modify_114 rfl (Nat.le_of_ble_eq_true rfl) (Nat.le_of_ble_eq_true rfl) rfl (fun _ h38 => ?_)
  refine Sm.aload_n dX9_modify_117 rfl rfl rfl ?_
  refine Sm.aload_n dX9_modify_118 rfl rfl rfl ?_
  refine Sm.ck (fun o39 => ?_)
  refine gf_X9_50 o39 dX9_modify_119 rfl rfl (fun v40 => ?_)
  refine Sm.iload_n dX9_modify_122 rfl rfl rfl ?_
  refine kc_X9_71 o39 dX9_modify_123 rfl (Nat.le_of_ble_eq_true rfl) (Nat.le_of_ble_eq_true rfl) rfl (fun v41 h42 => ?_)
  exact Sm.ret dX9_modify_126 trivial rfl
def f_X9_modify_71 (l0 : Nat) (l3 : Int32) (l4 : Nat) (l5 : Int32) (h : Hp) : Option (Int32 × Hp) :=
  (ck h l0 9
((gP h l0 7).bind fun v23 =>
(ck h v23 4
(bd (f_X4_start v23 h) fun _ h25 =>
(ck h25 l0 9
((gP h25 l0 7).bind fun v27 =>
(ck h25 v27 4
(bd (f_X4_addAll v27 l4 h25) fun _ h29 =>
(ck h29 l0 9
((gP h29 l0 7).bind fun v31 =>
(if l5 = 0 then
(f_X9_modify_103 l0 l3 l5 v31 (6 : Int32) h29)
else
(f_X9_modify_103 l0 l3 l5 v31 (7 : Int32) h29))))))))))))
set_option maxRecDepth 20000 in
theorem t_X9_modify_71 (l0 : Nat) (l3 : Int32) (l4 : Nat) (l5 : Int32) (h : Hp) : Sm rvI g_X9_modify 71 [.ref l0, .null, .null, .int l3, .ref l4, .int l5] [] h (f_X9_modify_71 l0 l3 l4 l5 h) := by
  unfold f_X9_modify_71
  refine Sm.aload_n dX9_modify_71 rfl rfl rfl ?_
  refine Sm.ck (fun o22 => ?_)
  refine gf_X9_50 o22 dX9_modify_72 rfl rfl (fun v23 => ?_)
  refine Sm.ck (fun o24 => ?_)
  refine kc_X9_81 o24 dX9_modify_75 rfl (Nat.le_of_ble_eq_true rfl) (Nat.le_of_ble_eq_true rfl) rfl (fun _ h25 => ?_)
  refine Sm.aload_n dX9_modify_78 rfl rfl rfl ?_
  refine Sm.ck (fun o26 => ?_)
  refine gf_X9_50 o26 dX9_modify_79 rfl rfl (fun v27 => ?_)
  refine Sm.aload dX9_modify_82 rfl rfl ?_
  refine Sm.ck (fun o28 => ?_)
  refine kc_X9_84 o28 dX9_modify_84 rfl (Nat.le_of_ble_eq_true rfl) (Nat.le_of_ble_eq_true rfl) rfl (fun _ h29 => ?_)
  refine Sm.aload_n dX9_modify_87 rfl rfl rfl ?_
  refine Sm.ck (fun o30 => ?_)
  refine gf_X9_50 o30 dX9_modify_88 rfl rfl (fun v31 => ?_)
  refine Sm.iload dX9_modify_91 rfl rfl ?_
  refine Sm.if_eq (t := 101) dX9_modify_93 (by decide) rfl (fun b32 => ?_) (fun b32 => ?_)
  · refine Sm.bipush dX9_modify_101 bp_6 rfl ?_
    exact Sm.wk (t_X9_modify_103 l0 l3 l5 v31 (6 : Int32) h29) ⟨Or.inr rfl, Or.inl rfl, Or.inl rfl, Or.inr rfl, Or.inl rfl, Or.inr rfl, trivial⟩
  · refine Sm.bipush dX9_modify_96 bp_7 rfl ?_
    refine Sm.goto (t := 103) dX9_modify_98 (by decide) ?_
    exact Sm.wk (t_X9_modify_103 l0 l3 l5 v31 (7 : Int32) h29) ⟨Or.inr rfl, Or.inl rfl, Or.inl rfl, Or.inr rfl, Or.inl rfl, Or.inr rfl, trivial⟩
def f_X9_modify_49 (l0 : Nat) (l3 : Int32) (l4 : Nat) (s0 : Int32) (h : Hp) : Option (Int32 × Hp) :=
  (if s0 = 0 then
(f_X9_modify_71 l0 l3 l4 s0 h)
else
(ck h l4 4
(bd (f_X4_givesPredicate l4 h) fun v44 h45 =>
(if v44 = 0 then
(ck h45 l0 9
(bd (f_X9_fail l0 (-3 : Int32) h45) fun v48 h49 =>
(some (v48, h49))))
else
(f_X9_modify_71 l0 l3 l4 s0 h45)))))
set_option maxRecDepth 20000 in
theorem t_X9_modify_49 (l0 : Nat) (l3 : Int32) (l4 : Nat) (s0 : Int32) (h : Hp) : Sm rvI g_X9_modify 49 [.ref l0, .null, .null, .int l3, .ref l4, .null] [.int s0] h (f_X9_modify_49 l0 l3 l4 s0 h) := by
  unfold f_X9_modify_49
  refine Sm.istore (lv' := [.ref l0, .null, .null, .int l3, .ref l4, .int s0]) dX9_modify_49 (Nat.le_of_ble_eq_true rfl) rfl rfl ?_
  refine Sm.iload dX9_modify_51 rfl rfl ?_
  refine Sm.if_eq (t := 71) dX9_modify_53 (by decide) rfl (fun b21 => ?_) (fun b21 => ?_)
  · exact Sm.wk (t_X9_modify_71 l0 l3 l4 s0 h) ⟨Or.inr rfl, Or.inl rfl, Or.inl rfl, Or.inr rfl, Or.inr rfl, Or.inr rfl, trivial⟩
  · refine Sm.aload dX9_modify_56 rfl rfl ?_
    refine Sm.ck (fun o43 => ?_)
    refine kc_X9_92 o43 dX9_modify_58 rfl (Nat.le_of_ble_eq_true rfl) (Nat.le_of_ble_eq_true rfl) rfl (fun v44 h45 => ?_)
    refine Sm.if_ne (t := 71) dX9_modify_61 (by decide) rfl (fun b46 => ?_) (fun b46 => ?_)
    · refine Sm.aload_n dX9_modify_64 rfl rfl rfl ?_
      refine Sm.bipush dX9_modify_65 bp_m3 rfl ?_
      refine Sm.ck (fun o47 => ?_)
      refine kc_X9_55 o47 dX9_modify_67 rfl (Nat.le_of_ble_eq_true rfl) (Nat.le_of_ble_eq_true rfl) rfl (fun v48 h49 => ?_)
      exact Sm.ret dX9_modify_70 trivial rfl
    · exact Sm.wk (t_X9_modify_71 l0 l3 l4 s0 h45) ⟨Or.inr rfl, Or.inl rfl, Or.inl rfl, Or.inr rfl, Or.inr rfl, Or.inr rfl, trivial⟩
def f_X9_modify (l0 : Nat) (l1 : Int32) (l2 : Int32) (l3 : Int32) (h : Hp) : Option (Int32 × Hp) :=
  (bd (f_X9_isBit l1 h) fun v1 h2 =>
(if v1 = 0 then
(f_X9_modify_21 l0 h2)
else
(bd (f_X9_isSlot l2 h2) fun v7 h8 =>
(if v7 = 0 then
(f_X9_modify_21 l0 h8)
else
(bd (f_X9_isSlot l3 h8) fun v10 h11 =>
(if v10 = 0 then
(f_X9_modify_21 l0 h11)
else
(ck h11 l0 9
((gP h11 l0 2).bind fun v14 =>
(ca h11 v14 23 l2
((gP h11 v14 l2.toNatClampNeg).bind fun v16 =>
(ck h11 v16 7
(bd (f_X7_policy v16 h11) fun v18 h19 =>
(if l1 = (1 : Int32) then
(f_X9_modify_49 l0 l3 v18 (1 : Int32) h19)
else
(f_X9_modify_49 l0 l3 v18 (0 : Int32) h19))))))))))))))
set_option maxRecDepth 20000 in
theorem t_X9_modify (l0 : Nat) (l1 : Int32) (l2 : Int32) (l3 : Int32) (h : Hp) : Sm rvI g_X9_modify 0 (ent 6 [.ref l0, .int l1, .int l2, .int l3]) [] h (f_X9_modify l0 l1 l2 l3 h) := by
  show Sm rvI g_X9_modify 0 [.ref l0, .int l1, .int l2, .int l3, .null, .null] [] h _
  unfold f_X9_modify
  refine Sm.iload_n dX9_modify_0 rfl rfl rfl ?_
  refine kc_X9_75 dX9_modify_1 rfl (Nat.le_of_ble_eq_true rfl) (Nat.le_of_ble_eq_true rfl) rfl (fun v1 h2 => ?_)
  refine Sm.if_eq (t := 21) dX9_modify_4 (by decide) rfl (fun b3 => ?_) (fun b3 => ?_)
  · exact Sm.wk (t_X9_modify_21 l0 h2) ⟨Or.inr rfl, Or.inl rfl, Or.inl rfl, Or.inl rfl, Or.inl rfl, Or.inl rfl, trivial⟩
  · refine Sm.iload_n dX9_modify_7 rfl rfl rfl ?_
    refine kc_X9_59 dX9_modify_8 rfl (Nat.le_of_ble_eq_true rfl) (Nat.le_of_ble_eq_true rfl) rfl (fun v7 h8 => ?_)
    refine Sm.if_eq (t := 21) dX9_modify_11 (by decide) rfl (fun b9 => ?_) (fun b9 => ?_)
    · exact Sm.wk (t_X9_modify_21 l0 h8) ⟨Or.inr rfl, Or.inl rfl, Or.inl rfl, Or.inl rfl, Or.inl rfl, Or.inl rfl, trivial⟩
    · refine Sm.iload_n dX9_modify_14 rfl rfl rfl ?_
      refine kc_X9_59 dX9_modify_15 rfl (Nat.le_of_ble_eq_true rfl) (Nat.le_of_ble_eq_true rfl) rfl (fun v10 h11 => ?_)
      refine Sm.if_ne (t := 28) dX9_modify_18 (by decide) rfl (fun b12 => ?_) (fun b12 => ?_)
      · exact Sm.wk (t_X9_modify_21 l0 h11) ⟨Or.inr rfl, Or.inl rfl, Or.inl rfl, Or.inl rfl, Or.inl rfl, Or.inl rfl, trivial⟩
      · refine Sm.aload_n dX9_modify_28 rfl rfl rfl ?_
        refine Sm.ck (fun o13 => ?_)
        refine gf_X9_19 o13 dX9_modify_29 rfl rfl (fun v14 => ?_)
        refine Sm.iload_n dX9_modify_32 rfl rfl rfl ?_
        refine Sm.ca (fun q15 => ?_)
        refine Sm.aald q15 (by decide) dX9_modify_33 rfl (fun v16 => ?_)
        refine Sm.ck (fun o17 => ?_)
        refine kc_X9_78 o17 dX9_modify_34 rfl (Nat.le_of_ble_eq_true rfl) (Nat.le_of_ble_eq_true rfl) rfl (fun v18 h19 => ?_)
        refine Sm.astore (lv' := [.ref l0, .int l1, .int l2, .int l3, .ref v18, .null]) dX9_modify_37 (Nat.le_of_ble_eq_true rfl) rfl rfl ?_
        refine Sm.iload_n dX9_modify_39 rfl rfl rfl ?_
        refine Sm.iconst dX9_modify_40 ic_1 rfl ?_
        refine Sm.icmp_ne (t := 48) dX9_modify_41 (by decide) rfl (fun b20 => ?_) (fun b20 => ?_)
        · refine Sm.iconst dX9_modify_44 ic_1 rfl ?_
          refine Sm.goto (t := 49) dX9_modify_45 (by decide) ?_
          exact Sm.wk (t_X9_modify_49 l0 l3 v18 (1 : Int32) h19) ⟨Or.inr rfl, Or.inl rfl, Or.inl rfl, Or.inr rfl, Or.inr rfl, Or.inl rfl, trivial⟩
        · refine Sm.iconst dX9_modify_48 ic_0 rfl ?_
          exact Sm.wk (t_X9_modify_49 l0 l3 v18 (0 : Int32) h19) ⟨Or.inr rfl, Or.inl rfl, Or.inl rfl, Or.inr rfl, Or.inr rfl, Or.inl rfl, trivial⟩
set_option maxRecDepth 20000 in
theorem kc_L_32 {ρ : Type} {rv : ρ → Option Value} {G : Gx} {pc q : Nat} {lv st : List Value} {h : Hp} {a : Nat} {x1 : Int32} {x2 : Int32} {x3 : Int32} {e : Int32 → Hp → Option (ρ × Hp)} (hk : isO h a 9) (d : decode G.2.1 pc = .ok (.invokevirtual 32, 3)) (ho : G.1.cls = RL) (hdep : (g_X9_modify).2.2.2.2 < G.2.2.2.2) (hcat : catS st ≤ 8) (hq : pc + 3 = q) (k : ∀ r h1, Sm rv G q lv (.int r :: st) h1 (e r h1)) : Sm rv G pc lv (.int x3 :: .int x2 :: .int x1 :: .ref a :: st) h (bd (f_X9_modify a x1 x2 x3 h) e) :=
  Sm.callV (rv' := rvI) (args := [.int x1, .int x2, .int x3]) (n := 3) (t_X9_modify a x1 x2 x3 h) hk (by decide) (r := (RX9, TX9, 8)) rfl rfl ho mw_414 mw_415 mw_416 mw_1 mw_417 ⟨⟨by decide, rfl, hdep, Nat.le_of_ble_eq_true rfl⟩, Nat.le_of_ble_eq_true rfl, rfl, ⟨by decide, by decide⟩, hcat⟩ (by decide +kernel) (by intro v hv; simp only [List.mem_cons, List.not_mem_nil, or_false] at hv; rcases hv with rfl | rfl | rfl <;> intro x hx <;> cases hx) d hq k rfl
abbrev g_X9_size : Gx := (yX9_size, cX9_size, 2, (Option.some FieldType.int), 1)
def f_X9_size (l0 : Nat) (l1 : Int32) (h : Hp) : Option (Int32 × Hp) :=
  (bd (f_X9_isSlot l1 h) fun v1 h2 =>
(if v1 = 0 then
(ck h2 l0 9
(bd (f_X9_fail l0 (-2 : Int32) h2) fun v5 h6 =>
(some (v5, h6))))
else
(ck h2 l0 9
((gP h2 l0 2).bind fun v8 =>
(ca h2 v8 23 l1
((gP h2 v8 l1.toNatClampNeg).bind fun v10 =>
(ck h2 v10 7
(bd (f_X7_policy v10 h2) fun v12 h13 =>
(ck h13 v12 4
(bd (f_X4_nodeCount v12 h13) fun v15 h16 =>
(some (v15, h16))))))))))))
set_option maxRecDepth 20000 in
theorem t_X9_size (l0 : Nat) (l1 : Int32) (h : Hp) : Sm rvI g_X9_size 0 (ent 2 [.ref l0, .int l1]) [] h (f_X9_size l0 l1 h) := by
  show Sm rvI g_X9_size 0 [.ref l0, .int l1] [] h _
  unfold f_X9_size
  refine Sm.iload_n dX9_size_0 rfl rfl rfl ?_
  refine kc_X9_59 dX9_size_1 rfl (Nat.le_of_ble_eq_true rfl) (Nat.le_of_ble_eq_true rfl) rfl (fun v1 h2 => ?_)
  refine Sm.if_ne (t := 14) dX9_size_4 (by decide) rfl (fun b3 => ?_) (fun b3 => ?_)
  · refine Sm.aload_n dX9_size_7 rfl rfl rfl ?_
    refine Sm.bipush dX9_size_8 bp_m2 rfl ?_
    refine Sm.ck (fun o4 => ?_)
    refine kc_X9_55 o4 dX9_size_10 rfl (Nat.le_of_ble_eq_true rfl) (Nat.le_of_ble_eq_true rfl) rfl (fun v5 h6 => ?_)
    exact Sm.ret dX9_size_13 trivial rfl
  · refine Sm.aload_n dX9_size_14 rfl rfl rfl ?_
    refine Sm.ck (fun o7 => ?_)
    refine gf_X9_19 o7 dX9_size_15 rfl rfl (fun v8 => ?_)
    refine Sm.iload_n dX9_size_18 rfl rfl rfl ?_
    refine Sm.ca (fun q9 => ?_)
    refine Sm.aald q9 (by decide) dX9_size_19 rfl (fun v10 => ?_)
    refine Sm.ck (fun o11 => ?_)
    refine kc_X9_78 o11 dX9_size_20 rfl (Nat.le_of_ble_eq_true rfl) (Nat.le_of_ble_eq_true rfl) rfl (fun v12 h13 => ?_)
    refine Sm.ck (fun o14 => ?_)
    refine kc_X9_100 o14 dX9_size_23 rfl (Nat.le_of_ble_eq_true rfl) (Nat.le_of_ble_eq_true rfl) rfl (fun v15 h16 => ?_)
    exact Sm.ret dX9_size_26 trivial rfl
set_option maxRecDepth 20000 in
theorem kc_L_37 {ρ : Type} {rv : ρ → Option Value} {G : Gx} {pc q : Nat} {lv st : List Value} {h : Hp} {a : Nat} {x1 : Int32} {e : Int32 → Hp → Option (ρ × Hp)} (hk : isO h a 9) (d : decode G.2.1 pc = .ok (.invokevirtual 37, 3)) (ho : G.1.cls = RL) (hdep : (g_X9_size).2.2.2.2 < G.2.2.2.2) (hcat : catS st ≤ 8) (hq : pc + 3 = q) (k : ∀ r h1, Sm rv G q lv (.int r :: st) h1 (e r h1)) : Sm rv G pc lv (.int x1 :: .ref a :: st) h (bd (f_X9_size a x1 h) e) :=
  Sm.callV (rv' := rvI) (args := [.int x1]) (n := 1) (t_X9_size a x1 h) hk (by decide) (r := (RX9, TX9, 8)) rfl rfl ho mw_418 mw_419 mw_420 mw_1 mw_421 ⟨⟨by decide, rfl, hdep, Nat.le_of_ble_eq_true rfl⟩, Nat.le_of_ble_eq_true rfl, rfl, ⟨by decide, by decide⟩, hcat⟩ (by decide +kernel) (by intro v hv; simp only [List.mem_cons, List.not_mem_nil, or_false] at hv; rcases hv with rfl <;> intro x hx <;> cases hx) d hq k rfl
abbrev g_X9_isPredicate : Gx := (yX9_isPredicate, cX9_isPredicate, 2, (Option.some FieldType.int), 1)
def f_X9_isPredicate (l0 : Nat) (l1 : Int32) (h : Hp) : Option (Int32 × Hp) :=
  (bd (f_X9_isSlot l1 h) fun v1 h2 =>
(if v1 = 0 then
(ck h2 l0 9
(bd (f_X9_fail l0 (-2 : Int32) h2) fun v5 h6 =>
(some (v5, h6))))
else
(ck h2 l0 9
((gP h2 l0 2).bind fun v8 =>
(ca h2 v8 23 l1
((gP h2 v8 l1.toNatClampNeg).bind fun v10 =>
(ck h2 v10 7
(bd (f_X7_policy v10 h2) fun v12 h13 =>
(ck h13 v12 4
(bd (f_X4_givesPredicate v12 h13) fun v15 h16 =>
(if v15 = 0 then
(some ((0 : Int32), h16))
else
(some ((1 : Int32), h16)))))))))))))
set_option maxRecDepth 20000 in
theorem t_X9_isPredicate (l0 : Nat) (l1 : Int32) (h : Hp) : Sm rvI g_X9_isPredicate 0 (ent 2 [.ref l0, .int l1]) [] h (f_X9_isPredicate l0 l1 h) := by
  show Sm rvI g_X9_isPredicate 0 [.ref l0, .int l1] [] h _
  unfold f_X9_isPredicate
  refine Sm.iload_n dX9_isPredicate_0 rfl rfl rfl ?_
  refine kc_X9_59 dX9_isPredicate_1 rfl (Nat.le_of_ble_eq_true rfl) (Nat.le_of_ble_eq_true rfl) rfl (fun v1 h2 => ?_)
  refine Sm.if_ne (t := 14) dX9_isPredicate_4 (by decide) rfl (fun b3 => ?_) (fun b3 => ?_)
  · refine Sm.aload_n dX9_isPredicate_7 rfl rfl rfl ?_
    refine Sm.bipush dX9_isPredicate_8 bp_m2 rfl ?_
    refine Sm.ck (fun o4 => ?_)
    refine kc_X9_55 o4 dX9_isPredicate_10 rfl (Nat.le_of_ble_eq_true rfl) (Nat.le_of_ble_eq_true rfl) rfl (fun v5 h6 => ?_)
    exact Sm.ret dX9_isPredicate_13 trivial rfl
  · refine Sm.aload_n dX9_isPredicate_14 rfl rfl rfl ?_
    refine Sm.ck (fun o7 => ?_)
    refine gf_X9_19 o7 dX9_isPredicate_15 rfl rfl (fun v8 => ?_)
    refine Sm.iload_n dX9_isPredicate_18 rfl rfl rfl ?_
    refine Sm.ca (fun q9 => ?_)
    refine Sm.aald q9 (by decide) dX9_isPredicate_19 rfl (fun v10 => ?_)
    refine Sm.ck (fun o11 => ?_)
    refine kc_X9_78 o11 dX9_isPredicate_20 rfl (Nat.le_of_ble_eq_true rfl) (Nat.le_of_ble_eq_true rfl) rfl (fun v12 h13 => ?_)
    refine Sm.ck (fun o14 => ?_)
    refine kc_X9_92 o14 dX9_isPredicate_23 rfl (Nat.le_of_ble_eq_true rfl) (Nat.le_of_ble_eq_true rfl) rfl (fun v15 h16 => ?_)
    refine Sm.if_eq (t := 33) dX9_isPredicate_26 (by decide) rfl (fun b17 => ?_) (fun b17 => ?_)
    · refine Sm.iconst dX9_isPredicate_33 ic_0 rfl ?_
      exact Sm.ret dX9_isPredicate_34 trivial rfl
    · refine Sm.iconst dX9_isPredicate_29 ic_1 rfl ?_
      refine Sm.goto (t := 34) dX9_isPredicate_30 (by decide) ?_
      exact Sm.ret dX9_isPredicate_34 trivial rfl
set_option maxRecDepth 20000 in
theorem kc_L_41 {ρ : Type} {rv : ρ → Option Value} {G : Gx} {pc q : Nat} {lv st : List Value} {h : Hp} {a : Nat} {x1 : Int32} {e : Int32 → Hp → Option (ρ × Hp)} (hk : isO h a 9) (d : decode G.2.1 pc = .ok (.invokevirtual 41, 3)) (ho : G.1.cls = RL) (hdep : (g_X9_isPredicate).2.2.2.2 < G.2.2.2.2) (hcat : catS st ≤ 8) (hq : pc + 3 = q) (k : ∀ r h1, Sm rv G q lv (.int r :: st) h1 (e r h1)) : Sm rv G pc lv (.int x1 :: .ref a :: st) h (bd (f_X9_isPredicate a x1 h) e) :=
  Sm.callV (rv' := rvI) (args := [.int x1]) (n := 1) (t_X9_isPredicate a x1 h) hk (by decide) (r := (RX9, TX9, 8)) rfl rfl ho mw_422 mw_423 mw_424 mw_1 mw_425 ⟨⟨by decide, rfl, hdep, Nat.le_of_ble_eq_true rfl⟩, Nat.le_of_ble_eq_true rfl, rfl, ⟨by decide, by decide⟩, hcat⟩ (by decide +kernel) (by intro v hv; simp only [List.mem_cons, List.not_mem_nil, or_false] at hv; rcases hv with rfl <;> intro x hx <;> cases hx) d hq k rfl
abbrev g_X9_printed : Gx := (yX9_printed, cX9_printed, 4, (Option.some FieldType.int), 12)
def f_X9_printed_12 (l0 : Nat) (h : Hp) : Option (Int32 × Hp) :=
  (ck h l0 9
(bd (f_X9_fail l0 (-2 : Int32) h) fun v5 h6 =>
(some (v5, h6))))
set_option maxRecDepth 20000 in
theorem t_X9_printed_12 (l0 : Nat) (h : Hp) : Sm rvI g_X9_printed 12 [.ref l0, .null, .null, .null] [] h (f_X9_printed_12 l0 h) := by
  unfold f_X9_printed_12
  refine Sm.aload_n dX9_printed_12 rfl rfl rfl ?_
  refine Sm.bipush dX9_printed_13 bp_m2 rfl ?_
  refine Sm.ck (fun o4 => ?_)
  refine kc_X9_55 o4 dX9_printed_15 rfl (Nat.le_of_ble_eq_true rfl) (Nat.le_of_ble_eq_true rfl) rfl (fun v5 h6 => ?_)
  exact Sm.ret dX9_printed_18 trivial rfl
def f_X9_printed (l0 : Nat) (l1 : Int32) (l2 : Int32) (h : Hp) : Option (Int32 × Hp) :=
  (bd (f_X9_isSlot l1 h) fun v1 h2 =>
(if v1 = 0 then
(f_X9_printed_12 l0 h2)
else
(if (-1 : Int32) ≤ l2 then
(ck h2 l0 9
((gP h2 l0 2).bind fun v9 =>
(ca h2 v9 23 l1
((gP h2 v9 l1.toNatClampNeg).bind fun v11 =>
((gP h2 l0 6).bind fun v12 =>
(ck h2 v11 7
(bd (f_X7_upToDate v11 v12 h2) fun v14 h15 =>
(ck h15 v14 7
(bd (f_X7_printout v14 h15) fun v17 h18 =>
(if l2 = (-1 : Int32) then
(ck h18 v17 5
(bd (f_X5_byteCount v17 h18) fun v21 h22 =>
(some (v21, h22))))
else
(ck h18 v17 5
(bd (f_X5_byteCount v17 h18) fun v24 h25 =>
(if v24 ≤ l2 then
(some ((-1 : Int32), h25))
else
(ck h25 v17 5
(bd (f_X5_byteAt v17 l2 h25) fun v28 h29 =>
(some (v28, h29)))))))))))))))))
else
(f_X9_printed_12 l0 h2))))
set_option maxRecDepth 20000 in
theorem t_X9_printed (l0 : Nat) (l1 : Int32) (l2 : Int32) (h : Hp) : Sm rvI g_X9_printed 0 (ent 4 [.ref l0, .int l1, .int l2]) [] h (f_X9_printed l0 l1 l2 h) := by
  show Sm rvI g_X9_printed 0 [.ref l0, .int l1, .int l2, .null] [] h _
  unfold f_X9_printed
  refine Sm.iload_n dX9_printed_0 rfl rfl rfl ?_
  refine kc_X9_59 dX9_printed_1 rfl (Nat.le_of_ble_eq_true rfl) (Nat.le_of_ble_eq_true rfl) rfl (fun v1 h2 => ?_)
  refine Sm.if_eq (t := 12) dX9_printed_4 (by decide) rfl (fun b3 => ?_) (fun b3 => ?_)
  · exact Sm.wk (t_X9_printed_12 l0 h2) ⟨Or.inr rfl, Or.inl rfl, Or.inl rfl, Or.inl rfl, trivial⟩
  · refine Sm.iload_n dX9_printed_7 rfl rfl rfl ?_
    refine Sm.iconst dX9_printed_8 ic_m1 rfl ?_
    refine Sm.icmp_ge (t := 19) dX9_printed_9 (by decide) rfl (fun b7 => ?_) (fun b7 => ?_)
    · refine Sm.aload_n dX9_printed_19 rfl rfl rfl ?_
      refine Sm.ck (fun o8 => ?_)
      refine gf_X9_19 o8 dX9_printed_20 rfl rfl (fun v9 => ?_)
      refine Sm.iload_n dX9_printed_23 rfl rfl rfl ?_
      refine Sm.ca (fun q10 => ?_)
      refine Sm.aald q10 (by decide) dX9_printed_24 rfl (fun v11 => ?_)
      refine Sm.aload_n dX9_printed_25 rfl rfl rfl ?_
      refine gf_X9_43 o8 dX9_printed_26 rfl rfl (fun v12 => ?_)
      refine Sm.ck (fun o13 => ?_)
      refine kc_X9_104 o13 dX9_printed_29 rfl (Nat.le_of_ble_eq_true rfl) (Nat.le_of_ble_eq_true rfl) rfl (fun v14 h15 => ?_)
      refine Sm.ck (fun o16 => ?_)
      refine kc_X9_108 o16 dX9_printed_32 rfl (Nat.le_of_ble_eq_true rfl) (Nat.le_of_ble_eq_true rfl) rfl (fun v17 h18 => ?_)
      refine Sm.astore_n (lv' := [.ref l0, .int l1, .int l2, .ref v17]) dX9_printed_35 rfl (Nat.le_of_ble_eq_true rfl) rfl rfl ?_
      refine Sm.iload_n dX9_printed_36 rfl rfl rfl ?_
      refine Sm.iconst dX9_printed_37 ic_m1 rfl ?_
      refine Sm.icmp_ne (t := 46) dX9_printed_38 (by decide) rfl (fun b19 => ?_) (fun b19 => ?_)
      · refine Sm.aload_n dX9_printed_41 rfl rfl rfl ?_
        refine Sm.ck (fun o20 => ?_)
        refine kc_X9_112 o20 dX9_printed_42 rfl (Nat.le_of_ble_eq_true rfl) (Nat.le_of_ble_eq_true rfl) rfl (fun v21 h22 => ?_)
        exact Sm.ret dX9_printed_45 trivial rfl
      · refine Sm.iload_n dX9_printed_46 rfl rfl rfl ?_
        refine Sm.aload_n dX9_printed_47 rfl rfl rfl ?_
        refine Sm.ck (fun o23 => ?_)
        refine kc_X9_112 o23 dX9_printed_48 rfl (Nat.le_of_ble_eq_true rfl) (Nat.le_of_ble_eq_true rfl) rfl (fun v24 h25 => ?_)
        refine Sm.icmp_ge (t := 62) dX9_printed_51 (by decide) rfl (fun b26 => ?_) (fun b26 => ?_)
        · refine Sm.iconst dX9_printed_62 ic_m1 rfl ?_
          exact Sm.ret dX9_printed_63 trivial rfl
        · refine Sm.aload_n dX9_printed_54 rfl rfl rfl ?_
          refine Sm.iload_n dX9_printed_55 rfl rfl rfl ?_
          refine Sm.ck (fun o27 => ?_)
          refine kc_X9_117 o27 dX9_printed_56 rfl (Nat.le_of_ble_eq_true rfl) (Nat.le_of_ble_eq_true rfl) rfl (fun v28 h29 => ?_)
          refine Sm.goto (t := 63) dX9_printed_59 (by decide) ?_
          exact Sm.ret dX9_printed_63 trivial rfl
    · exact Sm.wk (t_X9_printed_12 l0 h2) ⟨Or.inr rfl, Or.inl rfl, Or.inl rfl, Or.inl rfl, trivial⟩
set_option maxRecDepth 20000 in
theorem kc_L_45 {ρ : Type} {rv : ρ → Option Value} {G : Gx} {pc q : Nat} {lv st : List Value} {h : Hp} {a : Nat} {x1 : Int32} {x2 : Int32} {e : Int32 → Hp → Option (ρ × Hp)} (hk : isO h a 9) (d : decode G.2.1 pc = .ok (.invokevirtual 45, 3)) (ho : G.1.cls = RL) (hdep : (g_X9_printed).2.2.2.2 < G.2.2.2.2) (hcat : catS st ≤ 8) (hq : pc + 3 = q) (k : ∀ r h1, Sm rv G q lv (.int r :: st) h1 (e r h1)) : Sm rv G pc lv (.int x2 :: .int x1 :: .ref a :: st) h (bd (f_X9_printed a x1 x2 h) e) :=
  Sm.callV (rv' := rvI) (args := [.int x1, .int x2]) (n := 2) (t_X9_printed a x1 x2 h) hk (by decide) (r := (RX9, TX9, 8)) rfl rfl ho mw_426 mw_427 mw_428 mw_1 mw_429 ⟨⟨by decide, rfl, hdep, Nat.le_of_ble_eq_true rfl⟩, Nat.le_of_ble_eq_true rfl, rfl, ⟨by decide, by decide⟩, hcat⟩ (by decide +kernel) (by intro v hv; simp only [List.mem_cons, List.not_mem_nil, or_false] at hv; rcases hv with rfl | rfl <;> intro x hx <;> cases hx) d hq k rfl
abbrev g_X9_outputs : Gx := (yX9_outputs, cX9_outputs, 3, (Option.some FieldType.long), 12)
def f_X9_outputs_14 (l0 : Nat) (h : Hp) : Option (Int64 × Hp) :=
  (ck h l0 9
(bd (f_X9_fail l0 (-2 : Int32) h) fun v5 h6 =>
(some (v5.toInt64, h6))))
set_option maxRecDepth 20000 in
theorem t_X9_outputs_14 (l0 : Nat) (h : Hp) : Sm rvJ g_X9_outputs 14 [.ref l0, .null, .null] [] h (f_X9_outputs_14 l0 h) := by
  unfold f_X9_outputs_14
  refine Sm.aload_n dX9_outputs_14 rfl rfl rfl ?_
  refine Sm.bipush dX9_outputs_15 bp_m2 rfl ?_
  refine Sm.ck (fun o4 => ?_)
  refine kc_X9_55 o4 dX9_outputs_17 rfl (Nat.le_of_ble_eq_true rfl) (Nat.le_of_ble_eq_true rfl) rfl (fun v5 h6 => ?_)
  refine Sm.i2l dX9_outputs_20 rfl ?_
  exact Sm.ret dX9_outputs_21 trivial rfl
def f_X9_outputs (l0 : Nat) (l1 : Int32) (l2 : Int32) (h : Hp) : Option (Int64 × Hp) :=
  (bd (f_X9_isSlot l1 h) fun v1 h2 =>
(if v1 = 0 then
(f_X9_outputs_14 l0 h2)
else
(bd (f_X9_isPacket l2 h2) fun v7 h8 =>
(if v7 = 0 then
(f_X9_outputs_14 l0 h8)
else
(ck h8 l0 9
((gP h8 l0 2).bind fun v11 =>
(ca h8 v11 23 l1
((gP h8 v11 l1.toNatClampNeg).bind fun v13 =>
((gP h8 l0 6).bind fun v14 =>
(ck h8 v13 7
(bd (f_X7_upToDate v13 v14 h8) fun v16 h17 =>
(ck h17 v16 7
(bd (f_X7_relation v16 h17) fun v19 h20 =>
(ck h20 v19 6
(bd (f_X6_imageOf v19 l2 h20) fun v22 h23 =>
(some (v22, h23)))))))))))))))))
set_option maxRecDepth 20000 in
theorem t_X9_outputs (l0 : Nat) (l1 : Int32) (l2 : Int32) (h : Hp) : Sm rvJ g_X9_outputs 0 (ent 3 [.ref l0, .int l1, .int l2]) [] h (f_X9_outputs l0 l1 l2 h) := by
  show Sm rvJ g_X9_outputs 0 [.ref l0, .int l1, .int l2] [] h _
  unfold f_X9_outputs
  refine Sm.iload_n dX9_outputs_0 rfl rfl rfl ?_
  refine kc_X9_59 dX9_outputs_1 rfl (Nat.le_of_ble_eq_true rfl) (Nat.le_of_ble_eq_true rfl) rfl (fun v1 h2 => ?_)
  refine Sm.if_eq (t := 14) dX9_outputs_4 (by decide) rfl (fun b3 => ?_) (fun b3 => ?_)
  · exact Sm.wk (t_X9_outputs_14 l0 h2) ⟨Or.inr rfl, Or.inl rfl, Or.inl rfl, trivial⟩
  · refine Sm.iload_n dX9_outputs_7 rfl rfl rfl ?_
    refine kc_X9_120 dX9_outputs_8 rfl (Nat.le_of_ble_eq_true rfl) (Nat.le_of_ble_eq_true rfl) rfl (fun v7 h8 => ?_)
    refine Sm.if_ne (t := 22) dX9_outputs_11 (by decide) rfl (fun b9 => ?_) (fun b9 => ?_)
    · exact Sm.wk (t_X9_outputs_14 l0 h8) ⟨Or.inr rfl, Or.inl rfl, Or.inl rfl, trivial⟩
    · refine Sm.aload_n dX9_outputs_22 rfl rfl rfl ?_
      refine Sm.ck (fun o10 => ?_)
      refine gf_X9_19 o10 dX9_outputs_23 rfl rfl (fun v11 => ?_)
      refine Sm.iload_n dX9_outputs_26 rfl rfl rfl ?_
      refine Sm.ca (fun q12 => ?_)
      refine Sm.aald q12 (by decide) dX9_outputs_27 rfl (fun v13 => ?_)
      refine Sm.aload_n dX9_outputs_28 rfl rfl rfl ?_
      refine gf_X9_43 o10 dX9_outputs_29 rfl rfl (fun v14 => ?_)
      refine Sm.ck (fun o15 => ?_)
      refine kc_X9_104 o15 dX9_outputs_32 rfl (Nat.le_of_ble_eq_true rfl) (Nat.le_of_ble_eq_true rfl) rfl (fun v16 h17 => ?_)
      refine Sm.ck (fun o18 => ?_)
      refine kc_X9_123 o18 dX9_outputs_35 rfl (Nat.le_of_ble_eq_true rfl) (Nat.le_of_ble_eq_true rfl) rfl (fun v19 h20 => ?_)
      refine Sm.iload_n dX9_outputs_38 rfl rfl rfl ?_
      refine Sm.ck (fun o21 => ?_)
      refine kc_X9_127 o21 dX9_outputs_39 rfl (Nat.le_of_ble_eq_true rfl) (Nat.le_of_ble_eq_true rfl) rfl (fun v22 h23 => ?_)
      exact Sm.ret dX9_outputs_42 trivial rfl
set_option maxRecDepth 20000 in
theorem kc_L_50 {ρ : Type} {rv : ρ → Option Value} {G : Gx} {pc q : Nat} {lv st : List Value} {h : Hp} {a : Nat} {x1 : Int32} {x2 : Int32} {e : Int64 → Hp → Option (ρ × Hp)} (hk : isO h a 9) (d : decode G.2.1 pc = .ok (.invokevirtual 50, 3)) (ho : G.1.cls = RL) (hdep : (g_X9_outputs).2.2.2.2 < G.2.2.2.2) (hcat : catS st ≤ 8) (hq : pc + 3 = q) (k : ∀ r h1, Sm rv G q lv (.long r :: st) h1 (e r h1)) : Sm rv G pc lv (.int x2 :: .int x1 :: .ref a :: st) h (bd (f_X9_outputs a x1 x2 h) e) :=
  Sm.callV (rv' := rvJ) (args := [.int x1, .int x2]) (n := 2) (t_X9_outputs a x1 x2 h) hk (by decide) (r := (RX9, TX9, 8)) rfl rfl ho mw_678 mw_679 mw_680 mw_1 mw_681 ⟨⟨by decide, rfl, hdep, Nat.le_of_ble_eq_true rfl⟩, Nat.le_of_ble_eq_true rfl, rfl, ⟨by decide, by decide⟩, hcat⟩ (by decide +kernel) (by intro v hv; simp only [List.mem_cons, List.not_mem_nil, or_false] at hv; rcases hv with rfl | rfl <;> intro x hx <;> cases hx) d hq k rfl
abbrev g_X9_accepted : Gx := (yX9_accepted, cX9_accepted, 2, (Option.some FieldType.long), 12)
def f_X9_accepted (l0 : Nat) (l1 : Int32) (h : Hp) : Option (Int64 × Hp) :=
  (bd (f_X9_isSlot l1 h) fun v1 h2 =>
(if v1 = 0 then
(ck h2 l0 9
(bd (f_X9_fail l0 (-2 : Int32) h2) fun v5 h6 =>
(some (v5.toInt64, h6))))
else
(ck h2 l0 9
((gP h2 l0 2).bind fun v8 =>
(ca h2 v8 23 l1
((gP h2 v8 l1.toNatClampNeg).bind fun v10 =>
((gP h2 l0 6).bind fun v11 =>
(ck h2 v10 7
(bd (f_X7_upToDate v10 v11 h2) fun v13 h14 =>
(ck h14 v13 7
(bd (f_X7_relation v13 h14) fun v16 h17 =>
(ck h17 v16 6
(bd (f_X6_domain v16 h17) fun v19 h20 =>
(some (v19, h20)))))))))))))))
set_option maxRecDepth 20000 in
theorem t_X9_accepted (l0 : Nat) (l1 : Int32) (h : Hp) : Sm rvJ g_X9_accepted 0 (ent 2 [.ref l0, .int l1]) [] h (f_X9_accepted l0 l1 h) := by
  show Sm rvJ g_X9_accepted 0 [.ref l0, .int l1] [] h _
  unfold f_X9_accepted
  refine Sm.iload_n dX9_accepted_0 rfl rfl rfl ?_
  refine kc_X9_59 dX9_accepted_1 rfl (Nat.le_of_ble_eq_true rfl) (Nat.le_of_ble_eq_true rfl) rfl (fun v1 h2 => ?_)
  refine Sm.if_ne (t := 15) dX9_accepted_4 (by decide) rfl (fun b3 => ?_) (fun b3 => ?_)
  · refine Sm.aload_n dX9_accepted_7 rfl rfl rfl ?_
    refine Sm.bipush dX9_accepted_8 bp_m2 rfl ?_
    refine Sm.ck (fun o4 => ?_)
    refine kc_X9_55 o4 dX9_accepted_10 rfl (Nat.le_of_ble_eq_true rfl) (Nat.le_of_ble_eq_true rfl) rfl (fun v5 h6 => ?_)
    refine Sm.i2l dX9_accepted_13 rfl ?_
    exact Sm.ret dX9_accepted_14 trivial rfl
  · refine Sm.aload_n dX9_accepted_15 rfl rfl rfl ?_
    refine Sm.ck (fun o7 => ?_)
    refine gf_X9_19 o7 dX9_accepted_16 rfl rfl (fun v8 => ?_)
    refine Sm.iload_n dX9_accepted_19 rfl rfl rfl ?_
    refine Sm.ca (fun q9 => ?_)
    refine Sm.aald q9 (by decide) dX9_accepted_20 rfl (fun v10 => ?_)
    refine Sm.aload_n dX9_accepted_21 rfl rfl rfl ?_
    refine gf_X9_43 o7 dX9_accepted_22 rfl rfl (fun v11 => ?_)
    refine Sm.ck (fun o12 => ?_)
    refine kc_X9_104 o12 dX9_accepted_25 rfl (Nat.le_of_ble_eq_true rfl) (Nat.le_of_ble_eq_true rfl) rfl (fun v13 h14 => ?_)
    refine Sm.ck (fun o15 => ?_)
    refine kc_X9_123 o15 dX9_accepted_28 rfl (Nat.le_of_ble_eq_true rfl) (Nat.le_of_ble_eq_true rfl) rfl (fun v16 h17 => ?_)
    refine Sm.ck (fun o18 => ?_)
    refine kc_X9_133 o18 dX9_accepted_31 rfl (Nat.le_of_ble_eq_true rfl) (Nat.le_of_ble_eq_true rfl) rfl (fun v19 h20 => ?_)
    exact Sm.ret dX9_accepted_34 trivial rfl
set_option maxRecDepth 20000 in
theorem kc_L_55 {ρ : Type} {rv : ρ → Option Value} {G : Gx} {pc q : Nat} {lv st : List Value} {h : Hp} {a : Nat} {x1 : Int32} {e : Int64 → Hp → Option (ρ × Hp)} (hk : isO h a 9) (d : decode G.2.1 pc = .ok (.invokevirtual 55, 3)) (ho : G.1.cls = RL) (hdep : (g_X9_accepted).2.2.2.2 < G.2.2.2.2) (hcat : catS st ≤ 8) (hq : pc + 3 = q) (k : ∀ r h1, Sm rv G q lv (.long r :: st) h1 (e r h1)) : Sm rv G pc lv (.int x1 :: .ref a :: st) h (bd (f_X9_accepted a x1 h) e) :=
  Sm.callV (rv' := rvJ) (args := [.int x1]) (n := 1) (t_X9_accepted a x1 h) hk (by decide) (r := (RX9, TX9, 8)) rfl rfl ho mw_688 mw_689 mw_690 mw_1 mw_691 ⟨⟨by decide, rfl, hdep, Nat.le_of_ble_eq_true rfl⟩, Nat.le_of_ble_eq_true rfl, rfl, ⟨by decide, by decide⟩, hcat⟩ (by decide +kernel) (by intro v hv; simp only [List.mem_cons, List.not_mem_nil, or_false] at hv; rcases hv with rfl <;> intro x hx <;> cases hx) d hq k rfl
abbrev g_X9_spread : Gx := (yX9_spread, cX9_spread, 2, (Option.some FieldType.int), 12)
def f_X9_spread (l0 : Nat) (l1 : Int32) (h : Hp) : Option (Int32 × Hp) :=
  (bd (f_X9_isSlot l1 h) fun v1 h2 =>
(if v1 = 0 then
(ck h2 l0 9
(bd (f_X9_fail l0 (-2 : Int32) h2) fun v5 h6 =>
(some (v5, h6))))
else
(ck h2 l0 9
((gP h2 l0 2).bind fun v8 =>
(ca h2 v8 23 l1
((gP h2 v8 l1.toNatClampNeg).bind fun v10 =>
((gP h2 l0 6).bind fun v11 =>
(ck h2 v10 7
(bd (f_X7_upToDate v10 v11 h2) fun v13 h14 =>
(ck h14 v13 7
(bd (f_X7_relation v13 h14) fun v16 h17 =>
(ck h17 v16 6
(bd (f_X6_widest v16 h17) fun v19 h20 =>
(some (v19, h20)))))))))))))))
set_option maxRecDepth 20000 in
theorem t_X9_spread (l0 : Nat) (l1 : Int32) (h : Hp) : Sm rvI g_X9_spread 0 (ent 2 [.ref l0, .int l1]) [] h (f_X9_spread l0 l1 h) := by
  show Sm rvI g_X9_spread 0 [.ref l0, .int l1] [] h _
  unfold f_X9_spread
  refine Sm.iload_n dX9_spread_0 rfl rfl rfl ?_
  refine kc_X9_59 dX9_spread_1 rfl (Nat.le_of_ble_eq_true rfl) (Nat.le_of_ble_eq_true rfl) rfl (fun v1 h2 => ?_)
  refine Sm.if_ne (t := 14) dX9_spread_4 (by decide) rfl (fun b3 => ?_) (fun b3 => ?_)
  · refine Sm.aload_n dX9_spread_7 rfl rfl rfl ?_
    refine Sm.bipush dX9_spread_8 bp_m2 rfl ?_
    refine Sm.ck (fun o4 => ?_)
    refine kc_X9_55 o4 dX9_spread_10 rfl (Nat.le_of_ble_eq_true rfl) (Nat.le_of_ble_eq_true rfl) rfl (fun v5 h6 => ?_)
    exact Sm.ret dX9_spread_13 trivial rfl
  · refine Sm.aload_n dX9_spread_14 rfl rfl rfl ?_
    refine Sm.ck (fun o7 => ?_)
    refine gf_X9_19 o7 dX9_spread_15 rfl rfl (fun v8 => ?_)
    refine Sm.iload_n dX9_spread_18 rfl rfl rfl ?_
    refine Sm.ca (fun q9 => ?_)
    refine Sm.aald q9 (by decide) dX9_spread_19 rfl (fun v10 => ?_)
    refine Sm.aload_n dX9_spread_20 rfl rfl rfl ?_
    refine gf_X9_43 o7 dX9_spread_21 rfl rfl (fun v11 => ?_)
    refine Sm.ck (fun o12 => ?_)
    refine kc_X9_104 o12 dX9_spread_24 rfl (Nat.le_of_ble_eq_true rfl) (Nat.le_of_ble_eq_true rfl) rfl (fun v13 h14 => ?_)
    refine Sm.ck (fun o15 => ?_)
    refine kc_X9_123 o15 dX9_spread_27 rfl (Nat.le_of_ble_eq_true rfl) (Nat.le_of_ble_eq_true rfl) rfl (fun v16 h17 => ?_)
    refine Sm.ck (fun o18 => ?_)
    refine kc_X9_137 o18 dX9_spread_30 rfl (Nat.le_of_ble_eq_true rfl) (Nat.le_of_ble_eq_true rfl) rfl (fun v19 h20 => ?_)
    exact Sm.ret dX9_spread_33 trivial rfl
set_option maxRecDepth 20000 in
theorem kc_L_60 {ρ : Type} {rv : ρ → Option Value} {G : Gx} {pc q : Nat} {lv st : List Value} {h : Hp} {a : Nat} {x1 : Int32} {e : Int32 → Hp → Option (ρ × Hp)} (hk : isO h a 9) (d : decode G.2.1 pc = .ok (.invokevirtual 60, 3)) (ho : G.1.cls = RL) (hdep : (g_X9_spread).2.2.2.2 < G.2.2.2.2) (hcat : catS st ≤ 8) (hq : pc + 3 = q) (k : ∀ r h1, Sm rv G q lv (.int r :: st) h1 (e r h1)) : Sm rv G pc lv (.int x1 :: .ref a :: st) h (bd (f_X9_spread a x1 h) e) :=
  Sm.callV (rv' := rvI) (args := [.int x1]) (n := 1) (t_X9_spread a x1 h) hk (by decide) (r := (RX9, TX9, 8)) rfl rfl ho mw_697 mw_698 mw_699 mw_1 mw_700 ⟨⟨by decide, rfl, hdep, Nat.le_of_ble_eq_true rfl⟩, Nat.le_of_ble_eq_true rfl, rfl, ⟨by decide, by decide⟩, hcat⟩ (by decide +kernel) (by intro v hv; simp only [List.mem_cons, List.not_mem_nil, or_false] at hv; rcases hv with rfl <;> intro x hx <;> cases hx) d hq k rfl
abbrev g_X9_rounds : Gx := (yX9_rounds, cX9_rounds, 2, (Option.some FieldType.int), 12)
def f_X9_rounds (l0 : Nat) (l1 : Int32) (h : Hp) : Option (Int32 × Hp) :=
  (bd (f_X9_isSlot l1 h) fun v1 h2 =>
(if v1 = 0 then
(ck h2 l0 9
(bd (f_X9_fail l0 (-2 : Int32) h2) fun v5 h6 =>
(some (v5, h6))))
else
(ck h2 l0 9
((gP h2 l0 2).bind fun v8 =>
(ca h2 v8 23 l1
((gP h2 v8 l1.toNatClampNeg).bind fun v10 =>
((gP h2 l0 6).bind fun v11 =>
(ck h2 v10 7
(bd (f_X7_upToDate v10 v11 h2) fun v13 h14 =>
(ck h14 v13 7
(bd (f_X7_relation v13 h14) fun v16 h17 =>
(ck h17 v16 6
(bd (f_X6_mostSteps v16 h17) fun v19 h20 =>
(some (v19, h20)))))))))))))))
set_option maxRecDepth 20000 in
theorem t_X9_rounds (l0 : Nat) (l1 : Int32) (h : Hp) : Sm rvI g_X9_rounds 0 (ent 2 [.ref l0, .int l1]) [] h (f_X9_rounds l0 l1 h) := by
  show Sm rvI g_X9_rounds 0 [.ref l0, .int l1] [] h _
  unfold f_X9_rounds
  refine Sm.iload_n dX9_rounds_0 rfl rfl rfl ?_
  refine kc_X9_59 dX9_rounds_1 rfl (Nat.le_of_ble_eq_true rfl) (Nat.le_of_ble_eq_true rfl) rfl (fun v1 h2 => ?_)
  refine Sm.if_ne (t := 14) dX9_rounds_4 (by decide) rfl (fun b3 => ?_) (fun b3 => ?_)
  · refine Sm.aload_n dX9_rounds_7 rfl rfl rfl ?_
    refine Sm.bipush dX9_rounds_8 bp_m2 rfl ?_
    refine Sm.ck (fun o4 => ?_)
    refine kc_X9_55 o4 dX9_rounds_10 rfl (Nat.le_of_ble_eq_true rfl) (Nat.le_of_ble_eq_true rfl) rfl (fun v5 h6 => ?_)
    exact Sm.ret dX9_rounds_13 trivial rfl
  · refine Sm.aload_n dX9_rounds_14 rfl rfl rfl ?_
    refine Sm.ck (fun o7 => ?_)
    refine gf_X9_19 o7 dX9_rounds_15 rfl rfl (fun v8 => ?_)
    refine Sm.iload_n dX9_rounds_18 rfl rfl rfl ?_
    refine Sm.ca (fun q9 => ?_)
    refine Sm.aald q9 (by decide) dX9_rounds_19 rfl (fun v10 => ?_)
    refine Sm.aload_n dX9_rounds_20 rfl rfl rfl ?_
    refine gf_X9_43 o7 dX9_rounds_21 rfl rfl (fun v11 => ?_)
    refine Sm.ck (fun o12 => ?_)
    refine kc_X9_104 o12 dX9_rounds_24 rfl (Nat.le_of_ble_eq_true rfl) (Nat.le_of_ble_eq_true rfl) rfl (fun v13 h14 => ?_)
    refine Sm.ck (fun o15 => ?_)
    refine kc_X9_123 o15 dX9_rounds_27 rfl (Nat.le_of_ble_eq_true rfl) (Nat.le_of_ble_eq_true rfl) rfl (fun v16 h17 => ?_)
    refine Sm.ck (fun o18 => ?_)
    refine kc_X9_140 o18 dX9_rounds_30 rfl (Nat.le_of_ble_eq_true rfl) (Nat.le_of_ble_eq_true rfl) rfl (fun v19 h20 => ?_)
    exact Sm.ret dX9_rounds_33 trivial rfl
set_option maxRecDepth 20000 in
theorem kc_L_64 {ρ : Type} {rv : ρ → Option Value} {G : Gx} {pc q : Nat} {lv st : List Value} {h : Hp} {a : Nat} {x1 : Int32} {e : Int32 → Hp → Option (ρ × Hp)} (hk : isO h a 9) (d : decode G.2.1 pc = .ok (.invokevirtual 64, 3)) (ho : G.1.cls = RL) (hdep : (g_X9_rounds).2.2.2.2 < G.2.2.2.2) (hcat : catS st ≤ 8) (hq : pc + 3 = q) (k : ∀ r h1, Sm rv G q lv (.int r :: st) h1 (e r h1)) : Sm rv G pc lv (.int x1 :: .ref a :: st) h (bd (f_X9_rounds a x1 h) e) :=
  Sm.callV (rv' := rvI) (args := [.int x1]) (n := 1) (t_X9_rounds a x1 h) hk (by decide) (r := (RX9, TX9, 8)) rfl rfl ho mw_707 mw_708 mw_709 mw_1 mw_710 ⟨⟨by decide, rfl, hdep, Nat.le_of_ble_eq_true rfl⟩, Nat.le_of_ble_eq_true rfl, rfl, ⟨by decide, by decide⟩, hcat⟩ (by decide +kernel) (by intro v hv; simp only [List.mem_cons, List.not_mem_nil, or_false] at hv; rcases hv with rfl <;> intro x hx <;> cases hx) d hq k rfl
abbrev g_X9_compare : Gx := (yX9_compare, cX9_compare, 3, (Option.some FieldType.int), 12)
def f_X9_compare_14 (l0 : Nat) (h : Hp) : Option (Int32 × Hp) :=
  (ck h l0 9
(bd (f_X9_fail l0 (-2 : Int32) h) fun v5 h6 =>
(some (v5, h6))))
set_option maxRecDepth 20000 in
theorem t_X9_compare_14 (l0 : Nat) (h : Hp) : Sm rvI g_X9_compare 14 [.ref l0, .null, .null] [] h (f_X9_compare_14 l0 h) := by
  unfold f_X9_compare_14
  refine Sm.aload_n dX9_compare_14 rfl rfl rfl ?_
  refine Sm.bipush dX9_compare_15 bp_m2 rfl ?_
  refine Sm.ck (fun o4 => ?_)
  refine kc_X9_55 o4 dX9_compare_17 rfl (Nat.le_of_ble_eq_true rfl) (Nat.le_of_ble_eq_true rfl) rfl (fun v5 h6 => ?_)
  exact Sm.ret dX9_compare_20 trivial rfl
def f_X9_compare (l0 : Nat) (l1 : Int32) (l2 : Int32) (h : Hp) : Option (Int32 × Hp) :=
  (bd (f_X9_isSlot l1 h) fun v1 h2 =>
(if v1 = 0 then
(f_X9_compare_14 l0 h2)
else
(bd (f_X9_isSlot l2 h2) fun v7 h8 =>
(if v7 = 0 then
(f_X9_compare_14 l0 h8)
else
(ck h8 l0 9
((gP h8 l0 2).bind fun v11 =>
(ca h8 v11 23 l1
((gP h8 v11 l1.toNatClampNeg).bind fun v13 =>
((gP h8 l0 6).bind fun v14 =>
(ck h8 v13 7
(bd (f_X7_upToDate v13 v14 h8) fun v16 h17 =>
(ck h17 v16 7
(bd (f_X7_relation v16 h17) fun v19 h20 =>
(ck h20 l0 9
((gP h20 l0 2).bind fun v22 =>
(ca h20 v22 23 l2
((gP h20 v22 l2.toNatClampNeg).bind fun v24 =>
((gP h20 l0 6).bind fun v25 =>
(ck h20 v24 7
(bd (f_X7_upToDate v24 v25 h20) fun v27 h28 =>
(ck h28 v27 7
(bd (f_X7_relation v27 h28) fun v30 h31 =>
(ck h31 v19 6
(bd (f_X6_orderTo v19 v30 h31) fun v33 h34 =>
(some (v33, h34))))))))))))))))))))))))))
set_option maxRecDepth 20000 in
theorem t_X9_compare (l0 : Nat) (l1 : Int32) (l2 : Int32) (h : Hp) : Sm rvI g_X9_compare 0 (ent 3 [.ref l0, .int l1, .int l2]) [] h (f_X9_compare l0 l1 l2 h) := by
  show Sm rvI g_X9_compare 0 [.ref l0, .int l1, .int l2] [] h _
  unfold f_X9_compare
  refine Sm.iload_n dX9_compare_0 rfl rfl rfl ?_
  refine kc_X9_59 dX9_compare_1 rfl (Nat.le_of_ble_eq_true rfl) (Nat.le_of_ble_eq_true rfl) rfl (fun v1 h2 => ?_)
  refine Sm.if_eq (t := 14) dX9_compare_4 (by decide) rfl (fun b3 => ?_) (fun b3 => ?_)
  · exact Sm.wk (t_X9_compare_14 l0 h2) ⟨Or.inr rfl, Or.inl rfl, Or.inl rfl, trivial⟩
  · refine Sm.iload_n dX9_compare_7 rfl rfl rfl ?_
    refine kc_X9_59 dX9_compare_8 rfl (Nat.le_of_ble_eq_true rfl) (Nat.le_of_ble_eq_true rfl) rfl (fun v7 h8 => ?_)
    refine Sm.if_ne (t := 21) dX9_compare_11 (by decide) rfl (fun b9 => ?_) (fun b9 => ?_)
    · exact Sm.wk (t_X9_compare_14 l0 h8) ⟨Or.inr rfl, Or.inl rfl, Or.inl rfl, trivial⟩
    · refine Sm.aload_n dX9_compare_21 rfl rfl rfl ?_
      refine Sm.ck (fun o10 => ?_)
      refine gf_X9_19 o10 dX9_compare_22 rfl rfl (fun v11 => ?_)
      refine Sm.iload_n dX9_compare_25 rfl rfl rfl ?_
      refine Sm.ca (fun q12 => ?_)
      refine Sm.aald q12 (by decide) dX9_compare_26 rfl (fun v13 => ?_)
      refine Sm.aload_n dX9_compare_27 rfl rfl rfl ?_
      refine gf_X9_43 o10 dX9_compare_28 rfl rfl (fun v14 => ?_)
      refine Sm.ck (fun o15 => ?_)
      refine kc_X9_104 o15 dX9_compare_31 rfl (Nat.le_of_ble_eq_true rfl) (Nat.le_of_ble_eq_true rfl) rfl (fun v16 h17 => ?_)
      refine Sm.ck (fun o18 => ?_)
      refine kc_X9_123 o18 dX9_compare_34 rfl (Nat.le_of_ble_eq_true rfl) (Nat.le_of_ble_eq_true rfl) rfl (fun v19 h20 => ?_)
      refine Sm.aload_n dX9_compare_37 rfl rfl rfl ?_
      refine Sm.ck (fun o21 => ?_)
      refine gf_X9_19 o21 dX9_compare_38 rfl rfl (fun v22 => ?_)
      refine Sm.iload_n dX9_compare_41 rfl rfl rfl ?_
      refine Sm.ca (fun q23 => ?_)
      refine Sm.aald q23 (by decide) dX9_compare_42 rfl (fun v24 => ?_)
      refine Sm.aload_n dX9_compare_43 rfl rfl rfl ?_
      refine gf_X9_43 o21 dX9_compare_44 rfl rfl (fun v25 => ?_)
      refine Sm.ck (fun o26 => ?_)
      refine kc_X9_104 o26 dX9_compare_47 rfl (Nat.le_of_ble_eq_true rfl) (Nat.le_of_ble_eq_true rfl) rfl (fun v27 h28 => ?_)
      refine Sm.ck (fun o29 => ?_)
      refine kc_X9_123 o29 dX9_compare_50 rfl (Nat.le_of_ble_eq_true rfl) (Nat.le_of_ble_eq_true rfl) rfl (fun v30 h31 => ?_)
      refine Sm.ck (fun o32 => ?_)
      refine kc_X9_143 o32 dX9_compare_53 rfl (Nat.le_of_ble_eq_true rfl) (Nat.le_of_ble_eq_true rfl) rfl (fun v33 h34 => ?_)
      exact Sm.ret dX9_compare_56 trivial rfl
set_option maxRecDepth 20000 in
theorem kc_L_68 {ρ : Type} {rv : ρ → Option Value} {G : Gx} {pc q : Nat} {lv st : List Value} {h : Hp} {a : Nat} {x1 : Int32} {x2 : Int32} {e : Int32 → Hp → Option (ρ × Hp)} (hk : isO h a 9) (d : decode G.2.1 pc = .ok (.invokevirtual 68, 3)) (ho : G.1.cls = RL) (hdep : (g_X9_compare).2.2.2.2 < G.2.2.2.2) (hcat : catS st ≤ 8) (hq : pc + 3 = q) (k : ∀ r h1, Sm rv G q lv (.int r :: st) h1 (e r h1)) : Sm rv G pc lv (.int x2 :: .int x1 :: .ref a :: st) h (bd (f_X9_compare a x1 x2 h) e) :=
  Sm.callV (rv' := rvI) (args := [.int x1, .int x2]) (n := 2) (t_X9_compare a x1 x2 h) hk (by decide) (r := (RX9, TX9, 8)) rfl rfl ho mw_721 mw_722 mw_723 mw_1 mw_724 ⟨⟨by decide, rfl, hdep, Nat.le_of_ble_eq_true rfl⟩, Nat.le_of_ble_eq_true rfl, rfl, ⟨by decide, by decide⟩, hcat⟩ (by decide +kernel) (by intro v hv; simp only [List.mem_cons, List.not_mem_nil, or_false] at hv; rcases hv with rfl | rfl <;> intro x hx <;> cases hx) d hq k rfl
abbrev g_X9_witness : Gx := (yX9_witness, cX9_witness, 3, (Option.some FieldType.int), 12)
def f_X9_witness_14 (l0 : Nat) (h : Hp) : Option (Int32 × Hp) :=
  (ck h l0 9
(bd (f_X9_fail l0 (-2 : Int32) h) fun v5 h6 =>
(some (v5, h6))))
set_option maxRecDepth 20000 in
theorem t_X9_witness_14 (l0 : Nat) (h : Hp) : Sm rvI g_X9_witness 14 [.ref l0, .null, .null] [] h (f_X9_witness_14 l0 h) := by
  unfold f_X9_witness_14
  refine Sm.aload_n dX9_witness_14 rfl rfl rfl ?_
  refine Sm.bipush dX9_witness_15 bp_m2 rfl ?_
  refine Sm.ck (fun o4 => ?_)
  refine kc_X9_55 o4 dX9_witness_17 rfl (Nat.le_of_ble_eq_true rfl) (Nat.le_of_ble_eq_true rfl) rfl (fun v5 h6 => ?_)
  exact Sm.ret dX9_witness_20 trivial rfl
def f_X9_witness (l0 : Nat) (l1 : Int32) (l2 : Int32) (h : Hp) : Option (Int32 × Hp) :=
  (bd (f_X9_isSlot l1 h) fun v1 h2 =>
(if v1 = 0 then
(f_X9_witness_14 l0 h2)
else
(bd (f_X9_isSlot l2 h2) fun v7 h8 =>
(if v7 = 0 then
(f_X9_witness_14 l0 h8)
else
(ck h8 l0 9
((gP h8 l0 2).bind fun v11 =>
(ca h8 v11 23 l1
((gP h8 v11 l1.toNatClampNeg).bind fun v13 =>
((gP h8 l0 6).bind fun v14 =>
(ck h8 v13 7
(bd (f_X7_upToDate v13 v14 h8) fun v16 h17 =>
(ck h17 v16 7
(bd (f_X7_relation v16 h17) fun v19 h20 =>
(ck h20 l0 9
((gP h20 l0 2).bind fun v22 =>
(ca h20 v22 23 l2
((gP h20 v22 l2.toNatClampNeg).bind fun v24 =>
((gP h20 l0 6).bind fun v25 =>
(ck h20 v24 7
(bd (f_X7_upToDate v24 v25 h20) fun v27 h28 =>
(ck h28 v27 7
(bd (f_X7_relation v27 h28) fun v30 h31 =>
(ck h31 v19 6
(bd (f_X6_firstUnlike v19 v30 h31) fun v33 h34 =>
(some (v33, h34))))))))))))))))))))))))))
set_option maxRecDepth 20000 in
theorem t_X9_witness (l0 : Nat) (l1 : Int32) (l2 : Int32) (h : Hp) : Sm rvI g_X9_witness 0 (ent 3 [.ref l0, .int l1, .int l2]) [] h (f_X9_witness l0 l1 l2 h) := by
  show Sm rvI g_X9_witness 0 [.ref l0, .int l1, .int l2] [] h _
  unfold f_X9_witness
  refine Sm.iload_n dX9_witness_0 rfl rfl rfl ?_
  refine kc_X9_59 dX9_witness_1 rfl (Nat.le_of_ble_eq_true rfl) (Nat.le_of_ble_eq_true rfl) rfl (fun v1 h2 => ?_)
  refine Sm.if_eq (t := 14) dX9_witness_4 (by decide) rfl (fun b3 => ?_) (fun b3 => ?_)
  · exact Sm.wk (t_X9_witness_14 l0 h2) ⟨Or.inr rfl, Or.inl rfl, Or.inl rfl, trivial⟩
  · refine Sm.iload_n dX9_witness_7 rfl rfl rfl ?_
    refine kc_X9_59 dX9_witness_8 rfl (Nat.le_of_ble_eq_true rfl) (Nat.le_of_ble_eq_true rfl) rfl (fun v7 h8 => ?_)
    refine Sm.if_ne (t := 21) dX9_witness_11 (by decide) rfl (fun b9 => ?_) (fun b9 => ?_)
    · exact Sm.wk (t_X9_witness_14 l0 h8) ⟨Or.inr rfl, Or.inl rfl, Or.inl rfl, trivial⟩
    · refine Sm.aload_n dX9_witness_21 rfl rfl rfl ?_
      refine Sm.ck (fun o10 => ?_)
      refine gf_X9_19 o10 dX9_witness_22 rfl rfl (fun v11 => ?_)
      refine Sm.iload_n dX9_witness_25 rfl rfl rfl ?_
      refine Sm.ca (fun q12 => ?_)
      refine Sm.aald q12 (by decide) dX9_witness_26 rfl (fun v13 => ?_)
      refine Sm.aload_n dX9_witness_27 rfl rfl rfl ?_
      refine gf_X9_43 o10 dX9_witness_28 rfl rfl (fun v14 => ?_)
      refine Sm.ck (fun o15 => ?_)
      refine kc_X9_104 o15 dX9_witness_31 rfl (Nat.le_of_ble_eq_true rfl) (Nat.le_of_ble_eq_true rfl) rfl (fun v16 h17 => ?_)
      refine Sm.ck (fun o18 => ?_)
      refine kc_X9_123 o18 dX9_witness_34 rfl (Nat.le_of_ble_eq_true rfl) (Nat.le_of_ble_eq_true rfl) rfl (fun v19 h20 => ?_)
      refine Sm.aload_n dX9_witness_37 rfl rfl rfl ?_
      refine Sm.ck (fun o21 => ?_)
      refine gf_X9_19 o21 dX9_witness_38 rfl rfl (fun v22 => ?_)
      refine Sm.iload_n dX9_witness_41 rfl rfl rfl ?_
      refine Sm.ca (fun q23 => ?_)
      refine Sm.aald q23 (by decide) dX9_witness_42 rfl (fun v24 => ?_)
      refine Sm.aload_n dX9_witness_43 rfl rfl rfl ?_
      refine gf_X9_43 o21 dX9_witness_44 rfl rfl (fun v25 => ?_)
      refine Sm.ck (fun o26 => ?_)
      refine kc_X9_104 o26 dX9_witness_47 rfl (Nat.le_of_ble_eq_true rfl) (Nat.le_of_ble_eq_true rfl) rfl (fun v27 h28 => ?_)
      refine Sm.ck (fun o29 => ?_)
      refine kc_X9_123 o29 dX9_witness_50 rfl (Nat.le_of_ble_eq_true rfl) (Nat.le_of_ble_eq_true rfl) rfl (fun v30 h31 => ?_)
      refine Sm.ck (fun o32 => ?_)
      refine kc_X9_147 o32 dX9_witness_53 rfl (Nat.le_of_ble_eq_true rfl) (Nat.le_of_ble_eq_true rfl) rfl (fun v33 h34 => ?_)
      exact Sm.ret dX9_witness_56 trivial rfl
set_option maxRecDepth 20000 in
theorem kc_L_72 {ρ : Type} {rv : ρ → Option Value} {G : Gx} {pc q : Nat} {lv st : List Value} {h : Hp} {a : Nat} {x1 : Int32} {x2 : Int32} {e : Int32 → Hp → Option (ρ × Hp)} (hk : isO h a 9) (d : decode G.2.1 pc = .ok (.invokevirtual 72, 3)) (ho : G.1.cls = RL) (hdep : (g_X9_witness).2.2.2.2 < G.2.2.2.2) (hcat : catS st ≤ 8) (hq : pc + 3 = q) (k : ∀ r h1, Sm rv G q lv (.int r :: st) h1 (e r h1)) : Sm rv G pc lv (.int x2 :: .int x1 :: .ref a :: st) h (bd (f_X9_witness a x1 x2 h) e) :=
  Sm.callV (rv' := rvI) (args := [.int x1, .int x2]) (n := 2) (t_X9_witness a x1 x2 h) hk (by decide) (r := (RX9, TX9, 8)) rfl rfl ho mw_729 mw_730 mw_731 mw_1 mw_732 ⟨⟨by decide, rfl, hdep, Nat.le_of_ble_eq_true rfl⟩, Nat.le_of_ble_eq_true rfl, rfl, ⟨by decide, by decide⟩, hcat⟩ (by decide +kernel) (by intro v hv; simp only [List.mem_cons, List.not_mem_nil, or_false] at hv; rcases hv with rfl | rfl <;> intro x hx <;> cases hx) d hq k rfl
abbrev g_X9_difference : Gx := (yX9_difference, cX9_difference, 6, (Option.some FieldType.int), 12)
def f_X9_difference_14 (l0 : Nat) (h : Hp) : Option (Int32 × Hp) :=
  (ck h l0 9
(bd (f_X9_fail l0 (-2 : Int32) h) fun v5 h6 =>
(some (v5, h6))))
set_option maxRecDepth 20000 in
theorem t_X9_difference_14 (l0 : Nat) (h : Hp) : Sm rvI g_X9_difference 14 [.ref l0, .null, .null, .null, .null, .null] [] h (f_X9_difference_14 l0 h) := by
  unfold f_X9_difference_14
  refine Sm.aload_n dX9_difference_14 rfl rfl rfl ?_
  refine Sm.bipush dX9_difference_15 bp_m2 rfl ?_
  refine Sm.ck (fun o4 => ?_)
  refine kc_X9_55 o4 dX9_difference_17 rfl (Nat.le_of_ble_eq_true rfl) (Nat.le_of_ble_eq_true rfl) rfl (fun v5 h6 => ?_)
  exact Sm.ret dX9_difference_20 trivial rfl
def f_X9_difference (l0 : Nat) (l1 : Int32) (l2 : Int32) (h : Hp) : Option (Int32 × Hp) :=
  (bd (f_X9_isSlot l1 h) fun v1 h2 =>
(if v1 = 0 then
(f_X9_difference_14 l0 h2)
else
(bd (f_X9_isSlot l2 h2) fun v7 h8 =>
(if v7 = 0 then
(f_X9_difference_14 l0 h8)
else
(ck h8 l0 9
((gP h8 l0 2).bind fun v11 =>
(ca h8 v11 23 l1
((gP h8 v11 l1.toNatClampNeg).bind fun v13 =>
((gP h8 l0 6).bind fun v14 =>
(ck h8 v13 7
(bd (f_X7_upToDate v13 v14 h8) fun v16 h17 =>
(ck h17 v16 7
(bd (f_X7_relation v16 h17) fun v19 h20 =>
(ck h20 l0 9
((gP h20 l0 2).bind fun v22 =>
(ca h20 v22 23 l2
((gP h20 v22 l2.toNatClampNeg).bind fun v24 =>
((gP h20 l0 6).bind fun v25 =>
(ck h20 v24 7
(bd (f_X7_upToDate v24 v25 h20) fun v27 h28 =>
(ck h28 v27 7
(bd (f_X7_relation v27 h28) fun v30 h31 =>
(ck h31 v19 6
(bd (f_X6_firstUnlike v19 v30 h31) fun v33 h34 =>
(if v33 = (-1 : Int32) then
(some ((-1 : Int32), h34))
else
(ck h34 v19 6
(bd (f_X6_imageOf v19 v33 h34) fun v37 h38 =>
(ck h38 v30 6
(bd (f_X6_imageOf v30 v33 h38) fun v40 h41 =>
(bd (f_X9_lowestOf (v37 ^^^ v40) h41) fun v42 h43 =>
(some (v42, h43))))))))))))))))))))))))))))))))
set_option maxRecDepth 20000 in
theorem t_X9_difference (l0 : Nat) (l1 : Int32) (l2 : Int32) (h : Hp) : Sm rvI g_X9_difference 0 (ent 6 [.ref l0, .int l1, .int l2]) [] h (f_X9_difference l0 l1 l2 h) := by
  show Sm rvI g_X9_difference 0 [.ref l0, .int l1, .int l2, .null, .null, .null] [] h _
  unfold f_X9_difference
  refine Sm.iload_n dX9_difference_0 rfl rfl rfl ?_
  refine kc_X9_59 dX9_difference_1 rfl (Nat.le_of_ble_eq_true rfl) (Nat.le_of_ble_eq_true rfl) rfl (fun v1 h2 => ?_)
  refine Sm.if_eq (t := 14) dX9_difference_4 (by decide) rfl (fun b3 => ?_) (fun b3 => ?_)
  · exact Sm.wk (t_X9_difference_14 l0 h2) ⟨Or.inr rfl, Or.inl rfl, Or.inl rfl, Or.inl rfl, Or.inl rfl, Or.inl rfl, trivial⟩
  · refine Sm.iload_n dX9_difference_7 rfl rfl rfl ?_
    refine kc_X9_59 dX9_difference_8 rfl (Nat.le_of_ble_eq_true rfl) (Nat.le_of_ble_eq_true rfl) rfl (fun v7 h8 => ?_)
    refine Sm.if_ne (t := 21) dX9_difference_11 (by decide) rfl (fun b9 => ?_) (fun b9 => ?_)
    · exact Sm.wk (t_X9_difference_14 l0 h8) ⟨Or.inr rfl, Or.inl rfl, Or.inl rfl, Or.inl rfl, Or.inl rfl, Or.inl rfl, trivial⟩
    · refine Sm.aload_n dX9_difference_21 rfl rfl rfl ?_
      refine Sm.ck (fun o10 => ?_)
      refine gf_X9_19 o10 dX9_difference_22 rfl rfl (fun v11 => ?_)
      refine Sm.iload_n dX9_difference_25 rfl rfl rfl ?_
      refine Sm.ca (fun q12 => ?_)
      refine Sm.aald q12 (by decide) dX9_difference_26 rfl (fun v13 => ?_)
      refine Sm.aload_n dX9_difference_27 rfl rfl rfl ?_
      refine gf_X9_43 o10 dX9_difference_28 rfl rfl (fun v14 => ?_)
      refine Sm.ck (fun o15 => ?_)
      refine kc_X9_104 o15 dX9_difference_31 rfl (Nat.le_of_ble_eq_true rfl) (Nat.le_of_ble_eq_true rfl) rfl (fun v16 h17 => ?_)
      refine Sm.ck (fun o18 => ?_)
      refine kc_X9_123 o18 dX9_difference_34 rfl (Nat.le_of_ble_eq_true rfl) (Nat.le_of_ble_eq_true rfl) rfl (fun v19 h20 => ?_)
      refine Sm.astore_n (lv' := [.ref l0, .int l1, .int l2, .ref v19, .null, .null]) dX9_difference_37 rfl (Nat.le_of_ble_eq_true rfl) rfl rfl ?_
      refine Sm.aload_n dX9_difference_38 rfl rfl rfl ?_
      refine Sm.ck (fun o21 => ?_)
      refine gf_X9_19 o21 dX9_difference_39 rfl rfl (fun v22 => ?_)
      refine Sm.iload_n dX9_difference_42 rfl rfl rfl ?_
      refine Sm.ca (fun q23 => ?_)
      refine Sm.aald q23 (by decide) dX9_difference_43 rfl (fun v24 => ?_)
      refine Sm.aload_n dX9_difference_44 rfl rfl rfl ?_
      refine gf_X9_43 o21 dX9_difference_45 rfl rfl (fun v25 => ?_)
      refine Sm.ck (fun o26 => ?_)
      refine kc_X9_104 o26 dX9_difference_48 rfl (Nat.le_of_ble_eq_true rfl) (Nat.le_of_ble_eq_true rfl) rfl (fun v27 h28 => ?_)
      refine Sm.ck (fun o29 => ?_)
      refine kc_X9_123 o29 dX9_difference_51 rfl (Nat.le_of_ble_eq_true rfl) (Nat.le_of_ble_eq_true rfl) rfl (fun v30 h31 => ?_)
      refine Sm.astore (lv' := [.ref l0, .int l1, .int l2, .ref v19, .ref v30, .null]) dX9_difference_54 (Nat.le_of_ble_eq_true rfl) rfl rfl ?_
      refine Sm.aload_n dX9_difference_56 rfl rfl rfl ?_
      refine Sm.aload dX9_difference_57 rfl rfl ?_
      refine Sm.ck (fun o32 => ?_)
      refine kc_X9_147 o32 dX9_difference_59 rfl (Nat.le_of_ble_eq_true rfl) (Nat.le_of_ble_eq_true rfl) rfl (fun v33 h34 => ?_)
      refine Sm.istore (lv' := [.ref l0, .int l1, .int l2, .ref v19, .ref v30, .int v33]) dX9_difference_62 (Nat.le_of_ble_eq_true rfl) rfl rfl ?_
      refine Sm.iload dX9_difference_64 rfl rfl ?_
      refine Sm.iconst dX9_difference_66 ic_m1 rfl ?_
      refine Sm.icmp_ne (t := 74) dX9_difference_67 (by decide) rfl (fun b35 => ?_) (fun b35 => ?_)
      · refine Sm.iconst dX9_difference_70 ic_m1 rfl ?_
        refine Sm.goto (t := 91) dX9_difference_71 (by decide) ?_
        exact Sm.ret dX9_difference_91 trivial rfl
      · refine Sm.aload_n dX9_difference_74 rfl rfl rfl ?_
        refine Sm.iload dX9_difference_75 rfl rfl ?_
        refine Sm.ck (fun o36 => ?_)
        refine kc_X9_127 o36 dX9_difference_77 rfl (Nat.le_of_ble_eq_true rfl) (Nat.le_of_ble_eq_true rfl) rfl (fun v37 h38 => ?_)
        refine Sm.aload dX9_difference_80 rfl rfl ?_
        refine Sm.iload dX9_difference_82 rfl rfl ?_
        refine Sm.ck (fun o39 => ?_)
        refine kc_X9_127 o39 dX9_difference_84 rfl (Nat.le_of_ble_eq_true rfl) (Nat.le_of_ble_eq_true rfl) rfl (fun v40 h41 => ?_)
        refine Sm.lxor dX9_difference_87 rfl ?_
        refine kc_X9_150 dX9_difference_88 rfl (Nat.le_of_ble_eq_true rfl) (Nat.le_of_ble_eq_true rfl) rfl (fun v42 h43 => ?_)
        exact Sm.ret dX9_difference_91 trivial rfl
set_option maxRecDepth 20000 in
theorem kc_L_76 {ρ : Type} {rv : ρ → Option Value} {G : Gx} {pc q : Nat} {lv st : List Value} {h : Hp} {a : Nat} {x1 : Int32} {x2 : Int32} {e : Int32 → Hp → Option (ρ × Hp)} (hk : isO h a 9) (d : decode G.2.1 pc = .ok (.invokevirtual 76, 3)) (ho : G.1.cls = RL) (hdep : (g_X9_difference).2.2.2.2 < G.2.2.2.2) (hcat : catS st ≤ 8) (hq : pc + 3 = q) (k : ∀ r h1, Sm rv G q lv (.int r :: st) h1 (e r h1)) : Sm rv G pc lv (.int x2 :: .int x1 :: .ref a :: st) h (bd (f_X9_difference a x1 x2 h) e) :=
  Sm.callV (rv' := rvI) (args := [.int x1, .int x2]) (n := 2) (t_X9_difference a x1 x2 h) hk (by decide) (r := (RX9, TX9, 8)) rfl rfl ho mw_737 mw_738 mw_739 mw_1 mw_740 ⟨⟨by decide, rfl, hdep, Nat.le_of_ble_eq_true rfl⟩, Nat.le_of_ble_eq_true rfl, rfl, ⟨by decide, by decide⟩, hcat⟩ (by decide +kernel) (by intro v hv; simp only [List.mem_cons, List.not_mem_nil, or_false] at hv; rcases hv with rfl | rfl <;> intro x hx <;> cases hx) d hq k rfl
abbrev g_X9_diagramSize : Gx := (yX9_diagramSize, cX9_diagramSize, 2, (Option.some FieldType.int), 12)
def f_X9_diagramSize (l0 : Nat) (l1 : Int32) (h : Hp) : Option (Int32 × Hp) :=
  (bd (f_X9_isSlot l1 h) fun v1 h2 =>
(if v1 = 0 then
(ck h2 l0 9
(bd (f_X9_fail l0 (-2 : Int32) h2) fun v5 h6 =>
(some (v5, h6))))
else
(ck h2 l0 9
((gP h2 l0 2).bind fun v8 =>
(ca h2 v8 23 l1
((gP h2 v8 l1.toNatClampNeg).bind fun v10 =>
((gP h2 l0 6).bind fun v11 =>
(ck h2 v10 7
(bd (f_X7_upToDate v10 v11 h2) fun v13 h14 =>
(ck h14 v13 7
(bd (f_X7_diagram v13 h14) fun v16 h17 =>
(ck h17 v16 0
(bd (f_X0_nodeTotal v16 h17) fun v19 h20 =>
(some (v19, h20)))))))))))))))
set_option maxRecDepth 20000 in
theorem t_X9_diagramSize (l0 : Nat) (l1 : Int32) (h : Hp) : Sm rvI g_X9_diagramSize 0 (ent 2 [.ref l0, .int l1]) [] h (f_X9_diagramSize l0 l1 h) := by
  show Sm rvI g_X9_diagramSize 0 [.ref l0, .int l1] [] h _
  unfold f_X9_diagramSize
  refine Sm.iload_n dX9_diagramSize_0 rfl rfl rfl ?_
  refine kc_X9_59 dX9_diagramSize_1 rfl (Nat.le_of_ble_eq_true rfl) (Nat.le_of_ble_eq_true rfl) rfl (fun v1 h2 => ?_)
  refine Sm.if_ne (t := 14) dX9_diagramSize_4 (by decide) rfl (fun b3 => ?_) (fun b3 => ?_)
  · refine Sm.aload_n dX9_diagramSize_7 rfl rfl rfl ?_
    refine Sm.bipush dX9_diagramSize_8 bp_m2 rfl ?_
    refine Sm.ck (fun o4 => ?_)
    refine kc_X9_55 o4 dX9_diagramSize_10 rfl (Nat.le_of_ble_eq_true rfl) (Nat.le_of_ble_eq_true rfl) rfl (fun v5 h6 => ?_)
    exact Sm.ret dX9_diagramSize_13 trivial rfl
  · refine Sm.aload_n dX9_diagramSize_14 rfl rfl rfl ?_
    refine Sm.ck (fun o7 => ?_)
    refine gf_X9_19 o7 dX9_diagramSize_15 rfl rfl (fun v8 => ?_)
    refine Sm.iload_n dX9_diagramSize_18 rfl rfl rfl ?_
    refine Sm.ca (fun q9 => ?_)
    refine Sm.aald q9 (by decide) dX9_diagramSize_19 rfl (fun v10 => ?_)
    refine Sm.aload_n dX9_diagramSize_20 rfl rfl rfl ?_
    refine gf_X9_43 o7 dX9_diagramSize_21 rfl rfl (fun v11 => ?_)
    refine Sm.ck (fun o12 => ?_)
    refine kc_X9_104 o12 dX9_diagramSize_24 rfl (Nat.le_of_ble_eq_true rfl) (Nat.le_of_ble_eq_true rfl) rfl (fun v13 h14 => ?_)
    refine Sm.ck (fun o15 => ?_)
    refine kc_X9_154 o15 dX9_diagramSize_27 rfl (Nat.le_of_ble_eq_true rfl) (Nat.le_of_ble_eq_true rfl) rfl (fun v16 h17 => ?_)
    refine Sm.ck (fun o18 => ?_)
    refine kc_X9_158 o18 dX9_diagramSize_30 rfl (Nat.le_of_ble_eq_true rfl) (Nat.le_of_ble_eq_true rfl) rfl (fun v19 h20 => ?_)
    exact Sm.ret dX9_diagramSize_33 trivial rfl
set_option maxRecDepth 20000 in
theorem kc_L_80 {ρ : Type} {rv : ρ → Option Value} {G : Gx} {pc q : Nat} {lv st : List Value} {h : Hp} {a : Nat} {x1 : Int32} {e : Int32 → Hp → Option (ρ × Hp)} (hk : isO h a 9) (d : decode G.2.1 pc = .ok (.invokevirtual 80, 3)) (ho : G.1.cls = RL) (hdep : (g_X9_diagramSize).2.2.2.2 < G.2.2.2.2) (hcat : catS st ≤ 8) (hq : pc + 3 = q) (k : ∀ r h1, Sm rv G q lv (.int r :: st) h1 (e r h1)) : Sm rv G pc lv (.int x1 :: .ref a :: st) h (bd (f_X9_diagramSize a x1 h) e) :=
  Sm.callV (rv' := rvI) (args := [.int x1]) (n := 1) (t_X9_diagramSize a x1 h) hk (by decide) (r := (RX9, TX9, 8)) rfl rfl ho mw_741 mw_742 mw_743 mw_1 mw_744 ⟨⟨by decide, rfl, hdep, Nat.le_of_ble_eq_true rfl⟩, Nat.le_of_ble_eq_true rfl, rfl, ⟨by decide, by decide⟩, hcat⟩ (by decide +kernel) (by intro v hv; simp only [List.mem_cons, List.not_mem_nil, or_false] at hv; rcases hv with rfl <;> intro x hx <;> cases hx) d hq k rfl
abbrev g_X9_leaves : Gx := (yX9_leaves, cX9_leaves, 2, (Option.some FieldType.int), 12)
def f_X9_leaves (l0 : Nat) (l1 : Int32) (h : Hp) : Option (Int32 × Hp) :=
  (bd (f_X9_isSlot l1 h) fun v1 h2 =>
(if v1 = 0 then
(ck h2 l0 9
(bd (f_X9_fail l0 (-2 : Int32) h2) fun v5 h6 =>
(some (v5, h6))))
else
(ck h2 l0 9
((gP h2 l0 2).bind fun v8 =>
(ca h2 v8 23 l1
((gP h2 v8 l1.toNatClampNeg).bind fun v10 =>
((gP h2 l0 6).bind fun v11 =>
(ck h2 v10 7
(bd (f_X7_upToDate v10 v11 h2) fun v13 h14 =>
(ck h14 v13 7
(bd (f_X7_diagram v13 h14) fun v16 h17 =>
(ck h17 v16 0
(bd (f_X0_leafTotal v16 h17) fun v19 h20 =>
(some (v19, h20)))))))))))))))
set_option maxRecDepth 20000 in
theorem t_X9_leaves (l0 : Nat) (l1 : Int32) (h : Hp) : Sm rvI g_X9_leaves 0 (ent 2 [.ref l0, .int l1]) [] h (f_X9_leaves l0 l1 h) := by
  show Sm rvI g_X9_leaves 0 [.ref l0, .int l1] [] h _
  unfold f_X9_leaves
  refine Sm.iload_n dX9_leaves_0 rfl rfl rfl ?_
  refine kc_X9_59 dX9_leaves_1 rfl (Nat.le_of_ble_eq_true rfl) (Nat.le_of_ble_eq_true rfl) rfl (fun v1 h2 => ?_)
  refine Sm.if_ne (t := 14) dX9_leaves_4 (by decide) rfl (fun b3 => ?_) (fun b3 => ?_)
  · refine Sm.aload_n dX9_leaves_7 rfl rfl rfl ?_
    refine Sm.bipush dX9_leaves_8 bp_m2 rfl ?_
    refine Sm.ck (fun o4 => ?_)
    refine kc_X9_55 o4 dX9_leaves_10 rfl (Nat.le_of_ble_eq_true rfl) (Nat.le_of_ble_eq_true rfl) rfl (fun v5 h6 => ?_)
    exact Sm.ret dX9_leaves_13 trivial rfl
  · refine Sm.aload_n dX9_leaves_14 rfl rfl rfl ?_
    refine Sm.ck (fun o7 => ?_)
    refine gf_X9_19 o7 dX9_leaves_15 rfl rfl (fun v8 => ?_)
    refine Sm.iload_n dX9_leaves_18 rfl rfl rfl ?_
    refine Sm.ca (fun q9 => ?_)
    refine Sm.aald q9 (by decide) dX9_leaves_19 rfl (fun v10 => ?_)
    refine Sm.aload_n dX9_leaves_20 rfl rfl rfl ?_
    refine gf_X9_43 o7 dX9_leaves_21 rfl rfl (fun v11 => ?_)
    refine Sm.ck (fun o12 => ?_)
    refine kc_X9_104 o12 dX9_leaves_24 rfl (Nat.le_of_ble_eq_true rfl) (Nat.le_of_ble_eq_true rfl) rfl (fun v13 h14 => ?_)
    refine Sm.ck (fun o15 => ?_)
    refine kc_X9_154 o15 dX9_leaves_27 rfl (Nat.le_of_ble_eq_true rfl) (Nat.le_of_ble_eq_true rfl) rfl (fun v16 h17 => ?_)
    refine Sm.ck (fun o18 => ?_)
    refine kc_X9_163 o18 dX9_leaves_30 rfl (Nat.le_of_ble_eq_true rfl) (Nat.le_of_ble_eq_true rfl) rfl (fun v19 h20 => ?_)
    exact Sm.ret dX9_leaves_33 trivial rfl
set_option maxRecDepth 20000 in
theorem kc_L_84 {ρ : Type} {rv : ρ → Option Value} {G : Gx} {pc q : Nat} {lv st : List Value} {h : Hp} {a : Nat} {x1 : Int32} {e : Int32 → Hp → Option (ρ × Hp)} (hk : isO h a 9) (d : decode G.2.1 pc = .ok (.invokevirtual 84, 3)) (ho : G.1.cls = RL) (hdep : (g_X9_leaves).2.2.2.2 < G.2.2.2.2) (hcat : catS st ≤ 8) (hq : pc + 3 = q) (k : ∀ r h1, Sm rv G q lv (.int r :: st) h1 (e r h1)) : Sm rv G pc lv (.int x1 :: .ref a :: st) h (bd (f_X9_leaves a x1 h) e) :=
  Sm.callV (rv' := rvI) (args := [.int x1]) (n := 1) (t_X9_leaves a x1 h) hk (by decide) (r := (RX9, TX9, 8)) rfl rfl ho mw_753 mw_754 mw_755 mw_1 mw_756 ⟨⟨by decide, rfl, hdep, Nat.le_of_ble_eq_true rfl⟩, Nat.le_of_ble_eq_true rfl, rfl, ⟨by decide, by decide⟩, hcat⟩ (by decide +kernel) (by intro v hv; simp only [List.mem_cons, List.not_mem_nil, or_false] at hv; rcases hv with rfl <;> intro x hx <;> cases hx) d hq k rfl
abbrev g_X9_diagramDepth : Gx := (yX9_diagramDepth, cX9_diagramDepth, 2, (Option.some FieldType.int), 12)
def f_X9_diagramDepth (l0 : Nat) (l1 : Int32) (h : Hp) : Option (Int32 × Hp) :=
  (bd (f_X9_isSlot l1 h) fun v1 h2 =>
(if v1 = 0 then
(ck h2 l0 9
(bd (f_X9_fail l0 (-2 : Int32) h2) fun v5 h6 =>
(some (v5, h6))))
else
(ck h2 l0 9
((gP h2 l0 2).bind fun v8 =>
(ca h2 v8 23 l1
((gP h2 v8 l1.toNatClampNeg).bind fun v10 =>
((gP h2 l0 6).bind fun v11 =>
(ck h2 v10 7
(bd (f_X7_upToDate v10 v11 h2) fun v13 h14 =>
(ck h14 v13 7
(bd (f_X7_diagram v13 h14) fun v16 h17 =>
(ck h17 v16 0
(bd (f_X0_longestWay v16 h17) fun v19 h20 =>
(some (v19, h20)))))))))))))))
set_option maxRecDepth 20000 in
theorem t_X9_diagramDepth (l0 : Nat) (l1 : Int32) (h : Hp) : Sm rvI g_X9_diagramDepth 0 (ent 2 [.ref l0, .int l1]) [] h (f_X9_diagramDepth l0 l1 h) := by
  show Sm rvI g_X9_diagramDepth 0 [.ref l0, .int l1] [] h _
  unfold f_X9_diagramDepth
  refine Sm.iload_n dX9_diagramDepth_0 rfl rfl rfl ?_
  refine kc_X9_59 dX9_diagramDepth_1 rfl (Nat.le_of_ble_eq_true rfl) (Nat.le_of_ble_eq_true rfl) rfl (fun v1 h2 => ?_)
  refine Sm.if_ne (t := 14) dX9_diagramDepth_4 (by decide) rfl (fun b3 => ?_) (fun b3 => ?_)
  · refine Sm.aload_n dX9_diagramDepth_7 rfl rfl rfl ?_
    refine Sm.bipush dX9_diagramDepth_8 bp_m2 rfl ?_
    refine Sm.ck (fun o4 => ?_)
    refine kc_X9_55 o4 dX9_diagramDepth_10 rfl (Nat.le_of_ble_eq_true rfl) (Nat.le_of_ble_eq_true rfl) rfl (fun v5 h6 => ?_)
    exact Sm.ret dX9_diagramDepth_13 trivial rfl
  · refine Sm.aload_n dX9_diagramDepth_14 rfl rfl rfl ?_
    refine Sm.ck (fun o7 => ?_)
    refine gf_X9_19 o7 dX9_diagramDepth_15 rfl rfl (fun v8 => ?_)
    refine Sm.iload_n dX9_diagramDepth_18 rfl rfl rfl ?_
    refine Sm.ca (fun q9 => ?_)
    refine Sm.aald q9 (by decide) dX9_diagramDepth_19 rfl (fun v10 => ?_)
    refine Sm.aload_n dX9_diagramDepth_20 rfl rfl rfl ?_
    refine gf_X9_43 o7 dX9_diagramDepth_21 rfl rfl (fun v11 => ?_)
    refine Sm.ck (fun o12 => ?_)
    refine kc_X9_104 o12 dX9_diagramDepth_24 rfl (Nat.le_of_ble_eq_true rfl) (Nat.le_of_ble_eq_true rfl) rfl (fun v13 h14 => ?_)
    refine Sm.ck (fun o15 => ?_)
    refine kc_X9_154 o15 dX9_diagramDepth_27 rfl (Nat.le_of_ble_eq_true rfl) (Nat.le_of_ble_eq_true rfl) rfl (fun v16 h17 => ?_)
    refine Sm.ck (fun o18 => ?_)
    refine kc_X9_166 o18 dX9_diagramDepth_30 rfl (Nat.le_of_ble_eq_true rfl) (Nat.le_of_ble_eq_true rfl) rfl (fun v19 h20 => ?_)
    exact Sm.ret dX9_diagramDepth_33 trivial rfl
set_option maxRecDepth 20000 in
theorem kc_L_88 {ρ : Type} {rv : ρ → Option Value} {G : Gx} {pc q : Nat} {lv st : List Value} {h : Hp} {a : Nat} {x1 : Int32} {e : Int32 → Hp → Option (ρ × Hp)} (hk : isO h a 9) (d : decode G.2.1 pc = .ok (.invokevirtual 88, 3)) (ho : G.1.cls = RL) (hdep : (g_X9_diagramDepth).2.2.2.2 < G.2.2.2.2) (hcat : catS st ≤ 8) (hq : pc + 3 = q) (k : ∀ r h1, Sm rv G q lv (.int r :: st) h1 (e r h1)) : Sm rv G pc lv (.int x1 :: .ref a :: st) h (bd (f_X9_diagramDepth a x1 h) e) :=
  Sm.callV (rv' := rvI) (args := [.int x1]) (n := 1) (t_X9_diagramDepth a x1 h) hk (by decide) (r := (RX9, TX9, 8)) rfl rfl ho mw_761 mw_762 mw_763 mw_1 mw_764 ⟨⟨by decide, rfl, hdep, Nat.le_of_ble_eq_true rfl⟩, Nat.le_of_ble_eq_true rfl, rfl, ⟨by decide, by decide⟩, hcat⟩ (by decide +kernel) (by intro v hv; simp only [List.mem_cons, List.not_mem_nil, or_false] at hv; rcases hv with rfl <;> intro x hx <;> cases hx) d hq k rfl
abbrev g_X9_sharedNodes : Gx := (yX9_sharedNodes, cX9_sharedNodes, 3, (Option.some FieldType.int), 12)
def f_X9_sharedNodes_14 (l0 : Nat) (h : Hp) : Option (Int32 × Hp) :=
  (ck h l0 9
(bd (f_X9_fail l0 (-2 : Int32) h) fun v5 h6 =>
(some (v5, h6))))
set_option maxRecDepth 20000 in
theorem t_X9_sharedNodes_14 (l0 : Nat) (h : Hp) : Sm rvI g_X9_sharedNodes 14 [.ref l0, .null, .null] [] h (f_X9_sharedNodes_14 l0 h) := by
  unfold f_X9_sharedNodes_14
  refine Sm.aload_n dX9_sharedNodes_14 rfl rfl rfl ?_
  refine Sm.bipush dX9_sharedNodes_15 bp_m2 rfl ?_
  refine Sm.ck (fun o4 => ?_)
  refine kc_X9_55 o4 dX9_sharedNodes_17 rfl (Nat.le_of_ble_eq_true rfl) (Nat.le_of_ble_eq_true rfl) rfl (fun v5 h6 => ?_)
  exact Sm.ret dX9_sharedNodes_20 trivial rfl
def f_X9_sharedNodes (l0 : Nat) (l1 : Int32) (l2 : Int32) (h : Hp) : Option (Int32 × Hp) :=
  (bd (f_X9_isSlot l1 h) fun v1 h2 =>
(if v1 = 0 then
(f_X9_sharedNodes_14 l0 h2)
else
(bd (f_X9_isSlot l2 h2) fun v7 h8 =>
(if v7 = 0 then
(f_X9_sharedNodes_14 l0 h8)
else
(ck h8 l0 9
((gP h8 l0 2).bind fun v11 =>
(ca h8 v11 23 l1
((gP h8 v11 l1.toNatClampNeg).bind fun v13 =>
((gP h8 l0 6).bind fun v14 =>
(ck h8 v13 7
(bd (f_X7_upToDate v13 v14 h8) fun v16 h17 =>
(ck h17 v16 7
(bd (f_X7_diagram v16 h17) fun v19 h20 =>
(ck h20 l0 9
((gP h20 l0 2).bind fun v22 =>
(ca h20 v22 23 l2
((gP h20 v22 l2.toNatClampNeg).bind fun v24 =>
((gP h20 l0 6).bind fun v25 =>
(ck h20 v24 7
(bd (f_X7_upToDate v24 v25 h20) fun v27 h28 =>
(ck h28 v27 7
(bd (f_X7_diagram v27 h28) fun v30 h31 =>
(ck h31 v19 0
(bd (f_X0_twinsIn v19 v30 h31) fun v33 h34 =>
(some (v33, h34))))))))))))))))))))))))))
set_option maxRecDepth 20000 in
theorem t_X9_sharedNodes (l0 : Nat) (l1 : Int32) (l2 : Int32) (h : Hp) : Sm rvI g_X9_sharedNodes 0 (ent 3 [.ref l0, .int l1, .int l2]) [] h (f_X9_sharedNodes l0 l1 l2 h) := by
  show Sm rvI g_X9_sharedNodes 0 [.ref l0, .int l1, .int l2] [] h _
  unfold f_X9_sharedNodes
  refine Sm.iload_n dX9_sharedNodes_0 rfl rfl rfl ?_
  refine kc_X9_59 dX9_sharedNodes_1 rfl (Nat.le_of_ble_eq_true rfl) (Nat.le_of_ble_eq_true rfl) rfl (fun v1 h2 => ?_)
  refine Sm.if_eq (t := 14) dX9_sharedNodes_4 (by decide) rfl (fun b3 => ?_) (fun b3 => ?_)
  · exact Sm.wk (t_X9_sharedNodes_14 l0 h2) ⟨Or.inr rfl, Or.inl rfl, Or.inl rfl, trivial⟩
  · refine Sm.iload_n dX9_sharedNodes_7 rfl rfl rfl ?_
    refine kc_X9_59 dX9_sharedNodes_8 rfl (Nat.le_of_ble_eq_true rfl) (Nat.le_of_ble_eq_true rfl) rfl (fun v7 h8 => ?_)
    refine Sm.if_ne (t := 21) dX9_sharedNodes_11 (by decide) rfl (fun b9 => ?_) (fun b9 => ?_)
    · exact Sm.wk (t_X9_sharedNodes_14 l0 h8) ⟨Or.inr rfl, Or.inl rfl, Or.inl rfl, trivial⟩
    · refine Sm.aload_n dX9_sharedNodes_21 rfl rfl rfl ?_
      refine Sm.ck (fun o10 => ?_)
      refine gf_X9_19 o10 dX9_sharedNodes_22 rfl rfl (fun v11 => ?_)
      refine Sm.iload_n dX9_sharedNodes_25 rfl rfl rfl ?_
      refine Sm.ca (fun q12 => ?_)
      refine Sm.aald q12 (by decide) dX9_sharedNodes_26 rfl (fun v13 => ?_)
      refine Sm.aload_n dX9_sharedNodes_27 rfl rfl rfl ?_
      refine gf_X9_43 o10 dX9_sharedNodes_28 rfl rfl (fun v14 => ?_)
      refine Sm.ck (fun o15 => ?_)
      refine kc_X9_104 o15 dX9_sharedNodes_31 rfl (Nat.le_of_ble_eq_true rfl) (Nat.le_of_ble_eq_true rfl) rfl (fun v16 h17 => ?_)
      refine Sm.ck (fun o18 => ?_)
      refine kc_X9_154 o18 dX9_sharedNodes_34 rfl (Nat.le_of_ble_eq_true rfl) (Nat.le_of_ble_eq_true rfl) rfl (fun v19 h20 => ?_)
      refine Sm.aload_n dX9_sharedNodes_37 rfl rfl rfl ?_
      refine Sm.ck (fun o21 => ?_)
      refine gf_X9_19 o21 dX9_sharedNodes_38 rfl rfl (fun v22 => ?_)
      refine Sm.iload_n dX9_sharedNodes_41 rfl rfl rfl ?_
      refine Sm.ca (fun q23 => ?_)
      refine Sm.aald q23 (by decide) dX9_sharedNodes_42 rfl (fun v24 => ?_)
      refine Sm.aload_n dX9_sharedNodes_43 rfl rfl rfl ?_
      refine gf_X9_43 o21 dX9_sharedNodes_44 rfl rfl (fun v25 => ?_)
      refine Sm.ck (fun o26 => ?_)
      refine kc_X9_104 o26 dX9_sharedNodes_47 rfl (Nat.le_of_ble_eq_true rfl) (Nat.le_of_ble_eq_true rfl) rfl (fun v27 h28 => ?_)
      refine Sm.ck (fun o29 => ?_)
      refine kc_X9_154 o29 dX9_sharedNodes_50 rfl (Nat.le_of_ble_eq_true rfl) (Nat.le_of_ble_eq_true rfl) rfl (fun v30 h31 => ?_)
      refine Sm.ck (fun o32 => ?_)
      refine kc_X9_169 o32 dX9_sharedNodes_53 rfl (Nat.le_of_ble_eq_true rfl) (Nat.le_of_ble_eq_true rfl) rfl (fun v33 h34 => ?_)
      exact Sm.ret dX9_sharedNodes_56 trivial rfl
set_option maxRecDepth 20000 in
theorem kc_L_92 {ρ : Type} {rv : ρ → Option Value} {G : Gx} {pc q : Nat} {lv st : List Value} {h : Hp} {a : Nat} {x1 : Int32} {x2 : Int32} {e : Int32 → Hp → Option (ρ × Hp)} (hk : isO h a 9) (d : decode G.2.1 pc = .ok (.invokevirtual 92, 3)) (ho : G.1.cls = RL) (hdep : (g_X9_sharedNodes).2.2.2.2 < G.2.2.2.2) (hcat : catS st ≤ 8) (hq : pc + 3 = q) (k : ∀ r h1, Sm rv G q lv (.int r :: st) h1 (e r h1)) : Sm rv G pc lv (.int x2 :: .int x1 :: .ref a :: st) h (bd (f_X9_sharedNodes a x1 x2 h) e) :=
  Sm.callV (rv' := rvI) (args := [.int x1, .int x2]) (n := 2) (t_X9_sharedNodes a x1 x2 h) hk (by decide) (r := (RX9, TX9, 8)) rfl rfl ho mw_769 mw_770 mw_771 mw_1 mw_772 ⟨⟨by decide, rfl, hdep, Nat.le_of_ble_eq_true rfl⟩, Nat.le_of_ble_eq_true rfl, rfl, ⟨by decide, by decide⟩, hcat⟩ (by decide +kernel) (by intro v hv; simp only [List.mem_cons, List.not_mem_nil, or_false] at hv; rcases hv with rfl | rfl <;> intro x hx <;> cases hx) d hq k rfl
abbrev g_X9_rows : Gx := (yX9_rows, cX9_rows, 2, (Option.some FieldType.int), 12)
def f_X9_rows (l0 : Nat) (l1 : Int32) (h : Hp) : Option (Int32 × Hp) :=
  (bd (f_X9_isSlot l1 h) fun v1 h2 =>
(if v1 = 0 then
(ck h2 l0 9
(bd (f_X9_fail l0 (-2 : Int32) h2) fun v5 h6 =>
(some (v5, h6))))
else
(ck h2 l0 9
((gP h2 l0 2).bind fun v8 =>
(ca h2 v8 23 l1
((gP h2 v8 l1.toNatClampNeg).bind fun v10 =>
((gP h2 l0 6).bind fun v11 =>
(ck h2 v10 7
(bd (f_X7_upToDate v10 v11 h2) fun v13 h14 =>
(ck h14 v13 7
(bd (f_X7_table v13 h14) fun v16 h17 =>
(ck h17 v16 8
(bd (f_X8_rowTotal v16 h17) fun v19 h20 =>
(some (v19, h20)))))))))))))))
set_option maxRecDepth 20000 in
theorem t_X9_rows (l0 : Nat) (l1 : Int32) (h : Hp) : Sm rvI g_X9_rows 0 (ent 2 [.ref l0, .int l1]) [] h (f_X9_rows l0 l1 h) := by
  show Sm rvI g_X9_rows 0 [.ref l0, .int l1] [] h _
  unfold f_X9_rows
  refine Sm.iload_n dX9_rows_0 rfl rfl rfl ?_
  refine kc_X9_59 dX9_rows_1 rfl (Nat.le_of_ble_eq_true rfl) (Nat.le_of_ble_eq_true rfl) rfl (fun v1 h2 => ?_)
  refine Sm.if_ne (t := 14) dX9_rows_4 (by decide) rfl (fun b3 => ?_) (fun b3 => ?_)
  · refine Sm.aload_n dX9_rows_7 rfl rfl rfl ?_
    refine Sm.bipush dX9_rows_8 bp_m2 rfl ?_
    refine Sm.ck (fun o4 => ?_)
    refine kc_X9_55 o4 dX9_rows_10 rfl (Nat.le_of_ble_eq_true rfl) (Nat.le_of_ble_eq_true rfl) rfl (fun v5 h6 => ?_)
    exact Sm.ret dX9_rows_13 trivial rfl
  · refine Sm.aload_n dX9_rows_14 rfl rfl rfl ?_
    refine Sm.ck (fun o7 => ?_)
    refine gf_X9_19 o7 dX9_rows_15 rfl rfl (fun v8 => ?_)
    refine Sm.iload_n dX9_rows_18 rfl rfl rfl ?_
    refine Sm.ca (fun q9 => ?_)
    refine Sm.aald q9 (by decide) dX9_rows_19 rfl (fun v10 => ?_)
    refine Sm.aload_n dX9_rows_20 rfl rfl rfl ?_
    refine gf_X9_43 o7 dX9_rows_21 rfl rfl (fun v11 => ?_)
    refine Sm.ck (fun o12 => ?_)
    refine kc_X9_104 o12 dX9_rows_24 rfl (Nat.le_of_ble_eq_true rfl) (Nat.le_of_ble_eq_true rfl) rfl (fun v13 h14 => ?_)
    refine Sm.ck (fun o15 => ?_)
    refine kc_X9_173 o15 dX9_rows_27 rfl (Nat.le_of_ble_eq_true rfl) (Nat.le_of_ble_eq_true rfl) rfl (fun v16 h17 => ?_)
    refine Sm.ck (fun o18 => ?_)
    refine kc_X9_177 o18 dX9_rows_30 rfl (Nat.le_of_ble_eq_true rfl) (Nat.le_of_ble_eq_true rfl) rfl (fun v19 h20 => ?_)
    exact Sm.ret dX9_rows_33 trivial rfl
set_option maxRecDepth 20000 in
theorem kc_L_96 {ρ : Type} {rv : ρ → Option Value} {G : Gx} {pc q : Nat} {lv st : List Value} {h : Hp} {a : Nat} {x1 : Int32} {e : Int32 → Hp → Option (ρ × Hp)} (hk : isO h a 9) (d : decode G.2.1 pc = .ok (.invokevirtual 96, 3)) (ho : G.1.cls = RL) (hdep : (g_X9_rows).2.2.2.2 < G.2.2.2.2) (hcat : catS st ≤ 8) (hq : pc + 3 = q) (k : ∀ r h1, Sm rv G q lv (.int r :: st) h1 (e r h1)) : Sm rv G pc lv (.int x1 :: .ref a :: st) h (bd (f_X9_rows a x1 h) e) :=
  Sm.callV (rv' := rvI) (args := [.int x1]) (n := 1) (t_X9_rows a x1 h) hk (by decide) (r := (RX9, TX9, 8)) rfl rfl ho mw_786 mw_787 mw_788 mw_1 mw_789 ⟨⟨by decide, rfl, hdep, Nat.le_of_ble_eq_true rfl⟩, Nat.le_of_ble_eq_true rfl, rfl, ⟨by decide, by decide⟩, hcat⟩ (by decide +kernel) (by intro v hv; simp only [List.mem_cons, List.not_mem_nil, or_false] at hv; rcases hv with rfl <;> intro x hx <;> cases hx) d hq k rfl
abbrev g_X9_match : Gx := (yX9_match, cX9_match, 5, (Option.some FieldType.int), 12)
def f_X9_match_16 (l0 : Nat) (h : Hp) : Option (Int32 × Hp) :=
  (ck h l0 9
(bd (f_X9_fail l0 (-2 : Int32) h) fun v5 h6 =>
(some (v5, h6))))
set_option maxRecDepth 20000 in
theorem t_X9_match_16 (l0 : Nat) (h : Hp) : Sm rvI g_X9_match 16 [.ref l0, .null, .null, .null, .null] [] h (f_X9_match_16 l0 h) := by
  unfold f_X9_match_16
  refine Sm.aload_n dX9_match_16 rfl rfl rfl ?_
  refine Sm.bipush dX9_match_17 bp_m2 rfl ?_
  refine Sm.ck (fun o4 => ?_)
  refine kc_X9_55 o4 dX9_match_19 rfl (Nat.le_of_ble_eq_true rfl) (Nat.le_of_ble_eq_true rfl) rfl (fun v5 h6 => ?_)
  exact Sm.ret dX9_match_22 trivial rfl
def f_X9_match (l0 : Nat) (l1 : Int32) (l2 : Int32) (l3 : Int32) (h : Hp) : Option (Int32 × Hp) :=
  (bd (f_X9_isSlot l1 h) fun v1 h2 =>
(if v1 = 0 then
(f_X9_match_16 l0 h2)
else
(if l3 < 0 then
(f_X9_match_16 l0 h2)
else
(if l3 < (3 : Int32) then
(ck h2 l0 9
((gP h2 l0 2).bind fun v10 =>
(ca h2 v10 23 l1
((gP h2 v10 l1.toNatClampNeg).bind fun v12 =>
((gP h2 l0 6).bind fun v13 =>
(ck h2 v12 7
(bd (f_X7_upToDate v12 v13 h2) fun v15 h16 =>
(ck h16 v15 7
(bd (f_X7_table v15 h16) fun v18 h19 =>
(ck h19 v18 8
(bd (f_X8_hasRow v18 l2 h19) fun v21 h22 =>
(if v21 = 0 then
(ck h22 l0 9
(bd (f_X9_fail l0 (-2 : Int32) h22) fun v25 h26 =>
(some (v25, h26))))
else
(ck h22 v18 8
(bd (f_X8_demandsOf v18 l2 h22) fun v28 h29 =>
(bd (f_X9_entryOf v28 l3 h29) fun v30 h31 =>
(some (v30, h31)))))))))))))))))
else
(f_X9_match_16 l0 h2)))))
set_option maxRecDepth 20000 in
theorem t_X9_match (l0 : Nat) (l1 : Int32) (l2 : Int32) (l3 : Int32) (h : Hp) : Sm rvI g_X9_match 0 (ent 5 [.ref l0, .int l1, .int l2, .int l3]) [] h (f_X9_match l0 l1 l2 l3 h) := by
  show Sm rvI g_X9_match 0 [.ref l0, .int l1, .int l2, .int l3, .null] [] h _
  unfold f_X9_match
  refine Sm.iload_n dX9_match_0 rfl rfl rfl ?_
  refine kc_X9_59 dX9_match_1 rfl (Nat.le_of_ble_eq_true rfl) (Nat.le_of_ble_eq_true rfl) rfl (fun v1 h2 => ?_)
  refine Sm.if_eq (t := 16) dX9_match_4 (by decide) rfl (fun b3 => ?_) (fun b3 => ?_)
  · exact Sm.wk (t_X9_match_16 l0 h2) ⟨Or.inr rfl, Or.inl rfl, Or.inl rfl, Or.inl rfl, Or.inl rfl, trivial⟩
  · refine Sm.iload_n dX9_match_7 rfl rfl rfl ?_
    refine Sm.if_lt (t := 16) dX9_match_8 (by decide) rfl (fun b7 => ?_) (fun b7 => ?_)
    · exact Sm.wk (t_X9_match_16 l0 h2) ⟨Or.inr rfl, Or.inl rfl, Or.inl rfl, Or.inl rfl, Or.inl rfl, trivial⟩
    · refine Sm.iload_n dX9_match_11 rfl rfl rfl ?_
      refine Sm.iconst dX9_match_12 ic_3 rfl ?_
      refine Sm.icmp_lt (t := 23) dX9_match_13 (by decide) rfl (fun b8 => ?_) (fun b8 => ?_)
      · refine Sm.aload_n dX9_match_23 rfl rfl rfl ?_
        refine Sm.ck (fun o9 => ?_)
        refine gf_X9_19 o9 dX9_match_24 rfl rfl (fun v10 => ?_)
        refine Sm.iload_n dX9_match_27 rfl rfl rfl ?_
        refine Sm.ca (fun q11 => ?_)
        refine Sm.aald q11 (by decide) dX9_match_28 rfl (fun v12 => ?_)
        refine Sm.aload_n dX9_match_29 rfl rfl rfl ?_
        refine gf_X9_43 o9 dX9_match_30 rfl rfl (fun v13 => ?_)
        refine Sm.ck (fun o14 => ?_)
        refine kc_X9_104 o14 dX9_match_33 rfl (Nat.le_of_ble_eq_true rfl) (Nat.le_of_ble_eq_true rfl) rfl (fun v15 h16 => ?_)
        refine Sm.ck (fun o17 => ?_)
        refine kc_X9_173 o17 dX9_match_36 rfl (Nat.le_of_ble_eq_true rfl) (Nat.le_of_ble_eq_true rfl) rfl (fun v18 h19 => ?_)
        refine Sm.astore (lv' := [.ref l0, .int l1, .int l2, .int l3, .ref v18]) dX9_match_39 (Nat.le_of_ble_eq_true rfl) rfl rfl ?_
        refine Sm.aload dX9_match_41 rfl rfl ?_
        refine Sm.iload_n dX9_match_43 rfl rfl rfl ?_
        refine Sm.ck (fun o20 => ?_)
        refine kc_X9_182 o20 dX9_match_44 rfl (Nat.le_of_ble_eq_true rfl) (Nat.le_of_ble_eq_true rfl) rfl (fun v21 h22 => ?_)
        refine Sm.if_ne (t := 57) dX9_match_47 (by decide) rfl (fun b23 => ?_) (fun b23 => ?_)
        · refine Sm.aload_n dX9_match_50 rfl rfl rfl ?_
          refine Sm.bipush dX9_match_51 bp_m2 rfl ?_
          refine Sm.ck (fun o24 => ?_)
          refine kc_X9_55 o24 dX9_match_53 rfl (Nat.le_of_ble_eq_true rfl) (Nat.le_of_ble_eq_true rfl) rfl (fun v25 h26 => ?_)
          exact Sm.ret dX9_match_56 trivial rfl
        · refine Sm.aload dX9_match_57 rfl rfl ?_
          refine Sm.iload_n dX9_match_59 rfl rfl rfl ?_
          refine Sm.ck (fun o27 => ?_)
          refine kc_X9_185 o27 dX9_match_60 rfl (Nat.le_of_ble_eq_true rfl) (Nat.le_of_ble_eq_true rfl) rfl (fun v28 h29 => ?_)
          refine Sm.iload_n dX9_match_63 rfl rfl rfl ?_
          refine kc_X9_188 dX9_match_64 rfl (Nat.le_of_ble_eq_true rfl) (Nat.le_of_ble_eq_true rfl) rfl (fun v30 h31 => ?_)
          exact Sm.ret dX9_match_67 trivial rfl
      · exact Sm.wk (t_X9_match_16 l0 h2) ⟨Or.inr rfl, Or.inl rfl, Or.inl rfl, Or.inl rfl, Or.inl rfl, trivial⟩
set_option maxRecDepth 20000 in
theorem kc_L_100 {ρ : Type} {rv : ρ → Option Value} {G : Gx} {pc q : Nat} {lv st : List Value} {h : Hp} {a : Nat} {x1 : Int32} {x2 : Int32} {x3 : Int32} {e : Int32 → Hp → Option (ρ × Hp)} (hk : isO h a 9) (d : decode G.2.1 pc = .ok (.invokevirtual 100, 3)) (ho : G.1.cls = RL) (hdep : (g_X9_match).2.2.2.2 < G.2.2.2.2) (hcat : catS st ≤ 8) (hq : pc + 3 = q) (k : ∀ r h1, Sm rv G q lv (.int r :: st) h1 (e r h1)) : Sm rv G pc lv (.int x3 :: .int x2 :: .int x1 :: .ref a :: st) h (bd (f_X9_match a x1 x2 x3 h) e) :=
  Sm.callV (rv' := rvI) (args := [.int x1, .int x2, .int x3]) (n := 3) (t_X9_match a x1 x2 x3 h) hk (by decide) (r := (RX9, TX9, 8)) rfl rfl ho mw_798 mw_799 mw_800 mw_1 mw_801 ⟨⟨by decide, rfl, hdep, Nat.le_of_ble_eq_true rfl⟩, Nat.le_of_ble_eq_true rfl, rfl, ⟨by decide, by decide⟩, hcat⟩ (by decide +kernel) (by intro v hv; simp only [List.mem_cons, List.not_mem_nil, or_false] at hv; rcases hv with rfl | rfl | rfl <;> intro x hx <;> cases hx) d hq k rfl
abbrev g_X9_action : Gx := (yX9_action, cX9_action, 7, (Option.some FieldType.int), 12)
def f_X9_action_12 (l0 : Nat) (h : Hp) : Option (Int32 × Hp) :=
  (ck h l0 9
(bd (f_X9_fail l0 (-2 : Int32) h) fun v5 h6 =>
(some (v5, h6))))
set_option maxRecDepth 20000 in
theorem t_X9_action_12 (l0 : Nat) (h : Hp) : Sm rvI g_X9_action 12 [.ref l0, .null, .null, .null, .null, .null, .null] [] h (f_X9_action_12 l0 h) := by
  unfold f_X9_action_12
  refine Sm.aload_n dX9_action_12 rfl rfl rfl ?_
  refine Sm.bipush dX9_action_13 bp_m2 rfl ?_
  refine Sm.ck (fun o4 => ?_)
  refine kc_X9_55 o4 dX9_action_15 rfl (Nat.le_of_ble_eq_true rfl) (Nat.le_of_ble_eq_true rfl) rfl (fun v5 h6 => ?_)
  exact Sm.ret dX9_action_18 trivial rfl
def f_X9_action (l0 : Nat) (l1 : Int32) (l2 : Int32) (l3 : Int32) (h : Hp) : Option (Int32 × Hp) :=
  (bd (f_X9_isSlot l1 h) fun v1 h2 =>
(if v1 = 0 then
(f_X9_action_12 l0 h2)
else
(if (-1 : Int32) ≤ l3 then
(ck h2 l0 9
((gP h2 l0 2).bind fun v9 =>
(ca h2 v9 23 l1
((gP h2 v9 l1.toNatClampNeg).bind fun v11 =>
((gP h2 l0 6).bind fun v12 =>
(ck h2 v11 7
(bd (f_X7_upToDate v11 v12 h2) fun v14 h15 =>
(ck h15 v14 7
(bd (f_X7_table v14 h15) fun v17 h18 =>
(ck h18 v17 8
(bd (f_X8_hasRow v17 l2 h18) fun v20 h21 =>
(if v20 = 0 then
(ck h21 l0 9
(bd (f_X9_fail l0 (-2 : Int32) h21) fun v24 h25 =>
(some (v24, h25))))
else
(ck h21 l0 9
((gP h21 l0 2).bind fun v27 =>
(ca h21 v27 23 l1
((gP h21 v27 l1.toNatClampNeg).bind fun v29 =>
(ck h21 v29 7
(bd (f_X7_diagram v29 h21) fun v31 h32 =>
(ck h32 v17 8
(bd (f_X8_leafOf v17 l2 h32) fun v34 h35 =>
(if l3 = (-1 : Int32) then
(ck h35 v31 0
(bd (f_X0_actionTotal v31 v34 h35) fun v38 h39 =>
(some (v38, h39))))
else
(ck h35 v31 0
(bd (f_X0_actionAt v31 v34 l3 h35) fun v41 h42 =>
(some (v41, h42)))))))))))))))))))))))))
else
(f_X9_action_12 l0 h2))))
set_option maxRecDepth 20000 in
theorem t_X9_action (l0 : Nat) (l1 : Int32) (l2 : Int32) (l3 : Int32) (h : Hp) : Sm rvI g_X9_action 0 (ent 7 [.ref l0, .int l1, .int l2, .int l3]) [] h (f_X9_action l0 l1 l2 l3 h) := by
  show Sm rvI g_X9_action 0 [.ref l0, .int l1, .int l2, .int l3, .null, .null, .null] [] h _
  unfold f_X9_action
  refine Sm.iload_n dX9_action_0 rfl rfl rfl ?_
  refine kc_X9_59 dX9_action_1 rfl (Nat.le_of_ble_eq_true rfl) (Nat.le_of_ble_eq_true rfl) rfl (fun v1 h2 => ?_)
  refine Sm.if_eq (t := 12) dX9_action_4 (by decide) rfl (fun b3 => ?_) (fun b3 => ?_)
  · exact Sm.wk (t_X9_action_12 l0 h2) ⟨Or.inr rfl, Or.inl rfl, Or.inl rfl, Or.inl rfl, Or.inl rfl, Or.inl rfl, Or.inl rfl, trivial⟩
  · refine Sm.iload_n dX9_action_7 rfl rfl rfl ?_
    refine Sm.iconst dX9_action_8 ic_m1 rfl ?_
    refine Sm.icmp_ge (t := 19) dX9_action_9 (by decide) rfl (fun b7 => ?_) (fun b7 => ?_)
    · refine Sm.aload_n dX9_action_19 rfl rfl rfl ?_
      refine Sm.ck (fun o8 => ?_)
      refine gf_X9_19 o8 dX9_action_20 rfl rfl (fun v9 => ?_)
      refine Sm.iload_n dX9_action_23 rfl rfl rfl ?_
      refine Sm.ca (fun q10 => ?_)
      refine Sm.aald q10 (by decide) dX9_action_24 rfl (fun v11 => ?_)
      refine Sm.aload_n dX9_action_25 rfl rfl rfl ?_
      refine gf_X9_43 o8 dX9_action_26 rfl rfl (fun v12 => ?_)
      refine Sm.ck (fun o13 => ?_)
      refine kc_X9_104 o13 dX9_action_29 rfl (Nat.le_of_ble_eq_true rfl) (Nat.le_of_ble_eq_true rfl) rfl (fun v14 h15 => ?_)
      refine Sm.ck (fun o16 => ?_)
      refine kc_X9_173 o16 dX9_action_32 rfl (Nat.le_of_ble_eq_true rfl) (Nat.le_of_ble_eq_true rfl) rfl (fun v17 h18 => ?_)
      refine Sm.astore (lv' := [.ref l0, .int l1, .int l2, .int l3, .ref v17, .null, .null]) dX9_action_35 (Nat.le_of_ble_eq_true rfl) rfl rfl ?_
      refine Sm.aload dX9_action_37 rfl rfl ?_
      refine Sm.iload_n dX9_action_39 rfl rfl rfl ?_
      refine Sm.ck (fun o19 => ?_)
      refine kc_X9_182 o19 dX9_action_40 rfl (Nat.le_of_ble_eq_true rfl) (Nat.le_of_ble_eq_true rfl) rfl (fun v20 h21 => ?_)
      refine Sm.if_ne (t := 53) dX9_action_43 (by decide) rfl (fun b22 => ?_) (fun b22 => ?_)
      · refine Sm.aload_n dX9_action_46 rfl rfl rfl ?_
        refine Sm.bipush dX9_action_47 bp_m2 rfl ?_
        refine Sm.ck (fun o23 => ?_)
        refine kc_X9_55 o23 dX9_action_49 rfl (Nat.le_of_ble_eq_true rfl) (Nat.le_of_ble_eq_true rfl) rfl (fun v24 h25 => ?_)
        exact Sm.ret dX9_action_52 trivial rfl
      · refine Sm.aload_n dX9_action_53 rfl rfl rfl ?_
        refine Sm.ck (fun o26 => ?_)
        refine gf_X9_19 o26 dX9_action_54 rfl rfl (fun v27 => ?_)
        refine Sm.iload_n dX9_action_57 rfl rfl rfl ?_
        refine Sm.ca (fun q28 => ?_)
        refine Sm.aald q28 (by decide) dX9_action_58 rfl (fun v29 => ?_)
        refine Sm.ck (fun o30 => ?_)
        refine kc_X9_154 o30 dX9_action_59 rfl (Nat.le_of_ble_eq_true rfl) (Nat.le_of_ble_eq_true rfl) rfl (fun v31 h32 => ?_)
        refine Sm.astore (lv' := [.ref l0, .int l1, .int l2, .int l3, .ref v17, .ref v31, .null]) dX9_action_62 (Nat.le_of_ble_eq_true rfl) rfl rfl ?_
        refine Sm.aload dX9_action_64 rfl rfl ?_
        refine Sm.iload_n dX9_action_66 rfl rfl rfl ?_
        refine Sm.ck (fun o33 => ?_)
        refine kc_X9_192 o33 dX9_action_67 rfl (Nat.le_of_ble_eq_true rfl) (Nat.le_of_ble_eq_true rfl) rfl (fun v34 h35 => ?_)
        refine Sm.istore (lv' := [.ref l0, .int l1, .int l2, .int l3, .ref v17, .ref v31, .int v34]) dX9_action_70 (Nat.le_of_ble_eq_true rfl) rfl rfl ?_
        refine Sm.iload_n dX9_action_72 rfl rfl rfl ?_
        refine Sm.iconst dX9_action_73 ic_m1 rfl ?_
        refine Sm.icmp_ne (t := 87) dX9_action_74 (by decide) rfl (fun b36 => ?_) (fun b36 => ?_)
        · refine Sm.aload dX9_action_77 rfl rfl ?_
          refine Sm.iload dX9_action_79 rfl rfl ?_
          refine Sm.ck (fun o37 => ?_)
          refine kc_X9_195 o37 dX9_action_81 rfl (Nat.le_of_ble_eq_true rfl) (Nat.le_of_ble_eq_true rfl) rfl (fun v38 h39 => ?_)
          refine Sm.goto (t := 95) dX9_action_84 (by decide) ?_
          exact Sm.ret dX9_action_95 trivial rfl
        · refine Sm.aload dX9_action_87 rfl rfl ?_
          refine Sm.iload dX9_action_89 rfl rfl ?_
          refine Sm.iload_n dX9_action_91 rfl rfl rfl ?_
          refine Sm.ck (fun o40 => ?_)
          refine kc_X9_198 o40 dX9_action_92 rfl (Nat.le_of_ble_eq_true rfl) (Nat.le_of_ble_eq_true rfl) rfl (fun v41 h42 => ?_)
          exact Sm.ret dX9_action_95 trivial rfl
    · exact Sm.wk (t_X9_action_12 l0 h2) ⟨Or.inr rfl, Or.inl rfl, Or.inl rfl, Or.inl rfl, Or.inl rfl, Or.inl rfl, Or.inl rfl, trivial⟩
set_option maxRecDepth 20000 in
theorem kc_L_104 {ρ : Type} {rv : ρ → Option Value} {G : Gx} {pc q : Nat} {lv st : List Value} {h : Hp} {a : Nat} {x1 : Int32} {x2 : Int32} {x3 : Int32} {e : Int32 → Hp → Option (ρ × Hp)} (hk : isO h a 9) (d : decode G.2.1 pc = .ok (.invokevirtual 104, 3)) (ho : G.1.cls = RL) (hdep : (g_X9_action).2.2.2.2 < G.2.2.2.2) (hcat : catS st ≤ 8) (hq : pc + 3 = q) (k : ∀ r h1, Sm rv G q lv (.int r :: st) h1 (e r h1)) : Sm rv G pc lv (.int x3 :: .int x2 :: .int x1 :: .ref a :: st) h (bd (f_X9_action a x1 x2 x3 h) e) :=
  Sm.callV (rv' := rvI) (args := [.int x1, .int x2, .int x3]) (n := 3) (t_X9_action a x1 x2 x3 h) hk (by decide) (r := (RX9, TX9, 8)) rfl rfl ho mw_813 mw_814 mw_815 mw_1 mw_816 ⟨⟨by decide, rfl, hdep, Nat.le_of_ble_eq_true rfl⟩, Nat.le_of_ble_eq_true rfl, rfl, ⟨by decide, by decide⟩, hcat⟩ (by decide +kernel) (by intro v hv; simp only [List.mem_cons, List.not_mem_nil, or_false] at hv; rcases hv with rfl | rfl | rfl <;> intro x hx <;> cases hx) d hq k rfl
abbrev g_X9_hit : Gx := (yX9_hit, cX9_hit, 3, (Option.some FieldType.int), 12)
def f_X9_hit_14 (l0 : Nat) (h : Hp) : Option (Int32 × Hp) :=
  (ck h l0 9
(bd (f_X9_fail l0 (-2 : Int32) h) fun v5 h6 =>
(some (v5, h6))))
set_option maxRecDepth 20000 in
theorem t_X9_hit_14 (l0 : Nat) (h : Hp) : Sm rvI g_X9_hit 14 [.ref l0, .null, .null] [] h (f_X9_hit_14 l0 h) := by
  unfold f_X9_hit_14
  refine Sm.aload_n dX9_hit_14 rfl rfl rfl ?_
  refine Sm.bipush dX9_hit_15 bp_m2 rfl ?_
  refine Sm.ck (fun o4 => ?_)
  refine kc_X9_55 o4 dX9_hit_17 rfl (Nat.le_of_ble_eq_true rfl) (Nat.le_of_ble_eq_true rfl) rfl (fun v5 h6 => ?_)
  exact Sm.ret dX9_hit_20 trivial rfl
def f_X9_hit (l0 : Nat) (l1 : Int32) (l2 : Int32) (h : Hp) : Option (Int32 × Hp) :=
  (bd (f_X9_isSlot l1 h) fun v1 h2 =>
(if v1 = 0 then
(f_X9_hit_14 l0 h2)
else
(bd (f_X9_isPacket l2 h2) fun v7 h8 =>
(if v7 = 0 then
(f_X9_hit_14 l0 h8)
else
(ck h8 l0 9
((gP h8 l0 2).bind fun v11 =>
(ca h8 v11 23 l1
((gP h8 v11 l1.toNatClampNeg).bind fun v13 =>
((gP h8 l0 6).bind fun v14 =>
(ck h8 v13 7
(bd (f_X7_upToDate v13 v14 h8) fun v16 h17 =>
(ck h17 v16 7
(bd (f_X7_table v16 h17) fun v19 h20 =>
(ck h20 v19 8
(bd (f_X8_firstRowFor v19 l2 h20) fun v22 h23 =>
(some (v22, h23)))))))))))))))))
set_option maxRecDepth 20000 in
theorem t_X9_hit (l0 : Nat) (l1 : Int32) (l2 : Int32) (h : Hp) : Sm rvI g_X9_hit 0 (ent 3 [.ref l0, .int l1, .int l2]) [] h (f_X9_hit l0 l1 l2 h) := by
  show Sm rvI g_X9_hit 0 [.ref l0, .int l1, .int l2] [] h _
  unfold f_X9_hit
  refine Sm.iload_n dX9_hit_0 rfl rfl rfl ?_
  refine kc_X9_59 dX9_hit_1 rfl (Nat.le_of_ble_eq_true rfl) (Nat.le_of_ble_eq_true rfl) rfl (fun v1 h2 => ?_)
  refine Sm.if_eq (t := 14) dX9_hit_4 (by decide) rfl (fun b3 => ?_) (fun b3 => ?_)
  · exact Sm.wk (t_X9_hit_14 l0 h2) ⟨Or.inr rfl, Or.inl rfl, Or.inl rfl, trivial⟩
  · refine Sm.iload_n dX9_hit_7 rfl rfl rfl ?_
    refine kc_X9_120 dX9_hit_8 rfl (Nat.le_of_ble_eq_true rfl) (Nat.le_of_ble_eq_true rfl) rfl (fun v7 h8 => ?_)
    refine Sm.if_ne (t := 21) dX9_hit_11 (by decide) rfl (fun b9 => ?_) (fun b9 => ?_)
    · exact Sm.wk (t_X9_hit_14 l0 h8) ⟨Or.inr rfl, Or.inl rfl, Or.inl rfl, trivial⟩
    · refine Sm.aload_n dX9_hit_21 rfl rfl rfl ?_
      refine Sm.ck (fun o10 => ?_)
      refine gf_X9_19 o10 dX9_hit_22 rfl rfl (fun v11 => ?_)
      refine Sm.iload_n dX9_hit_25 rfl rfl rfl ?_
      refine Sm.ca (fun q12 => ?_)
      refine Sm.aald q12 (by decide) dX9_hit_26 rfl (fun v13 => ?_)
      refine Sm.aload_n dX9_hit_27 rfl rfl rfl ?_
      refine gf_X9_43 o10 dX9_hit_28 rfl rfl (fun v14 => ?_)
      refine Sm.ck (fun o15 => ?_)
      refine kc_X9_104 o15 dX9_hit_31 rfl (Nat.le_of_ble_eq_true rfl) (Nat.le_of_ble_eq_true rfl) rfl (fun v16 h17 => ?_)
      refine Sm.ck (fun o18 => ?_)
      refine kc_X9_173 o18 dX9_hit_34 rfl (Nat.le_of_ble_eq_true rfl) (Nat.le_of_ble_eq_true rfl) rfl (fun v19 h20 => ?_)
      refine Sm.iload_n dX9_hit_37 rfl rfl rfl ?_
      refine Sm.ck (fun o21 => ?_)
      refine kc_X9_201 o21 dX9_hit_38 rfl (Nat.le_of_ble_eq_true rfl) (Nat.le_of_ble_eq_true rfl) rfl (fun v22 h23 => ?_)
      exact Sm.ret dX9_hit_41 trivial rfl
set_option maxRecDepth 20000 in
theorem kc_L_108 {ρ : Type} {rv : ρ → Option Value} {G : Gx} {pc q : Nat} {lv st : List Value} {h : Hp} {a : Nat} {x1 : Int32} {x2 : Int32} {e : Int32 → Hp → Option (ρ × Hp)} (hk : isO h a 9) (d : decode G.2.1 pc = .ok (.invokevirtual 108, 3)) (ho : G.1.cls = RL) (hdep : (g_X9_hit).2.2.2.2 < G.2.2.2.2) (hcat : catS st ≤ 8) (hq : pc + 3 = q) (k : ∀ r h1, Sm rv G q lv (.int r :: st) h1 (e r h1)) : Sm rv G pc lv (.int x2 :: .int x1 :: .ref a :: st) h (bd (f_X9_hit a x1 x2 h) e) :=
  Sm.callV (rv' := rvI) (args := [.int x1, .int x2]) (n := 2) (t_X9_hit a x1 x2 h) hk (by decide) (r := (RX9, TX9, 8)) rfl rfl ho mw_831 mw_832 mw_833 mw_1 mw_834 ⟨⟨by decide, rfl, hdep, Nat.le_of_ble_eq_true rfl⟩, Nat.le_of_ble_eq_true rfl, rfl, ⟨by decide, by decide⟩, hcat⟩ (by decide +kernel) (by intro v hv; simp only [List.mem_cons, List.not_mem_nil, or_false] at hv; rcases hv with rfl | rfl <;> intro x hx <;> cases hx) d hq k rfl
abbrev g_X9_hits : Gx := (yX9_hits, cX9_hits, 6, (Option.some FieldType.int), 12)
def f_X9_hits_52 (k52 : (Int32 × Int32 × Hp) → Option (Int32 × Hp)) (l2 : Int32) (l3 : Nat) (l4 : Int32) (l5 : Int32) (h : Hp) : Option (Int32 × Hp) :=
  (if (64 : Int32) ≤ l5 then
(some (l4, h))
else
(ck h l3 8
(bd (f_X8_firstRowFor l3 l5 h) fun v27 h28 =>
(if v27 = l2 then
(nm (l4 + (1 : Int32)) fun v30 =>
(nm (l5 + (1 : Int32)) fun v31 =>
(k52 (v30, v31, h28))))
else
(nm (l5 + (1 : Int32)) fun v32 =>
(k52 (l4, v32, h28)))))))
set_option maxRecDepth 20000 in
theorem t_X9_hits_52 (l2 : Int32) (l3 : Nat) (l4 : Int32) (l5 : Int32) (h : Hp) (k52 : (Int32 × Int32 × Hp) → Option (Int32 × Hp)) (hk52 : ∀ s : Int32 × Int32 × Hp, Sm rvI g_X9_hits 52 [.null, .null, .int l2, .ref l3, .int s.1, .int s.2.1] [] s.2.2 (k52 s)) : Sm rvI g_X9_hits 52 [.null, .null, .int l2, .ref l3, .int l4, .int l5] [] h (f_X9_hits_52 k52 l2 l3 l4 l5 h) := by
  unfold f_X9_hits_52
  refine Sm.iload dX9_hits_52 rfl rfl ?_
  refine Sm.bipush dX9_hits_54 bp_64 rfl ?_
  refine Sm.icmp_ge (t := 78) dX9_hits_56 (by decide) rfl (fun b25 => ?_) (fun b25 => ?_)
  · refine Sm.iload dX9_hits_78 rfl rfl ?_
    exact Sm.ret dX9_hits_80 trivial rfl
  · refine Sm.aload_n dX9_hits_59 rfl rfl rfl ?_
    refine Sm.iload dX9_hits_60 rfl rfl ?_
    refine Sm.ck (fun o26 => ?_)
    refine kc_X9_201 o26 dX9_hits_62 rfl (Nat.le_of_ble_eq_true rfl) (Nat.le_of_ble_eq_true rfl) rfl (fun v27 h28 => ?_)
    refine Sm.iload_n dX9_hits_65 rfl rfl rfl ?_
    refine Sm.icmp_ne (t := 72) dX9_hits_66 (by decide) rfl (fun b29 => ?_) (fun b29 => ?_)
    · refine Sm.iinc (lv' := [.null, .null, .int l2, .ref l3, .int (l4 + (1 : Int32)), .int l5]) dX9_hits_69 rfl ic_1 rfl rfl ?_
      refine Sm.nm (LV := fun v30 => [.null, .null, .int l2, .ref l3, .int v30, .int l5]) (ST := fun v30 => []) (fun v30 => ?_)
      refine Sm.iinc (lv' := [.null, .null, .int l2, .ref l3, .int v30, .int (l5 + (1 : Int32))]) dX9_hits_72 rfl ic_1 rfl rfl ?_
      refine Sm.nm (LV := fun v31 => [.null, .null, .int l2, .ref l3, .int v30, .int v31]) (ST := fun v31 => []) (fun v31 => ?_)
      refine Sm.goto (t := 52) dX9_hits_75 (by decide) ?_
      exact Sm.wk (hk52 (v30, v31, h28)) ⟨Or.inl rfl, Or.inl rfl, Or.inr rfl, Or.inr rfl, Or.inr rfl, Or.inr rfl, trivial⟩
    · refine Sm.iinc (lv' := [.null, .null, .int l2, .ref l3, .int l4, .int (l5 + (1 : Int32))]) dX9_hits_72 rfl ic_1 rfl rfl ?_
      refine Sm.nm (LV := fun v32 => [.null, .null, .int l2, .ref l3, .int l4, .int v32]) (ST := fun v32 => []) (fun v32 => ?_)
      refine Sm.goto (t := 52) dX9_hits_75 (by decide) ?_
      exact Sm.wk (hk52 (l4, v32, h28)) ⟨Or.inl rfl, Or.inl rfl, Or.inr rfl, Or.inr rfl, Or.inr rfl, Or.inr rfl, trivial⟩
def f_X9_hits (l0 : Nat) (l1 : Int32) (l2 : Int32) (h : Hp) : Option (Int32 × Hp) :=
  (bd (f_X9_isSlot l1 h) fun v1 h2 =>
(if v1 = 0 then
(ck h2 l0 9
(bd (f_X9_fail l0 (-2 : Int32) h2) fun v5 h6 =>
(some (v5, h6))))
else
(ck h2 l0 9
((gP h2 l0 2).bind fun v8 =>
(ca h2 v8 23 l1
((gP h2 v8 l1.toNatClampNeg).bind fun v10 =>
((gP h2 l0 6).bind fun v11 =>
(ck h2 v10 7
(bd (f_X7_upToDate v10 v11 h2) fun v13 h14 =>
(ck h14 v13 7
(bd (f_X7_table v13 h14) fun v16 h17 =>
(ck h17 v16 8
(bd (f_X8_hasRow v16 l2 h17) fun v19 h20 =>
(if v19 = 0 then
(ck h20 l0 9
(bd (f_X9_fail l0 (-2 : Int32) h20) fun v23 h24 =>
(some (v23, h24))))
else
(loopN (fun k s => f_X9_hits_52 k l2 v16 s.1 s.2.1 s.2.2) 5000 ((0 : Int32), (0 : Int32), h20))))))))))))))))
set_option maxRecDepth 20000 in
theorem t_X9_hits (l0 : Nat) (l1 : Int32) (l2 : Int32) (h : Hp) : Sm rvI g_X9_hits 0 (ent 6 [.ref l0, .int l1, .int l2]) [] h (f_X9_hits l0 l1 l2 h) := by
  show Sm rvI g_X9_hits 0 [.ref l0, .int l1, .int l2, .null, .null, .null] [] h _
  unfold f_X9_hits
  refine Sm.iload_n dX9_hits_0 rfl rfl rfl ?_
  refine kc_X9_59 dX9_hits_1 rfl (Nat.le_of_ble_eq_true rfl) (Nat.le_of_ble_eq_true rfl) rfl (fun v1 h2 => ?_)
  refine Sm.if_ne (t := 14) dX9_hits_4 (by decide) rfl (fun b3 => ?_) (fun b3 => ?_)
  · refine Sm.aload_n dX9_hits_7 rfl rfl rfl ?_
    refine Sm.bipush dX9_hits_8 bp_m2 rfl ?_
    refine Sm.ck (fun o4 => ?_)
    refine kc_X9_55 o4 dX9_hits_10 rfl (Nat.le_of_ble_eq_true rfl) (Nat.le_of_ble_eq_true rfl) rfl (fun v5 h6 => ?_)
    exact Sm.ret dX9_hits_13 trivial rfl
  · refine Sm.aload_n dX9_hits_14 rfl rfl rfl ?_
    refine Sm.ck (fun o7 => ?_)
    refine gf_X9_19 o7 dX9_hits_15 rfl rfl (fun v8 => ?_)
    refine Sm.iload_n dX9_hits_18 rfl rfl rfl ?_
    refine Sm.ca (fun q9 => ?_)
    refine Sm.aald q9 (by decide) dX9_hits_19 rfl (fun v10 => ?_)
    refine Sm.aload_n dX9_hits_20 rfl rfl rfl ?_
    refine gf_X9_43 o7 dX9_hits_21 rfl rfl (fun v11 => ?_)
    refine Sm.ck (fun o12 => ?_)
    refine kc_X9_104 o12 dX9_hits_24 rfl (Nat.le_of_ble_eq_true rfl) (Nat.le_of_ble_eq_true rfl) rfl (fun v13 h14 => ?_)
    refine Sm.ck (fun o15 => ?_)
    refine kc_X9_173 o15 dX9_hits_27 rfl (Nat.le_of_ble_eq_true rfl) (Nat.le_of_ble_eq_true rfl) rfl (fun v16 h17 => ?_)
    refine Sm.astore_n (lv' := [.ref l0, .int l1, .int l2, .ref v16, .null, .null]) dX9_hits_30 rfl (Nat.le_of_ble_eq_true rfl) rfl rfl ?_
    refine Sm.aload_n dX9_hits_31 rfl rfl rfl ?_
    refine Sm.iload_n dX9_hits_32 rfl rfl rfl ?_
    refine Sm.ck (fun o18 => ?_)
    refine kc_X9_182 o18 dX9_hits_33 rfl (Nat.le_of_ble_eq_true rfl) (Nat.le_of_ble_eq_true rfl) rfl (fun v19 h20 => ?_)
    refine Sm.if_ne (t := 46) dX9_hits_36 (by decide) rfl (fun b21 => ?_) (fun b21 => ?_)
    · refine Sm.aload_n dX9_hits_39 rfl rfl rfl ?_
      refine Sm.bipush dX9_hits_40 bp_m2 rfl ?_
      refine Sm.ck (fun o22 => ?_)
      refine kc_X9_55 o22 dX9_hits_42 rfl (Nat.le_of_ble_eq_true rfl) (Nat.le_of_ble_eq_true rfl) rfl (fun v23 h24 => ?_)
      exact Sm.ret dX9_hits_45 trivial rfl
    · refine Sm.iconst dX9_hits_46 ic_0 rfl ?_
      refine Sm.istore (lv' := [.ref l0, .int l1, .int l2, .ref v16, .int (0 : Int32), .null]) dX9_hits_47 (Nat.le_of_ble_eq_true rfl) rfl rfl ?_
      refine Sm.iconst dX9_hits_49 ic_0 rfl ?_
      refine Sm.istore (lv' := [.ref l0, .int l1, .int l2, .ref v16, .int (0 : Int32), .int (0 : Int32)]) dX9_hits_50 (Nat.le_of_ble_eq_true rfl) rfl rfl ?_
      exact Sm.wk (Sm.loop (σ := Int32 × Int32 × Hp) (LV := fun s => [.null, .null, .int l2, .ref v16, .int s.1, .int s.2.1]) (HH := fun s => s.2.2) (fun k hk s => t_X9_hits_52 l2 v16 s.1 s.2.1 s.2.2 k hk) 5000 ((0 : Int32), (0 : Int32), h20)) ⟨Or.inl rfl, Or.inl rfl, Or.inr rfl, Or.inr rfl, Or.inr rfl, Or.inr rfl, trivial⟩
set_option maxRecDepth 20000 in
theorem kc_L_112 {ρ : Type} {rv : ρ → Option Value} {G : Gx} {pc q : Nat} {lv st : List Value} {h : Hp} {a : Nat} {x1 : Int32} {x2 : Int32} {e : Int32 → Hp → Option (ρ × Hp)} (hk : isO h a 9) (d : decode G.2.1 pc = .ok (.invokevirtual 112, 3)) (ho : G.1.cls = RL) (hdep : (g_X9_hits).2.2.2.2 < G.2.2.2.2) (hcat : catS st ≤ 8) (hq : pc + 3 = q) (k : ∀ r h1, Sm rv G q lv (.int r :: st) h1 (e r h1)) : Sm rv G pc lv (.int x2 :: .int x1 :: .ref a :: st) h (bd (f_X9_hits a x1 x2 h) e) :=
  Sm.callV (rv' := rvI) (args := [.int x1, .int x2]) (n := 2) (t_X9_hits a x1 x2 h) hk (by decide) (r := (RX9, TX9, 8)) rfl rfl ho mw_844 mw_845 mw_846 mw_1 mw_847 ⟨⟨by decide, rfl, hdep, Nat.le_of_ble_eq_true rfl⟩, Nat.le_of_ble_eq_true rfl, rfl, ⟨by decide, by decide⟩, hcat⟩ (by decide +kernel) (by intro v hv; simp only [List.mem_cons, List.not_mem_nil, or_false] at hv; rcases hv with rfl | rfl <;> intro x hx <;> cases hx) d hq k rfl
abbrev g_X9_undo : Gx := (yX9_undo, cX9_undo, 2, (Option.some FieldType.int), 2)
def f_X9_undo (l0 : Nat) (h : Hp) : Option (Int32 × Hp) :=
  (ck h l0 9
((gP h l0 3).bind fun v2 =>
(ck h v2 2
(bd (f_X2_newestSlot v2 h) fun v4 h5 =>
(bd (f_X9_isSlot v4 h5) fun v6 h7 =>
(if v6 = 0 then
(ck h7 l0 9
(bd (f_X9_fail l0 (-6 : Int32) h7) fun v10 h11 =>
(some (v10, h11))))
else
(ck h7 l0 9
((gP h7 l0 2).bind fun v13 =>
(ca h7 v13 23 v4
((gP h7 v13 v4.toNatClampNeg).bind fun v15 =>
((gP h7 l0 3).bind fun v16 =>
(ck h7 v16 2
(bd (f_X2_newestPolicy v16 h7) fun v18 h19 =>
(ck h19 v15 7
(bd (f_X7_hold v15 v18 h19) fun _ h21 =>
(ck h21 l0 9
((gP h21 l0 3).bind fun v23 =>
(ck h21 v23 2
(bd (f_X2_dropNewest v23 h21) fun _ h25 =>
(ck h25 l0 9
((gP h25 l0 3).bind fun v27 =>
(ck h25 v27 2
(bd (f_X2_savedCount v27 h25) fun v29 h30 =>
(some (v29, h30)))))))))))))))))))))))))
set_option maxRecDepth 20000 in
theorem t_X9_undo (l0 : Nat) (h : Hp) : Sm rvI g_X9_undo 0 (ent 2 [.ref l0]) [] h (f_X9_undo l0 h) := by
  show Sm rvI g_X9_undo 0 [.ref l0, .null] [] h _
  unfold f_X9_undo
  refine Sm.aload_n dX9_undo_0 rfl rfl rfl ?_
  refine Sm.ck (fun o1 => ?_)
  refine gf_X9_26 o1 dX9_undo_1 rfl rfl (fun v2 => ?_)
  refine Sm.ck (fun o3 => ?_)
  refine kc_X9_204 o3 dX9_undo_4 rfl (Nat.le_of_ble_eq_true rfl) (Nat.le_of_ble_eq_true rfl) rfl (fun v4 h5 => ?_)
  refine Sm.istore_n (lv' := [.ref l0, .int v4]) dX9_undo_7 rfl (Nat.le_of_ble_eq_true rfl) rfl rfl ?_
  refine Sm.iload_n dX9_undo_8 rfl rfl rfl ?_
  refine kc_X9_59 dX9_undo_9 rfl (Nat.le_of_ble_eq_true rfl) (Nat.le_of_ble_eq_true rfl) rfl (fun v6 h7 => ?_)
  refine Sm.if_ne (t := 22) dX9_undo_12 (by decide) rfl (fun b8 => ?_) (fun b8 => ?_)
  · refine Sm.aload_n dX9_undo_15 rfl rfl rfl ?_
    refine Sm.bipush dX9_undo_16 bp_m6 rfl ?_
    refine Sm.ck (fun o9 => ?_)
    refine kc_X9_55 o9 dX9_undo_18 rfl (Nat.le_of_ble_eq_true rfl) (Nat.le_of_ble_eq_true rfl) rfl (fun v10 h11 => ?_)
    exact Sm.ret dX9_undo_21 trivial rfl
  · refine Sm.aload_n dX9_undo_22 rfl rfl rfl ?_
    refine Sm.ck (fun o12 => ?_)
    refine gf_X9_19 o12 dX9_undo_23 rfl rfl (fun v13 => ?_)
    refine Sm.iload_n dX9_undo_26 rfl rfl rfl ?_
    refine Sm.ca (fun q14 => ?_)
    refine Sm.aald q14 (by decide) dX9_undo_27 rfl (fun v15 => ?_)
    refine Sm.aload_n dX9_undo_28 rfl rfl rfl ?_
    refine gf_X9_26 o12 dX9_undo_29 rfl rfl (fun v16 => ?_)
    refine Sm.ck (fun o17 => ?_)
    refine kc_X9_207 o17 dX9_undo_32 rfl (Nat.le_of_ble_eq_true rfl) (Nat.le_of_ble_eq_true rfl) rfl (fun v18 h19 => ?_)
    refine Sm.ck (fun o20 => ?_)
    refine kc_X9_210 o20 dX9_undo_35 rfl (Nat.le_of_ble_eq_true rfl) (Nat.le_of_ble_eq_true rfl) rfl (fun _ h21 => ?_)
    refine Sm.aload_n dX9_undo_38 rfl rfl rfl ?_
    refine Sm.ck (fun o22 => ?_)
    refine gf_X9_26 o22 dX9_undo_39 rfl rfl (fun v23 => ?_)
    refine Sm.ck (fun o24 => ?_)
    refine kc_X9_213 o24 dX9_undo_42 rfl (Nat.le_of_ble_eq_true rfl) (Nat.le_of_ble_eq_true rfl) rfl (fun _ h25 => ?_)
    refine Sm.aload_n dX9_undo_45 rfl rfl rfl ?_
    refine Sm.ck (fun o26 => ?_)
    refine gf_X9_26 o26 dX9_undo_46 rfl rfl (fun v27 => ?_)
    refine Sm.ck (fun o28 => ?_)
    refine kc_X9_216 o28 dX9_undo_49 rfl (Nat.le_of_ble_eq_true rfl) (Nat.le_of_ble_eq_true rfl) rfl (fun v29 h30 => ?_)
    exact Sm.ret dX9_undo_52 trivial rfl
set_option maxRecDepth 20000 in
theorem kc_L_116 {ρ : Type} {rv : ρ → Option Value} {G : Gx} {pc q : Nat} {lv st : List Value} {h : Hp} {a : Nat} {e : Int32 → Hp → Option (ρ × Hp)} (hk : isO h a 9) (d : decode G.2.1 pc = .ok (.invokevirtual 116, 3)) (ho : G.1.cls = RL) (hdep : (g_X9_undo).2.2.2.2 < G.2.2.2.2) (hcat : catS st ≤ 8) (hq : pc + 3 = q) (k : ∀ r h1, Sm rv G q lv (.int r :: st) h1 (e r h1)) : Sm rv G pc lv (.ref a :: st) h (bd (f_X9_undo a h) e) :=
  Sm.callV (rv' := rvI) (args := []) (n := 0) (t_X9_undo a h) hk (by decide) (r := (RX9, TX9, 8)) rfl rfl ho mw_848 mw_849 mw_850 mw_1 mw_851 ⟨⟨by decide, rfl, hdep, Nat.le_of_ble_eq_true rfl⟩, Nat.le_of_ble_eq_true rfl, rfl, ⟨by decide, by decide⟩, hcat⟩ (by decide +kernel) (fun v hv => by cases hv) d hq k rfl
abbrev g_X9_errorCount : Gx := (yX9_errorCount, cX9_errorCount, 2, (Option.some FieldType.int), 1)
def f_X9_errorCount_12 (l0 : Nat) (h : Hp) : Option (Int32 × Hp) :=
  (ck h l0 9
(bd (f_X9_fail l0 (-2 : Int32) h) fun v3 h4 =>
(some (v3, h4))))
set_option maxRecDepth 20000 in
theorem t_X9_errorCount_12 (l0 : Nat) (h : Hp) : Sm rvI g_X9_errorCount 12 [.ref l0, .null] [] h (f_X9_errorCount_12 l0 h) := by
  unfold f_X9_errorCount_12
  refine Sm.aload_n dX9_errorCount_12 rfl rfl rfl ?_
  refine Sm.bipush dX9_errorCount_13 bp_m2 rfl ?_
  refine Sm.ck (fun o2 => ?_)
  refine kc_X9_55 o2 dX9_errorCount_15 rfl (Nat.le_of_ble_eq_true rfl) (Nat.le_of_ble_eq_true rfl) rfl (fun v3 h4 => ?_)
  exact Sm.ret dX9_errorCount_18 trivial rfl
def f_X9_errorCount (l0 : Nat) (l1 : Int32) (h : Hp) : Option (Int32 × Hp) :=
  (if l1 < (-6 : Int32) then
(f_X9_errorCount_12 l0 h)
else
(if l1 ≤ (-2 : Int32) then
(ck h l0 9
((gP h l0 4).bind fun v7 =>
(ca h v7 20 ((-2 : Int32) - l1)
(some ((gI h v7 ((-2 : Int32) - l1).toNatClampNeg), h)))))
else
(f_X9_errorCount_12 l0 h)))
set_option maxRecDepth 20000 in
theorem t_X9_errorCount (l0 : Nat) (l1 : Int32) (h : Hp) : Sm rvI g_X9_errorCount 0 (ent 2 [.ref l0, .int l1]) [] h (f_X9_errorCount l0 l1 h) := by
  show Sm rvI g_X9_errorCount 0 [.ref l0, .int l1] [] h _
  unfold f_X9_errorCount
  refine Sm.iload_n dX9_errorCount_0 rfl rfl rfl ?_
  refine Sm.bipush dX9_errorCount_1 bp_m6 rfl ?_
  refine Sm.icmp_lt (t := 12) dX9_errorCount_3 (by decide) rfl (fun b1 => ?_) (fun b1 => ?_)
  · exact Sm.wk (t_X9_errorCount_12 l0 h) ⟨Or.inr rfl, Or.inl rfl, trivial⟩
  · refine Sm.iload_n dX9_errorCount_6 rfl rfl rfl ?_
    refine Sm.bipush dX9_errorCount_7 bp_m2 rfl ?_
    refine Sm.icmp_le (t := 19) dX9_errorCount_9 (by decide) rfl (fun b5 => ?_) (fun b5 => ?_)
    · refine Sm.aload_n dX9_errorCount_19 rfl rfl rfl ?_
      refine Sm.ck (fun o6 => ?_)
      refine gf_X9_30 o6 dX9_errorCount_20 rfl rfl (fun v7 => ?_)
      refine Sm.bipush dX9_errorCount_23 bp_m2 rfl ?_
      refine Sm.iload_n dX9_errorCount_25 rfl rfl rfl ?_
      refine Sm.isub dX9_errorCount_26 rfl ?_
      refine Sm.ca (fun q8 => ?_)
      refine Sm.iald q8 dX9_errorCount_27 rfl ?_
      exact Sm.ret dX9_errorCount_28 trivial rfl
    · exact Sm.wk (t_X9_errorCount_12 l0 h) ⟨Or.inr rfl, Or.inl rfl, trivial⟩
set_option maxRecDepth 20000 in
theorem kc_L_120 {ρ : Type} {rv : ρ → Option Value} {G : Gx} {pc q : Nat} {lv st : List Value} {h : Hp} {a : Nat} {x1 : Int32} {e : Int32 → Hp → Option (ρ × Hp)} (hk : isO h a 9) (d : decode G.2.1 pc = .ok (.invokevirtual 120, 3)) (ho : G.1.cls = RL) (hdep : (g_X9_errorCount).2.2.2.2 < G.2.2.2.2) (hcat : catS st ≤ 8) (hq : pc + 3 = q) (k : ∀ r h1, Sm rv G q lv (.int r :: st) h1 (e r h1)) : Sm rv G pc lv (.int x1 :: .ref a :: st) h (bd (f_X9_errorCount a x1 h) e) :=
  Sm.callV (rv' := rvI) (args := [.int x1]) (n := 1) (t_X9_errorCount a x1 h) hk (by decide) (r := (RX9, TX9, 8)) rfl rfl ho mw_868 mw_869 mw_870 mw_1 mw_871 ⟨⟨by decide, rfl, hdep, Nat.le_of_ble_eq_true rfl⟩, Nat.le_of_ble_eq_true rfl, rfl, ⟨by decide, by decide⟩, hcat⟩ (by decide +kernel) (by intro v hv; simp only [List.mem_cons, List.not_mem_nil, or_false] at hv; rcases hv with rfl <;> intro x hx <;> cases hx) d hq k rfl
abbrev g_X9_mixed : Gx := (yX9_mixed, cX9_mixed, 4, (Option.some FieldType.long), 0)
def f_X9_mixed (l0 : Int64) (l2 : Int64) (h : Hp) : Option (Int64 × Hp) :=
  (some ((((31 : Int64) * l0) + l2), h))
set_option maxRecDepth 20000 in
theorem t_X9_mixed (l0 : Int64) (l2 : Int64) (h : Hp) : Sm rvJ g_X9_mixed 0 (ent 4 [.long l0, .long l2]) [] h (f_X9_mixed l0 l2 h) := by
  show Sm rvJ g_X9_mixed 0 [.long l0, .null, .long l2, .null] [] h _
  unfold f_X9_mixed
  refine Sm.ldc2 dX9_mixed_0 mw_880 rfl ?_
  refine Sm.lload_n dX9_mixed_3 rfl rfl rfl ?_
  refine Sm.lmul dX9_mixed_4 rfl ?_
  refine Sm.lload_n dX9_mixed_5 rfl rfl rfl ?_
  refine Sm.ladd dX9_mixed_6 rfl ?_
  exact Sm.ret dX9_mixed_7 trivial rfl
set_option maxRecDepth 20000 in
theorem kc_X9_221 {ρ : Type} {rv : ρ → Option Value} {G : Gx} {pc q : Nat} {lv st : List Value} {h : Hp} {x0 : Int64} {x1 : Int64} {e : Int64 → Hp → Option (ρ × Hp)} (d : decode G.2.1 pc = .ok (.invokestatic 221, 3)) (ho : G.1.cls = RX9) (hdep : (g_X9_mixed).2.2.2.2 < G.2.2.2.2) (hcat : catS st ≤ 8) (hq : pc + 3 = q) (k : ∀ r h1, Sm rv G q lv (.long r :: st) h1 (e r h1)) : Sm rv G pc lv (.long x1 :: .long x0 :: st) h (bd (f_X9_mixed x0 x1 h) e) :=
  Sm.callS (rv' := rvJ) (as := [.long x0, .long x1]) (n := 2) (t_X9_mixed x0 x1 h) ho mw_877 mw_878 mw_1 mw_879 ⟨⟨by decide, rfl, hdep, Nat.le_of_ble_eq_true rfl⟩, Nat.le_of_ble_eq_true rfl, rfl, ⟨by decide, by decide⟩, hcat⟩ (by decide +kernel) (by intro v hv; simp only [List.mem_cons, List.not_mem_nil, or_false] at hv; rcases hv with rfl | rfl <;> intro x hx <;> cases hx) d hq k rfl
abbrev g_X9_mixedTable : Gx := (yX9_mixedTable, cX9_mixedTable, 10, (Option.some FieldType.long), 2)
def f_X9_mixedTable_70 (k18 : (Int64 × Int32 × Hp) → Option (Int64 × Hp)) (k70 : (Int64 × Int32 × Hp) → Option (Int64 × Hp)) (l2 : Nat) (l3 : Nat) (l4 : Int32) (l5 : Int64) (l7 : Int32) (l8 : Int32) (l9 : Int32) (h : Hp) : Option (Int64 × Hp) :=
  (if (125 : Int32) ≤ l9 then
(nm (l7 + (1 : Int32)) fun v12 =>
(k18 (l5, v12, h)))
else
(ck h l3 0
(bd (f_X0_hasAction l3 l8 l9 h) fun v14 h15 =>
(if v14 = 0 then
(nm (l9 + (1 : Int32)) fun v17 =>
(k70 (l5, v17, h15)))
else
(bd (f_X9_mixed l5 l9.toInt64 h15) fun v18 h19 =>
(nm (l9 + (1 : Int32)) fun v20 =>
(k70 (v18, v20, h19))))))))
set_option maxRecDepth 20000 in
theorem t_X9_mixedTable_70 (l2 : Nat) (l3 : Nat) (l4 : Int32) (l5 : Int64) (l7 : Int32) (l8 : Int32) (l9 : Int32) (h : Hp) (k18 : (Int64 × Int32 × Hp) → Option (Int64 × Hp)) (hk18 : ∀ s : Int64 × Int32 × Hp, Sm rvJ g_X9_mixedTable 18 [.null, .null, .ref l2, .ref l3, .int l4, .long s.1, .null, .int s.2.1, .null, .null] [] s.2.2 (k18 s)) (k70 : (Int64 × Int32 × Hp) → Option (Int64 × Hp)) (hk70 : ∀ s : Int64 × Int32 × Hp, Sm rvJ g_X9_mixedTable 70 [.null, .null, .ref l2, .ref l3, .int l4, .long s.1, .null, .int l7, .int l8, .int s.2.1] [] s.2.2 (k70 s)) : Sm rvJ g_X9_mixedTable 70 [.null, .null, .ref l2, .ref l3, .int l4, .long l5, .null, .int l7, .int l8, .int l9] [] h (f_X9_mixedTable_70 k18 k70 l2 l3 l4 l5 l7 l8 l9 h) := by
  unfold f_X9_mixedTable_70
  refine Sm.iload dX9_mixedTable_70 rfl rfl ?_
  refine Sm.bipush dX9_mixedTable_72 bp_125 rfl ?_
  refine Sm.icmp_ge (t := 104) dX9_mixedTable_74 (by decide) rfl (fun b11 => ?_) (fun b11 => ?_)
  · refine Sm.iinc (lv' := [.null, .null, .ref l2, .ref l3, .int l4, .long l5, .null, .int (l7 + (1 : Int32)), .int l8, .int l9]) dX9_mixedTable_104 rfl ic_1 rfl rfl ?_
    refine Sm.nm (LV := fun v12 => [.null, .null, .ref l2, .ref l3, .int l4, .long l5, .null, .int v12, .int l8, .int l9]) (ST := fun v12 => []) (fun v12 => ?_)
    refine Sm.goto (t := 18) dX9_mixedTable_107 (by decide) ?_
    exact Sm.wk (hk18 (l5, v12, h)) ⟨Or.inl rfl, Or.inl rfl, Or.inr rfl, Or.inr rfl, Or.inr rfl, Or.inr rfl, Or.inl rfl, Or.inr rfl, Or.inl rfl, Or.inl rfl, trivial⟩
  · refine Sm.aload_n dX9_mixedTable_77 rfl rfl rfl ?_
    refine Sm.iload dX9_mixedTable_78 rfl rfl ?_
    refine Sm.iload dX9_mixedTable_80 rfl rfl ?_
    refine Sm.ck (fun o13 => ?_)
    refine kc_X9_235 o13 dX9_mixedTable_82 rfl (Nat.le_of_ble_eq_true rfl) (Nat.le_of_ble_eq_true rfl) rfl (fun v14 h15 => ?_)
    refine Sm.if_eq (t := 98) dX9_mixedTable_85 (by decide) rfl (fun b16 => ?_) (fun b16 => ?_)
    · refine Sm.iinc (lv' := [.null, .null, .ref l2, .ref l3, .int l4, .long l5, .null, .int l7, .int l8, .int (l9 + (1 : Int32))]) dX9_mixedTable_98 rfl ic_1 rfl rfl ?_
      refine Sm.nm (LV := fun v17 => [.null, .null, .ref l2, .ref l3, .int l4, .long l5, .null, .int l7, .int l8, .int v17]) (ST := fun v17 => []) (fun v17 => ?_)
      refine Sm.goto (t := 70) dX9_mixedTable_101 (by decide) ?_
      exact Sm.wk (hk70 (l5, v17, h15)) ⟨Or.inl rfl, Or.inl rfl, Or.inr rfl, Or.inr rfl, Or.inr rfl, Or.inr rfl, Or.inl rfl, Or.inr rfl, Or.inr rfl, Or.inr rfl, trivial⟩
    · refine Sm.lload dX9_mixedTable_88 rfl rfl ?_
      refine Sm.iload dX9_mixedTable_90 rfl rfl ?_
      refine Sm.i2l dX9_mixedTable_92 rfl ?_
      refine kc_X9_221 dX9_mixedTable_93 rfl (Nat.le_of_ble_eq_true rfl) (Nat.le_of_ble_eq_true rfl) rfl (fun v18 h19 => ?_)
      refine Sm.lstore (lv' := [.null, .null, .ref l2, .ref l3, .int l4, .long v18, .null, .int l7, .int l8, .int l9]) dX9_mixedTable_96 (Nat.le_of_ble_eq_true rfl) rfl rfl ?_
      refine Sm.iinc (lv' := [.null, .null, .ref l2, .ref l3, .int l4, .long v18, .null, .int l7, .int l8, .int (l9 + (1 : Int32))]) dX9_mixedTable_98 rfl ic_1 rfl rfl ?_
      refine Sm.nm (LV := fun v20 => [.null, .null, .ref l2, .ref l3, .int l4, .long v18, .null, .int l7, .int l8, .int v20]) (ST := fun v20 => []) (fun v20 => ?_)
      refine Sm.goto (t := 70) dX9_mixedTable_101 (by decide) ?_
      exact Sm.wk (hk70 (v18, v20, h19)) ⟨Or.inl rfl, Or.inl rfl, Or.inr rfl, Or.inr rfl, Or.inr rfl, Or.inr rfl, Or.inl rfl, Or.inr rfl, Or.inr rfl, Or.inr rfl, trivial⟩
def f_X9_mixedTable_28 (k18 : (Int64 × Int32 × Hp) → Option (Int64 × Hp)) (k28 : (Int64 × Int32 × Hp) → Option (Int64 × Hp)) (l2 : Nat) (l3 : Nat) (l4 : Int32) (l5 : Int64) (l7 : Int32) (l8 : Int32) (h : Hp) : Option (Int64 × Hp) :=
  (if (3 : Int32) ≤ l8 then
(ck h l2 8
(bd (f_X8_leafOf l2 l7 h) fun v9 h10 =>
(loopN (fun k s => f_X9_mixedTable_70 k18 k l2 l3 l4 s.1 l7 v9 s.2.1 s.2.2) 5000 (l5, (0 : Int32), h10))))
else
(ck h l2 8
(bd (f_X8_demandsOf l2 l7 h) fun v22 h23 =>
(bd (f_X9_entryOf v22 l8 h23) fun v24 h25 =>
(bd (f_X9_mixed l5 v24.toInt64 h25) fun v26 h27 =>
(nm (l8 + (1 : Int32)) fun v28 =>
(k28 (v26, v28, h27))))))))
set_option maxRecDepth 20000 in
theorem t_X9_mixedTable_28 (l2 : Nat) (l3 : Nat) (l4 : Int32) (l5 : Int64) (l7 : Int32) (l8 : Int32) (h : Hp) (k18 : (Int64 × Int32 × Hp) → Option (Int64 × Hp)) (hk18 : ∀ s : Int64 × Int32 × Hp, Sm rvJ g_X9_mixedTable 18 [.null, .null, .ref l2, .ref l3, .int l4, .long s.1, .null, .int s.2.1, .null, .null] [] s.2.2 (k18 s)) (k28 : (Int64 × Int32 × Hp) → Option (Int64 × Hp)) (hk28 : ∀ s : Int64 × Int32 × Hp, Sm rvJ g_X9_mixedTable 28 [.null, .null, .ref l2, .ref l3, .int l4, .long s.1, .null, .int l7, .int s.2.1, .null] [] s.2.2 (k28 s)) : Sm rvJ g_X9_mixedTable 28 [.null, .null, .ref l2, .ref l3, .int l4, .long l5, .null, .int l7, .int l8, .null] [] h (f_X9_mixedTable_28 k18 k28 l2 l3 l4 l5 l7 l8 h) := by
  unfold f_X9_mixedTable_28
  refine Sm.iload dX9_mixedTable_28 rfl rfl ?_
  refine Sm.iconst dX9_mixedTable_30 ic_3 rfl ?_
  refine Sm.icmp_ge (t := 59) dX9_mixedTable_31 (by decide) rfl (fun b7 => ?_) (fun b7 => ?_)
  · refine Sm.aload_n dX9_mixedTable_59 rfl rfl rfl ?_
    refine Sm.iload dX9_mixedTable_60 rfl rfl ?_
    refine Sm.ck (fun o8 => ?_)
    refine kc_X9_192 o8 dX9_mixedTable_62 rfl (Nat.le_of_ble_eq_true rfl) (Nat.le_of_ble_eq_true rfl) rfl (fun v9 h10 => ?_)
    refine Sm.istore (lv' := [.null, .null, .ref l2, .ref l3, .int l4, .long l5, .null, .int l7, .int v9, .null]) dX9_mixedTable_65 (Nat.le_of_ble_eq_true rfl) rfl rfl ?_
    refine Sm.iconst dX9_mixedTable_67 ic_0 rfl ?_
    refine Sm.istore (lv' := [.null, .null, .ref l2, .ref l3, .int l4, .long l5, .null, .int l7, .int v9, .int (0 : Int32)]) dX9_mixedTable_68 (Nat.le_of_ble_eq_true rfl) rfl rfl ?_
    exact Sm.wk (Sm.loop (σ := Int64 × Int32 × Hp) (LV := fun s => [.null, .null, .ref l2, .ref l3, .int l4, .long s.1, .null, .int l7, .int v9, .int s.2.1]) (HH := fun s => s.2.2) (fun k hk s => t_X9_mixedTable_70 l2 l3 l4 s.1 l7 v9 s.2.1 s.2.2 k18 hk18 k hk) 5000 (l5, (0 : Int32), h10)) ⟨Or.inl rfl, Or.inl rfl, Or.inr rfl, Or.inr rfl, Or.inr rfl, Or.inr rfl, Or.inl rfl, Or.inr rfl, Or.inr rfl, Or.inr rfl, trivial⟩
  · refine Sm.lload dX9_mixedTable_34 rfl rfl ?_
    refine Sm.aload_n dX9_mixedTable_36 rfl rfl rfl ?_
    refine Sm.iload dX9_mixedTable_37 rfl rfl ?_
    refine Sm.ck (fun o21 => ?_)
    refine kc_X9_185 o21 dX9_mixedTable_39 rfl (Nat.le_of_ble_eq_true rfl) (Nat.le_of_ble_eq_true rfl) rfl (fun v22 h23 => ?_)
    refine Sm.iload dX9_mixedTable_42 rfl rfl ?_
    refine kc_X9_188 dX9_mixedTable_44 rfl (Nat.le_of_ble_eq_true rfl) (Nat.le_of_ble_eq_true rfl) rfl (fun v24 h25 => ?_)
    refine Sm.i2l dX9_mixedTable_47 rfl ?_
    refine kc_X9_221 dX9_mixedTable_48 rfl (Nat.le_of_ble_eq_true rfl) (Nat.le_of_ble_eq_true rfl) rfl (fun v26 h27 => ?_)
    refine Sm.lstore (lv' := [.null, .null, .ref l2, .ref l3, .int l4, .long v26, .null, .int l7, .int l8, .null]) dX9_mixedTable_51 (Nat.le_of_ble_eq_true rfl) rfl rfl ?_
    refine Sm.iinc (lv' := [.null, .null, .ref l2, .ref l3, .int l4, .long v26, .null, .int l7, .int (l8 + (1 : Int32)), .null]) dX9_mixedTable_53 rfl ic_1 rfl rfl ?_
    refine Sm.nm (LV := fun v28 => [.null, .null, .ref l2, .ref l3, .int l4, .long v26, .null, .int l7, .int v28, .null]) (ST := fun v28 => []) (fun v28 => ?_)
    refine Sm.goto (t := 28) dX9_mixedTable_56 (by decide) ?_
    exact Sm.wk (hk28 (v26, v28, h27)) ⟨Or.inl rfl, Or.inl rfl, Or.inr rfl, Or.inr rfl, Or.inr rfl, Or.inr rfl, Or.inl rfl, Or.inr rfl, Or.inr rfl, Or.inl rfl, trivial⟩
def f_X9_mixedTable_18 (k18 : (Int64 × Int32 × Hp) → Option (Int64 × Hp)) (l2 : Nat) (l3 : Nat) (l4 : Int32) (l5 : Int64) (l7 : Int32) (h : Hp) : Option (Int64 × Hp) :=
  (if l4 ≤ l7 then
(some (l5, h))
else
(loopN (fun k s => f_X9_mixedTable_28 k18 k l2 l3 l4 s.1 l7 s.2.1 s.2.2) 5000 (l5, (0 : Int32), h)))
set_option maxRecDepth 20000 in
theorem t_X9_mixedTable_18 (l2 : Nat) (l3 : Nat) (l4 : Int32) (l5 : Int64) (l7 : Int32) (h : Hp) (k18 : (Int64 × Int32 × Hp) → Option (Int64 × Hp)) (hk18 : ∀ s : Int64 × Int32 × Hp, Sm rvJ g_X9_mixedTable 18 [.null, .null, .ref l2, .ref l3, .int l4, .long s.1, .null, .int s.2.1, .null, .null] [] s.2.2 (k18 s)) : Sm rvJ g_X9_mixedTable 18 [.null, .null, .ref l2, .ref l3, .int l4, .long l5, .null, .int l7, .null, .null] [] h (f_X9_mixedTable_18 k18 l2 l3 l4 l5 l7 h) := by
  unfold f_X9_mixedTable_18
  refine Sm.iload dX9_mixedTable_18 rfl rfl ?_
  refine Sm.iload dX9_mixedTable_20 rfl rfl ?_
  refine Sm.icmp_ge (t := 110) dX9_mixedTable_22 (by decide) rfl (fun b6 => ?_) (fun b6 => ?_)
  · refine Sm.lload dX9_mixedTable_110 rfl rfl ?_
    exact Sm.ret dX9_mixedTable_112 trivial rfl
  · refine Sm.iconst dX9_mixedTable_25 ic_0 rfl ?_
    refine Sm.istore (lv' := [.null, .null, .ref l2, .ref l3, .int l4, .long l5, .null, .int l7, .int (0 : Int32), .null]) dX9_mixedTable_26 (Nat.le_of_ble_eq_true rfl) rfl rfl ?_
    exact Sm.wk (Sm.loop (σ := Int64 × Int32 × Hp) (LV := fun s => [.null, .null, .ref l2, .ref l3, .int l4, .long s.1, .null, .int l7, .int s.2.1, .null]) (HH := fun s => s.2.2) (fun k hk s => t_X9_mixedTable_28 l2 l3 l4 s.1 l7 s.2.1 s.2.2 k18 hk18 k hk) 5000 (l5, (0 : Int32), h)) ⟨Or.inl rfl, Or.inl rfl, Or.inr rfl, Or.inr rfl, Or.inr rfl, Or.inr rfl, Or.inl rfl, Or.inr rfl, Or.inr rfl, Or.inl rfl, trivial⟩
def f_X9_mixedTable (l0 : Int64) (l2 : Nat) (l3 : Nat) (h : Hp) : Option (Int64 × Hp) :=
  (ck h l2 8
(bd (f_X8_rowTotal l2 h) fun v2 h3 =>
(bd (f_X9_mixed l0 v2.toInt64 h3) fun v4 h5 =>
(loopN (fun k s => f_X9_mixedTable_18 k l2 l3 v2 s.1 s.2.1 s.2.2) 5000 (v4, (0 : Int32), h5)))))
set_option maxRecDepth 20000 in
theorem t_X9_mixedTable (l0 : Int64) (l2 : Nat) (l3 : Nat) (h : Hp) : Sm rvJ g_X9_mixedTable 0 (ent 10 [.long l0, .ref l2, .ref l3]) [] h (f_X9_mixedTable l0 l2 l3 h) := by
  show Sm rvJ g_X9_mixedTable 0 [.long l0, .null, .ref l2, .ref l3, .null, .null, .null, .null, .null, .null] [] h _
  unfold f_X9_mixedTable
  refine Sm.aload_n dX9_mixedTable_0 rfl rfl rfl ?_
  refine Sm.ck (fun o1 => ?_)
  refine kc_X9_177 o1 dX9_mixedTable_1 rfl (Nat.le_of_ble_eq_true rfl) (Nat.le_of_ble_eq_true rfl) rfl (fun v2 h3 => ?_)
  refine Sm.istore (lv' := [.long l0, .null, .ref l2, .ref l3, .int v2, .null, .null, .null, .null, .null]) dX9_mixedTable_4 (Nat.le_of_ble_eq_true rfl) rfl rfl ?_
  refine Sm.lload_n dX9_mixedTable_6 rfl rfl rfl ?_
  refine Sm.iload dX9_mixedTable_7 rfl rfl ?_
  refine Sm.i2l dX9_mixedTable_9 rfl ?_
  refine kc_X9_221 dX9_mixedTable_10 rfl (Nat.le_of_ble_eq_true rfl) (Nat.le_of_ble_eq_true rfl) rfl (fun v4 h5 => ?_)
  refine Sm.lstore (lv' := [.long l0, .null, .ref l2, .ref l3, .int v2, .long v4, .null, .null, .null, .null]) dX9_mixedTable_13 (Nat.le_of_ble_eq_true rfl) rfl rfl ?_
  refine Sm.iconst dX9_mixedTable_15 ic_0 rfl ?_
  refine Sm.istore (lv' := [.long l0, .null, .ref l2, .ref l3, .int v2, .long v4, .null, .int (0 : Int32), .null, .null]) dX9_mixedTable_16 (Nat.le_of_ble_eq_true rfl) rfl rfl ?_
  exact Sm.wk (Sm.loop (σ := Int64 × Int32 × Hp) (LV := fun s => [.null, .null, .ref l2, .ref l3, .int v2, .long s.1, .null, .int s.2.1, .null, .null]) (HH := fun s => s.2.2) (fun k hk s => t_X9_mixedTable_18 l2 l3 v2 s.1 s.2.1 s.2.2 k hk) 5000 (v4, (0 : Int32), h5)) ⟨Or.inl rfl, Or.inl rfl, Or.inr rfl, Or.inr rfl, Or.inr rfl, Or.inr rfl, Or.inl rfl, Or.inr rfl, Or.inl rfl, Or.inl rfl, trivial⟩
set_option maxRecDepth 20000 in
theorem kc_X9_231 {ρ : Type} {rv : ρ → Option Value} {G : Gx} {pc q : Nat} {lv st : List Value} {h : Hp} {x0 : Int64} {x1 : Nat} {x2 : Nat} {e : Int64 → Hp → Option (ρ × Hp)} (d : decode G.2.1 pc = .ok (.invokestatic 231, 3)) (ho : G.1.cls = RX9) (hdep : (g_X9_mixedTable).2.2.2.2 < G.2.2.2.2) (hcat : catS st ≤ 8) (hq : pc + 3 = q) (k : ∀ r h1, Sm rv G q lv (.long r :: st) h1 (e r h1)) : Sm rv G pc lv (.ref x2 :: .ref x1 :: .long x0 :: st) h (bd (f_X9_mixedTable x0 x1 x2 h) e) :=
  Sm.callS (rv' := rvJ) (as := [.long x0, .ref x1, .ref x2]) (n := 3) (t_X9_mixedTable x0 x1 x2 h) ho mw_884 mw_885 mw_1 mw_886 ⟨⟨by decide, rfl, hdep, Nat.le_of_ble_eq_true rfl⟩, Nat.le_of_ble_eq_true rfl, rfl, ⟨by decide, by decide⟩, hcat⟩ (by decide +kernel) (by intro v hv; simp only [List.mem_cons, List.not_mem_nil, or_false] at hv; rcases hv with rfl | rfl | rfl <;> intro x hx <;> cases hx) d hq k rfl
abbrev g_X9_mixedSlot : Gx := (yX9_mixedSlot, cX9_mixedSlot, 9, (Option.some FieldType.long), 5)
def f_X9_mixedSlot_29 (k29 : (Int64 × Int32 × Hp) → Option (Int64 × Hp)) (l2 : Nat) (l3 : Int64) (l5 : Nat) (l6 : Int32) (l7 : Int32) (h : Hp) : Option (Int64 × Hp) :=
  (if l6 ≤ l7 then
(ck h l2 7
(bd (f_X7_relation l2 h) fun v17 h18 =>
(ck h18 v17 6
(bd (f_X6_imageOf v17 (0 : Int32) h18) fun v20 h21 =>
(bd (f_X9_mixed l3 v20 h21) fun v22 h23 =>
(ck h23 v17 6
(bd (f_X6_imageOf v17 (27 : Int32) h23) fun v25 h26 =>
(bd (f_X9_mixed v22 v25 h26) fun v27 h28 =>
(ck h28 v17 6
(bd (f_X6_imageOf v17 (63 : Int32) h28) fun v30 h31 =>
(bd (f_X9_mixed v27 v30 h31) fun v32 h33 =>
(ck h33 v17 6
(bd (f_X6_domain v17 h33) fun v35 h36 =>
(bd (f_X9_mixed v32 v35 h36) fun v37 h38 =>
(ck h38 v17 6
(bd (f_X6_widest v17 h38) fun v40 h41 =>
(bd (f_X9_mixed v37 v40.toInt64 h41) fun v42 h43 =>
(ck h43 v17 6
(bd (f_X6_mostSteps v17 h43) fun v45 h46 =>
(bd (f_X9_mixed v42 v45.toInt64 h46) fun v47 h48 =>
(ck h48 l2 7
(bd (f_X7_diagram l2 h48) fun v50 h51 =>
(ck h51 v50 0
(bd (f_X0_nodeTotal v50 h51) fun v53 h54 =>
(bd (f_X9_mixed v47 v53.toInt64 h54) fun v55 h56 =>
(ck h56 v50 0
(bd (f_X0_leafTotal v50 h56) fun v58 h59 =>
(bd (f_X9_mixed v55 v58.toInt64 h59) fun v60 h61 =>
(ck h61 v50 0
(bd (f_X0_longestWay v50 h61) fun v63 h64 =>
(bd (f_X9_mixed v60 v63.toInt64 h64) fun v65 h66 =>
(ck h66 l2 7
(bd (f_X7_table l2 h66) fun v68 h69 =>
(bd (f_X9_mixedTable v65 v68 v50 h69) fun v70 h71 =>
(some (v70, h71))))))))))))))))))))))))))))))))))))
else
(ck h l5 5
(bd (f_X5_byteAt l5 l7 h) fun v73 h74 =>
(bd (f_X9_mixed l3 v73.toInt64 h74) fun v75 h76 =>
(nm (l7 + (1 : Int32)) fun v77 =>
(k29 (v75, v77, h76)))))))
set_option maxRecDepth 20000 in
theorem t_X9_mixedSlot_29 (l2 : Nat) (l3 : Int64) (l5 : Nat) (l6 : Int32) (l7 : Int32) (h : Hp) (k29 : (Int64 × Int32 × Hp) → Option (Int64 × Hp)) (hk29 : ∀ s : Int64 × Int32 × Hp, Sm rvJ g_X9_mixedSlot 29 [.null, .null, .ref l2, .long s.1, .null, .ref l5, .int l6, .int s.2.1, .null] [] s.2.2 (k29 s)) : Sm rvJ g_X9_mixedSlot 29 [.null, .null, .ref l2, .long l3, .null, .ref l5, .int l6, .int l7, .null] [] h (f_X9_mixedSlot_29 k29 l2 l3 l5 l6 l7 h) := by
  unfold f_X9_mixedSlot_29
  refine Sm.iload dX9_mixedSlot_29 rfl rfl ?_
  refine Sm.iload dX9_mixedSlot_31 rfl rfl ?_
  refine Sm.icmp_ge (t := 55) dX9_mixedSlot_33 (by decide) rfl (fun b15 => ?_) (fun b15 => ?_)
  · refine Sm.aload_n dX9_mixedSlot_55 rfl rfl rfl ?_
    refine Sm.ck (fun o16 => ?_)
    refine kc_X9_123 o16 dX9_mixedSlot_56 rfl (Nat.le_of_ble_eq_true rfl) (Nat.le_of_ble_eq_true rfl) rfl (fun v17 h18 => ?_)
    refine Sm.astore (lv' := [.null, .null, .ref l2, .long l3, .null, .ref l5, .int l6, .ref v17, .null]) dX9_mixedSlot_59 (Nat.le_of_ble_eq_true rfl) rfl rfl ?_
    refine Sm.lload_n dX9_mixedSlot_61 rfl rfl rfl ?_
    refine Sm.aload dX9_mixedSlot_62 rfl rfl ?_
    refine Sm.iconst dX9_mixedSlot_64 ic_0 rfl ?_
    refine Sm.ck (fun o19 => ?_)
    refine kc_X9_127 o19 dX9_mixedSlot_65 rfl (Nat.le_of_ble_eq_true rfl) (Nat.le_of_ble_eq_true rfl) rfl (fun v20 h21 => ?_)
    refine kc_X9_221 dX9_mixedSlot_68 rfl (Nat.le_of_ble_eq_true rfl) (Nat.le_of_ble_eq_true rfl) rfl (fun v22 h23 => ?_)
    refine Sm.lstore_n (lv' := [.null, .null, .ref l2, .long v22, .null, .ref l5, .int l6, .ref v17, .null]) dX9_mixedSlot_71 rfl (Nat.le_of_ble_eq_true rfl) rfl rfl ?_
    refine Sm.lload_n dX9_mixedSlot_72 rfl rfl rfl ?_
    refine Sm.aload dX9_mixedSlot_73 rfl rfl ?_
    refine Sm.bipush dX9_mixedSlot_75 bp_27 rfl ?_
    refine Sm.ck (fun o24 => ?_)
    refine kc_X9_127 o24 dX9_mixedSlot_77 rfl (Nat.le_of_ble_eq_true rfl) (Nat.le_of_ble_eq_true rfl) rfl (fun v25 h26 => ?_)
    refine kc_X9_221 dX9_mixedSlot_80 rfl (Nat.le_of_ble_eq_true rfl) (Nat.le_of_ble_eq_true rfl) rfl (fun v27 h28 => ?_)
    refine Sm.lstore_n (lv' := [.null, .null, .ref l2, .long v27, .null, .ref l5, .int l6, .ref v17, .null]) dX9_mixedSlot_83 rfl (Nat.le_of_ble_eq_true rfl) rfl rfl ?_
    refine Sm.lload_n dX9_mixedSlot_84 rfl rfl rfl ?_
    refine Sm.aload dX9_mixedSlot_85 rfl rfl ?_
    refine Sm.bipush dX9_mixedSlot_87 bp_63 rfl ?_
    refine Sm.ck (fun o29 => ?_)
    refine kc_X9_127 o29 dX9_mixedSlot_89 rfl (Nat.le_of_ble_eq_true rfl) (Nat.le_of_ble_eq_true rfl) rfl (fun v30 h31 => ?_)
    refine kc_X9_221 dX9_mixedSlot_92 rfl (Nat.le_of_ble_eq_true rfl) (Nat.le_of_ble_eq_true rfl) rfl (fun v32 h33 => ?_)
    refine Sm.lstore_n (lv' := [.null, .null, .ref l2, .long v32, .null, .ref l5, .int l6, .ref v17, .null]) dX9_mixedSlot_95 rfl (Nat.le_of_ble_eq_true rfl) rfl rfl ?_
    refine Sm.lload_n dX9_mixedSlot_96 rfl rfl rfl ?_
    refine Sm.aload dX9_mixedSlot_97 rfl rfl ?_
    refine Sm.ck (fun o34 => ?_)
    refine kc_X9_133 o34 dX9_mixedSlot_99 rfl (Nat.le_of_ble_eq_true rfl) (Nat.le_of_ble_eq_true rfl) rfl (fun v35 h36 => ?_)
    refine kc_X9_221 dX9_mixedSlot_102 rfl (Nat.le_of_ble_eq_true rfl) (Nat.le_of_ble_eq_true rfl) rfl (fun v37 h38 => ?_)
    refine Sm.lstore_n (lv' := [.null, .null, .ref l2, .long v37, .null, .ref l5, .int l6, .ref v17, .null]) dX9_mixedSlot_105 rfl (Nat.le_of_ble_eq_true rfl) rfl rfl ?_
    refine Sm.lload_n dX9_mixedSlot_106 rfl rfl rfl ?_
    refine Sm.aload dX9_mixedSlot_107 rfl rfl ?_
    refine Sm.ck (fun o39 => ?_)
    refine kc_X9_137 o39 dX9_mixedSlot_109 rfl (Nat.le_of_ble_eq_true rfl) (Nat.le_of_ble_eq_true rfl) rfl (fun v40 h41 => ?_)
    refine Sm.i2l dX9_mixedSlot_112 rfl ?_
    refine kc_X9_221 dX9_mixedSlot_113 rfl (Nat.le_of_ble_eq_true rfl) (Nat.le_of_ble_eq_true rfl) rfl (fun v42 h43 => ?_)
    refine Sm.lstore_n (lv' := [.null, .null, .ref l2, .long v42, .null, .ref l5, .int l6, .ref v17, .null]) dX9_mixedSlot_116 rfl (Nat.le_of_ble_eq_true rfl) rfl rfl ?_
    refine Sm.lload_n dX9_mixedSlot_117 rfl rfl rfl ?_
    refine Sm.aload dX9_mixedSlot_118 rfl rfl ?_
    refine Sm.ck (fun o44 => ?_)
    refine kc_X9_140 o44 dX9_mixedSlot_120 rfl (Nat.le_of_ble_eq_true rfl) (Nat.le_of_ble_eq_true rfl) rfl (fun v45 h46 => ?_)
    refine Sm.i2l dX9_mixedSlot_123 rfl ?_
    refine kc_X9_221 dX9_mixedSlot_124 rfl (Nat.le_of_ble_eq_true rfl) (Nat.le_of_ble_eq_true rfl) rfl (fun v47 h48 => ?_)
    refine Sm.lstore_n (lv' := [.null, .null, .ref l2, .long v47, .null, .ref l5, .int l6, .ref v17, .null]) dX9_mixedSlot_127 rfl (Nat.le_of_ble_eq_true rfl) rfl rfl ?_
    refine Sm.aload_n dX9_mixedSlot_128 rfl rfl rfl ?_
    refine Sm.ck (fun o49 => ?_)
    refine kc_X9_154 o49 dX9_mixedSlot_129 rfl (Nat.le_of_ble_eq_true rfl) (Nat.le_of_ble_eq_true rfl) rfl (fun v50 h51 => ?_)
    refine Sm.astore (lv' := [.null, .null, .ref l2, .long v47, .null, .ref l5, .int l6, .ref v17, .ref v50]) dX9_mixedSlot_132 (Nat.le_of_ble_eq_true rfl) rfl rfl ?_
    refine Sm.lload_n dX9_mixedSlot_134 rfl rfl rfl ?_
    refine Sm.aload dX9_mixedSlot_135 rfl rfl ?_
    refine Sm.ck (fun o52 => ?_)
    refine kc_X9_158 o52 dX9_mixedSlot_137 rfl (Nat.le_of_ble_eq_true rfl) (Nat.le_of_ble_eq_true rfl) rfl (fun v53 h54 => ?_)
    refine Sm.i2l dX9_mixedSlot_140 rfl ?_
    refine kc_X9_221 dX9_mixedSlot_141 rfl (Nat.le_of_ble_eq_true rfl) (Nat.le_of_ble_eq_true rfl) rfl (fun v55 h56 => ?_)
    refine Sm.lstore_n (lv' := [.null, .null, .ref l2, .long v55, .null, .ref l5, .int l6, .ref v17, .ref v50]) dX9_mixedSlot_144 rfl (Nat.le_of_ble_eq_true rfl) rfl rfl ?_
    refine Sm.lload_n dX9_mixedSlot_145 rfl rfl rfl ?_
    refine Sm.aload dX9_mixedSlot_146 rfl rfl ?_
    refine Sm.ck (fun o57 => ?_)
    refine kc_X9_163 o57 dX9_mixedSlot_148 rfl (Nat.le_of_ble_eq_true rfl) (Nat.le_of_ble_eq_true rfl) rfl (fun v58 h59 => ?_)
    refine Sm.i2l dX9_mixedSlot_151 rfl ?_
    refine kc_X9_221 dX9_mixedSlot_152 rfl (Nat.le_of_ble_eq_true rfl) (Nat.le_of_ble_eq_true rfl) rfl (fun v60 h61 => ?_)
    refine Sm.lstore_n (lv' := [.null, .null, .ref l2, .long v60, .null, .ref l5, .int l6, .ref v17, .ref v50]) dX9_mixedSlot_155 rfl (Nat.le_of_ble_eq_true rfl) rfl rfl ?_
    refine Sm.lload_n dX9_mixedSlot_156 rfl rfl rfl ?_
    refine Sm.aload dX9_mixedSlot_157 rfl rfl ?_
    refine Sm.ck (fun o62 => ?_)
    refine kc_X9_166 o62 dX9_mixedSlot_159 rfl (Nat.le_of_ble_eq_true rfl) (Nat.le_of_ble_eq_true rfl) rfl (fun v63 h64 => ?_)
    refine Sm.i2l dX9_mixedSlot_162 rfl ?_
    refine kc_X9_221 dX9_mixedSlot_163 rfl (Nat.le_of_ble_eq_true rfl) (Nat.le_of_ble_eq_true rfl) rfl (fun v65 h66 => ?_)
    refine Sm.lstore_n (lv' := [.null, .null, .ref l2, .long v65, .null, .ref l5, .int l6, .ref v17, .ref v50]) dX9_mixedSlot_166 rfl (Nat.le_of_ble_eq_true rfl) rfl rfl ?_
    refine Sm.lload_n dX9_mixedSlot_167 rfl rfl rfl ?_
    refine Sm.aload_n dX9_mixedSlot_168 rfl rfl rfl ?_
    refine Sm.ck (fun o67 => ?_)
    refine kc_X9_173 o67 dX9_mixedSlot_169 rfl (Nat.le_of_ble_eq_true rfl) (Nat.le_of_ble_eq_true rfl) rfl (fun v68 h69 => ?_)
    refine Sm.aload dX9_mixedSlot_172 rfl rfl ?_
    refine kc_X9_231 dX9_mixedSlot_174 rfl (Nat.le_of_ble_eq_true rfl) (Nat.le_of_ble_eq_true rfl) rfl (fun v70 h71 => ?_)
    exact Sm.ret dX9_mixedSlot_177 trivial rfl
  · refine Sm.lload_n dX9_mixedSlot_36 rfl rfl rfl ?_
    refine Sm.aload dX9_mixedSlot_37 rfl rfl ?_
    refine Sm.iload dX9_mixedSlot_39 rfl rfl ?_
    refine Sm.ck (fun o72 => ?_)
    refine kc_X9_117 o72 dX9_mixedSlot_41 rfl (Nat.le_of_ble_eq_true rfl) (Nat.le_of_ble_eq_true rfl) rfl (fun v73 h74 => ?_)
    refine Sm.i2l dX9_mixedSlot_44 rfl ?_
    refine kc_X9_221 dX9_mixedSlot_45 rfl (Nat.le_of_ble_eq_true rfl) (Nat.le_of_ble_eq_true rfl) rfl (fun v75 h76 => ?_)
    refine Sm.lstore_n (lv' := [.null, .null, .ref l2, .long v75, .null, .ref l5, .int l6, .int l7, .null]) dX9_mixedSlot_48 rfl (Nat.le_of_ble_eq_true rfl) rfl rfl ?_
    refine Sm.iinc (lv' := [.null, .null, .ref l2, .long v75, .null, .ref l5, .int l6, .int (l7 + (1 : Int32)), .null]) dX9_mixedSlot_49 rfl ic_1 rfl rfl ?_
    refine Sm.nm (LV := fun v77 => [.null, .null, .ref l2, .long v75, .null, .ref l5, .int l6, .int v77, .null]) (ST := fun v77 => []) (fun v77 => ?_)
    refine Sm.goto (t := 29) dX9_mixedSlot_52 (by decide) ?_
    exact Sm.wk (hk29 (v75, v77, h76)) ⟨Or.inl rfl, Or.inl rfl, Or.inr rfl, Or.inr rfl, Or.inl rfl, Or.inr rfl, Or.inr rfl, Or.inr rfl, Or.inl rfl, trivial⟩
def f_X9_mixedSlot (l0 : Int64) (l2 : Nat) (h : Hp) : Option (Int64 × Hp) :=
  (ck h l2 7
(bd (f_X7_policy l2 h) fun v2 h3 =>
(ck h3 v2 4
(bd (f_X4_nodeCount v2 h3) fun v5 h6 =>
(bd (f_X9_mixed l0 v5.toInt64 h6) fun v7 h8 =>
(ck h8 l2 7
(bd (f_X7_printout l2 h8) fun v10 h11 =>
(ck h11 v10 5
(bd (f_X5_byteCount v10 h11) fun v13 h14 =>
(loopN (fun k s => f_X9_mixedSlot_29 k l2 s.1 v10 v13 s.2.1 s.2.2) 5000 (v7, (0 : Int32), h14)))))))))))
set_option maxRecDepth 20000 in
theorem t_X9_mixedSlot (l0 : Int64) (l2 : Nat) (h : Hp) : Sm rvJ g_X9_mixedSlot 0 (ent 9 [.long l0, .ref l2]) [] h (f_X9_mixedSlot l0 l2 h) := by
  show Sm rvJ g_X9_mixedSlot 0 [.long l0, .null, .ref l2, .null, .null, .null, .null, .null, .null] [] h _
  unfold f_X9_mixedSlot
  refine Sm.lload_n dX9_mixedSlot_0 rfl rfl rfl ?_
  refine Sm.aload_n dX9_mixedSlot_1 rfl rfl rfl ?_
  refine Sm.ck (fun o1 => ?_)
  refine kc_X9_78 o1 dX9_mixedSlot_2 rfl (Nat.le_of_ble_eq_true rfl) (Nat.le_of_ble_eq_true rfl) rfl (fun v2 h3 => ?_)
  refine Sm.ck (fun o4 => ?_)
  refine kc_X9_100 o4 dX9_mixedSlot_5 rfl (Nat.le_of_ble_eq_true rfl) (Nat.le_of_ble_eq_true rfl) rfl (fun v5 h6 => ?_)
  refine Sm.i2l dX9_mixedSlot_8 rfl ?_
  refine kc_X9_221 dX9_mixedSlot_9 rfl (Nat.le_of_ble_eq_true rfl) (Nat.le_of_ble_eq_true rfl) rfl (fun v7 h8 => ?_)
  refine Sm.lstore_n (lv' := [.long l0, .null, .ref l2, .long v7, .null, .null, .null, .null, .null]) dX9_mixedSlot_12 rfl (Nat.le_of_ble_eq_true rfl) rfl rfl ?_
  refine Sm.aload_n dX9_mixedSlot_13 rfl rfl rfl ?_
  refine Sm.ck (fun o9 => ?_)
  refine kc_X9_108 o9 dX9_mixedSlot_14 rfl (Nat.le_of_ble_eq_true rfl) (Nat.le_of_ble_eq_true rfl) rfl (fun v10 h11 => ?_)
  refine Sm.astore (lv' := [.long l0, .null, .ref l2, .long v7, .null, .ref v10, .null, .null, .null]) dX9_mixedSlot_17 (Nat.le_of_ble_eq_true rfl) rfl rfl ?_
  refine Sm.aload dX9_mixedSlot_19 rfl rfl ?_
  refine Sm.ck (fun o12 => ?_)
  refine kc_X9_112 o12 dX9_mixedSlot_21 rfl (Nat.le_of_ble_eq_true rfl) (Nat.le_of_ble_eq_true rfl) rfl (fun v13 h14 => ?_)
  refine Sm.istore (lv' := [.long l0, .null, .ref l2, .long v7, .null, .ref v10, .int v13, .null, .null]) dX9_mixedSlot_24 (Nat.le_of_ble_eq_true rfl) rfl rfl ?_
  refine Sm.iconst dX9_mixedSlot_26 ic_0 rfl ?_
  refine Sm.istore (lv' := [.long l0, .null, .ref l2, .long v7, .null, .ref v10, .int v13, .int (0 : Int32), .null]) dX9_mixedSlot_27 (Nat.le_of_ble_eq_true rfl) rfl rfl ?_
  exact Sm.wk (Sm.loop (σ := Int64 × Int32 × Hp) (LV := fun s => [.null, .null, .ref l2, .long s.1, .null, .ref v10, .int v13, .int s.2.1, .null]) (HH := fun s => s.2.2) (fun k hk s => t_X9_mixedSlot_29 l2 s.1 v10 v13 s.2.1 s.2.2 k hk) 5000 (v7, (0 : Int32), h14)) ⟨Or.inl rfl, Or.inl rfl, Or.inr rfl, Or.inr rfl, Or.inl rfl, Or.inr rfl, Or.inr rfl, Or.inr rfl, Or.inl rfl, trivial⟩
set_option maxRecDepth 20000 in
theorem kc_X9_225 {ρ : Type} {rv : ρ → Option Value} {G : Gx} {pc q : Nat} {lv st : List Value} {h : Hp} {x0 : Int64} {x1 : Nat} {e : Int64 → Hp → Option (ρ × Hp)} (d : decode G.2.1 pc = .ok (.invokestatic 225, 3)) (ho : G.1.cls = RX9) (hdep : (g_X9_mixedSlot).2.2.2.2 < G.2.2.2.2) (hcat : catS st ≤ 8) (hq : pc + 3 = q) (k : ∀ r h1, Sm rv G q lv (.long r :: st) h1 (e r h1)) : Sm rv G pc lv (.ref x1 :: .long x0 :: st) h (bd (f_X9_mixedSlot x0 x1 h) e) :=
  Sm.callS (rv' := rvJ) (as := [.long x0, .ref x1]) (n := 2) (t_X9_mixedSlot x0 x1 h) ho mw_881 mw_882 mw_1 mw_883 ⟨⟨by decide, rfl, hdep, Nat.le_of_ble_eq_true rfl⟩, Nat.le_of_ble_eq_true rfl, rfl, ⟨by decide, by decide⟩, hcat⟩ (by decide +kernel) (by intro v hv; simp only [List.mem_cons, List.not_mem_nil, or_false] at hv; rcases hv with rfl | rfl <;> intro x hx <;> cases hx) d hq k rfl
abbrev g_X9_digest : Gx := (yX9_digest, cX9_digest, 5, (Option.some FieldType.long), 12)
def f_X9_digest_82 (k72 : (Int64 × Int32 × Hp) → Option (Int64 × Hp)) (k82 : (Int64 × Int32 × Hp) → Option (Int64 × Hp)) (l0 : Nat) (l1 : Int64) (l3 : Int32) (l4 : Int32) (h : Hp) : Option (Int64 × Hp) :=
  (if (4 : Int32) ≤ l4 then
(nm (l3 + (1 : Int32)) fun v16 =>
(k72 (l1, v16, h)))
else
(ck h l0 9
((gP h l0 2).bind fun v18 =>
(ca h v18 23 l3
((gP h v18 l3.toNatClampNeg).bind fun v20 =>
(ck h v20 7
(bd (f_X7_relation v20 h) fun v22 h23 =>
(ck h23 l0 9
((gP h23 l0 2).bind fun v25 =>
(ca h23 v25 23 l4
((gP h23 v25 l4.toNatClampNeg).bind fun v27 =>
(ck h23 v27 7
(bd (f_X7_relation v27 h23) fun v29 h30 =>
(ck h30 v22 6
(bd (f_X6_orderTo v22 v29 h30) fun v32 h33 =>
(bd (f_X9_mixed l1 v32.toInt64 h33) fun v34 h35 =>
(ck h35 l0 9
((gP h35 l0 2).bind fun v37 =>
(ca h35 v37 23 l3
((gP h35 v37 l3.toNatClampNeg).bind fun v39 =>
(ck h35 v39 7
(bd (f_X7_relation v39 h35) fun v41 h42 =>
(ck h42 l0 9
((gP h42 l0 2).bind fun v44 =>
(ca h42 v44 23 l4
((gP h42 v44 l4.toNatClampNeg).bind fun v46 =>
(ck h42 v46 7
(bd (f_X7_relation v46 h42) fun v48 h49 =>
(ck h49 v41 6
(bd (f_X6_firstUnlike v41 v48 h49) fun v51 h52 =>
(bd (f_X9_mixed v34 v51.toInt64 h52) fun v53 h54 =>
(nm (l4 + (1 : Int32)) fun v55 =>
(k82 (v53, v55, h54))))))))))))))))))))))))))))))))))
set_option maxRecDepth 20000 in
theorem t_X9_digest_82 (l0 : Nat) (l1 : Int64) (l3 : Int32) (l4 : Int32) (h : Hp) (k72 : (Int64 × Int32 × Hp) → Option (Int64 × Hp)) (hk72 : ∀ s : Int64 × Int32 × Hp, Sm rvJ g_X9_digest 72 [.ref l0, .long s.1, .null, .int s.2.1, .null] [] s.2.2 (k72 s)) (k82 : (Int64 × Int32 × Hp) → Option (Int64 × Hp)) (hk82 : ∀ s : Int64 × Int32 × Hp, Sm rvJ g_X9_digest 82 [.ref l0, .long s.1, .null, .int l3, .int s.2.1] [] s.2.2 (k82 s)) : Sm rvJ g_X9_digest 82 [.ref l0, .long l1, .null, .int l3, .int l4] [] h (f_X9_digest_82 k72 k82 l0 l1 l3 l4 h) := by
  unfold f_X9_digest_82
  refine Sm.iload dX9_digest_82 rfl rfl ?_
  refine Sm.iconst dX9_digest_84 ic_4 rfl ?_
  refine Sm.icmp_ge (t := 150) dX9_digest_85 (by decide) rfl (fun b15 => ?_) (fun b15 => ?_)
  · refine Sm.iinc (lv' := [.ref l0, .long l1, .null, .int (l3 + (1 : Int32)), .int l4]) dX9_digest_150 rfl ic_1 rfl rfl ?_
    refine Sm.nm (LV := fun v16 => [.ref l0, .long l1, .null, .int v16, .int l4]) (ST := fun v16 => []) (fun v16 => ?_)
    refine Sm.goto (t := 72) dX9_digest_153 (by decide) ?_
    exact Sm.wk (hk72 (l1, v16, h)) ⟨Or.inr rfl, Or.inr rfl, Or.inl rfl, Or.inr rfl, Or.inl rfl, trivial⟩
  · refine Sm.lload_n dX9_digest_88 rfl rfl rfl ?_
    refine Sm.aload_n dX9_digest_89 rfl rfl rfl ?_
    refine Sm.ck (fun o17 => ?_)
    refine gf_X9_19 o17 dX9_digest_90 rfl rfl (fun v18 => ?_)
    refine Sm.iload_n dX9_digest_93 rfl rfl rfl ?_
    refine Sm.ca (fun q19 => ?_)
    refine Sm.aald q19 (by decide) dX9_digest_94 rfl (fun v20 => ?_)
    refine Sm.ck (fun o21 => ?_)
    refine kc_X9_123 o21 dX9_digest_95 rfl (Nat.le_of_ble_eq_true rfl) (Nat.le_of_ble_eq_true rfl) rfl (fun v22 h23 => ?_)
    refine Sm.aload_n dX9_digest_98 rfl rfl rfl ?_
    refine Sm.ck (fun o24 => ?_)
    refine gf_X9_19 o24 dX9_digest_99 rfl rfl (fun v25 => ?_)
    refine Sm.iload dX9_digest_102 rfl rfl ?_
    refine Sm.ca (fun q26 => ?_)
    refine Sm.aald q26 (by decide) dX9_digest_104 rfl (fun v27 => ?_)
    refine Sm.ck (fun o28 => ?_)
    refine kc_X9_123 o28 dX9_digest_105 rfl (Nat.le_of_ble_eq_true rfl) (Nat.le_of_ble_eq_true rfl) rfl (fun v29 h30 => ?_)
    refine Sm.ck (fun o31 => ?_)
    refine kc_X9_143 o31 dX9_digest_108 rfl (Nat.le_of_ble_eq_true rfl) (Nat.le_of_ble_eq_true rfl) rfl (fun v32 h33 => ?_)
    refine Sm.i2l dX9_digest_111 rfl ?_
    refine kc_X9_221 dX9_digest_112 rfl (Nat.le_of_ble_eq_true rfl) (Nat.le_of_ble_eq_true rfl) rfl (fun v34 h35 => ?_)
    refine Sm.lstore_n (lv' := [.ref l0, .long v34, .null, .int l3, .int l4]) dX9_digest_115 rfl (Nat.le_of_ble_eq_true rfl) rfl rfl ?_
    refine Sm.lload_n dX9_digest_116 rfl rfl rfl ?_
    refine Sm.aload_n dX9_digest_117 rfl rfl rfl ?_
    refine Sm.ck (fun o36 => ?_)
    refine gf_X9_19 o36 dX9_digest_118 rfl rfl (fun v37 => ?_)
    refine Sm.iload_n dX9_digest_121 rfl rfl rfl ?_
    refine Sm.ca (fun q38 => ?_)
    refine Sm.aald q38 (by decide) dX9_digest_122 rfl (fun v39 => ?_)
    refine Sm.ck (fun o40 => ?_)
    refine kc_X9_123 o40 dX9_digest_123 rfl (Nat.le_of_ble_eq_true rfl) (Nat.le_of_ble_eq_true rfl) rfl (fun v41 h42 => ?_)
    refine Sm.aload_n dX9_digest_126 rfl rfl rfl ?_
    refine Sm.ck (fun o43 => ?_)
    refine gf_X9_19 o43 dX9_digest_127 rfl rfl (fun v44 => ?_)
    refine Sm.iload dX9_digest_130 rfl rfl ?_
    refine Sm.ca (fun q45 => ?_)
    refine Sm.aald q45 (by decide) dX9_digest_132 rfl (fun v46 => ?_)
    refine Sm.ck (fun o47 => ?_)
    refine kc_X9_123 o47 dX9_digest_133 rfl (Nat.le_of_ble_eq_true rfl) (Nat.le_of_ble_eq_true rfl) rfl (fun v48 h49 => ?_)
    refine Sm.ck (fun o50 => ?_)
    refine kc_X9_147 o50 dX9_digest_136 rfl (Nat.le_of_ble_eq_true rfl) (Nat.le_of_ble_eq_true rfl) rfl (fun v51 h52 => ?_)
    refine Sm.i2l dX9_digest_139 rfl ?_
    refine kc_X9_221 dX9_digest_140 rfl (Nat.le_of_ble_eq_true rfl) (Nat.le_of_ble_eq_true rfl) rfl (fun v53 h54 => ?_)
    refine Sm.lstore_n (lv' := [.ref l0, .long v53, .null, .int l3, .int l4]) dX9_digest_143 rfl (Nat.le_of_ble_eq_true rfl) rfl rfl ?_
    refine Sm.iinc (lv' := [.ref l0, .long v53, .null, .int l3, .int (l4 + (1 : Int32))]) dX9_digest_144 rfl ic_1 rfl rfl ?_
    refine Sm.nm (LV := fun v55 => [.ref l0, .long v53, .null, .int l3, .int v55]) (ST := fun v55 => []) (fun v55 => ?_)
    refine Sm.goto (t := 82) dX9_digest_147 (by decide) ?_
    exact Sm.wk (hk82 (v53, v55, h54)) ⟨Or.inr rfl, Or.inr rfl, Or.inl rfl, Or.inr rfl, Or.inr rfl, trivial⟩
def f_X9_digest_72 (k72 : (Int64 × Int32 × Hp) → Option (Int64 × Hp)) (l0 : Nat) (l1 : Int64) (l3 : Int32) (h : Hp) : Option (Int64 × Hp) :=
  (if (4 : Int32) ≤ l3 then
(ck h l0 9
((gP h l0 3).bind fun v8 =>
(ck h v8 2
(bd (f_X2_savedCount v8 h) fun v10 h11 =>
(bd (f_X9_mixed l1 v10.toInt64 h11) fun v12 h13 =>
(some (v12, h13)))))))
else
(nm (l3 + (1 : Int32)) fun v14 =>
(loopN (fun k s => f_X9_digest_82 k72 k l0 s.1 l3 s.2.1 s.2.2) 5000 (l1, v14, h))))
set_option maxRecDepth 20000 in
theorem t_X9_digest_72 (l0 : Nat) (l1 : Int64) (l3 : Int32) (h : Hp) (k72 : (Int64 × Int32 × Hp) → Option (Int64 × Hp)) (hk72 : ∀ s : Int64 × Int32 × Hp, Sm rvJ g_X9_digest 72 [.ref l0, .long s.1, .null, .int s.2.1, .null] [] s.2.2 (k72 s)) : Sm rvJ g_X9_digest 72 [.ref l0, .long l1, .null, .int l3, .null] [] h (f_X9_digest_72 k72 l0 l1 l3 h) := by
  unfold f_X9_digest_72
  refine Sm.iload_n dX9_digest_72 rfl rfl rfl ?_
  refine Sm.iconst dX9_digest_73 ic_4 rfl ?_
  refine Sm.icmp_ge (t := 156) dX9_digest_74 (by decide) rfl (fun b6 => ?_) (fun b6 => ?_)
  · refine Sm.lload_n dX9_digest_156 rfl rfl rfl ?_
    refine Sm.aload_n dX9_digest_157 rfl rfl rfl ?_
    refine Sm.ck (fun o7 => ?_)
    refine gf_X9_26 o7 dX9_digest_158 rfl rfl (fun v8 => ?_)
    refine Sm.ck (fun o9 => ?_)
    refine kc_X9_216 o9 dX9_digest_161 rfl (Nat.le_of_ble_eq_true rfl) (Nat.le_of_ble_eq_true rfl) rfl (fun v10 h11 => ?_)
    refine Sm.i2l dX9_digest_164 rfl ?_
    refine kc_X9_221 dX9_digest_165 rfl (Nat.le_of_ble_eq_true rfl) (Nat.le_of_ble_eq_true rfl) rfl (fun v12 h13 => ?_)
    exact Sm.ret dX9_digest_168 trivial rfl
  · refine Sm.iload_n dX9_digest_77 rfl rfl rfl ?_
    refine Sm.iconst dX9_digest_78 ic_1 rfl ?_
    refine Sm.iadd dX9_digest_79 rfl ?_
    refine Sm.nm (LV := fun v14 => [.ref l0, .long l1, .null, .int l3, .null]) (ST := fun v14 => [.int v14]) (fun v14 => ?_)
    refine Sm.istore (lv' := [.ref l0, .long l1, .null, .int l3, .int v14]) dX9_digest_80 (Nat.le_of_ble_eq_true rfl) rfl rfl ?_
    exact Sm.wk (Sm.loop (σ := Int64 × Int32 × Hp) (LV := fun s => [.ref l0, .long s.1, .null, .int l3, .int s.2.1]) (HH := fun s => s.2.2) (fun k hk s => t_X9_digest_82 l0 s.1 l3 s.2.1 s.2.2 k72 hk72 k hk) 5000 (l1, v14, h)) ⟨Or.inr rfl, Or.inr rfl, Or.inl rfl, Or.inr rfl, Or.inr rfl, trivial⟩
def f_X9_digest_41 (k41 : (Int64 × Int32 × Hp) → Option (Int64 × Hp)) (l0 : Nat) (l1 : Int64) (l3 : Int32) (h : Hp) : Option (Int64 × Hp) :=
  (if (4 : Int32) ≤ l3 then
(loopN (fun k s => f_X9_digest_72 k l0 s.1 s.2.1 s.2.2) 5000 (l1, (0 : Int32), h))
else
(ck h l0 9
((gP h l0 2).bind fun v57 =>
(ca h v57 23 l3
((gP h v57 l3.toNatClampNeg).bind fun v59 =>
((gP h l0 6).bind fun v60 =>
(ck h v59 7
(bd (f_X7_upToDate v59 v60 h) fun v62 h63 =>
(bd (f_X9_mixedSlot l1 v62 h63) fun v64 h65 =>
(nm (l3 + (1 : Int32)) fun v66 =>
(k41 (v64, v66, h65))))))))))))
set_option maxRecDepth 20000 in
theorem t_X9_digest_41 (l0 : Nat) (l1 : Int64) (l3 : Int32) (h : Hp) (k41 : (Int64 × Int32 × Hp) → Option (Int64 × Hp)) (hk41 : ∀ s : Int64 × Int32 × Hp, Sm rvJ g_X9_digest 41 [.ref l0, .long s.1, .null, .int s.2.1, .null] [] s.2.2 (k41 s)) : Sm rvJ g_X9_digest 41 [.ref l0, .long l1, .null, .int l3, .null] [] h (f_X9_digest_41 k41 l0 l1 l3 h) := by
  unfold f_X9_digest_41
  refine Sm.iload_n dX9_digest_41 rfl rfl rfl ?_
  refine Sm.iconst dX9_digest_42 ic_4 rfl ?_
  refine Sm.icmp_ge (t := 70) dX9_digest_43 (by decide) rfl (fun b5 => ?_) (fun b5 => ?_)
  · refine Sm.iconst dX9_digest_70 ic_0 rfl ?_
    refine Sm.istore_n (lv' := [.ref l0, .long l1, .null, .int (0 : Int32), .null]) dX9_digest_71 rfl (Nat.le_of_ble_eq_true rfl) rfl rfl ?_
    exact Sm.wk (Sm.loop (σ := Int64 × Int32 × Hp) (LV := fun s => [.ref l0, .long s.1, .null, .int s.2.1, .null]) (HH := fun s => s.2.2) (fun k hk s => t_X9_digest_72 l0 s.1 s.2.1 s.2.2 k hk) 5000 (l1, (0 : Int32), h)) ⟨Or.inr rfl, Or.inr rfl, Or.inl rfl, Or.inr rfl, Or.inl rfl, trivial⟩
  · refine Sm.lload_n dX9_digest_46 rfl rfl rfl ?_
    refine Sm.aload_n dX9_digest_47 rfl rfl rfl ?_
    refine Sm.ck (fun o56 => ?_)
    refine gf_X9_19 o56 dX9_digest_48 rfl rfl (fun v57 => ?_)
    refine Sm.iload_n dX9_digest_51 rfl rfl rfl ?_
    refine Sm.ca (fun q58 => ?_)
    refine Sm.aald q58 (by decide) dX9_digest_52 rfl (fun v59 => ?_)
    refine Sm.aload_n dX9_digest_53 rfl rfl rfl ?_
    refine gf_X9_43 o56 dX9_digest_54 rfl rfl (fun v60 => ?_)
    refine Sm.ck (fun o61 => ?_)
    refine kc_X9_104 o61 dX9_digest_57 rfl (Nat.le_of_ble_eq_true rfl) (Nat.le_of_ble_eq_true rfl) rfl (fun v62 h63 => ?_)
    refine kc_X9_225 dX9_digest_60 rfl (Nat.le_of_ble_eq_true rfl) (Nat.le_of_ble_eq_true rfl) rfl (fun v64 h65 => ?_)
    refine Sm.lstore_n (lv' := [.ref l0, .long v64, .null, .int l3, .null]) dX9_digest_63 rfl (Nat.le_of_ble_eq_true rfl) rfl rfl ?_
    refine Sm.iinc (lv' := [.ref l0, .long v64, .null, .int (l3 + (1 : Int32)), .null]) dX9_digest_64 rfl ic_1 rfl rfl ?_
    refine Sm.nm (LV := fun v66 => [.ref l0, .long v64, .null, .int v66, .null]) (ST := fun v66 => []) (fun v66 => ?_)
    refine Sm.goto (t := 41) dX9_digest_67 (by decide) ?_
    exact Sm.wk (hk41 (v64, v66, h65)) ⟨Or.inr rfl, Or.inr rfl, Or.inl rfl, Or.inr rfl, Or.inl rfl, trivial⟩
def f_X9_digest_6 (k6 : (Int64 × Int32 × Hp) → Option (Int64 × Hp)) (l0 : Nat) (l1 : Int64) (l3 : Int32) (h : Hp) : Option (Int64 × Hp) :=
  (if (5 : Int32) ≤ l3 then
(ck h l0 9
(bd (f_X9_mixed l1 ((gI h l0 1).toInt64) h) fun v3 h4 =>
(loopN (fun k s => f_X9_digest_41 k l0 s.1 s.2.1 s.2.2) 5000 (v3, (0 : Int32), h4))))
else
(ck h l0 9
((gP h l0 4).bind fun v68 =>
(ca h v68 20 l3
(bd (f_X9_mixed l1 ((gI h v68 l3.toNatClampNeg).toInt64) h) fun v70 h71 =>
(nm (l3 + (1 : Int32)) fun v72 =>
(k6 (v70, v72, h71))))))))
set_option maxRecDepth 20000 in
theorem t_X9_digest_6 (l0 : Nat) (l1 : Int64) (l3 : Int32) (h : Hp) (k6 : (Int64 × Int32 × Hp) → Option (Int64 × Hp)) (hk6 : ∀ s : Int64 × Int32 × Hp, Sm rvJ g_X9_digest 6 [.ref l0, .long s.1, .null, .int s.2.1, .null] [] s.2.2 (k6 s)) : Sm rvJ g_X9_digest 6 [.ref l0, .long l1, .null, .int l3, .null] [] h (f_X9_digest_6 k6 l0 l1 l3 h) := by
  unfold f_X9_digest_6
  refine Sm.iload_n dX9_digest_6 rfl rfl rfl ?_
  refine Sm.iconst dX9_digest_7 ic_5 rfl ?_
  refine Sm.icmp_ge (t := 29) dX9_digest_8 (by decide) rfl (fun b1 => ?_) (fun b1 => ?_)
  · refine Sm.lload_n dX9_digest_29 rfl rfl rfl ?_
    refine Sm.aload_n dX9_digest_30 rfl rfl rfl ?_
    refine Sm.ck (fun o2 => ?_)
    refine gf_X9_13 o2 dX9_digest_31 rfl rfl ?_
    refine Sm.i2l dX9_digest_34 rfl ?_
    refine kc_X9_221 dX9_digest_35 rfl (Nat.le_of_ble_eq_true rfl) (Nat.le_of_ble_eq_true rfl) rfl (fun v3 h4 => ?_)
    refine Sm.lstore_n (lv' := [.ref l0, .long v3, .null, .int l3, .null]) dX9_digest_38 rfl (Nat.le_of_ble_eq_true rfl) rfl rfl ?_
    refine Sm.iconst dX9_digest_39 ic_0 rfl ?_
    refine Sm.istore_n (lv' := [.ref l0, .long v3, .null, .int (0 : Int32), .null]) dX9_digest_40 rfl (Nat.le_of_ble_eq_true rfl) rfl rfl ?_
    exact Sm.wk (Sm.loop (σ := Int64 × Int32 × Hp) (LV := fun s => [.ref l0, .long s.1, .null, .int s.2.1, .null]) (HH := fun s => s.2.2) (fun k hk s => t_X9_digest_41 l0 s.1 s.2.1 s.2.2 k hk) 5000 (v3, (0 : Int32), h4)) ⟨Or.inr rfl, Or.inr rfl, Or.inl rfl, Or.inr rfl, Or.inl rfl, trivial⟩
  · refine Sm.lload_n dX9_digest_11 rfl rfl rfl ?_
    refine Sm.aload_n dX9_digest_12 rfl rfl rfl ?_
    refine Sm.ck (fun o67 => ?_)
    refine gf_X9_30 o67 dX9_digest_13 rfl rfl (fun v68 => ?_)
    refine Sm.iload_n dX9_digest_16 rfl rfl rfl ?_
    refine Sm.ca (fun q69 => ?_)
    refine Sm.iald q69 dX9_digest_17 rfl ?_
    refine Sm.i2l dX9_digest_18 rfl ?_
    refine kc_X9_221 dX9_digest_19 rfl (Nat.le_of_ble_eq_true rfl) (Nat.le_of_ble_eq_true rfl) rfl (fun v70 h71 => ?_)
    refine Sm.lstore_n (lv' := [.ref l0, .long v70, .null, .int l3, .null]) dX9_digest_22 rfl (Nat.le_of_ble_eq_true rfl) rfl rfl ?_
    refine Sm.iinc (lv' := [.ref l0, .long v70, .null, .int (l3 + (1 : Int32)), .null]) dX9_digest_23 rfl ic_1 rfl rfl ?_
    refine Sm.nm (LV := fun v72 => [.ref l0, .long v70, .null, .int v72, .null]) (ST := fun v72 => []) (fun v72 => ?_)
    refine Sm.goto (t := 6) dX9_digest_26 (by decide) ?_
    exact Sm.wk (hk6 (v70, v72, h71)) ⟨Or.inr rfl, Or.inr rfl, Or.inl rfl, Or.inr rfl, Or.inl rfl, trivial⟩
def f_X9_digest (l0 : Nat) (h : Hp) : Option (Int64 × Hp) :=
  (loopN (fun k s => f_X9_digest_6 k l0 s.1 s.2.1 s.2.2) 5000 ((2729 : Int64), (0 : Int32), h))
set_option maxRecDepth 20000 in
theorem t_X9_digest (l0 : Nat) (h : Hp) : Sm rvJ g_X9_digest 0 (ent 5 [.ref l0]) [] h (f_X9_digest l0 h) := by
  show Sm rvJ g_X9_digest 0 [.ref l0, .null, .null, .null, .null] [] h _
  unfold f_X9_digest
  refine Sm.ldc2 dX9_digest_0 mw_876 rfl ?_
  refine Sm.lstore_n (lv' := [.ref l0, .long (2729 : Int64), .null, .null, .null]) dX9_digest_3 rfl (Nat.le_of_ble_eq_true rfl) rfl rfl ?_
  refine Sm.iconst dX9_digest_4 ic_0 rfl ?_
  refine Sm.istore_n (lv' := [.ref l0, .long (2729 : Int64), .null, .int (0 : Int32), .null]) dX9_digest_5 rfl (Nat.le_of_ble_eq_true rfl) rfl rfl ?_
  exact Sm.wk (Sm.loop (σ := Int64 × Int32 × Hp) (LV := fun s => [.ref l0, .long s.1, .null, .int s.2.1, .null]) (HH := fun s => s.2.2) (fun k hk s => t_X9_digest_6 l0 s.1 s.2.1 s.2.2 k hk) 5000 ((2729 : Int64), (0 : Int32), h)) ⟨Or.inr rfl, Or.inr rfl, Or.inl rfl, Or.inr rfl, Or.inl rfl, trivial⟩
set_option maxRecDepth 20000 in
theorem kc_L_124 {ρ : Type} {rv : ρ → Option Value} {G : Gx} {pc q : Nat} {lv st : List Value} {h : Hp} {a : Nat} {e : Int64 → Hp → Option (ρ × Hp)} (hk : isO h a 9) (d : decode G.2.1 pc = .ok (.invokevirtual 124, 3)) (ho : G.1.cls = RL) (hdep : (g_X9_digest).2.2.2.2 < G.2.2.2.2) (hcat : catS st ≤ 8) (hq : pc + 3 = q) (k : ∀ r h1, Sm rv G q lv (.long r :: st) h1 (e r h1)) : Sm rv G pc lv (.ref a :: st) h (bd (f_X9_digest a h) e) :=
  Sm.callV (rv' := rvJ) (args := []) (n := 0) (t_X9_digest a h) hk (by decide) (r := (RX9, TX9, 8)) rfl rfl ho mw_872 mw_873 mw_874 mw_1 mw_875 ⟨⟨by decide, rfl, hdep, Nat.le_of_ble_eq_true rfl⟩, Nat.le_of_ble_eq_true rfl, rfl, ⟨by decide, by decide⟩, hcat⟩ (by decide +kernel) (fun v hv => by cases hv) d hq k rfl
