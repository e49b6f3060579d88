abbrev g_L_cell : Gx := (yL_cell, cL_cell, 2, (Option.some FieldType.int), 0)
def f_L_cell (l1 : Int32) (h : Hp) : Option (Int32 × Hp) :=
  (if (Int32.ofNat (gS h 0).2) ≤ l1 then
(some (((528734635 : Int32) * (l1 + (1 : Int32))), h))
else
(if ¬ (l1 < 0 ∨ (gS h 0).2 ≤ l1.toNatClampNeg) then
(some ((gI h 0 l1.toNatClampNeg), h))
else none))
set_option maxRecDepth 20000 in
theorem t_L_cell (l1 : Int32) (h : Hp) : Sm rvI g_L_cell 0 (ent 2 [.ref 0, .int l1]) [] h (f_L_cell l1 h) := by
  show Sm rvI g_L_cell 0 [.ref 0, .int l1] [] h _
  unfold f_L_cell
  refine Sm.iload_n dL_cell_0 rfl rfl rfl ?_
  refine Sm.aload_n dL_cell_1 rfl rfl rfl ?_
  refine Sm.salen dL_cell_2 rfl ?_
  refine Sm.icmp_ge (t := 12) dL_cell_3 (by decide) rfl (fun b1 => ?_) (fun b1 => ?_)
  · refine Sm.ldc dL_cell_12 mw_346 rfl ?_
    refine Sm.iload_n dL_cell_14 rfl rfl rfl ?_
    refine Sm.iconst dL_cell_15 ic_1 rfl ?_
    refine Sm.iadd dL_cell_16 rfl ?_
    refine Sm.imul dL_cell_17 rfl ?_
    exact Sm.ret dL_cell_18 trivial rfl
  · refine Sm.aload_n dL_cell_6 rfl rfl rfl ?_
    refine Sm.iload_n dL_cell_7 rfl rfl rfl ?_
    refine Sm.iff (fun q2 => ?_) (fun _ => Sm.none)
    refine Sm.sald q2 dL_cell_8 rfl ?_
    refine Sm.goto (t := 18) dL_cell_9 (by decide) ?_
    exact Sm.ret dL_cell_18 trivial rfl
set_option maxRecDepth 20000 in
theorem kc_L_136 {ρ : Type} {rv : ρ → Option Value} {G : Gx} {pc q : Nat} {lv st : List Value} {h : Hp} {x1 : Int32} {e : Int32 → Hp → Option (ρ × Hp)} (d : decode G.2.1 pc = .ok (.invokestatic 136, 3)) (ho : G.1.cls = RL) (hdep : (g_L_cell).2.2.2.2 < G.2.2.2.2) (hcat : catS st ≤ 8) (hq : pc + 3 = q) (k : ∀ r h1, Sm rv G q lv (.int r :: st) h1 (e r h1)) : Sm rv G pc lv (.int x1 :: .ref 0 :: st) h (bd (f_L_cell x1 h) e) :=
  Sm.callS (rv' := rvI) (as := [.ref 0, .int x1]) (n := 2) (t_L_cell x1 h) ho mw_343 mw_344 mw_0 mw_345 ⟨⟨by decide, rfl, hdep, Nat.le_of_ble_eq_true rfl⟩, Nat.le_of_ble_eq_true rfl, rfl, ⟨by decide, by decide⟩, hcat⟩ (by decide +kernel) (by intro v hv; simp only [List.mem_cons, List.not_mem_nil, or_false] at hv; rcases hv with rfl | rfl <;> intro x hx <;> cases hx) d hq k rfl
abbrev g_L_low : Gx := (yL_low, cL_low, 2, (Option.some FieldType.int), 0)
def f_L_low (l0 : Int32) (l1 : Int32) (h : Hp) : Option (Int32 × Hp) :=
  (if l1 = 0 then none else
(nm (l0 &&& (2147483647 : Int32)) fun v2 =>
(some ((v2 - v2 / l1 * l1), h))))
set_option maxRecDepth 20000 in
theorem t_L_low (l0 : Int32) (l1 : Int32) (h : Hp) : Sm rvI g_L_low 0 (ent 2 [.int l0, .int l1]) [] h (f_L_low l0 l1 h) := by
  show Sm rvI g_L_low 0 [.int l0, .int l1] [] h _
  unfold f_L_low
  refine Sm.iload_n dL_low_0 rfl rfl rfl ?_
  refine Sm.ldc dL_low_1 mw_350 rfl ?_
  refine Sm.iand dL_low_3 rfl ?_
  refine Sm.iload_n dL_low_4 rfl rfl rfl ?_
  refine Sm.iff (fun _ => Sm.none) (fun y1 => ?_)
  refine Sm.nm (LV := fun v2 => [.int l0, .int l1]) (ST := fun v2 => [.int l1, .int v2]) (fun v2 => ?_)
  refine Sm.irem dL_low_5 y1 rfl ?_
  exact Sm.ret dL_low_6 trivial rfl
set_option maxRecDepth 20000 in
theorem kc_L_140 {ρ : Type} {rv : ρ → Option Value} {G : Gx} {pc q : Nat} {lv st : List Value} {h : Hp} {x0 : Int32} {x1 : Int32} {e : Int32 → Hp → Option (ρ × Hp)} (d : decode G.2.1 pc = .ok (.invokestatic 140, 3)) (ho : G.1.cls = RL) (hdep : (g_L_low).2.2.2.2 < G.2.2.2.2) (hcat : catS st ≤ 8) (hq : pc + 3 = q) (k : ∀ r h1, Sm rv G q lv (.int r :: st) h1 (e r h1)) : Sm rv G pc lv (.int x1 :: .int x0 :: st) h (bd (f_L_low x0 x1 h) e) :=
  Sm.callS (rv' := rvI) (as := [.int x0, .int x1]) (n := 2) (t_L_low x0 x1 h) ho mw_347 mw_348 mw_0 mw_349 ⟨⟨by decide, rfl, hdep, Nat.le_of_ble_eq_true rfl⟩, Nat.le_of_ble_eq_true rfl, rfl, ⟨by decide, by decide⟩, hcat⟩ (by decide +kernel) (by intro v hv; simp only [List.mem_cons, List.not_mem_nil, or_false] at hv; rcases hv with rfl | rfl <;> intro x hx <;> cases hx) d hq k rfl
abbrev g_L_parsed : Gx := (yL_parsed, cL_parsed, 7, (Option.some FieldType.int), 7)
def f_L_parsed_55 (l0 : Nat) (l3 : Int32) (h : Hp) : Option (Int32 × Hp) :=
  (ck h l0 9
(bd (f_X9_parse l0 l3 h) fun v6 h7 =>
(some (v6, h7))))
set_option maxRecDepth 20000 in
theorem t_L_parsed_55 (l0 : Nat) (l3 : Int32) (h : Hp) : Sm rvI g_L_parsed 55 [.ref l0, .null, .null, .int l3, .null, .null, .null] [] h (f_L_parsed_55 l0 l3 h) := by
  unfold f_L_parsed_55
  refine Sm.aload_n dL_parsed_55 rfl rfl rfl ?_
  refine Sm.iload_n dL_parsed_56 rfl rfl rfl ?_
  refine Sm.ck (fun o5 => ?_)
  refine kc_L_21 o5 dL_parsed_57 rfl (Nat.le_of_ble_eq_true rfl) (Nat.le_of_ble_eq_true rfl) rfl (fun v6 h7 => ?_)
  exact Sm.ret dL_parsed_60 trivial rfl
def f_L_parsed_10 (k10 : (Int32 × Int32 × Hp) → Option (Int32 × Hp)) (l0 : Nat) (l1 : Int64) (l3 : Int32) (l4 : Int32) (l5 : Int32) (h : Hp) : Option (Int32 × Hp) :=
  (if l5 < 0 then
(f_L_parsed_55 l0 l3 h)
else
(if l4 < 0 then
(f_L_parsed_55 l0 l3 h)
else
(nm (((l1 >>> (l5.toInt64 &&& 63)) &&& (255 : Int64)).toInt32) fun v9 =>
(if v9 = 0 then
(nm (l5 + (-8 : Int32)) fun v11 =>
(k10 (l4, v11, h)))
else
(ck h l0 9
(bd (f_X9_append l0 v9 h) fun v13 h14 =>
(nm (l5 + (-8 : Int32)) fun v15 =>
(k10 (v13, v15, h14)))))))))
set_option maxRecDepth 20000 in
theorem t_L_parsed_10 (l0 : Nat) (l1 : Int64) (l3 : Int32) (l4 : Int32) (l5 : Int32) (h : Hp) (k10 : (Int32 × Int32 × Hp) → Option (Int32 × Hp)) (hk10 : ∀ s : Int32 × Int32 × Hp, Sm rvI g_L_parsed 10 [.ref l0, .long l1, .null, .int l3, .int s.1, .int s.2.1, .null] [] s.2.2 (k10 s)) : Sm rvI g_L_parsed 10 [.ref l0, .long l1, .null, .int l3, .int l4, .int l5, .null] [] h (f_L_parsed_10 k10 l0 l1 l3 l4 l5 h) := by
  unfold f_L_parsed_10
  refine Sm.iload dL_parsed_10 rfl rfl ?_
  refine Sm.if_lt (t := 55) dL_parsed_12 (by decide) rfl (fun b4 => ?_) (fun b4 => ?_)
  · exact Sm.wk (t_L_parsed_55 l0 l3 h) ⟨Or.inr rfl, Or.inl rfl, Or.inl rfl, Or.inr rfl, Or.inl rfl, Or.inl rfl, Or.inl rfl, trivial⟩
  · refine Sm.iload dL_parsed_15 rfl rfl ?_
    refine Sm.if_lt (t := 55) dL_parsed_17 (by decide) rfl (fun b8 => ?_) (fun b8 => ?_)
    · exact Sm.wk (t_L_parsed_55 l0 l3 h) ⟨Or.inr rfl, Or.inl rfl, Or.inl rfl, Or.inr rfl, Or.inl rfl, Or.inl rfl, Or.inl rfl, trivial⟩
    · refine Sm.lload_n dL_parsed_20 rfl rfl rfl ?_
      refine Sm.iload dL_parsed_21 rfl rfl ?_
      refine Sm.lshr dL_parsed_23 rfl ?_
      refine Sm.ldc2 dL_parsed_24 mw_358 rfl ?_
      refine Sm.land dL_parsed_27 rfl ?_
      refine Sm.l2i dL_parsed_28 rfl ?_
      refine Sm.nm (LV := fun v9 => [.ref l0, .long l1, .null, .int l3, .int l4, .int l5, .null]) (ST := fun v9 => [.int v9]) (fun v9 => ?_)
      refine Sm.istore (lv' := [.ref l0, .long l1, .null, .int l3, .int l4, .int l5, .int v9]) dL_parsed_29 (Nat.le_of_ble_eq_true rfl) rfl rfl ?_
      refine Sm.iload dL_parsed_31 rfl rfl ?_
      refine Sm.if_ne (t := 41) dL_parsed_33 (by decide) rfl (fun b10 => ?_) (fun b10 => ?_)
      · refine Sm.iload dL_parsed_36 rfl rfl ?_
        refine Sm.goto (t := 47) dL_parsed_38 (by decide) ?_
        refine Sm.istore (lv' := [.ref l0, .long l1, .null, .int l3, .int l4, .int l5, .int v9]) dL_parsed_47 (Nat.le_of_ble_eq_true rfl) rfl rfl ?_
        refine Sm.iinc (lv' := [.ref l0, .long l1, .null, .int l3, .int l4, .int (l5 + (-8 : Int32)), .int v9]) dL_parsed_49 rfl ic_m8 rfl rfl ?_
        refine Sm.nm (LV := fun v11 => [.ref l0, .long l1, .null, .int l3, .int l4, .int v11, .int v9]) (ST := fun v11 => []) (fun v11 => ?_)
        refine Sm.goto (t := 10) dL_parsed_52 (by decide) ?_
        exact Sm.wk (hk10 (l4, v11, h)) ⟨Or.inr rfl, Or.inr rfl, Or.inl rfl, Or.inr rfl, Or.inr rfl, Or.inr rfl, Or.inl rfl, trivial⟩
      · refine Sm.aload_n dL_parsed_41 rfl rfl rfl ?_
        refine Sm.iload dL_parsed_42 rfl rfl ?_
        refine Sm.ck (fun o12 => ?_)
        refine kc_L_17 o12 dL_parsed_44 rfl (Nat.le_of_ble_eq_true rfl) (Nat.le_of_ble_eq_true rfl) rfl (fun v13 h14 => ?_)
        refine Sm.istore (lv' := [.ref l0, .long l1, .null, .int l3, .int v13, .int l5, .int v9]) dL_parsed_47 (Nat.le_of_ble_eq_true rfl) rfl rfl ?_
        refine Sm.iinc (lv' := [.ref l0, .long l1, .null, .int l3, .int v13, .int (l5 + (-8 : Int32)), .int v9]) dL_parsed_49 rfl ic_m8 rfl rfl ?_
        refine Sm.nm (LV := fun v15 => [.ref l0, .long l1, .null, .int l3, .int v13, .int v15, .int v9]) (ST := fun v15 => []) (fun v15 => ?_)
        refine Sm.goto (t := 10) dL_parsed_52 (by decide) ?_
        exact Sm.wk (hk10 (v13, v15, h14)) ⟨Or.inr rfl, Or.inr rfl, Or.inl rfl, Or.inr rfl, Or.inr rfl, Or.inr rfl, Or.inl rfl, trivial⟩
def f_L_parsed (l0 : Nat) (l1 : Int64) (l3 : Int32) (h : Hp) : Option (Int32 × Hp) :=
  (ck h l0 9
(bd (f_X9_clearText l0 h) fun v2 h3 =>
(loopN (fun k s => f_L_parsed_10 k l0 l1 l3 s.1 s.2.1 s.2.2) 5000 (v2, (56 : Int32), h3))))
set_option maxRecDepth 20000 in
theorem t_L_parsed (l0 : Nat) (l1 : Int64) (l3 : Int32) (h : Hp) : Sm rvI g_L_parsed 0 (ent 7 [.ref l0, .long l1, .int l3]) [] h (f_L_parsed l0 l1 l3 h) := by
  show Sm rvI g_L_parsed 0 [.ref l0, .long l1, .null, .int l3, .null, .null, .null] [] h _
  unfold f_L_parsed
  refine Sm.aload_n dL_parsed_0 rfl rfl rfl ?_
  refine Sm.ck (fun o1 => ?_)
  refine kc_L_9 o1 dL_parsed_1 rfl (Nat.le_of_ble_eq_true rfl) (Nat.le_of_ble_eq_true rfl) rfl (fun v2 h3 => ?_)
  refine Sm.istore (lv' := [.ref l0, .long l1, .null, .int l3, .int v2, .null, .null]) dL_parsed_4 (Nat.le_of_ble_eq_true rfl) rfl rfl ?_
  refine Sm.bipush dL_parsed_6 bp_56 rfl ?_
  refine Sm.istore (lv' := [.ref l0, .long l1, .null, .int l3, .int v2, .int (56 : Int32), .null]) dL_parsed_8 (Nat.le_of_ble_eq_true rfl) rfl rfl ?_
  exact Sm.wk (Sm.loop (σ := Int32 × Int32 × Hp) (LV := fun s => [.ref l0, .long l1, .null, .int l3, .int s.1, .int s.2.1, .null]) (HH := fun s => s.2.2) (fun k hk s => t_L_parsed_10 l0 l1 l3 s.1 s.2.1 s.2.2 k hk) 5000 (v2, (56 : Int32), h3)) ⟨Or.inr rfl, Or.inr rfl, Or.inl rfl, Or.inr rfl, Or.inr rfl, Or.inr rfl, Or.inl rfl, trivial⟩
set_option maxRecDepth 20000 in
theorem kc_L_143 {ρ : Type} {rv : ρ → Option Value} {G : Gx} {pc q : Nat} {lv st : List Value} {h : Hp} {x0 : Nat} {x1 : Int64} {x2 : Int32} {e : Int32 → Hp → Option (ρ × Hp)} (d : decode G.2.1 pc = .ok (.invokestatic 143, 3)) (ho : G.1.cls = RL) (hdep : (g_L_parsed).2.2.2.2 < G.2.2.2.2) (hcat : catS st ≤ 8) (hq : pc + 3 = q) (k : ∀ r h1, Sm rv G q lv (.int r :: st) h1 (e r h1)) : Sm rv G pc lv (.int x2 :: .long x1 :: .ref x0 :: st) h (bd (f_L_parsed x0 x1 x2 h) e) :=
  Sm.callS (rv' := rvI) (as := [.ref x0, .long x1, .int x2]) (n := 3) (t_L_parsed x0 x1 x2 h) ho mw_351 mw_352 mw_0 mw_353 ⟨⟨by decide, rfl, hdep, Nat.le_of_ble_eq_true rfl⟩, Nat.le_of_ble_eq_true rfl, rfl, ⟨by decide, by decide⟩, hcat⟩ (by decide +kernel) (by intro v hv; simp only [List.mem_cons, List.not_mem_nil, or_false] at hv; rcases hv with rfl | rfl | rfl <;> intro x hx <;> cases hx) d hq k rfl
abbrev g_L_letter : Gx := (yL_letter, cL_letter, 1, (Option.some FieldType.long), 0)
def f_L_letter (l0 : Int32) (h : Hp) : Option (Int64 × Hp) :=
  (some (((112 : Int32) + l0).toInt64, h))
set_option maxRecDepth 20000 in
theorem t_L_letter (l0 : Int32) (h : Hp) : Sm rvJ g_L_letter 0 (ent 1 [.int l0]) [] h (f_L_letter l0 h) := by
  show Sm rvJ g_L_letter 0 [.int l0] [] h _
  unfold f_L_letter
  refine Sm.bipush dL_letter_0 bp_112 rfl ?_
  refine Sm.iload_n dL_letter_2 rfl rfl rfl ?_
  refine Sm.iadd dL_letter_3 rfl ?_
  refine Sm.i2l dL_letter_4 rfl ?_
  exact Sm.ret dL_letter_5 trivial rfl
set_option maxRecDepth 20000 in
theorem kc_L_26 {ρ : Type} {rv : ρ → Option Value} {G : Gx} {pc q : Nat} {lv st : List Value} {h : Hp} {x0 : Int32} {e : Int64 → Hp → Option (ρ × Hp)} (d : decode G.2.1 pc = .ok (.invokestatic 26, 3)) (ho : G.1.cls = RL) (hdep : (g_L_letter).2.2.2.2 < G.2.2.2.2) (hcat : catS st ≤ 8) (hq : pc + 3 = q) (k : ∀ r h1, Sm rv G q lv (.long r :: st) h1 (e r h1)) : Sm rv G pc lv (.int x0 :: st) h (bd (f_L_letter x0 h) e) :=
  Sm.callS (rv' := rvJ) (as := [.int x0]) (n := 1) (t_L_letter x0 h) ho mw_453 mw_454 mw_0 mw_455 ⟨⟨by decide, rfl, hdep, Nat.le_of_ble_eq_true rfl⟩, Nat.le_of_ble_eq_true rfl, rfl, ⟨by decide, by decide⟩, hcat⟩ (by decide +kernel) (by intro v hv; simp only [List.mem_cons, List.not_mem_nil, or_false] at hv; rcases hv with rfl <;> intro x hx <;> cases hx) d hq k rfl
abbrev g_L_filled : Gx := (yL_filled, cL_filled, 10, (Option.some FieldType.long), 1)
def f_L_filled_7 (k7 : (Int64 × Int32 × Hp) → Option (Int64 × Hp)) (l0 : Int64) (l2 : Int32) (l3 : Int32) (l4 : Int32) (l5 : Int64) (l7 : Int32) (h : Hp) : Option (Int64 × Hp) :=
  (if l7 < 0 then
(some (l5, h))
else
(nm ((l0 >>> (l7.toInt64 &&& 63)) &&& (255 : Int64)) fun v2 =>
(if (lg_cmp v2 (65 : Int64)) = 0 then
(bd (f_L_letter l2 h) fun v4 h5 =>
(nm ((l5 <<< ((8 : Int32).toInt64 &&& 63)) ||| v4) fun v6 =>
(nm (l7 + (-8 : Int32)) fun v7 =>
(k7 (v6, v7, h5)))))
else
(if (lg_cmp v2 (66 : Int64)) = 0 then
(bd (f_L_letter l3 h) fun v9 h10 =>
(nm ((l5 <<< ((8 : Int32).toInt64 &&& 63)) ||| v9) fun v11 =>
(nm (l7 + (-8 : Int32)) fun v12 =>
(k7 (v11, v12, h10)))))
else
(if (lg_cmp v2 (67 : Int64)) = 0 then
(bd (f_L_letter l4 h) fun v14 h15 =>
(nm ((l5 <<< ((8 : Int32).toInt64 &&& 63)) ||| v14) fun v16 =>
(nm (l7 + (-8 : Int32)) fun v17 =>
(k7 (v16, v17, h15)))))
else
(nm ((l5 <<< ((8 : Int32).toInt64 &&& 63)) ||| v2) fun v18 =>
(nm (l7 + (-8 : Int32)) fun v19 =>
(k7 (v18, v19, h)))))))))
set_option maxRecDepth 20000 in
theorem t_L_filled_7 (l0 : Int64) (l2 : Int32) (l3 : Int32) (l4 : Int32) (l5 : Int64) (l7 : Int32) (h : Hp) (k7 : (Int64 × Int32 × Hp) → Option (Int64 × Hp)) (hk7 : ∀ s : Int64 × Int32 × Hp, Sm rvJ g_L_filled 7 [.long l0, .null, .int l2, .int l3, .int l4, .long s.1, .null, .int s.2.1, .null, .null] [] s.2.2 (k7 s)) : Sm rvJ g_L_filled 7 [.long l0, .null, .int l2, .int l3, .int l4, .long l5, .null, .int l7, .null, .null] [] h (f_L_filled_7 k7 l0 l2 l3 l4 l5 l7 h) := by
  unfold f_L_filled_7
  refine Sm.iload dL_filled_7 rfl rfl ?_
  refine Sm.if_lt (t := 87) dL_filled_9 (by decide) rfl (fun b1 => ?_) (fun b1 => ?_)
  · refine Sm.lload dL_filled_87 rfl rfl ?_
    exact Sm.ret dL_filled_89 trivial rfl
  · refine Sm.lload_n dL_filled_12 rfl rfl rfl ?_
    refine Sm.iload dL_filled_13 rfl rfl ?_
    refine Sm.lshr dL_filled_15 rfl ?_
    refine Sm.ldc2 dL_filled_16 mw_358 rfl ?_
    refine Sm.land dL_filled_19 rfl ?_
    refine Sm.nm (LV := fun v2 => [.long l0, .null, .int l2, .int l3, .int l4, .long l5, .null, .int l7, .null, .null]) (ST := fun v2 => [.long v2]) (fun v2 => ?_)
    refine Sm.lstore (lv' := [.long l0, .null, .int l2, .int l3, .int l4, .long l5, .null, .int l7, .long v2, .null]) dL_filled_20 (Nat.le_of_ble_eq_true rfl) rfl rfl ?_
    refine Sm.lload dL_filled_22 rfl rfl ?_
    refine Sm.bipush dL_filled_24 bp_8 rfl ?_
    refine Sm.lshl dL_filled_26 rfl ?_
    refine Sm.lload dL_filled_27 rfl rfl ?_
    refine Sm.ldc2 dL_filled_29 mw_452 rfl ?_
    refine Sm.lcmp dL_filled_32 rfl ?_
    refine Sm.if_ne (t := 43) dL_filled_33 (by decide) rfl (fun b3 => ?_) (fun b3 => ?_)
    · refine Sm.iload_n dL_filled_36 rfl rfl rfl ?_
      refine kc_L_26 dL_filled_37 rfl (Nat.le_of_ble_eq_true rfl) (Nat.le_of_ble_eq_true rfl) rfl (fun v4 h5 => ?_)
      refine Sm.goto (t := 78) dL_filled_40 (by decide) ?_
      refine Sm.lor dL_filled_78 rfl ?_
      refine Sm.nm (LV := fun v6 => [.long l0, .null, .int l2, .int l3, .int l4, .long l5, .null, .int l7, .long v2, .null]) (ST := fun v6 => [.long v6]) (fun v6 => ?_)
      refine Sm.lstore (lv' := [.long l0, .null, .int l2, .int l3, .int l4, .long v6, .null, .int l7, .long v2, .null]) dL_filled_79 (Nat.le_of_ble_eq_true rfl) rfl rfl ?_
      refine Sm.iinc (lv' := [.long l0, .null, .int l2, .int l3, .int l4, .long v6, .null, .int (l7 + (-8 : Int32)), .long v2, .null]) dL_filled_81 rfl ic_m8 rfl rfl ?_
      refine Sm.nm (LV := fun v7 => [.long l0, .null, .int l2, .int l3, .int l4, .long v6, .null, .int v7, .long v2, .null]) (ST := fun v7 => []) (fun v7 => ?_)
      refine Sm.goto (t := 7) dL_filled_84 (by decide) ?_
      exact Sm.wk (hk7 (v6, v7, h5)) ⟨Or.inr rfl, Or.inl rfl, Or.inr rfl, Or.inr rfl, Or.inr rfl, Or.inr rfl, Or.inl rfl, Or.inr rfl, Or.inl rfl, Or.inl rfl, trivial⟩
    · refine Sm.lload dL_filled_43 rfl rfl ?_
      refine Sm.ldc2 dL_filled_45 mw_456 rfl ?_
      refine Sm.lcmp dL_filled_48 rfl ?_
      refine Sm.if_ne (t := 59) dL_filled_49 (by decide) rfl (fun b8 => ?_) (fun b8 => ?_)
      · refine Sm.iload_n dL_filled_52 rfl rfl rfl ?_
        refine kc_L_26 dL_filled_53 rfl (Nat.le_of_ble_eq_true rfl) (Nat.le_of_ble_eq_true rfl) rfl (fun v9 h10 => ?_)
        refine Sm.goto (t := 78) dL_filled_56 (by decide) ?_
        refine Sm.lor dL_filled_78 rfl ?_
        refine Sm.nm (LV := fun v11 => [.long l0, .null, .int l2, .int l3, .int l4, .long l5, .null, .int l7, .long v2, .null]) (ST := fun v11 => [.long v11]) (fun v11 => ?_)
        refine Sm.lstore (lv' := [.long l0, .null, .int l2, .int l3, .int l4, .long v11, .null, .int l7, .long v2, .null]) dL_filled_79 (Nat.le_of_ble_eq_true rfl) rfl rfl ?_
        refine Sm.iinc (lv' := [.long l0, .null, .int l2, .int l3, .int l4, .long v11, .null, .int (l7 + (-8 : Int32)), .long v2, .null]) dL_filled_81 rfl ic_m8 rfl rfl ?_
        refine Sm.nm (LV := fun v12 => [.long l0, .null, .int l2, .int l3, .int l4, .long v11, .null, .int v12, .long v2, .null]) (ST := fun v12 => []) (fun v12 => ?_)
        refine Sm.goto (t := 7) dL_filled_84 (by decide) ?_
        exact Sm.wk (hk7 (v11, v12, h10)) ⟨Or.inr rfl, Or.inl rfl, Or.inr rfl, Or.inr rfl, Or.inr rfl, Or.inr rfl, Or.inl rfl, Or.inr rfl, Or.inl rfl, Or.inl rfl, trivial⟩
      · refine Sm.lload dL_filled_59 rfl rfl ?_
        refine Sm.ldc2 dL_filled_61 mw_457 rfl ?_
        refine Sm.lcmp dL_filled_64 rfl ?_
        refine Sm.if_ne (t := 76) dL_filled_65 (by decide) rfl (fun b13 => ?_) (fun b13 => ?_)
        · refine Sm.iload dL_filled_68 rfl rfl ?_
          refine kc_L_26 dL_filled_70 rfl (Nat.le_of_ble_eq_true rfl) (Nat.le_of_ble_eq_true rfl) rfl (fun v14 h15 => ?_)
          refine Sm.goto (t := 78) dL_filled_73 (by decide) ?_
          refine Sm.lor dL_filled_78 rfl ?_
          refine Sm.nm (LV := fun v16 => [.long l0, .null, .int l2, .int l3, .int l4, .long l5, .null, .int l7, .long v2, .null]) (ST := fun v16 => [.long v16]) (fun v16 => ?_)
          refine Sm.lstore (lv' := [.long l0, .null, .int l2, .int l3, .int l4, .long v16, .null, .int l7, .long v2, .null]) dL_filled_79 (Nat.le_of_ble_eq_true rfl) rfl rfl ?_
          refine Sm.iinc (lv' := [.long l0, .null, .int l2, .int l3, .int l4, .long v16, .null, .int (l7 + (-8 : Int32)), .long v2, .null]) dL_filled_81 rfl ic_m8 rfl rfl ?_
          refine Sm.nm (LV := fun v17 => [.long l0, .null, .int l2, .int l3, .int l4, .long v16, .null, .int v17, .long v2, .null]) (ST := fun v17 => []) (fun v17 => ?_)
          refine Sm.goto (t := 7) dL_filled_84 (by decide) ?_
          exact Sm.wk (hk7 (v16, v17, h15)) ⟨Or.inr rfl, Or.inl rfl, Or.inr rfl, Or.inr rfl, Or.inr rfl, Or.inr rfl, Or.inl rfl, Or.inr rfl, Or.inl rfl, Or.inl rfl, trivial⟩
        · refine Sm.lload dL_filled_76 rfl rfl ?_
          refine Sm.lor dL_filled_78 rfl ?_
          refine Sm.nm (LV := fun v18 => [.long l0, .null, .int l2, .int l3, .int l4, .long l5, .null, .int l7, .long v2, .null]) (ST := fun v18 => [.long v18]) (fun v18 => ?_)
          refine Sm.lstore (lv' := [.long l0, .null, .int l2, .int l3, .int l4, .long v18, .null, .int l7, .long v2, .null]) dL_filled_79 (Nat.le_of_ble_eq_true rfl) rfl rfl ?_
          refine Sm.iinc (lv' := [.long l0, .null, .int l2, .int l3, .int l4, .long v18, .null, .int (l7 + (-8 : Int32)), .long v2, .null]) dL_filled_81 rfl ic_m8 rfl rfl ?_
          refine Sm.nm (LV := fun v19 => [.long l0, .null, .int l2, .int l3, .int l4, .long v18, .null, .int v19, .long v2, .null]) (ST := fun v19 => []) (fun v19 => ?_)
          refine Sm.goto (t := 7) dL_filled_84 (by decide) ?_
          exact Sm.wk (hk7 (v18, v19, h)) ⟨Or.inr rfl, Or.inl rfl, Or.inr rfl, Or.inr rfl, Or.inr rfl, Or.inr rfl, Or.inl rfl, Or.inr rfl, Or.inl rfl, Or.inl rfl, trivial⟩
def f_L_filled (l0 : Int64) (l2 : Int32) (l3 : Int32) (l4 : Int32) (h : Hp) : Option (Int64 × Hp) :=
  (loopN (fun k s => f_L_filled_7 k l0 l2 l3 l4 s.1 s.2.1 s.2.2) 5000 ((0 : Int64), (56 : Int32), h))
set_option maxRecDepth 20000 in
theorem t_L_filled (l0 : Int64) (l2 : Int32) (l3 : Int32) (l4 : Int32) (h : Hp) : Sm rvJ g_L_filled 0 (ent 10 [.long l0, .int l2, .int l3, .int l4]) [] h (f_L_filled l0 l2 l3 l4 h) := by
  show Sm rvJ g_L_filled 0 [.long l0, .null, .int l2, .int l3, .int l4, .null, .null, .null, .null, .null] [] h _
  unfold f_L_filled
  refine Sm.lconst (v := (0 : Int64)) dL_filled_0 (by decide) rfl ?_
  refine Sm.lstore (lv' := [.long l0, .null, .int l2, .int l3, .int l4, .long (0 : Int64), .null, .null, .null, .null]) dL_filled_1 (Nat.le_of_ble_eq_true rfl) rfl rfl ?_
  refine Sm.bipush dL_filled_3 bp_56 rfl ?_
  refine Sm.istore (lv' := [.long l0, .null, .int l2, .int l3, .int l4, .long (0 : Int64), .null, .int (56 : Int32), .null, .null]) dL_filled_5 (Nat.le_of_ble_eq_true rfl) rfl rfl ?_
  exact Sm.wk (Sm.loop (σ := Int64 × Int32 × Hp) (LV := fun s => [.long l0, .null, .int l2, .int l3, .int l4, .long s.1, .null, .int s.2.1, .null, .null]) (HH := fun s => s.2.2) (fun k hk s => t_L_filled_7 l0 l2 l3 l4 s.1 s.2.1 s.2.2 k hk) 5000 ((0 : Int64), (56 : Int32), h)) ⟨Or.inr rfl, Or.inl rfl, Or.inr rfl, Or.inr rfl, Or.inr rfl, Or.inr rfl, Or.inl rfl, Or.inr rfl, Or.inl rfl, Or.inl rfl, trivial⟩
set_option maxRecDepth 20000 in
theorem kc_L_153 {ρ : Type} {rv : ρ → Option Value} {G : Gx} {pc q : Nat} {lv st : List Value} {h : Hp} {x0 : Int64} {x1 : Int32} {x2 : Int32} {x3 : Int32} {e : Int64 → Hp → Option (ρ × Hp)} (d : decode G.2.1 pc = .ok (.invokestatic 153, 3)) (ho : G.1.cls = RL) (hdep : (g_L_filled).2.2.2.2 < G.2.2.2.2) (hcat : catS st ≤ 8) (hq : pc + 3 = q) (k : ∀ r h1, Sm rv G q lv (.long r :: st) h1 (e r h1)) : Sm rv G pc lv (.int x3 :: .int x2 :: .int x1 :: .long x0 :: st) h (bd (f_L_filled x0 x1 x2 x3 h) e) :=
  Sm.callS (rv' := rvJ) (as := [.long x0, .int x1, .int x2, .int x3]) (n := 4) (t_L_filled x0 x1 x2 x3 h) ho mw_449 mw_450 mw_0 mw_451 ⟨⟨by decide, rfl, hdep, Nat.le_of_ble_eq_true rfl⟩, Nat.le_of_ble_eq_true rfl, rfl, ⟨by decide, by decide⟩, hcat⟩ (by decide +kernel) (by intro v hv; simp only [List.mem_cons, List.not_mem_nil, or_false] at hv; rcases hv with rfl | rfl | rfl | rfl <;> intro x hx <;> cases hx) d hq k rfl
abbrev g_L_ones : Gx := (yL_ones, cL_ones, 5, (Option.some FieldType.int), 0)
def f_L_ones_4 (k4 : (Int32 × Int64) → Option (Int32 × Hp)) (l2 : Int32) (l3 : Int64) (h : Hp) : Option (Int32 × Hp) :=
  (if (lg_cmp l3 (0 : Int64)) = 0 then
(some (l2, h))
else
(nm (l2 + (1 : Int32)) fun v2 =>
(nm (l3 &&& (l3 - (1 : Int64))) fun v3 =>
(k4 (v2, v3)))))
set_option maxRecDepth 20000 in
theorem t_L_ones_4 (l2 : Int32) (l3 : Int64) (h : Hp) (k4 : (Int32 × Int64) → Option (Int32 × Hp)) (hk4 : ∀ s : Int32 × Int64, Sm rvI g_L_ones 4 [.null, .null, .int s.1, .long s.2, .null] [] h (k4 s)) : Sm rvI g_L_ones 4 [.null, .null, .int l2, .long l3, .null] [] h (f_L_ones_4 k4 l2 l3 h) := by
  unfold f_L_ones_4
  refine Sm.lload_n dL_ones_4 rfl rfl rfl ?_
  refine Sm.lconst (v := (0 : Int64)) dL_ones_5 (by decide) rfl ?_
  refine Sm.lcmp dL_ones_6 rfl ?_
  refine Sm.if_eq (t := 22) dL_ones_7 (by decide) rfl (fun b1 => ?_) (fun b1 => ?_)
  · refine Sm.iload_n dL_ones_22 rfl rfl rfl ?_
    exact Sm.ret dL_ones_23 trivial rfl
  · refine Sm.iinc (lv' := [.null, .null, .int (l2 + (1 : Int32)), .long l3, .null]) dL_ones_10 rfl ic_1 rfl rfl ?_
    refine Sm.nm (LV := fun v2 => [.null, .null, .int v2, .long l3, .null]) (ST := fun v2 => []) (fun v2 => ?_)
    refine Sm.lload_n dL_ones_13 rfl rfl rfl ?_
    refine Sm.lload_n dL_ones_14 rfl rfl rfl ?_
    refine Sm.lconst (v := (1 : Int64)) dL_ones_15 (by decide) rfl ?_
    refine Sm.lsub dL_ones_16 rfl ?_
    refine Sm.land dL_ones_17 rfl ?_
    refine Sm.nm (LV := fun v3 => [.null, .null, .int v2, .long l3, .null]) (ST := fun v3 => [.long v3]) (fun v3 => ?_)
    refine Sm.lstore_n (lv' := [.null, .null, .int v2, .long v3, .null]) dL_ones_18 rfl (Nat.le_of_ble_eq_true rfl) rfl rfl ?_
    refine Sm.goto (t := 4) dL_ones_19 (by decide) ?_
    exact Sm.wk (hk4 (v2, v3)) ⟨Or.inl rfl, Or.inl rfl, Or.inr rfl, Or.inr rfl, Or.inl rfl, trivial⟩
def f_L_ones (l0 : Int64) (h : Hp) : Option (Int32 × Hp) :=
  (loopN (fun k s => f_L_ones_4 k s.1 s.2 h) 5000 ((0 : Int32), l0))
set_option maxRecDepth 20000 in
theorem t_L_ones (l0 : Int64) (h : Hp) : Sm rvI g_L_ones 0 (ent 5 [.long l0]) [] h (f_L_ones l0 h) := by
  show Sm rvI g_L_ones 0 [.long l0, .null, .null, .null, .null] [] h _
  unfold f_L_ones
  refine Sm.iconst dL_ones_0 ic_0 rfl ?_
  refine Sm.istore_n (lv' := [.long l0, .null, .int (0 : Int32), .null, .null]) dL_ones_1 rfl (Nat.le_of_ble_eq_true rfl) rfl rfl ?_
  refine Sm.lload_n dL_ones_2 rfl rfl rfl ?_
  refine Sm.lstore_n (lv' := [.long l0, .null, .int (0 : Int32), .long l0, .null]) dL_ones_3 rfl (Nat.le_of_ble_eq_true rfl) rfl rfl ?_
  exact Sm.wk (Sm.loop (σ := Int32 × Int64) (LV := fun s => [.null, .null, .int s.1, .long s.2, .null]) (HH := fun s => h) (fun k hk s => t_L_ones_4 s.1 s.2 h k hk) 5000 ((0 : Int32), l0)) ⟨Or.inl rfl, Or.inl rfl, Or.inr rfl, Or.inr rfl, Or.inl rfl, trivial⟩
set_option maxRecDepth 20000 in
theorem kc_L_113 {ρ : Type} {rv : ρ → Option Value} {G : Gx} {pc q : Nat} {lv st : List Value} {h : Hp} {x0 : Int64} {e : Int32 → Hp → Option (ρ × Hp)} (d : decode G.2.1 pc = .ok (.invokestatic 113, 3)) (ho : G.1.cls = RL) (hdep : (g_L_ones).2.2.2.2 < G.2.2.2.2) (hcat : catS st ≤ 8) (hq : pc + 3 = q) (k : ∀ r h1, Sm rv G q lv (.int r :: st) h1 (e r h1)) : Sm rv G pc lv (.long x0 :: st) h (bd (f_L_ones x0 h) e) :=
  Sm.callS (rv' := rvI) (as := [.long x0]) (n := 1) (t_L_ones x0 h) ho mw_900 mw_901 mw_0 mw_902 ⟨⟨by decide, rfl, hdep, Nat.le_of_ble_eq_true rfl⟩, Nat.le_of_ble_eq_true rfl, rfl, ⟨by decide, by decide⟩, hcat⟩ (by decide +kernel) (by intro v hv; simp only [List.mem_cons, List.not_mem_nil, or_false] at hv; rcases hv with rfl <;> intro x hx <;> cases hx) d hq k rfl
abbrev g_L_print : Gx := (yL_print, cL_print, 6, (Option.some FieldType.long), 13)
def f_L_print_46 (k6 : (Int64 × Int32 × Hp) → Option (Int64 × Hp)) (k46 : (Int64 × Int32 × Hp) → Option (Int64 × Hp)) (l0 : Nat) (l1 : Int64) (l3 : Int32) (l4 : Int32) (l5 : Int32) (h : Hp) : Option (Int64 × Hp) :=
  (if l4 ≤ l5 then
(nm (l3 + (1 : Int32)) fun v13 =>
(k6 (l1, v13, h)))
else
(ck h l0 9
(bd (f_X9_printed l0 l3 l5 h) fun v15 h16 =>
(nm (((31 : Int64) * l1) + v15.toInt64) fun v17 =>
(nm (l5 + (1 : Int32)) fun v18 =>
(k46 (v17, v18, h16)))))))
set_option maxRecDepth 20000 in
theorem t_L_print_46 (l0 : Nat) (l1 : Int64) (l3 : Int32) (l4 : Int32) (l5 : Int32) (h : Hp) (k6 : (Int64 × Int32 × Hp) → Option (Int64 × Hp)) (hk6 : ∀ s : Int64 × Int32 × Hp, Sm rvJ g_L_print 6 [.ref l0, .long s.1, .null, .int s.2.1, .null, .null] [] s.2.2 (k6 s)) (k46 : (Int64 × Int32 × Hp) → Option (Int64 × Hp)) (hk46 : ∀ s : Int64 × Int32 × Hp, Sm rvJ g_L_print 46 [.ref l0, .long s.1, .null, .int l3, .int l4, .int s.2.1] [] s.2.2 (k46 s)) : Sm rvJ g_L_print 46 [.ref l0, .long l1, .null, .int l3, .int l4, .int l5] [] h (f_L_print_46 k6 k46 l0 l1 l3 l4 l5 h) := by
  unfold f_L_print_46
  refine Sm.iload dL_print_46 rfl rfl ?_
  refine Sm.iload dL_print_48 rfl rfl ?_
  refine Sm.icmp_ge (t := 74) dL_print_50 (by decide) rfl (fun b12 => ?_) (fun b12 => ?_)
  · refine Sm.iinc (lv' := [.ref l0, .long l1, .null, .int (l3 + (1 : Int32)), .int l4, .int l5]) dL_print_74 rfl ic_1 rfl rfl ?_
    refine Sm.nm (LV := fun v13 => [.ref l0, .long l1, .null, .int v13, .int l4, .int l5]) (ST := fun v13 => []) (fun v13 => ?_)
    refine Sm.goto (t := 6) dL_print_77 (by decide) ?_
    exact Sm.wk (hk6 (l1, v13, h)) ⟨Or.inr rfl, Or.inr rfl, Or.inl rfl, Or.inr rfl, Or.inl rfl, Or.inl rfl, trivial⟩
  · refine Sm.ldc2 dL_print_53 mw_462 rfl ?_
    refine Sm.lload_n dL_print_56 rfl rfl rfl ?_
    refine Sm.lmul dL_print_57 rfl ?_
    refine Sm.aload_n dL_print_58 rfl rfl rfl ?_
    refine Sm.iload_n dL_print_59 rfl rfl rfl ?_
    refine Sm.iload dL_print_60 rfl rfl ?_
    refine Sm.ck (fun o14 => ?_)
    refine kc_L_46 o14 dL_print_62 rfl (Nat.le_of_ble_eq_true rfl) (Nat.le_of_ble_eq_true rfl) rfl (fun v15 h16 => ?_)
    refine Sm.i2l dL_print_65 rfl ?_
    refine Sm.ladd dL_print_66 rfl ?_
    refine Sm.nm (LV := fun v17 => [.ref l0, .long l1, .null, .int l3, .int l4, .int l5]) (ST := fun v17 => [.long v17]) (fun v17 => ?_)
    refine Sm.lstore_n (lv' := [.ref l0, .long v17, .null, .int l3, .int l4, .int l5]) dL_print_67 rfl (Nat.le_of_ble_eq_true rfl) rfl rfl ?_
    refine Sm.iinc (lv' := [.ref l0, .long v17, .null, .int l3, .int l4, .int (l5 + (1 : Int32))]) dL_print_68 rfl ic_1 rfl rfl ?_
    refine Sm.nm (LV := fun v18 => [.ref l0, .long v17, .null, .int l3, .int l4, .int v18]) (ST := fun v18 => []) (fun v18 => ?_)
    refine Sm.goto (t := 46) dL_print_71 (by decide) ?_
    exact Sm.wk (hk46 (v17, v18, h16)) ⟨Or.inr rfl, Or.inr rfl, Or.inl rfl, Or.inr rfl, Or.inr rfl, Or.inr rfl, trivial⟩
def f_L_print_6 (k6 : (Int64 × Int32 × Hp) → Option (Int64 × Hp)) (l0 : Nat) (l1 : Int64) (l3 : Int32) (h : Hp) : Option (Int64 × Hp) :=
  (if (4 : Int32) ≤ l3 then
(some (l1, h))
else
(ck h l0 9
(bd (f_X9_size l0 l3 h) fun v3 h4 =>
(ck h4 l0 9
(bd (f_X9_isPredicate l0 l3 h4) fun v6 h7 =>
(nm (((31 : Int64) * (((31 : Int64) * l1) + v3.toInt64)) + v6.toInt64) fun v8 =>
(ck h7 l0 9
(bd (f_X9_printed l0 l3 (-1 : Int32) h7) fun v10 h11 =>
(loopN (fun k s => f_L_print_46 k6 k l0 s.1 l3 v10 s.2.1 s.2.2) 5000 (v8, (0 : Int32), h11))))))))))
set_option maxRecDepth 20000 in
theorem t_L_print_6 (l0 : Nat) (l1 : Int64) (l3 : Int32) (h : Hp) (k6 : (Int64 × Int32 × Hp) → Option (Int64 × Hp)) (hk6 : ∀ s : Int64 × Int32 × Hp, Sm rvJ g_L_print 6 [.ref l0, .long s.1, .null, .int s.2.1, .null, .null] [] s.2.2 (k6 s)) : Sm rvJ g_L_print 6 [.ref l0, .long l1, .null, .int l3, .null, .null] [] h (f_L_print_6 k6 l0 l1 l3 h) := by
  unfold f_L_print_6
  refine Sm.iload_n dL_print_6 rfl rfl rfl ?_
  refine Sm.iconst dL_print_7 ic_4 rfl ?_
  refine Sm.icmp_ge (t := 80) dL_print_8 (by decide) rfl (fun b1 => ?_) (fun b1 => ?_)
  · refine Sm.lload_n dL_print_80 rfl rfl rfl ?_
    exact Sm.ret dL_print_81 trivial rfl
  · refine Sm.ldc2 dL_print_11 mw_462 rfl ?_
    refine Sm.ldc2 dL_print_14 mw_462 rfl ?_
    refine Sm.lload_n dL_print_17 rfl rfl rfl ?_
    refine Sm.lmul dL_print_18 rfl ?_
    refine Sm.aload_n dL_print_19 rfl rfl rfl ?_
    refine Sm.iload_n dL_print_20 rfl rfl rfl ?_
    refine Sm.ck (fun o2 => ?_)
    refine kc_L_40 o2 dL_print_21 rfl (Nat.le_of_ble_eq_true rfl) (Nat.le_of_ble_eq_true rfl) rfl (fun v3 h4 => ?_)
    refine Sm.i2l dL_print_24 rfl ?_
    refine Sm.ladd dL_print_25 rfl ?_
    refine Sm.lmul dL_print_26 rfl ?_
    refine Sm.aload_n dL_print_27 rfl rfl rfl ?_
    refine Sm.iload_n dL_print_28 rfl rfl rfl ?_
    refine Sm.ck (fun o5 => ?_)
    refine kc_L_43 o5 dL_print_29 rfl (Nat.le_of_ble_eq_true rfl) (Nat.le_of_ble_eq_true rfl) rfl (fun v6 h7 => ?_)
    refine Sm.i2l dL_print_32 rfl ?_
    refine Sm.ladd dL_print_33 rfl ?_
    refine Sm.nm (LV := fun v8 => [.ref l0, .long l1, .null, .int l3, .null, .null]) (ST := fun v8 => [.long v8]) (fun v8 => ?_)
    refine Sm.lstore_n (lv' := [.ref l0, .long v8, .null, .int l3, .null, .null]) dL_print_34 rfl (Nat.le_of_ble_eq_true rfl) rfl rfl ?_
    refine Sm.aload_n dL_print_35 rfl rfl rfl ?_
    refine Sm.iload_n dL_print_36 rfl rfl rfl ?_
    refine Sm.iconst dL_print_37 ic_m1 rfl ?_
    refine Sm.ck (fun o9 => ?_)
    refine kc_L_46 o9 dL_print_38 rfl (Nat.le_of_ble_eq_true rfl) (Nat.le_of_ble_eq_true rfl) rfl (fun v10 h11 => ?_)
    refine Sm.istore (lv' := [.ref l0, .long v8, .null, .int l3, .int v10, .null]) dL_print_41 (Nat.le_of_ble_eq_true rfl) rfl rfl ?_
    refine Sm.iconst dL_print_43 ic_0 rfl ?_
    refine Sm.istore (lv' := [.ref l0, .long v8, .null, .int l3, .int v10, .int (0 : Int32)]) dL_print_44 (Nat.le_of_ble_eq_true rfl) rfl rfl ?_
    exact Sm.wk (Sm.loop (σ := Int64 × Int32 × Hp) (LV := fun s => [.ref l0, .long s.1, .null, .int l3, .int v10, .int s.2.1]) (HH := fun s => s.2.2) (fun k hk s => t_L_print_46 l0 s.1 l3 v10 s.2.1 s.2.2 k6 hk6 k hk) 5000 (v8, (0 : Int32), h11)) ⟨Or.inr rfl, Or.inr rfl, Or.inl rfl, Or.inr rfl, Or.inr rfl, Or.inr rfl, trivial⟩
def f_L_print (l0 : Nat) (h : Hp) : Option (Int64 × Hp) :=
  (loopN (fun k s => f_L_print_6 k l0 s.1 s.2.1 s.2.2) 5000 ((7 : Int64), (0 : Int32), h))
set_option maxRecDepth 20000 in
theorem t_L_print (l0 : Nat) (h : Hp) : Sm rvJ g_L_print 0 (ent 6 [.ref l0]) [] h (f_L_print l0 h) := by
  show Sm rvJ g_L_print 0 [.ref l0, .null, .null, .null, .null, .null] [] h _
  unfold f_L_print
  refine Sm.ldc2 dL_print_0 mw_461 rfl ?_
  refine Sm.lstore_n (lv' := [.ref l0, .long (7 : Int64), .null, .null, .null, .null]) dL_print_3 rfl (Nat.le_of_ble_eq_true rfl) rfl rfl ?_
  refine Sm.iconst dL_print_4 ic_0 rfl ?_
  refine Sm.istore_n (lv' := [.ref l0, .long (7 : Int64), .null, .int (0 : Int32), .null, .null]) dL_print_5 rfl (Nat.le_of_ble_eq_true rfl) rfl rfl ?_
  exact Sm.wk (Sm.loop (σ := Int64 × Int32 × Hp) (LV := fun s => [.ref l0, .long s.1, .null, .int s.2.1, .null, .null]) (HH := fun s => s.2.2) (fun k hk s => t_L_print_6 l0 s.1 s.2.1 s.2.2 k hk) 5000 ((7 : Int64), (0 : Int32), h)) ⟨Or.inr rfl, Or.inr rfl, Or.inl rfl, Or.inr rfl, Or.inl rfl, Or.inl rfl, trivial⟩
set_option maxRecDepth 20000 in
theorem kc_L_50 {ρ : Type} {rv : ρ → Option Value} {G : Gx} {pc q : Nat} {lv st : List Value} {h : Hp} {x0 : Nat} {e : Int64 → Hp → Option (ρ × Hp)} (d : decode G.2.1 pc = .ok (.invokestatic 50, 3)) (ho : G.1.cls = RL) (hdep : (g_L_print).2.2.2.2 < G.2.2.2.2) (hcat : catS st ≤ 8) (hq : pc + 3 = q) (k : ∀ r h1, Sm rv G q lv (.long r :: st) h1 (e r h1)) : Sm rv G pc lv (.ref x0 :: st) h (bd (f_L_print x0 h) e) :=
  Sm.callS (rv' := rvJ) (as := [.ref x0]) (n := 1) (t_L_print x0 h) ho mw_458 mw_459 mw_0 mw_460 ⟨⟨by decide, rfl, hdep, Nat.le_of_ble_eq_true rfl⟩, Nat.le_of_ble_eq_true rfl, rfl, ⟨by decide, by decide⟩, hcat⟩ (by decide +kernel) (by intro v hv; simp only [List.mem_cons, List.not_mem_nil, or_false] at hv; rcases hv with rfl <;> intro x hx <;> cases hx) d hq k rfl
abbrev g_L_isJoined : Gx := (yL_isJoined, cL_isJoined, 14, (Option.some FieldType.boolean), 14)
def f_L_isJoined_196 (l0 : Nat) (l5 : Int64) (s0 : Int32) (s1 : Int32) (h : Hp) : Option (Int32 × Hp) :=
  (if s0 = s1 then
(ck h l0 9
(bd (f_X9_undo l0 h) fun v41 h42 =>
(if v41 < 0 then
(some ((0 : Int32), h42))
else
(bd (f_L_print l0 h42) fun v44 h45 =>
(if (lg_cmp v44 l5) = 0 then
(some ((1 : Int32), h45))
else
(some ((0 : Int32), h45)))))))
else
(some ((0 : Int32), h)))
set_option maxRecDepth 20000 in
theorem t_L_isJoined_196 (l0 : Nat) (l5 : Int64) (s0 : Int32) (s1 : Int32) (h : Hp) : Sm rvI g_L_isJoined 196 [.ref l0, .null, .null, .null, .null, .long l5, .null, .null, .null, .null, .null, .null, .null, .null] [.int s1, .int s0] h (f_L_isJoined_196 l0 l5 s0 s1 h) := by
  unfold f_L_isJoined_196
  refine Sm.icmp_ne (t := 220) dL_isJoined_196 (by decide) rfl (fun b39 => ?_) (fun b39 => ?_)
  · refine Sm.aload_n dL_isJoined_199 rfl rfl rfl ?_
    refine Sm.ck (fun o40 => ?_)
    refine kc_L_62 o40 dL_isJoined_200 rfl (Nat.le_of_ble_eq_true rfl) (Nat.le_of_ble_eq_true rfl) rfl (fun v41 h42 => ?_)
    refine Sm.if_lt (t := 220) dL_isJoined_203 (by decide) rfl (fun b43 => ?_) (fun b43 => ?_)
    · refine Sm.iconst dL_isJoined_220 ic_0 rfl ?_
      exact Sm.ret dL_isJoined_221 (Or.inl rfl) rfl
    · refine Sm.aload_n dL_isJoined_206 rfl rfl rfl ?_
      refine kc_L_50 dL_isJoined_207 rfl (Nat.le_of_ble_eq_true rfl) (Nat.le_of_ble_eq_true rfl) rfl (fun v44 h45 => ?_)
      refine Sm.lload dL_isJoined_210 rfl rfl ?_
      refine Sm.lcmp dL_isJoined_212 rfl ?_
      refine Sm.if_ne (t := 220) dL_isJoined_213 (by decide) rfl (fun b46 => ?_) (fun b46 => ?_)
      · refine Sm.iconst dL_isJoined_216 ic_1 rfl ?_
        refine Sm.goto (t := 221) dL_isJoined_217 (by decide) ?_
        exact Sm.ret dL_isJoined_221 (Or.inr rfl) rfl
      · refine Sm.iconst dL_isJoined_220 ic_0 rfl ?_
        exact Sm.ret dL_isJoined_221 (Or.inl rfl) rfl
  · refine Sm.iconst dL_isJoined_220 ic_0 rfl ?_
    exact Sm.ret dL_isJoined_221 (Or.inl rfl) rfl
def f_L_isJoined_119 (l0 : Nat) (l1 : Int32) (l2 : Int32) (l3 : Int32) (l4 : Int32) (l5 : Int64) (l9 : Int64) (l11 : Int32) (s0 : Int32) (h : Hp) : Option (Int32 × Hp) :=
  (ck h l0 9
(bd (f_X9_combine l0 l1 l2 l3 (3 : Int32) h) fun v27 h28 =>
(if l11 ≤ (60 : Int32) then
(if v27 = l11 then
(ck h28 l0 9
(bd (f_X9_outputs l0 (3 : Int32) l4 h28) fun v32 h33 =>
(if (lg_cmp v32 l9) = 0 then
(ck h33 l0 9
(bd (f_X9_isPredicate l0 (3 : Int32) h33) fun v36 h37 =>
(if s0 = 0 then
(f_L_isJoined_196 l0 l5 v36 (0 : Int32) h37)
else
(f_L_isJoined_196 l0 l5 v36 (1 : Int32) h37))))
else
(some ((0 : Int32), h33)))))
else
(some ((0 : Int32), h28)))
else
(if v27 = (-4 : Int32) then
(bd (f_L_print l0 h28) fun v48 h49 =>
(if (lg_cmp v48 l5) = 0 then
(some ((1 : Int32), h49))
else
(some ((0 : Int32), h49))))
else
(some ((0 : Int32), h28))))))
set_option maxRecDepth 20000 in
theorem t_L_isJoined_119 (l0 : Nat) (l1 : Int32) (l2 : Int32) (l3 : Int32) (l4 : Int32) (l5 : Int64) (l9 : Int64) (l11 : Int32) (s0 : Int32) (h : Hp) : Sm rvI g_L_isJoined 119 [.ref l0, .int l1, .int l2, .int l3, .int l4, .long l5, .null, .null, .null, .long l9, .null, .int l11, .null, .null] [.int s0] h (f_L_isJoined_119 l0 l1 l2 l3 l4 l5 l9 l11 s0 h) := by
  unfold f_L_isJoined_119
  refine Sm.istore (lv' := [.ref l0, .int l1, .int l2, .int l3, .int l4, .long l5, .null, .null, .null, .long l9, .null, .int l11, .int s0, .null]) dL_isJoined_119 (Nat.le_of_ble_eq_true rfl) rfl rfl ?_
  refine Sm.aload_n dL_isJoined_121 rfl rfl rfl ?_
  refine Sm.iload_n dL_isJoined_122 rfl rfl rfl ?_
  refine Sm.iload_n dL_isJoined_123 rfl rfl rfl ?_
  refine Sm.iload_n dL_isJoined_124 rfl rfl rfl ?_
  refine Sm.iconst dL_isJoined_125 ic_3 rfl ?_
  refine Sm.ck (fun o26 => ?_)
  refine kc_L_58 o26 dL_isJoined_126 rfl (Nat.le_of_ble_eq_true rfl) (Nat.le_of_ble_eq_true rfl) rfl (fun v27 h28 => ?_)
  refine Sm.istore (lv' := [.ref l0, .int l1, .int l2, .int l3, .int l4, .long l5, .null, .null, .null, .long l9, .null, .int l11, .int s0, .int v27]) dL_isJoined_129 (Nat.le_of_ble_eq_true rfl) rfl rfl ?_
  refine Sm.iload dL_isJoined_131 rfl rfl ?_
  refine Sm.bipush dL_isJoined_133 bp_60 rfl ?_
  refine Sm.icmp_le (t := 161) dL_isJoined_135 (by decide) rfl (fun b29 => ?_) (fun b29 => ?_)
  · refine Sm.iload dL_isJoined_161 rfl rfl ?_
    refine Sm.iload dL_isJoined_163 rfl rfl ?_
    refine Sm.icmp_ne (t := 220) dL_isJoined_165 (by decide) rfl (fun b30 => ?_) (fun b30 => ?_)
    · refine Sm.aload_n dL_isJoined_168 rfl rfl rfl ?_
      refine Sm.iconst dL_isJoined_169 ic_3 rfl ?_
      refine Sm.iload dL_isJoined_170 rfl rfl ?_
      refine Sm.ck (fun o31 => ?_)
      refine kc_L_54 o31 dL_isJoined_172 rfl (Nat.le_of_ble_eq_true rfl) (Nat.le_of_ble_eq_true rfl) rfl (fun v32 h33 => ?_)
      refine Sm.lload dL_isJoined_175 rfl rfl ?_
      refine Sm.lcmp dL_isJoined_177 rfl ?_
      refine Sm.if_ne (t := 220) dL_isJoined_178 (by decide) rfl (fun b34 => ?_) (fun b34 => ?_)
      · refine Sm.aload_n dL_isJoined_181 rfl rfl rfl ?_
        refine Sm.iconst dL_isJoined_182 ic_3 rfl ?_
        refine Sm.ck (fun o35 => ?_)
        refine kc_L_43 o35 dL_isJoined_183 rfl (Nat.le_of_ble_eq_true rfl) (Nat.le_of_ble_eq_true rfl) rfl (fun v36 h37 => ?_)
        refine Sm.iload dL_isJoined_186 rfl rfl ?_
        refine Sm.if_eq (t := 195) dL_isJoined_188 (by decide) rfl (fun b38 => ?_) (fun b38 => ?_)
        · refine Sm.iconst dL_isJoined_195 ic_0 rfl ?_
          exact Sm.wk (t_L_isJoined_196 l0 l5 v36 (0 : Int32) h37) ⟨Or.inr rfl, Or.inl rfl, Or.inl rfl, Or.inl rfl, Or.inl rfl, Or.inr rfl, Or.inl rfl, Or.inl rfl, Or.inl rfl, Or.inl rfl, Or.inl rfl, Or.inl rfl, Or.inl rfl, Or.inl rfl, trivial⟩
        · refine Sm.iconst dL_isJoined_191 ic_1 rfl ?_
          refine Sm.goto (t := 196) dL_isJoined_192 (by decide) ?_
          exact Sm.wk (t_L_isJoined_196 l0 l5 v36 (1 : Int32) h37) ⟨Or.inr rfl, Or.inl rfl, Or.inl rfl, Or.inl rfl, Or.inl rfl, Or.inr rfl, Or.inl rfl, Or.inl rfl, Or.inl rfl, Or.inl rfl, Or.inl rfl, Or.inl rfl, Or.inl rfl, Or.inl rfl, trivial⟩
      · refine Sm.iconst dL_isJoined_220 ic_0 rfl ?_
        exact Sm.ret dL_isJoined_221 (Or.inl rfl) rfl
    · refine Sm.iconst dL_isJoined_220 ic_0 rfl ?_
      exact Sm.ret dL_isJoined_221 (Or.inl rfl) rfl
  · refine Sm.iload dL_isJoined_138 rfl rfl ?_
    refine Sm.bipush dL_isJoined_140 bp_m4 rfl ?_
    refine Sm.icmp_ne (t := 159) dL_isJoined_142 (by decide) rfl (fun b47 => ?_) (fun b47 => ?_)
    · refine Sm.aload_n dL_isJoined_145 rfl rfl rfl ?_
      refine kc_L_50 dL_isJoined_146 rfl (Nat.le_of_ble_eq_true rfl) (Nat.le_of_ble_eq_true rfl) rfl (fun v48 h49 => ?_)
      refine Sm.lload dL_isJoined_149 rfl rfl ?_
      refine Sm.lcmp dL_isJoined_151 rfl ?_
      refine Sm.if_ne (t := 159) dL_isJoined_152 (by decide) rfl (fun b50 => ?_) (fun b50 => ?_)
      · refine Sm.iconst dL_isJoined_155 ic_1 rfl ?_
        refine Sm.goto (t := 160) dL_isJoined_156 (by decide) ?_
        exact Sm.ret dL_isJoined_160 (Or.inr rfl) rfl
      · refine Sm.iconst dL_isJoined_159 ic_0 rfl ?_
        exact Sm.ret dL_isJoined_160 (Or.inl rfl) rfl
    · refine Sm.iconst dL_isJoined_159 ic_0 rfl ?_
      exact Sm.ret dL_isJoined_160 (Or.inl rfl) rfl
def f_L_isJoined_84 (l0 : Nat) (l1 : Int32) (l2 : Int32) (l3 : Int32) (l4 : Int32) (l5 : Int64) (l9 : Int64) (h : Hp) : Option (Int32 × Hp) :=
  (ck h l0 9
(bd (f_X9_size l0 l2 h) fun v13 h14 =>
(ck h14 l0 9
(bd (f_X9_size l0 l3 h14) fun v16 h17 =>
(nm ((v13 + v16) + (1 : Int32)) fun v18 =>
(ck h17 l0 9
(bd (f_X9_isPredicate l0 l2 h17) fun v20 h21 =>
(ck h21 l0 9
(bd (f_X9_isPredicate l0 l3 h21) fun v23 h24 =>
(if (v20 + v23) = (2 : Int32) then
(f_L_isJoined_119 l0 l1 l2 l3 l4 l5 l9 v18 (1 : Int32) h24)
else
(f_L_isJoined_119 l0 l1 l2 l3 l4 l5 l9 v18 (0 : Int32) h24)))))))))))
set_option maxRecDepth 20000 in
theorem t_L_isJoined_84 (l0 : Nat) (l1 : Int32) (l2 : Int32) (l3 : Int32) (l4 : Int32) (l5 : Int64) (l9 : Int64) (h : Hp) : Sm rvI g_L_isJoined 84 [.ref l0, .int l1, .int l2, .int l3, .int l4, .long l5, .null, .null, .null, .long l9, .null, .null, .null, .null] [] h (f_L_isJoined_84 l0 l1 l2 l3 l4 l5 l9 h) := by
  unfold f_L_isJoined_84
  refine Sm.aload_n dL_isJoined_84 rfl rfl rfl ?_
  refine Sm.iload_n dL_isJoined_85 rfl rfl rfl ?_
  refine Sm.ck (fun o12 => ?_)
  refine kc_L_40 o12 dL_isJoined_86 rfl (Nat.le_of_ble_eq_true rfl) (Nat.le_of_ble_eq_true rfl) rfl (fun v13 h14 => ?_)
  refine Sm.aload_n dL_isJoined_89 rfl rfl rfl ?_
  refine Sm.iload_n dL_isJoined_90 rfl rfl rfl ?_
  refine Sm.ck (fun o15 => ?_)
  refine kc_L_40 o15 dL_isJoined_91 rfl (Nat.le_of_ble_eq_true rfl) (Nat.le_of_ble_eq_true rfl) rfl (fun v16 h17 => ?_)
  refine Sm.iadd dL_isJoined_94 rfl ?_
  refine Sm.iconst dL_isJoined_95 ic_1 rfl ?_
  refine Sm.iadd dL_isJoined_96 rfl ?_
  refine Sm.nm (LV := fun v18 => [.ref l0, .int l1, .int l2, .int l3, .int l4, .long l5, .null, .null, .null, .long l9, .null, .null, .null, .null]) (ST := fun v18 => [.int v18]) (fun v18 => ?_)
  refine Sm.istore (lv' := [.ref l0, .int l1, .int l2, .int l3, .int l4, .long l5, .null, .null, .null, .long l9, .null, .int v18, .null, .null]) dL_isJoined_97 (Nat.le_of_ble_eq_true rfl) rfl rfl ?_
  refine Sm.aload_n dL_isJoined_99 rfl rfl rfl ?_
  refine Sm.iload_n dL_isJoined_100 rfl rfl rfl ?_
  refine Sm.ck (fun o19 => ?_)
  refine kc_L_43 o19 dL_isJoined_101 rfl (Nat.le_of_ble_eq_true rfl) (Nat.le_of_ble_eq_true rfl) rfl (fun v20 h21 => ?_)
  refine Sm.aload_n dL_isJoined_104 rfl rfl rfl ?_
  refine Sm.iload_n dL_isJoined_105 rfl rfl rfl ?_
  refine Sm.ck (fun o22 => ?_)
  refine kc_L_43 o22 dL_isJoined_106 rfl (Nat.le_of_ble_eq_true rfl) (Nat.le_of_ble_eq_true rfl) rfl (fun v23 h24 => ?_)
  refine Sm.iadd dL_isJoined_109 rfl ?_
  refine Sm.iconst dL_isJoined_110 ic_2 rfl ?_
  refine Sm.icmp_ne (t := 118) dL_isJoined_111 (by decide) rfl (fun b25 => ?_) (fun b25 => ?_)
  · refine Sm.iconst dL_isJoined_114 ic_1 rfl ?_
    refine Sm.goto (t := 119) dL_isJoined_115 (by decide) ?_
    exact Sm.wk (t_L_isJoined_119 l0 l1 l2 l3 l4 l5 l9 v18 (1 : Int32) h24) ⟨Or.inr rfl, Or.inr rfl, Or.inr rfl, Or.inr rfl, Or.inr rfl, Or.inr rfl, Or.inl rfl, Or.inl rfl, Or.inl rfl, Or.inr rfl, Or.inl rfl, Or.inr rfl, Or.inl rfl, Or.inl rfl, trivial⟩
  · refine Sm.iconst dL_isJoined_118 ic_0 rfl ?_
    exact Sm.wk (t_L_isJoined_119 l0 l1 l2 l3 l4 l5 l9 v18 (0 : Int32) h24) ⟨Or.inr rfl, Or.inr rfl, Or.inr rfl, Or.inr rfl, Or.inr rfl, Or.inr rfl, Or.inl rfl, Or.inl rfl, Or.inl rfl, Or.inr rfl, Or.inl rfl, Or.inr rfl, Or.inl rfl, Or.inl rfl, trivial⟩
def f_L_isJoined_38 (k38 : (Int64 × Int32 × Hp) → Option (Int32 × Hp)) (l0 : Nat) (l1 : Int32) (l2 : Int32) (l3 : Int32) (l4 : Int32) (l5 : Int64) (l7 : Int64) (l9 : Int64) (l11 : Int32) (h : Hp) : Option (Int32 × Hp) :=
  (if (64 : Int32) ≤ l11 then
(f_L_isJoined_84 l0 l1 l2 l3 l4 l5 l9 h)
else
(if l1 = (1 : Int32) then
(if (lg_cmp ((l7 >>> (l11.toInt64 &&& 63)) &&& (1 : Int64)) (1 : Int64)) = 0 then
(ck h l0 9
(bd (f_X9_outputs l0 l3 l11 h) fun v54 h55 =>
(nm (l9 ||| v54) fun v56 =>
(nm (l11 + (1 : Int32)) fun v57 =>
(k38 (v56, v57, h55))))))
else
(nm (l9 ||| (0 : Int64)) fun v58 =>
(nm (l11 + (1 : Int32)) fun v59 =>
(k38 (v58, v59, h)))))
else
(f_L_isJoined_84 l0 l1 l2 l3 l4 l5 l9 h)))
set_option maxRecDepth 20000 in
theorem t_L_isJoined_38 (l0 : Nat) (l1 : Int32) (l2 : Int32) (l3 : Int32) (l4 : Int32) (l5 : Int64) (l7 : Int64) (l9 : Int64) (l11 : Int32) (h : Hp) (k38 : (Int64 × Int32 × Hp) → Option (Int32 × Hp)) (hk38 : ∀ s : Int64 × Int32 × Hp, Sm rvI g_L_isJoined 38 [.ref l0, .int l1, .int l2, .int l3, .int l4, .long l5, .null, .long l7, .null, .long s.1, .null, .int s.2.1, .null, .null] [] s.2.2 (k38 s)) : Sm rvI g_L_isJoined 38 [.ref l0, .int l1, .int l2, .int l3, .int l4, .long l5, .null, .long l7, .null, .long l9, .null, .int l11, .null, .null] [] h (f_L_isJoined_38 k38 l0 l1 l2 l3 l4 l5 l7 l9 l11 h) := by
  unfold f_L_isJoined_38
  refine Sm.iload dL_isJoined_38 rfl rfl ?_
  refine Sm.bipush dL_isJoined_40 bp_64 rfl ?_
  refine Sm.icmp_ge (t := 84) dL_isJoined_42 (by decide) rfl (fun b11 => ?_) (fun b11 => ?_)
  · exact Sm.wk (t_L_isJoined_84 l0 l1 l2 l3 l4 l5 l9 h) ⟨Or.inr rfl, Or.inr rfl, Or.inr rfl, Or.inr rfl, Or.inr rfl, Or.inr rfl, Or.inl rfl, Or.inl rfl, Or.inl rfl, Or.inr rfl, Or.inl rfl, Or.inl rfl, Or.inl rfl, Or.inl rfl, trivial⟩
  · refine Sm.iload_n dL_isJoined_45 rfl rfl rfl ?_
    refine Sm.iconst dL_isJoined_46 ic_1 rfl ?_
    refine Sm.icmp_ne (t := 84) dL_isJoined_47 (by decide) rfl (fun b51 => ?_) (fun b51 => ?_)
    · refine Sm.lload dL_isJoined_50 rfl rfl ?_
      refine Sm.lload dL_isJoined_52 rfl rfl ?_
      refine Sm.iload dL_isJoined_54 rfl rfl ?_
      refine Sm.lshr dL_isJoined_56 rfl ?_
      refine Sm.lconst (v := (1 : Int64)) dL_isJoined_57 (by decide) rfl ?_
      refine Sm.land dL_isJoined_58 rfl ?_
      refine Sm.lconst (v := (1 : Int64)) dL_isJoined_59 (by decide) rfl ?_
      refine Sm.lcmp dL_isJoined_60 rfl ?_
      refine Sm.if_ne (t := 74) dL_isJoined_61 (by decide) rfl (fun b52 => ?_) (fun b52 => ?_)
      · refine Sm.aload_n dL_isJoined_64 rfl rfl rfl ?_
        refine Sm.iload_n dL_isJoined_65 rfl rfl rfl ?_
        refine Sm.iload dL_isJoined_66 rfl rfl ?_
        refine Sm.ck (fun o53 => ?_)
        refine kc_L_54 o53 dL_isJoined_68 rfl (Nat.le_of_ble_eq_true rfl) (Nat.le_of_ble_eq_true rfl) rfl (fun v54 h55 => ?_)
        refine Sm.goto (t := 75) dL_isJoined_71 (by decide) ?_
        refine Sm.lor dL_isJoined_75 rfl ?_
        refine Sm.nm (LV := fun v56 => [.ref l0, .int l1, .int l2, .int l3, .int l4, .long l5, .null, .long l7, .null, .long l9, .null, .int l11, .null, .null]) (ST := fun v56 => [.long v56]) (fun v56 => ?_)
        refine Sm.lstore (lv' := [.ref l0, .int l1, .int l2, .int l3, .int l4, .long l5, .null, .long l7, .null, .long v56, .null, .int l11, .null, .null]) dL_isJoined_76 (Nat.le_of_ble_eq_true rfl) rfl rfl ?_
        refine Sm.iinc (lv' := [.ref l0, .int l1, .int l2, .int l3, .int l4, .long l5, .null, .long l7, .null, .long v56, .null, .int (l11 + (1 : Int32)), .null, .null]) dL_isJoined_78 rfl ic_1 rfl rfl ?_
        refine Sm.nm (LV := fun v57 => [.ref l0, .int l1, .int l2, .int l3, .int l4, .long l5, .null, .long l7, .null, .long v56, .null, .int v57, .null, .null]) (ST := fun v57 => []) (fun v57 => ?_)
        refine Sm.goto (t := 38) dL_isJoined_81 (by decide) ?_
        exact Sm.wk (hk38 (v56, v57, h55)) ⟨Or.inr rfl, Or.inr rfl, Or.inr rfl, Or.inr rfl, Or.inr rfl, Or.inr rfl, Or.inl rfl, Or.inr rfl, Or.inl rfl, Or.inr rfl, Or.inl rfl, Or.inr rfl, Or.inl rfl, Or.inl rfl, trivial⟩
      · refine Sm.lconst (v := (0 : Int64)) dL_isJoined_74 (by decide) rfl ?_
        refine Sm.lor dL_isJoined_75 rfl ?_
        refine Sm.nm (LV := fun v58 => [.ref l0, .int l1, .int l2, .int l3, .int l4, .long l5, .null, .long l7, .null, .long l9, .null, .int l11, .null, .null]) (ST := fun v58 => [.long v58]) (fun v58 => ?_)
        refine Sm.lstore (lv' := [.ref l0, .int l1, .int l2, .int l3, .int l4, .long l5, .null, .long l7, .null, .long v58, .null, .int l11, .null, .null]) dL_isJoined_76 (Nat.le_of_ble_eq_true rfl) rfl rfl ?_
        refine Sm.iinc (lv' := [.ref l0, .int l1, .int l2, .int l3, .int l4, .long l5, .null, .long l7, .null, .long v58, .null, .int (l11 + (1 : Int32)), .null, .null]) dL_isJoined_78 rfl ic_1 rfl rfl ?_
        refine Sm.nm (LV := fun v59 => [.ref l0, .int l1, .int l2, .int l3, .int l4, .long l5, .null, .long l7, .null, .long v58, .null, .int v59, .null, .null]) (ST := fun v59 => []) (fun v59 => ?_)
        refine Sm.goto (t := 38) dL_isJoined_81 (by decide) ?_
        exact Sm.wk (hk38 (v58, v59, h)) ⟨Or.inr rfl, Or.inr rfl, Or.inr rfl, Or.inr rfl, Or.inr rfl, Or.inr rfl, Or.inl rfl, Or.inr rfl, Or.inl rfl, Or.inr rfl, Or.inl rfl, Or.inr rfl, Or.inl rfl, Or.inl rfl, trivial⟩
    · exact Sm.wk (t_L_isJoined_84 l0 l1 l2 l3 l4 l5 l9 h) ⟨Or.inr rfl, Or.inr rfl, Or.inr rfl, Or.inr rfl, Or.inr rfl, Or.inr rfl, Or.inl rfl, Or.inl rfl, Or.inl rfl, Or.inr rfl, Or.inl rfl, Or.inl rfl, Or.inl rfl, Or.inl rfl, trivial⟩
def f_L_isJoined (l0 : Nat) (l1 : Int32) (l2 : Int32) (l3 : Int32) (l4 : Int32) (h : Hp) : Option (Int32 × Hp) :=
  (bd (f_L_print l0 h) fun v1 h2 =>
(ck h2 l0 9
(bd (f_X9_outputs l0 l2 l4 h2) fun v4 h5 =>
(if l1 = 0 then
(ck h5 l0 9
(bd (f_X9_outputs l0 l3 l4 h5) fun v8 h9 =>
(nm (v4 ||| v8) fun v10 =>
(loopN (fun k s => f_L_isJoined_38 k l0 l1 l2 l3 l4 v1 v4 s.1 s.2.1 s.2.2) 5000 (v10, (0 : Int32), h9)))))
else
(loopN (fun k s => f_L_isJoined_38 k l0 l1 l2 l3 l4 v1 v4 s.1 s.2.1 s.2.2) 5000 ((0 : Int64), (0 : Int32), h5))))))
set_option maxRecDepth 20000 in
theorem t_L_isJoined (l0 : Nat) (l1 : Int32) (l2 : Int32) (l3 : Int32) (l4 : Int32) (h : Hp) : Sm rvI g_L_isJoined 0 (ent 14 [.ref l0, .int l1, .int l2, .int l3, .int l4]) [] h (f_L_isJoined l0 l1 l2 l3 l4 h) := by
  show Sm rvI g_L_isJoined 0 [.ref l0, .int l1, .int l2, .int l3, .int l4, .null, .null, .null, .null, .null, .null, .null, .null, .null] [] h _
  unfold f_L_isJoined
  refine Sm.aload_n dL_isJoined_0 rfl rfl rfl ?_
  refine kc_L_50 dL_isJoined_1 rfl (Nat.le_of_ble_eq_true rfl) (Nat.le_of_ble_eq_true rfl) rfl (fun v1 h2 => ?_)
  refine Sm.lstore (lv' := [.ref l0, .int l1, .int l2, .int l3, .int l4, .long v1, .null, .null, .null, .null, .null, .null, .null, .null]) dL_isJoined_4 (Nat.le_of_ble_eq_true rfl) rfl rfl ?_
  refine Sm.aload_n dL_isJoined_6 rfl rfl rfl ?_
  refine Sm.iload_n dL_isJoined_7 rfl rfl rfl ?_
  refine Sm.iload dL_isJoined_8 rfl rfl ?_
  refine Sm.ck (fun o3 => ?_)
  refine kc_L_54 o3 dL_isJoined_10 rfl (Nat.le_of_ble_eq_true rfl) (Nat.le_of_ble_eq_true rfl) rfl (fun v4 h5 => ?_)
  refine Sm.lstore (lv' := [.ref l0, .int l1, .int l2, .int l3, .int l4, .long v1, .null, .long v4, .null, .null, .null, .null, .null, .null]) dL_isJoined_13 (Nat.le_of_ble_eq_true rfl) rfl rfl ?_
  refine Sm.iload_n dL_isJoined_15 rfl rfl rfl ?_
  refine Sm.if_ne (t := 32) dL_isJoined_16 (by decide) rfl (fun b6 => ?_) (fun b6 => ?_)
  · refine Sm.lload dL_isJoined_19 rfl rfl ?_
    refine Sm.aload_n dL_isJoined_21 rfl rfl rfl ?_
    refine Sm.iload_n dL_isJoined_22 rfl rfl rfl ?_
    refine Sm.iload dL_isJoined_23 rfl rfl ?_
    refine Sm.ck (fun o7 => ?_)
    refine kc_L_54 o7 dL_isJoined_25 rfl (Nat.le_of_ble_eq_true rfl) (Nat.le_of_ble_eq_true rfl) rfl (fun v8 h9 => ?_)
    refine Sm.lor dL_isJoined_28 rfl ?_
    refine Sm.goto (t := 33) dL_isJoined_29 (by decide) ?_
    refine Sm.nm (LV := fun v10 => [.ref l0, .int l1, .int l2, .int l3, .int l4, .long v1, .null, .long v4, .null, .null, .null, .null, .null, .null]) (ST := fun v10 => [.long v10]) (fun v10 => ?_)
    refine Sm.lstore (lv' := [.ref l0, .int l1, .int l2, .int l3, .int l4, .long v1, .null, .long v4, .null, .long v10, .null, .null, .null, .null]) dL_isJoined_33 (Nat.le_of_ble_eq_true rfl) rfl rfl ?_
    refine Sm.iconst dL_isJoined_35 ic_0 rfl ?_
    refine Sm.istore (lv' := [.ref l0, .int l1, .int l2, .int l3, .int l4, .long v1, .null, .long v4, .null, .long v10, .null, .int (0 : Int32), .null, .null]) dL_isJoined_36 (Nat.le_of_ble_eq_true rfl) rfl rfl ?_
    exact Sm.wk (Sm.loop (σ := Int64 × Int32 × Hp) (LV := fun s => [.ref l0, .int l1, .int l2, .int l3, .int l4, .long v1, .null, .long v4, .null, .long s.1, .null, .int s.2.1, .null, .null]) (HH := fun s => s.2.2) (fun k hk s => t_L_isJoined_38 l0 l1 l2 l3 l4 v1 v4 s.1 s.2.1 s.2.2 k hk) 5000 (v10, (0 : Int32), h9)) ⟨Or.inr rfl, Or.inr rfl, Or.inr rfl, Or.inr rfl, Or.inr rfl, Or.inr rfl, Or.inl rfl, Or.inr rfl, Or.inl rfl, Or.inr rfl, Or.inl rfl, Or.inr rfl, Or.inl rfl, Or.inl rfl, trivial⟩
  · refine Sm.lconst (v := (0 : Int64)) dL_isJoined_32 (by decide) rfl ?_
    refine Sm.lstore (lv' := [.ref l0, .int l1, .int l2, .int l3, .int l4, .long v1, .null, .long v4, .null, .long (0 : Int64), .null, .null, .null, .null]) dL_isJoined_33 (Nat.le_of_ble_eq_true rfl) rfl rfl ?_
    refine Sm.iconst dL_isJoined_35 ic_0 rfl ?_
    refine Sm.istore (lv' := [.ref l0, .int l1, .int l2, .int l3, .int l4, .long v1, .null, .long v4, .null, .long (0 : Int64), .null, .int (0 : Int32), .null, .null]) dL_isJoined_36 (Nat.le_of_ble_eq_true rfl) rfl rfl ?_
    exact Sm.wk (Sm.loop (σ := Int64 × Int32 × Hp) (LV := fun s => [.ref l0, .int l1, .int l2, .int l3, .int l4, .long v1, .null, .long v4, .null, .long s.1, .null, .int s.2.1, .null, .null]) (HH := fun s => s.2.2) (fun k hk s => t_L_isJoined_38 l0 l1 l2 l3 l4 v1 v4 s.1 s.2.1 s.2.2 k hk) 5000 ((0 : Int64), (0 : Int32), h5)) ⟨Or.inr rfl, Or.inr rfl, Or.inr rfl, Or.inr rfl, Or.inr rfl, Or.inr rfl, Or.inl rfl, Or.inr rfl, Or.inl rfl, Or.inr rfl, Or.inl rfl, Or.inr rfl, Or.inl rfl, Or.inl rfl, trivial⟩
set_option maxRecDepth 20000 in
theorem kc_L_157 {ρ : Type} {rv : ρ → Option Value} {G : Gx} {pc q : Nat} {lv st : List Value} {h : Hp} {x0 : Nat} {x1 : Int32} {x2 : Int32} {x3 : Int32} {x4 : Int32} {e : Int32 → Hp → Option (ρ × Hp)} (d : decode G.2.1 pc = .ok (.invokestatic 157, 3)) (ho : G.1.cls = RL) (hdep : (g_L_isJoined).2.2.2.2 < G.2.2.2.2) (hcat : catS st ≤ 8) (hq : pc + 3 = q) (k : ∀ r h1, Sm rv G q lv (.int r :: st) h1 (e r h1)) : Sm rv G pc lv (.int x4 :: .int x3 :: .int x2 :: .int x1 :: .ref x0 :: st) h (bd (f_L_isJoined x0 x1 x2 x3 x4 h) e) :=
  Sm.callS (rv' := rvI) (as := [.ref x0, .int x1, .int x2, .int x3, .int x4]) (n := 5) (t_L_isJoined x0 x1 x2 x3 x4 h) ho mw_723 mw_724 mw_0 mw_725 ⟨⟨by decide, rfl, hdep, Nat.le_of_ble_eq_true rfl⟩, Nat.le_of_ble_eq_true rfl, rfl, ⟨by decide, by decide⟩, hcat⟩ (by decide +kernel) (by intro v hv; simp only [List.mem_cons, List.not_mem_nil, or_false] at hv; rcases hv with rfl | rfl | rfl | rfl | rfl <;> intro x hx <;> cases hx) d hq k rfl
abbrev g_L_isChanged : Gx := (yL_isChanged, cL_isChanged, 14, (Option.some FieldType.boolean), 14)
def f_L_isChanged_335 (l0 : Nat) (l3 : Int64) (l10 : Int32) (h : Hp) : Option (Int32 × Hp) :=
  (if l10 = 0 then
(some ((0 : Int32), h))
else
(bd (f_L_print l0 h) fun v22 h23 =>
(if (lg_cmp v22 l3) = 0 then
(some ((1 : Int32), h23))
else
(some ((0 : Int32), h23)))))
set_option maxRecDepth 20000 in
theorem t_L_isChanged_335 (l0 : Nat) (l3 : Int64) (l10 : Int32) (h : Hp) : Sm rvI g_L_isChanged 335 [.ref l0, .null, .null, .long l3, .null, .null, .null, .null, .null, .null, .int l10, .null, .null, .null] [] h (f_L_isChanged_335 l0 l3 l10 h) := by
  unfold f_L_isChanged_335
  refine Sm.iload dL_isChanged_335 rfl rfl ?_
  refine Sm.if_eq (t := 353) dL_isChanged_337 (by decide) rfl (fun b21 => ?_) (fun b21 => ?_)
  · refine Sm.iconst dL_isChanged_353 ic_0 rfl ?_
    exact Sm.ret dL_isChanged_354 (Or.inl rfl) rfl
  · refine Sm.aload_n dL_isChanged_340 rfl rfl rfl ?_
    refine kc_L_50 dL_isChanged_341 rfl (Nat.le_of_ble_eq_true rfl) (Nat.le_of_ble_eq_true rfl) rfl (fun v22 h23 => ?_)
    refine Sm.lload_n dL_isChanged_344 rfl rfl rfl ?_
    refine Sm.lcmp dL_isChanged_345 rfl ?_
    refine Sm.if_ne (t := 353) dL_isChanged_346 (by decide) rfl (fun b24 => ?_) (fun b24 => ?_)
    · refine Sm.iconst dL_isChanged_349 ic_1 rfl ?_
      refine Sm.goto (t := 354) dL_isChanged_350 (by decide) ?_
      exact Sm.ret dL_isChanged_354 (Or.inr rfl) rfl
    · refine Sm.iconst dL_isChanged_353 ic_0 rfl ?_
      exact Sm.ret dL_isChanged_354 (Or.inl rfl) rfl
def f_L_isChanged_333 (l0 : Nat) (l3 : Int64) (s0 : Int32) (h : Hp) : Option (Int32 × Hp) :=
  (f_L_isChanged_335 l0 l3 s0 h)
set_option maxRecDepth 20000 in
theorem t_L_isChanged_333 (l0 : Nat) (l3 : Int64) (s0 : Int32) (h : Hp) : Sm rvI g_L_isChanged 333 [.ref l0, .null, .null, .long l3, .null, .null, .null, .null, .null, .null, .null, .null, .null, .null] [.int s0] h (f_L_isChanged_333 l0 l3 s0 h) := by
  unfold f_L_isChanged_333
  refine Sm.istore (lv' := [.ref l0, .null, .null, .long l3, .null, .null, .null, .null, .null, .null, .int s0, .null, .null, .null]) dL_isChanged_333 (Nat.le_of_ble_eq_true rfl) rfl rfl ?_
  exact Sm.wk (t_L_isChanged_335 l0 l3 s0 h) ⟨Or.inr rfl, Or.inl rfl, Or.inl rfl, Or.inr rfl, Or.inl rfl, Or.inl rfl, Or.inl rfl, Or.inl rfl, Or.inl rfl, Or.inl rfl, Or.inr rfl, Or.inl rfl, Or.inl rfl, Or.inl rfl, trivial⟩
def f_L_isChanged_332 (l0 : Nat) (l3 : Int64) (h : Hp) : Option (Int32 × Hp) :=
  (f_L_isChanged_333 l0 l3 (0 : Int32) h)
set_option maxRecDepth 20000 in
theorem t_L_isChanged_332 (l0 : Nat) (l3 : Int64) (h : Hp) : Sm rvI g_L_isChanged 332 [.ref l0, .null, .null, .long l3, .null, .null, .null, .null, .null, .null, .null, .null, .null, .null] [] h (f_L_isChanged_332 l0 l3 h) := by
  unfold f_L_isChanged_332
  refine Sm.iconst dL_isChanged_332 ic_0 rfl ?_
  exact Sm.wk (t_L_isChanged_333 l0 l3 (0 : Int32) h) ⟨Or.inr rfl, Or.inl rfl, Or.inl rfl, Or.inr rfl, Or.inl rfl, Or.inl rfl, Or.inl rfl, Or.inl rfl, Or.inl rfl, Or.inl rfl, Or.inl rfl, Or.inl rfl, Or.inl rfl, Or.inl rfl, trivial⟩
def f_L_isChanged_316 (l0 : Nat) (l3 : Int64) (l10 : Int32) (h : Hp) : Option (Int32 × Hp) :=
  (if l10 = 0 then
(f_L_isChanged_332 l0 l3 h)
else
(ck h l0 9
(bd (f_X9_undo l0 h) fun v41 h42 =>
(if v41 < 0 then
(f_L_isChanged_332 l0 l3 h42)
else
(f_L_isChanged_333 l0 l3 (1 : Int32) h42)))))
set_option maxRecDepth 20000 in
theorem t_L_isChanged_316 (l0 : Nat) (l3 : Int64) (l10 : Int32) (h : Hp) : Sm rvI g_L_isChanged 316 [.ref l0, .null, .null, .long l3, .null, .null, .null, .null, .null, .null, .int l10, .null, .null, .null] [] h (f_L_isChanged_316 l0 l3 l10 h) := by
  unfold f_L_isChanged_316
  refine Sm.iload dL_isChanged_316 rfl rfl ?_
  refine Sm.if_eq (t := 332) dL_isChanged_318 (by decide) rfl (fun b39 => ?_) (fun b39 => ?_)
  · exact Sm.wk (t_L_isChanged_332 l0 l3 h) ⟨Or.inr rfl, Or.inl rfl, Or.inl rfl, Or.inr rfl, Or.inl rfl, Or.inl rfl, Or.inl rfl, Or.inl rfl, Or.inl rfl, Or.inl rfl, Or.inl rfl, Or.inl rfl, Or.inl rfl, Or.inl rfl, trivial⟩
  · refine Sm.aload_n dL_isChanged_321 rfl rfl rfl ?_
    refine Sm.ck (fun o40 => ?_)
    refine kc_L_62 o40 dL_isChanged_322 rfl (Nat.le_of_ble_eq_true rfl) (Nat.le_of_ble_eq_true rfl) rfl (fun v41 h42 => ?_)
    refine Sm.if_lt (t := 332) dL_isChanged_325 (by decide) rfl (fun b43 => ?_) (fun b43 => ?_)
    · exact Sm.wk (t_L_isChanged_332 l0 l3 h42) ⟨Or.inr rfl, Or.inl rfl, Or.inl rfl, Or.inr rfl, Or.inl rfl, Or.inl rfl, Or.inl rfl, Or.inl rfl, Or.inl rfl, Or.inl rfl, Or.inl rfl, Or.inl rfl, Or.inl rfl, Or.inl rfl, trivial⟩
    · refine Sm.iconst dL_isChanged_328 ic_1 rfl ?_
      refine Sm.goto (t := 333) dL_isChanged_329 (by decide) ?_
      exact Sm.wk (t_L_isChanged_333 l0 l3 (1 : Int32) h42) ⟨Or.inr rfl, Or.inl rfl, Or.inl rfl, Or.inr rfl, Or.inl rfl, Or.inl rfl, Or.inl rfl, Or.inl rfl, Or.inl rfl, Or.inl rfl, Or.inl rfl, Or.inl rfl, Or.inl rfl, Or.inl rfl, trivial⟩
def f_L_isChanged_260 (k260 : (Int32 × Int32 × Hp) → Option (Int32 × Hp)) (l0 : Nat) (l3 : Int64) (l10 : Int32) (l11 : Int64) (l13 : Int32) (h : Hp) : Option (Int32 × Hp) :=
  (if (64 : Int32) ≤ l13 then
(f_L_isChanged_316 l0 l3 l10 h)
else
(if l10 = 0 then
(f_L_isChanged_316 l0 l3 l10 h)
else
(if (lg_cmp ((l11 >>> (l13.toInt64 &&& 63)) &&& (1 : Int64)) (0 : Int64)) = 0 then
(nm (l13 + (3 : Int32)) fun v46 =>
(k260 ((1 : Int32), v46, h)))
else
(ck h l0 9
(bd (f_X9_outputs l0 (3 : Int32) l13 h) fun v48 h49 =>
(if (lg_cmp (v48 &&& (l11 ^^^ (-1 : Int64))) (0 : Int64)) = 0 then
(nm (l13 + (3 : Int32)) fun v51 =>
(k260 ((1 : Int32), v51, h49)))
else
(nm (l13 + (3 : Int32)) fun v52 =>
(k260 ((0 : Int32), v52, h49)))))))))
set_option maxRecDepth 20000 in
theorem t_L_isChanged_260 (l0 : Nat) (l3 : Int64) (l10 : Int32) (l11 : Int64) (l13 : Int32) (h : Hp) (k260 : (Int32 × Int32 × Hp) → Option (Int32 × Hp)) (hk260 : ∀ s : Int32 × Int32 × Hp, Sm rvI g_L_isChanged 260 [.ref l0, .null, .null, .long l3, .null, .null, .null, .null, .null, .null, .int s.1, .long l11, .null, .int s.2.1] [] s.2.2 (k260 s)) : Sm rvI g_L_isChanged 260 [.ref l0, .null, .null, .long l3, .null, .null, .null, .null, .null, .null, .int l10, .long l11, .null, .int l13] [] h (f_L_isChanged_260 k260 l0 l3 l10 l11 l13 h) := by
  unfold f_L_isChanged_260
  refine Sm.iload dL_isChanged_260 rfl rfl ?_
  refine Sm.bipush dL_isChanged_262 bp_64 rfl ?_
  refine Sm.icmp_ge (t := 316) dL_isChanged_264 (by decide) rfl (fun b38 => ?_) (fun b38 => ?_)
  · exact Sm.wk (t_L_isChanged_316 l0 l3 l10 h) ⟨Or.inr rfl, Or.inl rfl, Or.inl rfl, Or.inr rfl, Or.inl rfl, Or.inl rfl, Or.inl rfl, Or.inl rfl, Or.inl rfl, Or.inl rfl, Or.inr rfl, Or.inl rfl, Or.inl rfl, Or.inl rfl, trivial⟩
  · refine Sm.iload dL_isChanged_267 rfl rfl ?_
    refine Sm.if_eq (t := 316) dL_isChanged_269 (by decide) rfl (fun b44 => ?_) (fun b44 => ?_)
    · exact Sm.wk (t_L_isChanged_316 l0 l3 l10 h) ⟨Or.inr rfl, Or.inl rfl, Or.inl rfl, Or.inr rfl, Or.inl rfl, Or.inl rfl, Or.inl rfl, Or.inl rfl, Or.inl rfl, Or.inl rfl, Or.inr rfl, Or.inl rfl, Or.inl rfl, Or.inl rfl, trivial⟩
    · refine Sm.lload dL_isChanged_272 rfl rfl ?_
      refine Sm.iload dL_isChanged_274 rfl rfl ?_
      refine Sm.lshr dL_isChanged_276 rfl ?_
      refine Sm.lconst (v := (1 : Int64)) dL_isChanged_277 (by decide) rfl ?_
      refine Sm.land dL_isChanged_278 rfl ?_
      refine Sm.lconst (v := (0 : Int64)) dL_isChanged_279 (by decide) rfl ?_
      refine Sm.lcmp dL_isChanged_280 rfl ?_
      refine Sm.if_eq (t := 303) dL_isChanged_281 (by decide) rfl (fun b45 => ?_) (fun b45 => ?_)
      · refine Sm.iconst dL_isChanged_303 ic_1 rfl ?_
        refine Sm.goto (t := 308) dL_isChanged_304 (by decide) ?_
        refine Sm.istore (lv' := [.ref l0, .null, .null, .long l3, .null, .null, .null, .null, .null, .null, .int (1 : Int32), .long l11, .null, .int l13]) dL_isChanged_308 (Nat.le_of_ble_eq_true rfl) rfl rfl ?_
        refine Sm.iinc (lv' := [.ref l0, .null, .null, .long l3, .null, .null, .null, .null, .null, .null, .int (1 : Int32), .long l11, .null, .int (l13 + (3 : Int32))]) dL_isChanged_310 rfl ic_3 rfl rfl ?_
        refine Sm.nm (LV := fun v46 => [.ref l0, .null, .null, .long l3, .null, .null, .null, .null, .null, .null, .int (1 : Int32), .long l11, .null, .int v46]) (ST := fun v46 => []) (fun v46 => ?_)
        refine Sm.goto (t := 260) dL_isChanged_313 (by decide) ?_
        exact Sm.wk (hk260 ((1 : Int32), v46, h)) ⟨Or.inr rfl, Or.inl rfl, Or.inl rfl, Or.inr rfl, Or.inl rfl, Or.inl rfl, Or.inl rfl, Or.inl rfl, Or.inl rfl, Or.inl rfl, Or.inr rfl, Or.inr rfl, Or.inl rfl, Or.inr rfl, trivial⟩
      · refine Sm.aload_n dL_isChanged_284 rfl rfl rfl ?_
        refine Sm.iconst dL_isChanged_285 ic_3 rfl ?_
        refine Sm.iload dL_isChanged_286 rfl rfl ?_
        refine Sm.ck (fun o47 => ?_)
        refine kc_L_54 o47 dL_isChanged_288 rfl (Nat.le_of_ble_eq_true rfl) (Nat.le_of_ble_eq_true rfl) rfl (fun v48 h49 => ?_)
        refine Sm.lload dL_isChanged_291 rfl rfl ?_
        refine Sm.ldc2 dL_isChanged_293 mw_739 rfl ?_
        refine Sm.lxor dL_isChanged_296 rfl ?_
        refine Sm.land dL_isChanged_297 rfl ?_
        refine Sm.lconst (v := (0 : Int64)) dL_isChanged_298 (by decide) rfl ?_
        refine Sm.lcmp dL_isChanged_299 rfl ?_
        refine Sm.if_ne (t := 307) dL_isChanged_300 (by decide) rfl (fun b50 => ?_) (fun b50 => ?_)
        · refine Sm.iconst dL_isChanged_303 ic_1 rfl ?_
          refine Sm.goto (t := 308) dL_isChanged_304 (by decide) ?_
          refine Sm.istore (lv' := [.ref l0, .null, .null, .long l3, .null, .null, .null, .null, .null, .null, .int (1 : Int32), .long l11, .null, .int l13]) dL_isChanged_308 (Nat.le_of_ble_eq_true rfl) rfl rfl ?_
          refine Sm.iinc (lv' := [.ref l0, .null, .null, .long l3, .null, .null, .null, .null, .null, .null, .int (1 : Int32), .long l11, .null, .int (l13 + (3 : Int32))]) dL_isChanged_310 rfl ic_3 rfl rfl ?_
          refine Sm.nm (LV := fun v51 => [.ref l0, .null, .null, .long l3, .null, .null, .null, .null, .null, .null, .int (1 : Int32), .long l11, .null, .int v51]) (ST := fun v51 => []) (fun v51 => ?_)
          refine Sm.goto (t := 260) dL_isChanged_313 (by decide) ?_
          exact Sm.wk (hk260 ((1 : Int32), v51, h49)) ⟨Or.inr rfl, Or.inl rfl, Or.inl rfl, Or.inr rfl, Or.inl rfl, Or.inl rfl, Or.inl rfl, Or.inl rfl, Or.inl rfl, Or.inl rfl, Or.inr rfl, Or.inr rfl, Or.inl rfl, Or.inr rfl, trivial⟩
        · refine Sm.iconst dL_isChanged_307 ic_0 rfl ?_
          refine Sm.istore (lv' := [.ref l0, .null, .null, .long l3, .null, .null, .null, .null, .null, .null, .int (0 : Int32), .long l11, .null, .int l13]) dL_isChanged_308 (Nat.le_of_ble_eq_true rfl) rfl rfl ?_
          refine Sm.iinc (lv' := [.ref l0, .null, .null, .long l3, .null, .null, .null, .null, .null, .null, .int (0 : Int32), .long l11, .null, .int (l13 + (3 : Int32))]) dL_isChanged_310 rfl ic_3 rfl rfl ?_
          refine Sm.nm (LV := fun v52 => [.ref l0, .null, .null, .long l3, .null, .null, .null, .null, .null, .null, .int (0 : Int32), .long l11, .null, .int v52]) (ST := fun v52 => []) (fun v52 => ?_)
          refine Sm.goto (t := 260) dL_isChanged_313 (by decide) ?_
          exact Sm.wk (hk260 ((0 : Int32), v52, h49)) ⟨Or.inr rfl, Or.inl rfl, Or.inl rfl, Or.inr rfl, Or.inl rfl, Or.inl rfl, Or.inl rfl, Or.inl rfl, Or.inl rfl, Or.inl rfl, Or.inr rfl, Or.inr rfl, Or.inl rfl, Or.inr rfl, trivial⟩
def f_L_isChanged_201 (l0 : Nat) (l2 : Int32) (l3 : Int64) (l5 : Int64) (s0 : Int32) (h : Hp) : Option (Int32 × Hp) :=
  (ck h l0 9
(bd (f_X9_outputs l0 (3 : Int32) l2 h) fun v35 h36 =>
(if s0 = 0 then
(loopN (fun k s => f_L_isChanged_260 k l0 l3 s.1 v35 s.2.1 s.2.2) 5000 ((0 : Int32), (0 : Int32), h36))
else
(if (lg_cmp ((v35 >>> (l2.toInt64 &&& 63)) &&& (1 : Int64)) (1 : Int64)) = 0 then
(if (lg_cmp (l5 &&& (v35 ^^^ (-1 : Int64))) (0 : Int64)) = 0 then
(ck h36 l0 9
(bd (f_X9_rounds l0 (3 : Int32) h36) fun v56 h57 =>
(if (1 : Int32) < v56 then
(loopN (fun k s => f_L_isChanged_260 k l0 l3 s.1 v35 s.2.1 s.2.2) 5000 ((0 : Int32), (0 : Int32), h57))
else
(loopN (fun k s => f_L_isChanged_260 k l0 l3 s.1 v35 s.2.1 s.2.2) 5000 ((1 : Int32), (0 : Int32), h57)))))
else
(loopN (fun k s => f_L_isChanged_260 k l0 l3 s.1 v35 s.2.1 s.2.2) 5000 ((0 : Int32), (0 : Int32), h36)))
else
(loopN (fun k s => f_L_isChanged_260 k l0 l3 s.1 v35 s.2.1 s.2.2) 5000 ((0 : Int32), (0 : Int32), h36))))))
set_option maxRecDepth 20000 in
theorem t_L_isChanged_201 (l0 : Nat) (l2 : Int32) (l3 : Int64) (l5 : Int64) (s0 : Int32) (h : Hp) : Sm rvI g_L_isChanged 201 [.ref l0, .null, .int l2, .long l3, .null, .long l5, .null, .null, .null, .null, .null, .null, .null, .null] [.int s0] h (f_L_isChanged_201 l0 l2 l3 l5 s0 h) := by
  unfold f_L_isChanged_201
  refine Sm.istore (lv' := [.ref l0, .null, .int l2, .long l3, .null, .long l5, .null, .null, .null, .null, .int s0, .null, .null, .null]) dL_isChanged_201 (Nat.le_of_ble_eq_true rfl) rfl rfl ?_
  refine Sm.aload_n dL_isChanged_203 rfl rfl rfl ?_
  refine Sm.iconst dL_isChanged_204 ic_3 rfl ?_
  refine Sm.iload_n dL_isChanged_205 rfl rfl rfl ?_
  refine Sm.ck (fun o34 => ?_)
  refine kc_L_54 o34 dL_isChanged_206 rfl (Nat.le_of_ble_eq_true rfl) (Nat.le_of_ble_eq_true rfl) rfl (fun v35 h36 => ?_)
  refine Sm.lstore (lv' := [.ref l0, .null, .int l2, .long l3, .null, .long l5, .null, .null, .null, .null, .int s0, .long v35, .null, .null]) dL_isChanged_209 (Nat.le_of_ble_eq_true rfl) rfl rfl ?_
  refine Sm.iload dL_isChanged_211 rfl rfl ?_
  refine Sm.if_eq (t := 254) dL_isChanged_213 (by decide) rfl (fun b37 => ?_) (fun b37 => ?_)
  · refine Sm.iconst dL_isChanged_254 ic_0 rfl ?_
    refine Sm.istore (lv' := [.ref l0, .null, .int l2, .long l3, .null, .long l5, .null, .null, .null, .null, .int (0 : Int32), .long v35, .null, .null]) dL_isChanged_255 (Nat.le_of_ble_eq_true rfl) rfl rfl ?_
    refine Sm.iconst dL_isChanged_257 ic_0 rfl ?_
    refine Sm.istore (lv' := [.ref l0, .null, .int l2, .long l3, .null, .long l5, .null, .null, .null, .null, .int (0 : Int32), .long v35, .null, .int (0 : Int32)]) dL_isChanged_258 (Nat.le_of_ble_eq_true rfl) rfl rfl ?_
    exact Sm.wk (Sm.loop (σ := Int32 × Int32 × Hp) (LV := fun s => [.ref l0, .null, .null, .long l3, .null, .null, .null, .null, .null, .null, .int s.1, .long v35, .null, .int s.2.1]) (HH := fun s => s.2.2) (fun k hk s => t_L_isChanged_260 l0 l3 s.1 v35 s.2.1 s.2.2 k hk) 5000 ((0 : Int32), (0 : Int32), h36)) ⟨Or.inr rfl, Or.inl rfl, Or.inl rfl, Or.inr rfl, Or.inl rfl, Or.inl rfl, Or.inl rfl, Or.inl rfl, Or.inl rfl, Or.inl rfl, Or.inr rfl, Or.inr rfl, Or.inl rfl, Or.inr rfl, trivial⟩
  · refine Sm.lload dL_isChanged_216 rfl rfl ?_
    refine Sm.iload_n dL_isChanged_218 rfl rfl rfl ?_
    refine Sm.lshr dL_isChanged_219 rfl ?_
    refine Sm.lconst (v := (1 : Int64)) dL_isChanged_220 (by decide) rfl ?_
    refine Sm.land dL_isChanged_221 rfl ?_
    refine Sm.lconst (v := (1 : Int64)) dL_isChanged_222 (by decide) rfl ?_
    refine Sm.lcmp dL_isChanged_223 rfl ?_
    refine Sm.if_ne (t := 254) dL_isChanged_224 (by decide) rfl (fun b53 => ?_) (fun b53 => ?_)
    · refine Sm.lload dL_isChanged_227 rfl rfl ?_
      refine Sm.lload dL_isChanged_229 rfl rfl ?_
      refine Sm.ldc2 dL_isChanged_231 mw_739 rfl ?_
      refine Sm.lxor dL_isChanged_234 rfl ?_
      refine Sm.land dL_isChanged_235 rfl ?_
      refine Sm.lconst (v := (0 : Int64)) dL_isChanged_236 (by decide) rfl ?_
      refine Sm.lcmp dL_isChanged_237 rfl ?_
      refine Sm.if_ne (t := 254) dL_isChanged_238 (by decide) rfl (fun b54 => ?_) (fun b54 => ?_)
      · refine Sm.aload_n dL_isChanged_241 rfl rfl rfl ?_
        refine Sm.iconst dL_isChanged_242 ic_3 rfl ?_
        refine Sm.ck (fun o55 => ?_)
        refine kc_L_71 o55 dL_isChanged_243 rfl (Nat.le_of_ble_eq_true rfl) (Nat.le_of_ble_eq_true rfl) rfl (fun v56 h57 => ?_)
        refine Sm.iconst dL_isChanged_246 ic_1 rfl ?_
        refine Sm.icmp_gt (t := 254) dL_isChanged_247 (by decide) rfl (fun b58 => ?_) (fun b58 => ?_)
        · refine Sm.iconst dL_isChanged_254 ic_0 rfl ?_
          refine Sm.istore (lv' := [.ref l0, .null, .int l2, .long l3, .null, .long l5, .null, .null, .null, .null, .int (0 : Int32), .long v35, .null, .null]) dL_isChanged_255 (Nat.le_of_ble_eq_true rfl) rfl rfl ?_
          refine Sm.iconst dL_isChanged_257 ic_0 rfl ?_
          refine Sm.istore (lv' := [.ref l0, .null, .int l2, .long l3, .null, .long l5, .null, .null, .null, .null, .int (0 : Int32), .long v35, .null, .int (0 : Int32)]) dL_isChanged_258 (Nat.le_of_ble_eq_true rfl) rfl rfl ?_
          exact Sm.wk (Sm.loop (σ := Int32 × Int32 × Hp) (LV := fun s => [.ref l0, .null, .null, .long l3, .null, .null, .null, .null, .null, .null, .int s.1, .long v35, .null, .int s.2.1]) (HH := fun s => s.2.2) (fun k hk s => t_L_isChanged_260 l0 l3 s.1 v35 s.2.1 s.2.2 k hk) 5000 ((0 : Int32), (0 : Int32), h57)) ⟨Or.inr rfl, Or.inl rfl, Or.inl rfl, Or.inr rfl, Or.inl rfl, Or.inl rfl, Or.inl rfl, Or.inl rfl, Or.inl rfl, Or.inl rfl, Or.inr rfl, Or.inr rfl, Or.inl rfl, Or.inr rfl, trivial⟩
        · refine Sm.iconst dL_isChanged_250 ic_1 rfl ?_
          refine Sm.goto (t := 255) dL_isChanged_251 (by decide) ?_
          refine Sm.istore (lv' := [.ref l0, .null, .int l2, .long l3, .null, .long l5, .null, .null, .null, .null, .int (1 : Int32), .long v35, .null, .null]) dL_isChanged_255 (Nat.le_of_ble_eq_true rfl) rfl rfl ?_
          refine Sm.iconst dL_isChanged_257 ic_0 rfl ?_
          refine Sm.istore (lv' := [.ref l0, .null, .int l2, .long l3, .null, .long l5, .null, .null, .null, .null, .int (1 : Int32), .long v35, .null, .int (0 : Int32)]) dL_isChanged_258 (Nat.le_of_ble_eq_true rfl) rfl rfl ?_
          exact Sm.wk (Sm.loop (σ := Int32 × Int32 × Hp) (LV := fun s => [.ref l0, .null, .null, .long l3, .null, .null, .null, .null, .null, .null, .int s.1, .long v35, .null, .int s.2.1]) (HH := fun s => s.2.2) (fun k hk s => t_L_isChanged_260 l0 l3 s.1 v35 s.2.1 s.2.2 k hk) 5000 ((1 : Int32), (0 : Int32), h57)) ⟨Or.inr rfl, Or.inl rfl, Or.inl rfl, Or.inr rfl, Or.inl rfl, Or.inl rfl, Or.inl rfl, Or.inl rfl, Or.inl rfl, Or.inl rfl, Or.inr rfl, Or.inr rfl, Or.inl rfl, Or.inr rfl, trivial⟩
      · refine Sm.iconst dL_isChanged_254 ic_0 rfl ?_
        refine Sm.istore (lv' := [.ref l0, .null, .int l2, .long l3, .null, .long l5, .null, .null, .null, .null, .int (0 : Int32), .long v35, .null, .null]) dL_isChanged_255 (Nat.le_of_ble_eq_true rfl) rfl rfl ?_
        refine Sm.iconst dL_isChanged_257 ic_0 rfl ?_
        refine Sm.istore (lv' := [.ref l0, .null, .int l2, .long l3, .null, .long l5, .null, .null, .null, .null, .int (0 : Int32), .long v35, .null, .int (0 : Int32)]) dL_isChanged_258 (Nat.le_of_ble_eq_true rfl) rfl rfl ?_
        exact Sm.wk (Sm.loop (σ := Int32 × Int32 × Hp) (LV := fun s => [.ref l0, .null, .null, .long l3, .null, .null, .null, .null, .null, .null, .int s.1, .long v35, .null, .int s.2.1]) (HH := fun s => s.2.2) (fun k hk s => t_L_isChanged_260 l0 l3 s.1 v35 s.2.1 s.2.2 k hk) 5000 ((0 : Int32), (0 : Int32), h36)) ⟨Or.inr rfl, Or.inl rfl, Or.inl rfl, Or.inr rfl, Or.inl rfl, Or.inl rfl, Or.inl rfl, Or.inl rfl, Or.inl rfl, Or.inl rfl, Or.inr rfl, Or.inr rfl, Or.inl rfl, Or.inr rfl, trivial⟩
    · refine Sm.iconst dL_isChanged_254 ic_0 rfl ?_
      refine Sm.istore (lv' := [.ref l0, .null, .int l2, .long l3, .null, .long l5, .null, .null, .null, .null, .int (0 : Int32), .long v35, .null, .null]) dL_isChanged_255 (Nat.le_of_ble_eq_true rfl) rfl rfl ?_
      refine Sm.iconst dL_isChanged_257 ic_0 rfl ?_
      refine Sm.istore (lv' := [.ref l0, .null, .int l2, .long l3, .null, .long l5, .null, .null, .null, .null, .int (0 : Int32), .long v35, .null, .int (0 : Int32)]) dL_isChanged_258 (Nat.le_of_ble_eq_true rfl) rfl rfl ?_
      exact Sm.wk (Sm.loop (σ := Int32 × Int32 × Hp) (LV := fun s => [.ref l0, .null, .null, .long l3, .null, .null, .null, .null, .null, .null, .int s.1, .long v35, .null, .int s.2.1]) (HH := fun s => s.2.2) (fun k hk s => t_L_isChanged_260 l0 l3 s.1 v35 s.2.1 s.2.2 k hk) 5000 ((0 : Int32), (0 : Int32), h36)) ⟨Or.inr rfl, Or.inl rfl, Or.inl rfl, Or.inr rfl, Or.inl rfl, Or.inl rfl, Or.inl rfl, Or.inl rfl, Or.inl rfl, Or.inl rfl, Or.inr rfl, Or.inr rfl, Or.inl rfl, Or.inr rfl, trivial⟩
def f_L_isChanged_200 (l0 : Nat) (l2 : Int32) (l3 : Int64) (l5 : Int64) (h : Hp) : Option (Int32 × Hp) :=
  (f_L_isChanged_201 l0 l2 l3 l5 (0 : Int32) h)
set_option maxRecDepth 20000 in
theorem t_L_isChanged_200 (l0 : Nat) (l2 : Int32) (l3 : Int64) (l5 : Int64) (h : Hp) : Sm rvI g_L_isChanged 200 [.ref l0, .null, .int l2, .long l3, .null, .long l5, .null, .null, .null, .null, .null, .null, .null, .null] [] h (f_L_isChanged_200 l0 l2 l3 l5 h) := by
  unfold f_L_isChanged_200
  refine Sm.iconst dL_isChanged_200 ic_0 rfl ?_
  exact Sm.wk (t_L_isChanged_201 l0 l2 l3 l5 (0 : Int32) h) ⟨Or.inr rfl, Or.inl rfl, Or.inr rfl, Or.inr rfl, Or.inl rfl, Or.inr rfl, Or.inl rfl, Or.inl rfl, Or.inl rfl, Or.inl rfl, Or.inl rfl, Or.inl rfl, Or.inl rfl, Or.inl rfl, trivial⟩
def f_L_isChanged_162 (l0 : Nat) (l1 : Int32) (l2 : Int32) (l3 : Int64) (l5 : Int64) (l7 : Int32) (s0 : Int32) (h : Hp) : Option (Int32 × Hp) :=
  (if s0 = 0 then
(f_L_isChanged_335 l0 l3 s0 h)
else
(if (60 : Int32) < l7 then
(f_L_isChanged_335 l0 l3 s0 h)
else
(ck h l0 9
(bd (f_X9_modify l0 (0 : Int32) l1 (3 : Int32) h) fun v27 h28 =>
(if v27 = l7 then
(ck h28 l0 9
(bd (f_X9_isPredicate l0 (3 : Int32) h28) fun v31 h32 =>
(if v31 = 0 then
(f_L_isChanged_201 l0 l2 l3 l5 (1 : Int32) h32)
else
(f_L_isChanged_200 l0 l2 l3 l5 h32))))
else
(f_L_isChanged_200 l0 l2 l3 l5 h28))))))
set_option maxRecDepth 20000 in
theorem t_L_isChanged_162 (l0 : Nat) (l1 : Int32) (l2 : Int32) (l3 : Int64) (l5 : Int64) (l7 : Int32) (s0 : Int32) (h : Hp) : Sm rvI g_L_isChanged 162 [.ref l0, .int l1, .int l2, .long l3, .null, .long l5, .null, .int l7, .null, .null, .null, .null, .null, .null] [.int s0] h (f_L_isChanged_162 l0 l1 l2 l3 l5 l7 s0 h) := by
  unfold f_L_isChanged_162
  refine Sm.istore (lv' := [.ref l0, .int l1, .int l2, .long l3, .null, .long l5, .null, .int l7, .null, .null, .int s0, .null, .null, .null]) dL_isChanged_162 (Nat.le_of_ble_eq_true rfl) rfl rfl ?_
  refine Sm.iload dL_isChanged_164 rfl rfl ?_
  refine Sm.if_eq (t := 335) dL_isChanged_166 (by decide) rfl (fun b20 => ?_) (fun b20 => ?_)
  · exact Sm.wk (t_L_isChanged_335 l0 l3 s0 h) ⟨Or.inr rfl, Or.inl rfl, Or.inl rfl, Or.inr rfl, Or.inl rfl, Or.inl rfl, Or.inl rfl, Or.inl rfl, Or.inl rfl, Or.inl rfl, Or.inr rfl, Or.inl rfl, Or.inl rfl, Or.inl rfl, trivial⟩
  · refine Sm.iload dL_isChanged_169 rfl rfl ?_
    refine Sm.bipush dL_isChanged_171 bp_60 rfl ?_
    refine Sm.icmp_gt (t := 335) dL_isChanged_173 (by decide) rfl (fun b25 => ?_) (fun b25 => ?_)
    · exact Sm.wk (t_L_isChanged_335 l0 l3 s0 h) ⟨Or.inr rfl, Or.inl rfl, Or.inl rfl, Or.inr rfl, Or.inl rfl, Or.inl rfl, Or.inl rfl, Or.inl rfl, Or.inl rfl, Or.inl rfl, Or.inr rfl, Or.inl rfl, Or.inl rfl, Or.inl rfl, trivial⟩
    · refine Sm.aload_n dL_isChanged_176 rfl rfl rfl ?_
      refine Sm.iconst dL_isChanged_177 ic_0 rfl ?_
      refine Sm.iload_n dL_isChanged_178 rfl rfl rfl ?_
      refine Sm.iconst dL_isChanged_179 ic_3 rfl ?_
      refine Sm.ck (fun o26 => ?_)
      refine kc_L_65 o26 dL_isChanged_180 rfl (Nat.le_of_ble_eq_true rfl) (Nat.le_of_ble_eq_true rfl) rfl (fun v27 h28 => ?_)
      refine Sm.iload dL_isChanged_183 rfl rfl ?_
      refine Sm.icmp_ne (t := 200) dL_isChanged_185 (by decide) rfl (fun b29 => ?_) (fun b29 => ?_)
      · refine Sm.aload_n dL_isChanged_188 rfl rfl rfl ?_
        refine Sm.iconst dL_isChanged_189 ic_3 rfl ?_
        refine Sm.ck (fun o30 => ?_)
        refine kc_L_43 o30 dL_isChanged_190 rfl (Nat.le_of_ble_eq_true rfl) (Nat.le_of_ble_eq_true rfl) rfl (fun v31 h32 => ?_)
        refine Sm.if_ne (t := 200) dL_isChanged_193 (by decide) rfl (fun b33 => ?_) (fun b33 => ?_)
        · refine Sm.iconst dL_isChanged_196 ic_1 rfl ?_
          refine Sm.goto (t := 201) dL_isChanged_197 (by decide) ?_
          exact Sm.wk (t_L_isChanged_201 l0 l2 l3 l5 (1 : Int32) h32) ⟨Or.inr rfl, Or.inl rfl, Or.inr rfl, Or.inr rfl, Or.inl rfl, Or.inr rfl, Or.inl rfl, Or.inl rfl, Or.inl rfl, Or.inl rfl, Or.inl rfl, Or.inl rfl, Or.inl rfl, Or.inl rfl, trivial⟩
        · exact Sm.wk (t_L_isChanged_200 l0 l2 l3 l5 h32) ⟨Or.inr rfl, Or.inl rfl, Or.inr rfl, Or.inr rfl, Or.inl rfl, Or.inr rfl, Or.inl rfl, Or.inl rfl, Or.inl rfl, Or.inl rfl, Or.inl rfl, Or.inl rfl, Or.inl rfl, Or.inl rfl, trivial⟩
      · exact Sm.wk (t_L_isChanged_200 l0 l2 l3 l5 h28) ⟨Or.inr rfl, Or.inl rfl, Or.inr rfl, Or.inr rfl, Or.inl rfl, Or.inr rfl, Or.inl rfl, Or.inl rfl, Or.inl rfl, Or.inl rfl, Or.inl rfl, Or.inl rfl, Or.inl rfl, Or.inl rfl, trivial⟩
def f_L_isChanged_161 (l0 : Nat) (l1 : Int32) (l2 : Int32) (l3 : Int64) (l5 : Int64) (l7 : Int32) (h : Hp) : Option (Int32 × Hp) :=
  (f_L_isChanged_162 l0 l1 l2 l3 l5 l7 (0 : Int32) h)
set_option maxRecDepth 20000 in
theorem t_L_isChanged_161 (l0 : Nat) (l1 : Int32) (l2 : Int32) (l3 : Int64) (l5 : Int64) (l7 : Int32) (h : Hp) : Sm rvI g_L_isChanged 161 [.ref l0, .int l1, .int l2, .long l3, .null, .long l5, .null, .int l7, .null, .null, .null, .null, .null, .null] [] h (f_L_isChanged_161 l0 l1 l2 l3 l5 l7 h) := by
  unfold f_L_isChanged_161
  refine Sm.iconst dL_isChanged_161 ic_0 rfl ?_
  exact Sm.wk (t_L_isChanged_162 l0 l1 l2 l3 l5 l7 (0 : Int32) h) ⟨Or.inr rfl, Or.inr rfl, Or.inr rfl, Or.inr rfl, Or.inl rfl, Or.inr rfl, Or.inl rfl, Or.inr rfl, Or.inl rfl, Or.inl rfl, Or.inl rfl, Or.inl rfl, Or.inl rfl, Or.inl rfl, trivial⟩
def f_L_isChanged_141 (l0 : Nat) (l1 : Int32) (l2 : Int32) (l3 : Int64) (l5 : Int64) (l7 : Int32) (s0 : Int32) (h : Hp) : Option (Int32 × Hp) :=
  (if s0 = 0 then
(f_L_isChanged_161 l0 l1 l2 l3 l5 l7 h)
else
(bd (f_L_print l0 h) fun v59 h60 =>
(if (lg_cmp v59 l3) = 0 then
(f_L_isChanged_162 l0 l1 l2 l3 l5 l7 (1 : Int32) h60)
else
(f_L_isChanged_161 l0 l1 l2 l3 l5 l7 h60))))
set_option maxRecDepth 20000 in
theorem t_L_isChanged_141 (l0 : Nat) (l1 : Int32) (l2 : Int32) (l3 : Int64) (l5 : Int64) (l7 : Int32) (s0 : Int32) (h : Hp) : Sm rvI g_L_isChanged 141 [.ref l0, .int l1, .int l2, .long l3, .null, .long l5, .null, .int l7, .null, .null, .null, .null, .null, .null] [.int s0] h (f_L_isChanged_141 l0 l1 l2 l3 l5 l7 s0 h) := by
  unfold f_L_isChanged_141
  refine Sm.istore (lv' := [.ref l0, .int l1, .int l2, .long l3, .null, .long l5, .null, .int l7, .null, .null, .int s0, .null, .null, .null]) dL_isChanged_141 (Nat.le_of_ble_eq_true rfl) rfl rfl ?_
  refine Sm.iload dL_isChanged_143 rfl rfl ?_
  refine Sm.if_eq (t := 161) dL_isChanged_145 (by decide) rfl (fun b19 => ?_) (fun b19 => ?_)
  · exact Sm.wk (t_L_isChanged_161 l0 l1 l2 l3 l5 l7 h) ⟨Or.inr rfl, Or.inr rfl, Or.inr rfl, Or.inr rfl, Or.inl rfl, Or.inr rfl, Or.inl rfl, Or.inr rfl, Or.inl rfl, Or.inl rfl, Or.inl rfl, Or.inl rfl, Or.inl rfl, Or.inl rfl, trivial⟩
  · refine Sm.aload_n dL_isChanged_148 rfl rfl rfl ?_
    refine kc_L_50 dL_isChanged_149 rfl (Nat.le_of_ble_eq_true rfl) (Nat.le_of_ble_eq_true rfl) rfl (fun v59 h60 => ?_)
    refine Sm.lload_n dL_isChanged_152 rfl rfl rfl ?_
    refine Sm.lcmp dL_isChanged_153 rfl ?_
    refine Sm.if_ne (t := 161) dL_isChanged_154 (by decide) rfl (fun b61 => ?_) (fun b61 => ?_)
    · refine Sm.iconst dL_isChanged_157 ic_1 rfl ?_
      refine Sm.goto (t := 162) dL_isChanged_158 (by decide) ?_
      exact Sm.wk (t_L_isChanged_162 l0 l1 l2 l3 l5 l7 (1 : Int32) h60) ⟨Or.inr rfl, Or.inr rfl, Or.inr rfl, Or.inr rfl, Or.inl rfl, Or.inr rfl, Or.inl rfl, Or.inr rfl, Or.inl rfl, Or.inl rfl, Or.inl rfl, Or.inl rfl, Or.inl rfl, Or.inl rfl, trivial⟩
    · exact Sm.wk (t_L_isChanged_161 l0 l1 l2 l3 l5 l7 h60) ⟨Or.inr rfl, Or.inr rfl, Or.inr rfl, Or.inr rfl, Or.inl rfl, Or.inr rfl, Or.inl rfl, Or.inr rfl, Or.inl rfl, Or.inl rfl, Or.inl rfl, Or.inl rfl, Or.inl rfl, Or.inl rfl, trivial⟩
def f_L_isChanged_140 (l0 : Nat) (l1 : Int32) (l2 : Int32) (l3 : Int64) (l5 : Int64) (l7 : Int32) (h : Hp) : Option (Int32 × Hp) :=
  (f_L_isChanged_141 l0 l1 l2 l3 l5 l7 (0 : Int32) h)
set_option maxRecDepth 20000 in
theorem t_L_isChanged_140 (l0 : Nat) (l1 : Int32) (l2 : Int32) (l3 : Int64) (l5 : Int64) (l7 : Int32) (h : Hp) : Sm rvI g_L_isChanged 140 [.ref l0, .int l1, .int l2, .long l3, .null, .long l5, .null, .int l7, .null, .null, .null, .null, .null, .null] [] h (f_L_isChanged_140 l0 l1 l2 l3 l5 l7 h) := by
  unfold f_L_isChanged_140
  refine Sm.iconst dL_isChanged_140 ic_0 rfl ?_
  exact Sm.wk (t_L_isChanged_141 l0 l1 l2 l3 l5 l7 (0 : Int32) h) ⟨Or.inr rfl, Or.inr rfl, Or.inr rfl, Or.inr rfl, Or.inl rfl, Or.inr rfl, Or.inl rfl, Or.inr rfl, Or.inl rfl, Or.inl rfl, Or.inl rfl, Or.inl rfl, Or.inl rfl, Or.inl rfl, trivial⟩
def f_L_isChanged_125 (l0 : Nat) (l1 : Int32) (l2 : Int32) (l3 : Int64) (l5 : Int64) (l7 : Int32) (s0 : Int64) (s1 : Int64) (h : Hp) : Option (Int32 × Hp) :=
  (if (lg_cmp s0 s1) = 0 then
(ck h l0 9
(bd (f_X9_undo l0 h) fun v74 h75 =>
(if v74 < 0 then
(f_L_isChanged_140 l0 l1 l2 l3 l5 l7 h75)
else
(f_L_isChanged_141 l0 l1 l2 l3 l5 l7 (1 : Int32) h75))))
else
(f_L_isChanged_140 l0 l1 l2 l3 l5 l7 h))
set_option maxRecDepth 20000 in
theorem t_L_isChanged_125 (l0 : Nat) (l1 : Int32) (l2 : Int32) (l3 : Int64) (l5 : Int64) (l7 : Int32) (s0 : Int64) (s1 : Int64) (h : Hp) : Sm rvI g_L_isChanged 125 [.ref l0, .int l1, .int l2, .long l3, .null, .long l5, .null, .int l7, .null, .null, .null, .null, .null, .null] [.long s1, .long s0] h (f_L_isChanged_125 l0 l1 l2 l3 l5 l7 s0 s1 h) := by
  unfold f_L_isChanged_125
  refine Sm.lcmp dL_isChanged_125 rfl ?_
  refine Sm.if_ne (t := 140) dL_isChanged_126 (by decide) rfl (fun b72 => ?_) (fun b72 => ?_)
  · refine Sm.aload_n dL_isChanged_129 rfl rfl rfl ?_
    refine Sm.ck (fun o73 => ?_)
    refine kc_L_62 o73 dL_isChanged_130 rfl (Nat.le_of_ble_eq_true rfl) (Nat.le_of_ble_eq_true rfl) rfl (fun v74 h75 => ?_)
    refine Sm.if_lt (t := 140) dL_isChanged_133 (by decide) rfl (fun b76 => ?_) (fun b76 => ?_)
    · exact Sm.wk (t_L_isChanged_140 l0 l1 l2 l3 l5 l7 h75) ⟨Or.inr rfl, Or.inr rfl, Or.inr rfl, Or.inr rfl, Or.inl rfl, Or.inr rfl, Or.inl rfl, Or.inr rfl, Or.inl rfl, Or.inl rfl, Or.inl rfl, Or.inl rfl, Or.inl rfl, Or.inl rfl, trivial⟩
    · refine Sm.iconst dL_isChanged_136 ic_1 rfl ?_
      refine Sm.goto (t := 141) dL_isChanged_137 (by decide) ?_
      exact Sm.wk (t_L_isChanged_141 l0 l1 l2 l3 l5 l7 (1 : Int32) h75) ⟨Or.inr rfl, Or.inr rfl, Or.inr rfl, Or.inr rfl, Or.inl rfl, Or.inr rfl, Or.inl rfl, Or.inr rfl, Or.inl rfl, Or.inl rfl, Or.inl rfl, Or.inl rfl, Or.inl rfl, Or.inl rfl, trivial⟩
  · exact Sm.wk (t_L_isChanged_140 l0 l1 l2 l3 l5 l7 h) ⟨Or.inr rfl, Or.inr rfl, Or.inr rfl, Or.inr rfl, Or.inl rfl, Or.inr rfl, Or.inl rfl, Or.inr rfl, Or.inl rfl, Or.inl rfl, Or.inl rfl, Or.inl rfl, Or.inl rfl, Or.inl rfl, trivial⟩
def f_L_isChanged_36 (l0 : Nat) (l1 : Int32) (l2 : Int32) (l3 : Int64) (l5 : Int64) (l7 : Int32) (s0 : Int32) (h : Hp) : Option (Int32 × Hp) :=
  (ck h l0 9
(bd (f_X9_modify l0 (1 : Int32) l1 (3 : Int32) h) fun v15 h16 =>
(if s0 = 0 then
(if v15 = (-3 : Int32) then
(f_L_isChanged_141 l0 l1 l2 l3 l5 l7 (1 : Int32) h16)
else
(f_L_isChanged_141 l0 l1 l2 l3 l5 l7 (0 : Int32) h16))
else
(if l7 ≤ (60 : Int32) then
(if v15 = l7 then
(ck h16 l0 9
(bd (f_X9_isPredicate l0 (3 : Int32) h16) fun v65 h66 =>
(if v65 = (1 : Int32) then
(ck h66 l0 9
(bd (f_X9_outputs l0 (3 : Int32) l2 h66) fun v69 h70 =>
(if (lg_cmp l5 (0 : Int64)) = 0 then
(f_L_isChanged_125 l0 l1 l2 l3 l5 l7 v69 ((1 : Int64) <<< (l2.toInt64 &&& 63)) h70)
else
(f_L_isChanged_125 l0 l1 l2 l3 l5 l7 v69 (0 : Int64) h70))))
else
(f_L_isChanged_140 l0 l1 l2 l3 l5 l7 h66))))
else
(f_L_isChanged_140 l0 l1 l2 l3 l5 l7 h16))
else
(if v15 = (-4 : Int32) then
(f_L_isChanged_141 l0 l1 l2 l3 l5 l7 (1 : Int32) h16)
else
(f_L_isChanged_141 l0 l1 l2 l3 l5 l7 (0 : Int32) h16))))))
set_option maxRecDepth 20000 in
theorem t_L_isChanged_36 (l0 : Nat) (l1 : Int32) (l2 : Int32) (l3 : Int64) (l5 : Int64) (l7 : Int32) (s0 : Int32) (h : Hp) : Sm rvI g_L_isChanged 36 [.ref l0, .int l1, .int l2, .long l3, .null, .long l5, .null, .int l7, .null, .null, .null, .null, .null, .null] [.int s0] h (f_L_isChanged_36 l0 l1 l2 l3 l5 l7 s0 h) := by
  unfold f_L_isChanged_36
  refine Sm.istore (lv' := [.ref l0, .int l1, .int l2, .long l3, .null, .long l5, .null, .int l7, .int s0, .null, .null, .null, .null, .null]) dL_isChanged_36 (Nat.le_of_ble_eq_true rfl) rfl rfl ?_
  refine Sm.aload_n dL_isChanged_38 rfl rfl rfl ?_
  refine Sm.iconst dL_isChanged_39 ic_1 rfl ?_
  refine Sm.iload_n dL_isChanged_40 rfl rfl rfl ?_
  refine Sm.iconst dL_isChanged_41 ic_3 rfl ?_
  refine Sm.ck (fun o14 => ?_)
  refine kc_L_65 o14 dL_isChanged_42 rfl (Nat.le_of_ble_eq_true rfl) (Nat.le_of_ble_eq_true rfl) rfl (fun v15 h16 => ?_)
  refine Sm.istore (lv' := [.ref l0, .int l1, .int l2, .long l3, .null, .long l5, .null, .int l7, .int s0, .int v15, .null, .null, .null, .null]) dL_isChanged_45 (Nat.le_of_ble_eq_true rfl) rfl rfl ?_
  refine Sm.iload dL_isChanged_47 rfl rfl ?_
  refine Sm.if_ne (t := 67) dL_isChanged_49 (by decide) rfl (fun b17 => ?_) (fun b17 => ?_)
  · refine Sm.iload dL_isChanged_52 rfl rfl ?_
    refine Sm.bipush dL_isChanged_54 bp_m3 rfl ?_
    refine Sm.icmp_ne (t := 63) dL_isChanged_56 (by decide) rfl (fun b18 => ?_) (fun b18 => ?_)
    · refine Sm.iconst dL_isChanged_59 ic_1 rfl ?_
      refine Sm.goto (t := 141) dL_isChanged_60 (by decide) ?_
      exact Sm.wk (t_L_isChanged_141 l0 l1 l2 l3 l5 l7 (1 : Int32) h16) ⟨Or.inr rfl, Or.inr rfl, Or.inr rfl, Or.inr rfl, Or.inl rfl, Or.inr rfl, Or.inl rfl, Or.inr rfl, Or.inl rfl, Or.inl rfl, Or.inl rfl, Or.inl rfl, Or.inl rfl, Or.inl rfl, trivial⟩
    · refine Sm.iconst dL_isChanged_63 ic_0 rfl ?_
      refine Sm.goto (t := 141) dL_isChanged_64 (by decide) ?_
      exact Sm.wk (t_L_isChanged_141 l0 l1 l2 l3 l5 l7 (0 : Int32) h16) ⟨Or.inr rfl, Or.inr rfl, Or.inr rfl, Or.inr rfl, Or.inl rfl, Or.inr rfl, Or.inl rfl, Or.inr rfl, Or.inl rfl, Or.inl rfl, Or.inl rfl, Or.inl rfl, Or.inl rfl, Or.inl rfl, trivial⟩
  · refine Sm.iload dL_isChanged_67 rfl rfl ?_
    refine Sm.bipush dL_isChanged_69 bp_60 rfl ?_
    refine Sm.icmp_le (t := 89) dL_isChanged_71 (by decide) rfl (fun b62 => ?_) (fun b62 => ?_)
    · refine Sm.iload dL_isChanged_89 rfl rfl ?_
      refine Sm.iload dL_isChanged_91 rfl rfl ?_
      refine Sm.icmp_ne (t := 140) dL_isChanged_93 (by decide) rfl (fun b63 => ?_) (fun b63 => ?_)
      · refine Sm.aload_n dL_isChanged_96 rfl rfl rfl ?_
        refine Sm.iconst dL_isChanged_97 ic_3 rfl ?_
        refine Sm.ck (fun o64 => ?_)
        refine kc_L_43 o64 dL_isChanged_98 rfl (Nat.le_of_ble_eq_true rfl) (Nat.le_of_ble_eq_true rfl) rfl (fun v65 h66 => ?_)
        refine Sm.iconst dL_isChanged_101 ic_1 rfl ?_
        refine Sm.icmp_ne (t := 140) dL_isChanged_102 (by decide) rfl (fun b67 => ?_) (fun b67 => ?_)
        · refine Sm.aload_n dL_isChanged_105 rfl rfl rfl ?_
          refine Sm.iconst dL_isChanged_106 ic_3 rfl ?_
          refine Sm.iload_n dL_isChanged_107 rfl rfl rfl ?_
          refine Sm.ck (fun o68 => ?_)
          refine kc_L_54 o68 dL_isChanged_108 rfl (Nat.le_of_ble_eq_true rfl) (Nat.le_of_ble_eq_true rfl) rfl (fun v69 h70 => ?_)
          refine Sm.lload dL_isChanged_111 rfl rfl ?_
          refine Sm.lconst (v := (0 : Int64)) dL_isChanged_113 (by decide) rfl ?_
          refine Sm.lcmp dL_isChanged_114 rfl ?_
          refine Sm.if_ne (t := 124) dL_isChanged_115 (by decide) rfl (fun b71 => ?_) (fun b71 => ?_)
          · refine Sm.lconst (v := (1 : Int64)) dL_isChanged_118 (by decide) rfl ?_
            refine Sm.iload_n dL_isChanged_119 rfl rfl rfl ?_
            refine Sm.lshl dL_isChanged_120 rfl ?_
            refine Sm.goto (t := 125) dL_isChanged_121 (by decide) ?_
            exact Sm.wk (t_L_isChanged_125 l0 l1 l2 l3 l5 l7 v69 ((1 : Int64) <<< (l2.toInt64 &&& 63)) h70) ⟨Or.inr rfl, Or.inr rfl, Or.inr rfl, Or.inr rfl, Or.inl rfl, Or.inr rfl, Or.inl rfl, Or.inr rfl, Or.inl rfl, Or.inl rfl, Or.inl rfl, Or.inl rfl, Or.inl rfl, Or.inl rfl, trivial⟩
          · refine Sm.lconst (v := (0 : Int64)) dL_isChanged_124 (by decide) rfl ?_
            exact Sm.wk (t_L_isChanged_125 l0 l1 l2 l3 l5 l7 v69 (0 : Int64) h70) ⟨Or.inr rfl, Or.inr rfl, Or.inr rfl, Or.inr rfl, Or.inl rfl, Or.inr rfl, Or.inl rfl, Or.inr rfl, Or.inl rfl, Or.inl rfl, Or.inl rfl, Or.inl rfl, Or.inl rfl, Or.inl rfl, trivial⟩
        · exact Sm.wk (t_L_isChanged_140 l0 l1 l2 l3 l5 l7 h66) ⟨Or.inr rfl, Or.inr rfl, Or.inr rfl, Or.inr rfl, Or.inl rfl, Or.inr rfl, Or.inl rfl, Or.inr rfl, Or.inl rfl, Or.inl rfl, Or.inl rfl, Or.inl rfl, Or.inl rfl, Or.inl rfl, trivial⟩
      · exact Sm.wk (t_L_isChanged_140 l0 l1 l2 l3 l5 l7 h16) ⟨Or.inr rfl, Or.inr rfl, Or.inr rfl, Or.inr rfl, Or.inl rfl, Or.inr rfl, Or.inl rfl, Or.inr rfl, Or.inl rfl, Or.inl rfl, Or.inl rfl, Or.inl rfl, Or.inl rfl, Or.inl rfl, trivial⟩
    · refine Sm.iload dL_isChanged_74 rfl rfl ?_
      refine Sm.bipush dL_isChanged_76 bp_m4 rfl ?_
      refine Sm.icmp_ne (t := 85) dL_isChanged_78 (by decide) rfl (fun b77 => ?_) (fun b77 => ?_)
      · refine Sm.iconst dL_isChanged_81 ic_1 rfl ?_
        refine Sm.goto (t := 141) dL_isChanged_82 (by decide) ?_
        exact Sm.wk (t_L_isChanged_141 l0 l1 l2 l3 l5 l7 (1 : Int32) h16) ⟨Or.inr rfl, Or.inr rfl, Or.inr rfl, Or.inr rfl, Or.inl rfl, Or.inr rfl, Or.inl rfl, Or.inr rfl, Or.inl rfl, Or.inl rfl, Or.inl rfl, Or.inl rfl, Or.inl rfl, Or.inl rfl, trivial⟩
      · refine Sm.iconst dL_isChanged_85 ic_0 rfl ?_
        refine Sm.goto (t := 141) dL_isChanged_86 (by decide) ?_
        exact Sm.wk (t_L_isChanged_141 l0 l1 l2 l3 l5 l7 (0 : Int32) h16) ⟨Or.inr rfl, Or.inr rfl, Or.inr rfl, Or.inr rfl, Or.inl rfl, Or.inr rfl, Or.inl rfl, Or.inr rfl, Or.inl rfl, Or.inl rfl, Or.inl rfl, Or.inl rfl, Or.inl rfl, Or.inl rfl, trivial⟩
def f_L_isChanged (l0 : Nat) (l1 : Int32) (l2 : Int32) (h : Hp) : Option (Int32 × Hp) :=
  (bd (f_L_print l0 h) fun v1 h2 =>
(ck h2 l0 9
(bd (f_X9_outputs l0 l1 l2 h2) fun v4 h5 =>
(ck h5 l0 9
(bd (f_X9_size l0 l1 h5) fun v7 h8 =>
(nm (v7 + (1 : Int32)) fun v9 =>
(ck h8 l0 9
(bd (f_X9_isPredicate l0 l1 h8) fun v11 h12 =>
(if v11 = (1 : Int32) then
(f_L_isChanged_36 l0 l1 l2 v1 v4 v9 (1 : Int32) h12)
else
(f_L_isChanged_36 l0 l1 l2 v1 v4 v9 (0 : Int32) h12))))))))))
set_option maxRecDepth 20000 in
theorem t_L_isChanged (l0 : Nat) (l1 : Int32) (l2 : Int32) (h : Hp) : Sm rvI g_L_isChanged 0 (ent 14 [.ref l0, .int l1, .int l2]) [] h (f_L_isChanged l0 l1 l2 h) := by
  show Sm rvI g_L_isChanged 0 [.ref l0, .int l1, .int l2, .null, .null, .null, .null, .null, .null, .null, .null, .null, .null, .null] [] h _
  unfold f_L_isChanged
  refine Sm.aload_n dL_isChanged_0 rfl rfl rfl ?_
  refine kc_L_50 dL_isChanged_1 rfl (Nat.le_of_ble_eq_true rfl) (Nat.le_of_ble_eq_true rfl) rfl (fun v1 h2 => ?_)
  refine Sm.lstore_n (lv' := [.ref l0, .int l1, .int l2, .long v1, .null, .null, .null, .null, .null, .null, .null, .null, .null, .null]) dL_isChanged_4 rfl (Nat.le_of_ble_eq_true rfl) rfl rfl ?_
  refine Sm.aload_n dL_isChanged_5 rfl rfl rfl ?_
  refine Sm.iload_n dL_isChanged_6 rfl rfl rfl ?_
  refine Sm.iload_n dL_isChanged_7 rfl rfl rfl ?_
  refine Sm.ck (fun o3 => ?_)
  refine kc_L_54 o3 dL_isChanged_8 rfl (Nat.le_of_ble_eq_true rfl) (Nat.le_of_ble_eq_true rfl) rfl (fun v4 h5 => ?_)
  refine Sm.lstore (lv' := [.ref l0, .int l1, .int l2, .long v1, .null, .long v4, .null, .null, .null, .null, .null, .null, .null, .null]) dL_isChanged_11 (Nat.le_of_ble_eq_true rfl) rfl rfl ?_
  refine Sm.aload_n dL_isChanged_13 rfl rfl rfl ?_
  refine Sm.iload_n dL_isChanged_14 rfl rfl rfl ?_
  refine Sm.ck (fun o6 => ?_)
  refine kc_L_40 o6 dL_isChanged_15 rfl (Nat.le_of_ble_eq_true rfl) (Nat.le_of_ble_eq_true rfl) rfl (fun v7 h8 => ?_)
  refine Sm.iconst dL_isChanged_18 ic_1 rfl ?_
  refine Sm.iadd dL_isChanged_19 rfl ?_
  refine Sm.nm (LV := fun v9 => [.ref l0, .int l1, .int l2, .long v1, .null, .long v4, .null, .null, .null, .null, .null, .null, .null, .null]) (ST := fun v9 => [.int v9]) (fun v9 => ?_)
  refine Sm.istore (lv' := [.ref l0, .int l1, .int l2, .long v1, .null, .long v4, .null, .int v9, .null, .null, .null, .null, .null, .null]) dL_isChanged_20 (Nat.le_of_ble_eq_true rfl) rfl rfl ?_
  refine Sm.aload_n dL_isChanged_22 rfl rfl rfl ?_
  refine Sm.iload_n dL_isChanged_23 rfl rfl rfl ?_
  refine Sm.ck (fun o10 => ?_)
  refine kc_L_43 o10 dL_isChanged_24 rfl (Nat.le_of_ble_eq_true rfl) (Nat.le_of_ble_eq_true rfl) rfl (fun v11 h12 => ?_)
  refine Sm.iconst dL_isChanged_27 ic_1 rfl ?_
  refine Sm.icmp_ne (t := 35) dL_isChanged_28 (by decide) rfl (fun b13 => ?_) (fun b13 => ?_)
  · refine Sm.iconst dL_isChanged_31 ic_1 rfl ?_
    refine Sm.goto (t := 36) dL_isChanged_32 (by decide) ?_
    exact Sm.wk (t_L_isChanged_36 l0 l1 l2 v1 v4 v9 (1 : Int32) h12) ⟨Or.inr rfl, Or.inr rfl, Or.inr rfl, Or.inr rfl, Or.inl rfl, Or.inr rfl, Or.inl rfl, Or.inr rfl, Or.inl rfl, Or.inl rfl, Or.inl rfl, Or.inl rfl, Or.inl rfl, Or.inl rfl, trivial⟩
  · refine Sm.iconst dL_isChanged_35 ic_0 rfl ?_
    exact Sm.wk (t_L_isChanged_36 l0 l1 l2 v1 v4 v9 (0 : Int32) h12) ⟨Or.inr rfl, Or.inr rfl, Or.inr rfl, Or.inr rfl, Or.inl rfl, Or.inr rfl, Or.inl rfl, Or.inr rfl, Or.inl rfl, Or.inl rfl, Or.inl rfl, Or.inl rfl, Or.inl rfl, Or.inl rfl, trivial⟩
set_option maxRecDepth 20000 in
theorem kc_L_161 {ρ : Type} {rv : ρ → Option Value} {G : Gx} {pc q : Nat} {lv st : List Value} {h : Hp} {x0 : Nat} {x1 : Int32} {x2 : Int32} {e : Int32 → Hp → Option (ρ × Hp)} (d : decode G.2.1 pc = .ok (.invokestatic 161, 3)) (ho : G.1.cls = RL) (hdep : (g_L_isChanged).2.2.2.2 < G.2.2.2.2) (hcat : catS st ≤ 8) (hq : pc + 3 = q) (k : ∀ r h1, Sm rv G q lv (.int r :: st) h1 (e r h1)) : Sm rv G pc lv (.int x2 :: .int x1 :: .ref x0 :: st) h (bd (f_L_isChanged x0 x1 x2 h) e) :=
  Sm.callS (rv' := rvI) (as := [.ref x0, .int x1, .int x2]) (n := 3) (t_L_isChanged x0 x1 x2 h) ho mw_736 mw_737 mw_0 mw_738 ⟨⟨by decide, rfl, hdep, Nat.le_of_ble_eq_true rfl⟩, Nat.le_of_ble_eq_true rfl, rfl, ⟨by decide, by decide⟩, hcat⟩ (by decide +kernel) (by intro v hv; simp only [List.mem_cons, List.not_mem_nil, or_false] at hv; rcases hv with rfl | rfl | rfl <;> intro x hx <;> cases hx) d hq k rfl
abbrev g_L_isCompared : Gx := (yL_isCompared, cL_isCompared, 12, (Option.some FieldType.boolean), 13)
def f_L_isCompared_277 (l0 : Nat) (l1 : Int32) (l2 : Int32) (l7 : Int32) (h : Hp) : Option (Int32 × Hp) :=
  (if l7 = 0 then
(some ((0 : Int32), h))
else
(ck h l0 9
(bd (f_X9_compare l0 l1 l1 h) fun v32 h33 =>
(if v32 = 0 then
(ck h33 l0 9
(bd (f_X9_witness l0 l2 l2 h33) fun v36 h37 =>
(if v36 = (-1 : Int32) then
(some ((1 : Int32), h37))
else
(some ((0 : Int32), h37)))))
else
(some ((0 : Int32), h33))))))
set_option maxRecDepth 20000 in
theorem t_L_isCompared_277 (l0 : Nat) (l1 : Int32) (l2 : Int32) (l7 : Int32) (h : Hp) : Sm rvI g_L_isCompared 277 [.ref l0, .int l1, .int l2, .null, .null, .null, .null, .int l7, .null, .null, .null, .null] [] h (f_L_isCompared_277 l0 l1 l2 l7 h) := by
  unfold f_L_isCompared_277
  refine Sm.iload dL_isCompared_277 rfl rfl ?_
  refine Sm.if_eq (t := 305) dL_isCompared_279 (by decide) rfl (fun b30 => ?_) (fun b30 => ?_)
  · refine Sm.iconst dL_isCompared_305 ic_0 rfl ?_
    exact Sm.ret dL_isCompared_306 (Or.inl rfl) rfl
  · refine Sm.aload_n dL_isCompared_282 rfl rfl rfl ?_
    refine Sm.iload_n dL_isCompared_283 rfl rfl rfl ?_
    refine Sm.iload_n dL_isCompared_284 rfl rfl rfl ?_
    refine Sm.ck (fun o31 => ?_)
    refine kc_L_74 o31 dL_isCompared_285 rfl (Nat.le_of_ble_eq_true rfl) (Nat.le_of_ble_eq_true rfl) rfl (fun v32 h33 => ?_)
    refine Sm.if_ne (t := 305) dL_isCompared_288 (by decide) rfl (fun b34 => ?_) (fun b34 => ?_)
    · refine Sm.aload_n dL_isCompared_291 rfl rfl rfl ?_
      refine Sm.iload_n dL_isCompared_292 rfl rfl rfl ?_
      refine Sm.iload_n dL_isCompared_293 rfl rfl rfl ?_
      refine Sm.ck (fun o35 => ?_)
      refine kc_L_77 o35 dL_isCompared_294 rfl (Nat.le_of_ble_eq_true rfl) (Nat.le_of_ble_eq_true rfl) rfl (fun v36 h37 => ?_)
      refine Sm.iconst dL_isCompared_297 ic_m1 rfl ?_
      refine Sm.icmp_ne (t := 305) dL_isCompared_298 (by decide) rfl (fun b38 => ?_) (fun b38 => ?_)
      · refine Sm.iconst dL_isCompared_301 ic_1 rfl ?_
        refine Sm.goto (t := 306) dL_isCompared_302 (by decide) ?_
        exact Sm.ret dL_isCompared_306 (Or.inr rfl) rfl
      · refine Sm.iconst dL_isCompared_305 ic_0 rfl ?_
        exact Sm.ret dL_isCompared_306 (Or.inl rfl) rfl
    · refine Sm.iconst dL_isCompared_305 ic_0 rfl ?_
      exact Sm.ret dL_isCompared_306 (Or.inl rfl) rfl
def f_L_isCompared_275 (l0 : Nat) (l1 : Int32) (l2 : Int32) (s0 : Int32) (h : Hp) : Option (Int32 × Hp) :=
  (f_L_isCompared_277 l0 l1 l2 s0 h)
set_option maxRecDepth 20000 in
theorem t_L_isCompared_275 (l0 : Nat) (l1 : Int32) (l2 : Int32) (s0 : Int32) (h : Hp) : Sm rvI g_L_isCompared 275 [.ref l0, .int l1, .int l2, .null, .null, .null, .null, .null, .null, .null, .null, .null] [.int s0] h (f_L_isCompared_275 l0 l1 l2 s0 h) := by
  unfold f_L_isCompared_275
  refine Sm.istore (lv' := [.ref l0, .int l1, .int l2, .null, .null, .null, .null, .int s0, .null, .null, .null, .null]) dL_isCompared_275 (Nat.le_of_ble_eq_true rfl) rfl rfl ?_
  exact Sm.wk (t_L_isCompared_277 l0 l1 l2 s0 h) ⟨Or.inr rfl, Or.inr rfl, Or.inr rfl, Or.inl rfl, Or.inl rfl, Or.inl rfl, Or.inl rfl, Or.inr rfl, Or.inl rfl, Or.inl rfl, Or.inl rfl, Or.inl rfl, trivial⟩
def f_L_isCompared_274 (l0 : Nat) (l1 : Int32) (l2 : Int32) (h : Hp) : Option (Int32 × Hp) :=
  (f_L_isCompared_275 l0 l1 l2 (0 : Int32) h)
set_option maxRecDepth 20000 in
theorem t_L_isCompared_274 (l0 : Nat) (l1 : Int32) (l2 : Int32) (h : Hp) : Sm rvI g_L_isCompared 274 [.ref l0, .int l1, .int l2, .null, .null, .null, .null, .null, .null, .null, .null, .null] [] h (f_L_isCompared_274 l0 l1 l2 h) := by
  unfold f_L_isCompared_274
  refine Sm.iconst dL_isCompared_274 ic_0 rfl ?_
  exact Sm.wk (t_L_isCompared_275 l0 l1 l2 (0 : Int32) h) ⟨Or.inr rfl, Or.inr rfl, Or.inr rfl, Or.inl rfl, Or.inl rfl, Or.inl rfl, Or.inl rfl, Or.inl rfl, Or.inl rfl, Or.inl rfl, Or.inl rfl, Or.inl rfl, trivial⟩
def f_L_isCompared_270 (l0 : Nat) (l1 : Int32) (l2 : Int32) (h : Hp) : Option (Int32 × Hp) :=
  (f_L_isCompared_275 l0 l1 l2 (1 : Int32) h)
set_option maxRecDepth 20000 in
theorem t_L_isCompared_270 (l0 : Nat) (l1 : Int32) (l2 : Int32) (h : Hp) : Sm rvI g_L_isCompared 270 [.ref l0, .int l1, .int l2, .null, .null, .null, .null, .null, .null, .null, .null, .null] [] h (f_L_isCompared_270 l0 l1 l2 h) := by
  unfold f_L_isCompared_270
  refine Sm.iconst dL_isCompared_270 ic_1 rfl ?_
  refine Sm.goto (t := 275) dL_isCompared_271 (by decide) ?_
  exact Sm.wk (t_L_isCompared_275 l0 l1 l2 (1 : Int32) h) ⟨Or.inr rfl, Or.inr rfl, Or.inr rfl, Or.inl rfl, Or.inl rfl, Or.inl rfl, Or.inl rfl, Or.inl rfl, Or.inl rfl, Or.inl rfl, Or.inl rfl, Or.inl rfl, trivial⟩
def f_L_isCompared_243 (l0 : Nat) (l1 : Int32) (l2 : Int32) (l5 : Int32) (h : Hp) : Option (Int32 × Hp) :=
  (if l5 = 0 then
(f_L_isCompared_270 l0 l1 l2 h)
else
(ck h l0 9
(bd (f_X9_outputs l0 l1 (l5 - (1 : Int32)) h) fun v55 h56 =>
(ck h56 l0 9
(bd (f_X9_outputs l0 l2 (l5 - (1 : Int32)) h56) fun v58 h59 =>
(if (lg_cmp v55 v58) = 0 then
(f_L_isCompared_270 l0 l1 l2 h59)
else
(f_L_isCompared_274 l0 l1 l2 h59)))))))
set_option maxRecDepth 20000 in
theorem t_L_isCompared_243 (l0 : Nat) (l1 : Int32) (l2 : Int32) (l5 : Int32) (h : Hp) : Sm rvI g_L_isCompared 243 [.ref l0, .int l1, .int l2, .null, .null, .int l5, .null, .null, .null, .null, .null, .null] [] h (f_L_isCompared_243 l0 l1 l2 l5 h) := by
  unfold f_L_isCompared_243
  refine Sm.iload dL_isCompared_243 rfl rfl ?_
  refine Sm.if_eq (t := 270) dL_isCompared_245 (by decide) rfl (fun b53 => ?_) (fun b53 => ?_)
  · exact Sm.wk (t_L_isCompared_270 l0 l1 l2 h) ⟨Or.inr rfl, Or.inr rfl, Or.inr rfl, Or.inl rfl, Or.inl rfl, Or.inl rfl, Or.inl rfl, Or.inl rfl, Or.inl rfl, Or.inl rfl, Or.inl rfl, Or.inl rfl, trivial⟩
  · refine Sm.aload_n dL_isCompared_248 rfl rfl rfl ?_
    refine Sm.iload_n dL_isCompared_249 rfl rfl rfl ?_
    refine Sm.iload dL_isCompared_250 rfl rfl ?_
    refine Sm.iconst dL_isCompared_252 ic_1 rfl ?_
    refine Sm.isub dL_isCompared_253 rfl ?_
    refine Sm.ck (fun o54 => ?_)
    refine kc_L_54 o54 dL_isCompared_254 rfl (Nat.le_of_ble_eq_true rfl) (Nat.le_of_ble_eq_true rfl) rfl (fun v55 h56 => ?_)
    refine Sm.aload_n dL_isCompared_257 rfl rfl rfl ?_
    refine Sm.iload_n dL_isCompared_258 rfl rfl rfl ?_
    refine Sm.iload dL_isCompared_259 rfl rfl ?_
    refine Sm.iconst dL_isCompared_261 ic_1 rfl ?_
    refine Sm.isub dL_isCompared_262 rfl ?_
    refine Sm.ck (fun o57 => ?_)
    refine kc_L_54 o57 dL_isCompared_263 rfl (Nat.le_of_ble_eq_true rfl) (Nat.le_of_ble_eq_true rfl) rfl (fun v58 h59 => ?_)
    refine Sm.lcmp dL_isCompared_266 rfl ?_
    refine Sm.if_ne (t := 274) dL_isCompared_267 (by decide) rfl (fun b60 => ?_) (fun b60 => ?_)
    · exact Sm.wk (t_L_isCompared_270 l0 l1 l2 h59) ⟨Or.inr rfl, Or.inr rfl, Or.inr rfl, Or.inl rfl, Or.inl rfl, Or.inl rfl, Or.inl rfl, Or.inl rfl, Or.inl rfl, Or.inl rfl, Or.inl rfl, Or.inl rfl, trivial⟩
    · exact Sm.wk (t_L_isCompared_274 l0 l1 l2 h59) ⟨Or.inr rfl, Or.inr rfl, Or.inr rfl, Or.inl rfl, Or.inl rfl, Or.inl rfl, Or.inl rfl, Or.inl rfl, Or.inl rfl, Or.inl rfl, Or.inl rfl, Or.inl rfl, trivial⟩
def f_L_isCompared_224 (l0 : Nat) (l1 : Int32) (l2 : Int32) (l3 : Int32) (l5 : Int32) (l8 : Int64) (l10 : Int64) (h : Hp) : Option (Int32 × Hp) :=
  (if l3 = (2 : Int32) then
(if (lg_cmp (l10 &&& (l8 ^^^ (-1 : Int64))) (0 : Int64)) = 0 then
(f_L_isCompared_243 l0 l1 l2 l5 h)
else
(f_L_isCompared_274 l0 l1 l2 h))
else
(f_L_isCompared_243 l0 l1 l2 l5 h))
set_option maxRecDepth 20000 in
theorem t_L_isCompared_224 (l0 : Nat) (l1 : Int32) (l2 : Int32) (l3 : Int32) (l5 : Int32) (l8 : Int64) (l10 : Int64) (h : Hp) : Sm rvI g_L_isCompared 224 [.ref l0, .int l1, .int l2, .int l3, .null, .int l5, .null, .null, .long l8, .null, .long l10, .null] [] h (f_L_isCompared_224 l0 l1 l2 l3 l5 l8 l10 h) := by
  unfold f_L_isCompared_224
  refine Sm.iload_n dL_isCompared_224 rfl rfl rfl ?_
  refine Sm.iconst dL_isCompared_225 ic_2 rfl ?_
  refine Sm.icmp_ne (t := 243) dL_isCompared_226 (by decide) rfl (fun b51 => ?_) (fun b51 => ?_)
  · refine Sm.lload dL_isCompared_229 rfl rfl ?_
    refine Sm.lload dL_isCompared_231 rfl rfl ?_
    refine Sm.ldc2 dL_isCompared_233 mw_739 rfl ?_
    refine Sm.lxor dL_isCompared_236 rfl ?_
    refine Sm.land dL_isCompared_237 rfl ?_
    refine Sm.lconst (v := (0 : Int64)) dL_isCompared_238 (by decide) rfl ?_
    refine Sm.lcmp dL_isCompared_239 rfl ?_
    refine Sm.if_ne (t := 274) dL_isCompared_240 (by decide) rfl (fun b52 => ?_) (fun b52 => ?_)
    · exact Sm.wk (t_L_isCompared_243 l0 l1 l2 l5 h) ⟨Or.inr rfl, Or.inr rfl, Or.inr rfl, Or.inl rfl, Or.inl rfl, Or.inr rfl, Or.inl rfl, Or.inl rfl, Or.inl rfl, Or.inl rfl, Or.inl rfl, Or.inl rfl, trivial⟩
    · exact Sm.wk (t_L_isCompared_274 l0 l1 l2 h) ⟨Or.inr rfl, Or.inr rfl, Or.inr rfl, Or.inl rfl, Or.inl rfl, Or.inl rfl, Or.inl rfl, Or.inl rfl, Or.inl rfl, Or.inl rfl, Or.inl rfl, Or.inl rfl, trivial⟩
  · exact Sm.wk (t_L_isCompared_243 l0 l1 l2 l5 h) ⟨Or.inr rfl, Or.inr rfl, Or.inr rfl, Or.inl rfl, Or.inl rfl, Or.inr rfl, Or.inl rfl, Or.inl rfl, Or.inl rfl, Or.inl rfl, Or.inl rfl, Or.inl rfl, trivial⟩
def f_L_isCompared_205 (l0 : Nat) (l1 : Int32) (l2 : Int32) (l3 : Int32) (l5 : Int32) (l8 : Int64) (l10 : Int64) (h : Hp) : Option (Int32 × Hp) :=
  (if l3 = (1 : Int32) then
(if (lg_cmp (l8 &&& (l10 ^^^ (-1 : Int64))) (0 : Int64)) = 0 then
(f_L_isCompared_224 l0 l1 l2 l3 l5 l8 l10 h)
else
(f_L_isCompared_274 l0 l1 l2 h))
else
(f_L_isCompared_224 l0 l1 l2 l3 l5 l8 l10 h))
set_option maxRecDepth 20000 in
theorem t_L_isCompared_205 (l0 : Nat) (l1 : Int32) (l2 : Int32) (l3 : Int32) (l5 : Int32) (l8 : Int64) (l10 : Int64) (h : Hp) : Sm rvI g_L_isCompared 205 [.ref l0, .int l1, .int l2, .int l3, .null, .int l5, .null, .null, .long l8, .null, .long l10, .null] [] h (f_L_isCompared_205 l0 l1 l2 l3 l5 l8 l10 h) := by
  unfold f_L_isCompared_205
  refine Sm.iload_n dL_isCompared_205 rfl rfl rfl ?_
  refine Sm.iconst dL_isCompared_206 ic_1 rfl ?_
  refine Sm.icmp_ne (t := 224) dL_isCompared_207 (by decide) rfl (fun b49 => ?_) (fun b49 => ?_)
  · refine Sm.lload dL_isCompared_210 rfl rfl ?_
    refine Sm.lload dL_isCompared_212 rfl rfl ?_
    refine Sm.ldc2 dL_isCompared_214 mw_739 rfl ?_
    refine Sm.lxor dL_isCompared_217 rfl ?_
    refine Sm.land dL_isCompared_218 rfl ?_
    refine Sm.lconst (v := (0 : Int64)) dL_isCompared_219 (by decide) rfl ?_
    refine Sm.lcmp dL_isCompared_220 rfl ?_
    refine Sm.if_ne (t := 274) dL_isCompared_221 (by decide) rfl (fun b50 => ?_) (fun b50 => ?_)
    · exact Sm.wk (t_L_isCompared_224 l0 l1 l2 l3 l5 l8 l10 h) ⟨Or.inr rfl, Or.inr rfl, Or.inr rfl, Or.inr rfl, Or.inl rfl, Or.inr rfl, Or.inl rfl, Or.inl rfl, Or.inr rfl, Or.inl rfl, Or.inr rfl, Or.inl rfl, trivial⟩
    · exact Sm.wk (t_L_isCompared_274 l0 l1 l2 h) ⟨Or.inr rfl, Or.inr rfl, Or.inr rfl, Or.inl rfl, Or.inl rfl, Or.inl rfl, Or.inl rfl, Or.inl rfl, Or.inl rfl, Or.inl rfl, Or.inl rfl, Or.inl rfl, trivial⟩
  · exact Sm.wk (t_L_isCompared_224 l0 l1 l2 l3 l5 l8 l10 h) ⟨Or.inr rfl, Or.inr rfl, Or.inr rfl, Or.inr rfl, Or.inl rfl, Or.inr rfl, Or.inl rfl, Or.inl rfl, Or.inr rfl, Or.inl rfl, Or.inr rfl, Or.inl rfl, trivial⟩
def f_L_isCompared_130 (l0 : Nat) (l1 : Int32) (l2 : Int32) (l3 : Int32) (l5 : Int32) (l6 : Int32) (s0 : Int32) (h : Hp) : Option (Int32 × Hp) :=
  (if s0 = 0 then
(f_L_isCompared_277 l0 l1 l2 s0 h)
else
(if l5 < 0 then
(f_L_isCompared_277 l0 l1 l2 s0 h)
else
(ck h l0 9
(bd (f_X9_outputs l0 l1 l5 h) fun v41 h42 =>
(ck h42 l0 9
(bd (f_X9_outputs l0 l2 l5 h42) fun v44 h45 =>
(if (lg_cmp v41 v44) = 0 then
(f_L_isCompared_274 l0 l1 l2 h45)
else
(if (lg_cmp (((v41 ^^^ v44) >>> (l6.toInt64 &&& 63)) &&& (1 : Int64)) (1 : Int64)) = 0 then
(if l6 = 0 then
(f_L_isCompared_205 l0 l1 l2 l3 l5 v41 v44 h45)
else
(if (lg_cmp ((v41 ^^^ v44) &&& (((1 : Int64) <<< (l6.toInt64 &&& 63)) - (1 : Int64))) (0 : Int64)) = 0 then
(f_L_isCompared_205 l0 l1 l2 l3 l5 v41 v44 h45)
else
(f_L_isCompared_274 l0 l1 l2 h45)))
else
(f_L_isCompared_274 l0 l1 l2 h45)))))))))
set_option maxRecDepth 20000 in
theorem t_L_isCompared_130 (l0 : Nat) (l1 : Int32) (l2 : Int32) (l3 : Int32) (l5 : Int32) (l6 : Int32) (s0 : Int32) (h : Hp) : Sm rvI g_L_isCompared 130 [.ref l0, .int l1, .int l2, .int l3, .null, .int l5, .int l6, .null, .null, .null, .null, .null] [.int s0] h (f_L_isCompared_130 l0 l1 l2 l3 l5 l6 s0 h) := by
  unfold f_L_isCompared_130
  refine Sm.istore (lv' := [.ref l0, .int l1, .int l2, .int l3, .null, .int l5, .int l6, .int s0, .null, .null, .null, .null]) dL_isCompared_130 (Nat.le_of_ble_eq_true rfl) rfl rfl ?_
  refine Sm.iload dL_isCompared_132 rfl rfl ?_
  refine Sm.if_eq (t := 277) dL_isCompared_134 (by decide) rfl (fun b29 => ?_) (fun b29 => ?_)
  · exact Sm.wk (t_L_isCompared_277 l0 l1 l2 s0 h) ⟨Or.inr rfl, Or.inr rfl, Or.inr rfl, Or.inl rfl, Or.inl rfl, Or.inl rfl, Or.inl rfl, Or.inr rfl, Or.inl rfl, Or.inl rfl, Or.inl rfl, Or.inl rfl, trivial⟩
  · refine Sm.iload dL_isCompared_137 rfl rfl ?_
    refine Sm.if_lt (t := 277) dL_isCompared_139 (by decide) rfl (fun b39 => ?_) (fun b39 => ?_)
    · exact Sm.wk (t_L_isCompared_277 l0 l1 l2 s0 h) ⟨Or.inr rfl, Or.inr rfl, Or.inr rfl, Or.inl rfl, Or.inl rfl, Or.inl rfl, Or.inl rfl, Or.inr rfl, Or.inl rfl, Or.inl rfl, Or.inl rfl, Or.inl rfl, trivial⟩
    · refine Sm.aload_n dL_isCompared_142 rfl rfl rfl ?_
      refine Sm.iload_n dL_isCompared_143 rfl rfl rfl ?_
      refine Sm.iload dL_isCompared_144 rfl rfl ?_
      refine Sm.ck (fun o40 => ?_)
      refine kc_L_54 o40 dL_isCompared_146 rfl (Nat.le_of_ble_eq_true rfl) (Nat.le_of_ble_eq_true rfl) rfl (fun v41 h42 => ?_)
      refine Sm.lstore (lv' := [.ref l0, .int l1, .int l2, .int l3, .null, .int l5, .int l6, .int s0, .long v41, .null, .null, .null]) dL_isCompared_149 (Nat.le_of_ble_eq_true rfl) rfl rfl ?_
      refine Sm.aload_n dL_isCompared_151 rfl rfl rfl ?_
      refine Sm.iload_n dL_isCompared_152 rfl rfl rfl ?_
      refine Sm.iload dL_isCompared_153 rfl rfl ?_
      refine Sm.ck (fun o43 => ?_)
      refine kc_L_54 o43 dL_isCompared_155 rfl (Nat.le_of_ble_eq_true rfl) (Nat.le_of_ble_eq_true rfl) rfl (fun v44 h45 => ?_)
      refine Sm.lstore (lv' := [.ref l0, .int l1, .int l2, .int l3, .null, .int l5, .int l6, .int s0, .long v41, .null, .long v44, .null]) dL_isCompared_158 (Nat.le_of_ble_eq_true rfl) rfl rfl ?_
      refine Sm.lload dL_isCompared_160 rfl rfl ?_
      refine Sm.lload dL_isCompared_162 rfl rfl ?_
      refine Sm.lcmp dL_isCompared_164 rfl ?_
      refine Sm.if_eq (t := 274) dL_isCompared_165 (by decide) rfl (fun b46 => ?_) (fun b46 => ?_)
      · exact Sm.wk (t_L_isCompared_274 l0 l1 l2 h45) ⟨Or.inr rfl, Or.inr rfl, Or.inr rfl, Or.inl rfl, Or.inl rfl, Or.inl rfl, Or.inl rfl, Or.inl rfl, Or.inl rfl, Or.inl rfl, Or.inl rfl, Or.inl rfl, trivial⟩
      · refine Sm.lload dL_isCompared_168 rfl rfl ?_
        refine Sm.lload dL_isCompared_170 rfl rfl ?_
        refine Sm.lxor dL_isCompared_172 rfl ?_
        refine Sm.iload dL_isCompared_173 rfl rfl ?_
        refine Sm.lshr dL_isCompared_175 rfl ?_
        refine Sm.lconst (v := (1 : Int64)) dL_isCompared_176 (by decide) rfl ?_
        refine Sm.land dL_isCompared_177 rfl ?_
        refine Sm.lconst (v := (1 : Int64)) dL_isCompared_178 (by decide) rfl ?_
        refine Sm.lcmp dL_isCompared_179 rfl ?_
        refine Sm.if_ne (t := 274) dL_isCompared_180 (by decide) rfl (fun b47 => ?_) (fun b47 => ?_)
        · refine Sm.iload dL_isCompared_183 rfl rfl ?_
          refine Sm.if_eq (t := 205) dL_isCompared_185 (by decide) rfl (fun b48 => ?_) (fun b48 => ?_)
          · exact Sm.wk (t_L_isCompared_205 l0 l1 l2 l3 l5 v41 v44 h45) ⟨Or.inr rfl, Or.inr rfl, Or.inr rfl, Or.inr rfl, Or.inl rfl, Or.inr rfl, Or.inl rfl, Or.inl rfl, Or.inr rfl, Or.inl rfl, Or.inr rfl, Or.inl rfl, trivial⟩
          · refine Sm.lload dL_isCompared_188 rfl rfl ?_
            refine Sm.lload dL_isCompared_190 rfl rfl ?_
            refine Sm.lxor dL_isCompared_192 rfl ?_
            refine Sm.lconst (v := (1 : Int64)) dL_isCompared_193 (by decide) rfl ?_
            refine Sm.iload dL_isCompared_194 rfl rfl ?_
            refine Sm.lshl dL_isCompared_196 rfl ?_
            refine Sm.lconst (v := (1 : Int64)) dL_isCompared_197 (by decide) rfl ?_
            refine Sm.lsub dL_isCompared_198 rfl ?_
            refine Sm.land dL_isCompared_199 rfl ?_
            refine Sm.lconst (v := (0 : Int64)) dL_isCompared_200 (by decide) rfl ?_
            refine Sm.lcmp dL_isCompared_201 rfl ?_
            refine Sm.if_ne (t := 274) dL_isCompared_202 (by decide) rfl (fun b61 => ?_) (fun b61 => ?_)
            · exact Sm.wk (t_L_isCompared_205 l0 l1 l2 l3 l5 v41 v44 h45) ⟨Or.inr rfl, Or.inr rfl, Or.inr rfl, Or.inr rfl, Or.inl rfl, Or.inr rfl, Or.inl rfl, Or.inl rfl, Or.inr rfl, Or.inl rfl, Or.inr rfl, Or.inl rfl, trivial⟩
            · exact Sm.wk (t_L_isCompared_274 l0 l1 l2 h45) ⟨Or.inr rfl, Or.inr rfl, Or.inr rfl, Or.inl rfl, Or.inl rfl, Or.inl rfl, Or.inl rfl, Or.inl rfl, Or.inl rfl, Or.inl rfl, Or.inl rfl, Or.inl rfl, trivial⟩
        · exact Sm.wk (t_L_isCompared_274 l0 l1 l2 h45) ⟨Or.inr rfl, Or.inr rfl, Or.inr rfl, Or.inl rfl, Or.inl rfl, Or.inl rfl, Or.inl rfl, Or.inl rfl, Or.inl rfl, Or.inl rfl, Or.inl rfl, Or.inl rfl, trivial⟩
def f_L_isCompared_129 (l0 : Nat) (l1 : Int32) (l2 : Int32) (l3 : Int32) (l5 : Int32) (l6 : Int32) (h : Hp) : Option (Int32 × Hp) :=
  (f_L_isCompared_130 l0 l1 l2 l3 l5 l6 (0 : Int32) h)
set_option maxRecDepth 20000 in
theorem t_L_isCompared_129 (l0 : Nat) (l1 : Int32) (l2 : Int32) (l3 : Int32) (l5 : Int32) (l6 : Int32) (h : Hp) : Sm rvI g_L_isCompared 129 [.ref l0, .int l1, .int l2, .int l3, .null, .int l5, .int l6, .null, .null, .null, .null, .null] [] h (f_L_isCompared_129 l0 l1 l2 l3 l5 l6 h) := by
  unfold f_L_isCompared_129
  refine Sm.iconst dL_isCompared_129 ic_0 rfl ?_
  exact Sm.wk (t_L_isCompared_130 l0 l1 l2 l3 l5 l6 (0 : Int32) h) ⟨Or.inr rfl, Or.inr rfl, Or.inr rfl, Or.inr rfl, Or.inl rfl, Or.inr rfl, Or.inr rfl, Or.inl rfl, Or.inl rfl, Or.inl rfl, Or.inl rfl, Or.inl rfl, trivial⟩
def f_L_isCompared_122 (l0 : Nat) (l1 : Int32) (l2 : Int32) (l3 : Int32) (l5 : Int32) (l6 : Int32) (s0 : Int32) (s1 : Int32) (h : Hp) : Option (Int32 × Hp) :=
  (if s0 = s1 then
(f_L_isCompared_130 l0 l1 l2 l3 l5 l6 (1 : Int32) h)
else
(f_L_isCompared_129 l0 l1 l2 l3 l5 l6 h))
set_option maxRecDepth 20000 in
theorem t_L_isCompared_122 (l0 : Nat) (l1 : Int32) (l2 : Int32) (l3 : Int32) (l5 : Int32) (l6 : Int32) (s0 : Int32) (s1 : Int32) (h : Hp) : Sm rvI g_L_isCompared 122 [.ref l0, .int l1, .int l2, .int l3, .null, .int l5, .int l6, .null, .null, .null, .null, .null] [.int s1, .int s0] h (f_L_isCompared_122 l0 l1 l2 l3 l5 l6 s0 s1 h) := by
  unfold f_L_isCompared_122
  refine Sm.icmp_ne (t := 129) dL_isCompared_122 (by decide) rfl (fun b28 => ?_) (fun b28 => ?_)
  · refine Sm.iconst dL_isCompared_125 ic_1 rfl ?_
    refine Sm.goto (t := 130) dL_isCompared_126 (by decide) ?_
    exact Sm.wk (t_L_isCompared_130 l0 l1 l2 l3 l5 l6 (1 : Int32) h) ⟨Or.inr rfl, Or.inr rfl, Or.inr rfl, Or.inr rfl, Or.inl rfl, Or.inr rfl, Or.inr rfl, Or.inl rfl, Or.inl rfl, Or.inl rfl, Or.inl rfl, Or.inl rfl, trivial⟩
  · exact Sm.wk (t_L_isCompared_129 l0 l1 l2 l3 l5 l6 h) ⟨Or.inr rfl, Or.inr rfl, Or.inr rfl, Or.inr rfl, Or.inl rfl, Or.inr rfl, Or.inr rfl, Or.inl rfl, Or.inl rfl, Or.inl rfl, Or.inl rfl, Or.inl rfl, trivial⟩
def f_L_isCompared_111 (l0 : Nat) (l1 : Int32) (l2 : Int32) (l3 : Int32) (l5 : Int32) (l6 : Int32) (s0 : Int32) (h : Hp) : Option (Int32 × Hp) :=
  (if l6 = (-1 : Int32) then
(f_L_isCompared_122 l0 l1 l2 l3 l5 l6 s0 (1 : Int32) h)
else
(f_L_isCompared_122 l0 l1 l2 l3 l5 l6 s0 (0 : Int32) h))
set_option maxRecDepth 20000 in
theorem t_L_isCompared_111 (l0 : Nat) (l1 : Int32) (l2 : Int32) (l3 : Int32) (l5 : Int32) (l6 : Int32) (s0 : Int32) (h : Hp) : Sm rvI g_L_isCompared 111 [.ref l0, .int l1, .int l2, .int l3, .null, .int l5, .int l6, .null, .null, .null, .null, .null] [.int s0] h (f_L_isCompared_111 l0 l1 l2 l3 l5 l6 s0 h) := by
  unfold f_L_isCompared_111
  refine Sm.iload dL_isCompared_111 rfl rfl ?_
  refine Sm.iconst dL_isCompared_113 ic_m1 rfl ?_
  refine Sm.icmp_ne (t := 121) dL_isCompared_114 (by decide) rfl (fun b27 => ?_) (fun b27 => ?_)
  · refine Sm.iconst dL_isCompared_117 ic_1 rfl ?_
    refine Sm.goto (t := 122) dL_isCompared_118 (by decide) ?_
    exact Sm.wk (t_L_isCompared_122 l0 l1 l2 l3 l5 l6 s0 (1 : Int32) h) ⟨Or.inr rfl, Or.inr rfl, Or.inr rfl, Or.inr rfl, Or.inl rfl, Or.inr rfl, Or.inr rfl, Or.inl rfl, Or.inl rfl, Or.inl rfl, Or.inl rfl, Or.inl rfl, trivial⟩
  · refine Sm.iconst dL_isCompared_121 ic_0 rfl ?_
    exact Sm.wk (t_L_isCompared_122 l0 l1 l2 l3 l5 l6 s0 (0 : Int32) h) ⟨Or.inr rfl, Or.inr rfl, Or.inr rfl, Or.inr rfl, Or.inl rfl, Or.inr rfl, Or.inr rfl, Or.inl rfl, Or.inl rfl, Or.inl rfl, Or.inl rfl, Or.inl rfl, trivial⟩
def f_L_isCompared_97 (l0 : Nat) (l1 : Int32) (l2 : Int32) (l3 : Int32) (l5 : Int32) (l6 : Int32) (s0 : Int32) (s1 : Int32) (h : Hp) : Option (Int32 × Hp) :=
  (if s0 = s1 then
(if l5 = (-1 : Int32) then
(f_L_isCompared_111 l0 l1 l2 l3 l5 l6 (1 : Int32) h)
else
(f_L_isCompared_111 l0 l1 l2 l3 l5 l6 (0 : Int32) h))
else
(f_L_isCompared_129 l0 l1 l2 l3 l5 l6 h))
set_option maxRecDepth 20000 in
theorem t_L_isCompared_97 (l0 : Nat) (l1 : Int32) (l2 : Int32) (l3 : Int32) (l5 : Int32) (l6 : Int32) (s0 : Int32) (s1 : Int32) (h : Hp) : Sm rvI g_L_isCompared 97 [.ref l0, .int l1, .int l2, .int l3, .null, .int l5, .int l6, .null, .null, .null, .null, .null] [.int s1, .int s0] h (f_L_isCompared_97 l0 l1 l2 l3 l5 l6 s0 s1 h) := by
  unfold f_L_isCompared_97
  refine Sm.icmp_ne (t := 129) dL_isCompared_97 (by decide) rfl (fun b25 => ?_) (fun b25 => ?_)
  · refine Sm.iload dL_isCompared_100 rfl rfl ?_
    refine Sm.iconst dL_isCompared_102 ic_m1 rfl ?_
    refine Sm.icmp_ne (t := 110) dL_isCompared_103 (by decide) rfl (fun b26 => ?_) (fun b26 => ?_)
    · refine Sm.iconst dL_isCompared_106 ic_1 rfl ?_
      refine Sm.goto (t := 111) dL_isCompared_107 (by decide) ?_
      exact Sm.wk (t_L_isCompared_111 l0 l1 l2 l3 l5 l6 (1 : Int32) h) ⟨Or.inr rfl, Or.inr rfl, Or.inr rfl, Or.inr rfl, Or.inl rfl, Or.inr rfl, Or.inr rfl, Or.inl rfl, Or.inl rfl, Or.inl rfl, Or.inl rfl, Or.inl rfl, trivial⟩
    · refine Sm.iconst dL_isCompared_110 ic_0 rfl ?_
      exact Sm.wk (t_L_isCompared_111 l0 l1 l2 l3 l5 l6 (0 : Int32) h) ⟨Or.inr rfl, Or.inr rfl, Or.inr rfl, Or.inr rfl, Or.inl rfl, Or.inr rfl, Or.inr rfl, Or.inl rfl, Or.inl rfl, Or.inl rfl, Or.inl rfl, Or.inl rfl, trivial⟩
  · exact Sm.wk (t_L_isCompared_129 l0 l1 l2 l3 l5 l6 h) ⟨Or.inr rfl, Or.inr rfl, Or.inr rfl, Or.inr rfl, Or.inl rfl, Or.inr rfl, Or.inr rfl, Or.inl rfl, Or.inl rfl, Or.inl rfl, Or.inl rfl, Or.inl rfl, trivial⟩
def f_L_isCompared_86 (l0 : Nat) (l1 : Int32) (l2 : Int32) (l3 : Int32) (l5 : Int32) (l6 : Int32) (s0 : Int32) (h : Hp) : Option (Int32 × Hp) :=
  (if l5 = (-1 : Int32) then
(f_L_isCompared_97 l0 l1 l2 l3 l5 l6 s0 (1 : Int32) h)
else
(f_L_isCompared_97 l0 l1 l2 l3 l5 l6 s0 (0 : Int32) h))
set_option maxRecDepth 20000 in
theorem t_L_isCompared_86 (l0 : Nat) (l1 : Int32) (l2 : Int32) (l3 : Int32) (l5 : Int32) (l6 : Int32) (s0 : Int32) (h : Hp) : Sm rvI g_L_isCompared 86 [.ref l0, .int l1, .int l2, .int l3, .null, .int l5, .int l6, .null, .null, .null, .null, .null] [.int s0] h (f_L_isCompared_86 l0 l1 l2 l3 l5 l6 s0 h) := by
  unfold f_L_isCompared_86
  refine Sm.iload dL_isCompared_86 rfl rfl ?_
  refine Sm.iconst dL_isCompared_88 ic_m1 rfl ?_
  refine Sm.icmp_ne (t := 96) dL_isCompared_89 (by decide) rfl (fun b24 => ?_) (fun b24 => ?_)
  · refine Sm.iconst dL_isCompared_92 ic_1 rfl ?_
    refine Sm.goto (t := 97) dL_isCompared_93 (by decide) ?_
    exact Sm.wk (t_L_isCompared_97 l0 l1 l2 l3 l5 l6 s0 (1 : Int32) h) ⟨Or.inr rfl, Or.inr rfl, Or.inr rfl, Or.inr rfl, Or.inl rfl, Or.inr rfl, Or.inr rfl, Or.inl rfl, Or.inl rfl, Or.inl rfl, Or.inl rfl, Or.inl rfl, trivial⟩
  · refine Sm.iconst dL_isCompared_96 ic_0 rfl ?_
    exact Sm.wk (t_L_isCompared_97 l0 l1 l2 l3 l5 l6 s0 (0 : Int32) h) ⟨Or.inr rfl, Or.inr rfl, Or.inr rfl, Or.inr rfl, Or.inl rfl, Or.inr rfl, Or.inr rfl, Or.inl rfl, Or.inl rfl, Or.inl rfl, Or.inl rfl, Or.inl rfl, trivial⟩
def f_L_isCompared_52 (l0 : Nat) (l1 : Int32) (l2 : Int32) (l3 : Int32) (l5 : Int32) (l6 : Int32) (s0 : Int32) (s1 : Int32) (h : Hp) : Option (Int32 × Hp) :=
  (if s0 = s1 then
(ck h l0 9
(bd (f_X9_witness l0 l2 l1 h) fun v16 h17 =>
(if v16 = l5 then
(ck h17 l0 9
(bd (f_X9_difference l0 l2 l1 h17) fun v20 h21 =>
(if v20 = l6 then
(if l3 = 0 then
(f_L_isCompared_86 l0 l1 l2 l3 l5 l6 (1 : Int32) h21)
else
(f_L_isCompared_86 l0 l1 l2 l3 l5 l6 (0 : Int32) h21))
else
(f_L_isCompared_129 l0 l1 l2 l3 l5 l6 h21))))
else
(f_L_isCompared_129 l0 l1 l2 l3 l5 l6 h17))))
else
(f_L_isCompared_129 l0 l1 l2 l3 l5 l6 h))
set_option maxRecDepth 20000 in
theorem t_L_isCompared_52 (l0 : Nat) (l1 : Int32) (l2 : Int32) (l3 : Int32) (l5 : Int32) (l6 : Int32) (s0 : Int32) (s1 : Int32) (h : Hp) : Sm rvI g_L_isCompared 52 [.ref l0, .int l1, .int l2, .int l3, .null, .int l5, .int l6, .null, .null, .null, .null, .null] [.int s1, .int s0] h (f_L_isCompared_52 l0 l1 l2 l3 l5 l6 s0 s1 h) := by
  unfold f_L_isCompared_52
  refine Sm.icmp_ne (t := 129) dL_isCompared_52 (by decide) rfl (fun b14 => ?_) (fun b14 => ?_)
  · refine Sm.aload_n dL_isCompared_55 rfl rfl rfl ?_
    refine Sm.iload_n dL_isCompared_56 rfl rfl rfl ?_
    refine Sm.iload_n dL_isCompared_57 rfl rfl rfl ?_
    refine Sm.ck (fun o15 => ?_)
    refine kc_L_77 o15 dL_isCompared_58 rfl (Nat.le_of_ble_eq_true rfl) (Nat.le_of_ble_eq_true rfl) rfl (fun v16 h17 => ?_)
    refine Sm.iload dL_isCompared_61 rfl rfl ?_
    refine Sm.icmp_ne (t := 129) dL_isCompared_63 (by decide) rfl (fun b18 => ?_) (fun b18 => ?_)
    · refine Sm.aload_n dL_isCompared_66 rfl rfl rfl ?_
      refine Sm.iload_n dL_isCompared_67 rfl rfl rfl ?_
      refine Sm.iload_n dL_isCompared_68 rfl rfl rfl ?_
      refine Sm.ck (fun o19 => ?_)
      refine kc_L_80 o19 dL_isCompared_69 rfl (Nat.le_of_ble_eq_true rfl) (Nat.le_of_ble_eq_true rfl) rfl (fun v20 h21 => ?_)
      refine Sm.iload dL_isCompared_72 rfl rfl ?_
      refine Sm.icmp_ne (t := 129) dL_isCompared_74 (by decide) rfl (fun b22 => ?_) (fun b22 => ?_)
      · refine Sm.iload_n dL_isCompared_77 rfl rfl rfl ?_
        refine Sm.if_ne (t := 85) dL_isCompared_78 (by decide) rfl (fun b23 => ?_) (fun b23 => ?_)
        · refine Sm.iconst dL_isCompared_81 ic_1 rfl ?_
          refine Sm.goto (t := 86) dL_isCompared_82 (by decide) ?_
          exact Sm.wk (t_L_isCompared_86 l0 l1 l2 l3 l5 l6 (1 : Int32) h21) ⟨Or.inr rfl, Or.inr rfl, Or.inr rfl, Or.inr rfl, Or.inl rfl, Or.inr rfl, Or.inr rfl, Or.inl rfl, Or.inl rfl, Or.inl rfl, Or.inl rfl, Or.inl rfl, trivial⟩
        · refine Sm.iconst dL_isCompared_85 ic_0 rfl ?_
          exact Sm.wk (t_L_isCompared_86 l0 l1 l2 l3 l5 l6 (0 : Int32) h21) ⟨Or.inr rfl, Or.inr rfl, Or.inr rfl, Or.inr rfl, Or.inl rfl, Or.inr rfl, Or.inr rfl, Or.inl rfl, Or.inl rfl, Or.inl rfl, Or.inl rfl, Or.inl rfl, trivial⟩
      · exact Sm.wk (t_L_isCompared_129 l0 l1 l2 l3 l5 l6 h21) ⟨Or.inr rfl, Or.inr rfl, Or.inr rfl, Or.inr rfl, Or.inl rfl, Or.inr rfl, Or.inr rfl, Or.inl rfl, Or.inl rfl, Or.inl rfl, Or.inl rfl, Or.inl rfl, trivial⟩
    · exact Sm.wk (t_L_isCompared_129 l0 l1 l2 l3 l5 l6 h17) ⟨Or.inr rfl, Or.inr rfl, Or.inr rfl, Or.inr rfl, Or.inl rfl, Or.inr rfl, Or.inr rfl, Or.inl rfl, Or.inl rfl, Or.inl rfl, Or.inl rfl, Or.inl rfl, trivial⟩
  · exact Sm.wk (t_L_isCompared_129 l0 l1 l2 l3 l5 l6 h) ⟨Or.inr rfl, Or.inr rfl, Or.inr rfl, Or.inr rfl, Or.inl rfl, Or.inr rfl, Or.inr rfl, Or.inl rfl, Or.inl rfl, Or.inl rfl, Or.inl rfl, Or.inl rfl, trivial⟩
def f_L_isCompared (l0 : Nat) (l1 : Int32) (l2 : Int32) (h : Hp) : Option (Int32 × Hp) :=
  (ck h l0 9
(bd (f_X9_compare l0 l1 l2 h) fun v2 h3 =>
(ck h3 l0 9
(bd (f_X9_compare l0 l2 l1 h3) fun v5 h6 =>
(ck h6 l0 9
(bd (f_X9_witness l0 l1 l2 h6) fun v8 h9 =>
(ck h9 l0 9
(bd (f_X9_difference l0 l1 l2 h9) fun v11 h12 =>
(if v2 = (1 : Int32) then
(f_L_isCompared_52 l0 l1 l2 v2 v8 v11 v5 (2 : Int32) h12)
else
(if v2 = (2 : Int32) then
(f_L_isCompared_52 l0 l1 l2 v2 v8 v11 v5 (1 : Int32) h12)
else
(f_L_isCompared_52 l0 l1 l2 v2 v8 v11 v5 v2 h12)))))))))))
set_option maxRecDepth 20000 in
theorem t_L_isCompared (l0 : Nat) (l1 : Int32) (l2 : Int32) (h : Hp) : Sm rvI g_L_isCompared 0 (ent 12 [.ref l0, .int l1, .int l2]) [] h (f_L_isCompared l0 l1 l2 h) := by
  show Sm rvI g_L_isCompared 0 [.ref l0, .int l1, .int l2, .null, .null, .null, .null, .null, .null, .null, .null, .null] [] h _
  unfold f_L_isCompared
  refine Sm.aload_n dL_isCompared_0 rfl rfl rfl ?_
  refine Sm.iload_n dL_isCompared_1 rfl rfl rfl ?_
  refine Sm.iload_n dL_isCompared_2 rfl rfl rfl ?_
  refine Sm.ck (fun o1 => ?_)
  refine kc_L_74 o1 dL_isCompared_3 rfl (Nat.le_of_ble_eq_true rfl) (Nat.le_of_ble_eq_true rfl) rfl (fun v2 h3 => ?_)
  refine Sm.istore_n (lv' := [.ref l0, .int l1, .int l2, .int v2, .null, .null, .null, .null, .null, .null, .null, .null]) dL_isCompared_6 rfl (Nat.le_of_ble_eq_true rfl) rfl rfl ?_
  refine Sm.aload_n dL_isCompared_7 rfl rfl rfl ?_
  refine Sm.iload_n dL_isCompared_8 rfl rfl rfl ?_
  refine Sm.iload_n dL_isCompared_9 rfl rfl rfl ?_
  refine Sm.ck (fun o4 => ?_)
  refine kc_L_74 o4 dL_isCompared_10 rfl (Nat.le_of_ble_eq_true rfl) (Nat.le_of_ble_eq_true rfl) rfl (fun v5 h6 => ?_)
  refine Sm.istore (lv' := [.ref l0, .int l1, .int l2, .int v2, .int v5, .null, .null, .null, .null, .null, .null, .null]) dL_isCompared_13 (Nat.le_of_ble_eq_true rfl) rfl rfl ?_
  refine Sm.aload_n dL_isCompared_15 rfl rfl rfl ?_
  refine Sm.iload_n dL_isCompared_16 rfl rfl rfl ?_
  refine Sm.iload_n dL_isCompared_17 rfl rfl rfl ?_
  refine Sm.ck (fun o7 => ?_)
  refine kc_L_77 o7 dL_isCompared_18 rfl (Nat.le_of_ble_eq_true rfl) (Nat.le_of_ble_eq_true rfl) rfl (fun v8 h9 => ?_)
  refine Sm.istore (lv' := [.ref l0, .int l1, .int l2, .int v2, .int v5, .int v8, .null, .null, .null, .null, .null, .null]) dL_isCompared_21 (Nat.le_of_ble_eq_true rfl) rfl rfl ?_
  refine Sm.aload_n dL_isCompared_23 rfl rfl rfl ?_
  refine Sm.iload_n dL_isCompared_24 rfl rfl rfl ?_
  refine Sm.iload_n dL_isCompared_25 rfl rfl rfl ?_
  refine Sm.ck (fun o10 => ?_)
  refine kc_L_80 o10 dL_isCompared_26 rfl (Nat.le_of_ble_eq_true rfl) (Nat.le_of_ble_eq_true rfl) rfl (fun v11 h12 => ?_)
  refine Sm.istore (lv' := [.ref l0, .int l1, .int l2, .int v2, .int v5, .int v8, .int v11, .null, .null, .null, .null, .null]) dL_isCompared_29 (Nat.le_of_ble_eq_true rfl) rfl rfl ?_
  refine Sm.iload dL_isCompared_31 rfl rfl ?_
  refine Sm.iload_n dL_isCompared_33 rfl rfl rfl ?_
  refine Sm.iconst dL_isCompared_34 ic_1 rfl ?_
  refine Sm.icmp_ne (t := 42) dL_isCompared_35 (by decide) rfl (fun b13 => ?_) (fun b13 => ?_)
  · refine Sm.iconst dL_isCompared_38 ic_2 rfl ?_
    refine Sm.goto (t := 52) dL_isCompared_39 (by decide) ?_
    exact Sm.wk (t_L_isCompared_52 l0 l1 l2 v2 v8 v11 v5 (2 : Int32) h12) ⟨Or.inr rfl, Or.inr rfl, Or.inr rfl, Or.inr rfl, Or.inl rfl, Or.inr rfl, Or.inr rfl, Or.inl rfl, Or.inl rfl, Or.inl rfl, Or.inl rfl, Or.inl rfl, trivial⟩
  · refine Sm.iload_n dL_isCompared_42 rfl rfl rfl ?_
    refine Sm.iconst dL_isCompared_43 ic_2 rfl ?_
    refine Sm.icmp_ne (t := 51) dL_isCompared_44 (by decide) rfl (fun b62 => ?_) (fun b62 => ?_)
    · refine Sm.iconst dL_isCompared_47 ic_1 rfl ?_
      refine Sm.goto (t := 52) dL_isCompared_48 (by decide) ?_
      exact Sm.wk (t_L_isCompared_52 l0 l1 l2 v2 v8 v11 v5 (1 : Int32) h12) ⟨Or.inr rfl, Or.inr rfl, Or.inr rfl, Or.inr rfl, Or.inl rfl, Or.inr rfl, Or.inr rfl, Or.inl rfl, Or.inl rfl, Or.inl rfl, Or.inl rfl, Or.inl rfl, trivial⟩
    · refine Sm.iload_n dL_isCompared_51 rfl rfl rfl ?_
      exact Sm.wk (t_L_isCompared_52 l0 l1 l2 v2 v8 v11 v5 v2 h12) ⟨Or.inr rfl, Or.inr rfl, Or.inr rfl, Or.inr rfl, Or.inl rfl, Or.inr rfl, Or.inr rfl, Or.inl rfl, Or.inl rfl, Or.inl rfl, Or.inl rfl, Or.inl rfl, trivial⟩
set_option maxRecDepth 20000 in
theorem kc_L_133 {ρ : Type} {rv : ρ → Option Value} {G : Gx} {pc q : Nat} {lv st : List Value} {h : Hp} {x0 : Nat} {x1 : Int32} {x2 : Int32} {e : Int32 → Hp → Option (ρ × Hp)} (d : decode G.2.1 pc = .ok (.invokestatic 133, 3)) (ho : G.1.cls = RL) (hdep : (g_L_isCompared).2.2.2.2 < G.2.2.2.2) (hcat : catS st ≤ 8) (hq : pc + 3 = q) (k : ∀ r h1, Sm rv G q lv (.int r :: st) h1 (e r h1)) : Sm rv G pc lv (.int x2 :: .int x1 :: .ref x0 :: st) h (bd (f_L_isCompared x0 x1 x2 h) e) :=
  Sm.callS (rv' := rvI) (as := [.ref x0, .int x1, .int x2]) (n := 3) (t_L_isCompared x0 x1 x2 h) ho mw_756 mw_757 mw_0 mw_758 ⟨⟨by decide, rfl, hdep, Nat.le_of_ble_eq_true rfl⟩, Nat.le_of_ble_eq_true rfl, rfl, ⟨by decide, by decide⟩, hcat⟩ (by decide +kernel) (by intro v hv; simp only [List.mem_cons, List.not_mem_nil, or_false] at hv; rcases hv with rfl | rfl | rfl <;> intro x hx <;> cases hx) d hq k rfl
abbrev g_L_isHit : Gx := (yL_isHit, cL_isHit, 17, (Option.some FieldType.boolean), 13)
def f_L_isHit_289 (k230 : (Int32 × Int32 × Hp) → Option (Int32 × Hp)) (l0 : Nat) (l1 : Int32) (l2 : Int32) (l4 : Int32) (l5 : Int64) (l8 : Int64) (l10 : Int32) (l12 : Int32) (s0 : Int32) (s1 : Int32) (h : Hp) : Option (Int32 × Hp) :=
  (if s0 = s1 then
(nm (l12 + (1 : Int32)) fun v38 =>
(k230 ((1 : Int32), v38, h)))
else
(nm (l12 + (1 : Int32)) fun v39 =>
(k230 ((0 : Int32), v39, h))))
set_option maxRecDepth 20000 in
theorem t_L_isHit_289 (l0 : Nat) (l1 : Int32) (l2 : Int32) (l4 : Int32) (l5 : Int64) (l8 : Int64) (l10 : Int32) (l12 : Int32) (s0 : Int32) (s1 : Int32) (h : Hp) (k230 : (Int32 × Int32 × Hp) → Option (Int32 × Hp)) (hk230 : ∀ s : Int32 × Int32 × Hp, Sm rvI g_L_isHit 230 [.ref l0, .int l1, .int l2, .null, .int l4, .long l5, .null, .int s.1, .long l8, .null, .int l10, .null, .int s.2.1, .null, .null, .null, .null] [] s.2.2 (k230 s)) : Sm rvI g_L_isHit 289 [.ref l0, .int l1, .int l2, .null, .int l4, .long l5, .null, .null, .long l8, .null, .int l10, .null, .int l12, .null, .null, .null, .null] [.int s1, .int s0] h (f_L_isHit_289 k230 l0 l1 l2 l4 l5 l8 l10 l12 s0 s1 h) := by
  unfold f_L_isHit_289
  refine Sm.icmp_ne (t := 296) dL_isHit_289 (by decide) rfl (fun b37 => ?_) (fun b37 => ?_)
  · refine Sm.iconst dL_isHit_292 ic_1 rfl ?_
    refine Sm.goto (t := 297) dL_isHit_293 (by decide) ?_
    refine Sm.istore (lv' := [.ref l0, .int l1, .int l2, .null, .int l4, .long l5, .null, .int (1 : Int32), .long l8, .null, .int l10, .null, .int l12, .null, .null, .null, .null]) dL_isHit_297 (Nat.le_of_ble_eq_true rfl) rfl rfl ?_
    refine Sm.iinc (lv' := [.ref l0, .int l1, .int l2, .null, .int l4, .long l5, .null, .int (1 : Int32), .long l8, .null, .int l10, .null, .int (l12 + (1 : Int32)), .null, .null, .null, .null]) dL_isHit_299 rfl ic_1 rfl rfl ?_
    refine Sm.nm (LV := fun v38 => [.ref l0, .int l1, .int l2, .null, .int l4, .long l5, .null, .int (1 : Int32), .long l8, .null, .int l10, .null, .int v38, .null, .null, .null, .null]) (ST := fun v38 => []) (fun v38 => ?_)
    refine Sm.goto (t := 230) dL_isHit_302 (by decide) ?_
    exact Sm.wk (hk230 ((1 : Int32), v38, h)) ⟨Or.inr rfl, Or.inr rfl, Or.inr rfl, Or.inl rfl, Or.inr rfl, Or.inr rfl, Or.inl rfl, Or.inr rfl, Or.inr rfl, Or.inl rfl, Or.inr rfl, Or.inl rfl, Or.inr rfl, Or.inl rfl, Or.inl rfl, Or.inl rfl, Or.inl rfl, trivial⟩
  · refine Sm.iconst dL_isHit_296 ic_0 rfl ?_
    refine Sm.istore (lv' := [.ref l0, .int l1, .int l2, .null, .int l4, .long l5, .null, .int (0 : Int32), .long l8, .null, .int l10, .null, .int l12, .null, .null, .null, .null]) dL_isHit_297 (Nat.le_of_ble_eq_true rfl) rfl rfl ?_
    refine Sm.iinc (lv' := [.ref l0, .int l1, .int l2, .null, .int l4, .long l5, .null, .int (0 : Int32), .long l8, .null, .int l10, .null, .int (l12 + (1 : Int32)), .null, .null, .null, .null]) dL_isHit_299 rfl ic_1 rfl rfl ?_
    refine Sm.nm (LV := fun v39 => [.ref l0, .int l1, .int l2, .null, .int l4, .long l5, .null, .int (0 : Int32), .long l8, .null, .int l10, .null, .int v39, .null, .null, .null, .null]) (ST := fun v39 => []) (fun v39 => ?_)
    refine Sm.goto (t := 230) dL_isHit_302 (by decide) ?_
    exact Sm.wk (hk230 ((0 : Int32), v39, h)) ⟨Or.inr rfl, Or.inr rfl, Or.inr rfl, Or.inl rfl, Or.inr rfl, Or.inr rfl, Or.inl rfl, Or.inr rfl, Or.inr rfl, Or.inl rfl, Or.inr rfl, Or.inl rfl, Or.inr rfl, Or.inl rfl, Or.inl rfl, Or.inl rfl, Or.inl rfl, trivial⟩
def f_L_isHit_230 (k230 : (Int32 × Int32 × Hp) → Option (Int32 × Hp)) (l0 : Nat) (l1 : Int32) (l2 : Int32) (l4 : Int32) (l5 : Int64) (l7 : Int32) (l8 : Int64) (l10 : Int32) (l12 : Int32) (h : Hp) : Option (Int32 × Hp) :=
  (if (3 : Int32) ≤ l12 then
(if l7 = 0 then
(some ((0 : Int32), h))
else
(if (lg_cmp l8 l5) = 0 then
(ck h l0 9
(bd (f_X9_action l0 l1 l4 l10 h) fun v22 h23 =>
(if v22 = (-1 : Int32) then
(ck h23 l0 9
(bd (f_X9_hits l0 l1 l4 h23) fun v26 h27 =>
(if v26 ≤ 0 then
(some ((0 : Int32), h27))
else
(some ((1 : Int32), h27)))))
else
(some ((0 : Int32), h23)))))
else
(some ((0 : Int32), h))))
else
(ck h l0 9
(bd (f_X9_match l0 l1 l4 l12 h) fun v30 h31 =>
(if l7 = 0 then
(nm (l12 + (1 : Int32)) fun v33 =>
(k230 ((0 : Int32), v33, h31)))
else
(if v30 = (4 : Int32) then
(nm (l12 + (1 : Int32)) fun v35 =>
(k230 ((1 : Int32), v35, h31)))
else
(if l12 = 0 then
(f_L_isHit_289 k230 l0 l1 l2 l4 l5 l8 l10 l12 v30 (l2 / (16 : Int32)) h31)
else
(if l12 = (1 : Int32) then
(nm (l2 / (4 : Int32)) fun v41 =>
(f_L_isHit_289 k230 l0 l1 l2 l4 l5 l8 l10 l12 v30 (v41 - v41 / (4 : Int32) * (4 : Int32)) h31))
else
(f_L_isHit_289 k230 l0 l1 l2 l4 l5 l8 l10 l12 v30 (l2 - l2 / (4 : Int32) * (4 : Int32)) h31))))))))
set_option maxRecDepth 20000 in
theorem t_L_isHit_230 (l0 : Nat) (l1 : Int32) (l2 : Int32) (l4 : Int32) (l5 : Int64) (l7 : Int32) (l8 : Int64) (l10 : Int32) (l12 : Int32) (h : Hp) (k230 : (Int32 × Int32 × Hp) → Option (Int32 × Hp)) (hk230 : ∀ s : Int32 × Int32 × Hp, Sm rvI g_L_isHit 230 [.ref l0, .int l1, .int l2, .null, .int l4, .long l5, .null, .int s.1, .long l8, .null, .int l10, .null, .int s.2.1, .null, .null, .null, .null] [] s.2.2 (k230 s)) : Sm rvI g_L_isHit 230 [.ref l0, .int l1, .int l2, .null, .int l4, .long l5, .null, .int l7, .long l8, .null, .int l10, .null, .int l12, .null, .null, .null, .null] [] h (f_L_isHit_230 k230 l0 l1 l2 l4 l5 l7 l8 l10 l12 h) := by
  unfold f_L_isHit_230
  refine Sm.iload dL_isHit_230 rfl rfl ?_
  refine Sm.iconst dL_isHit_232 ic_3 rfl ?_
  refine Sm.icmp_ge (t := 305) dL_isHit_233 (by decide) rfl (fun b18 => ?_) (fun b18 => ?_)
  · refine Sm.iload dL_isHit_305 rfl rfl ?_
    refine Sm.if_eq (t := 345) dL_isHit_307 (by decide) rfl (fun b19 => ?_) (fun b19 => ?_)
    · refine Sm.iconst dL_isHit_345 ic_0 rfl ?_
      exact Sm.ret dL_isHit_346 (Or.inl rfl) rfl
    · refine Sm.lload dL_isHit_310 rfl rfl ?_
      refine Sm.lload dL_isHit_312 rfl rfl ?_
      refine Sm.lcmp dL_isHit_314 rfl ?_
      refine Sm.if_ne (t := 345) dL_isHit_315 (by decide) rfl (fun b20 => ?_) (fun b20 => ?_)
      · refine Sm.aload_n dL_isHit_318 rfl rfl rfl ?_
        refine Sm.iload_n dL_isHit_319 rfl rfl rfl ?_
        refine Sm.iload dL_isHit_320 rfl rfl ?_
        refine Sm.iload dL_isHit_322 rfl rfl ?_
        refine Sm.ck (fun o21 => ?_)
        refine kc_L_89 o21 dL_isHit_324 rfl (Nat.le_of_ble_eq_true rfl) (Nat.le_of_ble_eq_true rfl) rfl (fun v22 h23 => ?_)
        refine Sm.iconst dL_isHit_327 ic_m1 rfl ?_
        refine Sm.icmp_ne (t := 345) dL_isHit_328 (by decide) rfl (fun b24 => ?_) (fun b24 => ?_)
        · refine Sm.aload_n dL_isHit_331 rfl rfl rfl ?_
          refine Sm.iload_n dL_isHit_332 rfl rfl rfl ?_
          refine Sm.iload dL_isHit_333 rfl rfl ?_
          refine Sm.ck (fun o25 => ?_)
          refine kc_L_95 o25 dL_isHit_335 rfl (Nat.le_of_ble_eq_true rfl) (Nat.le_of_ble_eq_true rfl) rfl (fun v26 h27 => ?_)
          refine Sm.if_le (t := 345) dL_isHit_338 (by decide) rfl (fun b28 => ?_) (fun b28 => ?_)
          · refine Sm.iconst dL_isHit_345 ic_0 rfl ?_
            exact Sm.ret dL_isHit_346 (Or.inl rfl) rfl
          · refine Sm.iconst dL_isHit_341 ic_1 rfl ?_
            refine Sm.goto (t := 346) dL_isHit_342 (by decide) ?_
            exact Sm.ret dL_isHit_346 (Or.inr rfl) rfl
        · refine Sm.iconst dL_isHit_345 ic_0 rfl ?_
          exact Sm.ret dL_isHit_346 (Or.inl rfl) rfl
      · refine Sm.iconst dL_isHit_345 ic_0 rfl ?_
        exact Sm.ret dL_isHit_346 (Or.inl rfl) rfl
  · refine Sm.aload_n dL_isHit_236 rfl rfl rfl ?_
    refine Sm.iload_n dL_isHit_237 rfl rfl rfl ?_
    refine Sm.iload dL_isHit_238 rfl rfl ?_
    refine Sm.iload dL_isHit_240 rfl rfl ?_
    refine Sm.ck (fun o29 => ?_)
    refine kc_L_92 o29 dL_isHit_242 rfl (Nat.le_of_ble_eq_true rfl) (Nat.le_of_ble_eq_true rfl) rfl (fun v30 h31 => ?_)
    refine Sm.istore (lv' := [.ref l0, .int l1, .int l2, .null, .int l4, .long l5, .null, .int l7, .long l8, .null, .int l10, .null, .int l12, .int v30, .null, .null, .null]) dL_isHit_245 (Nat.le_of_ble_eq_true rfl) rfl rfl ?_
    refine Sm.iload dL_isHit_247 rfl rfl ?_
    refine Sm.if_eq (t := 296) dL_isHit_249 (by decide) rfl (fun b32 => ?_) (fun b32 => ?_)
    · refine Sm.iconst dL_isHit_296 ic_0 rfl ?_
      refine Sm.istore (lv' := [.ref l0, .int l1, .int l2, .null, .int l4, .long l5, .null, .int (0 : Int32), .long l8, .null, .int l10, .null, .int l12, .int v30, .null, .null, .null]) dL_isHit_297 (Nat.le_of_ble_eq_true rfl) rfl rfl ?_
      refine Sm.iinc (lv' := [.ref l0, .int l1, .int l2, .null, .int l4, .long l5, .null, .int (0 : Int32), .long l8, .null, .int l10, .null, .int (l12 + (1 : Int32)), .int v30, .null, .null, .null]) dL_isHit_299 rfl ic_1 rfl rfl ?_
      refine Sm.nm (LV := fun v33 => [.ref l0, .int l1, .int l2, .null, .int l4, .long l5, .null, .int (0 : Int32), .long l8, .null, .int l10, .null, .int v33, .int v30, .null, .null, .null]) (ST := fun v33 => []) (fun v33 => ?_)
      refine Sm.goto (t := 230) dL_isHit_302 (by decide) ?_
      exact Sm.wk (hk230 ((0 : Int32), v33, h31)) ⟨Or.inr rfl, Or.inr rfl, Or.inr rfl, Or.inl rfl, Or.inr rfl, Or.inr rfl, Or.inl rfl, Or.inr rfl, Or.inr rfl, Or.inl rfl, Or.inr rfl, Or.inl rfl, Or.inr rfl, Or.inl rfl, Or.inl rfl, Or.inl rfl, Or.inl rfl, trivial⟩
    · refine Sm.iload dL_isHit_252 rfl rfl ?_
      refine Sm.iconst dL_isHit_254 ic_4 rfl ?_
      refine Sm.icmp_eq (t := 292) dL_isHit_255 (by decide) rfl (fun b34 => ?_) (fun b34 => ?_)
      · refine Sm.iconst dL_isHit_292 ic_1 rfl ?_
        refine Sm.goto (t := 297) dL_isHit_293 (by decide) ?_
        refine Sm.istore (lv' := [.ref l0, .int l1, .int l2, .null, .int l4, .long l5, .null, .int (1 : Int32), .long l8, .null, .int l10, .null, .int l12, .int v30, .null, .null, .null]) dL_isHit_297 (Nat.le_of_ble_eq_true rfl) rfl rfl ?_
        refine Sm.iinc (lv' := [.ref l0, .int l1, .int l2, .null, .int l4, .long l5, .null, .int (1 : Int32), .long l8, .null, .int l10, .null, .int (l12 + (1 : Int32)), .int v30, .null, .null, .null]) dL_isHit_299 rfl ic_1 rfl rfl ?_
        refine Sm.nm (LV := fun v35 => [.ref l0, .int l1, .int l2, .null, .int l4, .long l5, .null, .int (1 : Int32), .long l8, .null, .int l10, .null, .int v35, .int v30, .null, .null, .null]) (ST := fun v35 => []) (fun v35 => ?_)
        refine Sm.goto (t := 230) dL_isHit_302 (by decide) ?_
        exact Sm.wk (hk230 ((1 : Int32), v35, h31)) ⟨Or.inr rfl, Or.inr rfl, Or.inr rfl, Or.inl rfl, Or.inr rfl, Or.inr rfl, Or.inl rfl, Or.inr rfl, Or.inr rfl, Or.inl rfl, Or.inr rfl, Or.inl rfl, Or.inr rfl, Or.inl rfl, Or.inl rfl, Or.inl rfl, Or.inl rfl, trivial⟩
      · refine Sm.iload dL_isHit_258 rfl rfl ?_
        refine Sm.iload dL_isHit_260 rfl rfl ?_
        refine Sm.if_ne (t := 272) dL_isHit_262 (by decide) rfl (fun b36 => ?_) (fun b36 => ?_)
        · refine Sm.iload_n dL_isHit_265 rfl rfl rfl ?_
          refine Sm.bipush dL_isHit_266 bp_16 rfl ?_
          refine Sm.idiv dL_isHit_268 (by decide) rfl ?_
          refine Sm.goto (t := 289) dL_isHit_269 (by decide) ?_
          exact Sm.wk (t_L_isHit_289 l0 l1 l2 l4 l5 l8 l10 l12 v30 (l2 / (16 : Int32)) h31 k230 hk230) ⟨Or.inr rfl, Or.inr rfl, Or.inr rfl, Or.inl rfl, Or.inr rfl, Or.inr rfl, Or.inl rfl, Or.inl rfl, Or.inr rfl, Or.inl rfl, Or.inr rfl, Or.inl rfl, Or.inr rfl, Or.inl rfl, Or.inl rfl, Or.inl rfl, Or.inl rfl, trivial⟩
        · refine Sm.iload dL_isHit_272 rfl rfl ?_
          refine Sm.iconst dL_isHit_274 ic_1 rfl ?_
          refine Sm.icmp_ne (t := 286) dL_isHit_275 (by decide) rfl (fun b40 => ?_) (fun b40 => ?_)
          · refine Sm.iload_n dL_isHit_278 rfl rfl rfl ?_
            refine Sm.iconst dL_isHit_279 ic_4 rfl ?_
            refine Sm.idiv dL_isHit_280 (by decide) rfl ?_
            refine Sm.iconst dL_isHit_281 ic_4 rfl ?_
            refine Sm.nm (LV := fun v41 => [.ref l0, .int l1, .int l2, .null, .int l4, .long l5, .null, .int l7, .long l8, .null, .int l10, .null, .int l12, .int v30, .null, .null, .null]) (ST := fun v41 => [.int (4 : Int32), .int v41, .int v30]) (fun v41 => ?_)
            refine Sm.irem dL_isHit_282 (by decide) rfl ?_
            refine Sm.goto (t := 289) dL_isHit_283 (by decide) ?_
            exact Sm.wk (t_L_isHit_289 l0 l1 l2 l4 l5 l8 l10 l12 v30 (v41 - v41 / (4 : Int32) * (4 : Int32)) h31 k230 hk230) ⟨Or.inr rfl, Or.inr rfl, Or.inr rfl, Or.inl rfl, Or.inr rfl, Or.inr rfl, Or.inl rfl, Or.inl rfl, Or.inr rfl, Or.inl rfl, Or.inr rfl, Or.inl rfl, Or.inr rfl, Or.inl rfl, Or.inl rfl, Or.inl rfl, Or.inl rfl, trivial⟩
          · refine Sm.iload_n dL_isHit_286 rfl rfl rfl ?_
            refine Sm.iconst dL_isHit_287 ic_4 rfl ?_
            refine Sm.irem dL_isHit_288 (by decide) rfl ?_
            exact Sm.wk (t_L_isHit_289 l0 l1 l2 l4 l5 l8 l10 l12 v30 (l2 - l2 / (4 : Int32) * (4 : Int32)) h31 k230 hk230) ⟨Or.inr rfl, Or.inr rfl, Or.inr rfl, Or.inl rfl, Or.inr rfl, Or.inr rfl, Or.inl rfl, Or.inl rfl, Or.inr rfl, Or.inl rfl, Or.inr rfl, Or.inl rfl, Or.inr rfl, Or.inl rfl, Or.inl rfl, Or.inl rfl, Or.inl rfl, trivial⟩
def f_L_isHit_199 (k84 : (Int32 × Int64 × Int32 × Int32 × Hp) → Option (Int32 × Hp)) (l0 : Nat) (l1 : Int32) (l2 : Int32) (l4 : Int32) (l5 : Int64) (l7 : Int32) (l8 : Int64) (l10 : Int32) (l11 : Int32) (l12 : Int32) (l14 : Int32) (l15 : Int32) (s0 : Int32) (h : Hp) : Option (Int32 × Hp) :=
  (nm (l8 ||| ((1 : Int64) <<< (((((16 : Int32) * l14) + ((4 : Int32) * l15)) + s0).toInt64 &&& 63))) fun v52 =>
(nm (l12 + (1 : Int32)) fun v53 =>
(k84 (l7, v52, l11, v53, h))))
set_option maxRecDepth 20000 in
theorem t_L_isHit_199 (l0 : Nat) (l1 : Int32) (l2 : Int32) (l4 : Int32) (l5 : Int64) (l7 : Int32) (l8 : Int64) (l10 : Int32) (l11 : Int32) (l12 : Int32) (l14 : Int32) (l15 : Int32) (s0 : Int32) (h : Hp) (k84 : (Int32 × Int64 × Int32 × Int32 × Hp) → Option (Int32 × Hp)) (hk84 : ∀ s : Int32 × Int64 × Int32 × Int32 × Hp, Sm rvI g_L_isHit 84 [.ref l0, .int l1, .int l2, .null, .int l4, .long l5, .null, .int s.1, .long s.2.1, .null, .int l10, .int s.2.2.1, .int s.2.2.2.1, .null, .null, .null, .null] [] s.2.2.2.2 (k84 s)) : Sm rvI g_L_isHit 199 [.ref l0, .int l1, .int l2, .null, .int l4, .long l5, .null, .int l7, .long l8, .null, .int l10, .int l11, .int l12, .null, .int l14, .int l15, .null] [.int s0] h (f_L_isHit_199 k84 l0 l1 l2 l4 l5 l7 l8 l10 l11 l12 l14 l15 s0 h) := by
  unfold f_L_isHit_199
  refine Sm.istore (lv' := [.ref l0, .int l1, .int l2, .null, .int l4, .long l5, .null, .int l7, .long l8, .null, .int l10, .int l11, .int l12, .null, .int l14, .int l15, .int s0]) dL_isHit_199 (Nat.le_of_ble_eq_true rfl) rfl rfl ?_
  refine Sm.lload dL_isHit_201 rfl rfl ?_
  refine Sm.lconst (v := (1 : Int64)) dL_isHit_203 (by decide) rfl ?_
  refine Sm.bipush dL_isHit_204 bp_16 rfl ?_
  refine Sm.iload dL_isHit_206 rfl rfl ?_
  refine Sm.imul dL_isHit_208 rfl ?_
  refine Sm.iconst dL_isHit_209 ic_4 rfl ?_
  refine Sm.iload dL_isHit_210 rfl rfl ?_
  refine Sm.imul dL_isHit_212 rfl ?_
  refine Sm.iadd dL_isHit_213 rfl ?_
  refine Sm.iload dL_isHit_214 rfl rfl ?_
  refine Sm.iadd dL_isHit_216 rfl ?_
  refine Sm.lshl dL_isHit_217 rfl ?_
  refine Sm.lor dL_isHit_218 rfl ?_
  refine Sm.nm (LV := fun v52 => [.ref l0, .int l1, .int l2, .null, .int l4, .long l5, .null, .int l7, .long l8, .null, .int l10, .int l11, .int l12, .null, .int l14, .int l15, .int s0]) (ST := fun v52 => [.long v52]) (fun v52 => ?_)
  refine Sm.lstore (lv' := [.ref l0, .int l1, .int l2, .null, .int l4, .long l5, .null, .int l7, .long v52, .null, .int l10, .int l11, .int l12, .null, .int l14, .int l15, .int s0]) dL_isHit_219 (Nat.le_of_ble_eq_true rfl) rfl rfl ?_
  refine Sm.iinc (lv' := [.ref l0, .int l1, .int l2, .null, .int l4, .long l5, .null, .int l7, .long v52, .null, .int l10, .int l11, .int (l12 + (1 : Int32)), .null, .int l14, .int l15, .int s0]) dL_isHit_221 rfl ic_1 rfl rfl ?_
  refine Sm.nm (LV := fun v53 => [.ref l0, .int l1, .int l2, .null, .int l4, .long l5, .null, .int l7, .long v52, .null, .int l10, .int l11, .int v53, .null, .int l14, .int l15, .int s0]) (ST := fun v53 => []) (fun v53 => ?_)
  refine Sm.goto (t := 84) dL_isHit_224 (by decide) ?_
  exact Sm.wk (hk84 (l7, v52, l11, v53, h)) ⟨Or.inr rfl, Or.inr rfl, Or.inr rfl, Or.inl rfl, Or.inr rfl, Or.inr rfl, Or.inl rfl, Or.inr rfl, Or.inr rfl, Or.inl rfl, Or.inr rfl, Or.inr rfl, Or.inr rfl, Or.inl rfl, Or.inl rfl, Or.inl rfl, Or.inl rfl, trivial⟩
def f_L_isHit_179 (k84 : (Int32 × Int64 × Int32 × Int32 × Hp) → Option (Int32 × Hp)) (l0 : Nat) (l1 : Int32) (l2 : Int32) (l4 : Int32) (l5 : Int64) (l7 : Int32) (l8 : Int64) (l10 : Int32) (l11 : Int32) (l12 : Int32) (l13 : Int32) (l14 : Int32) (s0 : Int32) (h : Hp) : Option (Int32 × Hp) :=
  (if (l13 - l13 / (5 : Int32) * (5 : Int32)) = (4 : Int32) then
(f_L_isHit_199 k84 l0 l1 l2 l4 l5 l7 l8 l10 l11 l12 l14 s0 (l2 - l2 / (4 : Int32) * (4 : Int32)) h)
else
(f_L_isHit_199 k84 l0 l1 l2 l4 l5 l7 l8 l10 l11 l12 l14 s0 (l13 - l13 / (5 : Int32) * (5 : Int32)) h))
set_option maxRecDepth 20000 in
theorem t_L_isHit_179 (l0 : Nat) (l1 : Int32) (l2 : Int32) (l4 : Int32) (l5 : Int64) (l7 : Int32) (l8 : Int64) (l10 : Int32) (l11 : Int32) (l12 : Int32) (l13 : Int32) (l14 : Int32) (s0 : Int32) (h : Hp) (k84 : (Int32 × Int64 × Int32 × Int32 × Hp) → Option (Int32 × Hp)) (hk84 : ∀ s : Int32 × Int64 × Int32 × Int32 × Hp, Sm rvI g_L_isHit 84 [.ref l0, .int l1, .int l2, .null, .int l4, .long l5, .null, .int s.1, .long s.2.1, .null, .int l10, .int s.2.2.1, .int s.2.2.2.1, .null, .null, .null, .null] [] s.2.2.2.2 (k84 s)) : Sm rvI g_L_isHit 179 [.ref l0, .int l1, .int l2, .null, .int l4, .long l5, .null, .int l7, .long l8, .null, .int l10, .int l11, .int l12, .int l13, .int l14, .null, .null] [.int s0] h (f_L_isHit_179 k84 l0 l1 l2 l4 l5 l7 l8 l10 l11 l12 l13 l14 s0 h) := by
  unfold f_L_isHit_179
  refine Sm.istore (lv' := [.ref l0, .int l1, .int l2, .null, .int l4, .long l5, .null, .int l7, .long l8, .null, .int l10, .int l11, .int l12, .int l13, .int l14, .int s0, .null]) dL_isHit_179 (Nat.le_of_ble_eq_true rfl) rfl rfl ?_
  refine Sm.iload dL_isHit_181 rfl rfl ?_
  refine Sm.iconst dL_isHit_183 ic_5 rfl ?_
  refine Sm.irem dL_isHit_184 (by decide) rfl ?_
  refine Sm.iconst dL_isHit_185 ic_4 rfl ?_
  refine Sm.icmp_ne (t := 195) dL_isHit_186 (by decide) rfl (fun b51 => ?_) (fun b51 => ?_)
  · refine Sm.iload_n dL_isHit_189 rfl rfl rfl ?_
    refine Sm.iconst dL_isHit_190 ic_4 rfl ?_
    refine Sm.irem dL_isHit_191 (by decide) rfl ?_
    refine Sm.goto (t := 199) dL_isHit_192 (by decide) ?_
    exact Sm.wk (t_L_isHit_199 l0 l1 l2 l4 l5 l7 l8 l10 l11 l12 l14 s0 (l2 - l2 / (4 : Int32) * (4 : Int32)) h k84 hk84) ⟨Or.inr rfl, Or.inr rfl, Or.inr rfl, Or.inl rfl, Or.inr rfl, Or.inr rfl, Or.inl rfl, Or.inr rfl, Or.inr rfl, Or.inl rfl, Or.inr rfl, Or.inr rfl, Or.inr rfl, Or.inl rfl, Or.inr rfl, Or.inr rfl, Or.inl rfl, trivial⟩
  · refine Sm.iload dL_isHit_195 rfl rfl ?_
    refine Sm.iconst dL_isHit_197 ic_5 rfl ?_
    refine Sm.irem dL_isHit_198 (by decide) rfl ?_
    exact Sm.wk (t_L_isHit_199 l0 l1 l2 l4 l5 l7 l8 l10 l11 l12 l14 s0 (l13 - l13 / (5 : Int32) * (5 : Int32)) h k84 hk84) ⟨Or.inr rfl, Or.inr rfl, Or.inr rfl, Or.inl rfl, Or.inr rfl, Or.inr rfl, Or.inl rfl, Or.inr rfl, Or.inr rfl, Or.inl rfl, Or.inr rfl, Or.inr rfl, Or.inr rfl, Or.inl rfl, Or.inr rfl, Or.inr rfl, Or.inl rfl, trivial⟩
def f_L_isHit_153 (k84 : (Int32 × Int64 × Int32 × Int32 × Hp) → Option (Int32 × Hp)) (l0 : Nat) (l1 : Int32) (l2 : Int32) (l4 : Int32) (l5 : Int64) (l7 : Int32) (l8 : Int64) (l10 : Int32) (l11 : Int32) (l12 : Int32) (l13 : Int32) (s0 : Int32) (h : Hp) : Option (Int32 × Hp) :=
  (nm (l13 / (5 : Int32)) fun v48 =>
(if (v48 - v48 / (5 : Int32) * (5 : Int32)) = (4 : Int32) then
(nm (l2 / (4 : Int32)) fun v50 =>
(f_L_isHit_179 k84 l0 l1 l2 l4 l5 l7 l8 l10 l11 l12 l13 s0 (v50 - v50 / (4 : Int32) * (4 : Int32)) h))
else
(nm (l13 / (5 : Int32)) fun v54 =>
(f_L_isHit_179 k84 l0 l1 l2 l4 l5 l7 l8 l10 l11 l12 l13 s0 (v54 - v54 / (5 : Int32) * (5 : Int32)) h))))
set_option maxRecDepth 20000 in
theorem t_L_isHit_153 (l0 : Nat) (l1 : Int32) (l2 : Int32) (l4 : Int32) (l5 : Int64) (l7 : Int32) (l8 : Int64) (l10 : Int32) (l11 : Int32) (l12 : Int32) (l13 : Int32) (s0 : Int32) (h : Hp) (k84 : (Int32 × Int64 × Int32 × Int32 × Hp) → Option (Int32 × Hp)) (hk84 : ∀ s : Int32 × Int64 × Int32 × Int32 × Hp, Sm rvI g_L_isHit 84 [.ref l0, .int l1, .int l2, .null, .int l4, .long l5, .null, .int s.1, .long s.2.1, .null, .int l10, .int s.2.2.1, .int s.2.2.2.1, .null, .null, .null, .null] [] s.2.2.2.2 (k84 s)) : Sm rvI g_L_isHit 153 [.ref l0, .int l1, .int l2, .null, .int l4, .long l5, .null, .int l7, .long l8, .null, .int l10, .int l11, .int l12, .int l13, .null, .null, .null] [.int s0] h (f_L_isHit_153 k84 l0 l1 l2 l4 l5 l7 l8 l10 l11 l12 l13 s0 h) := by
  unfold f_L_isHit_153
  refine Sm.istore (lv' := [.ref l0, .int l1, .int l2, .null, .int l4, .long l5, .null, .int l7, .long l8, .null, .int l10, .int l11, .int l12, .int l13, .int s0, .null, .null]) dL_isHit_153 (Nat.le_of_ble_eq_true rfl) rfl rfl ?_
  refine Sm.iload dL_isHit_155 rfl rfl ?_
  refine Sm.iconst dL_isHit_157 ic_5 rfl ?_
  refine Sm.idiv dL_isHit_158 (by decide) rfl ?_
  refine Sm.iconst dL_isHit_159 ic_5 rfl ?_
  refine Sm.nm (LV := fun v48 => [.ref l0, .int l1, .int l2, .null, .int l4, .long l5, .null, .int l7, .long l8, .null, .int l10, .int l11, .int l12, .int l13, .int s0, .null, .null]) (ST := fun v48 => [.int (5 : Int32), .int v48]) (fun v48 => ?_)
  refine Sm.irem dL_isHit_160 (by decide) rfl ?_
  refine Sm.iconst dL_isHit_161 ic_4 rfl ?_
  refine Sm.icmp_ne (t := 173) dL_isHit_162 (by decide) rfl (fun b49 => ?_) (fun b49 => ?_)
  · refine Sm.iload_n dL_isHit_165 rfl rfl rfl ?_
    refine Sm.iconst dL_isHit_166 ic_4 rfl ?_
    refine Sm.idiv dL_isHit_167 (by decide) rfl ?_
    refine Sm.iconst dL_isHit_168 ic_4 rfl ?_
    refine Sm.nm (LV := fun v50 => [.ref l0, .int l1, .int l2, .null, .int l4, .long l5, .null, .int l7, .long l8, .null, .int l10, .int l11, .int l12, .int l13, .int s0, .null, .null]) (ST := fun v50 => [.int (4 : Int32), .int v50]) (fun v50 => ?_)
    refine Sm.irem dL_isHit_169 (by decide) rfl ?_
    refine Sm.goto (t := 179) dL_isHit_170 (by decide) ?_
    exact Sm.wk (t_L_isHit_179 l0 l1 l2 l4 l5 l7 l8 l10 l11 l12 l13 s0 (v50 - v50 / (4 : Int32) * (4 : Int32)) h k84 hk84) ⟨Or.inr rfl, Or.inr rfl, Or.inr rfl, Or.inl rfl, Or.inr rfl, Or.inr rfl, Or.inl rfl, Or.inr rfl, Or.inr rfl, Or.inl rfl, Or.inr rfl, Or.inr rfl, Or.inr rfl, Or.inr rfl, Or.inr rfl, Or.inl rfl, Or.inl rfl, trivial⟩
  · refine Sm.iload dL_isHit_173 rfl rfl ?_
    refine Sm.iconst dL_isHit_175 ic_5 rfl ?_
    refine Sm.idiv dL_isHit_176 (by decide) rfl ?_
    refine Sm.iconst dL_isHit_177 ic_5 rfl ?_
    refine Sm.nm (LV := fun v54 => [.ref l0, .int l1, .int l2, .null, .int l4, .long l5, .null, .int l7, .long l8, .null, .int l10, .int l11, .int l12, .int l13, .int s0, .null, .null]) (ST := fun v54 => [.int (5 : Int32), .int v54]) (fun v54 => ?_)
    refine Sm.irem dL_isHit_178 (by decide) rfl ?_
    exact Sm.wk (t_L_isHit_179 l0 l1 l2 l4 l5 l7 l8 l10 l11 l12 l13 s0 (v54 - v54 / (5 : Int32) * (5 : Int32)) h k84 hk84) ⟨Or.inr rfl, Or.inr rfl, Or.inr rfl, Or.inl rfl, Or.inr rfl, Or.inr rfl, Or.inl rfl, Or.inr rfl, Or.inr rfl, Or.inl rfl, Or.inr rfl, Or.inr rfl, Or.inr rfl, Or.inr rfl, Or.inr rfl, Or.inl rfl, Or.inl rfl, trivial⟩
def f_L_isHit_126 (k84 : (Int32 × Int64 × Int32 × Int32 × Hp) → Option (Int32 × Hp)) (l0 : Nat) (l1 : Int32) (l2 : Int32) (l4 : Int32) (l5 : Int64) (l8 : Int64) (l10 : Int32) (l12 : Int32) (l13 : Int32) (s0 : Int32) (h : Hp) : Option (Int32 × Hp) :=
  (if (l13 / (25 : Int32)) = (4 : Int32) then
(f_L_isHit_153 k84 l0 l1 l2 l4 l5 s0 l8 l10 l13 l12 l13 (l2 / (16 : Int32)) h)
else
(f_L_isHit_153 k84 l0 l1 l2 l4 l5 s0 l8 l10 l13 l12 l13 (l13 / (25 : Int32)) h))
set_option maxRecDepth 20000 in
theorem t_L_isHit_126 (l0 : Nat) (l1 : Int32) (l2 : Int32) (l4 : Int32) (l5 : Int64) (l8 : Int64) (l10 : Int32) (l12 : Int32) (l13 : Int32) (s0 : Int32) (h : Hp) (k84 : (Int32 × Int64 × Int32 × Int32 × Hp) → Option (Int32 × Hp)) (hk84 : ∀ s : Int32 × Int64 × Int32 × Int32 × Hp, Sm rvI g_L_isHit 84 [.ref l0, .int l1, .int l2, .null, .int l4, .long l5, .null, .int s.1, .long s.2.1, .null, .int l10, .int s.2.2.1, .int s.2.2.2.1, .null, .null, .null, .null] [] s.2.2.2.2 (k84 s)) : Sm rvI g_L_isHit 126 [.ref l0, .int l1, .int l2, .null, .int l4, .long l5, .null, .null, .long l8, .null, .int l10, .null, .int l12, .int l13, .null, .null, .null] [.int s0] h (f_L_isHit_126 k84 l0 l1 l2 l4 l5 l8 l10 l12 l13 s0 h) := by
  unfold f_L_isHit_126
  refine Sm.istore (lv' := [.ref l0, .int l1, .int l2, .null, .int l4, .long l5, .null, .int s0, .long l8, .null, .int l10, .null, .int l12, .int l13, .null, .null, .null]) dL_isHit_126 (Nat.le_of_ble_eq_true rfl) rfl rfl ?_
  refine Sm.iload dL_isHit_128 rfl rfl ?_
  refine Sm.istore (lv' := [.ref l0, .int l1, .int l2, .null, .int l4, .long l5, .null, .int s0, .long l8, .null, .int l10, .int l13, .int l12, .int l13, .null, .null, .null]) dL_isHit_130 (Nat.le_of_ble_eq_true rfl) rfl rfl ?_
  refine Sm.iload dL_isHit_132 rfl rfl ?_
  refine Sm.bipush dL_isHit_134 bp_25 rfl ?_
  refine Sm.idiv dL_isHit_136 (by decide) rfl ?_
  refine Sm.iconst dL_isHit_137 ic_4 rfl ?_
  refine Sm.icmp_ne (t := 148) dL_isHit_138 (by decide) rfl (fun b47 => ?_) (fun b47 => ?_)
  · refine Sm.iload_n dL_isHit_141 rfl rfl rfl ?_
    refine Sm.bipush dL_isHit_142 bp_16 rfl ?_
    refine Sm.idiv dL_isHit_144 (by decide) rfl ?_
    refine Sm.goto (t := 153) dL_isHit_145 (by decide) ?_
    exact Sm.wk (t_L_isHit_153 l0 l1 l2 l4 l5 s0 l8 l10 l13 l12 l13 (l2 / (16 : Int32)) h k84 hk84) ⟨Or.inr rfl, Or.inr rfl, Or.inr rfl, Or.inl rfl, Or.inr rfl, Or.inr rfl, Or.inl rfl, Or.inr rfl, Or.inr rfl, Or.inl rfl, Or.inr rfl, Or.inr rfl, Or.inr rfl, Or.inr rfl, Or.inl rfl, Or.inl rfl, Or.inl rfl, trivial⟩
  · refine Sm.iload dL_isHit_148 rfl rfl ?_
    refine Sm.bipush dL_isHit_150 bp_25 rfl ?_
    refine Sm.idiv dL_isHit_152 (by decide) rfl ?_
    exact Sm.wk (t_L_isHit_153 l0 l1 l2 l4 l5 s0 l8 l10 l13 l12 l13 (l13 / (25 : Int32)) h k84 hk84) ⟨Or.inr rfl, Or.inr rfl, Or.inr rfl, Or.inl rfl, Or.inr rfl, Or.inr rfl, Or.inl rfl, Or.inr rfl, Or.inr rfl, Or.inl rfl, Or.inr rfl, Or.inr rfl, Or.inr rfl, Or.inr rfl, Or.inl rfl, Or.inl rfl, Or.inl rfl, trivial⟩
def f_L_isHit_125 (k84 : (Int32 × Int64 × Int32 × Int32 × Hp) → Option (Int32 × Hp)) (l0 : Nat) (l1 : Int32) (l2 : Int32) (l4 : Int32) (l5 : Int64) (l8 : Int64) (l10 : Int32) (l12 : Int32) (l13 : Int32) (h : Hp) : Option (Int32 × Hp) :=
  (f_L_isHit_126 k84 l0 l1 l2 l4 l5 l8 l10 l12 l13 (0 : Int32) h)
set_option maxRecDepth 20000 in
theorem t_L_isHit_125 (l0 : Nat) (l1 : Int32) (l2 : Int32) (l4 : Int32) (l5 : Int64) (l8 : Int64) (l10 : Int32) (l12 : Int32) (l13 : Int32) (h : Hp) (k84 : (Int32 × Int64 × Int32 × Int32 × Hp) → Option (Int32 × Hp)) (hk84 : ∀ s : Int32 × Int64 × Int32 × Int32 × Hp, Sm rvI g_L_isHit 84 [.ref l0, .int l1, .int l2, .null, .int l4, .long l5, .null, .int s.1, .long s.2.1, .null, .int l10, .int s.2.2.1, .int s.2.2.2.1, .null, .null, .null, .null] [] s.2.2.2.2 (k84 s)) : Sm rvI g_L_isHit 125 [.ref l0, .int l1, .int l2, .null, .int l4, .long l5, .null, .null, .long l8, .null, .int l10, .null, .int l12, .int l13, .null, .null, .null] [] h (f_L_isHit_125 k84 l0 l1 l2 l4 l5 l8 l10 l12 l13 h) := by
  unfold f_L_isHit_125
  refine Sm.iconst dL_isHit_125 ic_0 rfl ?_
  exact Sm.wk (t_L_isHit_126 l0 l1 l2 l4 l5 l8 l10 l12 l13 (0 : Int32) h k84 hk84) ⟨Or.inr rfl, Or.inr rfl, Or.inr rfl, Or.inl rfl, Or.inr rfl, Or.inr rfl, Or.inl rfl, Or.inl rfl, Or.inr rfl, Or.inl rfl, Or.inr rfl, Or.inl rfl, Or.inr rfl, Or.inr rfl, Or.inl rfl, Or.inl rfl, Or.inl rfl, trivial⟩
def f_L_isHit_84 (k84 : (Int32 × Int64 × Int32 × Int32 × Hp) → Option (Int32 × Hp)) (l0 : Nat) (l1 : Int32) (l2 : Int32) (l4 : Int32) (l5 : Int64) (l7 : Int32) (l8 : Int64) (l10 : Int32) (l11 : Int32) (l12 : Int32) (h : Hp) : Option (Int32 × Hp) :=
  (if l10 ≤ l12 then
(loopN (fun k s => f_L_isHit_230 k l0 l1 l2 l4 l5 s.1 l8 l10 s.2.1 s.2.2) 5000 (l7, (0 : Int32), h))
else
(if l7 = 0 then
(loopN (fun k s => f_L_isHit_230 k l0 l1 l2 l4 l5 s.1 l8 l10 s.2.1 s.2.2) 5000 (l7, (0 : Int32), h))
else
(ck h l0 9
(bd (f_X9_action l0 l1 l4 l12 h) fun v44 h45 =>
(if v44 ≤ l11 then
(f_L_isHit_125 k84 l0 l1 l2 l4 l5 l8 l10 l12 v44 h45)
else
(if (125 : Int32) ≤ v44 then
(f_L_isHit_125 k84 l0 l1 l2 l4 l5 l8 l10 l12 v44 h45)
else
(f_L_isHit_126 k84 l0 l1 l2 l4 l5 l8 l10 l12 v44 (1 : Int32) h45)))))))
set_option maxRecDepth 20000 in
theorem t_L_isHit_84 (l0 : Nat) (l1 : Int32) (l2 : Int32) (l4 : Int32) (l5 : Int64) (l7 : Int32) (l8 : Int64) (l10 : Int32) (l11 : Int32) (l12 : Int32) (h : Hp) (k84 : (Int32 × Int64 × Int32 × Int32 × Hp) → Option (Int32 × Hp)) (hk84 : ∀ s : Int32 × Int64 × Int32 × Int32 × Hp, Sm rvI g_L_isHit 84 [.ref l0, .int l1, .int l2, .null, .int l4, .long l5, .null, .int s.1, .long s.2.1, .null, .int l10, .int s.2.2.1, .int s.2.2.2.1, .null, .null, .null, .null] [] s.2.2.2.2 (k84 s)) : Sm rvI g_L_isHit 84 [.ref l0, .int l1, .int l2, .null, .int l4, .long l5, .null, .int l7, .long l8, .null, .int l10, .int l11, .int l12, .null, .null, .null, .null] [] h (f_L_isHit_84 k84 l0 l1 l2 l4 l5 l7 l8 l10 l11 l12 h) := by
  unfold f_L_isHit_84
  refine Sm.iload dL_isHit_84 rfl rfl ?_
  refine Sm.iload dL_isHit_86 rfl rfl ?_
  refine Sm.icmp_ge (t := 227) dL_isHit_88 (by decide) rfl (fun b17 => ?_) (fun b17 => ?_)
  · refine Sm.iconst dL_isHit_227 ic_0 rfl ?_
    refine Sm.istore (lv' := [.ref l0, .int l1, .int l2, .null, .int l4, .long l5, .null, .int l7, .long l8, .null, .int l10, .int l11, .int (0 : Int32), .null, .null, .null, .null]) dL_isHit_228 (Nat.le_of_ble_eq_true rfl) rfl rfl ?_
    exact Sm.wk (Sm.loop (σ := Int32 × Int32 × Hp) (LV := fun s => [.ref l0, .int l1, .int l2, .null, .int l4, .long l5, .null, .int s.1, .long l8, .null, .int l10, .null, .int s.2.1, .null, .null, .null, .null]) (HH := fun s => s.2.2) (fun k hk s => t_L_isHit_230 l0 l1 l2 l4 l5 s.1 l8 l10 s.2.1 s.2.2 k hk) 5000 (l7, (0 : Int32), h)) ⟨Or.inr rfl, Or.inr rfl, Or.inr rfl, Or.inl rfl, Or.inr rfl, Or.inr rfl, Or.inl rfl, Or.inr rfl, Or.inr rfl, Or.inl rfl, Or.inr rfl, Or.inl rfl, Or.inr rfl, Or.inl rfl, Or.inl rfl, Or.inl rfl, Or.inl rfl, trivial⟩
  · refine Sm.iload dL_isHit_91 rfl rfl ?_
    refine Sm.if_eq (t := 227) dL_isHit_93 (by decide) rfl (fun b42 => ?_) (fun b42 => ?_)
    · refine Sm.iconst dL_isHit_227 ic_0 rfl ?_
      refine Sm.istore (lv' := [.ref l0, .int l1, .int l2, .null, .int l4, .long l5, .null, .int l7, .long l8, .null, .int l10, .int l11, .int (0 : Int32), .null, .null, .null, .null]) dL_isHit_228 (Nat.le_of_ble_eq_true rfl) rfl rfl ?_
      exact Sm.wk (Sm.loop (σ := Int32 × Int32 × Hp) (LV := fun s => [.ref l0, .int l1, .int l2, .null, .int l4, .long l5, .null, .int s.1, .long l8, .null, .int l10, .null, .int s.2.1, .null, .null, .null, .null]) (HH := fun s => s.2.2) (fun k hk s => t_L_isHit_230 l0 l1 l2 l4 l5 s.1 l8 l10 s.2.1 s.2.2 k hk) 5000 (l7, (0 : Int32), h)) ⟨Or.inr rfl, Or.inr rfl, Or.inr rfl, Or.inl rfl, Or.inr rfl, Or.inr rfl, Or.inl rfl, Or.inr rfl, Or.inr rfl, Or.inl rfl, Or.inr rfl, Or.inl rfl, Or.inr rfl, Or.inl rfl, Or.inl rfl, Or.inl rfl, Or.inl rfl, trivial⟩
    · refine Sm.aload_n dL_isHit_96 rfl rfl rfl ?_
      refine Sm.iload_n dL_isHit_97 rfl rfl rfl ?_
      refine Sm.iload dL_isHit_98 rfl rfl ?_
      refine Sm.iload dL_isHit_100 rfl rfl ?_
      refine Sm.ck (fun o43 => ?_)
      refine kc_L_89 o43 dL_isHit_102 rfl (Nat.le_of_ble_eq_true rfl) (Nat.le_of_ble_eq_true rfl) rfl (fun v44 h45 => ?_)
      refine Sm.istore (lv' := [.ref l0, .int l1, .int l2, .null, .int l4, .long l5, .null, .int l7, .long l8, .null, .int l10, .int l11, .int l12, .int v44, .null, .null, .null]) dL_isHit_105 (Nat.le_of_ble_eq_true rfl) rfl rfl ?_
      refine Sm.iload dL_isHit_107 rfl rfl ?_
      refine Sm.iload dL_isHit_109 rfl rfl ?_
      refine Sm.icmp_le (t := 125) dL_isHit_111 (by decide) rfl (fun b46 => ?_) (fun b46 => ?_)
      · exact Sm.wk (t_L_isHit_125 l0 l1 l2 l4 l5 l8 l10 l12 v44 h45 k84 hk84) ⟨Or.inr rfl, Or.inr rfl, Or.inr rfl, Or.inl rfl, Or.inr rfl, Or.inr rfl, Or.inl rfl, Or.inl rfl, Or.inr rfl, Or.inl rfl, Or.inr rfl, Or.inl rfl, Or.inr rfl, Or.inr rfl, Or.inl rfl, Or.inl rfl, Or.inl rfl, trivial⟩
      · refine Sm.iload dL_isHit_114 rfl rfl ?_
        refine Sm.bipush dL_isHit_116 bp_125 rfl ?_
        refine Sm.icmp_ge (t := 125) dL_isHit_118 (by decide) rfl (fun b55 => ?_) (fun b55 => ?_)
        · exact Sm.wk (t_L_isHit_125 l0 l1 l2 l4 l5 l8 l10 l12 v44 h45 k84 hk84) ⟨Or.inr rfl, Or.inr rfl, Or.inr rfl, Or.inl rfl, Or.inr rfl, Or.inr rfl, Or.inl rfl, Or.inl rfl, Or.inr rfl, Or.inl rfl, Or.inr rfl, Or.inl rfl, Or.inr rfl, Or.inr rfl, Or.inl rfl, Or.inl rfl, Or.inl rfl, trivial⟩
        · refine Sm.iconst dL_isHit_121 ic_1 rfl ?_
          refine Sm.goto (t := 126) dL_isHit_122 (by decide) ?_
          exact Sm.wk (t_L_isHit_126 l0 l1 l2 l4 l5 l8 l10 l12 v44 (1 : Int32) h45 k84 hk84) ⟨Or.inr rfl, Or.inr rfl, Or.inr rfl, Or.inl rfl, Or.inr rfl, Or.inr rfl, Or.inl rfl, Or.inl rfl, Or.inr rfl, Or.inl rfl, Or.inr rfl, Or.inl rfl, Or.inr rfl, Or.inr rfl, Or.inl rfl, Or.inl rfl, Or.inl rfl, trivial⟩
def f_L_isHit_39 (l0 : Nat) (l1 : Int32) (l2 : Int32) (l4 : Int32) (l5 : Int64) (s0 : Int32) (h : Hp) : Option (Int32 × Hp) :=
  (if l4 = (-1 : Int32) then
(if s0 = 0 then
(some ((0 : Int32), h))
else
(if (lg_cmp l5 (0 : Int64)) = 0 then
(some ((1 : Int32), h))
else
(some ((0 : Int32), h))))
else
(ck h l0 9
(bd (f_X9_action l0 l1 l4 (-1 : Int32) h) fun v15 h16 =>
(loopN (fun k s => f_L_isHit_84 k l0 l1 l2 l4 l5 s.1 s.2.1 v15 s.2.2.1 s.2.2.2.1 s.2.2.2.2) 5000 (s0, (0 : Int64), (-1 : Int32), (0 : Int32), h16)))))
set_option maxRecDepth 20000 in
theorem t_L_isHit_39 (l0 : Nat) (l1 : Int32) (l2 : Int32) (l4 : Int32) (l5 : Int64) (s0 : Int32) (h : Hp) : Sm rvI g_L_isHit 39 [.ref l0, .int l1, .int l2, .null, .int l4, .long l5, .null, .null, .null, .null, .null, .null, .null, .null, .null, .null, .null] [.int s0] h (f_L_isHit_39 l0 l1 l2 l4 l5 s0 h) := by
  unfold f_L_isHit_39
  refine Sm.istore (lv' := [.ref l0, .int l1, .int l2, .null, .int l4, .long l5, .null, .int s0, .null, .null, .null, .null, .null, .null, .null, .null, .null]) dL_isHit_39 (Nat.le_of_ble_eq_true rfl) rfl rfl ?_
  refine Sm.iload dL_isHit_41 rfl rfl ?_
  refine Sm.iconst dL_isHit_43 ic_m1 rfl ?_
  refine Sm.icmp_ne (t := 65) dL_isHit_44 (by decide) rfl (fun b11 => ?_) (fun b11 => ?_)
  · refine Sm.iload dL_isHit_47 rfl rfl ?_
    refine Sm.if_eq (t := 63) dL_isHit_49 (by decide) rfl (fun b12 => ?_) (fun b12 => ?_)
    · refine Sm.iconst dL_isHit_63 ic_0 rfl ?_
      exact Sm.ret dL_isHit_64 (Or.inl rfl) rfl
    · refine Sm.lload dL_isHit_52 rfl rfl ?_
      refine Sm.lconst (v := (0 : Int64)) dL_isHit_54 (by decide) rfl ?_
      refine Sm.lcmp dL_isHit_55 rfl ?_
      refine Sm.if_ne (t := 63) dL_isHit_56 (by decide) rfl (fun b13 => ?_) (fun b13 => ?_)
      · refine Sm.iconst dL_isHit_59 ic_1 rfl ?_
        refine Sm.goto (t := 64) dL_isHit_60 (by decide) ?_
        exact Sm.ret dL_isHit_64 (Or.inr rfl) rfl
      · refine Sm.iconst dL_isHit_63 ic_0 rfl ?_
        exact Sm.ret dL_isHit_64 (Or.inl rfl) rfl
  · refine Sm.lconst (v := (0 : Int64)) dL_isHit_65 (by decide) rfl ?_
    refine Sm.lstore (lv' := [.ref l0, .int l1, .int l2, .null, .int l4, .long l5, .null, .int s0, .long (0 : Int64), .null, .null, .null, .null, .null, .null, .null, .null]) dL_isHit_66 (Nat.le_of_ble_eq_true rfl) rfl rfl ?_
    refine Sm.aload_n dL_isHit_68 rfl rfl rfl ?_
    refine Sm.iload_n dL_isHit_69 rfl rfl rfl ?_
    refine Sm.iload dL_isHit_70 rfl rfl ?_
    refine Sm.iconst dL_isHit_72 ic_m1 rfl ?_
    refine Sm.ck (fun o14 => ?_)
    refine kc_L_89 o14 dL_isHit_73 rfl (Nat.le_of_ble_eq_true rfl) (Nat.le_of_ble_eq_true rfl) rfl (fun v15 h16 => ?_)
    refine Sm.istore (lv' := [.ref l0, .int l1, .int l2, .null, .int l4, .long l5, .null, .int s0, .long (0 : Int64), .null, .int v15, .null, .null, .null, .null, .null, .null]) dL_isHit_76 (Nat.le_of_ble_eq_true rfl) rfl rfl ?_
    refine Sm.iconst dL_isHit_78 ic_m1 rfl ?_
    refine Sm.istore (lv' := [.ref l0, .int l1, .int l2, .null, .int l4, .long l5, .null, .int s0, .long (0 : Int64), .null, .int v15, .int (-1 : Int32), .null, .null, .null, .null, .null]) dL_isHit_79 (Nat.le_of_ble_eq_true rfl) rfl rfl ?_
    refine Sm.iconst dL_isHit_81 ic_0 rfl ?_
    refine Sm.istore (lv' := [.ref l0, .int l1, .int l2, .null, .int l4, .long l5, .null, .int s0, .long (0 : Int64), .null, .int v15, .int (-1 : Int32), .int (0 : Int32), .null, .null, .null, .null]) dL_isHit_82 (Nat.le_of_ble_eq_true rfl) rfl rfl ?_
    exact Sm.wk (Sm.loop (σ := Int32 × Int64 × Int32 × Int32 × Hp) (LV := fun s => [.ref l0, .int l1, .int l2, .null, .int l4, .long l5, .null, .int s.1, .long s.2.1, .null, .int v15, .int s.2.2.1, .int s.2.2.2.1, .null, .null, .null, .null]) (HH := fun s => s.2.2.2.2) (fun k hk s => t_L_isHit_84 l0 l1 l2 l4 l5 s.1 s.2.1 v15 s.2.2.1 s.2.2.2.1 s.2.2.2.2 k hk) 5000 (s0, (0 : Int64), (-1 : Int32), (0 : Int32), h16)) ⟨Or.inr rfl, Or.inr rfl, Or.inr rfl, Or.inl rfl, Or.inr rfl, Or.inr rfl, Or.inl rfl, Or.inr rfl, Or.inr rfl, Or.inl rfl, Or.inr rfl, Or.inr rfl, Or.inr rfl, Or.inl rfl, Or.inl rfl, Or.inl rfl, Or.inl rfl, trivial⟩
def f_L_isHit_38 (l0 : Nat) (l1 : Int32) (l2 : Int32) (l4 : Int32) (l5 : Int64) (h : Hp) : Option (Int32 × Hp) :=
  (f_L_isHit_39 l0 l1 l2 l4 l5 (0 : Int32) h)
set_option maxRecDepth 20000 in
theorem t_L_isHit_38 (l0 : Nat) (l1 : Int32) (l2 : Int32) (l4 : Int32) (l5 : Int64) (h : Hp) : Sm rvI g_L_isHit 38 [.ref l0, .int l1, .int l2, .null, .int l4, .long l5, .null, .null, .null, .null, .null, .null, .null, .null, .null, .null, .null] [] h (f_L_isHit_38 l0 l1 l2 l4 l5 h) := by
  unfold f_L_isHit_38
  refine Sm.iconst dL_isHit_38 ic_0 rfl ?_
  exact Sm.wk (t_L_isHit_39 l0 l1 l2 l4 l5 (0 : Int32) h) ⟨Or.inr rfl, Or.inr rfl, Or.inr rfl, Or.inl rfl, Or.inr rfl, Or.inr rfl, Or.inl rfl, Or.inl rfl, Or.inl rfl, Or.inl rfl, Or.inl rfl, Or.inl rfl, Or.inl rfl, Or.inl rfl, Or.inl rfl, Or.inl rfl, Or.inl rfl, trivial⟩
def f_L_isHit (l0 : Nat) (l1 : Int32) (l2 : Int32) (h : Hp) : Option (Int32 × Hp) :=
  (ck h l0 9
(bd (f_X9_rows l0 l1 h) fun v2 h3 =>
(ck h3 l0 9
(bd (f_X9_hit l0 l1 l2 h3) fun v5 h6 =>
(ck h6 l0 9
(bd (f_X9_outputs l0 l1 l2 h6) fun v8 h9 =>
(if v5 < (-1 : Int32) then
(f_L_isHit_38 l0 l1 l2 v5 v8 h9)
else
(if v2 ≤ v5 then
(f_L_isHit_38 l0 l1 l2 v5 v8 h9)
else
(f_L_isHit_39 l0 l1 l2 v5 v8 (1 : Int32) h9)))))))))
set_option maxRecDepth 20000 in
theorem t_L_isHit (l0 : Nat) (l1 : Int32) (l2 : Int32) (h : Hp) : Sm rvI g_L_isHit 0 (ent 17 [.ref l0, .int l1, .int l2]) [] h (f_L_isHit l0 l1 l2 h) := by
  show Sm rvI g_L_isHit 0 [.ref l0, .int l1, .int l2, .null, .null, .null, .null, .null, .null, .null, .null, .null, .null, .null, .null, .null, .null] [] h _
  unfold f_L_isHit
  refine Sm.aload_n dL_isHit_0 rfl rfl rfl ?_
  refine Sm.iload_n dL_isHit_1 rfl rfl rfl ?_
  refine Sm.ck (fun o1 => ?_)
  refine kc_L_83 o1 dL_isHit_2 rfl (Nat.le_of_ble_eq_true rfl) (Nat.le_of_ble_eq_true rfl) rfl (fun v2 h3 => ?_)
  refine Sm.istore_n (lv' := [.ref l0, .int l1, .int l2, .int v2, .null, .null, .null, .null, .null, .null, .null, .null, .null, .null, .null, .null, .null]) dL_isHit_5 rfl (Nat.le_of_ble_eq_true rfl) rfl rfl ?_
  refine Sm.aload_n dL_isHit_6 rfl rfl rfl ?_
  refine Sm.iload_n dL_isHit_7 rfl rfl rfl ?_
  refine Sm.iload_n dL_isHit_8 rfl rfl rfl ?_
  refine Sm.ck (fun o4 => ?_)
  refine kc_L_86 o4 dL_isHit_9 rfl (Nat.le_of_ble_eq_true rfl) (Nat.le_of_ble_eq_true rfl) rfl (fun v5 h6 => ?_)
  refine Sm.istore (lv' := [.ref l0, .int l1, .int l2, .int v2, .int v5, .null, .null, .null, .null, .null, .null, .null, .null, .null, .null, .null, .null]) dL_isHit_12 (Nat.le_of_ble_eq_true rfl) rfl rfl ?_
  refine Sm.aload_n dL_isHit_14 rfl rfl rfl ?_
  refine Sm.iload_n dL_isHit_15 rfl rfl rfl ?_
  refine Sm.iload_n dL_isHit_16 rfl rfl rfl ?_
  refine Sm.ck (fun o7 => ?_)
  refine kc_L_54 o7 dL_isHit_17 rfl (Nat.le_of_ble_eq_true rfl) (Nat.le_of_ble_eq_true rfl) rfl (fun v8 h9 => ?_)
  refine Sm.lstore (lv' := [.ref l0, .int l1, .int l2, .int v2, .int v5, .long v8, .null, .null, .null, .null, .null, .null, .null, .null, .null, .null, .null]) dL_isHit_20 (Nat.le_of_ble_eq_true rfl) rfl rfl ?_
  refine Sm.iload dL_isHit_22 rfl rfl ?_
  refine Sm.iconst dL_isHit_24 ic_m1 rfl ?_
  refine Sm.icmp_lt (t := 38) dL_isHit_25 (by decide) rfl (fun b10 => ?_) (fun b10 => ?_)
  · exact Sm.wk (t_L_isHit_38 l0 l1 l2 v5 v8 h9) ⟨Or.inr rfl, Or.inr rfl, Or.inr rfl, Or.inl rfl, Or.inr rfl, Or.inr rfl, Or.inl rfl, Or.inl rfl, Or.inl rfl, Or.inl rfl, Or.inl rfl, Or.inl rfl, Or.inl rfl, Or.inl rfl, Or.inl rfl, Or.inl rfl, Or.inl rfl, trivial⟩
  · refine Sm.iload dL_isHit_28 rfl rfl ?_
    refine Sm.iload_n dL_isHit_30 rfl rfl rfl ?_
    refine Sm.icmp_ge (t := 38) dL_isHit_31 (by decide) rfl (fun b56 => ?_) (fun b56 => ?_)
    · exact Sm.wk (t_L_isHit_38 l0 l1 l2 v5 v8 h9) ⟨Or.inr rfl, Or.inr rfl, Or.inr rfl, Or.inl rfl, Or.inr rfl, Or.inr rfl, Or.inl rfl, Or.inl rfl, Or.inl rfl, Or.inl rfl, Or.inl rfl, Or.inl rfl, Or.inl rfl, Or.inl rfl, Or.inl rfl, Or.inl rfl, Or.inl rfl, trivial⟩
    · refine Sm.iconst dL_isHit_34 ic_1 rfl ?_
      refine Sm.goto (t := 39) dL_isHit_35 (by decide) ?_
      exact Sm.wk (t_L_isHit_39 l0 l1 l2 v5 v8 (1 : Int32) h9) ⟨Or.inr rfl, Or.inr rfl, Or.inr rfl, Or.inl rfl, Or.inr rfl, Or.inr rfl, Or.inl rfl, Or.inl rfl, Or.inl rfl, Or.inl rfl, Or.inl rfl, Or.inl rfl, Or.inl rfl, Or.inl rfl, Or.inl rfl, Or.inl rfl, Or.inl rfl, trivial⟩
set_option maxRecDepth 20000 in
theorem kc_L_130 {ρ : Type} {rv : ρ → Option Value} {G : Gx} {pc q : Nat} {lv st : List Value} {h : Hp} {x0 : Nat} {x1 : Int32} {x2 : Int32} {e : Int32 → Hp → Option (ρ × Hp)} (d : decode G.2.1 pc = .ok (.invokestatic 130, 3)) (ho : G.1.cls = RL) (hdep : (g_L_isHit).2.2.2.2 < G.2.2.2.2) (hcat : catS st ≤ 8) (hq : pc + 3 = q) (k : ∀ r h1, Sm rv G q lv (.int r :: st) h1 (e r h1)) : Sm rv G pc lv (.int x2 :: .int x1 :: .ref x0 :: st) h (bd (f_L_isHit x0 x1 x2 h) e) :=
  Sm.callS (rv' := rvI) (as := [.ref x0, .int x1, .int x2]) (n := 3) (t_L_isHit x0 x1 x2 h) ho mw_779 mw_780 mw_0 mw_781 ⟨⟨by decide, rfl, hdep, Nat.le_of_ble_eq_true rfl⟩, Nat.le_of_ble_eq_true rfl, rfl, ⟨by decide, by decide⟩, hcat⟩ (by decide +kernel) (by intro v hv; simp only [List.mem_cons, List.not_mem_nil, or_false] at hv; rcases hv with rfl | rfl | rfl <;> intro x hx <;> cases hx) d hq k rfl
abbrev g_L_isDrawn : Gx := (yL_isDrawn, cL_isDrawn, 10, (Option.some FieldType.boolean), 13)
def f_L_isDrawn_334 (l0 : Nat) (l1 : Int32) (s0 : Int32) (s1 : Int32) (h : Hp) : Option (Int32 × Hp) :=
  (if s0 = s1 then
(ck h l0 9
(bd (f_X9_isPredicate l0 l1 h) fun v38 h39 =>
(if v38 = 0 then
(some ((1 : Int32), h39))
else
(ck h39 l0 9
(bd (f_X9_spread l0 l1 h39) fun v42 h43 =>
(if (2 : Int32) ≤ v42 then
(some ((0 : Int32), h43))
else
(ck h43 l0 9
(bd (f_X9_rounds l0 l1 h43) fun v46 h47 =>
(if v46 = 0 then
(some ((1 : Int32), h47))
else
(some ((0 : Int32), h47)))))))))))
else
(some ((0 : Int32), h)))
set_option maxRecDepth 20000 in
theorem t_L_isDrawn_334 (l0 : Nat) (l1 : Int32) (s0 : Int32) (s1 : Int32) (h : Hp) : Sm rvI g_L_isDrawn 334 [.ref l0, .int l1, .null, .null, .null, .null, .null, .null, .null, .null] [.int s1, .int s0] h (f_L_isDrawn_334 l0 l1 s0 s1 h) := by
  unfold f_L_isDrawn_334
  refine Sm.icmp_ne (t := 366) dL_isDrawn_334 (by decide) rfl (fun b36 => ?_) (fun b36 => ?_)
  · refine Sm.aload_n dL_isDrawn_337 rfl rfl rfl ?_
    refine Sm.iload_n dL_isDrawn_338 rfl rfl rfl ?_
    refine Sm.ck (fun o37 => ?_)
    refine kc_L_43 o37 dL_isDrawn_339 rfl (Nat.le_of_ble_eq_true rfl) (Nat.le_of_ble_eq_true rfl) rfl (fun v38 h39 => ?_)
    refine Sm.if_eq (t := 362) dL_isDrawn_342 (by decide) rfl (fun b40 => ?_) (fun b40 => ?_)
    · refine Sm.iconst dL_isDrawn_362 ic_1 rfl ?_
      refine Sm.goto (t := 367) dL_isDrawn_363 (by decide) ?_
      exact Sm.ret dL_isDrawn_367 (Or.inr rfl) rfl
    · refine Sm.aload_n dL_isDrawn_345 rfl rfl rfl ?_
      refine Sm.iload_n dL_isDrawn_346 rfl rfl rfl ?_
      refine Sm.ck (fun o41 => ?_)
      refine kc_L_117 o41 dL_isDrawn_347 rfl (Nat.le_of_ble_eq_true rfl) (Nat.le_of_ble_eq_true rfl) rfl (fun v42 h43 => ?_)
      refine Sm.iconst dL_isDrawn_350 ic_2 rfl ?_
      refine Sm.icmp_ge (t := 366) dL_isDrawn_351 (by decide) rfl (fun b44 => ?_) (fun b44 => ?_)
      · refine Sm.iconst dL_isDrawn_366 ic_0 rfl ?_
        exact Sm.ret dL_isDrawn_367 (Or.inl rfl) rfl
      · refine Sm.aload_n dL_isDrawn_354 rfl rfl rfl ?_
        refine Sm.iload_n dL_isDrawn_355 rfl rfl rfl ?_
        refine Sm.ck (fun o45 => ?_)
        refine kc_L_71 o45 dL_isDrawn_356 rfl (Nat.le_of_ble_eq_true rfl) (Nat.le_of_ble_eq_true rfl) rfl (fun v46 h47 => ?_)
        refine Sm.if_ne (t := 366) dL_isDrawn_359 (by decide) rfl (fun b48 => ?_) (fun b48 => ?_)
        · refine Sm.iconst dL_isDrawn_362 ic_1 rfl ?_
          refine Sm.goto (t := 367) dL_isDrawn_363 (by decide) ?_
          exact Sm.ret dL_isDrawn_367 (Or.inr rfl) rfl
        · refine Sm.iconst dL_isDrawn_366 ic_0 rfl ?_
          exact Sm.ret dL_isDrawn_367 (Or.inl rfl) rfl
  · refine Sm.iconst dL_isDrawn_366 ic_0 rfl ?_
    exact Sm.ret dL_isDrawn_367 (Or.inl rfl) rfl
def f_L_isDrawn_319 (l0 : Nat) (l1 : Int32) (s0 : Int32) (h : Hp) : Option (Int32 × Hp) :=
  (ck h l0 9
(bd (f_X9_accepted l0 l1 h) fun v33 h34 =>
(if (lg_cmp v33 (0 : Int64)) = 0 then
(f_L_isDrawn_334 l0 l1 s0 (1 : Int32) h34)
else
(f_L_isDrawn_334 l0 l1 s0 (0 : Int32) h34))))
set_option maxRecDepth 20000 in
theorem t_L_isDrawn_319 (l0 : Nat) (l1 : Int32) (s0 : Int32) (h : Hp) : Sm rvI g_L_isDrawn 319 [.ref l0, .int l1, .null, .null, .null, .null, .null, .null, .null, .null] [.int s0] h (f_L_isDrawn_319 l0 l1 s0 h) := by
  unfold f_L_isDrawn_319
  refine Sm.aload_n dL_isDrawn_319 rfl rfl rfl ?_
  refine Sm.iload_n dL_isDrawn_320 rfl rfl rfl ?_
  refine Sm.ck (fun o32 => ?_)
  refine kc_L_110 o32 dL_isDrawn_321 rfl (Nat.le_of_ble_eq_true rfl) (Nat.le_of_ble_eq_true rfl) rfl (fun v33 h34 => ?_)
  refine Sm.lconst (v := (0 : Int64)) dL_isDrawn_324 (by decide) rfl ?_
  refine Sm.lcmp dL_isDrawn_325 rfl ?_
  refine Sm.if_ne (t := 333) dL_isDrawn_326 (by decide) rfl (fun b35 => ?_) (fun b35 => ?_)
  · refine Sm.iconst dL_isDrawn_329 ic_1 rfl ?_
    refine Sm.goto (t := 334) dL_isDrawn_330 (by decide) ?_
    exact Sm.wk (t_L_isDrawn_334 l0 l1 s0 (1 : Int32) h34) ⟨Or.inr rfl, Or.inr rfl, Or.inl rfl, Or.inl rfl, Or.inl rfl, Or.inl rfl, Or.inl rfl, Or.inl rfl, Or.inl rfl, Or.inl rfl, trivial⟩
  · refine Sm.iconst dL_isDrawn_333 ic_0 rfl ?_
    exact Sm.wk (t_L_isDrawn_334 l0 l1 s0 (0 : Int32) h34) ⟨Or.inr rfl, Or.inr rfl, Or.inl rfl, Or.inl rfl, Or.inl rfl, Or.inl rfl, Or.inl rfl, Or.inl rfl, Or.inl rfl, Or.inl rfl, trivial⟩
def f_L_isDrawn_271 (l0 : Nat) (l1 : Int32) (l7 : Int32) (l8 : Int32) (h : Hp) : Option (Int32 × Hp) :=
  (if l7 = 0 then
(some ((0 : Int32), h))
else
(if (64 : Int32) < l8 then
(some ((0 : Int32), h))
else
(ck h l0 9
(bd (f_X9_accepted l0 l1 h) fun v19 h20 =>
(bd (f_L_ones v19 h20) fun v21 h22 =>
(if l8 < v21 then
(some ((0 : Int32), h22))
else
(ck h22 l0 9
(bd (f_X9_spread l0 l1 h22) fun v25 h26 =>
(if (64 : Int32) < v25 then
(some ((0 : Int32), h26))
else
(ck h26 l0 9
(bd (f_X9_spread l0 l1 h26) fun v29 h30 =>
(if v29 = 0 then
(f_L_isDrawn_319 l0 l1 (1 : Int32) h30)
else
(f_L_isDrawn_319 l0 l1 (0 : Int32) h30)))))))))))))
set_option maxRecDepth 20000 in
theorem t_L_isDrawn_271 (l0 : Nat) (l1 : Int32) (l7 : Int32) (l8 : Int32) (h : Hp) : Sm rvI g_L_isDrawn 271 [.ref l0, .int l1, .null, .null, .null, .null, .null, .int l7, .int l8, .null] [] h (f_L_isDrawn_271 l0 l1 l7 l8 h) := by
  unfold f_L_isDrawn_271
  refine Sm.iload dL_isDrawn_271 rfl rfl ?_
  refine Sm.if_eq (t := 366) dL_isDrawn_273 (by decide) rfl (fun b16 => ?_) (fun b16 => ?_)
  · refine Sm.iconst dL_isDrawn_366 ic_0 rfl ?_
    exact Sm.ret dL_isDrawn_367 (Or.inl rfl) rfl
  · refine Sm.iload dL_isDrawn_276 rfl rfl ?_
    refine Sm.bipush dL_isDrawn_278 bp_64 rfl ?_
    refine Sm.icmp_gt (t := 366) dL_isDrawn_280 (by decide) rfl (fun b17 => ?_) (fun b17 => ?_)
    · refine Sm.iconst dL_isDrawn_366 ic_0 rfl ?_
      exact Sm.ret dL_isDrawn_367 (Or.inl rfl) rfl
    · refine Sm.iload dL_isDrawn_283 rfl rfl ?_
      refine Sm.aload_n dL_isDrawn_285 rfl rfl rfl ?_
      refine Sm.iload_n dL_isDrawn_286 rfl rfl rfl ?_
      refine Sm.ck (fun o18 => ?_)
      refine kc_L_110 o18 dL_isDrawn_287 rfl (Nat.le_of_ble_eq_true rfl) (Nat.le_of_ble_eq_true rfl) rfl (fun v19 h20 => ?_)
      refine kc_L_113 dL_isDrawn_290 rfl (Nat.le_of_ble_eq_true rfl) (Nat.le_of_ble_eq_true rfl) rfl (fun v21 h22 => ?_)
      refine Sm.icmp_lt (t := 366) dL_isDrawn_293 (by decide) rfl (fun b23 => ?_) (fun b23 => ?_)
      · refine Sm.iconst dL_isDrawn_366 ic_0 rfl ?_
        exact Sm.ret dL_isDrawn_367 (Or.inl rfl) rfl
      · refine Sm.aload_n dL_isDrawn_296 rfl rfl rfl ?_
        refine Sm.iload_n dL_isDrawn_297 rfl rfl rfl ?_
        refine Sm.ck (fun o24 => ?_)
        refine kc_L_117 o24 dL_isDrawn_298 rfl (Nat.le_of_ble_eq_true rfl) (Nat.le_of_ble_eq_true rfl) rfl (fun v25 h26 => ?_)
        refine Sm.bipush dL_isDrawn_301 bp_64 rfl ?_
        refine Sm.icmp_gt (t := 366) dL_isDrawn_303 (by decide) rfl (fun b27 => ?_) (fun b27 => ?_)
        · refine Sm.iconst dL_isDrawn_366 ic_0 rfl ?_
          exact Sm.ret dL_isDrawn_367 (Or.inl rfl) rfl
        · refine Sm.aload_n dL_isDrawn_306 rfl rfl rfl ?_
          refine Sm.iload_n dL_isDrawn_307 rfl rfl rfl ?_
          refine Sm.ck (fun o28 => ?_)
          refine kc_L_117 o28 dL_isDrawn_308 rfl (Nat.le_of_ble_eq_true rfl) (Nat.le_of_ble_eq_true rfl) rfl (fun v29 h30 => ?_)
          refine Sm.if_ne (t := 318) dL_isDrawn_311 (by decide) rfl (fun b31 => ?_) (fun b31 => ?_)
          · refine Sm.iconst dL_isDrawn_314 ic_1 rfl ?_
            refine Sm.goto (t := 319) dL_isDrawn_315 (by decide) ?_
            exact Sm.wk (t_L_isDrawn_319 l0 l1 (1 : Int32) h30) ⟨Or.inr rfl, Or.inr rfl, Or.inl rfl, Or.inl rfl, Or.inl rfl, Or.inl rfl, Or.inl rfl, Or.inl rfl, Or.inl rfl, Or.inl rfl, trivial⟩
          · refine Sm.iconst dL_isDrawn_318 ic_0 rfl ?_
            exact Sm.wk (t_L_isDrawn_319 l0 l1 (0 : Int32) h30) ⟨Or.inr rfl, Or.inr rfl, Or.inl rfl, Or.inl rfl, Or.inl rfl, Or.inl rfl, Or.inl rfl, Or.inl rfl, Or.inl rfl, Or.inl rfl, trivial⟩
def f_L_isDrawn_241 (k241 : (Int32 × Int32 × Hp) → Option (Int32 × Hp)) (l0 : Nat) (l1 : Int32) (l6 : Int32) (l7 : Int32) (l8 : Int32) (l9 : Int32) (h : Hp) : Option (Int32 × Hp) :=
  (if l6 ≤ l9 then
(f_L_isDrawn_271 l0 l1 l7 l8 h)
else
(if l7 = 0 then
(f_L_isDrawn_271 l0 l1 l7 l8 h)
else
(ck h l0 9
(bd (f_X9_hits l0 l1 l9 h) fun v51 h52 =>
(nm (l8 + v51) fun v53 =>
(nm (l9 + (1 : Int32)) fun v54 =>
(k241 (v53, v54, h52))))))))
set_option maxRecDepth 20000 in
theorem t_L_isDrawn_241 (l0 : Nat) (l1 : Int32) (l6 : Int32) (l7 : Int32) (l8 : Int32) (l9 : Int32) (h : Hp) (k241 : (Int32 × Int32 × Hp) → Option (Int32 × Hp)) (hk241 : ∀ s : Int32 × Int32 × Hp, Sm rvI g_L_isDrawn 241 [.ref l0, .int l1, .null, .null, .null, .null, .int l6, .int l7, .int s.1, .int s.2.1] [] s.2.2 (k241 s)) : Sm rvI g_L_isDrawn 241 [.ref l0, .int l1, .null, .null, .null, .null, .int l6, .int l7, .int l8, .int l9] [] h (f_L_isDrawn_241 k241 l0 l1 l6 l7 l8 l9 h) := by
  unfold f_L_isDrawn_241
  refine Sm.iload dL_isDrawn_241 rfl rfl ?_
  refine Sm.iload dL_isDrawn_243 rfl rfl ?_
  refine Sm.icmp_ge (t := 271) dL_isDrawn_245 (by decide) rfl (fun b15 => ?_) (fun b15 => ?_)
  · exact Sm.wk (t_L_isDrawn_271 l0 l1 l7 l8 h) ⟨Or.inr rfl, Or.inr rfl, Or.inl rfl, Or.inl rfl, Or.inl rfl, Or.inl rfl, Or.inl rfl, Or.inr rfl, Or.inr rfl, Or.inl rfl, trivial⟩
  · refine Sm.iload dL_isDrawn_248 rfl rfl ?_
    refine Sm.if_eq (t := 271) dL_isDrawn_250 (by decide) rfl (fun b49 => ?_) (fun b49 => ?_)
    · exact Sm.wk (t_L_isDrawn_271 l0 l1 l7 l8 h) ⟨Or.inr rfl, Or.inr rfl, Or.inl rfl, Or.inl rfl, Or.inl rfl, Or.inl rfl, Or.inl rfl, Or.inr rfl, Or.inr rfl, Or.inl rfl, trivial⟩
    · refine Sm.iload dL_isDrawn_253 rfl rfl ?_
      refine Sm.aload_n dL_isDrawn_255 rfl rfl rfl ?_
      refine Sm.iload_n dL_isDrawn_256 rfl rfl rfl ?_
      refine Sm.iload dL_isDrawn_257 rfl rfl ?_
      refine Sm.ck (fun o50 => ?_)
      refine kc_L_95 o50 dL_isDrawn_259 rfl (Nat.le_of_ble_eq_true rfl) (Nat.le_of_ble_eq_true rfl) rfl (fun v51 h52 => ?_)
      refine Sm.iadd dL_isDrawn_262 rfl ?_
      refine Sm.nm (LV := fun v53 => [.ref l0, .int l1, .null, .null, .null, .null, .int l6, .int l7, .int l8, .int l9]) (ST := fun v53 => [.int v53]) (fun v53 => ?_)
      refine Sm.istore (lv' := [.ref l0, .int l1, .null, .null, .null, .null, .int l6, .int l7, .int v53, .int l9]) dL_isDrawn_263 (Nat.le_of_ble_eq_true rfl) rfl rfl ?_
      refine Sm.iinc (lv' := [.ref l0, .int l1, .null, .null, .null, .null, .int l6, .int l7, .int v53, .int (l9 + (1 : Int32))]) dL_isDrawn_265 rfl ic_1 rfl rfl ?_
      refine Sm.nm (LV := fun v54 => [.ref l0, .int l1, .null, .null, .null, .null, .int l6, .int l7, .int v53, .int v54]) (ST := fun v54 => []) (fun v54 => ?_)
      refine Sm.goto (t := 241) dL_isDrawn_268 (by decide) ?_
      exact Sm.wk (hk241 (v53, v54, h52)) ⟨Or.inr rfl, Or.inr rfl, Or.inl rfl, Or.inl rfl, Or.inl rfl, Or.inl rfl, Or.inr rfl, Or.inr rfl, Or.inr rfl, Or.inr rfl, trivial⟩
def f_L_isDrawn_228 (l0 : Nat) (l1 : Int32) (l6 : Int32) (h : Hp) : Option (Int32 × Hp) :=
  (loopN (fun k s => f_L_isDrawn_241 k l0 l1 l6 (1 : Int32) s.1 s.2.1 s.2.2) 5000 ((0 : Int32), (0 : Int32), h))
set_option maxRecDepth 20000 in
theorem t_L_isDrawn_228 (l0 : Nat) (l1 : Int32) (l6 : Int32) (h : Hp) : Sm rvI g_L_isDrawn 228 [.ref l0, .int l1, .null, .null, .null, .null, .int l6, .null, .null, .null] [] h (f_L_isDrawn_228 l0 l1 l6 h) := by
  unfold f_L_isDrawn_228
  refine Sm.iconst dL_isDrawn_228 ic_1 rfl ?_
  refine Sm.goto (t := 233) dL_isDrawn_229 (by decide) ?_
  refine Sm.istore (lv' := [.ref l0, .int l1, .null, .null, .null, .null, .int l6, .int (1 : Int32), .null, .null]) dL_isDrawn_233 (Nat.le_of_ble_eq_true rfl) rfl rfl ?_
  refine Sm.iconst dL_isDrawn_235 ic_0 rfl ?_
  refine Sm.istore (lv' := [.ref l0, .int l1, .null, .null, .null, .null, .int l6, .int (1 : Int32), .int (0 : Int32), .null]) dL_isDrawn_236 (Nat.le_of_ble_eq_true rfl) rfl rfl ?_
  refine Sm.iconst dL_isDrawn_238 ic_0 rfl ?_
  refine Sm.istore (lv' := [.ref l0, .int l1, .null, .null, .null, .null, .int l6, .int (1 : Int32), .int (0 : Int32), .int (0 : Int32)]) dL_isDrawn_239 (Nat.le_of_ble_eq_true rfl) rfl rfl ?_
  exact Sm.wk (Sm.loop (σ := Int32 × Int32 × Hp) (LV := fun s => [.ref l0, .int l1, .null, .null, .null, .null, .int l6, .int (1 : Int32), .int s.1, .int s.2.1]) (HH := fun s => s.2.2) (fun k hk s => t_L_isDrawn_241 l0 l1 l6 (1 : Int32) s.1 s.2.1 s.2.2 k hk) 5000 ((0 : Int32), (0 : Int32), h)) ⟨Or.inr rfl, Or.inr rfl, Or.inl rfl, Or.inl rfl, Or.inl rfl, Or.inl rfl, Or.inr rfl, Or.inr rfl, Or.inr rfl, Or.inr rfl, trivial⟩
def f_L_isDrawn_190 (l0 : Nat) (l1 : Int32) (l2 : Int32) (l3 : Int32) (l6 : Int32) (h : Hp) : Option (Int32 × Hp) :=
  (ck h l0 9
(bd (f_X9_compare l0 l1 l2 h) fun v61 h62 =>
(if v61 = 0 then
(ck h62 l0 9
(bd (f_X9_sharedNodes l0 l1 l2 h62) fun v65 h66 =>
(if v65 = l3 then
(ck h66 l0 9
(bd (f_X9_diagramSize l0 l2 h66) fun v69 h70 =>
(if v69 = l3 then
(ck h70 l0 9
(bd (f_X9_rows l0 l2 h70) fun v73 h74 =>
(if v73 = l6 then
(f_L_isDrawn_228 l0 l1 l6 h74)
else
(loopN (fun k s => f_L_isDrawn_241 k l0 l1 l6 (0 : Int32) s.1 s.2.1 s.2.2) 5000 ((0 : Int32), (0 : Int32), h74)))))
else
(loopN (fun k s => f_L_isDrawn_241 k l0 l1 l6 (0 : Int32) s.1 s.2.1 s.2.2) 5000 ((0 : Int32), (0 : Int32), h70)))))
else
(loopN (fun k s => f_L_isDrawn_241 k l0 l1 l6 (0 : Int32) s.1 s.2.1 s.2.2) 5000 ((0 : Int32), (0 : Int32), h66)))))
else
(f_L_isDrawn_228 l0 l1 l6 h62))))
set_option maxRecDepth 20000 in
theorem t_L_isDrawn_190 (l0 : Nat) (l1 : Int32) (l2 : Int32) (l3 : Int32) (l6 : Int32) (h : Hp) : Sm rvI g_L_isDrawn 190 [.ref l0, .int l1, .int l2, .int l3, .null, .null, .int l6, .null, .null, .null] [] h (f_L_isDrawn_190 l0 l1 l2 l3 l6 h) := by
  unfold f_L_isDrawn_190
  refine Sm.aload_n dL_isDrawn_190 rfl rfl rfl ?_
  refine Sm.iload_n dL_isDrawn_191 rfl rfl rfl ?_
  refine Sm.iload_n dL_isDrawn_192 rfl rfl rfl ?_
  refine Sm.ck (fun o60 => ?_)
  refine kc_L_74 o60 dL_isDrawn_193 rfl (Nat.le_of_ble_eq_true rfl) (Nat.le_of_ble_eq_true rfl) rfl (fun v61 h62 => ?_)
  refine Sm.if_ne (t := 228) dL_isDrawn_196 (by decide) rfl (fun b63 => ?_) (fun b63 => ?_)
  · refine Sm.aload_n dL_isDrawn_199 rfl rfl rfl ?_
    refine Sm.iload_n dL_isDrawn_200 rfl rfl rfl ?_
    refine Sm.iload_n dL_isDrawn_201 rfl rfl rfl ?_
    refine Sm.ck (fun o64 => ?_)
    refine kc_L_107 o64 dL_isDrawn_202 rfl (Nat.le_of_ble_eq_true rfl) (Nat.le_of_ble_eq_true rfl) rfl (fun v65 h66 => ?_)
    refine Sm.iload_n dL_isDrawn_205 rfl rfl rfl ?_
    refine Sm.icmp_ne (t := 232) dL_isDrawn_206 (by decide) rfl (fun b67 => ?_) (fun b67 => ?_)
    · refine Sm.aload_n dL_isDrawn_209 rfl rfl rfl ?_
      refine Sm.iload_n dL_isDrawn_210 rfl rfl rfl ?_
      refine Sm.ck (fun o68 => ?_)
      refine kc_L_98 o68 dL_isDrawn_211 rfl (Nat.le_of_ble_eq_true rfl) (Nat.le_of_ble_eq_true rfl) rfl (fun v69 h70 => ?_)
      refine Sm.iload_n dL_isDrawn_214 rfl rfl rfl ?_
      refine Sm.icmp_ne (t := 232) dL_isDrawn_215 (by decide) rfl (fun b71 => ?_) (fun b71 => ?_)
      · refine Sm.aload_n dL_isDrawn_218 rfl rfl rfl ?_
        refine Sm.iload_n dL_isDrawn_219 rfl rfl rfl ?_
        refine Sm.ck (fun o72 => ?_)
        refine kc_L_83 o72 dL_isDrawn_220 rfl (Nat.le_of_ble_eq_true rfl) (Nat.le_of_ble_eq_true rfl) rfl (fun v73 h74 => ?_)
        refine Sm.iload dL_isDrawn_223 rfl rfl ?_
        refine Sm.icmp_ne (t := 232) dL_isDrawn_225 (by decide) rfl (fun b75 => ?_) (fun b75 => ?_)
        · exact Sm.wk (t_L_isDrawn_228 l0 l1 l6 h74) ⟨Or.inr rfl, Or.inr rfl, Or.inl rfl, Or.inl rfl, Or.inl rfl, Or.inl rfl, Or.inr rfl, Or.inl rfl, Or.inl rfl, Or.inl rfl, trivial⟩
        · refine Sm.iconst dL_isDrawn_232 ic_0 rfl ?_
          refine Sm.istore (lv' := [.ref l0, .int l1, .int l2, .int l3, .null, .null, .int l6, .int (0 : Int32), .null, .null]) dL_isDrawn_233 (Nat.le_of_ble_eq_true rfl) rfl rfl ?_
          refine Sm.iconst dL_isDrawn_235 ic_0 rfl ?_
          refine Sm.istore (lv' := [.ref l0, .int l1, .int l2, .int l3, .null, .null, .int l6, .int (0 : Int32), .int (0 : Int32), .null]) dL_isDrawn_236 (Nat.le_of_ble_eq_true rfl) rfl rfl ?_
          refine Sm.iconst dL_isDrawn_238 ic_0 rfl ?_
          refine Sm.istore (lv' := [.ref l0, .int l1, .int l2, .int l3, .null, .null, .int l6, .int (0 : Int32), .int (0 : Int32), .int (0 : Int32)]) dL_isDrawn_239 (Nat.le_of_ble_eq_true rfl) rfl rfl ?_
          exact Sm.wk (Sm.loop (σ := Int32 × Int32 × Hp) (LV := fun s => [.ref l0, .int l1, .null, .null, .null, .null, .int l6, .int (0 : Int32), .int s.1, .int s.2.1]) (HH := fun s => s.2.2) (fun k hk s => t_L_isDrawn_241 l0 l1 l6 (0 : Int32) s.1 s.2.1 s.2.2 k hk) 5000 ((0 : Int32), (0 : Int32), h74)) ⟨Or.inr rfl, Or.inr rfl, Or.inl rfl, Or.inl rfl, Or.inl rfl, Or.inl rfl, Or.inr rfl, Or.inr rfl, Or.inr rfl, Or.inr rfl, trivial⟩
      · refine Sm.iconst dL_isDrawn_232 ic_0 rfl ?_
        refine Sm.istore (lv' := [.ref l0, .int l1, .int l2, .int l3, .null, .null, .int l6, .int (0 : Int32), .null, .null]) dL_isDrawn_233 (Nat.le_of_ble_eq_true rfl) rfl rfl ?_
        refine Sm.iconst dL_isDrawn_235 ic_0 rfl ?_
        refine Sm.istore (lv' := [.ref l0, .int l1, .int l2, .int l3, .null, .null, .int l6, .int (0 : Int32), .int (0 : Int32), .null]) dL_isDrawn_236 (Nat.le_of_ble_eq_true rfl) rfl rfl ?_
        refine Sm.iconst dL_isDrawn_238 ic_0 rfl ?_
        refine Sm.istore (lv' := [.ref l0, .int l1, .int l2, .int l3, .null, .null, .int l6, .int (0 : Int32), .int (0 : Int32), .int (0 : Int32)]) dL_isDrawn_239 (Nat.le_of_ble_eq_true rfl) rfl rfl ?_
        exact Sm.wk (Sm.loop (σ := Int32 × Int32 × Hp) (LV := fun s => [.ref l0, .int l1, .null, .null, .null, .null, .int l6, .int (0 : Int32), .int s.1, .int s.2.1]) (HH := fun s => s.2.2) (fun k hk s => t_L_isDrawn_241 l0 l1 l6 (0 : Int32) s.1 s.2.1 s.2.2 k hk) 5000 ((0 : Int32), (0 : Int32), h70)) ⟨Or.inr rfl, Or.inr rfl, Or.inl rfl, Or.inl rfl, Or.inl rfl, Or.inl rfl, Or.inr rfl, Or.inr rfl, Or.inr rfl, Or.inr rfl, trivial⟩
    · refine Sm.iconst dL_isDrawn_232 ic_0 rfl ?_
      refine Sm.istore (lv' := [.ref l0, .int l1, .int l2, .int l3, .null, .null, .int l6, .int (0 : Int32), .null, .null]) dL_isDrawn_233 (Nat.le_of_ble_eq_true rfl) rfl rfl ?_
      refine Sm.iconst dL_isDrawn_235 ic_0 rfl ?_
      refine Sm.istore (lv' := [.ref l0, .int l1, .int l2, .int l3, .null, .null, .int l6, .int (0 : Int32), .int (0 : Int32), .null]) dL_isDrawn_236 (Nat.le_of_ble_eq_true rfl) rfl rfl ?_
      refine Sm.iconst dL_isDrawn_238 ic_0 rfl ?_
      refine Sm.istore (lv' := [.ref l0, .int l1, .int l2, .int l3, .null, .null, .int l6, .int (0 : Int32), .int (0 : Int32), .int (0 : Int32)]) dL_isDrawn_239 (Nat.le_of_ble_eq_true rfl) rfl rfl ?_
      exact Sm.wk (Sm.loop (σ := Int32 × Int32 × Hp) (LV := fun s => [.ref l0, .int l1, .null, .null, .null, .null, .int l6, .int (0 : Int32), .int s.1, .int s.2.1]) (HH := fun s => s.2.2) (fun k hk s => t_L_isDrawn_241 l0 l1 l6 (0 : Int32) s.1 s.2.1 s.2.2 k hk) 5000 ((0 : Int32), (0 : Int32), h66)) ⟨Or.inr rfl, Or.inr rfl, Or.inl rfl, Or.inl rfl, Or.inl rfl, Or.inl rfl, Or.inr rfl, Or.inr rfl, Or.inr rfl, Or.inr rfl, trivial⟩
  · exact Sm.wk (t_L_isDrawn_228 l0 l1 l6 h62) ⟨Or.inr rfl, Or.inr rfl, Or.inl rfl, Or.inl rfl, Or.inl rfl, Or.inl rfl, Or.inr rfl, Or.inl rfl, Or.inl rfl, Or.inl rfl, trivial⟩
def f_L_isDrawn_152 (l0 : Nat) (l1 : Int32) (l2 : Int32) (l3 : Int32) (l6 : Int32) (s0 : Int32) (h : Hp) : Option (Int32 × Hp) :=
  (if s0 = 0 then
(loopN (fun k s => f_L_isDrawn_241 k l0 l1 l6 (0 : Int32) s.1 s.2.1 s.2.2) 5000 ((0 : Int32), (0 : Int32), h))
else
(if l6 = 0 then
(ck h l0 9
(bd (f_X9_accepted l0 l1 h) fun v57 h58 =>
(if (lg_cmp v57 (0 : Int64)) = 0 then
(f_L_isDrawn_190 l0 l1 l2 l3 l6 h58)
else
(loopN (fun k s => f_L_isDrawn_241 k l0 l1 l6 (0 : Int32) s.1 s.2.1 s.2.2) 5000 ((0 : Int32), (0 : Int32), h58)))))
else
(ck h l0 9
(bd (f_X9_action l0 l1 (l6 - (1 : Int32)) (-1 : Int32) h) fun v77 h78 =>
(if v77 ≤ 0 then
(loopN (fun k s => f_L_isDrawn_241 k l0 l1 l6 (0 : Int32) s.1 s.2.1 s.2.2) 5000 ((0 : Int32), (0 : Int32), h78))
else
(f_L_isDrawn_190 l0 l1 l2 l3 l6 h78))))))
set_option maxRecDepth 20000 in
theorem t_L_isDrawn_152 (l0 : Nat) (l1 : Int32) (l2 : Int32) (l3 : Int32) (l6 : Int32) (s0 : Int32) (h : Hp) : Sm rvI g_L_isDrawn 152 [.ref l0, .int l1, .int l2, .int l3, .null, .null, .int l6, .null, .null, .null] [.int s0] h (f_L_isDrawn_152 l0 l1 l2 l3 l6 s0 h) := by
  unfold f_L_isDrawn_152
  refine Sm.istore (lv' := [.ref l0, .int l1, .int l2, .int l3, .null, .null, .int l6, .int s0, .null, .null]) dL_isDrawn_152 (Nat.le_of_ble_eq_true rfl) rfl rfl ?_
  refine Sm.iload dL_isDrawn_154 rfl rfl ?_
  refine Sm.if_eq (t := 232) dL_isDrawn_156 (by decide) rfl (fun b14 => ?_) (fun b14 => ?_)
  · refine Sm.iconst dL_isDrawn_232 ic_0 rfl ?_
    refine Sm.istore (lv' := [.ref l0, .int l1, .int l2, .int l3, .null, .null, .int l6, .int (0 : Int32), .null, .null]) dL_isDrawn_233 (Nat.le_of_ble_eq_true rfl) rfl rfl ?_
    refine Sm.iconst dL_isDrawn_235 ic_0 rfl ?_
    refine Sm.istore (lv' := [.ref l0, .int l1, .int l2, .int l3, .null, .null, .int l6, .int (0 : Int32), .int (0 : Int32), .null]) dL_isDrawn_236 (Nat.le_of_ble_eq_true rfl) rfl rfl ?_
    refine Sm.iconst dL_isDrawn_238 ic_0 rfl ?_
    refine Sm.istore (lv' := [.ref l0, .int l1, .int l2, .int l3, .null, .null, .int l6, .int (0 : Int32), .int (0 : Int32), .int (0 : Int32)]) dL_isDrawn_239 (Nat.le_of_ble_eq_true rfl) rfl rfl ?_
    exact Sm.wk (Sm.loop (σ := Int32 × Int32 × Hp) (LV := fun s => [.ref l0, .int l1, .null, .null, .null, .null, .int l6, .int (0 : Int32), .int s.1, .int s.2.1]) (HH := fun s => s.2.2) (fun k hk s => t_L_isDrawn_241 l0 l1 l6 (0 : Int32) s.1 s.2.1 s.2.2 k hk) 5000 ((0 : Int32), (0 : Int32), h)) ⟨Or.inr rfl, Or.inr rfl, Or.inl rfl, Or.inl rfl, Or.inl rfl, Or.inl rfl, Or.inr rfl, Or.inr rfl, Or.inr rfl, Or.inr rfl, trivial⟩
  · refine Sm.iload dL_isDrawn_159 rfl rfl ?_
    refine Sm.if_ne (t := 177) dL_isDrawn_161 (by decide) rfl (fun b55 => ?_) (fun b55 => ?_)
    · refine Sm.aload_n dL_isDrawn_164 rfl rfl rfl ?_
      refine Sm.iload_n dL_isDrawn_165 rfl rfl rfl ?_
      refine Sm.ck (fun o56 => ?_)
      refine kc_L_110 o56 dL_isDrawn_166 rfl (Nat.le_of_ble_eq_true rfl) (Nat.le_of_ble_eq_true rfl) rfl (fun v57 h58 => ?_)
      refine Sm.lconst (v := (0 : Int64)) dL_isDrawn_169 (by decide) rfl ?_
      refine Sm.lcmp dL_isDrawn_170 rfl ?_
      refine Sm.if_ne (t := 232) dL_isDrawn_171 (by decide) rfl (fun b59 => ?_) (fun b59 => ?_)
      · refine Sm.goto (t := 190) dL_isDrawn_174 (by decide) ?_
        exact Sm.wk (t_L_isDrawn_190 l0 l1 l2 l3 l6 h58) ⟨Or.inr rfl, Or.inr rfl, Or.inr rfl, Or.inr rfl, Or.inl rfl, Or.inl rfl, Or.inr rfl, Or.inl rfl, Or.inl rfl, Or.inl rfl, trivial⟩
      · refine Sm.iconst dL_isDrawn_232 ic_0 rfl ?_
        refine Sm.istore (lv' := [.ref l0, .int l1, .int l2, .int l3, .null, .null, .int l6, .int (0 : Int32), .null, .null]) dL_isDrawn_233 (Nat.le_of_ble_eq_true rfl) rfl rfl ?_
        refine Sm.iconst dL_isDrawn_235 ic_0 rfl ?_
        refine Sm.istore (lv' := [.ref l0, .int l1, .int l2, .int l3, .null, .null, .int l6, .int (0 : Int32), .int (0 : Int32), .null]) dL_isDrawn_236 (Nat.le_of_ble_eq_true rfl) rfl rfl ?_
        refine Sm.iconst dL_isDrawn_238 ic_0 rfl ?_
        refine Sm.istore (lv' := [.ref l0, .int l1, .int l2, .int l3, .null, .null, .int l6, .int (0 : Int32), .int (0 : Int32), .int (0 : Int32)]) dL_isDrawn_239 (Nat.le_of_ble_eq_true rfl) rfl rfl ?_
        exact Sm.wk (Sm.loop (σ := Int32 × Int32 × Hp) (LV := fun s => [.ref l0, .int l1, .null, .null, .null, .null, .int l6, .int (0 : Int32), .int s.1, .int s.2.1]) (HH := fun s => s.2.2) (fun k hk s => t_L_isDrawn_241 l0 l1 l6 (0 : Int32) s.1 s.2.1 s.2.2 k hk) 5000 ((0 : Int32), (0 : Int32), h58)) ⟨Or.inr rfl, Or.inr rfl, Or.inl rfl, Or.inl rfl, Or.inl rfl, Or.inl rfl, Or.inr rfl, Or.inr rfl, Or.inr rfl, Or.inr rfl, trivial⟩
    · refine Sm.aload_n dL_isDrawn_177 rfl rfl rfl ?_
      refine Sm.iload_n dL_isDrawn_178 rfl rfl rfl ?_
      refine Sm.iload dL_isDrawn_179 rfl rfl ?_
      refine Sm.iconst dL_isDrawn_181 ic_1 rfl ?_
      refine Sm.isub dL_isDrawn_182 rfl ?_
      refine Sm.iconst dL_isDrawn_183 ic_m1 rfl ?_
      refine Sm.ck (fun o76 => ?_)
      refine kc_L_89 o76 dL_isDrawn_184 rfl (Nat.le_of_ble_eq_true rfl) (Nat.le_of_ble_eq_true rfl) rfl (fun v77 h78 => ?_)
      refine Sm.if_le (t := 232) dL_isDrawn_187 (by decide) rfl (fun b79 => ?_) (fun b79 => ?_)
      · refine Sm.iconst dL_isDrawn_232 ic_0 rfl ?_
        refine Sm.istore (lv' := [.ref l0, .int l1, .int l2, .int l3, .null, .null, .int l6, .int (0 : Int32), .null, .null]) dL_isDrawn_233 (Nat.le_of_ble_eq_true rfl) rfl rfl ?_
        refine Sm.iconst dL_isDrawn_235 ic_0 rfl ?_
        refine Sm.istore (lv' := [.ref l0, .int l1, .int l2, .int l3, .null, .null, .int l6, .int (0 : Int32), .int (0 : Int32), .null]) dL_isDrawn_236 (Nat.le_of_ble_eq_true rfl) rfl rfl ?_
        refine Sm.iconst dL_isDrawn_238 ic_0 rfl ?_
        refine Sm.istore (lv' := [.ref l0, .int l1, .int l2, .int l3, .null, .null, .int l6, .int (0 : Int32), .int (0 : Int32), .int (0 : Int32)]) dL_isDrawn_239 (Nat.le_of_ble_eq_true rfl) rfl rfl ?_
        exact Sm.wk (Sm.loop (σ := Int32 × Int32 × Hp) (LV := fun s => [.ref l0, .int l1, .null, .null, .null, .null, .int l6, .int (0 : Int32), .int s.1, .int s.2.1]) (HH := fun s => s.2.2) (fun k hk s => t_L_isDrawn_241 l0 l1 l6 (0 : Int32) s.1 s.2.1 s.2.2 k hk) 5000 ((0 : Int32), (0 : Int32), h78)) ⟨Or.inr rfl, Or.inr rfl, Or.inl rfl, Or.inl rfl, Or.inl rfl, Or.inl rfl, Or.inr rfl, Or.inr rfl, Or.inr rfl, Or.inr rfl, trivial⟩
      · exact Sm.wk (t_L_isDrawn_190 l0 l1 l2 l3 l6 h78) ⟨Or.inr rfl, Or.inr rfl, Or.inr rfl, Or.inr rfl, Or.inl rfl, Or.inl rfl, Or.inr rfl, Or.inl rfl, Or.inl rfl, Or.inl rfl, trivial⟩
def f_L_isDrawn_151 (l0 : Nat) (l1 : Int32) (l2 : Int32) (l3 : Int32) (l6 : Int32) (h : Hp) : Option (Int32 × Hp) :=
  (f_L_isDrawn_152 l0 l1 l2 l3 l6 (0 : Int32) h)
set_option maxRecDepth 20000 in
theorem t_L_isDrawn_151 (l0 : Nat) (l1 : Int32) (l2 : Int32) (l3 : Int32) (l6 : Int32) (h : Hp) : Sm rvI g_L_isDrawn 151 [.ref l0, .int l1, .int l2, .int l3, .null, .null, .int l6, .null, .null, .null] [] h (f_L_isDrawn_151 l0 l1 l2 l3 l6 h) := by
  unfold f_L_isDrawn_151
  refine Sm.iconst dL_isDrawn_151 ic_0 rfl ?_
  exact Sm.wk (t_L_isDrawn_152 l0 l1 l2 l3 l6 (0 : Int32) h) ⟨Or.inr rfl, Or.inr rfl, Or.inr rfl, Or.inr rfl, Or.inl rfl, Or.inl rfl, Or.inr rfl, Or.inl rfl, Or.inl rfl, Or.inl rfl, trivial⟩
def f_L_isDrawn_100 (l0 : Nat) (l1 : Int32) (l2 : Int32) (l3 : Int32) (l6 : Int32) (h : Hp) : Option (Int32 × Hp) :=
  (ck h l0 9
(bd (f_X9_sharedNodes l0 l1 l1 h) fun v90 h91 =>
(if v90 = l3 then
(ck h91 l0 9
(bd (f_X9_sharedNodes l0 l1 l2 h91) fun v94 h95 =>
(ck h95 l0 9
(bd (f_X9_sharedNodes l0 l2 l1 h95) fun v97 h98 =>
(if v94 = v97 then
(ck h98 l0 9
(bd (f_X9_sharedNodes l0 l1 l2 h98) fun v101 h102 =>
(if l3 < v101 then
(f_L_isDrawn_151 l0 l1 l2 l3 l6 h102)
else
(if l6 < 0 then
(f_L_isDrawn_151 l0 l1 l2 l3 l6 h102)
else
(if (65 : Int32) ≤ l6 then
(f_L_isDrawn_151 l0 l1 l2 l3 l6 h102)
else
(f_L_isDrawn_152 l0 l1 l2 l3 l6 (1 : Int32) h102))))))
else
(f_L_isDrawn_151 l0 l1 l2 l3 l6 h98))))))
else
(f_L_isDrawn_151 l0 l1 l2 l3 l6 h91))))
set_option maxRecDepth 20000 in
theorem t_L_isDrawn_100 (l0 : Nat) (l1 : Int32) (l2 : Int32) (l3 : Int32) (l6 : Int32) (h : Hp) : Sm rvI g_L_isDrawn 100 [.ref l0, .int l1, .int l2, .int l3, .null, .null, .int l6, .null, .null, .null] [] h (f_L_isDrawn_100 l0 l1 l2 l3 l6 h) := by
  unfold f_L_isDrawn_100
  refine Sm.aload_n dL_isDrawn_100 rfl rfl rfl ?_
  refine Sm.iload_n dL_isDrawn_101 rfl rfl rfl ?_
  refine Sm.iload_n dL_isDrawn_102 rfl rfl rfl ?_
  refine Sm.ck (fun o89 => ?_)
  refine kc_L_107 o89 dL_isDrawn_103 rfl (Nat.le_of_ble_eq_true rfl) (Nat.le_of_ble_eq_true rfl) rfl (fun v90 h91 => ?_)
  refine Sm.iload_n dL_isDrawn_106 rfl rfl rfl ?_
  refine Sm.icmp_ne (t := 151) dL_isDrawn_107 (by decide) rfl (fun b92 => ?_) (fun b92 => ?_)
  · refine Sm.aload_n dL_isDrawn_110 rfl rfl rfl ?_
    refine Sm.iload_n dL_isDrawn_111 rfl rfl rfl ?_
    refine Sm.iload_n dL_isDrawn_112 rfl rfl rfl ?_
    refine Sm.ck (fun o93 => ?_)
    refine kc_L_107 o93 dL_isDrawn_113 rfl (Nat.le_of_ble_eq_true rfl) (Nat.le_of_ble_eq_true rfl) rfl (fun v94 h95 => ?_)
    refine Sm.aload_n dL_isDrawn_116 rfl rfl rfl ?_
    refine Sm.iload_n dL_isDrawn_117 rfl rfl rfl ?_
    refine Sm.iload_n dL_isDrawn_118 rfl rfl rfl ?_
    refine Sm.ck (fun o96 => ?_)
    refine kc_L_107 o96 dL_isDrawn_119 rfl (Nat.le_of_ble_eq_true rfl) (Nat.le_of_ble_eq_true rfl) rfl (fun v97 h98 => ?_)
    refine Sm.icmp_ne (t := 151) dL_isDrawn_122 (by decide) rfl (fun b99 => ?_) (fun b99 => ?_)
    · refine Sm.aload_n dL_isDrawn_125 rfl rfl rfl ?_
      refine Sm.iload_n dL_isDrawn_126 rfl rfl rfl ?_
      refine Sm.iload_n dL_isDrawn_127 rfl rfl rfl ?_
      refine Sm.ck (fun o100 => ?_)
      refine kc_L_107 o100 dL_isDrawn_128 rfl (Nat.le_of_ble_eq_true rfl) (Nat.le_of_ble_eq_true rfl) rfl (fun v101 h102 => ?_)
      refine Sm.iload_n dL_isDrawn_131 rfl rfl rfl ?_
      refine Sm.icmp_gt (t := 151) dL_isDrawn_132 (by decide) rfl (fun b103 => ?_) (fun b103 => ?_)
      · exact Sm.wk (t_L_isDrawn_151 l0 l1 l2 l3 l6 h102) ⟨Or.inr rfl, Or.inr rfl, Or.inr rfl, Or.inr rfl, Or.inl rfl, Or.inl rfl, Or.inr rfl, Or.inl rfl, Or.inl rfl, Or.inl rfl, trivial⟩
      · refine Sm.iload dL_isDrawn_135 rfl rfl ?_
        refine Sm.if_lt (t := 151) dL_isDrawn_137 (by decide) rfl (fun b104 => ?_) (fun b104 => ?_)
        · exact Sm.wk (t_L_isDrawn_151 l0 l1 l2 l3 l6 h102) ⟨Or.inr rfl, Or.inr rfl, Or.inr rfl, Or.inr rfl, Or.inl rfl, Or.inl rfl, Or.inr rfl, Or.inl rfl, Or.inl rfl, Or.inl rfl, trivial⟩
        · refine Sm.iload dL_isDrawn_140 rfl rfl ?_
          refine Sm.bipush dL_isDrawn_142 bp_65 rfl ?_
          refine Sm.icmp_ge (t := 151) dL_isDrawn_144 (by decide) rfl (fun b105 => ?_) (fun b105 => ?_)
          · exact Sm.wk (t_L_isDrawn_151 l0 l1 l2 l3 l6 h102) ⟨Or.inr rfl, Or.inr rfl, Or.inr rfl, Or.inr rfl, Or.inl rfl, Or.inl rfl, Or.inr rfl, Or.inl rfl, Or.inl rfl, Or.inl rfl, trivial⟩
          · refine Sm.iconst dL_isDrawn_147 ic_1 rfl ?_
            refine Sm.goto (t := 152) dL_isDrawn_148 (by decide) ?_
            exact Sm.wk (t_L_isDrawn_152 l0 l1 l2 l3 l6 (1 : Int32) h102) ⟨Or.inr rfl, Or.inr rfl, Or.inr rfl, Or.inr rfl, Or.inl rfl, Or.inl rfl, Or.inr rfl, Or.inl rfl, Or.inl rfl, Or.inl rfl, trivial⟩
    · exact Sm.wk (t_L_isDrawn_151 l0 l1 l2 l3 l6 h98) ⟨Or.inr rfl, Or.inr rfl, Or.inr rfl, Or.inr rfl, Or.inl rfl, Or.inl rfl, Or.inr rfl, Or.inl rfl, Or.inl rfl, Or.inl rfl, trivial⟩
  · exact Sm.wk (t_L_isDrawn_151 l0 l1 l2 l3 l6 h91) ⟨Or.inr rfl, Or.inr rfl, Or.inr rfl, Or.inr rfl, Or.inl rfl, Or.inl rfl, Or.inr rfl, Or.inl rfl, Or.inl rfl, Or.inl rfl, trivial⟩
def f_L_isDrawn_86 (l0 : Nat) (l1 : Int32) (l2 : Int32) (l3 : Int32) (l4 : Int32) (l5 : Int32) (l6 : Int32) (s0 : Int32) (s1 : Int32) (h : Hp) : Option (Int32 × Hp) :=
  (if s0 = s1 then
(if 0 < l5 then
(f_L_isDrawn_100 l0 l1 l2 l3 l6 h)
else
(if l4 = (1 : Int32) then
(f_L_isDrawn_100 l0 l1 l2 l3 l6 h)
else
(f_L_isDrawn_151 l0 l1 l2 l3 l6 h)))
else
(f_L_isDrawn_151 l0 l1 l2 l3 l6 h))
set_option maxRecDepth 20000 in
theorem t_L_isDrawn_86 (l0 : Nat) (l1 : Int32) (l2 : Int32) (l3 : Int32) (l4 : Int32) (l5 : Int32) (l6 : Int32) (s0 : Int32) (s1 : Int32) (h : Hp) : Sm rvI g_L_isDrawn 86 [.ref l0, .int l1, .int l2, .int l3, .int l4, .int l5, .int l6, .null, .null, .null] [.int s1, .int s0] h (f_L_isDrawn_86 l0 l1 l2 l3 l4 l5 l6 s0 s1 h) := by
  unfold f_L_isDrawn_86
  refine Sm.icmp_ne (t := 151) dL_isDrawn_86 (by decide) rfl (fun b87 => ?_) (fun b87 => ?_)
  · refine Sm.iload dL_isDrawn_89 rfl rfl ?_
    refine Sm.if_gt (t := 100) dL_isDrawn_91 (by decide) rfl (fun b88 => ?_) (fun b88 => ?_)
    · exact Sm.wk (t_L_isDrawn_100 l0 l1 l2 l3 l6 h) ⟨Or.inr rfl, Or.inr rfl, Or.inr rfl, Or.inr rfl, Or.inl rfl, Or.inl rfl, Or.inr rfl, Or.inl rfl, Or.inl rfl, Or.inl rfl, trivial⟩
    · refine Sm.iload dL_isDrawn_94 rfl rfl ?_
      refine Sm.iconst dL_isDrawn_96 ic_1 rfl ?_
      refine Sm.icmp_ne (t := 151) dL_isDrawn_97 (by decide) rfl (fun b106 => ?_) (fun b106 => ?_)
      · exact Sm.wk (t_L_isDrawn_100 l0 l1 l2 l3 l6 h) ⟨Or.inr rfl, Or.inr rfl, Or.inr rfl, Or.inr rfl, Or.inl rfl, Or.inl rfl, Or.inr rfl, Or.inl rfl, Or.inl rfl, Or.inl rfl, trivial⟩
      · exact Sm.wk (t_L_isDrawn_151 l0 l1 l2 l3 l6 h) ⟨Or.inr rfl, Or.inr rfl, Or.inr rfl, Or.inr rfl, Or.inl rfl, Or.inl rfl, Or.inr rfl, Or.inl rfl, Or.inl rfl, Or.inl rfl, trivial⟩
  · exact Sm.wk (t_L_isDrawn_151 l0 l1 l2 l3 l6 h) ⟨Or.inr rfl, Or.inr rfl, Or.inr rfl, Or.inr rfl, Or.inl rfl, Or.inl rfl, Or.inr rfl, Or.inl rfl, Or.inl rfl, Or.inl rfl, trivial⟩
def f_L_isDrawn_75 (l0 : Nat) (l1 : Int32) (l2 : Int32) (l3 : Int32) (l4 : Int32) (l5 : Int32) (l6 : Int32) (s0 : Int32) (h : Hp) : Option (Int32 × Hp) :=
  (if l3 = l4 then
(f_L_isDrawn_86 l0 l1 l2 l3 l4 l5 l6 s0 (1 : Int32) h)
else
(f_L_isDrawn_86 l0 l1 l2 l3 l4 l5 l6 s0 (0 : Int32) h))
set_option maxRecDepth 20000 in
theorem t_L_isDrawn_75 (l0 : Nat) (l1 : Int32) (l2 : Int32) (l3 : Int32) (l4 : Int32) (l5 : Int32) (l6 : Int32) (s0 : Int32) (h : Hp) : Sm rvI g_L_isDrawn 75 [.ref l0, .int l1, .int l2, .int l3, .int l4, .int l5, .int l6, .null, .null, .null] [.int s0] h (f_L_isDrawn_75 l0 l1 l2 l3 l4 l5 l6 s0 h) := by
  unfold f_L_isDrawn_75
  refine Sm.iload_n dL_isDrawn_75 rfl rfl rfl ?_
  refine Sm.iload dL_isDrawn_76 rfl rfl ?_
  refine Sm.icmp_ne (t := 85) dL_isDrawn_78 (by decide) rfl (fun b86 => ?_) (fun b86 => ?_)
  · refine Sm.iconst dL_isDrawn_81 ic_1 rfl ?_
    refine Sm.goto (t := 86) dL_isDrawn_82 (by decide) ?_
    exact Sm.wk (t_L_isDrawn_86 l0 l1 l2 l3 l4 l5 l6 s0 (1 : Int32) h) ⟨Or.inr rfl, Or.inr rfl, Or.inr rfl, Or.inr rfl, Or.inr rfl, Or.inr rfl, Or.inr rfl, Or.inl rfl, Or.inl rfl, Or.inl rfl, trivial⟩
  · refine Sm.iconst dL_isDrawn_85 ic_0 rfl ?_
    exact Sm.wk (t_L_isDrawn_86 l0 l1 l2 l3 l4 l5 l6 s0 (0 : Int32) h) ⟨Or.inr rfl, Or.inr rfl, Or.inr rfl, Or.inr rfl, Or.inr rfl, Or.inr rfl, Or.inr rfl, Or.inl rfl, Or.inl rfl, Or.inl rfl, trivial⟩
def f_L_isDrawn (l0 : Nat) (l1 : Int32) (l2 : Int32) (h : Hp) : Option (Int32 × Hp) :=
  (ck h l0 9
(bd (f_X9_diagramSize l0 l1 h) fun v2 h3 =>
(ck h3 l0 9
(bd (f_X9_leaves l0 l1 h3) fun v5 h6 =>
(ck h6 l0 9
(bd (f_X9_diagramDepth l0 l1 h6) fun v8 h9 =>
(ck h9 l0 9
(bd (f_X9_rows l0 l1 h9) fun v11 h12 =>
(if v5 ≤ 0 then
(f_L_isDrawn_151 l0 l1 l2 v2 v11 h12)
else
(if (65 : Int32) ≤ v5 then
(f_L_isDrawn_151 l0 l1 l2 v2 v11 h12)
else
(if v2 < v5 then
(f_L_isDrawn_151 l0 l1 l2 v2 v11 h12)
else
(if (v5 + (22 : Int32)) ≤ v2 then
(f_L_isDrawn_151 l0 l1 l2 v2 v11 h12)
else
(if v8 < 0 then
(f_L_isDrawn_151 l0 l1 l2 v2 v11 h12)
else
(if (4 : Int32) ≤ v8 then
(f_L_isDrawn_151 l0 l1 l2 v2 v11 h12)
else
(if v8 = 0 then
(f_L_isDrawn_75 l0 l1 l2 v2 v5 v8 v11 (1 : Int32) h12)
else
(f_L_isDrawn_75 l0 l1 l2 v2 v5 v8 v11 (0 : Int32) h12))))))))))))))))
set_option maxRecDepth 20000 in
theorem t_L_isDrawn (l0 : Nat) (l1 : Int32) (l2 : Int32) (h : Hp) : Sm rvI g_L_isDrawn 0 (ent 10 [.ref l0, .int l1, .int l2]) [] h (f_L_isDrawn l0 l1 l2 h) := by
  show Sm rvI g_L_isDrawn 0 [.ref l0, .int l1, .int l2, .null, .null, .null, .null, .null, .null, .null] [] h _
  unfold f_L_isDrawn
  refine Sm.aload_n dL_isDrawn_0 rfl rfl rfl ?_
  refine Sm.iload_n dL_isDrawn_1 rfl rfl rfl ?_
  refine Sm.ck (fun o1 => ?_)
  refine kc_L_98 o1 dL_isDrawn_2 rfl (Nat.le_of_ble_eq_true rfl) (Nat.le_of_ble_eq_true rfl) rfl (fun v2 h3 => ?_)
  refine Sm.istore_n (lv' := [.ref l0, .int l1, .int l2, .int v2, .null, .null, .null, .null, .null, .null]) dL_isDrawn_5 rfl (Nat.le_of_ble_eq_true rfl) rfl rfl ?_
  refine Sm.aload_n dL_isDrawn_6 rfl rfl rfl ?_
  refine Sm.iload_n dL_isDrawn_7 rfl rfl rfl ?_
  refine Sm.ck (fun o4 => ?_)
  refine kc_L_101 o4 dL_isDrawn_8 rfl (Nat.le_of_ble_eq_true rfl) (Nat.le_of_ble_eq_true rfl) rfl (fun v5 h6 => ?_)
  refine Sm.istore (lv' := [.ref l0, .int l1, .int l2, .int v2, .int v5, .null, .null, .null, .null, .null]) dL_isDrawn_11 (Nat.le_of_ble_eq_true rfl) rfl rfl ?_
  refine Sm.aload_n dL_isDrawn_13 rfl rfl rfl ?_
  refine Sm.iload_n dL_isDrawn_14 rfl rfl rfl ?_
  refine Sm.ck (fun o7 => ?_)
  refine kc_L_104 o7 dL_isDrawn_15 rfl (Nat.le_of_ble_eq_true rfl) (Nat.le_of_ble_eq_true rfl) rfl (fun v8 h9 => ?_)
  refine Sm.istore (lv' := [.ref l0, .int l1, .int l2, .int v2, .int v5, .int v8, .null, .null, .null, .null]) dL_isDrawn_18 (Nat.le_of_ble_eq_true rfl) rfl rfl ?_
  refine Sm.aload_n dL_isDrawn_20 rfl rfl rfl ?_
  refine Sm.iload_n dL_isDrawn_21 rfl rfl rfl ?_
  refine Sm.ck (fun o10 => ?_)
  refine kc_L_83 o10 dL_isDrawn_22 rfl (Nat.le_of_ble_eq_true rfl) (Nat.le_of_ble_eq_true rfl) rfl (fun v11 h12 => ?_)
  refine Sm.istore (lv' := [.ref l0, .int l1, .int l2, .int v2, .int v5, .int v8, .int v11, .null, .null, .null]) dL_isDrawn_25 (Nat.le_of_ble_eq_true rfl) rfl rfl ?_
  refine Sm.iload dL_isDrawn_27 rfl rfl ?_
  refine Sm.if_le (t := 151) dL_isDrawn_29 (by decide) rfl (fun b13 => ?_) (fun b13 => ?_)
  · exact Sm.wk (t_L_isDrawn_151 l0 l1 l2 v2 v11 h12) ⟨Or.inr rfl, Or.inr rfl, Or.inr rfl, Or.inr rfl, Or.inl rfl, Or.inl rfl, Or.inr rfl, Or.inl rfl, Or.inl rfl, Or.inl rfl, trivial⟩
  · refine Sm.iload dL_isDrawn_32 rfl rfl ?_
    refine Sm.bipush dL_isDrawn_34 bp_65 rfl ?_
    refine Sm.icmp_ge (t := 151) dL_isDrawn_36 (by decide) rfl (fun b80 => ?_) (fun b80 => ?_)
    · exact Sm.wk (t_L_isDrawn_151 l0 l1 l2 v2 v11 h12) ⟨Or.inr rfl, Or.inr rfl, Or.inr rfl, Or.inr rfl, Or.inl rfl, Or.inl rfl, Or.inr rfl, Or.inl rfl, Or.inl rfl, Or.inl rfl, trivial⟩
    · refine Sm.iload_n dL_isDrawn_39 rfl rfl rfl ?_
      refine Sm.iload dL_isDrawn_40 rfl rfl ?_
      refine Sm.icmp_lt (t := 151) dL_isDrawn_42 (by decide) rfl (fun b81 => ?_) (fun b81 => ?_)
      · exact Sm.wk (t_L_isDrawn_151 l0 l1 l2 v2 v11 h12) ⟨Or.inr rfl, Or.inr rfl, Or.inr rfl, Or.inr rfl, Or.inl rfl, Or.inl rfl, Or.inr rfl, Or.inl rfl, Or.inl rfl, Or.inl rfl, trivial⟩
      · refine Sm.iload_n dL_isDrawn_45 rfl rfl rfl ?_
        refine Sm.iload dL_isDrawn_46 rfl rfl ?_
        refine Sm.bipush dL_isDrawn_48 bp_22 rfl ?_
        refine Sm.iadd dL_isDrawn_50 rfl ?_
        refine Sm.icmp_ge (t := 151) dL_isDrawn_51 (by decide) rfl (fun b82 => ?_) (fun b82 => ?_)
        · exact Sm.wk (t_L_isDrawn_151 l0 l1 l2 v2 v11 h12) ⟨Or.inr rfl, Or.inr rfl, Or.inr rfl, Or.inr rfl, Or.inl rfl, Or.inl rfl, Or.inr rfl, Or.inl rfl, Or.inl rfl, Or.inl rfl, trivial⟩
        · refine Sm.iload dL_isDrawn_54 rfl rfl ?_
          refine Sm.if_lt (t := 151) dL_isDrawn_56 (by decide) rfl (fun b83 => ?_) (fun b83 => ?_)
          · exact Sm.wk (t_L_isDrawn_151 l0 l1 l2 v2 v11 h12) ⟨Or.inr rfl, Or.inr rfl, Or.inr rfl, Or.inr rfl, Or.inl rfl, Or.inl rfl, Or.inr rfl, Or.inl rfl, Or.inl rfl, Or.inl rfl, trivial⟩
          · refine Sm.iload dL_isDrawn_59 rfl rfl ?_
            refine Sm.iconst dL_isDrawn_61 ic_4 rfl ?_
            refine Sm.icmp_ge (t := 151) dL_isDrawn_62 (by decide) rfl (fun b84 => ?_) (fun b84 => ?_)
            · exact Sm.wk (t_L_isDrawn_151 l0 l1 l2 v2 v11 h12) ⟨Or.inr rfl, Or.inr rfl, Or.inr rfl, Or.inr rfl, Or.inl rfl, Or.inl rfl, Or.inr rfl, Or.inl rfl, Or.inl rfl, Or.inl rfl, trivial⟩
            · refine Sm.iload dL_isDrawn_65 rfl rfl ?_
              refine Sm.if_ne (t := 74) dL_isDrawn_67 (by decide) rfl (fun b85 => ?_) (fun b85 => ?_)
              · refine Sm.iconst dL_isDrawn_70 ic_1 rfl ?_
                refine Sm.goto (t := 75) dL_isDrawn_71 (by decide) ?_
                exact Sm.wk (t_L_isDrawn_75 l0 l1 l2 v2 v5 v8 v11 (1 : Int32) h12) ⟨Or.inr rfl, Or.inr rfl, Or.inr rfl, Or.inr rfl, Or.inr rfl, Or.inr rfl, Or.inr rfl, Or.inl rfl, Or.inl rfl, Or.inl rfl, trivial⟩
              · refine Sm.iconst dL_isDrawn_74 ic_0 rfl ?_
                exact Sm.wk (t_L_isDrawn_75 l0 l1 l2 v2 v5 v8 v11 (0 : Int32) h12) ⟨Or.inr rfl, Or.inr rfl, Or.inr rfl, Or.inr rfl, Or.inr rfl, Or.inr rfl, Or.inr rfl, Or.inl rfl, Or.inl rfl, Or.inl rfl, trivial⟩
set_option maxRecDepth 20000 in
theorem kc_L_126 {ρ : Type} {rv : ρ → Option Value} {G : Gx} {pc q : Nat} {lv st : List Value} {h : Hp} {x0 : Nat} {x1 : Int32} {x2 : Int32} {e : Int32 → Hp → Option (ρ × Hp)} (d : decode G.2.1 pc = .ok (.invokestatic 126, 3)) (ho : G.1.cls = RL) (hdep : (g_L_isDrawn).2.2.2.2 < G.2.2.2.2) (hcat : catS st ≤ 8) (hq : pc + 3 = q) (k : ∀ r h1, Sm rv G q lv (.int r :: st) h1 (e r h1)) : Sm rv G pc lv (.int x2 :: .int x1 :: .ref x0 :: st) h (bd (f_L_isDrawn x0 x1 x2 h) e) :=
  Sm.callS (rv' := rvI) (as := [.ref x0, .int x1, .int x2]) (n := 3) (t_L_isDrawn x0 x1 x2 h) ho mw_848 mw_849 mw_0 mw_850 ⟨⟨by decide, rfl, hdep, Nat.le_of_ble_eq_true rfl⟩, Nat.le_of_ble_eq_true rfl, rfl, ⟨by decide, by decide⟩, hcat⟩ (by decide +kernel) (by intro v hv; simp only [List.mem_cons, List.not_mem_nil, or_false] at hv; rcases hv with rfl | rfl | rfl <;> intro x hx <;> cases hx) d hq k rfl
abbrev g_L_refused : Gx := (yL_refused, cL_refused, 5, (Option.some FieldType.boolean), 14)
def f_L_refused_278 (l0 : Nat) (l1 : Int64) (l3 : Int32) (s0 : Int32) (h : Hp) : Option (Int32 × Hp) :=
  (if s0 = 0 then
(some ((0 : Int32), h))
else
(ck h l0 9
(bd (f_X9_errorCount l0 (-2 : Int32) h) fun v104 h105 =>
(if v104 = (l3 + (24 : Int32)) then
(bd (f_L_print l0 h105) fun v107 h108 =>
(if (lg_cmp v107 l1) = 0 then
(some ((1 : Int32), h108))
else
(some ((0 : Int32), h108))))
else
(some ((0 : Int32), h105))))))
set_option maxRecDepth 20000 in
theorem t_L_refused_278 (l0 : Nat) (l1 : Int64) (l3 : Int32) (s0 : Int32) (h : Hp) : Sm rvI g_L_refused 278 [.ref l0, .long l1, .null, .int l3, .null] [.int s0] h (f_L_refused_278 l0 l1 l3 s0 h) := by
  unfold f_L_refused_278
  refine Sm.istore (lv' := [.ref l0, .long l1, .null, .int l3, .int s0]) dL_refused_278 (Nat.le_of_ble_eq_true rfl) rfl rfl ?_
  refine Sm.iload dL_refused_280 rfl rfl ?_
  refine Sm.if_eq (t := 311) dL_refused_282 (by decide) rfl (fun b102 => ?_) (fun b102 => ?_)
  · refine Sm.iconst dL_refused_311 ic_0 rfl ?_
    exact Sm.ret dL_refused_312 (Or.inl rfl) rfl
  · refine Sm.aload_n dL_refused_285 rfl rfl rfl ?_
    refine Sm.bipush dL_refused_286 bp_m2 rfl ?_
    refine Sm.ck (fun o103 => ?_)
    refine kc_L_120 o103 dL_refused_288 rfl (Nat.le_of_ble_eq_true rfl) (Nat.le_of_ble_eq_true rfl) rfl (fun v104 h105 => ?_)
    refine Sm.iload_n dL_refused_291 rfl rfl rfl ?_
    refine Sm.bipush dL_refused_292 bp_24 rfl ?_
    refine Sm.iadd dL_refused_294 rfl ?_
    refine Sm.icmp_ne (t := 311) dL_refused_295 (by decide) rfl (fun b106 => ?_) (fun b106 => ?_)
    · refine Sm.aload_n dL_refused_298 rfl rfl rfl ?_
      refine kc_L_50 dL_refused_299 rfl (Nat.le_of_ble_eq_true rfl) (Nat.le_of_ble_eq_true rfl) rfl (fun v107 h108 => ?_)
      refine Sm.lload_n dL_refused_302 rfl rfl rfl ?_
      refine Sm.lcmp dL_refused_303 rfl ?_
      refine Sm.if_ne (t := 311) dL_refused_304 (by decide) rfl (fun b109 => ?_) (fun b109 => ?_)
      · refine Sm.iconst dL_refused_307 ic_1 rfl ?_
        refine Sm.goto (t := 312) dL_refused_308 (by decide) ?_
        exact Sm.ret dL_refused_312 (Or.inr rfl) rfl
      · refine Sm.iconst dL_refused_311 ic_0 rfl ?_
        exact Sm.ret dL_refused_312 (Or.inl rfl) rfl
    · refine Sm.iconst dL_refused_311 ic_0 rfl ?_
      exact Sm.ret dL_refused_312 (Or.inl rfl) rfl
def f_L_refused_277 (l0 : Nat) (l1 : Int64) (l3 : Int32) (h : Hp) : Option (Int32 × Hp) :=
  (f_L_refused_278 l0 l1 l3 (0 : Int32) h)
set_option maxRecDepth 20000 in
theorem t_L_refused_277 (l0 : Nat) (l1 : Int64) (l3 : Int32) (h : Hp) : Sm rvI g_L_refused 277 [.ref l0, .long l1, .null, .int l3, .null] [] h (f_L_refused_277 l0 l1 l3 h) := by
  unfold f_L_refused_277
  refine Sm.iconst dL_refused_277 ic_0 rfl ?_
  exact Sm.wk (t_L_refused_278 l0 l1 l3 (0 : Int32) h) ⟨Or.inr rfl, Or.inr rfl, Or.inl rfl, Or.inr rfl, Or.inl rfl, trivial⟩
def f_L_refused (l0 : Nat) (h : Hp) : Option (Int32 × Hp) :=
  (bd (f_L_print l0 h) fun v1 h2 =>
(ck h2 l0 9
(bd (f_X9_errorCount l0 (-2 : Int32) h2) fun v4 h5 =>
(ck h5 l0 9
(bd (f_X9_append l0 (-1 : Int32) h5) fun v7 h8 =>
(if v7 = (-2 : Int32) then
(ck h8 l0 9
(bd (f_X9_parse l0 (-1 : Int32) h8) fun v11 h12 =>
(if v11 = (-2 : Int32) then
(ck h12 l0 9
(bd (f_X9_combine l0 (-1 : Int32) (0 : Int32) (0 : Int32) (0 : Int32) h12) fun v15 h16 =>
(if v15 = (-2 : Int32) then
(ck h16 l0 9
(bd (f_X9_modify l0 (0 : Int32) (4 : Int32) (0 : Int32) h16) fun v19 h20 =>
(if v19 = (-2 : Int32) then
(ck h20 l0 9
(bd (f_X9_size l0 (-1 : Int32) h20) fun v23 h24 =>
(if v23 = (-2 : Int32) then
(ck h24 l0 9
(bd (f_X9_isPredicate l0 (4 : Int32) h24) fun v27 h28 =>
(if v27 = (-2 : Int32) then
(ck h28 l0 9
(bd (f_X9_printed l0 (-1 : Int32) (0 : Int32) h28) fun v31 h32 =>
(if v31 = (-2 : Int32) then
(ck h32 l0 9
(bd (f_X9_outputs l0 (0 : Int32) (-1 : Int32) h32) fun v35 h36 =>
(if (lg_cmp v35 (-2 : Int64)) = 0 then
(ck h36 l0 9
(bd (f_X9_accepted l0 (4 : Int32) h36) fun v39 h40 =>
(if (lg_cmp v39 (-2 : Int64)) = 0 then
(ck h40 l0 9
(bd (f_X9_spread l0 (-1 : Int32) h40) fun v43 h44 =>
(if v43 = (-2 : Int32) then
(ck h44 l0 9
(bd (f_X9_rounds l0 (4 : Int32) h44) fun v47 h48 =>
(if v47 = (-2 : Int32) then
(ck h48 l0 9
(bd (f_X9_compare l0 (-1 : Int32) (0 : Int32) h48) fun v51 h52 =>
(if v51 = (-2 : Int32) then
(ck h52 l0 9
(bd (f_X9_witness l0 (0 : Int32) (4 : Int32) h52) fun v55 h56 =>
(if v55 = (-2 : Int32) then
(ck h56 l0 9
(bd (f_X9_difference l0 (0 : Int32) (-1 : Int32) h56) fun v59 h60 =>
(if v59 = (-2 : Int32) then
(ck h60 l0 9
(bd (f_X9_diagramSize l0 (-1 : Int32) h60) fun v63 h64 =>
(if v63 = (-2 : Int32) then
(ck h64 l0 9
(bd (f_X9_leaves l0 (4 : Int32) h64) fun v67 h68 =>
(if v67 = (-2 : Int32) then
(ck h68 l0 9
(bd (f_X9_diagramDepth l0 (4 : Int32) h68) fun v71 h72 =>
(if v71 = (-2 : Int32) then
(ck h72 l0 9
(bd (f_X9_sharedNodes l0 (-1 : Int32) (0 : Int32) h72) fun v75 h76 =>
(if v75 = (-2 : Int32) then
(ck h76 l0 9
(bd (f_X9_rows l0 (4 : Int32) h76) fun v79 h80 =>
(if v79 = (-2 : Int32) then
(ck h80 l0 9
(bd (f_X9_match l0 (0 : Int32) (-1 : Int32) (0 : Int32) h80) fun v83 h84 =>
(if v83 = (-2 : Int32) then
(ck h84 l0 9
(bd (f_X9_action l0 (0 : Int32) (-1 : Int32) (0 : Int32) h84) fun v87 h88 =>
(if v87 = (-2 : Int32) then
(ck h88 l0 9
(bd (f_X9_hit l0 (0 : Int32) (-1 : Int32) h88) fun v91 h92 =>
(if v91 = (-2 : Int32) then
(ck h92 l0 9
(bd (f_X9_hits l0 (0 : Int32) (-1 : Int32) h92) fun v95 h96 =>
(if v95 = (-2 : Int32) then
(ck h96 l0 9
(bd (f_X9_errorCount l0 (0 : Int32) h96) fun v99 h100 =>
(if v99 = (-2 : Int32) then
(f_L_refused_278 l0 v1 v4 (1 : Int32) h100)
else
(f_L_refused_277 l0 v1 v4 h100))))
else
(f_L_refused_277 l0 v1 v4 h96))))
else
(f_L_refused_277 l0 v1 v4 h92))))
else
(f_L_refused_277 l0 v1 v4 h88))))
else
(f_L_refused_277 l0 v1 v4 h84))))
else
(f_L_refused_277 l0 v1 v4 h80))))
else
(f_L_refused_277 l0 v1 v4 h76))))
else
(f_L_refused_277 l0 v1 v4 h72))))
else
(f_L_refused_277 l0 v1 v4 h68))))
else
(f_L_refused_277 l0 v1 v4 h64))))
else
(f_L_refused_277 l0 v1 v4 h60))))
else
(f_L_refused_277 l0 v1 v4 h56))))
else
(f_L_refused_277 l0 v1 v4 h52))))
else
(f_L_refused_277 l0 v1 v4 h48))))
else
(f_L_refused_277 l0 v1 v4 h44))))
else
(f_L_refused_277 l0 v1 v4 h40))))
else
(f_L_refused_277 l0 v1 v4 h36))))
else
(f_L_refused_277 l0 v1 v4 h32))))
else
(f_L_refused_277 l0 v1 v4 h28))))
else
(f_L_refused_277 l0 v1 v4 h24))))
else
(f_L_refused_277 l0 v1 v4 h20))))
else
(f_L_refused_277 l0 v1 v4 h16))))
else
(f_L_refused_277 l0 v1 v4 h12))))
else
(f_L_refused_277 l0 v1 v4 h8)))))))
set_option maxRecDepth 20000 in
theorem t_L_refused (l0 : Nat) (h : Hp) : Sm rvI g_L_refused 0 (ent 5 [.ref l0]) [] h (f_L_refused l0 h) := by
  show Sm rvI g_L_refused 0 [.ref l0, .null, .null, .null, .null] [] h _
  unfold f_L_refused
  refine Sm.aload_n dL_refused_0 rfl rfl rfl ?_
  refine kc_L_50 dL_refused_1 rfl (Nat.le_of_ble_eq_true rfl) (Nat.le_of_ble_eq_true rfl) rfl (fun v1 h2 => ?_)
  refine Sm.lstore_n (lv' := [.ref l0, .long v1, .null, .null, .null]) dL_refused_4 rfl (Nat.le_of_ble_eq_true rfl) rfl rfl ?_
  refine Sm.aload_n dL_refused_5 rfl rfl rfl ?_
  refine Sm.bipush dL_refused_6 bp_m2 rfl ?_
  refine Sm.ck (fun o3 => ?_)
  refine kc_L_120 o3 dL_refused_8 rfl (Nat.le_of_ble_eq_true rfl) (Nat.le_of_ble_eq_true rfl) rfl (fun v4 h5 => ?_)
  refine Sm.istore_n (lv' := [.ref l0, .long v1, .null, .int v4, .null]) dL_refused_11 rfl (Nat.le_of_ble_eq_true rfl) rfl rfl ?_
  refine Sm.aload_n dL_refused_12 rfl rfl rfl ?_
  refine Sm.iconst dL_refused_13 ic_m1 rfl ?_
  refine Sm.ck (fun o6 => ?_)
  refine kc_L_17 o6 dL_refused_14 rfl (Nat.le_of_ble_eq_true rfl) (Nat.le_of_ble_eq_true rfl) rfl (fun v7 h8 => ?_)
  refine Sm.bipush dL_refused_17 bp_m2 rfl ?_
  refine Sm.icmp_ne (t := 277) dL_refused_19 (by decide) rfl (fun b9 => ?_) (fun b9 => ?_)
  · refine Sm.aload_n dL_refused_22 rfl rfl rfl ?_
    refine Sm.iconst dL_refused_23 ic_m1 rfl ?_
    refine Sm.ck (fun o10 => ?_)
    refine kc_L_21 o10 dL_refused_24 rfl (Nat.le_of_ble_eq_true rfl) (Nat.le_of_ble_eq_true rfl) rfl (fun v11 h12 => ?_)
    refine Sm.bipush dL_refused_27 bp_m2 rfl ?_
    refine Sm.icmp_ne (t := 277) dL_refused_29 (by decide) rfl (fun b13 => ?_) (fun b13 => ?_)
    · refine Sm.aload_n dL_refused_32 rfl rfl rfl ?_
      refine Sm.iconst dL_refused_33 ic_m1 rfl ?_
      refine Sm.iconst dL_refused_34 ic_0 rfl ?_
      refine Sm.iconst dL_refused_35 ic_0 rfl ?_
      refine Sm.iconst dL_refused_36 ic_0 rfl ?_
      refine Sm.ck (fun o14 => ?_)
      refine kc_L_58 o14 dL_refused_37 rfl (Nat.le_of_ble_eq_true rfl) (Nat.le_of_ble_eq_true rfl) rfl (fun v15 h16 => ?_)
      refine Sm.bipush dL_refused_40 bp_m2 rfl ?_
      refine Sm.icmp_ne (t := 277) dL_refused_42 (by decide) rfl (fun b17 => ?_) (fun b17 => ?_)
      · refine Sm.aload_n dL_refused_45 rfl rfl rfl ?_
        refine Sm.iconst dL_refused_46 ic_0 rfl ?_
        refine Sm.iconst dL_refused_47 ic_4 rfl ?_
        refine Sm.iconst dL_refused_48 ic_0 rfl ?_
        refine Sm.ck (fun o18 => ?_)
        refine kc_L_65 o18 dL_refused_49 rfl (Nat.le_of_ble_eq_true rfl) (Nat.le_of_ble_eq_true rfl) rfl (fun v19 h20 => ?_)
        refine Sm.bipush dL_refused_52 bp_m2 rfl ?_
        refine Sm.icmp_ne (t := 277) dL_refused_54 (by decide) rfl (fun b21 => ?_) (fun b21 => ?_)
        · refine Sm.aload_n dL_refused_57 rfl rfl rfl ?_
          refine Sm.iconst dL_refused_58 ic_m1 rfl ?_
          refine Sm.ck (fun o22 => ?_)
          refine kc_L_40 o22 dL_refused_59 rfl (Nat.le_of_ble_eq_true rfl) (Nat.le_of_ble_eq_true rfl) rfl (fun v23 h24 => ?_)
          refine Sm.bipush dL_refused_62 bp_m2 rfl ?_
          refine Sm.icmp_ne (t := 277) dL_refused_64 (by decide) rfl (fun b25 => ?_) (fun b25 => ?_)
          · refine Sm.aload_n dL_refused_67 rfl rfl rfl ?_
            refine Sm.iconst dL_refused_68 ic_4 rfl ?_
            refine Sm.ck (fun o26 => ?_)
            refine kc_L_43 o26 dL_refused_69 rfl (Nat.le_of_ble_eq_true rfl) (Nat.le_of_ble_eq_true rfl) rfl (fun v27 h28 => ?_)
            refine Sm.bipush dL_refused_72 bp_m2 rfl ?_
            refine Sm.icmp_ne (t := 277) dL_refused_74 (by decide) rfl (fun b29 => ?_) (fun b29 => ?_)
            · refine Sm.aload_n dL_refused_77 rfl rfl rfl ?_
              refine Sm.iconst dL_refused_78 ic_m1 rfl ?_
              refine Sm.iconst dL_refused_79 ic_0 rfl ?_
              refine Sm.ck (fun o30 => ?_)
              refine kc_L_46 o30 dL_refused_80 rfl (Nat.le_of_ble_eq_true rfl) (Nat.le_of_ble_eq_true rfl) rfl (fun v31 h32 => ?_)
              refine Sm.bipush dL_refused_83 bp_m2 rfl ?_
              refine Sm.icmp_ne (t := 277) dL_refused_85 (by decide) rfl (fun b33 => ?_) (fun b33 => ?_)
              · refine Sm.aload_n dL_refused_88 rfl rfl rfl ?_
                refine Sm.iconst dL_refused_89 ic_0 rfl ?_
                refine Sm.iconst dL_refused_90 ic_m1 rfl ?_
                refine Sm.ck (fun o34 => ?_)
                refine kc_L_54 o34 dL_refused_91 rfl (Nat.le_of_ble_eq_true rfl) (Nat.le_of_ble_eq_true rfl) rfl (fun v35 h36 => ?_)
                refine Sm.ldc2 dL_refused_94 mw_919 rfl ?_
                refine Sm.lcmp dL_refused_97 rfl ?_
                refine Sm.if_ne (t := 277) dL_refused_98 (by decide) rfl (fun b37 => ?_) (fun b37 => ?_)
                · refine Sm.aload_n dL_refused_101 rfl rfl rfl ?_
                  refine Sm.iconst dL_refused_102 ic_4 rfl ?_
                  refine Sm.ck (fun o38 => ?_)
                  refine kc_L_110 o38 dL_refused_103 rfl (Nat.le_of_ble_eq_true rfl) (Nat.le_of_ble_eq_true rfl) rfl (fun v39 h40 => ?_)
                  refine Sm.ldc2 dL_refused_106 mw_919 rfl ?_
                  refine Sm.lcmp dL_refused_109 rfl ?_
                  refine Sm.if_ne (t := 277) dL_refused_110 (by decide) rfl (fun b41 => ?_) (fun b41 => ?_)
                  · refine Sm.aload_n dL_refused_113 rfl rfl rfl ?_
                    refine Sm.iconst dL_refused_114 ic_m1 rfl ?_
                    refine Sm.ck (fun o42 => ?_)
                    refine kc_L_117 o42 dL_refused_115 rfl (Nat.le_of_ble_eq_true rfl) (Nat.le_of_ble_eq_true rfl) rfl (fun v43 h44 => ?_)
                    refine Sm.bipush dL_refused_118 bp_m2 rfl ?_
                    refine Sm.icmp_ne (t := 277) dL_refused_120 (by decide) rfl (fun b45 => ?_) (fun b45 => ?_)
                    · refine Sm.aload_n dL_refused_123 rfl rfl rfl ?_
                      refine Sm.iconst dL_refused_124 ic_4 rfl ?_
                      refine Sm.ck (fun o46 => ?_)
                      refine kc_L_71 o46 dL_refused_125 rfl (Nat.le_of_ble_eq_true rfl) (Nat.le_of_ble_eq_true rfl) rfl (fun v47 h48 => ?_)
                      refine Sm.bipush dL_refused_128 bp_m2 rfl ?_
                      refine Sm.icmp_ne (t := 277) dL_refused_130 (by decide) rfl (fun b49 => ?_) (fun b49 => ?_)
                      · refine Sm.aload_n dL_refused_133 rfl rfl rfl ?_
                        refine Sm.iconst dL_refused_134 ic_m1 rfl ?_
                        refine Sm.iconst dL_refused_135 ic_0 rfl ?_
                        refine Sm.ck (fun o50 => ?_)
                        refine kc_L_74 o50 dL_refused_136 rfl (Nat.le_of_ble_eq_true rfl) (Nat.le_of_ble_eq_true rfl) rfl (fun v51 h52 => ?_)
                        refine Sm.bipush dL_refused_139 bp_m2 rfl ?_
                        refine Sm.icmp_ne (t := 277) dL_refused_141 (by decide) rfl (fun b53 => ?_) (fun b53 => ?_)
                        · refine Sm.aload_n dL_refused_144 rfl rfl rfl ?_
                          refine Sm.iconst dL_refused_145 ic_0 rfl ?_
                          refine Sm.iconst dL_refused_146 ic_4 rfl ?_
                          refine Sm.ck (fun o54 => ?_)
                          refine kc_L_77 o54 dL_refused_147 rfl (Nat.le_of_ble_eq_true rfl) (Nat.le_of_ble_eq_true rfl) rfl (fun v55 h56 => ?_)
                          refine Sm.bipush dL_refused_150 bp_m2 rfl ?_
                          refine Sm.icmp_ne (t := 277) dL_refused_152 (by decide) rfl (fun b57 => ?_) (fun b57 => ?_)
                          · refine Sm.aload_n dL_refused_155 rfl rfl rfl ?_
                            refine Sm.iconst dL_refused_156 ic_0 rfl ?_
                            refine Sm.iconst dL_refused_157 ic_m1 rfl ?_
                            refine Sm.ck (fun o58 => ?_)
                            refine kc_L_80 o58 dL_refused_158 rfl (Nat.le_of_ble_eq_true rfl) (Nat.le_of_ble_eq_true rfl) rfl (fun v59 h60 => ?_)
                            refine Sm.bipush dL_refused_161 bp_m2 rfl ?_
                            refine Sm.icmp_ne (t := 277) dL_refused_163 (by decide) rfl (fun b61 => ?_) (fun b61 => ?_)
                            · refine Sm.aload_n dL_refused_166 rfl rfl rfl ?_
                              refine Sm.iconst dL_refused_167 ic_m1 rfl ?_
                              refine Sm.ck (fun o62 => ?_)
                              refine kc_L_98 o62 dL_refused_168 rfl (Nat.le_of_ble_eq_true rfl) (Nat.le_of_ble_eq_true rfl) rfl (fun v63 h64 => ?_)
                              refine Sm.bipush dL_refused_171 bp_m2 rfl ?_
                              refine Sm.icmp_ne (t := 277) dL_refused_173 (by decide) rfl (fun b65 => ?_) (fun b65 => ?_)
                              · refine Sm.aload_n dL_refused_176 rfl rfl rfl ?_
                                refine Sm.iconst dL_refused_177 ic_4 rfl ?_
                                refine Sm.ck (fun o66 => ?_)
                                refine kc_L_101 o66 dL_refused_178 rfl (Nat.le_of_ble_eq_true rfl) (Nat.le_of_ble_eq_true rfl) rfl (fun v67 h68 => ?_)
                                refine Sm.bipush dL_refused_181 bp_m2 rfl ?_
                                refine Sm.icmp_ne (t := 277) dL_refused_183 (by decide) rfl (fun b69 => ?_) (fun b69 => ?_)
                                · refine Sm.aload_n dL_refused_186 rfl rfl rfl ?_
                                  refine Sm.iconst dL_refused_187 ic_4 rfl ?_
                                  refine Sm.ck (fun o70 => ?_)
                                  refine kc_L_104 o70 dL_refused_188 rfl (Nat.le_of_ble_eq_true rfl) (Nat.le_of_ble_eq_true rfl) rfl (fun v71 h72 => ?_)
                                  refine Sm.bipush dL_refused_191 bp_m2 rfl ?_
                                  refine Sm.icmp_ne (t := 277) dL_refused_193 (by decide) rfl (fun b73 => ?_) (fun b73 => ?_)
                                  · refine Sm.aload_n dL_refused_196 rfl rfl rfl ?_
                                    refine Sm.iconst dL_refused_197 ic_m1 rfl ?_
                                    refine Sm.iconst dL_refused_198 ic_0 rfl ?_
                                    refine Sm.ck (fun o74 => ?_)
                                    refine kc_L_107 o74 dL_refused_199 rfl (Nat.le_of_ble_eq_true rfl) (Nat.le_of_ble_eq_true rfl) rfl (fun v75 h76 => ?_)
                                    refine Sm.bipush dL_refused_202 bp_m2 rfl ?_
                                    refine Sm.icmp_ne (t := 277) dL_refused_204 (by decide) rfl (fun b77 => ?_) (fun b77 => ?_)
                                    · refine Sm.aload_n dL_refused_207 rfl rfl rfl ?_
                                      refine Sm.iconst dL_refused_208 ic_4 rfl ?_
                                      refine Sm.ck (fun o78 => ?_)
                                      refine kc_L_83 o78 dL_refused_209 rfl (Nat.le_of_ble_eq_true rfl) (Nat.le_of_ble_eq_true rfl) rfl (fun v79 h80 => ?_)
                                      refine Sm.bipush dL_refused_212 bp_m2 rfl ?_
                                      refine Sm.icmp_ne (t := 277) dL_refused_214 (by decide) rfl (fun b81 => ?_) (fun b81 => ?_)
                                      · refine Sm.aload_n dL_refused_217 rfl rfl rfl ?_
                                        refine Sm.iconst dL_refused_218 ic_0 rfl ?_
                                        refine Sm.iconst dL_refused_219 ic_m1 rfl ?_
                                        refine Sm.iconst dL_refused_220 ic_0 rfl ?_
                                        refine Sm.ck (fun o82 => ?_)
                                        refine kc_L_92 o82 dL_refused_221 rfl (Nat.le_of_ble_eq_true rfl) (Nat.le_of_ble_eq_true rfl) rfl (fun v83 h84 => ?_)
                                        refine Sm.bipush dL_refused_224 bp_m2 rfl ?_
                                        refine Sm.icmp_ne (t := 277) dL_refused_226 (by decide) rfl (fun b85 => ?_) (fun b85 => ?_)
                                        · refine Sm.aload_n dL_refused_229 rfl rfl rfl ?_
                                          refine Sm.iconst dL_refused_230 ic_0 rfl ?_
                                          refine Sm.iconst dL_refused_231 ic_m1 rfl ?_
                                          refine Sm.iconst dL_refused_232 ic_0 rfl ?_
                                          refine Sm.ck (fun o86 => ?_)
                                          refine kc_L_89 o86 dL_refused_233 rfl (Nat.le_of_ble_eq_true rfl) (Nat.le_of_ble_eq_true rfl) rfl (fun v87 h88 => ?_)
                                          refine Sm.bipush dL_refused_236 bp_m2 rfl ?_
                                          refine Sm.icmp_ne (t := 277) dL_refused_238 (by decide) rfl (fun b89 => ?_) (fun b89 => ?_)
                                          · refine Sm.aload_n dL_refused_241 rfl rfl rfl ?_
                                            refine Sm.iconst dL_refused_242 ic_0 rfl ?_
                                            refine Sm.iconst dL_refused_243 ic_m1 rfl ?_
                                            refine Sm.ck (fun o90 => ?_)
                                            refine kc_L_86 o90 dL_refused_244 rfl (Nat.le_of_ble_eq_true rfl) (Nat.le_of_ble_eq_true rfl) rfl (fun v91 h92 => ?_)
                                            refine Sm.bipush dL_refused_247 bp_m2 rfl ?_
                                            refine Sm.icmp_ne (t := 277) dL_refused_249 (by decide) rfl (fun b93 => ?_) (fun b93 => ?_)
                                            · refine Sm.aload_n dL_refused_252 rfl rfl rfl ?_
                                              refine Sm.iconst dL_refused_253 ic_0 rfl ?_
                                              refine Sm.iconst dL_refused_254 ic_m1 rfl ?_
                                              refine Sm.ck (fun o94 => ?_)
                                              refine kc_L_95 o94 dL_refused_255 rfl (Nat.le_of_ble_eq_true rfl) (Nat.le_of_ble_eq_true rfl) rfl (fun v95 h96 => ?_)
                                              refine Sm.bipush dL_refused_258 bp_m2 rfl ?_
                                              refine Sm.icmp_ne (t := 277) dL_refused_260 (by decide) rfl (fun b97 => ?_) (fun b97 => ?_)
                                              · refine Sm.aload_n dL_refused_263 rfl rfl rfl ?_
                                                refine Sm.iconst dL_refused_264 ic_0 rfl ?_
                                                refine Sm.ck (fun o98 => ?_)
                                                refine kc_L_120 o98 dL_refused_265 rfl (Nat.le_of_ble_eq_true rfl) (Nat.le_of_ble_eq_true rfl) rfl (fun v99 h100 => ?_)
                                                refine Sm.bipush dL_refused_268 bp_m2 rfl ?_
                                                refine Sm.icmp_ne (t := 277) dL_refused_270 (by decide) rfl (fun b101 => ?_) (fun b101 => ?_)
                                                · refine Sm.iconst dL_refused_273 ic_1 rfl ?_
                                                  refine Sm.goto (t := 278) dL_refused_274 (by decide) ?_
                                                  exact Sm.wk (t_L_refused_278 l0 v1 v4 (1 : Int32) h100) ⟨Or.inr rfl, Or.inr rfl, Or.inl rfl, Or.inr rfl, Or.inl rfl, trivial⟩
                                                · exact Sm.wk (t_L_refused_277 l0 v1 v4 h100) ⟨Or.inr rfl, Or.inr rfl, Or.inl rfl, Or.inr rfl, Or.inl rfl, trivial⟩
                                              · exact Sm.wk (t_L_refused_277 l0 v1 v4 h96) ⟨Or.inr rfl, Or.inr rfl, Or.inl rfl, Or.inr rfl, Or.inl rfl, trivial⟩
                                            · exact Sm.wk (t_L_refused_277 l0 v1 v4 h92) ⟨Or.inr rfl, Or.inr rfl, Or.inl rfl, Or.inr rfl, Or.inl rfl, trivial⟩
                                          · exact Sm.wk (t_L_refused_277 l0 v1 v4 h88) ⟨Or.inr rfl, Or.inr rfl, Or.inl rfl, Or.inr rfl, Or.inl rfl, trivial⟩
                                        · exact Sm.wk (t_L_refused_277 l0 v1 v4 h84) ⟨Or.inr rfl, Or.inr rfl, Or.inl rfl, Or.inr rfl, Or.inl rfl, trivial⟩
                                      · exact Sm.wk (t_L_refused_277 l0 v1 v4 h80) ⟨Or.inr rfl, Or.inr rfl, Or.inl rfl, Or.inr rfl, Or.inl rfl, trivial⟩
                                    · exact Sm.wk (t_L_refused_277 l0 v1 v4 h76) ⟨Or.inr rfl, Or.inr rfl, Or.inl rfl, Or.inr rfl, Or.inl rfl, trivial⟩
                                  · exact Sm.wk (t_L_refused_277 l0 v1 v4 h72) ⟨Or.inr rfl, Or.inr rfl, Or.inl rfl, Or.inr rfl, Or.inl rfl, trivial⟩
                                · exact Sm.wk (t_L_refused_277 l0 v1 v4 h68) ⟨Or.inr rfl, Or.inr rfl, Or.inl rfl, Or.inr rfl, Or.inl rfl, trivial⟩
                              · exact Sm.wk (t_L_refused_277 l0 v1 v4 h64) ⟨Or.inr rfl, Or.inr rfl, Or.inl rfl, Or.inr rfl, Or.inl rfl, trivial⟩
                            · exact Sm.wk (t_L_refused_277 l0 v1 v4 h60) ⟨Or.inr rfl, Or.inr rfl, Or.inl rfl, Or.inr rfl, Or.inl rfl, trivial⟩
                          · exact Sm.wk (t_L_refused_277 l0 v1 v4 h56) ⟨Or.inr rfl, Or.inr rfl, Or.inl rfl, Or.inr rfl, Or.inl rfl, trivial⟩
                        · exact Sm.wk (t_L_refused_277 l0 v1 v4 h52) ⟨Or.inr rfl, Or.inr rfl, Or.inl rfl, Or.inr rfl, Or.inl rfl, trivial⟩
                      · exact Sm.wk (t_L_refused_277 l0 v1 v4 h48) ⟨Or.inr rfl, Or.inr rfl, Or.inl rfl, Or.inr rfl, Or.inl rfl, trivial⟩
                    · exact Sm.wk (t_L_refused_277 l0 v1 v4 h44) ⟨Or.inr rfl, Or.inr rfl, Or.inl rfl, Or.inr rfl, Or.inl rfl, trivial⟩
                  · exact Sm.wk (t_L_refused_277 l0 v1 v4 h40) ⟨Or.inr rfl, Or.inr rfl, Or.inl rfl, Or.inr rfl, Or.inl rfl, trivial⟩
                · exact Sm.wk (t_L_refused_277 l0 v1 v4 h36) ⟨Or.inr rfl, Or.inr rfl, Or.inl rfl, Or.inr rfl, Or.inl rfl, trivial⟩
              · exact Sm.wk (t_L_refused_277 l0 v1 v4 h32) ⟨Or.inr rfl, Or.inr rfl, Or.inl rfl, Or.inr rfl, Or.inl rfl, trivial⟩
            · exact Sm.wk (t_L_refused_277 l0 v1 v4 h28) ⟨Or.inr rfl, Or.inr rfl, Or.inl rfl, Or.inr rfl, Or.inl rfl, trivial⟩
          · exact Sm.wk (t_L_refused_277 l0 v1 v4 h24) ⟨Or.inr rfl, Or.inr rfl, Or.inl rfl, Or.inr rfl, Or.inl rfl, trivial⟩
        · exact Sm.wk (t_L_refused_277 l0 v1 v4 h20) ⟨Or.inr rfl, Or.inr rfl, Or.inl rfl, Or.inr rfl, Or.inl rfl, trivial⟩
      · exact Sm.wk (t_L_refused_277 l0 v1 v4 h16) ⟨Or.inr rfl, Or.inr rfl, Or.inl rfl, Or.inr rfl, Or.inl rfl, trivial⟩
    · exact Sm.wk (t_L_refused_277 l0 v1 v4 h12) ⟨Or.inr rfl, Or.inr rfl, Or.inl rfl, Or.inr rfl, Or.inl rfl, trivial⟩
  · exact Sm.wk (t_L_refused_277 l0 v1 v4 h8) ⟨Or.inr rfl, Or.inr rfl, Or.inl rfl, Or.inr rfl, Or.inl rfl, trivial⟩
set_option maxRecDepth 20000 in
theorem kc_L_164 {ρ : Type} {rv : ρ → Option Value} {G : Gx} {pc q : Nat} {lv st : List Value} {h : Hp} {x0 : Nat} {e : Int32 → Hp → Option (ρ × Hp)} (d : decode G.2.1 pc = .ok (.invokestatic 164, 3)) (ho : G.1.cls = RL) (hdep : (g_L_refused).2.2.2.2 < G.2.2.2.2) (hcat : catS st ≤ 8) (hq : pc + 3 = q) (k : ∀ r h1, Sm rv G q lv (.int r :: st) h1 (e r h1)) : Sm rv G pc lv (.ref x0 :: st) h (bd (f_L_refused x0 h) e) :=
  Sm.callS (rv' := rvI) (as := [.ref x0]) (n := 1) (t_L_refused x0 h) ho mw_912 mw_913 mw_0 mw_914 ⟨⟨by decide, rfl, hdep, Nat.le_of_ble_eq_true rfl⟩, Nat.le_of_ble_eq_true rfl, rfl, ⟨by decide, by decide⟩, hcat⟩ (by decide +kernel) (by intro v hv; simp only [List.mem_cons, List.not_mem_nil, or_false] at hv; rcases hv with rfl <;> intro x hx <;> cases hx) d hq k rfl
abbrev g_L_law : Gx := (yL_law, cL_law, 14, ret, 15)
def f_L_law_615 (k53 : (Int32 × Int32 × Hp) → Option (Int32 × Hp)) (l1 : Nat) (l3 : Int32) (h : Hp) : Option (Int32 × Hp) :=
  (if (l3 - l3 / (7 : Int32) * (7 : Int32)) = (5 : Int32) then
(bd (f_L_refused l1 h) fun v74 h75 =>
(if v74 = 0 then
(nm (l3 + (1 : Int32)) fun v77 =>
(k53 ((0 : Int32), v77, h75)))
else
(nm (l3 + (1 : Int32)) fun v78 =>
(k53 ((1 : Int32), v78, h75)))))
else
(nm (l3 + (1 : Int32)) fun v79 =>
(k53 ((1 : Int32), v79, h))))
set_option maxRecDepth 20000 in
theorem t_L_law_615 (l1 : Nat) (l3 : Int32) (h : Hp) (k53 : (Int32 × Int32 × Hp) → Option (Int32 × Hp)) (hk53 : ∀ s : Int32 × Int32 × Hp, Sm rvI g_L_law 53 [.ref 0, .ref l1, .int s.1, .int s.2.1, .null, .null, .null, .null, .null, .null, .null, .null, .null, .null] [] s.2.2 (k53 s)) : Sm rvI g_L_law 615 [.ref 0, .ref l1, .null, .int l3, .null, .null, .null, .null, .null, .null, .null, .null, .null, .null] [] h (f_L_law_615 k53 l1 l3 h) := by
  unfold f_L_law_615
  refine Sm.iload_n dL_law_615 rfl rfl rfl ?_
  refine Sm.bipush dL_law_616 bp_7 rfl ?_
  refine Sm.irem dL_law_618 (by decide) rfl ?_
  refine Sm.iconst dL_law_619 ic_5 rfl ?_
  refine Sm.icmp_ne (t := 630) dL_law_620 (by decide) rfl (fun b73 => ?_) (fun b73 => ?_)
  · refine Sm.aload_n dL_law_623 rfl rfl rfl ?_
    refine kc_L_164 dL_law_624 rfl (Nat.le_of_ble_eq_true rfl) (Nat.le_of_ble_eq_true rfl) rfl (fun v74 h75 => ?_)
    refine Sm.if_eq (t := 634) dL_law_627 (by decide) rfl (fun b76 => ?_) (fun b76 => ?_)
    · refine Sm.iconst dL_law_634 ic_0 rfl ?_
      refine Sm.istore_n (lv' := [.ref 0, .ref l1, .int (0 : Int32), .int l3, .null, .null, .null, .null, .null, .null, .null, .null, .null, .null]) dL_law_635 rfl (Nat.le_of_ble_eq_true rfl) rfl rfl ?_
      refine Sm.iinc (lv' := [.ref 0, .ref l1, .int (0 : Int32), .int (l3 + (1 : Int32)), .null, .null, .null, .null, .null, .null, .null, .null, .null, .null]) dL_law_636 rfl ic_1 rfl rfl ?_
      refine Sm.nm (LV := fun v77 => [.ref 0, .ref l1, .int (0 : Int32), .int v77, .null, .null, .null, .null, .null, .null, .null, .null, .null, .null]) (ST := fun v77 => []) (fun v77 => ?_)
      refine Sm.goto (t := 53) dL_law_639 (by decide) ?_
      exact Sm.wk (hk53 ((0 : Int32), v77, h75)) ⟨Or.inr rfl, Or.inr rfl, Or.inr rfl, Or.inr rfl, Or.inl rfl, Or.inl rfl, Or.inl rfl, Or.inl rfl, Or.inl rfl, Or.inl rfl, Or.inl rfl, Or.inl rfl, Or.inl rfl, Or.inl rfl, trivial⟩
    · refine Sm.iconst dL_law_630 ic_1 rfl ?_
      refine Sm.goto (t := 635) dL_law_631 (by decide) ?_
      refine Sm.istore_n (lv' := [.ref 0, .ref l1, .int (1 : Int32), .int l3, .null, .null, .null, .null, .null, .null, .null, .null, .null, .null]) dL_law_635 rfl (Nat.le_of_ble_eq_true rfl) rfl rfl ?_
      refine Sm.iinc (lv' := [.ref 0, .ref l1, .int (1 : Int32), .int (l3 + (1 : Int32)), .null, .null, .null, .null, .null, .null, .null, .null, .null, .null]) dL_law_636 rfl ic_1 rfl rfl ?_
      refine Sm.nm (LV := fun v78 => [.ref 0, .ref l1, .int (1 : Int32), .int v78, .null, .null, .null, .null, .null, .null, .null, .null, .null, .null]) (ST := fun v78 => []) (fun v78 => ?_)
      refine Sm.goto (t := 53) dL_law_639 (by decide) ?_
      exact Sm.wk (hk53 ((1 : Int32), v78, h75)) ⟨Or.inr rfl, Or.inr rfl, Or.inr rfl, Or.inr rfl, Or.inl rfl, Or.inl rfl, Or.inl rfl, Or.inl rfl, Or.inl rfl, Or.inl rfl, Or.inl rfl, Or.inl rfl, Or.inl rfl, Or.inl rfl, trivial⟩
  · refine Sm.iconst dL_law_630 ic_1 rfl ?_
    refine Sm.goto (t := 635) dL_law_631 (by decide) ?_
    refine Sm.istore_n (lv' := [.ref 0, .ref l1, .int (1 : Int32), .int l3, .null, .null, .null, .null, .null, .null, .null, .null, .null, .null]) dL_law_635 rfl (Nat.le_of_ble_eq_true rfl) rfl rfl ?_
    refine Sm.iinc (lv' := [.ref 0, .ref l1, .int (1 : Int32), .int (l3 + (1 : Int32)), .null, .null, .null, .null, .null, .null, .null, .null, .null, .null]) dL_law_636 rfl ic_1 rfl rfl ?_
    refine Sm.nm (LV := fun v79 => [.ref 0, .ref l1, .int (1 : Int32), .int v79, .null, .null, .null, .null, .null, .null, .null, .null, .null, .null]) (ST := fun v79 => []) (fun v79 => ?_)
    refine Sm.goto (t := 53) dL_law_639 (by decide) ?_
    exact Sm.wk (hk53 ((1 : Int32), v79, h)) ⟨Or.inr rfl, Or.inr rfl, Or.inr rfl, Or.inr rfl, Or.inl rfl, Or.inl rfl, Or.inl rfl, Or.inl rfl, Or.inl rfl, Or.inl rfl, Or.inl rfl, Or.inl rfl, Or.inl rfl, Or.inl rfl, trivial⟩
def f_L_law_597 (k53 : (Int32 × Int32 × Hp) → Option (Int32 × Hp)) (l1 : Nat) (l3 : Int32) (l6 : Int32) (l8 : Int32) (h : Hp) : Option (Int32 × Hp) :=
  (if (l3 - l3 / (4 : Int32) * (4 : Int32)) = (3 : Int32) then
(bd (f_L_isDrawn l1 l8 l6 h) fun v69 h70 =>
(if v69 = 0 then
(nm (l3 + (1 : Int32)) fun v72 =>
(k53 ((0 : Int32), v72, h70)))
else
(f_L_law_615 k53 l1 l3 h70)))
else
(f_L_law_615 k53 l1 l3 h))
set_option maxRecDepth 20000 in
theorem t_L_law_597 (l1 : Nat) (l3 : Int32) (l6 : Int32) (l8 : Int32) (h : Hp) (k53 : (Int32 × Int32 × Hp) → Option (Int32 × Hp)) (hk53 : ∀ s : Int32 × Int32 × Hp, Sm rvI g_L_law 53 [.ref 0, .ref l1, .int s.1, .int s.2.1, .null, .null, .null, .null, .null, .null, .null, .null, .null, .null] [] s.2.2 (k53 s)) : Sm rvI g_L_law 597 [.ref 0, .ref l1, .null, .int l3, .null, .null, .int l6, .null, .int l8, .null, .null, .null, .null, .null] [] h (f_L_law_597 k53 l1 l3 l6 l8 h) := by
  unfold f_L_law_597
  refine Sm.iload_n dL_law_597 rfl rfl rfl ?_
  refine Sm.iconst dL_law_598 ic_4 rfl ?_
  refine Sm.irem dL_law_599 (by decide) rfl ?_
  refine Sm.iconst dL_law_600 ic_3 rfl ?_
  refine Sm.icmp_ne (t := 615) dL_law_601 (by decide) rfl (fun b68 => ?_) (fun b68 => ?_)
  · refine Sm.aload_n dL_law_604 rfl rfl rfl ?_
    refine Sm.iload dL_law_605 rfl rfl ?_
    refine Sm.iload dL_law_607 rfl rfl ?_
    refine kc_L_126 dL_law_609 rfl (Nat.le_of_ble_eq_true rfl) (Nat.le_of_ble_eq_true rfl) rfl (fun v69 h70 => ?_)
    refine Sm.if_eq (t := 634) dL_law_612 (by decide) rfl (fun b71 => ?_) (fun b71 => ?_)
    · refine Sm.iconst dL_law_634 ic_0 rfl ?_
      refine Sm.istore_n (lv' := [.ref 0, .ref l1, .int (0 : Int32), .int l3, .null, .null, .int l6, .null, .int l8, .null, .null, .null, .null, .null]) dL_law_635 rfl (Nat.le_of_ble_eq_true rfl) rfl rfl ?_
      refine Sm.iinc (lv' := [.ref 0, .ref l1, .int (0 : Int32), .int (l3 + (1 : Int32)), .null, .null, .int l6, .null, .int l8, .null, .null, .null, .null, .null]) dL_law_636 rfl ic_1 rfl rfl ?_
      refine Sm.nm (LV := fun v72 => [.ref 0, .ref l1, .int (0 : Int32), .int v72, .null, .null, .int l6, .null, .int l8, .null, .null, .null, .null, .null]) (ST := fun v72 => []) (fun v72 => ?_)
      refine Sm.goto (t := 53) dL_law_639 (by decide) ?_
      exact Sm.wk (hk53 ((0 : Int32), v72, h70)) ⟨Or.inr rfl, Or.inr rfl, Or.inr rfl, Or.inr rfl, Or.inl rfl, Or.inl rfl, Or.inl rfl, Or.inl rfl, Or.inl rfl, Or.inl rfl, Or.inl rfl, Or.inl rfl, Or.inl rfl, Or.inl rfl, trivial⟩
    · exact Sm.wk (t_L_law_615 l1 l3 h70 k53 hk53) ⟨Or.inr rfl, Or.inr rfl, Or.inl rfl, Or.inr rfl, Or.inl rfl, Or.inl rfl, Or.inl rfl, Or.inl rfl, Or.inl rfl, Or.inl rfl, Or.inl rfl, Or.inl rfl, Or.inl rfl, Or.inl rfl, trivial⟩
  · exact Sm.wk (t_L_law_615 l1 l3 h k53 hk53) ⟨Or.inr rfl, Or.inr rfl, Or.inl rfl, Or.inr rfl, Or.inl rfl, Or.inl rfl, Or.inl rfl, Or.inl rfl, Or.inl rfl, Or.inl rfl, Or.inl rfl, Or.inl rfl, Or.inl rfl, Or.inl rfl, trivial⟩
def f_L_law_579 (k53 : (Int32 × Int32 × Hp) → Option (Int32 × Hp)) (l1 : Nat) (l3 : Int32) (l6 : Int32) (l8 : Int32) (h : Hp) : Option (Int32 × Hp) :=
  (if (l3 - l3 / (3 : Int32) * (3 : Int32)) = (2 : Int32) then
(bd (f_L_isCompared l1 l6 l8 h) fun v64 h65 =>
(if v64 = 0 then
(nm (l3 + (1 : Int32)) fun v67 =>
(k53 ((0 : Int32), v67, h65)))
else
(f_L_law_597 k53 l1 l3 l6 l8 h65)))
else
(f_L_law_597 k53 l1 l3 l6 l8 h))
set_option maxRecDepth 20000 in
theorem t_L_law_579 (l1 : Nat) (l3 : Int32) (l6 : Int32) (l8 : Int32) (h : Hp) (k53 : (Int32 × Int32 × Hp) → Option (Int32 × Hp)) (hk53 : ∀ s : Int32 × Int32 × Hp, Sm rvI g_L_law 53 [.ref 0, .ref l1, .int s.1, .int s.2.1, .null, .null, .null, .null, .null, .null, .null, .null, .null, .null] [] s.2.2 (k53 s)) : Sm rvI g_L_law 579 [.ref 0, .ref l1, .null, .int l3, .null, .null, .int l6, .null, .int l8, .null, .null, .null, .null, .null] [] h (f_L_law_579 k53 l1 l3 l6 l8 h) := by
  unfold f_L_law_579
  refine Sm.iload_n dL_law_579 rfl rfl rfl ?_
  refine Sm.iconst dL_law_580 ic_3 rfl ?_
  refine Sm.irem dL_law_581 (by decide) rfl ?_
  refine Sm.iconst dL_law_582 ic_2 rfl ?_
  refine Sm.icmp_ne (t := 597) dL_law_583 (by decide) rfl (fun b63 => ?_) (fun b63 => ?_)
  · refine Sm.aload_n dL_law_586 rfl rfl rfl ?_
    refine Sm.iload dL_law_587 rfl rfl ?_
    refine Sm.iload dL_law_589 rfl rfl ?_
    refine kc_L_133 dL_law_591 rfl (Nat.le_of_ble_eq_true rfl) (Nat.le_of_ble_eq_true rfl) rfl (fun v64 h65 => ?_)
    refine Sm.if_eq (t := 634) dL_law_594 (by decide) rfl (fun b66 => ?_) (fun b66 => ?_)
    · refine Sm.iconst dL_law_634 ic_0 rfl ?_
      refine Sm.istore_n (lv' := [.ref 0, .ref l1, .int (0 : Int32), .int l3, .null, .null, .int l6, .null, .int l8, .null, .null, .null, .null, .null]) dL_law_635 rfl (Nat.le_of_ble_eq_true rfl) rfl rfl ?_
      refine Sm.iinc (lv' := [.ref 0, .ref l1, .int (0 : Int32), .int (l3 + (1 : Int32)), .null, .null, .int l6, .null, .int l8, .null, .null, .null, .null, .null]) dL_law_636 rfl ic_1 rfl rfl ?_
      refine Sm.nm (LV := fun v67 => [.ref 0, .ref l1, .int (0 : Int32), .int v67, .null, .null, .int l6, .null, .int l8, .null, .null, .null, .null, .null]) (ST := fun v67 => []) (fun v67 => ?_)
      refine Sm.goto (t := 53) dL_law_639 (by decide) ?_
      exact Sm.wk (hk53 ((0 : Int32), v67, h65)) ⟨Or.inr rfl, Or.inr rfl, Or.inr rfl, Or.inr rfl, Or.inl rfl, Or.inl rfl, Or.inl rfl, Or.inl rfl, Or.inl rfl, Or.inl rfl, Or.inl rfl, Or.inl rfl, Or.inl rfl, Or.inl rfl, trivial⟩
    · exact Sm.wk (t_L_law_597 l1 l3 l6 l8 h65 k53 hk53) ⟨Or.inr rfl, Or.inr rfl, Or.inl rfl, Or.inr rfl, Or.inl rfl, Or.inl rfl, Or.inr rfl, Or.inl rfl, Or.inr rfl, Or.inl rfl, Or.inl rfl, Or.inl rfl, Or.inl rfl, Or.inl rfl, trivial⟩
  · exact Sm.wk (t_L_law_597 l1 l3 l6 l8 h k53 hk53) ⟨Or.inr rfl, Or.inr rfl, Or.inl rfl, Or.inr rfl, Or.inl rfl, Or.inl rfl, Or.inr rfl, Or.inl rfl, Or.inr rfl, Or.inl rfl, Or.inl rfl, Or.inl rfl, Or.inl rfl, Or.inl rfl, trivial⟩
def f_L_law_561 (k53 : (Int32 × Int32 × Hp) → Option (Int32 × Hp)) (l1 : Nat) (l3 : Int32) (l6 : Int32) (l8 : Int32) (l9 : Int32) (h : Hp) : Option (Int32 × Hp) :=
  (if (l3 - l3 / (3 : Int32) * (3 : Int32)) = (1 : Int32) then
(bd (f_L_isChanged l1 l8 l9 h) fun v59 h60 =>
(if v59 = 0 then
(nm (l3 + (1 : Int32)) fun v62 =>
(k53 ((0 : Int32), v62, h60)))
else
(f_L_law_579 k53 l1 l3 l6 l8 h60)))
else
(f_L_law_579 k53 l1 l3 l6 l8 h))
set_option maxRecDepth 20000 in
theorem t_L_law_561 (l1 : Nat) (l3 : Int32) (l6 : Int32) (l8 : Int32) (l9 : Int32) (h : Hp) (k53 : (Int32 × Int32 × Hp) → Option (Int32 × Hp)) (hk53 : ∀ s : Int32 × Int32 × Hp, Sm rvI g_L_law 53 [.ref 0, .ref l1, .int s.1, .int s.2.1, .null, .null, .null, .null, .null, .null, .null, .null, .null, .null] [] s.2.2 (k53 s)) : Sm rvI g_L_law 561 [.ref 0, .ref l1, .null, .int l3, .null, .null, .int l6, .null, .int l8, .int l9, .null, .null, .null, .null] [] h (f_L_law_561 k53 l1 l3 l6 l8 l9 h) := by
  unfold f_L_law_561
  refine Sm.iload_n dL_law_561 rfl rfl rfl ?_
  refine Sm.iconst dL_law_562 ic_3 rfl ?_
  refine Sm.irem dL_law_563 (by decide) rfl ?_
  refine Sm.iconst dL_law_564 ic_1 rfl ?_
  refine Sm.icmp_ne (t := 579) dL_law_565 (by decide) rfl (fun b58 => ?_) (fun b58 => ?_)
  · refine Sm.aload_n dL_law_568 rfl rfl rfl ?_
    refine Sm.iload dL_law_569 rfl rfl ?_
    refine Sm.iload dL_law_571 rfl rfl ?_
    refine kc_L_161 dL_law_573 rfl (Nat.le_of_ble_eq_true rfl) (Nat.le_of_ble_eq_true rfl) rfl (fun v59 h60 => ?_)
    refine Sm.if_eq (t := 634) dL_law_576 (by decide) rfl (fun b61 => ?_) (fun b61 => ?_)
    · refine Sm.iconst dL_law_634 ic_0 rfl ?_
      refine Sm.istore_n (lv' := [.ref 0, .ref l1, .int (0 : Int32), .int l3, .null, .null, .int l6, .null, .int l8, .int l9, .null, .null, .null, .null]) dL_law_635 rfl (Nat.le_of_ble_eq_true rfl) rfl rfl ?_
      refine Sm.iinc (lv' := [.ref 0, .ref l1, .int (0 : Int32), .int (l3 + (1 : Int32)), .null, .null, .int l6, .null, .int l8, .int l9, .null, .null, .null, .null]) dL_law_636 rfl ic_1 rfl rfl ?_
      refine Sm.nm (LV := fun v62 => [.ref 0, .ref l1, .int (0 : Int32), .int v62, .null, .null, .int l6, .null, .int l8, .int l9, .null, .null, .null, .null]) (ST := fun v62 => []) (fun v62 => ?_)
      refine Sm.goto (t := 53) dL_law_639 (by decide) ?_
      exact Sm.wk (hk53 ((0 : Int32), v62, h60)) ⟨Or.inr rfl, Or.inr rfl, Or.inr rfl, Or.inr rfl, Or.inl rfl, Or.inl rfl, Or.inl rfl, Or.inl rfl, Or.inl rfl, Or.inl rfl, Or.inl rfl, Or.inl rfl, Or.inl rfl, Or.inl rfl, trivial⟩
    · exact Sm.wk (t_L_law_579 l1 l3 l6 l8 h60 k53 hk53) ⟨Or.inr rfl, Or.inr rfl, Or.inl rfl, Or.inr rfl, Or.inl rfl, Or.inl rfl, Or.inr rfl, Or.inl rfl, Or.inr rfl, Or.inl rfl, Or.inl rfl, Or.inl rfl, Or.inl rfl, Or.inl rfl, trivial⟩
  · exact Sm.wk (t_L_law_579 l1 l3 l6 l8 h k53 hk53) ⟨Or.inr rfl, Or.inr rfl, Or.inl rfl, Or.inr rfl, Or.inl rfl, Or.inl rfl, Or.inr rfl, Or.inl rfl, Or.inr rfl, Or.inl rfl, Or.inl rfl, Or.inl rfl, Or.inl rfl, Or.inl rfl, trivial⟩
def f_L_law_506 (k53 : (Int32 × Int32 × Hp) → Option (Int32 × Hp)) (l1 : Nat) (l2 : Int32) (l3 : Int32) (l4 : Int32) (l6 : Int32) (l7 : Int32) (l8 : Int32) (l9 : Int32) (h : Hp) : Option (Int32 × Hp) :=
  (if l2 = 0 then
(nm (l3 + (1 : Int32)) fun v48 =>
(k53 ((0 : Int32), v48, h)))
else
(bd (f_L_isHit l1 l8 l9 h) fun v49 h50 =>
(if v49 = 0 then
(nm (l3 + (1 : Int32)) fun v52 =>
(k53 ((0 : Int32), v52, h50)))
else
(bd (f_L_isHit l1 l6 ((63 : Int32) - l9) h50) fun v53 h54 =>
(if v53 = 0 then
(nm (l3 + (1 : Int32)) fun v56 =>
(k53 ((0 : Int32), v56, h54)))
else
(if (l3 - l3 / (2 : Int32) * (2 : Int32)) = 0 then
(f_L_law_561 k53 l1 l3 l6 l8 l9 h54)
else
(bd (f_L_isJoined l1 ((l4 >>> ((7 : Int32) &&& 31)) &&& (1 : Int32)) l6 l7 l9 h54) fun v80 h81 =>
(if v80 = 0 then
(nm (l3 + (1 : Int32)) fun v83 =>
(k53 ((0 : Int32), v83, h81)))
else
(f_L_law_561 k53 l1 l3 l6 l8 l9 h81)))))))))
set_option maxRecDepth 20000 in
theorem t_L_law_506 (l1 : Nat) (l2 : Int32) (l3 : Int32) (l4 : Int32) (l6 : Int32) (l7 : Int32) (l8 : Int32) (l9 : Int32) (h : Hp) (k53 : (Int32 × Int32 × Hp) → Option (Int32 × Hp)) (hk53 : ∀ s : Int32 × Int32 × Hp, Sm rvI g_L_law 53 [.ref 0, .ref l1, .int s.1, .int s.2.1, .null, .null, .null, .null, .null, .null, .null, .null, .null, .null] [] s.2.2 (k53 s)) : Sm rvI g_L_law 506 [.ref 0, .ref l1, .int l2, .int l3, .int l4, .null, .int l6, .int l7, .int l8, .int l9, .null, .null, .null, .null] [] h (f_L_law_506 k53 l1 l2 l3 l4 l6 l7 l8 l9 h) := by
  unfold f_L_law_506
  refine Sm.iload_n dL_law_506 rfl rfl rfl ?_
  refine Sm.if_eq (t := 634) dL_law_507 (by decide) rfl (fun b47 => ?_) (fun b47 => ?_)
  · refine Sm.iconst dL_law_634 ic_0 rfl ?_
    refine Sm.istore_n (lv' := [.ref 0, .ref l1, .int (0 : Int32), .int l3, .int l4, .null, .int l6, .int l7, .int l8, .int l9, .null, .null, .null, .null]) dL_law_635 rfl (Nat.le_of_ble_eq_true rfl) rfl rfl ?_
    refine Sm.iinc (lv' := [.ref 0, .ref l1, .int (0 : Int32), .int (l3 + (1 : Int32)), .int l4, .null, .int l6, .int l7, .int l8, .int l9, .null, .null, .null, .null]) dL_law_636 rfl ic_1 rfl rfl ?_
    refine Sm.nm (LV := fun v48 => [.ref 0, .ref l1, .int (0 : Int32), .int v48, .int l4, .null, .int l6, .int l7, .int l8, .int l9, .null, .null, .null, .null]) (ST := fun v48 => []) (fun v48 => ?_)
    refine Sm.goto (t := 53) dL_law_639 (by decide) ?_
    exact Sm.wk (hk53 ((0 : Int32), v48, h)) ⟨Or.inr rfl, Or.inr rfl, Or.inr rfl, Or.inr rfl, Or.inl rfl, Or.inl rfl, Or.inl rfl, Or.inl rfl, Or.inl rfl, Or.inl rfl, Or.inl rfl, Or.inl rfl, Or.inl rfl, Or.inl rfl, trivial⟩
  · refine Sm.aload_n dL_law_510 rfl rfl rfl ?_
    refine Sm.iload dL_law_511 rfl rfl ?_
    refine Sm.iload dL_law_513 rfl rfl ?_
    refine kc_L_130 dL_law_515 rfl (Nat.le_of_ble_eq_true rfl) (Nat.le_of_ble_eq_true rfl) rfl (fun v49 h50 => ?_)
    refine Sm.if_eq (t := 634) dL_law_518 (by decide) rfl (fun b51 => ?_) (fun b51 => ?_)
    · refine Sm.iconst dL_law_634 ic_0 rfl ?_
      refine Sm.istore_n (lv' := [.ref 0, .ref l1, .int (0 : Int32), .int l3, .int l4, .null, .int l6, .int l7, .int l8, .int l9, .null, .null, .null, .null]) dL_law_635 rfl (Nat.le_of_ble_eq_true rfl) rfl rfl ?_
      refine Sm.iinc (lv' := [.ref 0, .ref l1, .int (0 : Int32), .int (l3 + (1 : Int32)), .int l4, .null, .int l6, .int l7, .int l8, .int l9, .null, .null, .null, .null]) dL_law_636 rfl ic_1 rfl rfl ?_
      refine Sm.nm (LV := fun v52 => [.ref 0, .ref l1, .int (0 : Int32), .int v52, .int l4, .null, .int l6, .int l7, .int l8, .int l9, .null, .null, .null, .null]) (ST := fun v52 => []) (fun v52 => ?_)
      refine Sm.goto (t := 53) dL_law_639 (by decide) ?_
      exact Sm.wk (hk53 ((0 : Int32), v52, h50)) ⟨Or.inr rfl, Or.inr rfl, Or.inr rfl, Or.inr rfl, Or.inl rfl, Or.inl rfl, Or.inl rfl, Or.inl rfl, Or.inl rfl, Or.inl rfl, Or.inl rfl, Or.inl rfl, Or.inl rfl, Or.inl rfl, trivial⟩
    · refine Sm.aload_n dL_law_521 rfl rfl rfl ?_
      refine Sm.iload dL_law_522 rfl rfl ?_
      refine Sm.bipush dL_law_524 bp_63 rfl ?_
      refine Sm.iload dL_law_526 rfl rfl ?_
      refine Sm.isub dL_law_528 rfl ?_
      refine kc_L_130 dL_law_529 rfl (Nat.le_of_ble_eq_true rfl) (Nat.le_of_ble_eq_true rfl) rfl (fun v53 h54 => ?_)
      refine Sm.if_eq (t := 634) dL_law_532 (by decide) rfl (fun b55 => ?_) (fun b55 => ?_)
      · refine Sm.iconst dL_law_634 ic_0 rfl ?_
        refine Sm.istore_n (lv' := [.ref 0, .ref l1, .int (0 : Int32), .int l3, .int l4, .null, .int l6, .int l7, .int l8, .int l9, .null, .null, .null, .null]) dL_law_635 rfl (Nat.le_of_ble_eq_true rfl) rfl rfl ?_
        refine Sm.iinc (lv' := [.ref 0, .ref l1, .int (0 : Int32), .int (l3 + (1 : Int32)), .int l4, .null, .int l6, .int l7, .int l8, .int l9, .null, .null, .null, .null]) dL_law_636 rfl ic_1 rfl rfl ?_
        refine Sm.nm (LV := fun v56 => [.ref 0, .ref l1, .int (0 : Int32), .int v56, .int l4, .null, .int l6, .int l7, .int l8, .int l9, .null, .null, .null, .null]) (ST := fun v56 => []) (fun v56 => ?_)
        refine Sm.goto (t := 53) dL_law_639 (by decide) ?_
        exact Sm.wk (hk53 ((0 : Int32), v56, h54)) ⟨Or.inr rfl, Or.inr rfl, Or.inr rfl, Or.inr rfl, Or.inl rfl, Or.inl rfl, Or.inl rfl, Or.inl rfl, Or.inl rfl, Or.inl rfl, Or.inl rfl, Or.inl rfl, Or.inl rfl, Or.inl rfl, trivial⟩
      · refine Sm.iload_n dL_law_535 rfl rfl rfl ?_
        refine Sm.iconst dL_law_536 ic_2 rfl ?_
        refine Sm.irem dL_law_537 (by decide) rfl ?_
        refine Sm.if_eq (t := 561) dL_law_538 (by decide) rfl (fun b57 => ?_) (fun b57 => ?_)
        · exact Sm.wk (t_L_law_561 l1 l3 l6 l8 l9 h54 k53 hk53) ⟨Or.inr rfl, Or.inr rfl, Or.inl rfl, Or.inr rfl, Or.inl rfl, Or.inl rfl, Or.inr rfl, Or.inl rfl, Or.inr rfl, Or.inr rfl, Or.inl rfl, Or.inl rfl, Or.inl rfl, Or.inl rfl, trivial⟩
        · refine Sm.aload_n dL_law_541 rfl rfl rfl ?_
          refine Sm.iload dL_law_542 rfl rfl ?_
          refine Sm.bipush dL_law_544 bp_7 rfl ?_
          refine Sm.ishr dL_law_546 rfl ?_
          refine Sm.iconst dL_law_547 ic_1 rfl ?_
          refine Sm.iand dL_law_548 rfl ?_
          refine Sm.iload dL_law_549 rfl rfl ?_
          refine Sm.iload dL_law_551 rfl rfl ?_
          refine Sm.iload dL_law_553 rfl rfl ?_
          refine kc_L_157 dL_law_555 rfl (Nat.le_of_ble_eq_true rfl) (Nat.le_of_ble_eq_true rfl) rfl (fun v80 h81 => ?_)
          refine Sm.if_eq (t := 634) dL_law_558 (by decide) rfl (fun b82 => ?_) (fun b82 => ?_)
          · refine Sm.iconst dL_law_634 ic_0 rfl ?_
            refine Sm.istore_n (lv' := [.ref 0, .ref l1, .int (0 : Int32), .int l3, .int l4, .null, .int l6, .int l7, .int l8, .int l9, .null, .null, .null, .null]) dL_law_635 rfl (Nat.le_of_ble_eq_true rfl) rfl rfl ?_
            refine Sm.iinc (lv' := [.ref 0, .ref l1, .int (0 : Int32), .int (l3 + (1 : Int32)), .int l4, .null, .int l6, .int l7, .int l8, .int l9, .null, .null, .null, .null]) dL_law_636 rfl ic_1 rfl rfl ?_
            refine Sm.nm (LV := fun v83 => [.ref 0, .ref l1, .int (0 : Int32), .int v83, .int l4, .null, .int l6, .int l7, .int l8, .int l9, .null, .null, .null, .null]) (ST := fun v83 => []) (fun v83 => ?_)
            refine Sm.goto (t := 53) dL_law_639 (by decide) ?_
            exact Sm.wk (hk53 ((0 : Int32), v83, h81)) ⟨Or.inr rfl, Or.inr rfl, Or.inr rfl, Or.inr rfl, Or.inl rfl, Or.inl rfl, Or.inl rfl, Or.inl rfl, Or.inl rfl, Or.inl rfl, Or.inl rfl, Or.inl rfl, Or.inl rfl, Or.inl rfl, trivial⟩
          · exact Sm.wk (t_L_law_561 l1 l3 l6 l8 l9 h81 k53 hk53) ⟨Or.inr rfl, Or.inr rfl, Or.inl rfl, Or.inr rfl, Or.inl rfl, Or.inl rfl, Or.inr rfl, Or.inl rfl, Or.inr rfl, Or.inr rfl, Or.inl rfl, Or.inl rfl, Or.inl rfl, Or.inl rfl, trivial⟩
def f_L_law_505 (k53 : (Int32 × Int32 × Hp) → Option (Int32 × Hp)) (l1 : Nat) (l3 : Int32) (l4 : Int32) (l6 : Int32) (l7 : Int32) (l8 : Int32) (l9 : Int32) (s0 : Int32) (h : Hp) : Option (Int32 × Hp) :=
  (f_L_law_506 k53 l1 s0 l3 l4 l6 l7 l8 l9 h)
set_option maxRecDepth 20000 in
theorem t_L_law_505 (l1 : Nat) (l3 : Int32) (l4 : Int32) (l6 : Int32) (l7 : Int32) (l8 : Int32) (l9 : Int32) (s0 : Int32) (h : Hp) (k53 : (Int32 × Int32 × Hp) → Option (Int32 × Hp)) (hk53 : ∀ s : Int32 × Int32 × Hp, Sm rvI g_L_law 53 [.ref 0, .ref l1, .int s.1, .int s.2.1, .null, .null, .null, .null, .null, .null, .null, .null, .null, .null] [] s.2.2 (k53 s)) : Sm rvI g_L_law 505 [.ref 0, .ref l1, .null, .int l3, .int l4, .null, .int l6, .int l7, .int l8, .int l9, .null, .null, .null, .null] [.int s0] h (f_L_law_505 k53 l1 l3 l4 l6 l7 l8 l9 s0 h) := by
  unfold f_L_law_505
  refine Sm.istore_n (lv' := [.ref 0, .ref l1, .int s0, .int l3, .int l4, .null, .int l6, .int l7, .int l8, .int l9, .null, .null, .null, .null]) dL_law_505 rfl (Nat.le_of_ble_eq_true rfl) rfl rfl ?_
  exact Sm.wk (t_L_law_506 l1 s0 l3 l4 l6 l7 l8 l9 h k53 hk53) ⟨Or.inr rfl, Or.inr rfl, Or.inr rfl, Or.inr rfl, Or.inr rfl, Or.inl rfl, Or.inr rfl, Or.inr rfl, Or.inr rfl, Or.inr rfl, Or.inl rfl, Or.inl rfl, Or.inl rfl, Or.inl rfl, trivial⟩
def f_L_law_504 (k53 : (Int32 × Int32 × Hp) → Option (Int32 × Hp)) (l1 : Nat) (l3 : Int32) (l4 : Int32) (l6 : Int32) (l7 : Int32) (l8 : Int32) (l9 : Int32) (h : Hp) : Option (Int32 × Hp) :=
  (f_L_law_505 k53 l1 l3 l4 l6 l7 l8 l9 (0 : Int32) h)
set_option maxRecDepth 20000 in
theorem t_L_law_504 (l1 : Nat) (l3 : Int32) (l4 : Int32) (l6 : Int32) (l7 : Int32) (l8 : Int32) (l9 : Int32) (h : Hp) (k53 : (Int32 × Int32 × Hp) → Option (Int32 × Hp)) (hk53 : ∀ s : Int32 × Int32 × Hp, Sm rvI g_L_law 53 [.ref 0, .ref l1, .int s.1, .int s.2.1, .null, .null, .null, .null, .null, .null, .null, .null, .null, .null] [] s.2.2 (k53 s)) : Sm rvI g_L_law 504 [.ref 0, .ref l1, .null, .int l3, .int l4, .null, .int l6, .int l7, .int l8, .int l9, .null, .null, .null, .null] [] h (f_L_law_504 k53 l1 l3 l4 l6 l7 l8 l9 h) := by
  unfold f_L_law_504
  refine Sm.iconst dL_law_504 ic_0 rfl ?_
  exact Sm.wk (t_L_law_505 l1 l3 l4 l6 l7 l8 l9 (0 : Int32) h k53 hk53) ⟨Or.inr rfl, Or.inr rfl, Or.inl rfl, Or.inr rfl, Or.inr rfl, Or.inl rfl, Or.inr rfl, Or.inr rfl, Or.inr rfl, Or.inr rfl, Or.inl rfl, Or.inl rfl, Or.inl rfl, Or.inl rfl, trivial⟩
def f_L_law_462 (k53 : (Int32 × Int32 × Hp) → Option (Int32 × Hp)) (l1 : Nat) (l3 : Int32) (l4 : Int32) (l6 : Int32) (l7 : Int32) (l8 : Int32) (l9 : Int32) (l10 : Int64) (l12 : Int32) (s0 : Int32) (h : Hp) : Option (Int32 × Hp) :=
  (if s0 = 0 then
(f_L_law_506 k53 l1 s0 l3 l4 l6 l7 l8 l9 h)
else
(if l12 ≤ 0 then
(f_L_law_506 k53 l1 s0 l3 l4 l6 l7 l8 l9 h)
else
(if ((l4 >>> ((17 : Int32) &&& 31)) &&& (7 : Int32)) = 0 then
(ck h l1 9
(bd (f_X9_undo l1 h) fun v87 h88 =>
(if v87 < 0 then
(f_L_law_504 k53 l1 l3 l4 l6 l7 l8 l9 h88)
else
(bd (f_L_print l1 h88) fun v90 h91 =>
(if (lg_cmp v90 l10) = 0 then
(f_L_law_505 k53 l1 l3 l4 l6 l7 l8 l9 (1 : Int32) h91)
else
(f_L_law_504 k53 l1 l3 l4 l6 l7 l8 l9 h91))))))
else
(f_L_law_506 k53 l1 s0 l3 l4 l6 l7 l8 l9 h))))
set_option maxRecDepth 20000 in
theorem t_L_law_462 (l1 : Nat) (l3 : Int32) (l4 : Int32) (l6 : Int32) (l7 : Int32) (l8 : Int32) (l9 : Int32) (l10 : Int64) (l12 : Int32) (s0 : Int32) (h : Hp) (k53 : (Int32 × Int32 × Hp) → Option (Int32 × Hp)) (hk53 : ∀ s : Int32 × Int32 × Hp, Sm rvI g_L_law 53 [.ref 0, .ref l1, .int s.1, .int s.2.1, .null, .null, .null, .null, .null, .null, .null, .null, .null, .null] [] s.2.2 (k53 s)) : Sm rvI g_L_law 462 [.ref 0, .ref l1, .null, .int l3, .int l4, .null, .int l6, .int l7, .int l8, .int l9, .long l10, .null, .int l12, .null] [.int s0] h (f_L_law_462 k53 l1 l3 l4 l6 l7 l8 l9 l10 l12 s0 h) := by
  unfold f_L_law_462
  refine Sm.istore_n (lv' := [.ref 0, .ref l1, .int s0, .int l3, .int l4, .null, .int l6, .int l7, .int l8, .int l9, .long l10, .null, .int l12, .null]) dL_law_462 rfl (Nat.le_of_ble_eq_true rfl) rfl rfl ?_
  refine Sm.iload_n dL_law_463 rfl rfl rfl ?_
  refine Sm.if_eq (t := 506) dL_law_464 (by decide) rfl (fun b46 => ?_) (fun b46 => ?_)
  · exact Sm.wk (t_L_law_506 l1 s0 l3 l4 l6 l7 l8 l9 h k53 hk53) ⟨Or.inr rfl, Or.inr rfl, Or.inr rfl, Or.inr rfl, Or.inr rfl, Or.inl rfl, Or.inr rfl, Or.inr rfl, Or.inr rfl, Or.inr rfl, Or.inl rfl, Or.inl rfl, Or.inl rfl, Or.inl rfl, trivial⟩
  · refine Sm.iload dL_law_467 rfl rfl ?_
    refine Sm.if_le (t := 506) dL_law_469 (by decide) rfl (fun b84 => ?_) (fun b84 => ?_)
    · exact Sm.wk (t_L_law_506 l1 s0 l3 l4 l6 l7 l8 l9 h k53 hk53) ⟨Or.inr rfl, Or.inr rfl, Or.inr rfl, Or.inr rfl, Or.inr rfl, Or.inl rfl, Or.inr rfl, Or.inr rfl, Or.inr rfl, Or.inr rfl, Or.inl rfl, Or.inl rfl, Or.inl rfl, Or.inl rfl, trivial⟩
    · refine Sm.iload dL_law_472 rfl rfl ?_
      refine Sm.bipush dL_law_474 bp_17 rfl ?_
      refine Sm.ishr dL_law_476 rfl ?_
      refine Sm.bipush dL_law_477 bp_7 rfl ?_
      refine Sm.iand dL_law_479 rfl ?_
      refine Sm.if_ne (t := 506) dL_law_480 (by decide) rfl (fun b85 => ?_) (fun b85 => ?_)
      · refine Sm.aload_n dL_law_483 rfl rfl rfl ?_
        refine Sm.ck (fun o86 => ?_)
        refine kc_L_62 o86 dL_law_484 rfl (Nat.le_of_ble_eq_true rfl) (Nat.le_of_ble_eq_true rfl) rfl (fun v87 h88 => ?_)
        refine Sm.if_lt (t := 504) dL_law_487 (by decide) rfl (fun b89 => ?_) (fun b89 => ?_)
        · exact Sm.wk (t_L_law_504 l1 l3 l4 l6 l7 l8 l9 h88 k53 hk53) ⟨Or.inr rfl, Or.inr rfl, Or.inl rfl, Or.inr rfl, Or.inr rfl, Or.inl rfl, Or.inr rfl, Or.inr rfl, Or.inr rfl, Or.inr rfl, Or.inl rfl, Or.inl rfl, Or.inl rfl, Or.inl rfl, trivial⟩
        · refine Sm.aload_n dL_law_490 rfl rfl rfl ?_
          refine kc_L_50 dL_law_491 rfl (Nat.le_of_ble_eq_true rfl) (Nat.le_of_ble_eq_true rfl) rfl (fun v90 h91 => ?_)
          refine Sm.lload dL_law_494 rfl rfl ?_
          refine Sm.lcmp dL_law_496 rfl ?_
          refine Sm.if_ne (t := 504) dL_law_497 (by decide) rfl (fun b92 => ?_) (fun b92 => ?_)
          · refine Sm.iconst dL_law_500 ic_1 rfl ?_
            refine Sm.goto (t := 505) dL_law_501 (by decide) ?_
            exact Sm.wk (t_L_law_505 l1 l3 l4 l6 l7 l8 l9 (1 : Int32) h91 k53 hk53) ⟨Or.inr rfl, Or.inr rfl, Or.inl rfl, Or.inr rfl, Or.inr rfl, Or.inl rfl, Or.inr rfl, Or.inr rfl, Or.inr rfl, Or.inr rfl, Or.inl rfl, Or.inl rfl, Or.inl rfl, Or.inl rfl, trivial⟩
          · exact Sm.wk (t_L_law_504 l1 l3 l4 l6 l7 l8 l9 h91 k53 hk53) ⟨Or.inr rfl, Or.inr rfl, Or.inl rfl, Or.inr rfl, Or.inr rfl, Or.inl rfl, Or.inr rfl, Or.inr rfl, Or.inr rfl, Or.inr rfl, Or.inl rfl, Or.inl rfl, Or.inl rfl, Or.inl rfl, trivial⟩
      · exact Sm.wk (t_L_law_506 l1 s0 l3 l4 l6 l7 l8 l9 h k53 hk53) ⟨Or.inr rfl, Or.inr rfl, Or.inr rfl, Or.inr rfl, Or.inr rfl, Or.inl rfl, Or.inr rfl, Or.inr rfl, Or.inr rfl, Or.inr rfl, Or.inl rfl, Or.inl rfl, Or.inl rfl, Or.inl rfl, trivial⟩
def f_L_law_461 (k53 : (Int32 × Int32 × Hp) → Option (Int32 × Hp)) (l1 : Nat) (l3 : Int32) (l4 : Int32) (l6 : Int32) (l7 : Int32) (l8 : Int32) (l9 : Int32) (l10 : Int64) (l12 : Int32) (h : Hp) : Option (Int32 × Hp) :=
  (f_L_law_462 k53 l1 l3 l4 l6 l7 l8 l9 l10 l12 (0 : Int32) h)
set_option maxRecDepth 20000 in
theorem t_L_law_461 (l1 : Nat) (l3 : Int32) (l4 : Int32) (l6 : Int32) (l7 : Int32) (l8 : Int32) (l9 : Int32) (l10 : Int64) (l12 : Int32) (h : Hp) (k53 : (Int32 × Int32 × Hp) → Option (Int32 × Hp)) (hk53 : ∀ s : Int32 × Int32 × Hp, Sm rvI g_L_law 53 [.ref 0, .ref l1, .int s.1, .int s.2.1, .null, .null, .null, .null, .null, .null, .null, .null, .null, .null] [] s.2.2 (k53 s)) : Sm rvI g_L_law 461 [.ref 0, .ref l1, .null, .int l3, .int l4, .null, .int l6, .int l7, .int l8, .int l9, .long l10, .null, .int l12, .null] [] h (f_L_law_461 k53 l1 l3 l4 l6 l7 l8 l9 l10 l12 h) := by
  unfold f_L_law_461
  refine Sm.iconst dL_law_461 ic_0 rfl ?_
  exact Sm.wk (t_L_law_462 l1 l3 l4 l6 l7 l8 l9 l10 l12 (0 : Int32) h k53 hk53) ⟨Or.inr rfl, Or.inr rfl, Or.inl rfl, Or.inr rfl, Or.inr rfl, Or.inl rfl, Or.inr rfl, Or.inr rfl, Or.inr rfl, Or.inr rfl, Or.inr rfl, Or.inl rfl, Or.inr rfl, Or.inl rfl, trivial⟩
def f_L_law_457 (k53 : (Int32 × Int32 × Hp) → Option (Int32 × Hp)) (l1 : Nat) (l3 : Int32) (l4 : Int32) (l6 : Int32) (l7 : Int32) (l8 : Int32) (l9 : Int32) (l10 : Int64) (l12 : Int32) (h : Hp) : Option (Int32 × Hp) :=
  (f_L_law_462 k53 l1 l3 l4 l6 l7 l8 l9 l10 l12 (1 : Int32) h)
set_option maxRecDepth 20000 in
theorem t_L_law_457 (l1 : Nat) (l3 : Int32) (l4 : Int32) (l6 : Int32) (l7 : Int32) (l8 : Int32) (l9 : Int32) (l10 : Int64) (l12 : Int32) (h : Hp) (k53 : (Int32 × Int32 × Hp) → Option (Int32 × Hp)) (hk53 : ∀ s : Int32 × Int32 × Hp, Sm rvI g_L_law 53 [.ref 0, .ref l1, .int s.1, .int s.2.1, .null, .null, .null, .null, .null, .null, .null, .null, .null, .null] [] s.2.2 (k53 s)) : Sm rvI g_L_law 457 [.ref 0, .ref l1, .null, .int l3, .int l4, .null, .int l6, .int l7, .int l8, .int l9, .long l10, .null, .int l12, .null] [] h (f_L_law_457 k53 l1 l3 l4 l6 l7 l8 l9 l10 l12 h) := by
  unfold f_L_law_457
  refine Sm.iconst dL_law_457 ic_1 rfl ?_
  refine Sm.goto (t := 462) dL_law_458 (by decide) ?_
  exact Sm.wk (t_L_law_462 l1 l3 l4 l6 l7 l8 l9 l10 l12 (1 : Int32) h k53 hk53) ⟨Or.inr rfl, Or.inr rfl, Or.inl rfl, Or.inr rfl, Or.inr rfl, Or.inl rfl, Or.inr rfl, Or.inr rfl, Or.inr rfl, Or.inr rfl, Or.inr rfl, Or.inl rfl, Or.inr rfl, Or.inl rfl, trivial⟩
def f_L_law_438 (k53 : (Int32 × Int32 × Hp) → Option (Int32 × Hp)) (l1 : Nat) (l2 : Int32) (l3 : Int32) (l4 : Int32) (l6 : Int32) (l7 : Int32) (l8 : Int32) (l9 : Int32) (l10 : Int64) (l12 : Int32) (h : Hp) : Option (Int32 × Hp) :=
  (if l2 = 0 then
(f_L_law_461 k53 l1 l3 l4 l6 l7 l8 l9 l10 l12 h)
else
(if 0 < l12 then
(f_L_law_457 k53 l1 l3 l4 l6 l7 l8 l9 l10 l12 h)
else
(bd (f_L_print l1 h) fun v94 h95 =>
(if (lg_cmp v94 l10) = 0 then
(f_L_law_457 k53 l1 l3 l4 l6 l7 l8 l9 l10 l12 h95)
else
(f_L_law_461 k53 l1 l3 l4 l6 l7 l8 l9 l10 l12 h95)))))
set_option maxRecDepth 20000 in
theorem t_L_law_438 (l1 : Nat) (l2 : Int32) (l3 : Int32) (l4 : Int32) (l6 : Int32) (l7 : Int32) (l8 : Int32) (l9 : Int32) (l10 : Int64) (l12 : Int32) (h : Hp) (k53 : (Int32 × Int32 × Hp) → Option (Int32 × Hp)) (hk53 : ∀ s : Int32 × Int32 × Hp, Sm rvI g_L_law 53 [.ref 0, .ref l1, .int s.1, .int s.2.1, .null, .null, .null, .null, .null, .null, .null, .null, .null, .null] [] s.2.2 (k53 s)) : Sm rvI g_L_law 438 [.ref 0, .ref l1, .int l2, .int l3, .int l4, .null, .int l6, .int l7, .int l8, .int l9, .long l10, .null, .int l12, .null] [] h (f_L_law_438 k53 l1 l2 l3 l4 l6 l7 l8 l9 l10 l12 h) := by
  unfold f_L_law_438
  refine Sm.iload_n dL_law_438 rfl rfl rfl ?_
  refine Sm.if_eq (t := 461) dL_law_439 (by decide) rfl (fun b45 => ?_) (fun b45 => ?_)
  · exact Sm.wk (t_L_law_461 l1 l3 l4 l6 l7 l8 l9 l10 l12 h k53 hk53) ⟨Or.inr rfl, Or.inr rfl, Or.inl rfl, Or.inr rfl, Or.inr rfl, Or.inl rfl, Or.inr rfl, Or.inr rfl, Or.inr rfl, Or.inr rfl, Or.inr rfl, Or.inl rfl, Or.inr rfl, Or.inl rfl, trivial⟩
  · refine Sm.iload dL_law_442 rfl rfl ?_
    refine Sm.if_gt (t := 457) dL_law_444 (by decide) rfl (fun b93 => ?_) (fun b93 => ?_)
    · exact Sm.wk (t_L_law_457 l1 l3 l4 l6 l7 l8 l9 l10 l12 h k53 hk53) ⟨Or.inr rfl, Or.inr rfl, Or.inl rfl, Or.inr rfl, Or.inr rfl, Or.inl rfl, Or.inr rfl, Or.inr rfl, Or.inr rfl, Or.inr rfl, Or.inr rfl, Or.inl rfl, Or.inr rfl, Or.inl rfl, trivial⟩
    · refine Sm.aload_n dL_law_447 rfl rfl rfl ?_
      refine kc_L_50 dL_law_448 rfl (Nat.le_of_ble_eq_true rfl) (Nat.le_of_ble_eq_true rfl) rfl (fun v94 h95 => ?_)
      refine Sm.lload dL_law_451 rfl rfl ?_
      refine Sm.lcmp dL_law_453 rfl ?_
      refine Sm.if_ne (t := 461) dL_law_454 (by decide) rfl (fun b96 => ?_) (fun b96 => ?_)
      · exact Sm.wk (t_L_law_457 l1 l3 l4 l6 l7 l8 l9 l10 l12 h95 k53 hk53) ⟨Or.inr rfl, Or.inr rfl, Or.inl rfl, Or.inr rfl, Or.inr rfl, Or.inl rfl, Or.inr rfl, Or.inr rfl, Or.inr rfl, Or.inr rfl, Or.inr rfl, Or.inl rfl, Or.inr rfl, Or.inl rfl, trivial⟩
      · exact Sm.wk (t_L_law_461 l1 l3 l4 l6 l7 l8 l9 l10 l12 h95 k53 hk53) ⟨Or.inr rfl, Or.inr rfl, Or.inl rfl, Or.inr rfl, Or.inr rfl, Or.inl rfl, Or.inr rfl, Or.inr rfl, Or.inr rfl, Or.inr rfl, Or.inr rfl, Or.inl rfl, Or.inr rfl, Or.inl rfl, trivial⟩
def f_L_law_437 (k53 : (Int32 × Int32 × Hp) → Option (Int32 × Hp)) (l1 : Nat) (l3 : Int32) (l4 : Int32) (l6 : Int32) (l7 : Int32) (l8 : Int32) (l9 : Int32) (l10 : Int64) (l12 : Int32) (s0 : Int32) (h : Hp) : Option (Int32 × Hp) :=
  (f_L_law_438 k53 l1 s0 l3 l4 l6 l7 l8 l9 l10 l12 h)
set_option maxRecDepth 20000 in
theorem t_L_law_437 (l1 : Nat) (l3 : Int32) (l4 : Int32) (l6 : Int32) (l7 : Int32) (l8 : Int32) (l9 : Int32) (l10 : Int64) (l12 : Int32) (s0 : Int32) (h : Hp) (k53 : (Int32 × Int32 × Hp) → Option (Int32 × Hp)) (hk53 : ∀ s : Int32 × Int32 × Hp, Sm rvI g_L_law 53 [.ref 0, .ref l1, .int s.1, .int s.2.1, .null, .null, .null, .null, .null, .null, .null, .null, .null, .null] [] s.2.2 (k53 s)) : Sm rvI g_L_law 437 [.ref 0, .ref l1, .null, .int l3, .int l4, .null, .int l6, .int l7, .int l8, .int l9, .long l10, .null, .int l12, .null] [.int s0] h (f_L_law_437 k53 l1 l3 l4 l6 l7 l8 l9 l10 l12 s0 h) := by
  unfold f_L_law_437
  refine Sm.istore_n (lv' := [.ref 0, .ref l1, .int s0, .int l3, .int l4, .null, .int l6, .int l7, .int l8, .int l9, .long l10, .null, .int l12, .null]) dL_law_437 rfl (Nat.le_of_ble_eq_true rfl) rfl rfl ?_
  exact Sm.wk (t_L_law_438 l1 s0 l3 l4 l6 l7 l8 l9 l10 l12 h k53 hk53) ⟨Or.inr rfl, Or.inr rfl, Or.inr rfl, Or.inr rfl, Or.inr rfl, Or.inl rfl, Or.inr rfl, Or.inr rfl, Or.inr rfl, Or.inr rfl, Or.inr rfl, Or.inl rfl, Or.inr rfl, Or.inl rfl, trivial⟩
def f_L_law_432 (k53 : (Int32 × Int32 × Hp) → Option (Int32 × Hp)) (l1 : Nat) (l3 : Int32) (l4 : Int32) (l6 : Int32) (l7 : Int32) (l8 : Int32) (l9 : Int32) (l10 : Int64) (l12 : Int32) (h : Hp) : Option (Int32 × Hp) :=
  (f_L_law_437 k53 l1 l3 l4 l6 l7 l8 l9 l10 l12 (1 : Int32) h)
set_option maxRecDepth 20000 in
theorem t_L_law_432 (l1 : Nat) (l3 : Int32) (l4 : Int32) (l6 : Int32) (l7 : Int32) (l8 : Int32) (l9 : Int32) (l10 : Int64) (l12 : Int32) (h : Hp) (k53 : (Int32 × Int32 × Hp) → Option (Int32 × Hp)) (hk53 : ∀ s : Int32 × Int32 × Hp, Sm rvI g_L_law 53 [.ref 0, .ref l1, .int s.1, .int s.2.1, .null, .null, .null, .null, .null, .null, .null, .null, .null, .null] [] s.2.2 (k53 s)) : Sm rvI g_L_law 432 [.ref 0, .ref l1, .null, .int l3, .int l4, .null, .int l6, .int l7, .int l8, .int l9, .long l10, .null, .int l12, .null] [] h (f_L_law_432 k53 l1 l3 l4 l6 l7 l8 l9 l10 l12 h) := by
  unfold f_L_law_432
  refine Sm.iconst dL_law_432 ic_1 rfl ?_
  refine Sm.goto (t := 437) dL_law_433 (by decide) ?_
  exact Sm.wk (t_L_law_437 l1 l3 l4 l6 l7 l8 l9 l10 l12 (1 : Int32) h k53 hk53) ⟨Or.inr rfl, Or.inr rfl, Or.inl rfl, Or.inr rfl, Or.inr rfl, Or.inl rfl, Or.inr rfl, Or.inr rfl, Or.inr rfl, Or.inr rfl, Or.inr rfl, Or.inl rfl, Or.inr rfl, Or.inl rfl, trivial⟩
def f_L_law_418 (k53 : (Int32 × Int32 × Hp) → Option (Int32 × Hp)) (l1 : Nat) (l3 : Int32) (l4 : Int32) (l6 : Int32) (l7 : Int32) (l8 : Int32) (l9 : Int32) (l10 : Int64) (l12 : Int32) (h : Hp) : Option (Int32 × Hp) :=
  (if l12 = (-4 : Int32) then
(f_L_law_432 k53 l1 l3 l4 l6 l7 l8 l9 l10 l12 h)
else
(if l12 = (-11 : Int32) then
(f_L_law_432 k53 l1 l3 l4 l6 l7 l8 l9 l10 l12 h)
else
(f_L_law_437 k53 l1 l3 l4 l6 l7 l8 l9 l10 l12 (0 : Int32) h)))
set_option maxRecDepth 20000 in
theorem t_L_law_418 (l1 : Nat) (l3 : Int32) (l4 : Int32) (l6 : Int32) (l7 : Int32) (l8 : Int32) (l9 : Int32) (l10 : Int64) (l12 : Int32) (h : Hp) (k53 : (Int32 × Int32 × Hp) → Option (Int32 × Hp)) (hk53 : ∀ s : Int32 × Int32 × Hp, Sm rvI g_L_law 53 [.ref 0, .ref l1, .int s.1, .int s.2.1, .null, .null, .null, .null, .null, .null, .null, .null, .null, .null] [] s.2.2 (k53 s)) : Sm rvI g_L_law 418 [.ref 0, .ref l1, .null, .int l3, .int l4, .null, .int l6, .int l7, .int l8, .int l9, .long l10, .null, .int l12, .null] [] h (f_L_law_418 k53 l1 l3 l4 l6 l7 l8 l9 l10 l12 h) := by
  unfold f_L_law_418
  refine Sm.iload dL_law_418 rfl rfl ?_
  refine Sm.bipush dL_law_420 bp_m4 rfl ?_
  refine Sm.icmp_eq (t := 432) dL_law_422 (by decide) rfl (fun b44 => ?_) (fun b44 => ?_)
  · exact Sm.wk (t_L_law_432 l1 l3 l4 l6 l7 l8 l9 l10 l12 h k53 hk53) ⟨Or.inr rfl, Or.inr rfl, Or.inl rfl, Or.inr rfl, Or.inr rfl, Or.inl rfl, Or.inr rfl, Or.inr rfl, Or.inr rfl, Or.inr rfl, Or.inr rfl, Or.inl rfl, Or.inr rfl, Or.inl rfl, trivial⟩
  · refine Sm.iload dL_law_425 rfl rfl ?_
    refine Sm.bipush dL_law_427 bp_m11 rfl ?_
    refine Sm.icmp_ne (t := 436) dL_law_429 (by decide) rfl (fun b97 => ?_) (fun b97 => ?_)
    · exact Sm.wk (t_L_law_432 l1 l3 l4 l6 l7 l8 l9 l10 l12 h k53 hk53) ⟨Or.inr rfl, Or.inr rfl, Or.inl rfl, Or.inr rfl, Or.inr rfl, Or.inl rfl, Or.inr rfl, Or.inr rfl, Or.inr rfl, Or.inr rfl, Or.inr rfl, Or.inl rfl, Or.inr rfl, Or.inl rfl, trivial⟩
    · refine Sm.iconst dL_law_436 ic_0 rfl ?_
      exact Sm.wk (t_L_law_437 l1 l3 l4 l6 l7 l8 l9 l10 l12 (0 : Int32) h k53 hk53) ⟨Or.inr rfl, Or.inr rfl, Or.inl rfl, Or.inr rfl, Or.inr rfl, Or.inl rfl, Or.inr rfl, Or.inr rfl, Or.inr rfl, Or.inr rfl, Or.inr rfl, Or.inl rfl, Or.inr rfl, Or.inl rfl, trivial⟩
def f_L_law_383 (k53 : (Int32 × Int32 × Hp) → Option (Int32 × Hp)) (l1 : Nat) (l3 : Int32) (l4 : Int32) (l5 : Int32) (l6 : Int32) (l7 : Int32) (l8 : Int32) (l9 : Int32) (l10 : Int64) (s0 : Nat) (s1 : Int64) (h : Hp) : Option (Int32 × Hp) :=
  (bd (f_L_low (l5 >>> ((12 : Int32) &&& 31)) (4 : Int32) h) fun v37 h38 =>
(bd (f_L_filled s1 l6 l7 v37 h38) fun v39 h40 =>
(bd (f_L_parsed s0 v39 l8 h40) fun v41 h42 =>
(if v41 ≤ 0 then
(f_L_law_418 k53 l1 l3 l4 l6 l7 l8 l9 l10 v41 h42)
else
(if v41 < (61 : Int32) then
(f_L_law_432 k53 l1 l3 l4 l6 l7 l8 l9 l10 v41 h42)
else
(f_L_law_418 k53 l1 l3 l4 l6 l7 l8 l9 l10 v41 h42))))))
set_option maxRecDepth 20000 in
theorem t_L_law_383 (l1 : Nat) (l3 : Int32) (l4 : Int32) (l5 : Int32) (l6 : Int32) (l7 : Int32) (l8 : Int32) (l9 : Int32) (l10 : Int64) (s0 : Nat) (s1 : Int64) (h : Hp) (k53 : (Int32 × Int32 × Hp) → Option (Int32 × Hp)) (hk53 : ∀ s : Int32 × Int32 × Hp, Sm rvI g_L_law 53 [.ref 0, .ref l1, .int s.1, .int s.2.1, .null, .null, .null, .null, .null, .null, .null, .null, .null, .null] [] s.2.2 (k53 s)) : Sm rvI g_L_law 383 [.ref 0, .ref l1, .null, .int l3, .int l4, .int l5, .int l6, .int l7, .int l8, .int l9, .long l10, .null, .null, .null] [.long s1, .ref s0] h (f_L_law_383 k53 l1 l3 l4 l5 l6 l7 l8 l9 l10 s0 s1 h) := by
  unfold f_L_law_383
  refine Sm.iload dL_law_383 rfl rfl ?_
  refine Sm.iload dL_law_385 rfl rfl ?_
  refine Sm.iload dL_law_387 rfl rfl ?_
  refine Sm.bipush dL_law_389 bp_12 rfl ?_
  refine Sm.ishr dL_law_391 rfl ?_
  refine Sm.iconst dL_law_392 ic_4 rfl ?_
  refine kc_L_140 dL_law_393 rfl (Nat.le_of_ble_eq_true rfl) (Nat.le_of_ble_eq_true rfl) rfl (fun v37 h38 => ?_)
  refine kc_L_153 dL_law_396 rfl (Nat.le_of_ble_eq_true rfl) (Nat.le_of_ble_eq_true rfl) rfl (fun v39 h40 => ?_)
  refine Sm.iload dL_law_399 rfl rfl ?_
  refine kc_L_143 dL_law_401 rfl (Nat.le_of_ble_eq_true rfl) (Nat.le_of_ble_eq_true rfl) rfl (fun v41 h42 => ?_)
  refine Sm.istore (lv' := [.ref 0, .ref l1, .null, .int l3, .int l4, .int l5, .int l6, .int l7, .int l8, .int l9, .long l10, .null, .int v41, .null]) dL_law_404 (Nat.le_of_ble_eq_true rfl) rfl rfl ?_
  refine Sm.iload dL_law_406 rfl rfl ?_
  refine Sm.if_le (t := 418) dL_law_408 (by decide) rfl (fun b43 => ?_) (fun b43 => ?_)
  · exact Sm.wk (t_L_law_418 l1 l3 l4 l6 l7 l8 l9 l10 v41 h42 k53 hk53) ⟨Or.inr rfl, Or.inr rfl, Or.inl rfl, Or.inr rfl, Or.inr rfl, Or.inl rfl, Or.inr rfl, Or.inr rfl, Or.inr rfl, Or.inr rfl, Or.inr rfl, Or.inl rfl, Or.inr rfl, Or.inl rfl, trivial⟩
  · refine Sm.iload dL_law_411 rfl rfl ?_
    refine Sm.bipush dL_law_413 bp_61 rfl ?_
    refine Sm.icmp_lt (t := 432) dL_law_415 (by decide) rfl (fun b98 => ?_) (fun b98 => ?_)
    · exact Sm.wk (t_L_law_432 l1 l3 l4 l6 l7 l8 l9 l10 v41 h42 k53 hk53) ⟨Or.inr rfl, Or.inr rfl, Or.inl rfl, Or.inr rfl, Or.inr rfl, Or.inl rfl, Or.inr rfl, Or.inr rfl, Or.inr rfl, Or.inr rfl, Or.inr rfl, Or.inl rfl, Or.inr rfl, Or.inl rfl, trivial⟩
    · exact Sm.wk (t_L_law_418 l1 l3 l4 l6 l7 l8 l9 l10 v41 h42 k53 hk53) ⟨Or.inr rfl, Or.inr rfl, Or.inl rfl, Or.inr rfl, Or.inr rfl, Or.inl rfl, Or.inr rfl, Or.inr rfl, Or.inr rfl, Or.inr rfl, Or.inr rfl, Or.inl rfl, Or.inr rfl, Or.inl rfl, trivial⟩
def f_L_law_344 (k53 : (Int32 × Int32 × Hp) → Option (Int32 × Hp)) (l1 : Nat) (l3 : Int32) (l4 : Int32) (l6 : Int32) (l7 : Int32) (l8 : Int32) (l9 : Int32) (l10 : Int64) (l12 : Int32) (s0 : Int32) (h : Hp) : Option (Int32 × Hp) :=
  (f_L_law_438 k53 l1 s0 l3 l4 l6 l7 l8 l9 l10 l12 h)
set_option maxRecDepth 20000 in
theorem t_L_law_344 (l1 : Nat) (l3 : Int32) (l4 : Int32) (l6 : Int32) (l7 : Int32) (l8 : Int32) (l9 : Int32) (l10 : Int64) (l12 : Int32) (s0 : Int32) (h : Hp) (k53 : (Int32 × Int32 × Hp) → Option (Int32 × Hp)) (hk53 : ∀ s : Int32 × Int32 × Hp, Sm rvI g_L_law 53 [.ref 0, .ref l1, .int s.1, .int s.2.1, .null, .null, .null, .null, .null, .null, .null, .null, .null, .null] [] s.2.2 (k53 s)) : Sm rvI g_L_law 344 [.ref 0, .ref l1, .null, .int l3, .int l4, .null, .int l6, .int l7, .int l8, .int l9, .long l10, .null, .int l12, .null] [.int s0] h (f_L_law_344 k53 l1 l3 l4 l6 l7 l8 l9 l10 l12 s0 h) := by
  unfold f_L_law_344
  refine Sm.istore_n (lv' := [.ref 0, .ref l1, .int s0, .int l3, .int l4, .null, .int l6, .int l7, .int l8, .int l9, .long l10, .null, .int l12, .null]) dL_law_344 rfl (Nat.le_of_ble_eq_true rfl) rfl rfl ?_
  refine Sm.goto (t := 438) dL_law_345 (by decide) ?_
  exact Sm.wk (t_L_law_438 l1 s0 l3 l4 l6 l7 l8 l9 l10 l12 h k53 hk53) ⟨Or.inr rfl, Or.inr rfl, Or.inr rfl, Or.inr rfl, Or.inr rfl, Or.inl rfl, Or.inr rfl, Or.inr rfl, Or.inr rfl, Or.inr rfl, Or.inr rfl, Or.inl rfl, Or.inr rfl, Or.inl rfl, trivial⟩
def f_L_law_339 (k53 : (Int32 × Int32 × Hp) → Option (Int32 × Hp)) (l1 : Nat) (l3 : Int32) (l4 : Int32) (l6 : Int32) (l7 : Int32) (l8 : Int32) (l9 : Int32) (l10 : Int64) (l12 : Int32) (h : Hp) : Option (Int32 × Hp) :=
  (f_L_law_344 k53 l1 l3 l4 l6 l7 l8 l9 l10 l12 (1 : Int32) h)
set_option maxRecDepth 20000 in
theorem t_L_law_339 (l1 : Nat) (l3 : Int32) (l4 : Int32) (l6 : Int32) (l7 : Int32) (l8 : Int32) (l9 : Int32) (l10 : Int64) (l12 : Int32) (h : Hp) (k53 : (Int32 × Int32 × Hp) → Option (Int32 × Hp)) (hk53 : ∀ s : Int32 × Int32 × Hp, Sm rvI g_L_law 53 [.ref 0, .ref l1, .int s.1, .int s.2.1, .null, .null, .null, .null, .null, .null, .null, .null, .null, .null] [] s.2.2 (k53 s)) : Sm rvI g_L_law 339 [.ref 0, .ref l1, .null, .int l3, .int l4, .null, .int l6, .int l7, .int l8, .int l9, .long l10, .null, .int l12, .null] [] h (f_L_law_339 k53 l1 l3 l4 l6 l7 l8 l9 l10 l12 h) := by
  unfold f_L_law_339
  refine Sm.iconst dL_law_339 ic_1 rfl ?_
  refine Sm.goto (t := 344) dL_law_340 (by decide) ?_
  exact Sm.wk (t_L_law_344 l1 l3 l4 l6 l7 l8 l9 l10 l12 (1 : Int32) h k53 hk53) ⟨Or.inr rfl, Or.inr rfl, Or.inl rfl, Or.inr rfl, Or.inr rfl, Or.inl rfl, Or.inr rfl, Or.inr rfl, Or.inr rfl, Or.inr rfl, Or.inr rfl, Or.inl rfl, Or.inr rfl, Or.inl rfl, trivial⟩
def f_L_law_325 (k53 : (Int32 × Int32 × Hp) → Option (Int32 × Hp)) (l1 : Nat) (l3 : Int32) (l4 : Int32) (l6 : Int32) (l7 : Int32) (l8 : Int32) (l9 : Int32) (l10 : Int64) (l12 : Int32) (h : Hp) : Option (Int32 × Hp) :=
  (if l12 = (-4 : Int32) then
(f_L_law_339 k53 l1 l3 l4 l6 l7 l8 l9 l10 l12 h)
else
(if l12 = (-3 : Int32) then
(f_L_law_339 k53 l1 l3 l4 l6 l7 l8 l9 l10 l12 h)
else
(f_L_law_344 k53 l1 l3 l4 l6 l7 l8 l9 l10 l12 (0 : Int32) h)))
set_option maxRecDepth 20000 in
theorem t_L_law_325 (l1 : Nat) (l3 : Int32) (l4 : Int32) (l6 : Int32) (l7 : Int32) (l8 : Int32) (l9 : Int32) (l10 : Int64) (l12 : Int32) (h : Hp) (k53 : (Int32 × Int32 × Hp) → Option (Int32 × Hp)) (hk53 : ∀ s : Int32 × Int32 × Hp, Sm rvI g_L_law 53 [.ref 0, .ref l1, .int s.1, .int s.2.1, .null, .null, .null, .null, .null, .null, .null, .null, .null, .null] [] s.2.2 (k53 s)) : Sm rvI g_L_law 325 [.ref 0, .ref l1, .null, .int l3, .int l4, .null, .int l6, .int l7, .int l8, .int l9, .long l10, .null, .int l12, .null] [] h (f_L_law_325 k53 l1 l3 l4 l6 l7 l8 l9 l10 l12 h) := by
  unfold f_L_law_325
  refine Sm.iload dL_law_325 rfl rfl ?_
  refine Sm.bipush dL_law_327 bp_m4 rfl ?_
  refine Sm.icmp_eq (t := 339) dL_law_329 (by decide) rfl (fun b104 => ?_) (fun b104 => ?_)
  · exact Sm.wk (t_L_law_339 l1 l3 l4 l6 l7 l8 l9 l10 l12 h k53 hk53) ⟨Or.inr rfl, Or.inr rfl, Or.inl rfl, Or.inr rfl, Or.inr rfl, Or.inl rfl, Or.inr rfl, Or.inr rfl, Or.inr rfl, Or.inr rfl, Or.inr rfl, Or.inl rfl, Or.inr rfl, Or.inl rfl, trivial⟩
  · refine Sm.iload dL_law_332 rfl rfl ?_
    refine Sm.bipush dL_law_334 bp_m3 rfl ?_
    refine Sm.icmp_ne (t := 343) dL_law_336 (by decide) rfl (fun b105 => ?_) (fun b105 => ?_)
    · exact Sm.wk (t_L_law_339 l1 l3 l4 l6 l7 l8 l9 l10 l12 h k53 hk53) ⟨Or.inr rfl, Or.inr rfl, Or.inl rfl, Or.inr rfl, Or.inr rfl, Or.inl rfl, Or.inr rfl, Or.inr rfl, Or.inr rfl, Or.inr rfl, Or.inr rfl, Or.inl rfl, Or.inr rfl, Or.inl rfl, trivial⟩
    · refine Sm.iconst dL_law_343 ic_0 rfl ?_
      exact Sm.wk (t_L_law_344 l1 l3 l4 l6 l7 l8 l9 l10 l12 (0 : Int32) h k53 hk53) ⟨Or.inr rfl, Or.inr rfl, Or.inl rfl, Or.inr rfl, Or.inr rfl, Or.inl rfl, Or.inr rfl, Or.inr rfl, Or.inr rfl, Or.inr rfl, Or.inr rfl, Or.inl rfl, Or.inr rfl, Or.inl rfl, trivial⟩
def f_L_law_286 (k53 : (Int32 × Int32 × Hp) → Option (Int32 × Hp)) (l1 : Nat) (l3 : Int32) (l4 : Int32) (l6 : Int32) (l7 : Int32) (l8 : Int32) (l9 : Int32) (l10 : Int64) (l12 : Int32) (s0 : Int32) (h : Hp) : Option (Int32 × Hp) :=
  (f_L_law_438 k53 l1 s0 l3 l4 l6 l7 l8 l9 l10 l12 h)
set_option maxRecDepth 20000 in
theorem t_L_law_286 (l1 : Nat) (l3 : Int32) (l4 : Int32) (l6 : Int32) (l7 : Int32) (l8 : Int32) (l9 : Int32) (l10 : Int64) (l12 : Int32) (s0 : Int32) (h : Hp) (k53 : (Int32 × Int32 × Hp) → Option (Int32 × Hp)) (hk53 : ∀ s : Int32 × Int32 × Hp, Sm rvI g_L_law 53 [.ref 0, .ref l1, .int s.1, .int s.2.1, .null, .null, .null, .null, .null, .null, .null, .null, .null, .null] [] s.2.2 (k53 s)) : Sm rvI g_L_law 286 [.ref 0, .ref l1, .null, .int l3, .int l4, .null, .int l6, .int l7, .int l8, .int l9, .long l10, .null, .int l12, .null] [.int s0] h (f_L_law_286 k53 l1 l3 l4 l6 l7 l8 l9 l10 l12 s0 h) := by
  unfold f_L_law_286
  refine Sm.istore_n (lv' := [.ref 0, .ref l1, .int s0, .int l3, .int l4, .null, .int l6, .int l7, .int l8, .int l9, .long l10, .null, .int l12, .null]) dL_law_286 rfl (Nat.le_of_ble_eq_true rfl) rfl rfl ?_
  refine Sm.goto (t := 438) dL_law_287 (by decide) ?_
  exact Sm.wk (t_L_law_438 l1 s0 l3 l4 l6 l7 l8 l9 l10 l12 h k53 hk53) ⟨Or.inr rfl, Or.inr rfl, Or.inr rfl, Or.inr rfl, Or.inr rfl, Or.inl rfl, Or.inr rfl, Or.inr rfl, Or.inr rfl, Or.inr rfl, Or.inr rfl, Or.inl rfl, Or.inr rfl, Or.inl rfl, trivial⟩
def f_L_law_281 (k53 : (Int32 × Int32 × Hp) → Option (Int32 × Hp)) (l1 : Nat) (l3 : Int32) (l4 : Int32) (l6 : Int32) (l7 : Int32) (l8 : Int32) (l9 : Int32) (l10 : Int64) (l12 : Int32) (h : Hp) : Option (Int32 × Hp) :=
  (f_L_law_286 k53 l1 l3 l4 l6 l7 l8 l9 l10 l12 (1 : Int32) h)
set_option maxRecDepth 20000 in
theorem t_L_law_281 (l1 : Nat) (l3 : Int32) (l4 : Int32) (l6 : Int32) (l7 : Int32) (l8 : Int32) (l9 : Int32) (l10 : Int64) (l12 : Int32) (h : Hp) (k53 : (Int32 × Int32 × Hp) → Option (Int32 × Hp)) (hk53 : ∀ s : Int32 × Int32 × Hp, Sm rvI g_L_law 53 [.ref 0, .ref l1, .int s.1, .int s.2.1, .null, .null, .null, .null, .null, .null, .null, .null, .null, .null] [] s.2.2 (k53 s)) : Sm rvI g_L_law 281 [.ref 0, .ref l1, .null, .int l3, .int l4, .null, .int l6, .int l7, .int l8, .int l9, .long l10, .null, .int l12, .null] [] h (f_L_law_281 k53 l1 l3 l4 l6 l7 l8 l9 l10 l12 h) := by
  unfold f_L_law_281
  refine Sm.iconst dL_law_281 ic_1 rfl ?_
  refine Sm.goto (t := 286) dL_law_282 (by decide) ?_
  exact Sm.wk (t_L_law_286 l1 l3 l4 l6 l7 l8 l9 l10 l12 (1 : Int32) h k53 hk53) ⟨Or.inr rfl, Or.inr rfl, Or.inl rfl, Or.inr rfl, Or.inr rfl, Or.inl rfl, Or.inr rfl, Or.inr rfl, Or.inr rfl, Or.inr rfl, Or.inr rfl, Or.inl rfl, Or.inr rfl, Or.inl rfl, trivial⟩
def f_L_law_274 (k53 : (Int32 × Int32 × Hp) → Option (Int32 × Hp)) (l1 : Nat) (l3 : Int32) (l4 : Int32) (l6 : Int32) (l7 : Int32) (l8 : Int32) (l9 : Int32) (l10 : Int64) (l12 : Int32) (h : Hp) : Option (Int32 × Hp) :=
  (if l12 = (-4 : Int32) then
(f_L_law_281 k53 l1 l3 l4 l6 l7 l8 l9 l10 l12 h)
else
(f_L_law_286 k53 l1 l3 l4 l6 l7 l8 l9 l10 l12 (0 : Int32) h))
set_option maxRecDepth 20000 in
theorem t_L_law_274 (l1 : Nat) (l3 : Int32) (l4 : Int32) (l6 : Int32) (l7 : Int32) (l8 : Int32) (l9 : Int32) (l10 : Int64) (l12 : Int32) (h : Hp) (k53 : (Int32 × Int32 × Hp) → Option (Int32 × Hp)) (hk53 : ∀ s : Int32 × Int32 × Hp, Sm rvI g_L_law 53 [.ref 0, .ref l1, .int s.1, .int s.2.1, .null, .null, .null, .null, .null, .null, .null, .null, .null, .null] [] s.2.2 (k53 s)) : Sm rvI g_L_law 274 [.ref 0, .ref l1, .null, .int l3, .int l4, .null, .int l6, .int l7, .int l8, .int l9, .long l10, .null, .int l12, .null] [] h (f_L_law_274 k53 l1 l3 l4 l6 l7 l8 l9 l10 l12 h) := by
  unfold f_L_law_274
  refine Sm.iload dL_law_274 rfl rfl ?_
  refine Sm.bipush dL_law_276 bp_m4 rfl ?_
  refine Sm.icmp_ne (t := 285) dL_law_278 (by decide) rfl (fun b111 => ?_) (fun b111 => ?_)
  · exact Sm.wk (t_L_law_281 l1 l3 l4 l6 l7 l8 l9 l10 l12 h k53 hk53) ⟨Or.inr rfl, Or.inr rfl, Or.inl rfl, Or.inr rfl, Or.inr rfl, Or.inl rfl, Or.inr rfl, Or.inr rfl, Or.inr rfl, Or.inr rfl, Or.inr rfl, Or.inl rfl, Or.inr rfl, Or.inl rfl, trivial⟩
  · refine Sm.iconst dL_law_285 ic_0 rfl ?_
    exact Sm.wk (t_L_law_286 l1 l3 l4 l6 l7 l8 l9 l10 l12 (0 : Int32) h k53 hk53) ⟨Or.inr rfl, Or.inr rfl, Or.inl rfl, Or.inr rfl, Or.inr rfl, Or.inl rfl, Or.inr rfl, Or.inr rfl, Or.inr rfl, Or.inr rfl, Or.inr rfl, Or.inl rfl, Or.inr rfl, Or.inl rfl, trivial⟩
def f_L_law_233 (k53 : (Int32 × Int32 × Hp) → Option (Int32 × Hp)) (l1 : Nat) (l3 : Int32) (l4 : Int32) (l6 : Int32) (l7 : Int32) (l8 : Int32) (l9 : Int32) (l10 : Int64) (l12 : Int32) (s0 : Int32) (h : Hp) : Option (Int32 × Hp) :=
  (f_L_law_438 k53 l1 s0 l3 l4 l6 l7 l8 l9 l10 l12 h)
set_option maxRecDepth 20000 in
theorem t_L_law_233 (l1 : Nat) (l3 : Int32) (l4 : Int32) (l6 : Int32) (l7 : Int32) (l8 : Int32) (l9 : Int32) (l10 : Int64) (l12 : Int32) (s0 : Int32) (h : Hp) (k53 : (Int32 × Int32 × Hp) → Option (Int32 × Hp)) (hk53 : ∀ s : Int32 × Int32 × Hp, Sm rvI g_L_law 53 [.ref 0, .ref l1, .int s.1, .int s.2.1, .null, .null, .null, .null, .null, .null, .null, .null, .null, .null] [] s.2.2 (k53 s)) : Sm rvI g_L_law 233 [.ref 0, .ref l1, .null, .int l3, .int l4, .null, .int l6, .int l7, .int l8, .int l9, .long l10, .null, .int l12, .null] [.int s0] h (f_L_law_233 k53 l1 l3 l4 l6 l7 l8 l9 l10 l12 s0 h) := by
  unfold f_L_law_233
  refine Sm.istore_n (lv' := [.ref 0, .ref l1, .int s0, .int l3, .int l4, .null, .int l6, .int l7, .int l8, .int l9, .long l10, .null, .int l12, .null]) dL_law_233 rfl (Nat.le_of_ble_eq_true rfl) rfl rfl ?_
  refine Sm.goto (t := 438) dL_law_234 (by decide) ?_
  exact Sm.wk (t_L_law_438 l1 s0 l3 l4 l6 l7 l8 l9 l10 l12 h k53 hk53) ⟨Or.inr rfl, Or.inr rfl, Or.inr rfl, Or.inr rfl, Or.inr rfl, Or.inl rfl, Or.inr rfl, Or.inr rfl, Or.inr rfl, Or.inr rfl, Or.inr rfl, Or.inl rfl, Or.inr rfl, Or.inl rfl, trivial⟩
def f_L_law_217 (k53 : (Int32 × Int32 × Hp) → Option (Int32 × Hp)) (l1 : Nat) (l3 : Int32) (l4 : Int32) (l6 : Int32) (l7 : Int32) (l8 : Int32) (l9 : Int32) (l10 : Int64) (s0 : Nat) (s1 : Int64) (s2 : Int32) (h : Hp) : Option (Int32 × Hp) :=
  (bd (f_L_parsed s0 s1 s2 h) fun v119 h120 =>
(if v119 = (1 : Int32) then
(f_L_law_233 k53 l1 l3 l4 l6 l7 l8 l9 l10 v119 (1 : Int32) h120)
else
(f_L_law_233 k53 l1 l3 l4 l6 l7 l8 l9 l10 v119 (0 : Int32) h120)))
set_option maxRecDepth 20000 in
theorem t_L_law_217 (l1 : Nat) (l3 : Int32) (l4 : Int32) (l6 : Int32) (l7 : Int32) (l8 : Int32) (l9 : Int32) (l10 : Int64) (s0 : Nat) (s1 : Int64) (s2 : Int32) (h : Hp) (k53 : (Int32 × Int32 × Hp) → Option (Int32 × Hp)) (hk53 : ∀ s : Int32 × Int32 × Hp, Sm rvI g_L_law 53 [.ref 0, .ref l1, .int s.1, .int s.2.1, .null, .null, .null, .null, .null, .null, .null, .null, .null, .null] [] s.2.2 (k53 s)) : Sm rvI g_L_law 217 [.ref 0, .ref l1, .null, .int l3, .int l4, .null, .int l6, .int l7, .int l8, .int l9, .long l10, .null, .null, .null] [.int s2, .long s1, .ref s0] h (f_L_law_217 k53 l1 l3 l4 l6 l7 l8 l9 l10 s0 s1 s2 h) := by
  unfold f_L_law_217
  refine kc_L_143 dL_law_217 rfl (Nat.le_of_ble_eq_true rfl) (Nat.le_of_ble_eq_true rfl) rfl (fun v119 h120 => ?_)
  refine Sm.istore (lv' := [.ref 0, .ref l1, .null, .int l3, .int l4, .null, .int l6, .int l7, .int l8, .int l9, .long l10, .null, .int v119, .null]) dL_law_220 (Nat.le_of_ble_eq_true rfl) rfl rfl ?_
  refine Sm.iload dL_law_222 rfl rfl ?_
  refine Sm.iconst dL_law_224 ic_1 rfl ?_
  refine Sm.icmp_ne (t := 232) dL_law_225 (by decide) rfl (fun b121 => ?_) (fun b121 => ?_)
  · refine Sm.iconst dL_law_228 ic_1 rfl ?_
    refine Sm.goto (t := 233) dL_law_229 (by decide) ?_
    exact Sm.wk (t_L_law_233 l1 l3 l4 l6 l7 l8 l9 l10 v119 (1 : Int32) h120 k53 hk53) ⟨Or.inr rfl, Or.inr rfl, Or.inl rfl, Or.inr rfl, Or.inr rfl, Or.inl rfl, Or.inr rfl, Or.inr rfl, Or.inr rfl, Or.inr rfl, Or.inr rfl, Or.inl rfl, Or.inr rfl, Or.inl rfl, trivial⟩
  · refine Sm.iconst dL_law_232 ic_0 rfl ?_
    exact Sm.wk (t_L_law_233 l1 l3 l4 l6 l7 l8 l9 l10 v119 (0 : Int32) h120 k53 hk53) ⟨Or.inr rfl, Or.inr rfl, Or.inl rfl, Or.inr rfl, Or.inr rfl, Or.inl rfl, Or.inr rfl, Or.inr rfl, Or.inr rfl, Or.inr rfl, Or.inr rfl, Or.inl rfl, Or.inr rfl, Or.inl rfl, trivial⟩
def f_L_law_188 (k53 : (Int32 × Int32 × Hp) → Option (Int32 × Hp)) (l1 : Nat) (l3 : Int32) (l4 : Int32) (l6 : Int32) (l7 : Int32) (l8 : Int32) (l9 : Int32) (l10 : Int64) (s0 : Nat) (s1 : Int64) (s2 : Int32) (h : Hp) : Option (Int32 × Hp) :=
  (bd (f_L_low (l4 >>> ((5 : Int32) &&& 31)) (4 : Int32) h) fun v116 h117 =>
(if (4 : Int32) ≤ l3 then
(f_L_law_217 k53 l1 l3 l4 l6 l7 l8 l9 l10 s0 (((s1 ||| s2.toInt64) <<< ((8 : Int32).toInt64 &&& 63)) ||| (((48 : Int32) + v116).toInt64)) l8 h117)
else
(f_L_law_217 k53 l1 l3 l4 l6 l7 l8 l9 l10 s0 (((s1 ||| s2.toInt64) <<< ((8 : Int32).toInt64 &&& 63)) ||| (((48 : Int32) + v116).toInt64)) l3 h117)))
set_option maxRecDepth 20000 in
theorem t_L_law_188 (l1 : Nat) (l3 : Int32) (l4 : Int32) (l6 : Int32) (l7 : Int32) (l8 : Int32) (l9 : Int32) (l10 : Int64) (s0 : Nat) (s1 : Int64) (s2 : Int32) (h : Hp) (k53 : (Int32 × Int32 × Hp) → Option (Int32 × Hp)) (hk53 : ∀ s : Int32 × Int32 × Hp, Sm rvI g_L_law 53 [.ref 0, .ref l1, .int s.1, .int s.2.1, .null, .null, .null, .null, .null, .null, .null, .null, .null, .null] [] s.2.2 (k53 s)) : Sm rvI g_L_law 188 [.ref 0, .ref l1, .null, .int l3, .int l4, .null, .int l6, .int l7, .int l8, .int l9, .long l10, .null, .null, .null] [.int s2, .long s1, .ref s0] h (f_L_law_188 k53 l1 l3 l4 l6 l7 l8 l9 l10 s0 s1 s2 h) := by
  unfold f_L_law_188
  refine Sm.i2l dL_law_188 rfl ?_
  refine Sm.lor dL_law_189 rfl ?_
  refine Sm.bipush dL_law_190 bp_8 rfl ?_
  refine Sm.lshl dL_law_192 rfl ?_
  refine Sm.bipush dL_law_193 bp_48 rfl ?_
  refine Sm.iload dL_law_195 rfl rfl ?_
  refine Sm.iconst dL_law_197 ic_5 rfl ?_
  refine Sm.ishr dL_law_198 rfl ?_
  refine Sm.iconst dL_law_199 ic_4 rfl ?_
  refine kc_L_140 dL_law_200 rfl (Nat.le_of_ble_eq_true rfl) (Nat.le_of_ble_eq_true rfl) rfl (fun v116 h117 => ?_)
  refine Sm.iadd dL_law_203 rfl ?_
  refine Sm.i2l dL_law_204 rfl ?_
  refine Sm.lor dL_law_205 rfl ?_
  refine Sm.iload_n dL_law_206 rfl rfl rfl ?_
  refine Sm.iconst dL_law_207 ic_4 rfl ?_
  refine Sm.icmp_ge (t := 215) dL_law_208 (by decide) rfl (fun b118 => ?_) (fun b118 => ?_)
  · refine Sm.iload dL_law_215 rfl rfl ?_
    exact Sm.wk (t_L_law_217 l1 l3 l4 l6 l7 l8 l9 l10 s0 (((s1 ||| s2.toInt64) <<< ((8 : Int32).toInt64 &&& 63)) ||| (((48 : Int32) + v116).toInt64)) l8 h117 k53 hk53) ⟨Or.inr rfl, Or.inr rfl, Or.inl rfl, Or.inr rfl, Or.inr rfl, Or.inl rfl, Or.inr rfl, Or.inr rfl, Or.inr rfl, Or.inr rfl, Or.inr rfl, Or.inl rfl, Or.inl rfl, Or.inl rfl, trivial⟩
  · refine Sm.iload_n dL_law_211 rfl rfl rfl ?_
    refine Sm.goto (t := 217) dL_law_212 (by decide) ?_
    exact Sm.wk (t_L_law_217 l1 l3 l4 l6 l7 l8 l9 l10 s0 (((s1 ||| s2.toInt64) <<< ((8 : Int32).toInt64 &&& 63)) ||| (((48 : Int32) + v116).toInt64)) l3 h117 k53 hk53) ⟨Or.inr rfl, Or.inr rfl, Or.inl rfl, Or.inr rfl, Or.inr rfl, Or.inl rfl, Or.inr rfl, Or.inr rfl, Or.inr rfl, Or.inr rfl, Or.inr rfl, Or.inl rfl, Or.inl rfl, Or.inl rfl, trivial⟩
def f_L_law_146 (k53 : (Int32 × Int32 × Hp) → Option (Int32 × Hp)) (l1 : Nat) (l3 : Int32) (l4 : Int32) (l5 : Int32) (l6 : Int32) (l7 : Int32) (l8 : Int32) (l9 : Int32) (l10 : Int64) (s0 : Int32) (h : Hp) : Option (Int32 × Hp) :=
  (if (4 : Int32) ≤ s0 then
(if (6 : Int32) ≤ s0 then
(if (7 : Int32) ≤ s0 then
(if ((l4 >>> ((5 : Int32) &&& 31)) &&& (3 : Int32)) = 0 then
(f_L_law_383 k53 l1 l3 l4 l5 l6 l7 l8 l9 l10 l1 (2900650496696658755 : Int64) h)
else
(if ((l4 >>> ((5 : Int32) &&& 31)) &&& (3 : Int32)) = (1 : Int32) then
(f_L_law_383 k53 l1 l3 l4 l5 l6 l7 l8 l9 l10 l1 (279898631747 : Int64) h)
else
(f_L_law_383 k53 l1 l3 l4 l5 l6 l7 l8 l9 l10 l1 (25685962834854749 : Int64) h)))
else
(ck h l1 9
(bd (f_X9_modify l1 ((l4 >>> ((5 : Int32) &&& 31)) &&& (1 : Int32)) l6 l8 h) fun v101 h102 =>
(if v101 ≤ 0 then
(f_L_law_325 k53 l1 l3 l4 l6 l7 l8 l9 l10 v101 h102)
else
(if v101 < (61 : Int32) then
(f_L_law_339 k53 l1 l3 l4 l6 l7 l8 l9 l10 v101 h102)
else
(f_L_law_325 k53 l1 l3 l4 l6 l7 l8 l9 l10 v101 h102))))))
else
(ck h l1 9
(bd (f_X9_combine l1 ((l4 >>> ((5 : Int32) &&& 31)) &&& (1 : Int32)) l6 l7 l8 h) fun v108 h109 =>
(if v108 ≤ 0 then
(f_L_law_274 k53 l1 l3 l4 l6 l7 l8 l9 l10 v108 h109)
else
(if v108 < (61 : Int32) then
(f_L_law_281 k53 l1 l3 l4 l6 l7 l8 l9 l10 v108 h109)
else
(f_L_law_274 k53 l1 l3 l4 l6 l7 l8 l9 l10 v108 h109))))))
else
(bd (f_L_low (l4 >>> ((8 : Int32) &&& 31)) (3 : Int32) h) fun v113 h114 =>
(if ((l4 >>> ((11 : Int32) &&& 31)) &&& (1 : Int32)) = 0 then
(f_L_law_188 k53 l1 l3 l4 l6 l7 l8 l9 l10 l1 ((((120 : Int32) + v113).toInt64) <<< ((8 : Int32).toInt64 &&& 63)) (61 : Int32) h114)
else
(f_L_law_188 k53 l1 l3 l4 l6 l7 l8 l9 l10 l1 ((((120 : Int32) + v113).toInt64) <<< ((8 : Int32).toInt64 &&& 63)) (58 : Int32) h114))))
set_option maxRecDepth 20000 in
theorem t_L_law_146 (l1 : Nat) (l3 : Int32) (l4 : Int32) (l5 : Int32) (l6 : Int32) (l7 : Int32) (l8 : Int32) (l9 : Int32) (l10 : Int64) (s0 : Int32) (h : Hp) (k53 : (Int32 × Int32 × Hp) → Option (Int32 × Hp)) (hk53 : ∀ s : Int32 × Int32 × Hp, Sm rvI g_L_law 53 [.ref 0, .ref l1, .int s.1, .int s.2.1, .null, .null, .null, .null, .null, .null, .null, .null, .null, .null] [] s.2.2 (k53 s)) : Sm rvI g_L_law 146 [.ref 0, .ref l1, .null, .int l3, .int l4, .int l5, .int l6, .int l7, .int l8, .int l9, .long l10, .null, .null, .null] [.int s0] h (f_L_law_146 k53 l1 l3 l4 l5 l6 l7 l8 l9 l10 s0 h) := by
  unfold f_L_law_146
  refine Sm.istore (lv' := [.ref 0, .ref l1, .null, .int l3, .int l4, .int l5, .int l6, .int l7, .int l8, .int l9, .long l10, .null, .null, .int s0]) dL_law_146 (Nat.le_of_ble_eq_true rfl) rfl rfl ?_
  refine Sm.iload dL_law_148 rfl rfl ?_
  refine Sm.iconst dL_law_150 ic_4 rfl ?_
  refine Sm.icmp_ge (t := 237) dL_law_151 (by decide) rfl (fun b33 => ?_) (fun b33 => ?_)
  · refine Sm.iload dL_law_237 rfl rfl ?_
    refine Sm.bipush dL_law_239 bp_6 rfl ?_
    refine Sm.icmp_ge (t := 290) dL_law_241 (by decide) rfl (fun b34 => ?_) (fun b34 => ?_)
    · refine Sm.iload dL_law_290 rfl rfl ?_
      refine Sm.bipush dL_law_292 bp_7 rfl ?_
      refine Sm.icmp_ge (t := 348) dL_law_294 (by decide) rfl (fun b35 => ?_) (fun b35 => ?_)
      · refine Sm.aload_n dL_law_348 rfl rfl rfl ?_
        refine Sm.iload dL_law_349 rfl rfl ?_
        refine Sm.iconst dL_law_351 ic_5 rfl ?_
        refine Sm.ishr dL_law_352 rfl ?_
        refine Sm.iconst dL_law_353 ic_3 rfl ?_
        refine Sm.iand dL_law_354 rfl ?_
        refine Sm.if_ne (t := 364) dL_law_355 (by decide) rfl (fun b36 => ?_) (fun b36 => ?_)
        · refine Sm.ldc2 dL_law_358 mw_920 rfl ?_
          refine Sm.goto (t := 383) dL_law_361 (by decide) ?_
          exact Sm.wk (t_L_law_383 l1 l3 l4 l5 l6 l7 l8 l9 l10 l1 (2900650496696658755 : Int64) h k53 hk53) ⟨Or.inr rfl, Or.inr rfl, Or.inl rfl, Or.inr rfl, Or.inr rfl, Or.inr rfl, Or.inr rfl, Or.inr rfl, Or.inr rfl, Or.inr rfl, Or.inr rfl, Or.inl rfl, Or.inl rfl, Or.inl rfl, trivial⟩
        · refine Sm.iload dL_law_364 rfl rfl ?_
          refine Sm.iconst dL_law_366 ic_5 rfl ?_
          refine Sm.ishr dL_law_367 rfl ?_
          refine Sm.iconst dL_law_368 ic_3 rfl ?_
          refine Sm.iand dL_law_369 rfl ?_
          refine Sm.iconst dL_law_370 ic_1 rfl ?_
          refine Sm.icmp_ne (t := 380) dL_law_371 (by decide) rfl (fun b99 => ?_) (fun b99 => ?_)
          · refine Sm.ldc2 dL_law_374 mw_921 rfl ?_
            refine Sm.goto (t := 383) dL_law_377 (by decide) ?_
            exact Sm.wk (t_L_law_383 l1 l3 l4 l5 l6 l7 l8 l9 l10 l1 (279898631747 : Int64) h k53 hk53) ⟨Or.inr rfl, Or.inr rfl, Or.inl rfl, Or.inr rfl, Or.inr rfl, Or.inr rfl, Or.inr rfl, Or.inr rfl, Or.inr rfl, Or.inr rfl, Or.inr rfl, Or.inl rfl, Or.inl rfl, Or.inl rfl, trivial⟩
          · refine Sm.ldc2 dL_law_380 mw_922 rfl ?_
            exact Sm.wk (t_L_law_383 l1 l3 l4 l5 l6 l7 l8 l9 l10 l1 (25685962834854749 : Int64) h k53 hk53) ⟨Or.inr rfl, Or.inr rfl, Or.inl rfl, Or.inr rfl, Or.inr rfl, Or.inr rfl, Or.inr rfl, Or.inr rfl, Or.inr rfl, Or.inr rfl, Or.inr rfl, Or.inl rfl, Or.inl rfl, Or.inl rfl, trivial⟩
      · refine Sm.aload_n dL_law_297 rfl rfl rfl ?_
        refine Sm.iload dL_law_298 rfl rfl ?_
        refine Sm.iconst dL_law_300 ic_5 rfl ?_
        refine Sm.ishr dL_law_301 rfl ?_
        refine Sm.iconst dL_law_302 ic_1 rfl ?_
        refine Sm.iand dL_law_303 rfl ?_
        refine Sm.iload dL_law_304 rfl rfl ?_
        refine Sm.iload dL_law_306 rfl rfl ?_
        refine Sm.ck (fun o100 => ?_)
        refine kc_L_65 o100 dL_law_308 rfl (Nat.le_of_ble_eq_true rfl) (Nat.le_of_ble_eq_true rfl) rfl (fun v101 h102 => ?_)
        refine Sm.istore (lv' := [.ref 0, .ref l1, .null, .int l3, .int l4, .int l5, .int l6, .int l7, .int l8, .int l9, .long l10, .null, .int v101, .int s0]) dL_law_311 (Nat.le_of_ble_eq_true rfl) rfl rfl ?_
        refine Sm.iload dL_law_313 rfl rfl ?_
        refine Sm.if_le (t := 325) dL_law_315 (by decide) rfl (fun b103 => ?_) (fun b103 => ?_)
        · exact Sm.wk (t_L_law_325 l1 l3 l4 l6 l7 l8 l9 l10 v101 h102 k53 hk53) ⟨Or.inr rfl, Or.inr rfl, Or.inl rfl, Or.inr rfl, Or.inr rfl, Or.inl rfl, Or.inr rfl, Or.inr rfl, Or.inr rfl, Or.inr rfl, Or.inr rfl, Or.inl rfl, Or.inr rfl, Or.inl rfl, trivial⟩
        · refine Sm.iload dL_law_318 rfl rfl ?_
          refine Sm.bipush dL_law_320 bp_61 rfl ?_
          refine Sm.icmp_lt (t := 339) dL_law_322 (by decide) rfl (fun b106 => ?_) (fun b106 => ?_)
          · exact Sm.wk (t_L_law_339 l1 l3 l4 l6 l7 l8 l9 l10 v101 h102 k53 hk53) ⟨Or.inr rfl, Or.inr rfl, Or.inl rfl, Or.inr rfl, Or.inr rfl, Or.inl rfl, Or.inr rfl, Or.inr rfl, Or.inr rfl, Or.inr rfl, Or.inr rfl, Or.inl rfl, Or.inr rfl, Or.inl rfl, trivial⟩
          · exact Sm.wk (t_L_law_325 l1 l3 l4 l6 l7 l8 l9 l10 v101 h102 k53 hk53) ⟨Or.inr rfl, Or.inr rfl, Or.inl rfl, Or.inr rfl, Or.inr rfl, Or.inl rfl, Or.inr rfl, Or.inr rfl, Or.inr rfl, Or.inr rfl, Or.inr rfl, Or.inl rfl, Or.inr rfl, Or.inl rfl, trivial⟩
    · refine Sm.aload_n dL_law_244 rfl rfl rfl ?_
      refine Sm.iload dL_law_245 rfl rfl ?_
      refine Sm.iconst dL_law_247 ic_5 rfl ?_
      refine Sm.ishr dL_law_248 rfl ?_
      refine Sm.iconst dL_law_249 ic_1 rfl ?_
      refine Sm.iand dL_law_250 rfl ?_
      refine Sm.iload dL_law_251 rfl rfl ?_
      refine Sm.iload dL_law_253 rfl rfl ?_
      refine Sm.iload dL_law_255 rfl rfl ?_
      refine Sm.ck (fun o107 => ?_)
      refine kc_L_58 o107 dL_law_257 rfl (Nat.le_of_ble_eq_true rfl) (Nat.le_of_ble_eq_true rfl) rfl (fun v108 h109 => ?_)
      refine Sm.istore (lv' := [.ref 0, .ref l1, .null, .int l3, .int l4, .int l5, .int l6, .int l7, .int l8, .int l9, .long l10, .null, .int v108, .int s0]) dL_law_260 (Nat.le_of_ble_eq_true rfl) rfl rfl ?_
      refine Sm.iload dL_law_262 rfl rfl ?_
      refine Sm.if_le (t := 274) dL_law_264 (by decide) rfl (fun b110 => ?_) (fun b110 => ?_)
      · exact Sm.wk (t_L_law_274 l1 l3 l4 l6 l7 l8 l9 l10 v108 h109 k53 hk53) ⟨Or.inr rfl, Or.inr rfl, Or.inl rfl, Or.inr rfl, Or.inr rfl, Or.inl rfl, Or.inr rfl, Or.inr rfl, Or.inr rfl, Or.inr rfl, Or.inr rfl, Or.inl rfl, Or.inr rfl, Or.inl rfl, trivial⟩
      · refine Sm.iload dL_law_267 rfl rfl ?_
        refine Sm.bipush dL_law_269 bp_61 rfl ?_
        refine Sm.icmp_lt (t := 281) dL_law_271 (by decide) rfl (fun b112 => ?_) (fun b112 => ?_)
        · exact Sm.wk (t_L_law_281 l1 l3 l4 l6 l7 l8 l9 l10 v108 h109 k53 hk53) ⟨Or.inr rfl, Or.inr rfl, Or.inl rfl, Or.inr rfl, Or.inr rfl, Or.inl rfl, Or.inr rfl, Or.inr rfl, Or.inr rfl, Or.inr rfl, Or.inr rfl, Or.inl rfl, Or.inr rfl, Or.inl rfl, trivial⟩
        · exact Sm.wk (t_L_law_274 l1 l3 l4 l6 l7 l8 l9 l10 v108 h109 k53 hk53) ⟨Or.inr rfl, Or.inr rfl, Or.inl rfl, Or.inr rfl, Or.inr rfl, Or.inl rfl, Or.inr rfl, Or.inr rfl, Or.inr rfl, Or.inr rfl, Or.inr rfl, Or.inl rfl, Or.inr rfl, Or.inl rfl, trivial⟩
  · refine Sm.aload_n dL_law_154 rfl rfl rfl ?_
    refine Sm.bipush dL_law_155 bp_120 rfl ?_
    refine Sm.iload dL_law_157 rfl rfl ?_
    refine Sm.bipush dL_law_159 bp_8 rfl ?_
    refine Sm.ishr dL_law_161 rfl ?_
    refine Sm.iconst dL_law_162 ic_3 rfl ?_
    refine kc_L_140 dL_law_163 rfl (Nat.le_of_ble_eq_true rfl) (Nat.le_of_ble_eq_true rfl) rfl (fun v113 h114 => ?_)
    refine Sm.iadd dL_law_166 rfl ?_
    refine Sm.i2l dL_law_167 rfl ?_
    refine Sm.bipush dL_law_168 bp_8 rfl ?_
    refine Sm.lshl dL_law_170 rfl ?_
    refine Sm.iload dL_law_171 rfl rfl ?_
    refine Sm.bipush dL_law_173 bp_11 rfl ?_
    refine Sm.ishr dL_law_175 rfl ?_
    refine Sm.iconst dL_law_176 ic_1 rfl ?_
    refine Sm.iand dL_law_177 rfl ?_
    refine Sm.if_ne (t := 186) dL_law_178 (by decide) rfl (fun b115 => ?_) (fun b115 => ?_)
    · refine Sm.bipush dL_law_181 bp_61 rfl ?_
      refine Sm.goto (t := 188) dL_law_183 (by decide) ?_
      exact Sm.wk (t_L_law_188 l1 l3 l4 l6 l7 l8 l9 l10 l1 ((((120 : Int32) + v113).toInt64) <<< ((8 : Int32).toInt64 &&& 63)) (61 : Int32) h114 k53 hk53) ⟨Or.inr rfl, Or.inr rfl, Or.inl rfl, Or.inr rfl, Or.inr rfl, Or.inl rfl, Or.inr rfl, Or.inr rfl, Or.inr rfl, Or.inr rfl, Or.inr rfl, Or.inl rfl, Or.inl rfl, Or.inl rfl, trivial⟩
    · refine Sm.bipush dL_law_186 bp_58 rfl ?_
      exact Sm.wk (t_L_law_188 l1 l3 l4 l6 l7 l8 l9 l10 l1 ((((120 : Int32) + v113).toInt64) <<< ((8 : Int32).toInt64 &&& 63)) (58 : Int32) h114 k53 hk53) ⟨Or.inr rfl, Or.inr rfl, Or.inl rfl, Or.inr rfl, Or.inr rfl, Or.inl rfl, Or.inr rfl, Or.inr rfl, Or.inr rfl, Or.inr rfl, Or.inr rfl, Or.inl rfl, Or.inl rfl, Or.inl rfl, trivial⟩
def f_L_law_53 (k53 : (Int32 × Int32 × Hp) → Option (Int32 × Hp)) (l1 : Nat) (l2 : Int32) (l3 : Int32) (h : Hp) : Option (Int32 × Hp) :=
  (if (22 : Int32) ≤ l3 then
(bz l2
(some (l2, h)))
else
(if l2 = 0 then
(bz l2
(some (l2, h)))
else
(bd (f_L_cell ((2 : Int32) * l3) h) fun v16 h17 =>
(bd (f_L_cell (((2 : Int32) * l3) + (1 : Int32)) h17) fun v18 h19 =>
(bd (f_L_low v18 (4 : Int32) h19) fun v20 h21 =>
(bd (f_L_low (v18 >>> ((3 : Int32) &&& 31)) (4 : Int32) h21) fun v22 h23 =>
(bd (f_L_low (v18 >>> ((6 : Int32) &&& 31)) (3 : Int32) h23) fun v24 h25 =>
(bd (f_L_low (v18 >>> ((9 : Int32) &&& 31)) (64 : Int32) h25) fun v26 h27 =>
(bd (f_L_print l1 h27) fun v28 h29 =>
(if (4 : Int32) ≤ l3 then
(bd (f_L_low v16 (10 : Int32) h29) fun v31 h32 =>
(f_L_law_146 k53 l1 l3 v16 v18 v20 v22 v24 v26 v28 v31 h32))
else
(f_L_law_146 k53 l1 l3 v16 v18 v20 v22 v24 v26 v28 (0 : Int32) h29)))))))))))
set_option maxRecDepth 20000 in
theorem t_L_law_53 (l1 : Nat) (l2 : Int32) (l3 : Int32) (h : Hp) (k53 : (Int32 × Int32 × Hp) → Option (Int32 × Hp)) (hk53 : ∀ s : Int32 × Int32 × Hp, Sm rvI g_L_law 53 [.ref 0, .ref l1, .int s.1, .int s.2.1, .null, .null, .null, .null, .null, .null, .null, .null, .null, .null] [] s.2.2 (k53 s)) : Sm rvI g_L_law 53 [.ref 0, .ref l1, .int l2, .int l3, .null, .null, .null, .null, .null, .null, .null, .null, .null, .null] [] h (f_L_law_53 k53 l1 l2 l3 h) := by
  unfold f_L_law_53
  refine Sm.iload_n dL_law_53 rfl rfl rfl ?_
  refine Sm.bipush dL_law_54 bp_22 rfl ?_
  refine Sm.icmp_ge (t := 642) dL_law_56 (by decide) rfl (fun b12 => ?_) (fun b12 => ?_)
  · refine Sm.iload_n dL_law_642 rfl rfl rfl ?_
    refine Sm.bz (fun z13 => ?_)
    exact Sm.ret dL_law_643 z13 rfl
  · refine Sm.iload_n dL_law_59 rfl rfl rfl ?_
    refine Sm.if_eq (t := 642) dL_law_60 (by decide) rfl (fun b14 => ?_) (fun b14 => ?_)
    · refine Sm.iload_n dL_law_642 rfl rfl rfl ?_
      refine Sm.bz (fun z15 => ?_)
      exact Sm.ret dL_law_643 z15 rfl
    · refine Sm.aload_n dL_law_63 rfl rfl rfl ?_
      refine Sm.iconst dL_law_64 ic_2 rfl ?_
      refine Sm.iload_n dL_law_65 rfl rfl rfl ?_
      refine Sm.imul dL_law_66 rfl ?_
      refine kc_L_136 dL_law_67 rfl (Nat.le_of_ble_eq_true rfl) (Nat.le_of_ble_eq_true rfl) rfl (fun v16 h17 => ?_)
      refine Sm.istore (lv' := [.ref 0, .ref l1, .int l2, .int l3, .int v16, .null, .null, .null, .null, .null, .null, .null, .null, .null]) dL_law_70 (Nat.le_of_ble_eq_true rfl) rfl rfl ?_
      refine Sm.aload_n dL_law_72 rfl rfl rfl ?_
      refine Sm.iconst dL_law_73 ic_2 rfl ?_
      refine Sm.iload_n dL_law_74 rfl rfl rfl ?_
      refine Sm.imul dL_law_75 rfl ?_
      refine Sm.iconst dL_law_76 ic_1 rfl ?_
      refine Sm.iadd dL_law_77 rfl ?_
      refine kc_L_136 dL_law_78 rfl (Nat.le_of_ble_eq_true rfl) (Nat.le_of_ble_eq_true rfl) rfl (fun v18 h19 => ?_)
      refine Sm.istore (lv' := [.ref 0, .ref l1, .int l2, .int l3, .int v16, .int v18, .null, .null, .null, .null, .null, .null, .null, .null]) dL_law_81 (Nat.le_of_ble_eq_true rfl) rfl rfl ?_
      refine Sm.iload dL_law_83 rfl rfl ?_
      refine Sm.iconst dL_law_85 ic_4 rfl ?_
      refine kc_L_140 dL_law_86 rfl (Nat.le_of_ble_eq_true rfl) (Nat.le_of_ble_eq_true rfl) rfl (fun v20 h21 => ?_)
      refine Sm.istore (lv' := [.ref 0, .ref l1, .int l2, .int l3, .int v16, .int v18, .int v20, .null, .null, .null, .null, .null, .null, .null]) dL_law_89 (Nat.le_of_ble_eq_true rfl) rfl rfl ?_
      refine Sm.iload dL_law_91 rfl rfl ?_
      refine Sm.iconst dL_law_93 ic_3 rfl ?_
      refine Sm.ishr dL_law_94 rfl ?_
      refine Sm.iconst dL_law_95 ic_4 rfl ?_
      refine kc_L_140 dL_law_96 rfl (Nat.le_of_ble_eq_true rfl) (Nat.le_of_ble_eq_true rfl) rfl (fun v22 h23 => ?_)
      refine Sm.istore (lv' := [.ref 0, .ref l1, .int l2, .int l3, .int v16, .int v18, .int v20, .int v22, .null, .null, .null, .null, .null, .null]) dL_law_99 (Nat.le_of_ble_eq_true rfl) rfl rfl ?_
      refine Sm.iload dL_law_101 rfl rfl ?_
      refine Sm.bipush dL_law_103 bp_6 rfl ?_
      refine Sm.ishr dL_law_105 rfl ?_
      refine Sm.iconst dL_law_106 ic_3 rfl ?_
      refine kc_L_140 dL_law_107 rfl (Nat.le_of_ble_eq_true rfl) (Nat.le_of_ble_eq_true rfl) rfl (fun v24 h25 => ?_)
      refine Sm.istore (lv' := [.ref 0, .ref l1, .int l2, .int l3, .int v16, .int v18, .int v20, .int v22, .int v24, .null, .null, .null, .null, .null]) dL_law_110 (Nat.le_of_ble_eq_true rfl) rfl rfl ?_
      refine Sm.iload dL_law_112 rfl rfl ?_
      refine Sm.bipush dL_law_114 bp_9 rfl ?_
      refine Sm.ishr dL_law_116 rfl ?_
      refine Sm.bipush dL_law_117 bp_64 rfl ?_
      refine kc_L_140 dL_law_119 rfl (Nat.le_of_ble_eq_true rfl) (Nat.le_of_ble_eq_true rfl) rfl (fun v26 h27 => ?_)
      refine Sm.istore (lv' := [.ref 0, .ref l1, .int l2, .int l3, .int v16, .int v18, .int v20, .int v22, .int v24, .int v26, .null, .null, .null, .null]) dL_law_122 (Nat.le_of_ble_eq_true rfl) rfl rfl ?_
      refine Sm.aload_n dL_law_124 rfl rfl rfl ?_
      refine kc_L_50 dL_law_125 rfl (Nat.le_of_ble_eq_true rfl) (Nat.le_of_ble_eq_true rfl) rfl (fun v28 h29 => ?_)
      refine Sm.lstore (lv' := [.ref 0, .ref l1, .int l2, .int l3, .int v16, .int v18, .int v20, .int v22, .int v24, .int v26, .long v28, .null, .null, .null]) dL_law_128 (Nat.le_of_ble_eq_true rfl) rfl rfl ?_
      refine Sm.iload_n dL_law_130 rfl rfl rfl ?_
      refine Sm.iconst dL_law_131 ic_4 rfl ?_
      refine Sm.icmp_ge (t := 139) dL_law_132 (by decide) rfl (fun b30 => ?_) (fun b30 => ?_)
      · refine Sm.iload dL_law_139 rfl rfl ?_
        refine Sm.bipush dL_law_141 bp_10 rfl ?_
        refine kc_L_140 dL_law_143 rfl (Nat.le_of_ble_eq_true rfl) (Nat.le_of_ble_eq_true rfl) rfl (fun v31 h32 => ?_)
        exact Sm.wk (t_L_law_146 l1 l3 v16 v18 v20 v22 v24 v26 v28 v31 h32 k53 hk53) ⟨Or.inr rfl, Or.inr rfl, Or.inl rfl, Or.inr rfl, Or.inr rfl, Or.inr rfl, Or.inr rfl, Or.inr rfl, Or.inr rfl, Or.inr rfl, Or.inr rfl, Or.inl rfl, Or.inl rfl, Or.inl rfl, trivial⟩
      · refine Sm.iconst dL_law_135 ic_0 rfl ?_
        refine Sm.goto (t := 146) dL_law_136 (by decide) ?_
        exact Sm.wk (t_L_law_146 l1 l3 v16 v18 v20 v22 v24 v26 v28 (0 : Int32) h29 k53 hk53) ⟨Or.inr rfl, Or.inr rfl, Or.inl rfl, Or.inr rfl, Or.inr rfl, Or.inr rfl, Or.inr rfl, Or.inr rfl, Or.inr rfl, Or.inr rfl, Or.inr rfl, Or.inl rfl, Or.inl rfl, Or.inl rfl, trivial⟩
def f_L_law (h : Hp) : Option (Int32 × Hp) :=
  (nm (nwc h 9 0 8) fun h1 =>
(bd (f_X9_init (gN h + 1) h1) fun _ h4 =>
(ck h4 (gN h + 1) 9
(bd (f_X9_undo (gN h + 1) h4) fun v6 h7 =>
(if v6 = (-6 : Int32) then
(bd (f_L_isDrawn (gN h + 1) (0 : Int32) (1 : Int32) h7) fun v9 h10 =>
(if v9 = 0 then
(loopN (fun k s => f_L_law_53 k (gN h + 1) s.1 s.2.1 s.2.2) 5000 ((0 : Int32), (0 : Int32), h10))
else
(bd (f_L_isHit (gN h + 1) (2 : Int32) (27 : Int32) h10) fun v122 h123 =>
(if v122 = 0 then
(loopN (fun k s => f_L_law_53 k (gN h + 1) s.1 s.2.1 s.2.2) 5000 ((0 : Int32), (0 : Int32), h123))
else
(bd (f_L_isCompared (gN h + 1) (0 : Int32) (3 : Int32) h123) fun v125 h126 =>
(if v125 = 0 then
(loopN (fun k s => f_L_law_53 k (gN h + 1) s.1 s.2.1 s.2.2) 5000 ((0 : Int32), (0 : Int32), h126))
else
(loopN (fun k s => f_L_law_53 k (gN h + 1) s.1 s.2.1 s.2.2) 5000 ((1 : Int32), (0 : Int32), h126))))))))
else
(loopN (fun k s => f_L_law_53 k (gN h + 1) s.1 s.2.1 s.2.2) 5000 ((0 : Int32), (0 : Int32), h7)))))))
set_option maxRecDepth 20000 in
theorem t_L_law (h : Hp) : Sm rvI g_L_law 0 (ent 14 [.ref 0]) [] h (f_L_law h) := by
  show Sm rvI g_L_law 0 [.ref 0, .null, .null, .null, .null, .null, .null, .null, .null, .null, .null, .null, .null, .null] [] h _
  unfold f_L_law
  refine Sm.new (ci := 9) (r := (RX9, TX9, 8)) dL_law_0 mw_13 mw_14 mw_1 rfl (by decide) rfl rfl ?_
  refine Sm.nmH (fun h1 e2 e3 => ?_)
  refine Sm.dup dL_law_3 rfl rfl ?_
  refine kc_L_125 dL_law_4 rfl (Nat.le_of_ble_eq_true rfl) (Nat.le_of_ble_eq_true rfl) rfl (fun _ h4 => ?_)
  refine Sm.astore_n (lv' := [.ref 0, .ref (gN h + 1), .null, .null, .null, .null, .null, .null, .null, .null, .null, .null, .null, .null]) dL_law_7 rfl (Nat.le_of_ble_eq_true rfl) rfl rfl ?_
  refine Sm.aload_n dL_law_8 rfl rfl rfl ?_
  refine Sm.ck (fun o5 => ?_)
  refine kc_L_62 o5 dL_law_9 rfl (Nat.le_of_ble_eq_true rfl) (Nat.le_of_ble_eq_true rfl) rfl (fun v6 h7 => ?_)
  refine Sm.bipush dL_law_12 bp_m6 rfl ?_
  refine Sm.icmp_ne (t := 49) dL_law_14 (by decide) rfl (fun b8 => ?_) (fun b8 => ?_)
  · refine Sm.aload_n dL_law_17 rfl rfl rfl ?_
    refine Sm.iconst dL_law_18 ic_0 rfl ?_
    refine Sm.iconst dL_law_19 ic_1 rfl ?_
    refine kc_L_126 dL_law_20 rfl (Nat.le_of_ble_eq_true rfl) (Nat.le_of_ble_eq_true rfl) rfl (fun v9 h10 => ?_)
    refine Sm.if_eq (t := 49) dL_law_23 (by decide) rfl (fun b11 => ?_) (fun b11 => ?_)
    · refine Sm.iconst dL_law_49 ic_0 rfl ?_
      refine Sm.istore_n (lv' := [.ref 0, .ref (gN h + 1), .int (0 : Int32), .null, .null, .null, .null, .null, .null, .null, .null, .null, .null, .null]) dL_law_50 rfl (Nat.le_of_ble_eq_true rfl) rfl rfl ?_
      refine Sm.iconst dL_law_51 ic_0 rfl ?_
      refine Sm.istore_n (lv' := [.ref 0, .ref (gN h + 1), .int (0 : Int32), .int (0 : Int32), .null, .null, .null, .null, .null, .null, .null, .null, .null, .null]) dL_law_52 rfl (Nat.le_of_ble_eq_true rfl) rfl rfl ?_
      exact Sm.wk (Sm.loop (σ := Int32 × Int32 × Hp) (LV := fun s => [.ref 0, .ref (gN h + 1), .int s.1, .int s.2.1, .null, .null, .null, .null, .null, .null, .null, .null, .null, .null]) (HH := fun s => s.2.2) (fun k hk s => t_L_law_53 (gN h + 1) s.1 s.2.1 s.2.2 k hk) 5000 ((0 : Int32), (0 : Int32), h10)) ⟨Or.inr rfl, Or.inr rfl, Or.inr rfl, Or.inr rfl, Or.inl rfl, Or.inl rfl, Or.inl rfl, Or.inl rfl, Or.inl rfl, Or.inl rfl, Or.inl rfl, Or.inl rfl, Or.inl rfl, Or.inl rfl, trivial⟩
    · refine Sm.aload_n dL_law_26 rfl rfl rfl ?_
      refine Sm.iconst dL_law_27 ic_2 rfl ?_
      refine Sm.bipush dL_law_28 bp_27 rfl ?_
      refine kc_L_130 dL_law_30 rfl (Nat.le_of_ble_eq_true rfl) (Nat.le_of_ble_eq_true rfl) rfl (fun v122 h123 => ?_)
      refine Sm.if_eq (t := 49) dL_law_33 (by decide) rfl (fun b124 => ?_) (fun b124 => ?_)
      · refine Sm.iconst dL_law_49 ic_0 rfl ?_
        refine Sm.istore_n (lv' := [.ref 0, .ref (gN h + 1), .int (0 : Int32), .null, .null, .null, .null, .null, .null, .null, .null, .null, .null, .null]) dL_law_50 rfl (Nat.le_of_ble_eq_true rfl) rfl rfl ?_
        refine Sm.iconst dL_law_51 ic_0 rfl ?_
        refine Sm.istore_n (lv' := [.ref 0, .ref (gN h + 1), .int (0 : Int32), .int (0 : Int32), .null, .null, .null, .null, .null, .null, .null, .null, .null, .null]) dL_law_52 rfl (Nat.le_of_ble_eq_true rfl) rfl rfl ?_
        exact Sm.wk (Sm.loop (σ := Int32 × Int32 × Hp) (LV := fun s => [.ref 0, .ref (gN h + 1), .int s.1, .int s.2.1, .null, .null, .null, .null, .null, .null, .null, .null, .null, .null]) (HH := fun s => s.2.2) (fun k hk s => t_L_law_53 (gN h + 1) s.1 s.2.1 s.2.2 k hk) 5000 ((0 : Int32), (0 : Int32), h123)) ⟨Or.inr rfl, Or.inr rfl, Or.inr rfl, Or.inr rfl, Or.inl rfl, Or.inl rfl, Or.inl rfl, Or.inl rfl, Or.inl rfl, Or.inl rfl, Or.inl rfl, Or.inl rfl, Or.inl rfl, Or.inl rfl, trivial⟩
      · refine Sm.aload_n dL_law_36 rfl rfl rfl ?_
        refine Sm.iconst dL_law_37 ic_0 rfl ?_
        refine Sm.iconst dL_law_38 ic_3 rfl ?_
        refine kc_L_133 dL_law_39 rfl (Nat.le_of_ble_eq_true rfl) (Nat.le_of_ble_eq_true rfl) rfl (fun v125 h126 => ?_)
        refine Sm.if_eq (t := 49) dL_law_42 (by decide) rfl (fun b127 => ?_) (fun b127 => ?_)
        · refine Sm.iconst dL_law_49 ic_0 rfl ?_
          refine Sm.istore_n (lv' := [.ref 0, .ref (gN h + 1), .int (0 : Int32), .null, .null, .null, .null, .null, .null, .null, .null, .null, .null, .null]) dL_law_50 rfl (Nat.le_of_ble_eq_true rfl) rfl rfl ?_
          refine Sm.iconst dL_law_51 ic_0 rfl ?_
          refine Sm.istore_n (lv' := [.ref 0, .ref (gN h + 1), .int (0 : Int32), .int (0 : Int32), .null, .null, .null, .null, .null, .null, .null, .null, .null, .null]) dL_law_52 rfl (Nat.le_of_ble_eq_true rfl) rfl rfl ?_
          exact Sm.wk (Sm.loop (σ := Int32 × Int32 × Hp) (LV := fun s => [.ref 0, .ref (gN h + 1), .int s.1, .int s.2.1, .null, .null, .null, .null, .null, .null, .null, .null, .null, .null]) (HH := fun s => s.2.2) (fun k hk s => t_L_law_53 (gN h + 1) s.1 s.2.1 s.2.2 k hk) 5000 ((0 : Int32), (0 : Int32), h126)) ⟨Or.inr rfl, Or.inr rfl, Or.inr rfl, Or.inr rfl, Or.inl rfl, Or.inl rfl, Or.inl rfl, Or.inl rfl, Or.inl rfl, Or.inl rfl, Or.inl rfl, Or.inl rfl, Or.inl rfl, Or.inl rfl, trivial⟩
        · refine Sm.iconst dL_law_45 ic_1 rfl ?_
          refine Sm.goto (t := 50) dL_law_46 (by decide) ?_
          refine Sm.istore_n (lv' := [.ref 0, .ref (gN h + 1), .int (1 : Int32), .null, .null, .null, .null, .null, .null, .null, .null, .null, .null, .null]) dL_law_50 rfl (Nat.le_of_ble_eq_true rfl) rfl rfl ?_
          refine Sm.iconst dL_law_51 ic_0 rfl ?_
          refine Sm.istore_n (lv' := [.ref 0, .ref (gN h + 1), .int (1 : Int32), .int (0 : Int32), .null, .null, .null, .null, .null, .null, .null, .null, .null, .null]) dL_law_52 rfl (Nat.le_of_ble_eq_true rfl) rfl rfl ?_
          exact Sm.wk (Sm.loop (σ := Int32 × Int32 × Hp) (LV := fun s => [.ref 0, .ref (gN h + 1), .int s.1, .int s.2.1, .null, .null, .null, .null, .null, .null, .null, .null, .null, .null]) (HH := fun s => s.2.2) (fun k hk s => t_L_law_53 (gN h + 1) s.1 s.2.1 s.2.2 k hk) 5000 ((1 : Int32), (0 : Int32), h126)) ⟨Or.inr rfl, Or.inr rfl, Or.inr rfl, Or.inr rfl, Or.inl rfl, Or.inl rfl, Or.inl rfl, Or.inl rfl, Or.inl rfl, Or.inl rfl, Or.inl rfl, Or.inl rfl, Or.inl rfl, Or.inl rfl, trivial⟩
  · refine Sm.iconst dL_law_49 ic_0 rfl ?_
    refine Sm.istore_n (lv' := [.ref 0, .ref (gN h + 1), .int (0 : Int32), .null, .null, .null, .null, .null, .null, .null, .null, .null, .null, .null]) dL_law_50 rfl (Nat.le_of_ble_eq_true rfl) rfl rfl ?_
    refine Sm.iconst dL_law_51 ic_0 rfl ?_
    refine Sm.istore_n (lv' := [.ref 0, .ref (gN h + 1), .int (0 : Int32), .int (0 : Int32), .null, .null, .null, .null, .null, .null, .null, .null, .null, .null]) dL_law_52 rfl (Nat.le_of_ble_eq_true rfl) rfl rfl ?_
    exact Sm.wk (Sm.loop (σ := Int32 × Int32 × Hp) (LV := fun s => [.ref 0, .ref (gN h + 1), .int s.1, .int s.2.1, .null, .null, .null, .null, .null, .null, .null, .null, .null, .null]) (HH := fun s => s.2.2) (fun k hk s => t_L_law_53 (gN h + 1) s.1 s.2.1 s.2.2 k hk) 5000 ((0 : Int32), (0 : Int32), h7)) ⟨Or.inr rfl, Or.inr rfl, Or.inr rfl, Or.inr rfl, Or.inl rfl, Or.inl rfl, Or.inl rfl, Or.inl rfl, Or.inl rfl, Or.inl rfl, Or.inl rfl, Or.inl rfl, Or.inl rfl, Or.inl rfl, trivial⟩
