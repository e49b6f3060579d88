abbrev g_X10_init : Gx := (yX10_init, cX10_init, 2, (Option.none : Option FieldType), 1)
def f_X10_init_281 (h : Hp) : Option (Unit × Hp) :=
  (some ((), h))
set_option maxRecDepth 20000 in
theorem t_X10_init_281 (h : Hp) : Sm rvV g_X10_init 281 [.null, .null] [] h (f_X10_init_281 h) := by
  unfold f_X10_init_281
  exact Sm.ret (r := ()) dX10_init_281 trivial rfl
def f_X10_init_251 (k251 : (Int32 × Hp) → Option (Unit × Hp)) (l0 : Nat) (l1 : Int32) (h : Hp) : Option (Unit × Hp) :=
  (if (4 : Int32) ≤ l1 then
(f_X10_init_281 h)
else
(ck h l0 10
((gP h l0 0).bind fun v188 =>
(ca h v188 20 l1
((gP (sI h v188 l1.toNatClampNeg (1 : Int32)) l0 0).bind fun v190 =>
(ca (sI h v188 l1.toNatClampNeg (1 : Int32)) v190 20 ((4 : Int32) + ((60 : Int32) * l1))
(nm (l1 + (1 : Int32)) fun v192 =>
(k251 (v192, (sI (sI h v188 l1.toNatClampNeg (1 : Int32)) v190 ((4 : Int32) + ((60 : Int32) * l1)).toNatClampNeg (1 : Int32)))))))))))
set_option maxRecDepth 20000 in
theorem t_X10_init_251 (l0 : Nat) (l1 : Int32) (h : Hp) (k251 : (Int32 × Hp) → Option (Unit × Hp)) (hk251 : ∀ s : Int32 × Hp, Sm rvV g_X10_init 251 [.ref l0, .int s.1] [] s.2 (k251 s)) : Sm rvV g_X10_init 251 [.ref l0, .int l1] [] h (f_X10_init_251 k251 l0 l1 h) := by
  unfold f_X10_init_251
  refine Sm.iload_n dX10_init_251 rfl rfl rfl ?_
  refine Sm.iconst dX10_init_252 ic_4 rfl ?_
  refine Sm.icmp_ge (t := 281) dX10_init_253 (by decide) rfl (fun b186 => ?_) (fun b186 => ?_)
  · exact Sm.wk (t_X10_init_281 h) ⟨Or.inl rfl, Or.inl rfl, trivial⟩
  · refine Sm.aload_n dX10_init_256 rfl rfl rfl ?_
    refine Sm.ck (fun o187 => ?_)
    refine gf_X10_7 o187 dX10_init_257 rfl rfl (fun v188 => ?_)
    refine Sm.iload_n dX10_init_260 rfl rfl rfl ?_
    refine Sm.iconst dX10_init_261 ic_1 rfl ?_
    refine Sm.ca (fun q189 => ?_)
    refine Sm.iast q189 dX10_init_262 rfl ?_
    refine Sm.aload_n dX10_init_263 rfl rfl rfl ?_
    refine gf_X10_7 o187 dX10_init_264 rfl rfl (fun v190 => ?_)
    refine Sm.iconst dX10_init_267 ic_4 rfl ?_
    refine Sm.bipush dX10_init_268 bp_60 rfl ?_
    refine Sm.iload_n dX10_init_270 rfl rfl rfl ?_
    refine Sm.imul dX10_init_271 rfl ?_
    refine Sm.iadd dX10_init_272 rfl ?_
    refine Sm.iconst dX10_init_273 ic_1 rfl ?_
    refine Sm.ca (fun q191 => ?_)
    refine Sm.iast q191 dX10_init_274 rfl ?_
    refine Sm.iinc (lv' := [.ref l0, .int (l1 + (1 : Int32))]) dX10_init_275 rfl ic_1 rfl rfl ?_
    refine Sm.nm (LV := fun v192 => [.ref l0, .int v192]) (ST := fun v192 => []) (fun v192 => ?_)
    refine Sm.goto (t := 251) dX10_init_278 (by decide) ?_
    exact Sm.wk (hk251 (v192, (sI (sI h v188 l1.toNatClampNeg (1 : Int32)) v190 ((4 : Int32) + ((60 : Int32) * l1)).toNatClampNeg (1 : Int32)))) ⟨Or.inr rfl, Or.inr rfl, trivial⟩
def f_X10_init_249 (l0 : Nat) (h : Hp) : Option (Unit × Hp) :=
  (loopN (fun k s => f_X10_init_251 k l0 s.1 s.2) 5000 ((0 : Int32), h))
set_option maxRecDepth 20000 in
theorem t_X10_init_249 (l0 : Nat) (h : Hp) : Sm rvV g_X10_init 249 [.ref l0, .null] [] h (f_X10_init_249 l0 h) := by
  unfold f_X10_init_249
  refine Sm.iconst dX10_init_249 ic_0 rfl ?_
  refine Sm.istore_n (lv' := [.ref l0, .int (0 : Int32)]) dX10_init_250 rfl (Nat.le_of_ble_eq_true rfl) rfl rfl ?_
  exact Sm.wk (Sm.loop (σ := Int32 × Hp) (LV := fun s => [.ref l0, .int s.1]) (HH := fun s => s.2) (fun k hk s => t_X10_init_251 l0 s.1 s.2 k hk) 5000 ((0 : Int32), h)) ⟨Or.inr rfl, Or.inr rfl, trivial⟩
def f_X10_init_209 (l0 : Nat) (h : Hp) : Option (Unit × Hp) :=
  (nm (nwc h 20 64 64) fun h154 =>
(ck h154 l0 10
(nm (sP h154 l0 36 (some (gN h + 1))) fun h158 =>
(nm (nwc h158 20 64 64) fun h161 =>
(ck h161 l0 10
(nm (sP h161 l0 37 (some (gN h158 + 1))) fun h165 =>
(nm (nwc h165 20 64 64) fun h168 =>
(ck h168 l0 10
(nm (sP h168 l0 38 (some (gN h165 + 1))) fun h172 =>
(nm (nwc h172 20 64 64) fun h175 =>
(ck h175 l0 10
(nm (sP h175 l0 40 (some (gN h172 + 1))) fun h179 =>
(nm (nwc h179 20 64 64) fun h182 =>
(ck h182 l0 10
(f_X10_init_249 l0 (sP h182 l0 41 (some (gN h179 + 1))))))))))))))))))
set_option maxRecDepth 20000 in
theorem t_X10_init_209 (l0 : Nat) (h : Hp) : Sm rvV g_X10_init 209 [.ref l0, .null] [] h (f_X10_init_209 l0 h) := by
  unfold f_X10_init_209
  refine Sm.aload_n dX10_init_209 rfl rfl rfl ?_
  refine Sm.bipush dX10_init_210 bp_64 rfl ?_
  refine Sm.newI (by decide) (by decide) dX10_init_212 mw_50 rfl ?_
  refine Sm.nmH (fun h154 e155 e156 => ?_)
  refine Sm.ck (fun o157 => ?_)
  refine pf_X10_83 o157 dX10_init_214 rfl rfl rfl ?_
  refine Sm.aload_n dX10_init_217 rfl rfl rfl ?_
  refine Sm.bipush dX10_init_218 bp_64 rfl ?_
  refine Sm.nmH (fun h158 e159 e160 => ?_)
  refine Sm.newI (by decide) (by decide) dX10_init_220 mw_50 rfl ?_
  refine Sm.nmH (fun h161 e162 e163 => ?_)
  refine Sm.ck (fun o164 => ?_)
  refine pf_X10_86 o164 dX10_init_222 rfl rfl rfl ?_
  refine Sm.aload_n dX10_init_225 rfl rfl rfl ?_
  refine Sm.bipush dX10_init_226 bp_64 rfl ?_
  refine Sm.nmH (fun h165 e166 e167 => ?_)
  refine Sm.newI (by decide) (by decide) dX10_init_228 mw_50 rfl ?_
  refine Sm.nmH (fun h168 e169 e170 => ?_)
  refine Sm.ck (fun o171 => ?_)
  refine pf_X10_89 o171 dX10_init_230 rfl rfl rfl ?_
  refine Sm.aload_n dX10_init_233 rfl rfl rfl ?_
  refine Sm.bipush dX10_init_234 bp_64 rfl ?_
  refine Sm.nmH (fun h172 e173 e174 => ?_)
  refine Sm.newI (by decide) (by decide) dX10_init_236 mw_50 rfl ?_
  refine Sm.nmH (fun h175 e176 e177 => ?_)
  refine Sm.ck (fun o178 => ?_)
  refine pf_X10_92 o178 dX10_init_238 rfl rfl rfl ?_
  refine Sm.aload_n dX10_init_241 rfl rfl rfl ?_
  refine Sm.bipush dX10_init_242 bp_64 rfl ?_
  refine Sm.nmH (fun h179 e180 e181 => ?_)
  refine Sm.newI (by decide) (by decide) dX10_init_244 mw_50 rfl ?_
  refine Sm.nmH (fun h182 e183 e184 => ?_)
  refine Sm.ck (fun o185 => ?_)
  refine pf_X10_95 o185 dX10_init_246 rfl rfl rfl ?_
  exact Sm.wk (t_X10_init_249 l0 (sP h182 l0 41 (some (gN h179 + 1)))) ⟨Or.inr rfl, Or.inl rfl, trivial⟩
def f_X10_init_165 (l0 : Nat) (h : Hp) : Option (Unit × Hp) :=
  (nm (nwc h 22 128 128) fun h122 =>
(ck h122 l0 10
(nm (sP h122 l0 29 (some (gN h + 1))) fun h126 =>
(nm (nwc h126 22 128 128) fun h129 =>
(ck h129 l0 10
(nm (sP h129 l0 30 (some (gN h126 + 1))) fun h133 =>
(nm (nwc h133 20 64 64) fun h136 =>
(ck h136 l0 10
(nm (sP h136 l0 32 (some (gN h133 + 1))) fun h140 =>
(nm (nwc h140 20 256 256) fun h143 =>
(ck h143 l0 10
(nm (sP h143 l0 33 (some (gN h140 + 1))) fun h147 =>
(nm (nwc h147 20 192 192) fun h150 =>
(ck h150 l0 10
(f_X10_init_209 l0 (sP h150 l0 35 (some (gN h147 + 1))))))))))))))))))
set_option maxRecDepth 20000 in
theorem t_X10_init_165 (l0 : Nat) (h : Hp) : Sm rvV g_X10_init 165 [.ref l0, .null] [] h (f_X10_init_165 l0 h) := by
  unfold f_X10_init_165
  refine Sm.aload_n dX10_init_165 rfl rfl rfl ?_
  refine Sm.sipush dX10_init_166 sp_128 rfl ?_
  refine Sm.newL (by decide) (by decide) dX10_init_169 mw_111 rfl ?_
  refine Sm.nmH (fun h122 e123 e124 => ?_)
  refine Sm.ck (fun o125 => ?_)
  refine pf_X10_68 o125 dX10_init_171 rfl rfl rfl ?_
  refine Sm.aload_n dX10_init_174 rfl rfl rfl ?_
  refine Sm.sipush dX10_init_175 sp_128 rfl ?_
  refine Sm.nmH (fun h126 e127 e128 => ?_)
  refine Sm.newL (by decide) (by decide) dX10_init_178 mw_111 rfl ?_
  refine Sm.nmH (fun h129 e130 e131 => ?_)
  refine Sm.ck (fun o132 => ?_)
  refine pf_X10_71 o132 dX10_init_180 rfl rfl rfl ?_
  refine Sm.aload_n dX10_init_183 rfl rfl rfl ?_
  refine Sm.bipush dX10_init_184 bp_64 rfl ?_
  refine Sm.nmH (fun h133 e134 e135 => ?_)
  refine Sm.newI (by decide) (by decide) dX10_init_186 mw_50 rfl ?_
  refine Sm.nmH (fun h136 e137 e138 => ?_)
  refine Sm.ck (fun o139 => ?_)
  refine pf_X10_74 o139 dX10_init_188 rfl rfl rfl ?_
  refine Sm.aload_n dX10_init_191 rfl rfl rfl ?_
  refine Sm.sipush dX10_init_192 sp_256 rfl ?_
  refine Sm.nmH (fun h140 e141 e142 => ?_)
  refine Sm.newI (by decide) (by decide) dX10_init_195 mw_50 rfl ?_
  refine Sm.nmH (fun h143 e144 e145 => ?_)
  refine Sm.ck (fun o146 => ?_)
  refine pf_X10_77 o146 dX10_init_197 rfl rfl rfl ?_
  refine Sm.aload_n dX10_init_200 rfl rfl rfl ?_
  refine Sm.sipush dX10_init_201 sp_192 rfl ?_
  refine Sm.nmH (fun h147 e148 e149 => ?_)
  refine Sm.newI (by decide) (by decide) dX10_init_204 mw_50 rfl ?_
  refine Sm.nmH (fun h150 e151 e152 => ?_)
  refine Sm.ck (fun o153 => ?_)
  refine pf_X10_80 o153 dX10_init_206 rfl rfl rfl ?_
  exact Sm.wk (t_X10_init_209 l0 (sP h150 l0 35 (some (gN h147 + 1)))) ⟨Or.inr rfl, Or.inl rfl, trivial⟩
def f_X10_init_123 (l0 : Nat) (h : Hp) : Option (Unit × Hp) :=
  (nm (nwc h 20 1000 1000) fun h90 =>
(ck h90 l0 10
(nm (sP h90 l0 22 (some (gN h + 1))) fun h94 =>
(nm (nwc h94 22 4096 4096) fun h97 =>
(ck h97 l0 10
(nm (sP h97 l0 24 (some (gN h94 + 1))) fun h101 =>
(nm (nwc h101 20 64 64) fun h104 =>
(ck h104 l0 10
(nm (sP h104 l0 26 (some (gN h101 + 1))) fun h108 =>
(nm (nwc h108 22 64 64) fun h111 =>
(ck h111 l0 10
(nm (sP h111 l0 27 (some (gN h108 + 1))) fun h115 =>
(nm (nwc h115 22 64 64) fun h118 =>
(ck h118 l0 10
(f_X10_init_165 l0 (sP h118 l0 28 (some (gN h115 + 1))))))))))))))))))
set_option maxRecDepth 20000 in
theorem t_X10_init_123 (l0 : Nat) (h : Hp) : Sm rvV g_X10_init 123 [.ref l0, .null] [] h (f_X10_init_123 l0 h) := by
  unfold f_X10_init_123
  refine Sm.aload_n dX10_init_123 rfl rfl rfl ?_
  refine Sm.sipush dX10_init_124 sp_1000 rfl ?_
  refine Sm.newI (by decide) (by decide) dX10_init_127 mw_50 rfl ?_
  refine Sm.nmH (fun h90 e91 e92 => ?_)
  refine Sm.ck (fun o93 => ?_)
  refine pf_X10_52 o93 dX10_init_129 rfl rfl rfl ?_
  refine Sm.aload_n dX10_init_132 rfl rfl rfl ?_
  refine Sm.sipush dX10_init_133 sp_4096 rfl ?_
  refine Sm.nmH (fun h94 e95 e96 => ?_)
  refine Sm.newL (by decide) (by decide) dX10_init_136 mw_111 rfl ?_
  refine Sm.nmH (fun h97 e98 e99 => ?_)
  refine Sm.ck (fun o100 => ?_)
  refine pf_X10_55 o100 dX10_init_138 rfl rfl rfl ?_
  refine Sm.aload_n dX10_init_141 rfl rfl rfl ?_
  refine Sm.bipush dX10_init_142 bp_64 rfl ?_
  refine Sm.nmH (fun h101 e102 e103 => ?_)
  refine Sm.newI (by decide) (by decide) dX10_init_144 mw_50 rfl ?_
  refine Sm.nmH (fun h104 e105 e106 => ?_)
  refine Sm.ck (fun o107 => ?_)
  refine pf_X10_59 o107 dX10_init_146 rfl rfl rfl ?_
  refine Sm.aload_n dX10_init_149 rfl rfl rfl ?_
  refine Sm.bipush dX10_init_150 bp_64 rfl ?_
  refine Sm.nmH (fun h108 e109 e110 => ?_)
  refine Sm.newL (by decide) (by decide) dX10_init_152 mw_111 rfl ?_
  refine Sm.nmH (fun h111 e112 e113 => ?_)
  refine Sm.ck (fun o114 => ?_)
  refine pf_X10_62 o114 dX10_init_154 rfl rfl rfl ?_
  refine Sm.aload_n dX10_init_157 rfl rfl rfl ?_
  refine Sm.bipush dX10_init_158 bp_64 rfl ?_
  refine Sm.nmH (fun h115 e116 e117 => ?_)
  refine Sm.newL (by decide) (by decide) dX10_init_160 mw_111 rfl ?_
  refine Sm.nmH (fun h118 e119 e120 => ?_)
  refine Sm.ck (fun o121 => ?_)
  refine pf_X10_65 o121 dX10_init_162 rfl rfl rfl ?_
  exact Sm.wk (t_X10_init_165 l0 (sP h118 l0 28 (some (gN h115 + 1)))) ⟨Or.inr rfl, Or.inl rfl, trivial⟩
def f_X10_init_83 (l0 : Nat) (h : Hp) : Option (Unit × Hp) :=
  (nm (nwc h 20 4 4) fun h58 =>
(ck h58 l0 10
(nm (sP h58 l0 15 (some (gN h + 1))) fun h62 =>
(nm (nwc h62 20 60 60) fun h65 =>
(ck h65 l0 10
(nm (sP h65 l0 17 (some (gN h62 + 1))) fun h69 =>
(nm (nwc h69 20 60 60) fun h72 =>
(ck h72 l0 10
(nm (sP h72 l0 18 (some (gN h69 + 1))) fun h76 =>
(nm (nwc h76 20 60 60) fun h79 =>
(ck h79 l0 10
(nm (sP h79 l0 19 (some (gN h76 + 1))) fun h83 =>
(nm (nwc h83 20 1000 1000) fun h86 =>
(ck h86 l0 10
(f_X10_init_123 l0 (sP h86 l0 20 (some (gN h83 + 1))))))))))))))))))
set_option maxRecDepth 20000 in
theorem t_X10_init_83 (l0 : Nat) (h : Hp) : Sm rvV g_X10_init 83 [.ref l0, .null] [] h (f_X10_init_83 l0 h) := by
  unfold f_X10_init_83
  refine Sm.aload_n dX10_init_83 rfl rfl rfl ?_
  refine Sm.iconst dX10_init_84 ic_4 rfl ?_
  refine Sm.newI (by decide) (by decide) dX10_init_85 mw_50 rfl ?_
  refine Sm.nmH (fun h58 e59 e60 => ?_)
  refine Sm.ck (fun o61 => ?_)
  refine pf_X10_37 o61 dX10_init_87 rfl rfl rfl ?_
  refine Sm.aload_n dX10_init_90 rfl rfl rfl ?_
  refine Sm.bipush dX10_init_91 bp_60 rfl ?_
  refine Sm.nmH (fun h62 e63 e64 => ?_)
  refine Sm.newI (by decide) (by decide) dX10_init_93 mw_50 rfl ?_
  refine Sm.nmH (fun h65 e66 e67 => ?_)
  refine Sm.ck (fun o68 => ?_)
  refine pf_X10_40 o68 dX10_init_95 rfl rfl rfl ?_
  refine Sm.aload_n dX10_init_98 rfl rfl rfl ?_
  refine Sm.bipush dX10_init_99 bp_60 rfl ?_
  refine Sm.nmH (fun h69 e70 e71 => ?_)
  refine Sm.newI (by decide) (by decide) dX10_init_101 mw_50 rfl ?_
  refine Sm.nmH (fun h72 e73 e74 => ?_)
  refine Sm.ck (fun o75 => ?_)
  refine pf_X10_43 o75 dX10_init_103 rfl rfl rfl ?_
  refine Sm.aload_n dX10_init_106 rfl rfl rfl ?_
  refine Sm.bipush dX10_init_107 bp_60 rfl ?_
  refine Sm.nmH (fun h76 e77 e78 => ?_)
  refine Sm.newI (by decide) (by decide) dX10_init_109 mw_50 rfl ?_
  refine Sm.nmH (fun h79 e80 e81 => ?_)
  refine Sm.ck (fun o82 => ?_)
  refine pf_X10_46 o82 dX10_init_111 rfl rfl rfl ?_
  refine Sm.aload_n dX10_init_114 rfl rfl rfl ?_
  refine Sm.sipush dX10_init_115 sp_1000 rfl ?_
  refine Sm.nmH (fun h83 e84 e85 => ?_)
  refine Sm.newI (by decide) (by decide) dX10_init_118 mw_50 rfl ?_
  refine Sm.nmH (fun h86 e87 e88 => ?_)
  refine Sm.ck (fun o89 => ?_)
  refine pf_X10_49 o89 dX10_init_120 rfl rfl rfl ?_
  exact Sm.wk (t_X10_init_123 l0 (sP h86 l0 20 (some (gN h83 + 1)))) ⟨Or.inr rfl, Or.inl rfl, trivial⟩
def f_X10_init_38 (l0 : Nat) (h : Hp) : Option (Unit × Hp) :=
  (nm (nwc h 20 6000 6000) fun h26 =>
(ck h26 l0 10
(nm (sP h26 l0 6 (some (gN h + 1))) fun h30 =>
(nm (nwc h30 20 160 160) fun h33 =>
(ck h33 l0 10
(nm (sP h33 l0 8 (some (gN h30 + 1))) fun h37 =>
(nm (nwc h37 20 160 160) fun h40 =>
(ck h40 l0 10
(nm (sP h40 l0 9 (some (gN h37 + 1))) fun h44 =>
(nm (nwc h44 20 160 160) fun h47 =>
(ck h47 l0 10
(nm (sP h47 l0 12 (some (gN h44 + 1))) fun h51 =>
(nm (nwc h51 20 160 160) fun h54 =>
(ck h54 l0 10
(f_X10_init_83 l0 (sP h54 l0 13 (some (gN h51 + 1))))))))))))))))))
set_option maxRecDepth 20000 in
theorem t_X10_init_38 (l0 : Nat) (h : Hp) : Sm rvV g_X10_init 38 [.ref l0, .null] [] h (f_X10_init_38 l0 h) := by
  unfold f_X10_init_38
  refine Sm.aload_n dX10_init_38 rfl rfl rfl ?_
  refine Sm.sipush dX10_init_39 sp_6000 rfl ?_
  refine Sm.newI (by decide) (by decide) dX10_init_42 mw_50 rfl ?_
  refine Sm.nmH (fun h26 e27 e28 => ?_)
  refine Sm.ck (fun o29 => ?_)
  refine pf_X10_22 o29 dX10_init_44 rfl rfl rfl ?_
  refine Sm.aload_n dX10_init_47 rfl rfl rfl ?_
  refine Sm.sipush dX10_init_48 sp_160 rfl ?_
  refine Sm.nmH (fun h30 e31 e32 => ?_)
  refine Sm.newI (by decide) (by decide) dX10_init_51 mw_50 rfl ?_
  refine Sm.nmH (fun h33 e34 e35 => ?_)
  refine Sm.ck (fun o36 => ?_)
  refine pf_X10_25 o36 dX10_init_53 rfl rfl rfl ?_
  refine Sm.aload_n dX10_init_56 rfl rfl rfl ?_
  refine Sm.sipush dX10_init_57 sp_160 rfl ?_
  refine Sm.nmH (fun h37 e38 e39 => ?_)
  refine Sm.newI (by decide) (by decide) dX10_init_60 mw_50 rfl ?_
  refine Sm.nmH (fun h40 e41 e42 => ?_)
  refine Sm.ck (fun o43 => ?_)
  refine pf_X10_28 o43 dX10_init_62 rfl rfl rfl ?_
  refine Sm.aload_n dX10_init_65 rfl rfl rfl ?_
  refine Sm.sipush dX10_init_66 sp_160 rfl ?_
  refine Sm.nmH (fun h44 e45 e46 => ?_)
  refine Sm.newI (by decide) (by decide) dX10_init_69 mw_50 rfl ?_
  refine Sm.nmH (fun h47 e48 e49 => ?_)
  refine Sm.ck (fun o50 => ?_)
  refine pf_X10_31 o50 dX10_init_71 rfl rfl rfl ?_
  refine Sm.aload_n dX10_init_74 rfl rfl rfl ?_
  refine Sm.sipush dX10_init_75 sp_160 rfl ?_
  refine Sm.nmH (fun h51 e52 e53 => ?_)
  refine Sm.newI (by decide) (by decide) dX10_init_78 mw_50 rfl ?_
  refine Sm.nmH (fun h54 e55 e56 => ?_)
  refine Sm.ck (fun o57 => ?_)
  refine pf_X10_34 o57 dX10_init_80 rfl rfl rfl ?_
  exact Sm.wk (t_X10_init_83 l0 (sP h54 l0 13 (some (gN h51 + 1)))) ⟨Or.inr rfl, Or.inl rfl, trivial⟩
def f_X10_init (l0 : Nat) (h : Hp) : Option (Unit × Hp) :=
  (nm (nwc h 20 244 244) fun h1 =>
(ck h1 l0 10
(nm (sP h1 l0 0 (some (gN h + 1))) fun h5 =>
(nm (nwc h5 20 1220 1220) fun h8 =>
(ck h8 l0 10
(nm (sP h8 l0 1 (some (gN h5 + 1))) fun h12 =>
(nm (nwc h12 20 5 5) fun h15 =>
(ck h15 l0 10
(nm (sP h15 l0 3 (some (gN h12 + 1))) fun h19 =>
(nm (nwc h19 20 150 150) fun h22 =>
(ck h22 l0 10
(f_X10_init_38 l0 (sP h22 l0 4 (some (gN h19 + 1)))))))))))))))
set_option maxRecDepth 20000 in
theorem t_X10_init (l0 : Nat) (h : Hp) : Sm rvV g_X10_init 0 (ent 2 [.ref l0]) [] h (f_X10_init l0 h) := by
  show Sm rvV g_X10_init 0 [.ref l0, .null] [] h _
  unfold f_X10_init
  refine Sm.aload_n dX10_init_0 rfl rfl rfl ?_
  refine Sm.objInit dX10_init_1 rfl mw_893 mw_20 mw_21 (Nat.le_of_ble_eq_true rfl) (Nat.le_of_ble_eq_true rfl) rfl ?_
  refine Sm.aload_n dX10_init_4 rfl rfl rfl ?_
  refine Sm.sipush dX10_init_5 sp_244 rfl ?_
  refine Sm.newI (by decide) (by decide) dX10_init_8 mw_50 rfl ?_
  refine Sm.nmH (fun h1 e2 e3 => ?_)
  refine Sm.ck (fun o4 => ?_)
  refine pf_X10_7 o4 dX10_init_10 rfl rfl rfl ?_
  refine Sm.aload_n dX10_init_13 rfl rfl rfl ?_
  refine Sm.sipush dX10_init_14 sp_1220 rfl ?_
  refine Sm.nmH (fun h5 e6 e7 => ?_)
  refine Sm.newI (by decide) (by decide) dX10_init_17 mw_50 rfl ?_
  refine Sm.nmH (fun h8 e9 e10 => ?_)
  refine Sm.ck (fun o11 => ?_)
  refine pf_X10_13 o11 dX10_init_19 rfl rfl rfl ?_
  refine Sm.aload_n dX10_init_22 rfl rfl rfl ?_
  refine Sm.iconst dX10_init_23 ic_5 rfl ?_
  refine Sm.nmH (fun h12 e13 e14 => ?_)
  refine Sm.newI (by decide) (by decide) dX10_init_24 mw_50 rfl ?_
  refine Sm.nmH (fun h15 e16 e17 => ?_)
  refine Sm.ck (fun o18 => ?_)
  refine pf_X10_16 o18 dX10_init_26 rfl rfl rfl ?_
  refine Sm.aload_n dX10_init_29 rfl rfl rfl ?_
  refine Sm.sipush dX10_init_30 sp_150 rfl ?_
  refine Sm.nmH (fun h19 e20 e21 => ?_)
  refine Sm.newI (by decide) (by decide) dX10_init_33 mw_50 rfl ?_
  refine Sm.nmH (fun h22 e23 e24 => ?_)
  refine Sm.ck (fun o25 => ?_)
  refine pf_X10_19 o25 dX10_init_35 rfl rfl rfl ?_
  exact Sm.wk (t_X10_init_38 l0 (sP h22 l0 4 (some (gN h19 + 1)))) ⟨Or.inr rfl, Or.inl rfl, trivial⟩
set_option maxRecDepth 20000 in
theorem kc_L_12 {ρ : Type} {rv : ρ → Option Value} {G : Gx} {pc q : Nat} {lv st : List Value} {h : Hp} {a : Nat} {e : Unit → Hp → Option (ρ × Hp)} (d : decode G.2.1 pc = .ok (.invokespecial 12, 3)) (ho : G.1.cls = RL) (hdep : (g_X10_init).2.2.2.2 < G.2.2.2.2) (hcat : catS st ≤ 8) (hq : pc + 3 = q) (k : ∀ r h1, Sm rv G q lv (st) h1 (e r h1)) : Sm rv G pc lv (.ref a :: st) h (bd (f_X10_init a h) e) :=
  Sm.callI (rv' := rvV) (args := []) (n := 0) (t_X10_init a h) ho rfl rfl mw_890 mw_891 mw_11 mw_892 ⟨⟨by decide, rfl, hdep, Nat.le_of_ble_eq_true rfl⟩, Nat.le_of_ble_eq_true rfl, rfl, ⟨by decide, by decide⟩, hcat⟩ (by decide +kernel) (fun v hv => by cases hv) d hq k rfl
abbrev g_X10_within : Gx := (yX10_within, cX10_within, 3, (Option.some FieldType.boolean), 0)
def f_X10_within (l0 : Int32) (l1 : Int32) (l2 : Int32) (h : Hp) : Option (Int32 × Hp) :=
  (if l0 < l1 then
(some ((0 : Int32), h))
else
(if l2 < l0 then
(some ((0 : Int32), h))
else
(some ((1 : Int32), h))))
set_option maxRecDepth 20000 in
theorem t_X10_within (l0 : Int32) (l1 : Int32) (l2 : Int32) (h : Hp) : Sm rvI g_X10_within 0 (ent 3 [.int l0, .int l1, .int l2]) [] h (f_X10_within l0 l1 l2 h) := by
  show Sm rvI g_X10_within 0 [.int l0, .int l1, .int l2] [] h _
  unfold f_X10_within
  refine Sm.iload_n dX10_within_0 rfl rfl rfl ?_
  refine Sm.iload_n dX10_within_1 rfl rfl rfl ?_
  refine Sm.icmp_lt (t := 14) dX10_within_2 (by decide) rfl (fun b1 => ?_) (fun b1 => ?_)
  · refine Sm.iconst dX10_within_14 ic_0 rfl ?_
    exact Sm.ret dX10_within_15 (Or.inl rfl) rfl
  · refine Sm.iload_n dX10_within_5 rfl rfl rfl ?_
    refine Sm.iload_n dX10_within_6 rfl rfl rfl ?_
    refine Sm.icmp_gt (t := 14) dX10_within_7 (by decide) rfl (fun b2 => ?_) (fun b2 => ?_)
    · refine Sm.iconst dX10_within_14 ic_0 rfl ?_
      exact Sm.ret dX10_within_15 (Or.inl rfl) rfl
    · refine Sm.iconst dX10_within_10 ic_1 rfl ?_
      refine Sm.goto (t := 15) dX10_within_11 (by decide) ?_
      exact Sm.ret dX10_within_15 (Or.inr rfl) rfl
set_option maxRecDepth 20000 in
theorem kc_X10_98 {ρ : Type} {rv : ρ → Option Value} {G : Gx} {pc q : Nat} {lv st : List Value} {h : Hp} {x0 : Int32} {x1 : Int32} {x2 : Int32} {e : Int32 → Hp → Option (ρ × Hp)} (d : decode G.2.1 pc = .ok (.invokestatic 98, 3)) (ho : G.1.cls = RX10) (hdep : (g_X10_within).2.2.2.2 < G.2.2.2.2) (hcat : catS st ≤ 8) (hq : pc + 3 = q) (k : ∀ r h1, Sm rv G q lv (.int r :: st) h1 (e r h1)) : Sm rv G pc lv (.int x2 :: .int x1 :: .int x0 :: st) h (bd (f_X10_within x0 x1 x2 h) e) :=
  Sm.callS (rv' := rvI) (as := [.int x0, .int x1, .int x2]) (n := 3) (t_X10_within x0 x1 x2 h) ho mw_1036 mw_1037 mw_11 mw_1038 ⟨⟨by decide, rfl, hdep, Nat.le_of_ble_eq_true rfl⟩, Nat.le_of_ble_eq_true rfl, rfl, ⟨by decide, by decide⟩, hcat⟩ (by decide +kernel) (by intro v hv; simp only [List.mem_cons, List.not_mem_nil, or_false] at hv; rcases hv with rfl | rfl | rfl <;> intro x hx <;> cases hx) d hq k rfl
abbrev g_X10_fails : Gx := (yX10_fails, cX10_fails, 2, (Option.some FieldType.int), 0)
def f_X10_fails (l0 : Nat) (l1 : Int32) (h : Hp) : Option (Int32 × Hp) :=
  (ck h l0 10
((gP h l0 3).bind fun v2 =>
(nm ((-2 : Int32) - l1) fun v3 =>
(ca h v2 20 v3
(ca h v2 20 v3
(some (l1, (sI h v2 v3.toNatClampNeg ((gI h v2 v3.toNatClampNeg) + (1 : Int32))))))))))
set_option maxRecDepth 20000 in
theorem t_X10_fails (l0 : Nat) (l1 : Int32) (h : Hp) : Sm rvI g_X10_fails 0 (ent 2 [.ref l0, .int l1]) [] h (f_X10_fails l0 l1 h) := by
  show Sm rvI g_X10_fails 0 [.ref l0, .int l1] [] h _
  unfold f_X10_fails
  refine Sm.aload_n dX10_fails_0 rfl rfl rfl ?_
  refine Sm.ck (fun o1 => ?_)
  refine gf_X10_16 o1 dX10_fails_1 rfl rfl (fun v2 => ?_)
  refine Sm.bipush dX10_fails_4 bp_m2 rfl ?_
  refine Sm.iload_n dX10_fails_6 rfl rfl rfl ?_
  refine Sm.isub dX10_fails_7 rfl ?_
  refine Sm.nm (LV := fun v3 => [.ref l0, .int l1]) (ST := fun v3 => [.int v3, .ref v2]) (fun v3 => ?_)
  refine Sm.dup2 dX10_fails_8 rfl rfl rfl ?_
  refine Sm.ca (fun q4 => ?_)
  refine Sm.iald q4 dX10_fails_9 rfl ?_
  refine Sm.iconst dX10_fails_10 ic_1 rfl ?_
  refine Sm.iadd dX10_fails_11 rfl ?_
  refine Sm.ca (fun q5 => ?_)
  refine Sm.iast q5 dX10_fails_12 rfl ?_
  refine Sm.iload_n dX10_fails_13 rfl rfl rfl ?_
  exact Sm.ret dX10_fails_14 trivial rfl
set_option maxRecDepth 20000 in
theorem kc_X10_106 {ρ : Type} {rv : ρ → Option Value} {G : Gx} {pc q : Nat} {lv st : List Value} {h : Hp} {a : Nat} {x1 : Int32} {e : Int32 → Hp → Option (ρ × Hp)} (hk : isO h a 10) (d : decode G.2.1 pc = .ok (.invokevirtual 106, 3)) (ho : G.1.cls = RX10) (hdep : (g_X10_fails).2.2.2.2 < G.2.2.2.2) (hcat : catS st ≤ 8) (hq : pc + 3 = q) (k : ∀ r h1, Sm rv G q lv (.int r :: st) h1 (e r h1)) : Sm rv G pc lv (.int x1 :: .ref a :: st) h (bd (f_X10_fails a x1 h) e) :=
  Sm.callV (rv' := rvI) (args := [.int x1]) (n := 1) (t_X10_fails a x1 h) hk (by decide) (r := (RX10, TX10, 43)) rfl rfl ho mw_1028 mw_1030 mp_50 mw_11 mw_1031 ⟨⟨by decide, rfl, hdep, Nat.le_of_ble_eq_true rfl⟩, Nat.le_of_ble_eq_true rfl, rfl, ⟨by decide, by decide⟩, hcat⟩ (by decide +kernel) (by intro v hv; simp only [List.mem_cons, List.not_mem_nil, or_false] at hv; rcases hv with rfl <;> intro x hx <;> cases hx) d hq k rfl
abbrev g_X10_isSlot : Gx := (yX10_isSlot, cX10_isSlot, 1, (Option.some FieldType.boolean), 1)
def f_X10_isSlot (l0 : Int32) (h : Hp) : Option (Int32 × Hp) :=
  (bd (f_X10_within l0 (0 : Int32) (3 : Int32) h) fun v1 h2 =>
(bz v1
(some (v1, h2))))
set_option maxRecDepth 20000 in
theorem t_X10_isSlot (l0 : Int32) (h : Hp) : Sm rvI g_X10_isSlot 0 (ent 1 [.int l0]) [] h (f_X10_isSlot l0 h) := by
  show Sm rvI g_X10_isSlot 0 [.int l0] [] h _
  unfold f_X10_isSlot
  refine Sm.iload_n dX10_isSlot_0 rfl rfl rfl ?_
  refine Sm.iconst dX10_isSlot_1 ic_0 rfl ?_
  refine Sm.iconst dX10_isSlot_2 ic_3 rfl ?_
  refine kc_X10_98 dX10_isSlot_3 rfl (Nat.le_of_ble_eq_true rfl) (Nat.le_of_ble_eq_true rfl) rfl (fun v1 h2 => ?_)
  refine Sm.bz (fun z3 => ?_)
  exact Sm.ret dX10_isSlot_6 z3 rfl
set_option maxRecDepth 20000 in
theorem kc_X10_179 {ρ : Type} {rv : ρ → Option Value} {G : Gx} {pc q : Nat} {lv st : List Value} {h : Hp} {x0 : Int32} {e : Int32 → Hp → Option (ρ × Hp)} (d : decode G.2.1 pc = .ok (.invokestatic 179, 3)) (ho : G.1.cls = RX10) (hdep : (g_X10_isSlot).2.2.2.2 < G.2.2.2.2) (hcat : catS st ≤ 8) (hq : pc + 3 = q) (k : ∀ r h1, Sm rv G q lv (.int r :: st) h1 (e r h1)) : Sm rv G pc lv (.int x0 :: st) h (bd (f_X10_isSlot x0 h) e) :=
  Sm.callS (rv' := rvI) (as := [.int x0]) (n := 1) (t_X10_isSlot x0 h) ho mw_1047 mw_1048 mw_11 mw_1049 ⟨⟨by decide, rfl, hdep, Nat.le_of_ble_eq_true rfl⟩, Nat.le_of_ble_eq_true rfl, rfl, ⟨by decide, by decide⟩, hcat⟩ (by decide +kernel) (by intro v hv; simp only [List.mem_cons, List.not_mem_nil, or_false] at hv; rcases hv with rfl <;> intro x hx <;> cases hx) d hq k rfl
abbrev g_X10_signOf : Gx := (yX10_signOf, cX10_signOf, 3, (Option.some FieldType.int), 0)
def f_X10_signOf (l0 : Nat) (l1 : Int32) (l2 : Int32) (h : Hp) : Option (Int32 × Hp) :=
  (ck h l0 10
((gP h l0 0).bind fun v2 =>
(ca h v2 20 (((4 : Int32) + ((60 : Int32) * l1)) + l2)
(some ((gI h v2 (((4 : Int32) + ((60 : Int32) * l1)) + l2).toNatClampNeg), h)))))
set_option maxRecDepth 20000 in
theorem t_X10_signOf (l0 : Nat) (l1 : Int32) (l2 : Int32) (h : Hp) : Sm rvI g_X10_signOf 0 (ent 3 [.ref l0, .int l1, .int l2]) [] h (f_X10_signOf l0 l1 l2 h) := by
  show Sm rvI g_X10_signOf 0 [.ref l0, .int l1, .int l2] [] h _
  unfold f_X10_signOf
  refine Sm.aload_n dX10_signOf_0 rfl rfl rfl ?_
  refine Sm.ck (fun o1 => ?_)
  refine gf_X10_7 o1 dX10_signOf_1 rfl rfl (fun v2 => ?_)
  refine Sm.iconst dX10_signOf_4 ic_4 rfl ?_
  refine Sm.bipush dX10_signOf_5 bp_60 rfl ?_
  refine Sm.iload_n dX10_signOf_7 rfl rfl rfl ?_
  refine Sm.imul dX10_signOf_8 rfl ?_
  refine Sm.iadd dX10_signOf_9 rfl ?_
  refine Sm.iload_n dX10_signOf_10 rfl rfl rfl ?_
  refine Sm.iadd dX10_signOf_11 rfl ?_
  refine Sm.ca (fun q3 => ?_)
  refine Sm.iald q3 dX10_signOf_12 rfl ?_
  exact Sm.ret dX10_signOf_13 trivial rfl
set_option maxRecDepth 20000 in
theorem kc_X10_116 {ρ : Type} {rv : ρ → Option Value} {G : Gx} {pc q : Nat} {lv st : List Value} {h : Hp} {a : Nat} {x1 : Int32} {x2 : Int32} {e : Int32 → Hp → Option (ρ × Hp)} (hk : isO h a 10) (d : decode G.2.1 pc = .ok (.invokevirtual 116, 3)) (ho : G.1.cls = RX10) (hdep : (g_X10_signOf).2.2.2.2 < G.2.2.2.2) (hcat : catS st ≤ 8) (hq : pc + 3 = q) (k : ∀ r h1, Sm rv G q lv (.int r :: st) h1 (e r h1)) : Sm rv G pc lv (.int x2 :: .int x1 :: .ref a :: st) h (bd (f_X10_signOf a x1 x2 h) e) :=
  Sm.callV (rv' := rvI) (args := [.int x1, .int x2]) (n := 2) (t_X10_signOf a x1 x2 h) hk (by decide) (r := (RX10, TX10, 43)) rfl rfl ho mw_1058 mw_1060 mp_53 mw_11 mw_1061 ⟨⟨by decide, rfl, hdep, Nat.le_of_ble_eq_true rfl⟩, Nat.le_of_ble_eq_true rfl, rfl, ⟨by decide, by decide⟩, hcat⟩ (by decide +kernel) (by intro v hv; simp only [List.mem_cons, List.not_mem_nil, or_false] at hv; rcases hv with rfl | rfl <;> intro x hx <;> cases hx) d hq k rfl
abbrev g_X10_saves : Gx := (yX10_saves, cX10_saves, 2, (Option.none : Option FieldType), 0)
def f_X10_saves_51 (k51 : (Int32 × Hp) → Option (Unit × Hp)) (l0 : Nat) (l1 : Int32) (h : Hp) : Option (Unit × Hp) :=
  (if (244 : Int32) ≤ l1 then
(ck h l0 10
(some ((), (sI h l0 2 ((gI h l0 2) + (1 : Int32))))))
else
(ck h l0 10
((gP h l0 1).bind fun v8 =>
((gP h l0 0).bind fun v9 =>
(ca h v9 20 l1
(ca h v8 20 (((244 : Int32) * (gI h l0 2)) + l1)
(nm (l1 + (1 : Int32)) fun v12 =>
(k51 (v12, (sI h v8 (((244 : Int32) * (gI h l0 2)) + l1).toNatClampNeg (gI h v9 l1.toNatClampNeg)))))))))))
set_option maxRecDepth 20000 in
theorem t_X10_saves_51 (l0 : Nat) (l1 : Int32) (h : Hp) (k51 : (Int32 × Hp) → Option (Unit × Hp)) (hk51 : ∀ s : Int32 × Hp, Sm rvV g_X10_saves 51 [.ref l0, .int s.1] [] s.2 (k51 s)) : Sm rvV g_X10_saves 51 [.ref l0, .int l1] [] h (f_X10_saves_51 k51 l0 l1 h) := by
  unfold f_X10_saves_51
  refine Sm.iload_n dX10_saves_51 rfl rfl rfl ?_
  refine Sm.sipush dX10_saves_52 sp_244 rfl ?_
  refine Sm.icmp_ge (t := 85) dX10_saves_55 (by decide) rfl (fun b5 => ?_) (fun b5 => ?_)
  · refine Sm.aload_n dX10_saves_85 rfl rfl rfl ?_
    refine Sm.dup dX10_saves_86 rfl rfl ?_
    refine Sm.ck (fun o6 => ?_)
    refine gf_X10_102 o6 dX10_saves_87 rfl rfl ?_
    refine Sm.iconst dX10_saves_90 ic_1 rfl ?_
    refine Sm.iadd dX10_saves_91 rfl ?_
    refine pf_X10_102 o6 dX10_saves_92 rfl rfl ?_
    exact Sm.ret (r := ()) dX10_saves_95 trivial rfl
  · refine Sm.aload_n dX10_saves_58 rfl rfl rfl ?_
    refine Sm.ck (fun o7 => ?_)
    refine gf_X10_13 o7 dX10_saves_59 rfl rfl (fun v8 => ?_)
    refine Sm.sipush dX10_saves_62 sp_244 rfl ?_
    refine Sm.aload_n dX10_saves_65 rfl rfl rfl ?_
    refine gf_X10_102 o7 dX10_saves_66 rfl rfl ?_
    refine Sm.imul dX10_saves_69 rfl ?_
    refine Sm.iload_n dX10_saves_70 rfl rfl rfl ?_
    refine Sm.iadd dX10_saves_71 rfl ?_
    refine Sm.aload_n dX10_saves_72 rfl rfl rfl ?_
    refine gf_X10_7 o7 dX10_saves_73 rfl rfl (fun v9 => ?_)
    refine Sm.iload_n dX10_saves_76 rfl rfl rfl ?_
    refine Sm.ca (fun q10 => ?_)
    refine Sm.iald q10 dX10_saves_77 rfl ?_
    refine Sm.ca (fun q11 => ?_)
    refine Sm.iast q11 dX10_saves_78 rfl ?_
    refine Sm.iinc (lv' := [.ref l0, .int (l1 + (1 : Int32))]) dX10_saves_79 rfl ic_1 rfl rfl ?_
    refine Sm.nm (LV := fun v12 => [.ref l0, .int v12]) (ST := fun v12 => []) (fun v12 => ?_)
    refine Sm.goto (t := 51) dX10_saves_82 (by decide) ?_
    exact Sm.wk (hk51 (v12, (sI h v8 (((244 : Int32) * (gI h l0 2)) + l1).toNatClampNeg (gI h v9 l1.toNatClampNeg)))) ⟨Or.inr rfl, Or.inr rfl, trivial⟩
def f_X10_saves_10 (k10 : (Int32 × Hp) → Option (Unit × Hp)) (l0 : Nat) (l1 : Int32) (h : Hp) : Option (Unit × Hp) :=
  (if (976 : Int32) ≤ l1 then
(ck h l0 10
(loopN (fun k s => f_X10_saves_51 k l0 s.1 s.2) 5000 ((0 : Int32), (sI h l0 2 ((gI h l0 2) - (1 : Int32))))))
else
(ck h l0 10
((gP h l0 1).bind fun v14 =>
((gP h l0 1).bind fun v15 =>
(ca h v15 20 (l1 + (244 : Int32))
(ca h v14 20 l1
(nm (l1 + (1 : Int32)) fun v18 =>
(k10 (v18, (sI h v14 l1.toNatClampNeg (gI h v15 (l1 + (244 : Int32)).toNatClampNeg)))))))))))
set_option maxRecDepth 20000 in
theorem t_X10_saves_10 (l0 : Nat) (l1 : Int32) (h : Hp) (k10 : (Int32 × Hp) → Option (Unit × Hp)) (hk10 : ∀ s : Int32 × Hp, Sm rvV g_X10_saves 10 [.ref l0, .int s.1] [] s.2 (k10 s)) : Sm rvV g_X10_saves 10 [.ref l0, .int l1] [] h (f_X10_saves_10 k10 l0 l1 h) := by
  unfold f_X10_saves_10
  refine Sm.iload_n dX10_saves_10 rfl rfl rfl ?_
  refine Sm.sipush dX10_saves_11 sp_976 rfl ?_
  refine Sm.icmp_ge (t := 39) dX10_saves_14 (by decide) rfl (fun b3 => ?_) (fun b3 => ?_)
  · refine Sm.aload_n dX10_saves_39 rfl rfl rfl ?_
    refine Sm.dup dX10_saves_40 rfl rfl ?_
    refine Sm.ck (fun o4 => ?_)
    refine gf_X10_102 o4 dX10_saves_41 rfl rfl ?_
    refine Sm.iconst dX10_saves_44 ic_1 rfl ?_
    refine Sm.isub dX10_saves_45 rfl ?_
    refine pf_X10_102 o4 dX10_saves_46 rfl rfl ?_
    refine Sm.iconst dX10_saves_49 ic_0 rfl ?_
    refine Sm.istore_n (lv' := [.ref l0, .int (0 : Int32)]) dX10_saves_50 rfl (Nat.le_of_ble_eq_true rfl) rfl rfl ?_
    exact Sm.wk (Sm.loop (σ := Int32 × Hp) (LV := fun s => [.ref l0, .int s.1]) (HH := fun s => s.2) (fun k hk s => t_X10_saves_51 l0 s.1 s.2 k hk) 5000 ((0 : Int32), (sI h l0 2 ((gI h l0 2) - (1 : Int32))))) ⟨Or.inr rfl, Or.inr rfl, trivial⟩
  · refine Sm.aload_n dX10_saves_17 rfl rfl rfl ?_
    refine Sm.ck (fun o13 => ?_)
    refine gf_X10_13 o13 dX10_saves_18 rfl rfl (fun v14 => ?_)
    refine Sm.iload_n dX10_saves_21 rfl rfl rfl ?_
    refine Sm.aload_n dX10_saves_22 rfl rfl rfl ?_
    refine gf_X10_13 o13 dX10_saves_23 rfl rfl (fun v15 => ?_)
    refine Sm.iload_n dX10_saves_26 rfl rfl rfl ?_
    refine Sm.sipush dX10_saves_27 sp_244 rfl ?_
    refine Sm.iadd dX10_saves_30 rfl ?_
    refine Sm.ca (fun q16 => ?_)
    refine Sm.iald q16 dX10_saves_31 rfl ?_
    refine Sm.ca (fun q17 => ?_)
    refine Sm.iast q17 dX10_saves_32 rfl ?_
    refine Sm.iinc (lv' := [.ref l0, .int (l1 + (1 : Int32))]) dX10_saves_33 rfl ic_1 rfl rfl ?_
    refine Sm.nm (LV := fun v18 => [.ref l0, .int v18]) (ST := fun v18 => []) (fun v18 => ?_)
    refine Sm.goto (t := 10) dX10_saves_36 (by decide) ?_
    exact Sm.wk (hk10 (v18, (sI h v14 l1.toNatClampNeg (gI h v15 (l1 + (244 : Int32)).toNatClampNeg)))) ⟨Or.inr rfl, Or.inr rfl, trivial⟩
def f_X10_saves (l0 : Nat) (h : Hp) : Option (Unit × Hp) :=
  (ck h l0 10
(if (gI h l0 2) = (5 : Int32) then
(loopN (fun k s => f_X10_saves_10 k l0 s.1 s.2) 5000 ((0 : Int32), h))
else
(loopN (fun k s => f_X10_saves_51 k l0 s.1 s.2) 5000 ((0 : Int32), h))))
set_option maxRecDepth 20000 in
theorem t_X10_saves (l0 : Nat) (h : Hp) : Sm rvV g_X10_saves 0 (ent 2 [.ref l0]) [] h (f_X10_saves l0 h) := by
  show Sm rvV g_X10_saves 0 [.ref l0, .null] [] h _
  unfold f_X10_saves
  refine Sm.aload_n dX10_saves_0 rfl rfl rfl ?_
  refine Sm.ck (fun o1 => ?_)
  refine gf_X10_102 o1 dX10_saves_1 rfl rfl ?_
  refine Sm.iconst dX10_saves_4 ic_5 rfl ?_
  refine Sm.icmp_ne (t := 49) dX10_saves_5 (by decide) rfl (fun b2 => ?_) (fun b2 => ?_)
  · refine Sm.iconst dX10_saves_8 ic_0 rfl ?_
    refine Sm.istore_n (lv' := [.ref l0, .int (0 : Int32)]) dX10_saves_9 rfl (Nat.le_of_ble_eq_true rfl) rfl rfl ?_
    exact Sm.wk (Sm.loop (σ := Int32 × Hp) (LV := fun s => [.ref l0, .int s.1]) (HH := fun s => s.2) (fun k hk s => t_X10_saves_10 l0 s.1 s.2 k hk) 5000 ((0 : Int32), h)) ⟨Or.inr rfl, Or.inr rfl, trivial⟩
  · refine Sm.iconst dX10_saves_49 ic_0 rfl ?_
    refine Sm.istore_n (lv' := [.ref l0, .int (0 : Int32)]) dX10_saves_50 rfl (Nat.le_of_ble_eq_true rfl) rfl rfl ?_
    exact Sm.wk (Sm.loop (σ := Int32 × Hp) (LV := fun s => [.ref l0, .int s.1]) (HH := fun s => s.2) (fun k hk s => t_X10_saves_51 l0 s.1 s.2 k hk) 5000 ((0 : Int32), h)) ⟨Or.inr rfl, Or.inr rfl, trivial⟩
set_option maxRecDepth 20000 in
theorem kc_X10_124 {ρ : Type} {rv : ρ → Option Value} {G : Gx} {pc q : Nat} {lv st : List Value} {h : Hp} {a : Nat} {e : Unit → Hp → Option (ρ × Hp)} (hk : isO h a 10) (d : decode G.2.1 pc = .ok (.invokevirtual 124, 3)) (ho : G.1.cls = RX10) (hdep : (g_X10_saves).2.2.2.2 < G.2.2.2.2) (hcat : catS st ≤ 8) (hq : pc + 3 = q) (k : ∀ r h1, Sm rv G q lv (st) h1 (e r h1)) : Sm rv G pc lv (.ref a :: st) h (bd (f_X10_saves a h) e) :=
  Sm.callV (rv' := rvV) (args := []) (n := 0) (t_X10_saves a h) hk (by decide) (r := (RX10, TX10, 43)) rfl rfl ho mw_1114 mw_1116 mp_67 mw_11 mw_1117 ⟨⟨by decide, rfl, hdep, Nat.le_of_ble_eq_true rfl⟩, Nat.le_of_ble_eq_true rfl, rfl, ⟨by decide, by decide⟩, hcat⟩ (by decide +kernel) (fun v hv => by cases hv) d hq k rfl
abbrev g_X10_undo : Gx := (yX10_undo, cX10_undo, 2, (Option.some FieldType.int), 1)
def f_X10_undo_26 (k26 : (Int32 × Hp) → Option (Int32 × Hp)) (l0 : Nat) (l1 : Int32) (h : Hp) : Option (Int32 × Hp) :=
  (if (244 : Int32) ≤ l1 then
(ck h l0 10
(some ((gI h l0 2), h)))
else
(ck h l0 10
((gP h l0 0).bind fun v8 =>
((gP h l0 1).bind fun v9 =>
(ca h v9 20 (((244 : Int32) * (gI h l0 2)) + l1)
(ca h v8 20 l1
(nm (l1 + (1 : Int32)) fun v12 =>
(k26 (v12, (sI h v8 l1.toNatClampNeg (gI h v9 (((244 : Int32) * (gI h l0 2)) + l1).toNatClampNeg)))))))))))
set_option maxRecDepth 20000 in
theorem t_X10_undo_26 (l0 : Nat) (l1 : Int32) (h : Hp) (k26 : (Int32 × Hp) → Option (Int32 × Hp)) (hk26 : ∀ s : Int32 × Hp, Sm rvI g_X10_undo 26 [.ref l0, .int s.1] [] s.2 (k26 s)) : Sm rvI g_X10_undo 26 [.ref l0, .int l1] [] h (f_X10_undo_26 k26 l0 l1 h) := by
  unfold f_X10_undo_26
  refine Sm.iload_n dX10_undo_26 rfl rfl rfl ?_
  refine Sm.sipush dX10_undo_27 sp_244 rfl ?_
  refine Sm.icmp_ge (t := 60) dX10_undo_30 (by decide) rfl (fun b5 => ?_) (fun b5 => ?_)
  · refine Sm.aload_n dX10_undo_60 rfl rfl rfl ?_
    refine Sm.ck (fun o6 => ?_)
    refine gf_X10_102 o6 dX10_undo_61 rfl rfl ?_
    exact Sm.ret dX10_undo_64 trivial rfl
  · refine Sm.aload_n dX10_undo_33 rfl rfl rfl ?_
    refine Sm.ck (fun o7 => ?_)
    refine gf_X10_7 o7 dX10_undo_34 rfl rfl (fun v8 => ?_)
    refine Sm.iload_n dX10_undo_37 rfl rfl rfl ?_
    refine Sm.aload_n dX10_undo_38 rfl rfl rfl ?_
    refine gf_X10_13 o7 dX10_undo_39 rfl rfl (fun v9 => ?_)
    refine Sm.sipush dX10_undo_42 sp_244 rfl ?_
    refine Sm.aload_n dX10_undo_45 rfl rfl rfl ?_
    refine gf_X10_102 o7 dX10_undo_46 rfl rfl ?_
    refine Sm.imul dX10_undo_49 rfl ?_
    refine Sm.iload_n dX10_undo_50 rfl rfl rfl ?_
    refine Sm.iadd dX10_undo_51 rfl ?_
    refine Sm.ca (fun q10 => ?_)
    refine Sm.iald q10 dX10_undo_52 rfl ?_
    refine Sm.ca (fun q11 => ?_)
    refine Sm.iast q11 dX10_undo_53 rfl ?_
    refine Sm.iinc (lv' := [.ref l0, .int (l1 + (1 : Int32))]) dX10_undo_54 rfl ic_1 rfl rfl ?_
    refine Sm.nm (LV := fun v12 => [.ref l0, .int v12]) (ST := fun v12 => []) (fun v12 => ?_)
    refine Sm.goto (t := 26) dX10_undo_57 (by decide) ?_
    exact Sm.wk (hk26 (v12, (sI h v8 l1.toNatClampNeg (gI h v9 (((244 : Int32) * (gI h l0 2)) + l1).toNatClampNeg)))) ⟨Or.inr rfl, Or.inr rfl, trivial⟩
def f_X10_undo (l0 : Nat) (h : Hp) : Option (Int32 × Hp) :=
  (ck h l0 10
(if (gI h l0 2) = 0 then
(bd (f_X10_fails l0 (-6 : Int32) h) fun v3 h4 =>
(some (v3, h4)))
else
(loopN (fun k s => f_X10_undo_26 k l0 s.1 s.2) 5000 ((0 : Int32), (sI h l0 2 ((gI h l0 2) - (1 : Int32)))))))
set_option maxRecDepth 20000 in
theorem t_X10_undo (l0 : Nat) (h : Hp) : Sm rvI g_X10_undo 0 (ent 2 [.ref l0]) [] h (f_X10_undo l0 h) := by
  show Sm rvI g_X10_undo 0 [.ref l0, .null] [] h _
  unfold f_X10_undo
  refine Sm.aload_n dX10_undo_0 rfl rfl rfl ?_
  refine Sm.ck (fun o1 => ?_)
  refine gf_X10_102 o1 dX10_undo_1 rfl rfl ?_
  refine Sm.if_ne (t := 14) dX10_undo_4 (by decide) rfl (fun b2 => ?_) (fun b2 => ?_)
  · refine Sm.aload_n dX10_undo_7 rfl rfl rfl ?_
    refine Sm.bipush dX10_undo_8 bp_m6 rfl ?_
    refine kc_X10_106 o1 dX10_undo_10 rfl (Nat.le_of_ble_eq_true rfl) (Nat.le_of_ble_eq_true rfl) rfl (fun v3 h4 => ?_)
    exact Sm.ret dX10_undo_13 trivial rfl
  · refine Sm.aload_n dX10_undo_14 rfl rfl rfl ?_
    refine Sm.dup dX10_undo_15 rfl rfl ?_
    refine gf_X10_102 o1 dX10_undo_16 rfl rfl ?_
    refine Sm.iconst dX10_undo_19 ic_1 rfl ?_
    refine Sm.isub dX10_undo_20 rfl ?_
    refine pf_X10_102 o1 dX10_undo_21 rfl rfl ?_
    refine Sm.iconst dX10_undo_24 ic_0 rfl ?_
    refine Sm.istore_n (lv' := [.ref l0, .int (0 : Int32)]) dX10_undo_25 rfl (Nat.le_of_ble_eq_true rfl) rfl rfl ?_
    exact Sm.wk (Sm.loop (σ := Int32 × Hp) (LV := fun s => [.ref l0, .int s.1]) (HH := fun s => s.2) (fun k hk s => t_X10_undo_26 l0 s.1 s.2 k hk) 5000 ((0 : Int32), (sI h l0 2 ((gI h l0 2) - (1 : Int32))))) ⟨Or.inr rfl, Or.inr rfl, trivial⟩
set_option maxRecDepth 20000 in
theorem kc_L_119 {ρ : Type} {rv : ρ → Option Value} {G : Gx} {pc q : Nat} {lv st : List Value} {h : Hp} {a : Nat} {e : Int32 → Hp → Option (ρ × Hp)} (hk : isO h a 10) (d : decode G.2.1 pc = .ok (.invokevirtual 119, 3)) (ho : G.1.cls = RL) (hdep : (g_X10_undo).2.2.2.2 < G.2.2.2.2) (hcat : catS st ≤ 8) (hq : pc + 3 = q) (k : ∀ r h1, Sm rv G q lv (.int r :: st) h1 (e r h1)) : Sm rv G pc lv (.ref a :: st) h (bd (f_X10_undo a h) e) :=
  Sm.callV (rv' := rvI) (args := []) (n := 0) (t_X10_undo a h) hk (by decide) (r := (RX10, TX10, 43)) rfl rfl ho mw_1024 mw_1025 mw_1026 mw_11 mw_1027 ⟨⟨by decide, rfl, hdep, Nat.le_of_ble_eq_true rfl⟩, Nat.le_of_ble_eq_true rfl, rfl, ⟨by decide, by decide⟩, hcat⟩ (by decide +kernel) (fun v hv => by cases hv) d hq k rfl
abbrev g_X10_makes : Gx := (yX10_makes, cX10_makes, 2, (Option.none : Option FieldType), 0)
def f_X10_makes (l0 : Nat) (l1 : Int32) (h : Hp) : Option (Unit × Hp) :=
  (ck h l0 10
((gP h l0 6).bind fun v2 =>
(ca h v2 20 (gI h l0 7)
(nm (sI (sI h v2 (gI h l0 7).toNatClampNeg l1) l0 7 ((gI (sI h v2 (gI h l0 7).toNatClampNeg l1) l0 7) + (1 : Int32))) fun h4 =>
(some ((), h4))))))
set_option maxRecDepth 20000 in
theorem t_X10_makes (l0 : Nat) (l1 : Int32) (h : Hp) : Sm rvV g_X10_makes 0 (ent 2 [.ref l0, .int l1]) [] h (f_X10_makes l0 l1 h) := by
  show Sm rvV g_X10_makes 0 [.ref l0, .int l1] [] h _
  unfold f_X10_makes
  refine Sm.aload_n dX10_makes_0 rfl rfl rfl ?_
  refine Sm.ck (fun o1 => ?_)
  refine gf_X10_22 o1 dX10_makes_1 rfl rfl (fun v2 => ?_)
  refine Sm.aload_n dX10_makes_4 rfl rfl rfl ?_
  refine gf_X10_110 o1 dX10_makes_5 rfl rfl ?_
  refine Sm.iload_n dX10_makes_8 rfl rfl rfl ?_
  refine Sm.ca (fun q3 => ?_)
  refine Sm.iast q3 dX10_makes_9 rfl ?_
  refine Sm.aload_n dX10_makes_10 rfl rfl rfl ?_
  refine Sm.dup dX10_makes_11 rfl rfl ?_
  refine gf_X10_110 o1 dX10_makes_12 rfl rfl ?_
  refine Sm.iconst dX10_makes_15 ic_1 rfl ?_
  refine Sm.iadd dX10_makes_16 rfl ?_
  refine pf_X10_110 o1 dX10_makes_17 rfl rfl ?_
  refine Sm.nmH (fun h4 e5 e6 => ?_)
  exact Sm.ret (r := ()) dX10_makes_20 trivial rfl
set_option maxRecDepth 20000 in
theorem kc_X10_127 {ρ : Type} {rv : ρ → Option Value} {G : Gx} {pc q : Nat} {lv st : List Value} {h : Hp} {a : Nat} {x1 : Int32} {e : Unit → Hp → Option (ρ × Hp)} (hk : isO h a 10) (d : decode G.2.1 pc = .ok (.invokevirtual 127, 3)) (ho : G.1.cls = RX10) (hdep : (g_X10_makes).2.2.2.2 < G.2.2.2.2) (hcat : catS st ≤ 8) (hq : pc + 3 = q) (k : ∀ r h1, Sm rv G q lv (st) h1 (e r h1)) : Sm rv G pc lv (.int x1 :: .ref a :: st) h (bd (f_X10_makes a x1 h) e) :=
  Sm.callV (rv' := rvV) (args := [.int x1]) (n := 1) (t_X10_makes a x1 h) hk (by decide) (r := (RX10, TX10, 43)) rfl rfl ho mw_1082 mw_1084 mp_59 mw_11 mw_1085 ⟨⟨by decide, rfl, hdep, Nat.le_of_ble_eq_true rfl⟩, Nat.le_of_ble_eq_true rfl, rfl, ⟨by decide, by decide⟩, hcat⟩ (by decide +kernel) (by intro v hv; simp only [List.mem_cons, List.not_mem_nil, or_false] at hv; rcases hv with rfl <;> intro x hx <;> cases hx) d hq k rfl
abbrev g_X10_waits : Gx := (yX10_waits, cX10_waits, 3, (Option.none : Option FieldType), 0)
def f_X10_waits_27 (l0 : Nat) (s0 : Nat) (s1 : Int32) (s2 : Int32) (h : Hp) : Option (Unit × Hp) :=
  (ca h s0 20 s1
(ck (sI h s0 s1.toNatClampNeg s2) l0 10
(nm (sI (sI h s0 s1.toNatClampNeg s2) l0 10 ((gI (sI h s0 s1.toNatClampNeg s2) l0 10) + (1 : Int32))) fun h8 =>
(some ((), h8)))))
set_option maxRecDepth 20000 in
theorem t_X10_waits_27 (l0 : Nat) (s0 : Nat) (s1 : Int32) (s2 : Int32) (h : Hp) : Sm rvV g_X10_waits 27 [.ref l0, .null, .null] [.int s2, .int s1, .ref s0] h (f_X10_waits_27 l0 s0 s1 s2 h) := by
  unfold f_X10_waits_27
  refine Sm.ca (fun q6 => ?_)
  refine Sm.iast q6 dX10_waits_27 rfl ?_
  refine Sm.aload_n dX10_waits_28 rfl rfl rfl ?_
  refine Sm.dup dX10_waits_29 rfl rfl ?_
  refine Sm.ck (fun o7 => ?_)
  refine gf_X10_113 o7 dX10_waits_30 rfl rfl ?_
  refine Sm.iconst dX10_waits_33 ic_1 rfl ?_
  refine Sm.iadd dX10_waits_34 rfl ?_
  refine pf_X10_113 o7 dX10_waits_35 rfl rfl ?_
  refine Sm.nmH (fun h8 e9 e10 => ?_)
  exact Sm.ret (r := ()) dX10_waits_38 trivial rfl
def f_X10_waits (l0 : Nat) (l1 : Int32) (l2 : Int32) (h : Hp) : Option (Unit × Hp) :=
  (ck h l0 10
((gP h l0 8).bind fun v2 =>
(ca h v2 20 (gI h l0 10)
((gP (sI h v2 (gI h l0 10).toNatClampNeg l1) l0 9).bind fun v4 =>
(if l2 = 0 then
(f_X10_waits_27 l0 v4 (gI (sI h v2 (gI h l0 10).toNatClampNeg l1) l0 10) (0 : Int32) (sI h v2 (gI h l0 10).toNatClampNeg l1))
else
(f_X10_waits_27 l0 v4 (gI (sI h v2 (gI h l0 10).toNatClampNeg l1) l0 10) (1 : Int32) (sI h v2 (gI h l0 10).toNatClampNeg l1)))))))
set_option maxRecDepth 20000 in
theorem t_X10_waits (l0 : Nat) (l1 : Int32) (l2 : Int32) (h : Hp) : Sm rvV g_X10_waits 0 (ent 3 [.ref l0, .int l1, .int l2]) [] h (f_X10_waits l0 l1 l2 h) := by
  show Sm rvV g_X10_waits 0 [.ref l0, .int l1, .int l2] [] h _
  unfold f_X10_waits
  refine Sm.aload_n dX10_waits_0 rfl rfl rfl ?_
  refine Sm.ck (fun o1 => ?_)
  refine gf_X10_25 o1 dX10_waits_1 rfl rfl (fun v2 => ?_)
  refine Sm.aload_n dX10_waits_4 rfl rfl rfl ?_
  refine gf_X10_113 o1 dX10_waits_5 rfl rfl ?_
  refine Sm.iload_n dX10_waits_8 rfl rfl rfl ?_
  refine Sm.ca (fun q3 => ?_)
  refine Sm.iast q3 dX10_waits_9 rfl ?_
  refine Sm.aload_n dX10_waits_10 rfl rfl rfl ?_
  refine gf_X10_28 o1 dX10_waits_11 rfl rfl (fun v4 => ?_)
  refine Sm.aload_n dX10_waits_14 rfl rfl rfl ?_
  refine gf_X10_113 o1 dX10_waits_15 rfl rfl ?_
  refine Sm.iload_n dX10_waits_18 rfl rfl rfl ?_
  refine Sm.if_eq (t := 26) dX10_waits_19 (by decide) rfl (fun b5 => ?_) (fun b5 => ?_)
  · refine Sm.iconst dX10_waits_26 ic_0 rfl ?_
    exact Sm.wk (t_X10_waits_27 l0 v4 (gI (sI h v2 (gI h l0 10).toNatClampNeg l1) l0 10) (0 : Int32) (sI h v2 (gI h l0 10).toNatClampNeg l1)) ⟨Or.inr rfl, Or.inl rfl, Or.inl rfl, trivial⟩
  · refine Sm.iconst dX10_waits_22 ic_1 rfl ?_
    refine Sm.goto (t := 27) dX10_waits_23 (by decide) ?_
    exact Sm.wk (t_X10_waits_27 l0 v4 (gI (sI h v2 (gI h l0 10).toNatClampNeg l1) l0 10) (1 : Int32) (sI h v2 (gI h l0 10).toNatClampNeg l1)) ⟨Or.inr rfl, Or.inl rfl, Or.inl rfl, trivial⟩
set_option maxRecDepth 20000 in
theorem kc_X10_120 {ρ : Type} {rv : ρ → Option Value} {G : Gx} {pc q : Nat} {lv st : List Value} {h : Hp} {a : Nat} {x1 : Int32} {x2 : Int32} {e : Unit → Hp → Option (ρ × Hp)} (hk : isO h a 10) (d : decode G.2.1 pc = .ok (.invokevirtual 120, 3)) (ho : G.1.cls = RX10) (hdep : (g_X10_waits).2.2.2.2 < G.2.2.2.2) (hcat : catS st ≤ 8) (hq : pc + 3 = q) (k : ∀ r h1, Sm rv G q lv (st) h1 (e r h1)) : Sm rv G pc lv (.int x2 :: .int x1 :: .ref a :: st) h (bd (f_X10_waits a x1 x2 h) e) :=
  Sm.callV (rv' := rvV) (args := [.int x1, .int x2]) (n := 2) (t_X10_waits a x1 x2 h) hk (by decide) (r := (RX10, TX10, 43)) rfl rfl ho mw_1062 mw_1064 mp_54 mw_11 mw_1065 ⟨⟨by decide, rfl, hdep, Nat.le_of_ble_eq_true rfl⟩, Nat.le_of_ble_eq_true rfl, rfl, ⟨by decide, by decide⟩, hcat⟩ (by decide +kernel) (by intro v hv; simp only [List.mem_cons, List.not_mem_nil, or_false] at hv; rcases hv with rfl | rfl <;> intro x hx <;> cases hx) d hq k rfl
abbrev g_X10_isPredicateRow : Gx := (yX10_isPredicateRow, cX10_isPredicateRow, 4, (Option.some FieldType.boolean), 1)
def f_X10_isPredicateRow_82 (k7 : (Int32 × Hp) → Option (Int32 × Hp)) (l0 : Nat) (l1 : Int32) (l2 : Int32) (h : Hp) : Option (Int32 × Hp) :=
  (ck h l0 10
((gP (sI h l0 10 ((gI h l0 10) - (1 : Int32))) l0 9).bind fun v19 =>
(nm ((gI (sI h l0 10 ((gI h l0 10) - (1 : Int32))) l0 10) - (1 : Int32)) fun v20 =>
(ca (sI h l0 10 ((gI h l0 10) - (1 : Int32))) v19 20 v20
((gP (sI h l0 10 ((gI h l0 10) - (1 : Int32))) l0 9).bind fun v22 =>
(ca (sI h l0 10 ((gI h l0 10) - (1 : Int32))) v22 20 (gI (sI h l0 10 ((gI h l0 10) - (1 : Int32))) l0 10)
(ca (sI h l0 10 ((gI h l0 10) - (1 : Int32))) v19 20 v20
(nm (sI (sI h l0 10 ((gI h l0 10) - (1 : Int32))) v19 v20.toNatClampNeg ((gI (sI h l0 10 ((gI h l0 10) - (1 : Int32))) v19 v20.toNatClampNeg) &&& (gI (sI h l0 10 ((gI h l0 10) - (1 : Int32))) v22 (gI (sI h l0 10 ((gI h l0 10) - (1 : Int32))) l0 10).toNatClampNeg))) fun h25 =>
(nm (l2 + (1 : Int32)) fun v28 =>
(k7 (v28, h25)))))))))))
set_option maxRecDepth 20000 in
theorem t_X10_isPredicateRow_82 (l0 : Nat) (l1 : Int32) (l2 : Int32) (h : Hp) (k7 : (Int32 × Hp) → Option (Int32 × Hp)) (hk7 : ∀ s : Int32 × Hp, Sm rvI g_X10_isPredicateRow 7 [.ref l0, .int l1, .int s.1, .null] [] s.2 (k7 s)) : Sm rvI g_X10_isPredicateRow 82 [.ref l0, .int l1, .int l2, .null] [] h (f_X10_isPredicateRow_82 k7 l0 l1 l2 h) := by
  unfold f_X10_isPredicateRow_82
  refine Sm.aload_n dX10_isPredicateRow_82 rfl rfl rfl ?_
  refine Sm.dup dX10_isPredicateRow_83 rfl rfl ?_
  refine Sm.ck (fun o18 => ?_)
  refine gf_X10_113 o18 dX10_isPredicateRow_84 rfl rfl ?_
  refine Sm.iconst dX10_isPredicateRow_87 ic_1 rfl ?_
  refine Sm.isub dX10_isPredicateRow_88 rfl ?_
  refine pf_X10_113 o18 dX10_isPredicateRow_89 rfl rfl ?_
  refine Sm.aload_n dX10_isPredicateRow_92 rfl rfl rfl ?_
  refine gf_X10_28 o18 dX10_isPredicateRow_93 rfl rfl (fun v19 => ?_)
  refine Sm.aload_n dX10_isPredicateRow_96 rfl rfl rfl ?_
  refine gf_X10_113 o18 dX10_isPredicateRow_97 rfl rfl ?_
  refine Sm.iconst dX10_isPredicateRow_100 ic_1 rfl ?_
  refine Sm.isub dX10_isPredicateRow_101 rfl ?_
  refine Sm.nm (LV := fun v20 => [.ref l0, .int l1, .int l2, .null]) (ST := fun v20 => [.int v20, .ref v19]) (fun v20 => ?_)
  refine Sm.dup2 dX10_isPredicateRow_102 rfl rfl rfl ?_
  refine Sm.ca (fun q21 => ?_)
  refine Sm.iald q21 dX10_isPredicateRow_103 rfl ?_
  refine Sm.aload_n dX10_isPredicateRow_104 rfl rfl rfl ?_
  refine gf_X10_28 o18 dX10_isPredicateRow_105 rfl rfl (fun v22 => ?_)
  refine Sm.aload_n dX10_isPredicateRow_108 rfl rfl rfl ?_
  refine gf_X10_113 o18 dX10_isPredicateRow_109 rfl rfl ?_
  refine Sm.ca (fun q23 => ?_)
  refine Sm.iald q23 dX10_isPredicateRow_112 rfl ?_
  refine Sm.iand dX10_isPredicateRow_113 rfl ?_
  refine Sm.ca (fun q24 => ?_)
  refine Sm.iast q24 dX10_isPredicateRow_114 rfl ?_
  refine Sm.nmH (fun h25 e26 e27 => ?_)
  refine Sm.goto (t := 166) dX10_isPredicateRow_115 (by decide) ?_
  refine Sm.iinc (lv' := [.ref l0, .int l1, .int (l2 + (1 : Int32)), .null]) dX10_isPredicateRow_166 rfl ic_1 rfl rfl ?_
  refine Sm.nm (LV := fun v28 => [.ref l0, .int l1, .int v28, .null]) (ST := fun v28 => []) (fun v28 => ?_)
  refine Sm.goto (t := 7) dX10_isPredicateRow_169 (by decide) ?_
  exact Sm.wk (hk7 (v28, h25)) ⟨Or.inr rfl, Or.inr rfl, Or.inr rfl, Or.inl rfl, trivial⟩
def f_X10_isPredicateRow_43 (k7 : (Int32 × Hp) → Option (Int32 × Hp)) (l0 : Nat) (l1 : Int32) (l2 : Int32) (s0 : Nat) (s1 : Int32) (s2 : Int32) (h : Hp) : Option (Int32 × Hp) :=
  (ck h s0 10
(bd (f_X10_waits s0 s1 s2 h) fun _ h45 =>
(nm (l2 + (1 : Int32)) fun v46 =>
(k7 (v46, h45)))))
set_option maxRecDepth 20000 in
theorem t_X10_isPredicateRow_43 (l0 : Nat) (l1 : Int32) (l2 : Int32) (s0 : Nat) (s1 : Int32) (s2 : Int32) (h : Hp) (k7 : (Int32 × Hp) → Option (Int32 × Hp)) (hk7 : ∀ s : Int32 × Hp, Sm rvI g_X10_isPredicateRow 7 [.ref l0, .int l1, .int s.1, .null] [] s.2 (k7 s)) : Sm rvI g_X10_isPredicateRow 43 [.ref l0, .int l1, .int l2, .null] [.int s2, .int s1, .ref s0] h (f_X10_isPredicateRow_43 k7 l0 l1 l2 s0 s1 s2 h) := by
  unfold f_X10_isPredicateRow_43
  refine Sm.ck (fun o44 => ?_)
  refine kc_X10_120 o44 dX10_isPredicateRow_43 rfl (Nat.le_of_ble_eq_true rfl) (Nat.le_of_ble_eq_true rfl) rfl (fun _ h45 => ?_)
  refine Sm.goto (t := 166) dX10_isPredicateRow_46 (by decide) ?_
  refine Sm.iinc (lv' := [.ref l0, .int l1, .int (l2 + (1 : Int32)), .null]) dX10_isPredicateRow_166 rfl ic_1 rfl rfl ?_
  refine Sm.nm (LV := fun v46 => [.ref l0, .int l1, .int v46, .null]) (ST := fun v46 => []) (fun v46 => ?_)
  refine Sm.goto (t := 7) dX10_isPredicateRow_169 (by decide) ?_
  exact Sm.wk (hk7 (v46, h45)) ⟨Or.inr rfl, Or.inr rfl, Or.inr rfl, Or.inl rfl, trivial⟩
def f_X10_isPredicateRow_7 (k7 : (Int32 × Hp) → Option (Int32 × Hp)) (l0 : Nat) (l1 : Int32) (l2 : Int32) (h : Hp) : Option (Int32 × Hp) :=
  (ck h l0 10
((gP h l0 0).bind fun v3 =>
(ca h v3 20 l1
(if (gI h v3 l1.toNatClampNeg) ≤ l2 then
((gP h l0 9).bind fun v6 =>
(ca h v6 20 (0 : Int32)
(if (gI h v6 (0 : Int32).toNatClampNeg) = (1 : Int32) then
(some ((1 : Int32), h))
else
(some ((0 : Int32), h)))))
else
(bd (f_X10_signOf l0 l1 l2 h) fun v9 h10 =>
(if (50 : Int32) ≤ v9 then
(if v9 = (52 : Int32) then
(ck h10 l0 10
((gP h10 l0 9).bind fun v14 =>
(ca h10 v14 20 ((gI h10 l0 10) - (1 : Int32))
(nm (l2 + (1 : Int32)) fun v16 =>
(k7 (v16, (sI h10 v14 ((gI h10 l0 10) - (1 : Int32)).toNatClampNeg (0 : Int32))))))))
else
(if v9 = (50 : Int32) then
(f_X10_isPredicateRow_82 k7 l0 l1 l2 h10)
else
(if v9 = (51 : Int32) then
(f_X10_isPredicateRow_82 k7 l0 l1 l2 h10)
else
(if v9 = (54 : Int32) then
(ck h10 l0 10
((gP (sI h10 l0 10 ((gI h10 l0 10) - (2 : Int32))) l0 9).bind fun v32 =>
((gP (sI h10 l0 10 ((gI h10 l0 10) - (2 : Int32))) l0 9).bind fun v33 =>
(ca (sI h10 l0 10 ((gI h10 l0 10) - (2 : Int32))) v33 20 (gI (sI h10 l0 10 ((gI h10 l0 10) - (2 : Int32))) l0 10)
((gP (sI h10 l0 10 ((gI h10 l0 10) - (2 : Int32))) l0 9).bind fun v35 =>
(ca (sI h10 l0 10 ((gI h10 l0 10) - (2 : Int32))) v35 20 ((gI (sI h10 l0 10 ((gI h10 l0 10) - (2 : Int32))) l0 10) + (1 : Int32))
(ca (sI h10 l0 10 ((gI h10 l0 10) - (2 : Int32))) v32 20 ((gI (sI h10 l0 10 ((gI h10 l0 10) - (2 : Int32))) l0 10) - (1 : Int32))
(nm (sI (sI h10 l0 10 ((gI h10 l0 10) - (2 : Int32))) v32 ((gI (sI h10 l0 10 ((gI h10 l0 10) - (2 : Int32))) l0 10) - (1 : Int32)).toNatClampNeg ((gI (sI h10 l0 10 ((gI h10 l0 10) - (2 : Int32))) v33 (gI (sI h10 l0 10 ((gI h10 l0 10) - (2 : Int32))) l0 10).toNatClampNeg) &&& (gI (sI h10 l0 10 ((gI h10 l0 10) - (2 : Int32))) v35 ((gI (sI h10 l0 10 ((gI h10 l0 10) - (2 : Int32))) l0 10) + (1 : Int32)).toNatClampNeg))) fun h38 =>
(nm (l2 + (1 : Int32)) fun v41 =>
(k7 (v41, h38)))))))))))
else
(nm (l2 + (1 : Int32)) fun v42 =>
(k7 (v42, h10)))))))
else
(if (30 : Int32) ≤ v9 then
(f_X10_isPredicateRow_43 k7 l0 l1 l2 l0 (0 : Int32) (0 : Int32) h10)
else
(f_X10_isPredicateRow_43 k7 l0 l1 l2 l0 (0 : Int32) (1 : Int32) h10))))))))
set_option maxRecDepth 20000 in
theorem t_X10_isPredicateRow_7 (l0 : Nat) (l1 : Int32) (l2 : Int32) (h : Hp) (k7 : (Int32 × Hp) → Option (Int32 × Hp)) (hk7 : ∀ s : Int32 × Hp, Sm rvI g_X10_isPredicateRow 7 [.ref l0, .int l1, .int s.1, .null] [] s.2 (k7 s)) : Sm rvI g_X10_isPredicateRow 7 [.ref l0, .int l1, .int l2, .null] [] h (f_X10_isPredicateRow_7 k7 l0 l1 l2 h) := by
  unfold f_X10_isPredicateRow_7
  refine Sm.iload_n dX10_isPredicateRow_7 rfl rfl rfl ?_
  refine Sm.aload_n dX10_isPredicateRow_8 rfl rfl rfl ?_
  refine Sm.ck (fun o2 => ?_)
  refine gf_X10_7 o2 dX10_isPredicateRow_9 rfl rfl (fun v3 => ?_)
  refine Sm.iload_n dX10_isPredicateRow_12 rfl rfl rfl ?_
  refine Sm.ca (fun q4 => ?_)
  refine Sm.iald q4 dX10_isPredicateRow_13 rfl ?_
  refine Sm.icmp_ge (t := 172) dX10_isPredicateRow_14 (by decide) rfl (fun b5 => ?_) (fun b5 => ?_)
  · refine Sm.aload_n dX10_isPredicateRow_172 rfl rfl rfl ?_
    refine gf_X10_28 o2 dX10_isPredicateRow_173 rfl rfl (fun v6 => ?_)
    refine Sm.iconst dX10_isPredicateRow_176 ic_0 rfl ?_
    refine Sm.ca (fun q7 => ?_)
    refine Sm.iald q7 dX10_isPredicateRow_177 rfl ?_
    refine Sm.iconst dX10_isPredicateRow_178 ic_1 rfl ?_
    refine Sm.icmp_ne (t := 186) dX10_isPredicateRow_179 (by decide) rfl (fun b8 => ?_) (fun b8 => ?_)
    · refine Sm.iconst dX10_isPredicateRow_182 ic_1 rfl ?_
      refine Sm.goto (t := 187) dX10_isPredicateRow_183 (by decide) ?_
      exact Sm.ret dX10_isPredicateRow_187 (Or.inr rfl) rfl
    · refine Sm.iconst dX10_isPredicateRow_186 ic_0 rfl ?_
      exact Sm.ret dX10_isPredicateRow_187 (Or.inl rfl) rfl
  · refine Sm.aload_n dX10_isPredicateRow_17 rfl rfl rfl ?_
    refine Sm.iload_n dX10_isPredicateRow_18 rfl rfl rfl ?_
    refine Sm.iload_n dX10_isPredicateRow_19 rfl rfl rfl ?_
    refine kc_X10_116 o2 dX10_isPredicateRow_20 rfl (Nat.le_of_ble_eq_true rfl) (Nat.le_of_ble_eq_true rfl) rfl (fun v9 h10 => ?_)
    refine Sm.istore_n (lv' := [.ref l0, .int l1, .int l2, .int v9]) dX10_isPredicateRow_23 rfl (Nat.le_of_ble_eq_true rfl) rfl rfl ?_
    refine Sm.iload_n dX10_isPredicateRow_24 rfl rfl rfl ?_
    refine Sm.bipush dX10_isPredicateRow_25 bp_50 rfl ?_
    refine Sm.icmp_ge (t := 49) dX10_isPredicateRow_27 (by decide) rfl (fun b11 => ?_) (fun b11 => ?_)
    · refine Sm.iload_n dX10_isPredicateRow_49 rfl rfl rfl ?_
      refine Sm.bipush dX10_isPredicateRow_50 bp_52 rfl ?_
      refine Sm.icmp_ne (t := 70) dX10_isPredicateRow_52 (by decide) rfl (fun b12 => ?_) (fun b12 => ?_)
      · refine Sm.aload_n dX10_isPredicateRow_55 rfl rfl rfl ?_
        refine Sm.ck (fun o13 => ?_)
        refine gf_X10_28 o13 dX10_isPredicateRow_56 rfl rfl (fun v14 => ?_)
        refine Sm.aload_n dX10_isPredicateRow_59 rfl rfl rfl ?_
        refine gf_X10_113 o13 dX10_isPredicateRow_60 rfl rfl ?_
        refine Sm.iconst dX10_isPredicateRow_63 ic_1 rfl ?_
        refine Sm.isub dX10_isPredicateRow_64 rfl ?_
        refine Sm.iconst dX10_isPredicateRow_65 ic_0 rfl ?_
        refine Sm.ca (fun q15 => ?_)
        refine Sm.iast q15 dX10_isPredicateRow_66 rfl ?_
        refine Sm.goto (t := 166) dX10_isPredicateRow_67 (by decide) ?_
        refine Sm.iinc (lv' := [.ref l0, .int l1, .int (l2 + (1 : Int32)), .int v9]) dX10_isPredicateRow_166 rfl ic_1 rfl rfl ?_
        refine Sm.nm (LV := fun v16 => [.ref l0, .int l1, .int v16, .int v9]) (ST := fun v16 => []) (fun v16 => ?_)
        refine Sm.goto (t := 7) dX10_isPredicateRow_169 (by decide) ?_
        exact Sm.wk (hk7 (v16, (sI h10 v14 ((gI h10 l0 10) - (1 : Int32)).toNatClampNeg (0 : Int32)))) ⟨Or.inr rfl, Or.inr rfl, Or.inr rfl, Or.inl rfl, trivial⟩
      · refine Sm.iload_n dX10_isPredicateRow_70 rfl rfl rfl ?_
        refine Sm.bipush dX10_isPredicateRow_71 bp_50 rfl ?_
        refine Sm.icmp_eq (t := 82) dX10_isPredicateRow_73 (by decide) rfl (fun b17 => ?_) (fun b17 => ?_)
        · exact Sm.wk (t_X10_isPredicateRow_82 l0 l1 l2 h10 k7 hk7) ⟨Or.inr rfl, Or.inr rfl, Or.inr rfl, Or.inl rfl, trivial⟩
        · refine Sm.iload_n dX10_isPredicateRow_76 rfl rfl rfl ?_
          refine Sm.bipush dX10_isPredicateRow_77 bp_51 rfl ?_
          refine Sm.icmp_ne (t := 118) dX10_isPredicateRow_79 (by decide) rfl (fun b29 => ?_) (fun b29 => ?_)
          · exact Sm.wk (t_X10_isPredicateRow_82 l0 l1 l2 h10 k7 hk7) ⟨Or.inr rfl, Or.inr rfl, Or.inr rfl, Or.inl rfl, trivial⟩
          · refine Sm.iload_n dX10_isPredicateRow_118 rfl rfl rfl ?_
            refine Sm.bipush dX10_isPredicateRow_119 bp_54 rfl ?_
            refine Sm.icmp_ne (t := 166) dX10_isPredicateRow_121 (by decide) rfl (fun b30 => ?_) (fun b30 => ?_)
            · refine Sm.aload_n dX10_isPredicateRow_124 rfl rfl rfl ?_
              refine Sm.dup dX10_isPredicateRow_125 rfl rfl ?_
              refine Sm.ck (fun o31 => ?_)
              refine gf_X10_113 o31 dX10_isPredicateRow_126 rfl rfl ?_
              refine Sm.iconst dX10_isPredicateRow_129 ic_2 rfl ?_
              refine Sm.isub dX10_isPredicateRow_130 rfl ?_
              refine pf_X10_113 o31 dX10_isPredicateRow_131 rfl rfl ?_
              refine Sm.aload_n dX10_isPredicateRow_134 rfl rfl rfl ?_
              refine gf_X10_28 o31 dX10_isPredicateRow_135 rfl rfl (fun v32 => ?_)
              refine Sm.aload_n dX10_isPredicateRow_138 rfl rfl rfl ?_
              refine gf_X10_113 o31 dX10_isPredicateRow_139 rfl rfl ?_
              refine Sm.iconst dX10_isPredicateRow_142 ic_1 rfl ?_
              refine Sm.isub dX10_isPredicateRow_143 rfl ?_
              refine Sm.aload_n dX10_isPredicateRow_144 rfl rfl rfl ?_
              refine gf_X10_28 o31 dX10_isPredicateRow_145 rfl rfl (fun v33 => ?_)
              refine Sm.aload_n dX10_isPredicateRow_148 rfl rfl rfl ?_
              refine gf_X10_113 o31 dX10_isPredicateRow_149 rfl rfl ?_
              refine Sm.ca (fun q34 => ?_)
              refine Sm.iald q34 dX10_isPredicateRow_152 rfl ?_
              refine Sm.aload_n dX10_isPredicateRow_153 rfl rfl rfl ?_
              refine gf_X10_28 o31 dX10_isPredicateRow_154 rfl rfl (fun v35 => ?_)
              refine Sm.aload_n dX10_isPredicateRow_157 rfl rfl rfl ?_
              refine gf_X10_113 o31 dX10_isPredicateRow_158 rfl rfl ?_
              refine Sm.iconst dX10_isPredicateRow_161 ic_1 rfl ?_
              refine Sm.iadd dX10_isPredicateRow_162 rfl ?_
              refine Sm.ca (fun q36 => ?_)
              refine Sm.iald q36 dX10_isPredicateRow_163 rfl ?_
              refine Sm.iand dX10_isPredicateRow_164 rfl ?_
              refine Sm.ca (fun q37 => ?_)
              refine Sm.iast q37 dX10_isPredicateRow_165 rfl ?_
              refine Sm.nmH (fun h38 e39 e40 => ?_)
              refine Sm.iinc (lv' := [.ref l0, .int l1, .int (l2 + (1 : Int32)), .int v9]) dX10_isPredicateRow_166 rfl ic_1 rfl rfl ?_
              refine Sm.nm (LV := fun v41 => [.ref l0, .int l1, .int v41, .int v9]) (ST := fun v41 => []) (fun v41 => ?_)
              refine Sm.goto (t := 7) dX10_isPredicateRow_169 (by decide) ?_
              exact Sm.wk (hk7 (v41, h38)) ⟨Or.inr rfl, Or.inr rfl, Or.inr rfl, Or.inl rfl, trivial⟩
            · refine Sm.iinc (lv' := [.ref l0, .int l1, .int (l2 + (1 : Int32)), .int v9]) dX10_isPredicateRow_166 rfl ic_1 rfl rfl ?_
              refine Sm.nm (LV := fun v42 => [.ref l0, .int l1, .int v42, .int v9]) (ST := fun v42 => []) (fun v42 => ?_)
              refine Sm.goto (t := 7) dX10_isPredicateRow_169 (by decide) ?_
              exact Sm.wk (hk7 (v42, h10)) ⟨Or.inr rfl, Or.inr rfl, Or.inr rfl, Or.inl rfl, trivial⟩
    · refine Sm.aload_n dX10_isPredicateRow_30 rfl rfl rfl ?_
      refine Sm.iconst dX10_isPredicateRow_31 ic_0 rfl ?_
      refine Sm.iload_n dX10_isPredicateRow_32 rfl rfl rfl ?_
      refine Sm.bipush dX10_isPredicateRow_33 bp_30 rfl ?_
      refine Sm.icmp_ge (t := 42) dX10_isPredicateRow_35 (by decide) rfl (fun b43 => ?_) (fun b43 => ?_)
      · refine Sm.iconst dX10_isPredicateRow_42 ic_0 rfl ?_
        exact Sm.wk (t_X10_isPredicateRow_43 l0 l1 l2 l0 (0 : Int32) (0 : Int32) h10 k7 hk7) ⟨Or.inr rfl, Or.inr rfl, Or.inr rfl, Or.inl rfl, trivial⟩
      · refine Sm.iconst dX10_isPredicateRow_38 ic_1 rfl ?_
        refine Sm.goto (t := 43) dX10_isPredicateRow_39 (by decide) ?_
        exact Sm.wk (t_X10_isPredicateRow_43 l0 l1 l2 l0 (0 : Int32) (1 : Int32) h10 k7 hk7) ⟨Or.inr rfl, Or.inr rfl, Or.inr rfl, Or.inl rfl, trivial⟩
def f_X10_isPredicateRow (l0 : Nat) (l1 : Int32) (h : Hp) : Option (Int32 × Hp) :=
  (ck h l0 10
(loopN (fun k s => f_X10_isPredicateRow_7 k l0 l1 s.1 s.2) 5000 ((0 : Int32), (sI h l0 10 (0 : Int32)))))
set_option maxRecDepth 20000 in
theorem t_X10_isPredicateRow (l0 : Nat) (l1 : Int32) (h : Hp) : Sm rvI g_X10_isPredicateRow 0 (ent 4 [.ref l0, .int l1]) [] h (f_X10_isPredicateRow l0 l1 h) := by
  show Sm rvI g_X10_isPredicateRow 0 [.ref l0, .int l1, .null, .null] [] h _
  unfold f_X10_isPredicateRow
  refine Sm.aload_n dX10_isPredicateRow_0 rfl rfl rfl ?_
  refine Sm.iconst dX10_isPredicateRow_1 ic_0 rfl ?_
  refine Sm.ck (fun o1 => ?_)
  refine pf_X10_113 o1 dX10_isPredicateRow_2 rfl rfl ?_
  refine Sm.iconst dX10_isPredicateRow_5 ic_0 rfl ?_
  refine Sm.istore_n (lv' := [.ref l0, .int l1, .int (0 : Int32), .null]) dX10_isPredicateRow_6 rfl (Nat.le_of_ble_eq_true rfl) rfl rfl ?_
  exact Sm.wk (Sm.loop (σ := Int32 × Hp) (LV := fun s => [.ref l0, .int l1, .int s.1, .null]) (HH := fun s => s.2) (fun k hk s => t_X10_isPredicateRow_7 l0 l1 s.1 s.2 k hk) 5000 ((0 : Int32), (sI h l0 10 (0 : Int32)))) ⟨Or.inr rfl, Or.inr rfl, Or.inr rfl, Or.inl rfl, trivial⟩
set_option maxRecDepth 20000 in
theorem kc_X10_166 {ρ : Type} {rv : ρ → Option Value} {G : Gx} {pc q : Nat} {lv st : List Value} {h : Hp} {a : Nat} {x1 : Int32} {e : Int32 → Hp → Option (ρ × Hp)} (hk : isO h a 10) (d : decode G.2.1 pc = .ok (.invokevirtual 166, 3)) (ho : G.1.cls = RX10) (hdep : (g_X10_isPredicateRow).2.2.2.2 < G.2.2.2.2) (hcat : catS st ≤ 8) (hq : pc + 3 = q) (k : ∀ r h1, Sm rv G q lv (.int r :: st) h1 (e r h1)) : Sm rv G pc lv (.int x1 :: .ref a :: st) h (bd (f_X10_isPredicateRow a x1 h) e) :=
  Sm.callV (rv' := rvI) (args := [.int x1]) (n := 1) (t_X10_isPredicateRow a x1 h) hk (by decide) (r := (RX10, TX10, 43)) rfl rfl ho mw_1054 mw_1056 mp_52 mw_11 mw_1057 ⟨⟨by decide, rfl, hdep, Nat.le_of_ble_eq_true rfl⟩, Nat.le_of_ble_eq_true rfl, rfl, ⟨by decide, by decide⟩, hcat⟩ (by decide +kernel) (by intro v hv; simp only [List.mem_cons, List.not_mem_nil, or_false] at hv; rcases hv with rfl <;> intro x hx <;> cases hx) d hq k rfl
abbrev g_X10_keeps : Gx := (yX10_keeps, cX10_keeps, 3, (Option.some FieldType.int), 1)
def f_X10_keeps_16 (k16 : (Int32 × Hp) → Option (Int32 × Hp)) (l0 : Nat) (l1 : Int32) (l2 : Int32) (h : Hp) : Option (Int32 × Hp) :=
  (ck h l0 10
(if (gI h l0 7) ≤ l2 then
(some ((gI h l0 7), h))
else
((gP h l0 0).bind fun v8 =>
((gP h l0 6).bind fun v9 =>
(ca h v9 20 l2
(ca h v8 20 (((4 : Int32) + ((60 : Int32) * l1)) + l2)
(nm (l2 + (1 : Int32)) fun v12 =>
(k16 (v12, (sI h v8 (((4 : Int32) + ((60 : Int32) * l1)) + l2).toNatClampNeg (gI h v9 l2.toNatClampNeg)))))))))))
set_option maxRecDepth 20000 in
theorem t_X10_keeps_16 (l0 : Nat) (l1 : Int32) (l2 : Int32) (h : Hp) (k16 : (Int32 × Hp) → Option (Int32 × Hp)) (hk16 : ∀ s : Int32 × Hp, Sm rvI g_X10_keeps 16 [.ref l0, .int l1, .int s.1] [] s.2 (k16 s)) : Sm rvI g_X10_keeps 16 [.ref l0, .int l1, .int l2] [] h (f_X10_keeps_16 k16 l0 l1 l2 h) := by
  unfold f_X10_keeps_16
  refine Sm.iload_n dX10_keeps_16 rfl rfl rfl ?_
  refine Sm.aload_n dX10_keeps_17 rfl rfl rfl ?_
  refine Sm.ck (fun o6 => ?_)
  refine gf_X10_110 o6 dX10_keeps_18 rfl rfl ?_
  refine Sm.icmp_ge (t := 49) dX10_keeps_21 (by decide) rfl (fun b7 => ?_) (fun b7 => ?_)
  · refine Sm.aload_n dX10_keeps_49 rfl rfl rfl ?_
    refine gf_X10_110 o6 dX10_keeps_50 rfl rfl ?_
    exact Sm.ret dX10_keeps_53 trivial rfl
  · refine Sm.aload_n dX10_keeps_24 rfl rfl rfl ?_
    refine gf_X10_7 o6 dX10_keeps_25 rfl rfl (fun v8 => ?_)
    refine Sm.iconst dX10_keeps_28 ic_4 rfl ?_
    refine Sm.bipush dX10_keeps_29 bp_60 rfl ?_
    refine Sm.iload_n dX10_keeps_31 rfl rfl rfl ?_
    refine Sm.imul dX10_keeps_32 rfl ?_
    refine Sm.iadd dX10_keeps_33 rfl ?_
    refine Sm.iload_n dX10_keeps_34 rfl rfl rfl ?_
    refine Sm.iadd dX10_keeps_35 rfl ?_
    refine Sm.aload_n dX10_keeps_36 rfl rfl rfl ?_
    refine gf_X10_22 o6 dX10_keeps_37 rfl rfl (fun v9 => ?_)
    refine Sm.iload_n dX10_keeps_40 rfl rfl rfl ?_
    refine Sm.ca (fun q10 => ?_)
    refine Sm.iald q10 dX10_keeps_41 rfl ?_
    refine Sm.ca (fun q11 => ?_)
    refine Sm.iast q11 dX10_keeps_42 rfl ?_
    refine Sm.iinc (lv' := [.ref l0, .int l1, .int (l2 + (1 : Int32))]) dX10_keeps_43 rfl ic_1 rfl rfl ?_
    refine Sm.nm (LV := fun v12 => [.ref l0, .int l1, .int v12]) (ST := fun v12 => []) (fun v12 => ?_)
    refine Sm.goto (t := 16) dX10_keeps_46 (by decide) ?_
    exact Sm.wk (hk16 (v12, (sI h v8 (((4 : Int32) + ((60 : Int32) * l1)) + l2).toNatClampNeg (gI h v9 l2.toNatClampNeg)))) ⟨Or.inr rfl, Or.inr rfl, Or.inr rfl, trivial⟩
def f_X10_keeps (l0 : Nat) (l1 : Int32) (h : Hp) : Option (Int32 × Hp) :=
  (ck h l0 10
(bd (f_X10_saves l0 h) fun _ h2 =>
(ck h2 l0 10
((gP h2 l0 0).bind fun v4 =>
(ca h2 v4 20 l1
(loopN (fun k s => f_X10_keeps_16 k l0 l1 s.1 s.2) 5000 ((0 : Int32), (sI h2 v4 l1.toNatClampNeg (gI h2 l0 7)))))))))
set_option maxRecDepth 20000 in
theorem t_X10_keeps (l0 : Nat) (l1 : Int32) (h : Hp) : Sm rvI g_X10_keeps 0 (ent 3 [.ref l0, .int l1]) [] h (f_X10_keeps l0 l1 h) := by
  show Sm rvI g_X10_keeps 0 [.ref l0, .int l1, .null] [] h _
  unfold f_X10_keeps
  refine Sm.aload_n dX10_keeps_0 rfl rfl rfl ?_
  refine Sm.ck (fun o1 => ?_)
  refine kc_X10_124 o1 dX10_keeps_1 rfl (Nat.le_of_ble_eq_true rfl) (Nat.le_of_ble_eq_true rfl) rfl (fun _ h2 => ?_)
  refine Sm.aload_n dX10_keeps_4 rfl rfl rfl ?_
  refine Sm.ck (fun o3 => ?_)
  refine gf_X10_7 o3 dX10_keeps_5 rfl rfl (fun v4 => ?_)
  refine Sm.iload_n dX10_keeps_8 rfl rfl rfl ?_
  refine Sm.aload_n dX10_keeps_9 rfl rfl rfl ?_
  refine gf_X10_110 o3 dX10_keeps_10 rfl rfl ?_
  refine Sm.ca (fun q5 => ?_)
  refine Sm.iast q5 dX10_keeps_13 rfl ?_
  refine Sm.iconst dX10_keeps_14 ic_0 rfl ?_
  refine Sm.istore_n (lv' := [.ref l0, .int l1, .int (0 : Int32)]) dX10_keeps_15 rfl (Nat.le_of_ble_eq_true rfl) rfl rfl ?_
  exact Sm.wk (Sm.loop (σ := Int32 × Hp) (LV := fun s => [.ref l0, .int l1, .int s.1]) (HH := fun s => s.2) (fun k hk s => t_X10_keeps_16 l0 l1 s.1 s.2 k hk) 5000 ((0 : Int32), (sI h2 v4 l1.toNatClampNeg (gI h2 l0 7)))) ⟨Or.inr rfl, Or.inr rfl, Or.inr rfl, trivial⟩
set_option maxRecDepth 20000 in
theorem kc_X10_185 {ρ : Type} {rv : ρ → Option Value} {G : Gx} {pc q : Nat} {lv st : List Value} {h : Hp} {a : Nat} {x1 : Int32} {e : Int32 → Hp → Option (ρ × Hp)} (hk : isO h a 10) (d : decode G.2.1 pc = .ok (.invokevirtual 185, 3)) (ho : G.1.cls = RX10) (hdep : (g_X10_keeps).2.2.2.2 < G.2.2.2.2) (hcat : catS st ≤ 8) (hq : pc + 3 = q) (k : ∀ r h1, Sm rv G q lv (.int r :: st) h1 (e r h1)) : Sm rv G pc lv (.int x1 :: .ref a :: st) h (bd (f_X10_keeps a x1 h) e) :=
  Sm.callV (rv' := rvI) (args := [.int x1]) (n := 1) (t_X10_keeps a x1 h) hk (by decide) (r := (RX10, TX10, 43)) rfl rfl ho mw_1110 mw_1112 mp_66 mw_11 mw_1113 ⟨⟨by decide, rfl, hdep, Nat.le_of_ble_eq_true rfl⟩, Nat.le_of_ble_eq_true rfl, rfl, ⟨by decide, by decide⟩, hcat⟩ (by decide +kernel) (by intro v hv; simp only [List.mem_cons, List.not_mem_nil, or_false] at hv; rcases hv with rfl <;> intro x hx <;> cases hx) d hq k rfl
abbrev g_X10_copies : Gx := (yX10_copies, cX10_copies, 3, (Option.none : Option FieldType), 1)
def f_X10_copies_2 (k2 : (Int32 × Hp) → Option (Unit × Hp)) (l0 : Nat) (l1 : Int32) (l2 : Int32) (h : Hp) : Option (Unit × Hp) :=
  (ck h l0 10
((gP h l0 0).bind fun v2 =>
(ca h v2 20 l1
(if (gI h v2 l1.toNatClampNeg) ≤ l2 then
(some ((), h))
else
(bd (f_X10_signOf l0 l1 l2 h) fun v5 h6 =>
(ck h6 l0 10
(bd (f_X10_makes l0 v5 h6) fun _ h8 =>
(nm (l2 + (1 : Int32)) fun v9 =>
(k2 (v9, h8))))))))))
set_option maxRecDepth 20000 in
theorem t_X10_copies_2 (l0 : Nat) (l1 : Int32) (l2 : Int32) (h : Hp) (k2 : (Int32 × Hp) → Option (Unit × Hp)) (hk2 : ∀ s : Int32 × Hp, Sm rvV g_X10_copies 2 [.ref l0, .int l1, .int s.1] [] s.2 (k2 s)) : Sm rvV g_X10_copies 2 [.ref l0, .int l1, .int l2] [] h (f_X10_copies_2 k2 l0 l1 l2 h) := by
  unfold f_X10_copies_2
  refine Sm.iload_n dX10_copies_2 rfl rfl rfl ?_
  refine Sm.aload_n dX10_copies_3 rfl rfl rfl ?_
  refine Sm.ck (fun o1 => ?_)
  refine gf_X10_7 o1 dX10_copies_4 rfl rfl (fun v2 => ?_)
  refine Sm.iload_n dX10_copies_7 rfl rfl rfl ?_
  refine Sm.ca (fun q3 => ?_)
  refine Sm.iald q3 dX10_copies_8 rfl ?_
  refine Sm.icmp_ge (t := 28) dX10_copies_9 (by decide) rfl (fun b4 => ?_) (fun b4 => ?_)
  · exact Sm.ret (r := ()) dX10_copies_28 trivial rfl
  · refine Sm.aload_n dX10_copies_12 rfl rfl rfl ?_
    refine Sm.aload_n dX10_copies_13 rfl rfl rfl ?_
    refine Sm.iload_n dX10_copies_14 rfl rfl rfl ?_
    refine Sm.iload_n dX10_copies_15 rfl rfl rfl ?_
    refine kc_X10_116 o1 dX10_copies_16 rfl (Nat.le_of_ble_eq_true rfl) (Nat.le_of_ble_eq_true rfl) rfl (fun v5 h6 => ?_)
    refine Sm.ck (fun o7 => ?_)
    refine kc_X10_127 o7 dX10_copies_19 rfl (Nat.le_of_ble_eq_true rfl) (Nat.le_of_ble_eq_true rfl) rfl (fun _ h8 => ?_)
    refine Sm.iinc (lv' := [.ref l0, .int l1, .int (l2 + (1 : Int32))]) dX10_copies_22 rfl ic_1 rfl rfl ?_
    refine Sm.nm (LV := fun v9 => [.ref l0, .int l1, .int v9]) (ST := fun v9 => []) (fun v9 => ?_)
    refine Sm.goto (t := 2) dX10_copies_25 (by decide) ?_
    exact Sm.wk (hk2 (v9, h8)) ⟨Or.inr rfl, Or.inr rfl, Or.inr rfl, trivial⟩
def f_X10_copies (l0 : Nat) (l1 : Int32) (h : Hp) : Option (Unit × Hp) :=
  (loopN (fun k s => f_X10_copies_2 k l0 l1 s.1 s.2) 5000 ((0 : Int32), h))
set_option maxRecDepth 20000 in
theorem t_X10_copies (l0 : Nat) (l1 : Int32) (h : Hp) : Sm rvV g_X10_copies 0 (ent 3 [.ref l0, .int l1]) [] h (f_X10_copies l0 l1 h) := by
  show Sm rvV g_X10_copies 0 [.ref l0, .int l1, .null] [] h _
  unfold f_X10_copies
  refine Sm.iconst dX10_copies_0 ic_0 rfl ?_
  refine Sm.istore_n (lv' := [.ref l0, .int l1, .int (0 : Int32)]) dX10_copies_1 rfl (Nat.le_of_ble_eq_true rfl) rfl rfl ?_
  exact Sm.wk (Sm.loop (σ := Int32 × Hp) (LV := fun s => [.ref l0, .int l1, .int s.1]) (HH := fun s => s.2) (fun k hk s => t_X10_copies_2 l0 l1 s.1 s.2 k hk) 5000 ((0 : Int32), h)) ⟨Or.inr rfl, Or.inr rfl, Or.inr rfl, trivial⟩
set_option maxRecDepth 20000 in
theorem kc_X10_149 {ρ : Type} {rv : ρ → Option Value} {G : Gx} {pc q : Nat} {lv st : List Value} {h : Hp} {a : Nat} {x1 : Int32} {e : Unit → Hp → Option (ρ × Hp)} (hk : isO h a 10) (d : decode G.2.1 pc = .ok (.invokevirtual 149, 3)) (ho : G.1.cls = RX10) (hdep : (g_X10_copies).2.2.2.2 < G.2.2.2.2) (hcat : catS st ≤ 8) (hq : pc + 3 = q) (k : ∀ r h1, Sm rv G q lv (st) h1 (e r h1)) : Sm rv G pc lv (.int x1 :: .ref a :: st) h (bd (f_X10_copies a x1 h) e) :=
  Sm.callV (rv' := rvV) (args := [.int x1]) (n := 1) (t_X10_copies a x1 h) hk (by decide) (r := (RX10, TX10, 43)) rfl rfl ho mw_1086 mw_1088 mp_60 mw_11 mw_1089 ⟨⟨by decide, rfl, hdep, Nat.le_of_ble_eq_true rfl⟩, Nat.le_of_ble_eq_true rfl, rfl, ⟨by decide, by decide⟩, hcat⟩ (by decide +kernel) (by intro v hv; simp only [List.mem_cons, List.not_mem_nil, or_false] at hv; rcases hv with rfl <;> intro x hx <;> cases hx) d hq k rfl
abbrev g_X10_append : Gx := (yX10_append, cX10_append, 2, (Option.some FieldType.int), 1)
def f_X10_append (l0 : Nat) (l1 : Int32) (h : Hp) : Option (Int32 × Hp) :=
  (bd (f_X10_within l1 (0 : Int32) (127 : Int32) h) fun v1 h2 =>
(if v1 = 0 then
(ck h2 l0 10
(bd (f_X10_fails l0 (-2 : Int32) h2) fun v5 h6 =>
(some (v5, h6))))
else
(ck h2 l0 10
(if (gI h2 l0 5) = (150 : Int32) then
(bd (f_X10_fails l0 (-5 : Int32) h2) fun v9 h10 =>
(some (v9, h10)))
else
((gP h2 l0 4).bind fun v11 =>
(ca h2 v11 20 (gI h2 l0 5)
(nm (sI (sI h2 v11 (gI h2 l0 5).toNatClampNeg l1) l0 5 ((gI (sI h2 v11 (gI h2 l0 5).toNatClampNeg l1) l0 5) + (1 : Int32))) fun h13 =>
(some ((gI h13 l0 5), h13)))))))))
set_option maxRecDepth 20000 in
theorem t_X10_append (l0 : Nat) (l1 : Int32) (h : Hp) : Sm rvI g_X10_append 0 (ent 2 [.ref l0, .int l1]) [] h (f_X10_append l0 l1 h) := by
  show Sm rvI g_X10_append 0 [.ref l0, .int l1] [] h _
  unfold f_X10_append
  refine Sm.iload_n dX10_append_0 rfl rfl rfl ?_
  refine Sm.iconst dX10_append_1 ic_0 rfl ?_
  refine Sm.bipush dX10_append_2 bp_127 rfl ?_
  refine kc_X10_98 dX10_append_4 rfl (Nat.le_of_ble_eq_true rfl) (Nat.le_of_ble_eq_true rfl) rfl (fun v1 h2 => ?_)
  refine Sm.if_ne (t := 17) dX10_append_7 (by decide) rfl (fun b3 => ?_) (fun b3 => ?_)
  · refine Sm.aload_n dX10_append_10 rfl rfl rfl ?_
    refine Sm.bipush dX10_append_11 bp_m2 rfl ?_
    refine Sm.ck (fun o4 => ?_)
    refine kc_X10_106 o4 dX10_append_13 rfl (Nat.le_of_ble_eq_true rfl) (Nat.le_of_ble_eq_true rfl) rfl (fun v5 h6 => ?_)
    exact Sm.ret dX10_append_16 trivial rfl
  · refine Sm.aload_n dX10_append_17 rfl rfl rfl ?_
    refine Sm.ck (fun o7 => ?_)
    refine gf_X10_131 o7 dX10_append_18 rfl rfl ?_
    refine Sm.sipush dX10_append_21 sp_150 rfl ?_
    refine Sm.icmp_ne (t := 34) dX10_append_24 (by decide) rfl (fun b8 => ?_) (fun b8 => ?_)
    · refine Sm.aload_n dX10_append_27 rfl rfl rfl ?_
      refine Sm.bipush dX10_append_28 bp_m5 rfl ?_
      refine kc_X10_106 o7 dX10_append_30 rfl (Nat.le_of_ble_eq_true rfl) (Nat.le_of_ble_eq_true rfl) rfl (fun v9 h10 => ?_)
      exact Sm.ret dX10_append_33 trivial rfl
    · refine Sm.aload_n dX10_append_34 rfl rfl rfl ?_
      refine gf_X10_19 o7 dX10_append_35 rfl rfl (fun v11 => ?_)
      refine Sm.aload_n dX10_append_38 rfl rfl rfl ?_
      refine gf_X10_131 o7 dX10_append_39 rfl rfl ?_
      refine Sm.iload_n dX10_append_42 rfl rfl rfl ?_
      refine Sm.ca (fun q12 => ?_)
      refine Sm.iast q12 dX10_append_43 rfl ?_
      refine Sm.aload_n dX10_append_44 rfl rfl rfl ?_
      refine Sm.dup dX10_append_45 rfl rfl ?_
      refine gf_X10_131 o7 dX10_append_46 rfl rfl ?_
      refine Sm.iconst dX10_append_49 ic_1 rfl ?_
      refine Sm.iadd dX10_append_50 rfl ?_
      refine pf_X10_131 o7 dX10_append_51 rfl rfl ?_
      refine Sm.nmH (fun h13 e14 e15 => ?_)
      refine Sm.aload_n dX10_append_54 rfl rfl rfl ?_
      refine gf_X10_131 (isO.tr e14 e15 o7) dX10_append_55 rfl rfl ?_
      exact Sm.ret dX10_append_58 trivial rfl
set_option maxRecDepth 20000 in
theorem kc_L_17 {ρ : Type} {rv : ρ → Option Value} {G : Gx} {pc q : Nat} {lv st : List Value} {h : Hp} {a : Nat} {x1 : Int32} {e : Int32 → Hp → Option (ρ × Hp)} (hk : isO h a 10) (d : decode G.2.1 pc = .ok (.invokevirtual 17, 3)) (ho : G.1.cls = RL) (hdep : (g_X10_append).2.2.2.2 < G.2.2.2.2) (hcat : catS st ≤ 8) (hq : pc + 3 = q) (k : ∀ r h1, Sm rv G q lv (.int r :: st) h1 (e r h1)) : Sm rv G pc lv (.int x1 :: .ref a :: st) h (bd (f_X10_append a x1 h) e) :=
  Sm.callV (rv' := rvI) (args := [.int x1]) (n := 1) (t_X10_append a x1 h) hk (by decide) (r := (RX10, TX10, 43)) rfl rfl ho mw_1032 mw_1033 mw_1034 mw_11 mw_1035 ⟨⟨by decide, rfl, hdep, Nat.le_of_ble_eq_true rfl⟩, Nat.le_of_ble_eq_true rfl, rfl, ⟨by decide, by decide⟩, hcat⟩ (by decide +kernel) (by intro v hv; simp only [List.mem_cons, List.not_mem_nil, or_false] at hv; rcases hv with rfl <;> intro x hx <;> cases hx) d hq k rfl
abbrev g_X10_clearText : Gx := (yX10_clearText, cX10_clearText, 2, (Option.some FieldType.int), 0)
def f_X10_clearText (l0 : Nat) (h : Hp) : Option (Int32 × Hp) :=
  (ck h l0 10
(nm (gI h l0 5) fun v2 =>
(some (v2, (sI h l0 5 (0 : Int32))))))
set_option maxRecDepth 20000 in
theorem t_X10_clearText (l0 : Nat) (h : Hp) : Sm rvI g_X10_clearText 0 (ent 2 [.ref l0]) [] h (f_X10_clearText l0 h) := by
  show Sm rvI g_X10_clearText 0 [.ref l0, .null] [] h _
  unfold f_X10_clearText
  refine Sm.aload_n dX10_clearText_0 rfl rfl rfl ?_
  refine Sm.ck (fun o1 => ?_)
  refine gf_X10_131 o1 dX10_clearText_1 rfl rfl ?_
  refine Sm.nm (LV := fun v2 => [.ref l0, .null]) (ST := fun v2 => [.int v2]) (fun v2 => ?_)
  refine Sm.istore_n (lv' := [.ref l0, .int v2]) dX10_clearText_4 rfl (Nat.le_of_ble_eq_true rfl) rfl rfl ?_
  refine Sm.aload_n dX10_clearText_5 rfl rfl rfl ?_
  refine Sm.iconst dX10_clearText_6 ic_0 rfl ?_
  refine pf_X10_131 o1 dX10_clearText_7 rfl rfl ?_
  refine Sm.iload_n dX10_clearText_10 rfl rfl rfl ?_
  exact Sm.ret dX10_clearText_11 trivial rfl
set_option maxRecDepth 20000 in
theorem kc_L_22 {ρ : Type} {rv : ρ → Option Value} {G : Gx} {pc q : Nat} {lv st : List Value} {h : Hp} {a : Nat} {e : Int32 → Hp → Option (ρ × Hp)} (hk : isO h a 10) (d : decode G.2.1 pc = .ok (.invokevirtual 22, 3)) (ho : G.1.cls = RL) (hdep : (g_X10_clearText).2.2.2.2 < G.2.2.2.2) (hcat : catS st ≤ 8) (hq : pc + 3 = q) (k : ∀ r h1, Sm rv G q lv (.int r :: st) h1 (e r h1)) : Sm rv G pc lv (.ref a :: st) h (bd (f_X10_clearText a h) e) :=
  Sm.callV (rv' := rvI) (args := []) (n := 0) (t_X10_clearText a h) hk (by decide) (r := (RX10, TX10, 43)) rfl rfl ho mw_1039 mw_1040 mw_1041 mw_11 mw_1042 ⟨⟨by decide, rfl, hdep, Nat.le_of_ble_eq_true rfl⟩, Nat.le_of_ble_eq_true rfl, rfl, ⟨by decide, by decide⟩, hcat⟩ (by decide +kernel) (fun v hv => by cases hv) d hq k rfl
abbrev g_X10_byteAt : Gx := (yX10_byteAt, cX10_byteAt, 2, (Option.some FieldType.int), 0)
def f_X10_byteAt (l0 : Nat) (l1 : Int32) (h : Hp) : Option (Int32 × Hp) :=
  (ck h l0 10
(if (gI h l0 5) ≤ l1 then
(some ((-1 : Int32), h))
else
((gP h l0 4).bind fun v3 =>
(ca h v3 20 l1
(some ((gI h v3 l1.toNatClampNeg), h))))))
set_option maxRecDepth 20000 in
theorem t_X10_byteAt (l0 : Nat) (l1 : Int32) (h : Hp) : Sm rvI g_X10_byteAt 0 (ent 2 [.ref l0, .int l1]) [] h (f_X10_byteAt l0 l1 h) := by
  show Sm rvI g_X10_byteAt 0 [.ref l0, .int l1] [] h _
  unfold f_X10_byteAt
  refine Sm.iload_n dX10_byteAt_0 rfl rfl rfl ?_
  refine Sm.aload_n dX10_byteAt_1 rfl rfl rfl ?_
  refine Sm.ck (fun o1 => ?_)
  refine gf_X10_131 o1 dX10_byteAt_2 rfl rfl ?_
  refine Sm.icmp_ge (t := 17) dX10_byteAt_5 (by decide) rfl (fun b2 => ?_) (fun b2 => ?_)
  · refine Sm.iconst dX10_byteAt_17 ic_m1 rfl ?_
    exact Sm.ret dX10_byteAt_18 trivial rfl
  · refine Sm.aload_n dX10_byteAt_8 rfl rfl rfl ?_
    refine gf_X10_19 o1 dX10_byteAt_9 rfl rfl (fun v3 => ?_)
    refine Sm.iload_n dX10_byteAt_12 rfl rfl rfl ?_
    refine Sm.ca (fun q4 => ?_)
    refine Sm.iald q4 dX10_byteAt_13 rfl ?_
    refine Sm.goto (t := 18) dX10_byteAt_14 (by decide) ?_
    exact Sm.ret dX10_byteAt_18 trivial rfl
set_option maxRecDepth 20000 in
theorem kc_X10_140 {ρ : Type} {rv : ρ → Option Value} {G : Gx} {pc q : Nat} {lv st : List Value} {h : Hp} {a : Nat} {x1 : Int32} {e : Int32 → Hp → Option (ρ × Hp)} (hk : isO h a 10) (d : decode G.2.1 pc = .ok (.invokevirtual 140, 3)) (ho : G.1.cls = RX10) (hdep : (g_X10_byteAt).2.2.2.2 < G.2.2.2.2) (hcat : catS st ≤ 8) (hq : pc + 3 = q) (k : ∀ r h1, Sm rv G q lv (.int r :: st) h1 (e r h1)) : Sm rv G pc lv (.int x1 :: .ref a :: st) h (bd (f_X10_byteAt a x1 h) e) :=
  Sm.callV (rv' := rvI) (args := [.int x1]) (n := 1) (t_X10_byteAt a x1 h) hk (by decide) (r := (RX10, TX10, 43)) rfl rfl ho mw_1070 mw_1072 mp_56 mw_11 mw_1073 ⟨⟨by decide, rfl, hdep, Nat.le_of_ble_eq_true rfl⟩, Nat.le_of_ble_eq_true rfl, rfl, ⟨by decide, by decide⟩, hcat⟩ (by decide +kernel) (by intro v hv; simp only [List.mem_cons, List.not_mem_nil, or_false] at hv; rcases hv with rfl <;> intro x hx <;> cases hx) d hq k rfl
abbrev g_X10_lastOpen : Gx := (yX10_lastOpen, cX10_lastOpen, 1, (Option.some FieldType.int), 0)
def f_X10_lastOpen (l0 : Nat) (h : Hp) : Option (Int32 × Hp) :=
  (ck h l0 10
(if (gI h l0 14) = 0 then
(some ((-1 : Int32), h))
else
((gP h l0 12).bind fun v3 =>
(ca h v3 20 ((gI h l0 14) - (1 : Int32))
(some ((gI h v3 ((gI h l0 14) - (1 : Int32)).toNatClampNeg), h))))))
set_option maxRecDepth 20000 in
theorem t_X10_lastOpen (l0 : Nat) (h : Hp) : Sm rvI g_X10_lastOpen 0 (ent 1 [.ref l0]) [] h (f_X10_lastOpen l0 h) := by
  show Sm rvI g_X10_lastOpen 0 [.ref l0] [] h _
  unfold f_X10_lastOpen
  refine Sm.aload_n dX10_lastOpen_0 rfl rfl rfl ?_
  refine Sm.ck (fun o1 => ?_)
  refine gf_X10_134 o1 dX10_lastOpen_1 rfl rfl ?_
  refine Sm.if_ne (t := 11) dX10_lastOpen_4 (by decide) rfl (fun b2 => ?_) (fun b2 => ?_)
  · refine Sm.iconst dX10_lastOpen_7 ic_m1 rfl ?_
    refine Sm.goto (t := 22) dX10_lastOpen_8 (by decide) ?_
    exact Sm.ret dX10_lastOpen_22 trivial rfl
  · refine Sm.aload_n dX10_lastOpen_11 rfl rfl rfl ?_
    refine gf_X10_31 o1 dX10_lastOpen_12 rfl rfl (fun v3 => ?_)
    refine Sm.aload_n dX10_lastOpen_15 rfl rfl rfl ?_
    refine gf_X10_134 o1 dX10_lastOpen_16 rfl rfl ?_
    refine Sm.iconst dX10_lastOpen_19 ic_1 rfl ?_
    refine Sm.isub dX10_lastOpen_20 rfl ?_
    refine Sm.ca (fun q4 => ?_)
    refine Sm.iald q4 dX10_lastOpen_21 rfl ?_
    exact Sm.ret dX10_lastOpen_22 trivial rfl
set_option maxRecDepth 20000 in
theorem kc_X10_152 {ρ : Type} {rv : ρ → Option Value} {G : Gx} {pc q : Nat} {lv st : List Value} {h : Hp} {a : Nat} {e : Int32 → Hp → Option (ρ × Hp)} (hk : isO h a 10) (d : decode G.2.1 pc = .ok (.invokevirtual 152, 3)) (ho : G.1.cls = RX10) (hdep : (g_X10_lastOpen).2.2.2.2 < G.2.2.2.2) (hcat : catS st ≤ 8) (hq : pc + 3 = q) (k : ∀ r h1, Sm rv G q lv (.int r :: st) h1 (e r h1)) : Sm rv G pc lv (.ref a :: st) h (bd (f_X10_lastOpen a h) e) :=
  Sm.callV (rv' := rvI) (args := []) (n := 0) (t_X10_lastOpen a h) hk (by decide) (r := (RX10, TX10, 43)) rfl rfl ho mw_1094 mw_1096 mp_62 mw_11 mw_1097 ⟨⟨by decide, rfl, hdep, Nat.le_of_ble_eq_true rfl⟩, Nat.le_of_ble_eq_true rfl, rfl, ⟨by decide, by decide⟩, hcat⟩ (by decide +kernel) (fun v hv => by cases hv) d hq k rfl
abbrev g_X10_pushes : Gx := (yX10_pushes, cX10_pushes, 2, (Option.none : Option FieldType), 0)
def f_X10_pushes (l0 : Nat) (l1 : Int32) (h : Hp) : Option (Unit × Hp) :=
  (ck h l0 10
((gP h l0 12).bind fun v2 =>
(ca h v2 20 (gI h l0 14)
((gP (sI h v2 (gI h l0 14).toNatClampNeg l1) l0 13).bind fun v4 =>
(ca (sI h v2 (gI h l0 14).toNatClampNeg l1) v4 20 (gI (sI h v2 (gI h l0 14).toNatClampNeg l1) l0 14)
(nm (sI (sI h v2 (gI h l0 14).toNatClampNeg l1) v4 (gI (sI h v2 (gI h l0 14).toNatClampNeg l1) l0 14).toNatClampNeg (gI (sI h v2 (gI h l0 14).toNatClampNeg l1) l0 11)) fun h6 =>
(some ((), (sI h6 l0 14 ((gI h6 l0 14) + (1 : Int32)))))))))))
set_option maxRecDepth 20000 in
theorem t_X10_pushes (l0 : Nat) (l1 : Int32) (h : Hp) : Sm rvV g_X10_pushes 0 (ent 2 [.ref l0, .int l1]) [] h (f_X10_pushes l0 l1 h) := by
  show Sm rvV g_X10_pushes 0 [.ref l0, .int l1] [] h _
  unfold f_X10_pushes
  refine Sm.aload_n dX10_pushes_0 rfl rfl rfl ?_
  refine Sm.ck (fun o1 => ?_)
  refine gf_X10_31 o1 dX10_pushes_1 rfl rfl (fun v2 => ?_)
  refine Sm.aload_n dX10_pushes_4 rfl rfl rfl ?_
  refine gf_X10_134 o1 dX10_pushes_5 rfl rfl ?_
  refine Sm.iload_n dX10_pushes_8 rfl rfl rfl ?_
  refine Sm.ca (fun q3 => ?_)
  refine Sm.iast q3 dX10_pushes_9 rfl ?_
  refine Sm.aload_n dX10_pushes_10 rfl rfl rfl ?_
  refine gf_X10_34 o1 dX10_pushes_11 rfl rfl (fun v4 => ?_)
  refine Sm.aload_n dX10_pushes_14 rfl rfl rfl ?_
  refine gf_X10_134 o1 dX10_pushes_15 rfl rfl ?_
  refine Sm.aload_n dX10_pushes_18 rfl rfl rfl ?_
  refine gf_X10_137 o1 dX10_pushes_19 rfl rfl ?_
  refine Sm.ca (fun q5 => ?_)
  refine Sm.iast q5 dX10_pushes_22 rfl ?_
  refine Sm.nmH (fun h6 e7 e8 => ?_)
  refine Sm.aload_n dX10_pushes_23 rfl rfl rfl ?_
  refine Sm.dup dX10_pushes_24 rfl rfl ?_
  refine gf_X10_134 (isO.tr e7 e8 o1) dX10_pushes_25 rfl rfl ?_
  refine Sm.iconst dX10_pushes_28 ic_1 rfl ?_
  refine Sm.iadd dX10_pushes_29 rfl ?_
  refine pf_X10_134 (isO.tr e7 e8 o1) dX10_pushes_30 rfl rfl ?_
  exact Sm.ret (r := ()) dX10_pushes_33 trivial rfl
set_option maxRecDepth 20000 in
theorem kc_X10_143 {ρ : Type} {rv : ρ → Option Value} {G : Gx} {pc q : Nat} {lv st : List Value} {h : Hp} {a : Nat} {x1 : Int32} {e : Unit → Hp → Option (ρ × Hp)} (hk : isO h a 10) (d : decode G.2.1 pc = .ok (.invokevirtual 143, 3)) (ho : G.1.cls = RX10) (hdep : (g_X10_pushes).2.2.2.2 < G.2.2.2.2) (hcat : catS st ≤ 8) (hq : pc + 3 = q) (k : ∀ r h1, Sm rv G q lv (st) h1 (e r h1)) : Sm rv G pc lv (.int x1 :: .ref a :: st) h (bd (f_X10_pushes a x1 h) e) :=
  Sm.callV (rv' := rvV) (args := [.int x1]) (n := 1) (t_X10_pushes a x1 h) hk (by decide) (r := (RX10, TX10, 43)) rfl rfl ho mw_1074 mw_1076 mp_57 mw_11 mw_1077 ⟨⟨by decide, rfl, hdep, Nat.le_of_ble_eq_true rfl⟩, Nat.le_of_ble_eq_true rfl, rfl, ⟨by decide, by decide⟩, hcat⟩ (by decide +kernel) (by intro v hv; simp only [List.mem_cons, List.not_mem_nil, or_false] at hv; rcases hv with rfl <;> intro x hx <;> cases hx) d hq k rfl
abbrev g_X10_field : Gx := (yX10_field, cX10_field, 3, (Option.some FieldType.int), 1)
def f_X10_field_111 (l0 : Nat) (s0 : Nat) (s1 : Int32) (s2 : Int32) (h : Hp) : Option (Int32 × Hp) :=
  (ck h s0 10
(bd (f_X10_waits s0 s1 s2 h) fun _ h21 =>
(ck h21 l0 10
(some ((-1 : Int32), (sI h21 l0 11 ((gI h21 l0 11) + (3 : Int32))))))))
set_option maxRecDepth 20000 in
theorem t_X10_field_111 (l0 : Nat) (s0 : Nat) (s1 : Int32) (s2 : Int32) (h : Hp) : Sm rvI g_X10_field 111 [.ref l0, .null, .null] [.int s2, .int s1, .ref s0] h (f_X10_field_111 l0 s0 s1 s2 h) := by
  unfold f_X10_field_111
  refine Sm.ck (fun o20 => ?_)
  refine kc_X10_120 o20 dX10_field_111 rfl (Nat.le_of_ble_eq_true rfl) (Nat.le_of_ble_eq_true rfl) rfl (fun _ h21 => ?_)
  refine Sm.aload_n dX10_field_114 rfl rfl rfl ?_
  refine Sm.dup dX10_field_115 rfl rfl ?_
  refine Sm.ck (fun o22 => ?_)
  refine gf_X10_137 o22 dX10_field_116 rfl rfl ?_
  refine Sm.iconst dX10_field_119 ic_3 rfl ?_
  refine Sm.iadd dX10_field_120 rfl ?_
  refine pf_X10_137 o22 dX10_field_121 rfl rfl ?_
  refine Sm.iconst dX10_field_124 ic_m1 rfl ?_
  exact Sm.ret dX10_field_125 trivial rfl
def f_X10_field_71 (l0 : Nat) (l1 : Int32) (l2 : Int32) (s0 : Nat) (s1 : Int32) (h : Hp) : Option (Int32 × Hp) :=
  (ck h l0 10
(bd (f_X10_byteAt l0 ((gI h l0 11) + (2 : Int32)) h) fun v14 h15 =>
(ck h15 s0 10
(bd (f_X10_makes s0 (((s1 + ((4 : Int32) * (l1 - (120 : Int32)))) + v14) - (48 : Int32)) h15) fun _ h17 =>
(ck h17 l0 10
(if l2 = (61 : Int32) then
(f_X10_field_111 l0 l0 (gI h17 l0 11) (1 : Int32) h17)
else
(f_X10_field_111 l0 l0 (gI h17 l0 11) (0 : Int32) h17)))))))
set_option maxRecDepth 20000 in
theorem t_X10_field_71 (l0 : Nat) (l1 : Int32) (l2 : Int32) (s0 : Nat) (s1 : Int32) (h : Hp) : Sm rvI g_X10_field 71 [.ref l0, .int l1, .int l2] [.int s1, .ref s0] h (f_X10_field_71 l0 l1 l2 s0 s1 h) := by
  unfold f_X10_field_71
  refine Sm.iconst dX10_field_71 ic_4 rfl ?_
  refine Sm.iload_n dX10_field_72 rfl rfl rfl ?_
  refine Sm.bipush dX10_field_73 bp_120 rfl ?_
  refine Sm.isub dX10_field_75 rfl ?_
  refine Sm.imul dX10_field_76 rfl ?_
  refine Sm.iadd dX10_field_77 rfl ?_
  refine Sm.aload_n dX10_field_78 rfl rfl rfl ?_
  refine Sm.aload_n dX10_field_79 rfl rfl rfl ?_
  refine Sm.ck (fun o13 => ?_)
  refine gf_X10_137 o13 dX10_field_80 rfl rfl ?_
  refine Sm.iconst dX10_field_83 ic_2 rfl ?_
  refine Sm.iadd dX10_field_84 rfl ?_
  refine kc_X10_140 o13 dX10_field_85 rfl (Nat.le_of_ble_eq_true rfl) (Nat.le_of_ble_eq_true rfl) rfl (fun v14 h15 => ?_)
  refine Sm.iadd dX10_field_88 rfl ?_
  refine Sm.bipush dX10_field_89 bp_48 rfl ?_
  refine Sm.isub dX10_field_91 rfl ?_
  refine Sm.ck (fun o16 => ?_)
  refine kc_X10_127 o16 dX10_field_92 rfl (Nat.le_of_ble_eq_true rfl) (Nat.le_of_ble_eq_true rfl) rfl (fun _ h17 => ?_)
  refine Sm.aload_n dX10_field_95 rfl rfl rfl ?_
  refine Sm.aload_n dX10_field_96 rfl rfl rfl ?_
  refine Sm.ck (fun o18 => ?_)
  refine gf_X10_137 o18 dX10_field_97 rfl rfl ?_
  refine Sm.iload_n dX10_field_100 rfl rfl rfl ?_
  refine Sm.bipush dX10_field_101 bp_61 rfl ?_
  refine Sm.icmp_ne (t := 110) dX10_field_103 (by decide) rfl (fun b19 => ?_) (fun b19 => ?_)
  · refine Sm.iconst dX10_field_106 ic_1 rfl ?_
    refine Sm.goto (t := 111) dX10_field_107 (by decide) ?_
    exact Sm.wk (t_X10_field_111 l0 l0 (gI h17 l0 11) (1 : Int32) h17) ⟨Or.inr rfl, Or.inl rfl, Or.inl rfl, trivial⟩
  · refine Sm.iconst dX10_field_110 ic_0 rfl ?_
    exact Sm.wk (t_X10_field_111 l0 l0 (gI h17 l0 11) (0 : Int32) h17) ⟨Or.inr rfl, Or.inl rfl, Or.inl rfl, trivial⟩
def f_X10_field_30 (l0 : Nat) (l1 : Int32) (l2 : Int32) (h : Hp) : Option (Int32 × Hp) :=
  (ck h l0 10
(bd (f_X10_byteAt l0 ((gI h l0 11) + (2 : Int32)) h) fun v6 h7 =>
(bd (f_X10_within v6 (48 : Int32) (51 : Int32) h7) fun v8 h9 =>
(if v8 = 0 then
(ck h9 l0 10
(some (((gI h9 l0 11) + (2 : Int32)), h9)))
else
(if l2 = (61 : Int32) then
(f_X10_field_71 l0 l1 l2 l0 (10 : Int32) h9)
else
(f_X10_field_71 l0 l1 l2 l0 (30 : Int32) h9))))))
set_option maxRecDepth 20000 in
theorem t_X10_field_30 (l0 : Nat) (l1 : Int32) (l2 : Int32) (h : Hp) : Sm rvI g_X10_field 30 [.ref l0, .int l1, .int l2] [] h (f_X10_field_30 l0 l1 l2 h) := by
  unfold f_X10_field_30
  refine Sm.aload_n dX10_field_30 rfl rfl rfl ?_
  refine Sm.aload_n dX10_field_31 rfl rfl rfl ?_
  refine Sm.ck (fun o5 => ?_)
  refine gf_X10_137 o5 dX10_field_32 rfl rfl ?_
  refine Sm.iconst dX10_field_35 ic_2 rfl ?_
  refine Sm.iadd dX10_field_36 rfl ?_
  refine kc_X10_140 o5 dX10_field_37 rfl (Nat.le_of_ble_eq_true rfl) (Nat.le_of_ble_eq_true rfl) rfl (fun v6 h7 => ?_)
  refine Sm.bipush dX10_field_40 bp_48 rfl ?_
  refine Sm.bipush dX10_field_42 bp_51 rfl ?_
  refine kc_X10_98 dX10_field_44 rfl (Nat.le_of_ble_eq_true rfl) (Nat.le_of_ble_eq_true rfl) rfl (fun v8 h9 => ?_)
  refine Sm.if_ne (t := 57) dX10_field_47 (by decide) rfl (fun b10 => ?_) (fun b10 => ?_)
  · refine Sm.aload_n dX10_field_50 rfl rfl rfl ?_
    refine Sm.ck (fun o11 => ?_)
    refine gf_X10_137 o11 dX10_field_51 rfl rfl ?_
    refine Sm.iconst dX10_field_54 ic_2 rfl ?_
    refine Sm.iadd dX10_field_55 rfl ?_
    exact Sm.ret dX10_field_56 trivial rfl
  · refine Sm.aload_n dX10_field_57 rfl rfl rfl ?_
    refine Sm.iload_n dX10_field_58 rfl rfl rfl ?_
    refine Sm.bipush dX10_field_59 bp_61 rfl ?_
    refine Sm.icmp_ne (t := 69) dX10_field_61 (by decide) rfl (fun b12 => ?_) (fun b12 => ?_)
    · refine Sm.bipush dX10_field_64 bp_10 rfl ?_
      refine Sm.goto (t := 71) dX10_field_66 (by decide) ?_
      exact Sm.wk (t_X10_field_71 l0 l1 l2 l0 (10 : Int32) h9) ⟨Or.inr rfl, Or.inr rfl, Or.inr rfl, trivial⟩
    · refine Sm.bipush dX10_field_69 bp_30 rfl ?_
      exact Sm.wk (t_X10_field_71 l0 l1 l2 l0 (30 : Int32) h9) ⟨Or.inr rfl, Or.inr rfl, Or.inr rfl, trivial⟩
def f_X10_field (l0 : Nat) (l1 : Int32) (h : Hp) : Option (Int32 × Hp) :=
  (ck h l0 10
(bd (f_X10_byteAt l0 ((gI h l0 11) + (1 : Int32)) h) fun v2 h3 =>
(if v2 = (61 : Int32) then
(f_X10_field_30 l0 l1 v2 h3)
else
(if v2 = (58 : Int32) then
(f_X10_field_30 l0 l1 v2 h3)
else
(ck h3 l0 10
(some (((gI h3 l0 11) + (1 : Int32)), h3)))))))
set_option maxRecDepth 20000 in
theorem t_X10_field (l0 : Nat) (l1 : Int32) (h : Hp) : Sm rvI g_X10_field 0 (ent 3 [.ref l0, .int l1]) [] h (f_X10_field l0 l1 h) := by
  show Sm rvI g_X10_field 0 [.ref l0, .int l1, .null] [] h _
  unfold f_X10_field
  refine Sm.aload_n dX10_field_0 rfl rfl rfl ?_
  refine Sm.aload_n dX10_field_1 rfl rfl rfl ?_
  refine Sm.ck (fun o1 => ?_)
  refine gf_X10_137 o1 dX10_field_2 rfl rfl ?_
  refine Sm.iconst dX10_field_5 ic_1 rfl ?_
  refine Sm.iadd dX10_field_6 rfl ?_
  refine kc_X10_140 o1 dX10_field_7 rfl (Nat.le_of_ble_eq_true rfl) (Nat.le_of_ble_eq_true rfl) rfl (fun v2 h3 => ?_)
  refine Sm.istore_n (lv' := [.ref l0, .int l1, .int v2]) dX10_field_10 rfl (Nat.le_of_ble_eq_true rfl) rfl rfl ?_
  refine Sm.iload_n dX10_field_11 rfl rfl rfl ?_
  refine Sm.bipush dX10_field_12 bp_61 rfl ?_
  refine Sm.icmp_eq (t := 30) dX10_field_14 (by decide) rfl (fun b4 => ?_) (fun b4 => ?_)
  · exact Sm.wk (t_X10_field_30 l0 l1 v2 h3) ⟨Or.inr rfl, Or.inr rfl, Or.inr rfl, trivial⟩
  · refine Sm.iload_n dX10_field_17 rfl rfl rfl ?_
    refine Sm.bipush dX10_field_18 bp_58 rfl ?_
    refine Sm.icmp_eq (t := 30) dX10_field_20 (by decide) rfl (fun b23 => ?_) (fun b23 => ?_)
    · exact Sm.wk (t_X10_field_30 l0 l1 v2 h3) ⟨Or.inr rfl, Or.inr rfl, Or.inr rfl, trivial⟩
    · refine Sm.aload_n dX10_field_23 rfl rfl rfl ?_
      refine Sm.ck (fun o24 => ?_)
      refine gf_X10_137 o24 dX10_field_24 rfl rfl ?_
      refine Sm.iconst dX10_field_27 ic_1 rfl ?_
      refine Sm.iadd dX10_field_28 rfl ?_
      exact Sm.ret dX10_field_29 trivial rfl
set_option maxRecDepth 20000 in
theorem kc_X10_146 {ρ : Type} {rv : ρ → Option Value} {G : Gx} {pc q : Nat} {lv st : List Value} {h : Hp} {a : Nat} {x1 : Int32} {e : Int32 → Hp → Option (ρ × Hp)} (hk : isO h a 10) (d : decode G.2.1 pc = .ok (.invokevirtual 146, 3)) (ho : G.1.cls = RX10) (hdep : (g_X10_field).2.2.2.2 < G.2.2.2.2) (hcat : catS st ≤ 8) (hq : pc + 3 = q) (k : ∀ r h1, Sm rv G q lv (.int r :: st) h1 (e r h1)) : Sm rv G pc lv (.int x1 :: .ref a :: st) h (bd (f_X10_field a x1 h) e) :=
  Sm.callV (rv' := rvI) (args := [.int x1]) (n := 1) (t_X10_field a x1 h) hk (by decide) (r := (RX10, TX10, 43)) rfl rfl ho mw_1078 mw_1080 mp_58 mw_11 mw_1081 ⟨⟨by decide, rfl, hdep, Nat.le_of_ble_eq_true rfl⟩, Nat.le_of_ble_eq_true rfl, rfl, ⟨by decide, by decide⟩, hcat⟩ (by decide +kernel) (by intro v hv; simp only [List.mem_cons, List.not_mem_nil, or_false] at hv; rcases hv with rfl <;> intro x hx <;> cases hx) d hq k rfl
abbrev g_X10_atom : Gx := (yX10_atom, cX10_atom, 2, (Option.some FieldType.int), 2)
def f_X10_atom_39 (k0 : Hp → Option (Int32 × Hp)) (l0 : Nat) (h : Hp) : Option (Int32 × Hp) :=
  (ck h l0 10
(bd (f_X10_byteAt l0 (gI h l0 11) h) fun v6 h7 =>
(ck h7 l0 10
(bd (f_X10_pushes l0 v6 h7) fun _ h9 =>
(ck h9 l0 10
(k0 (sI h9 l0 11 ((gI h9 l0 11) + (1 : Int32)))))))))
set_option maxRecDepth 20000 in
theorem t_X10_atom_39 (l0 : Nat) (h : Hp) (k0 : Hp → Option (Int32 × Hp)) (hk0 : ∀ s : Hp, Sm rvI g_X10_atom 0 [.ref l0, .null] [] s (k0 s)) : Sm rvI g_X10_atom 39 [.ref l0, .null] [] h (f_X10_atom_39 k0 l0 h) := by
  unfold f_X10_atom_39
  refine Sm.aload_n dX10_atom_39 rfl rfl rfl ?_
  refine Sm.aload_n dX10_atom_40 rfl rfl rfl ?_
  refine Sm.aload_n dX10_atom_41 rfl rfl rfl ?_
  refine Sm.ck (fun o5 => ?_)
  refine gf_X10_137 o5 dX10_atom_42 rfl rfl ?_
  refine kc_X10_140 o5 dX10_atom_45 rfl (Nat.le_of_ble_eq_true rfl) (Nat.le_of_ble_eq_true rfl) rfl (fun v6 h7 => ?_)
  refine Sm.ck (fun o8 => ?_)
  refine kc_X10_143 o8 dX10_atom_48 rfl (Nat.le_of_ble_eq_true rfl) (Nat.le_of_ble_eq_true rfl) rfl (fun _ h9 => ?_)
  refine Sm.aload_n dX10_atom_51 rfl rfl rfl ?_
  refine Sm.dup dX10_atom_52 rfl rfl ?_
  refine Sm.ck (fun o10 => ?_)
  refine gf_X10_137 o10 dX10_atom_53 rfl rfl ?_
  refine Sm.iconst dX10_atom_56 ic_1 rfl ?_
  refine Sm.iadd dX10_atom_57 rfl ?_
  refine pf_X10_137 o10 dX10_atom_58 rfl rfl ?_
  refine Sm.goto (t := 0) dX10_atom_61 (by decide) ?_
  exact Sm.wk (hk0 (sI h9 l0 11 ((gI h9 l0 11) + (1 : Int32)))) ⟨Or.inr rfl, Or.inl rfl, trivial⟩
def f_X10_atom_175 (l0 : Nat) (h : Hp) : Option (Int32 × Hp) :=
  (ck h l0 10
(some ((-1 : Int32), (sI h l0 11 ((gI h l0 11) + (1 : Int32))))))
set_option maxRecDepth 20000 in
theorem t_X10_atom_175 (l0 : Nat) (h : Hp) : Sm rvI g_X10_atom 175 [.ref l0, .null] [] h (f_X10_atom_175 l0 h) := by
  unfold f_X10_atom_175
  refine Sm.aload_n dX10_atom_175 rfl rfl rfl ?_
  refine Sm.dup dX10_atom_176 rfl rfl ?_
  refine Sm.ck (fun o30 => ?_)
  refine gf_X10_137 o30 dX10_atom_177 rfl rfl ?_
  refine Sm.iconst dX10_atom_180 ic_1 rfl ?_
  refine Sm.iadd dX10_atom_181 rfl ?_
  refine pf_X10_137 o30 dX10_atom_182 rfl rfl ?_
  refine Sm.iconst dX10_atom_185 ic_m1 rfl ?_
  exact Sm.ret dX10_atom_186 trivial rfl
def f_X10_atom_102 (l0 : Nat) (l1 : Int32) (h : Hp) : Option (Int32 × Hp) :=
  (ck h l0 10
(bd (f_X10_makes l0 (l1 - (48 : Int32)) h) fun _ h27 =>
(ck h27 l0 10
(bd (f_X10_waits l0 (gI h27 l0 11) (1 : Int32) h27) fun _ h29 =>
(f_X10_atom_175 l0 h29)))))
set_option maxRecDepth 20000 in
theorem t_X10_atom_102 (l0 : Nat) (l1 : Int32) (h : Hp) : Sm rvI g_X10_atom 102 [.ref l0, .int l1] [] h (f_X10_atom_102 l0 l1 h) := by
  unfold f_X10_atom_102
  refine Sm.aload_n dX10_atom_102 rfl rfl rfl ?_
  refine Sm.iload_n dX10_atom_103 rfl rfl rfl ?_
  refine Sm.bipush dX10_atom_104 bp_48 rfl ?_
  refine Sm.isub dX10_atom_106 rfl ?_
  refine Sm.ck (fun o26 => ?_)
  refine kc_X10_127 o26 dX10_atom_107 rfl (Nat.le_of_ble_eq_true rfl) (Nat.le_of_ble_eq_true rfl) rfl (fun _ h27 => ?_)
  refine Sm.aload_n dX10_atom_110 rfl rfl rfl ?_
  refine Sm.aload_n dX10_atom_111 rfl rfl rfl ?_
  refine Sm.ck (fun o28 => ?_)
  refine gf_X10_137 o28 dX10_atom_112 rfl rfl ?_
  refine Sm.iconst dX10_atom_115 ic_1 rfl ?_
  refine kc_X10_120 o28 dX10_atom_116 rfl (Nat.le_of_ble_eq_true rfl) (Nat.le_of_ble_eq_true rfl) rfl (fun _ h29 => ?_)
  refine Sm.goto (t := 175) dX10_atom_119 (by decide) ?_
  exact Sm.wk (t_X10_atom_175 l0 h29) ⟨Or.inr rfl, Or.inl rfl, trivial⟩
def f_X10_atom_164 (l0 : Nat) (s0 : Nat) (s1 : Int32) (s2 : Int32) (h : Hp) : Option (Int32 × Hp) :=
  (ck h s0 10
(bd (f_X10_waits s0 s1 s2 h) fun _ h43 =>
(f_X10_atom_175 l0 h43)))
set_option maxRecDepth 20000 in
theorem t_X10_atom_164 (l0 : Nat) (s0 : Nat) (s1 : Int32) (s2 : Int32) (h : Hp) : Sm rvI g_X10_atom 164 [.ref l0, .null] [.int s2, .int s1, .ref s0] h (f_X10_atom_164 l0 s0 s1 s2 h) := by
  unfold f_X10_atom_164
  refine Sm.ck (fun o42 => ?_)
  refine kc_X10_120 o42 dX10_atom_164 rfl (Nat.le_of_ble_eq_true rfl) (Nat.le_of_ble_eq_true rfl) rfl (fun _ h43 => ?_)
  refine Sm.goto (t := 175) dX10_atom_167 (by decide) ?_
  exact Sm.wk (t_X10_atom_175 l0 h43) ⟨Or.inr rfl, Or.inl rfl, trivial⟩
def f_X10_atom_0 (k0 : Hp → Option (Int32 × Hp)) (l0 : Nat) (h : Hp) : Option (Int32 × Hp) :=
  (ck h l0 10
(bd (f_X10_byteAt l0 (gI h l0 11) h) fun v2 h3 =>
(if v2 = (33 : Int32) then
(f_X10_atom_39 k0 l0 h3)
else
(ck h3 l0 10
(bd (f_X10_byteAt l0 (gI h3 l0 11) h3) fun v12 h13 =>
(if v12 = (40 : Int32) then
(f_X10_atom_39 k0 l0 h13)
else
(ck h13 l0 10
(bd (f_X10_byteAt l0 (gI h13 l0 11) h13) fun v16 h17 =>
(if v16 = (91 : Int32) then
(f_X10_atom_39 k0 l0 h17)
else
(ck h17 l0 10
(bd (f_X10_byteAt l0 (gI h17 l0 11) h17) fun v20 h21 =>
(bd (f_X10_within v20 (120 : Int32) (122 : Int32) h21) fun v22 h23 =>
(if v22 = 0 then
(if v20 = (48 : Int32) then
(f_X10_atom_102 l0 v20 h23)
else
(if v20 = (49 : Int32) then
(f_X10_atom_102 l0 v20 h23)
else
(bd (f_X10_within v20 (112 : Int32) (115 : Int32) h23) fun v32 h33 =>
(if v32 = 0 then
(ck h33 l0 10
(some ((gI h33 l0 11), h33)))
else
(ck h33 l0 10
(bd (f_X10_copies l0 (v20 - (112 : Int32)) h33) fun _ h37 =>
(ck h37 l0 10
((gP h37 l0 15).bind fun v39 =>
(ca h37 v39 20 (v20 - (112 : Int32))
(if (gI h37 v39 (v20 - (112 : Int32)).toNatClampNeg) = (1 : Int32) then
(f_X10_atom_164 l0 l0 (gI h37 l0 11) (1 : Int32) h37)
else
(f_X10_atom_164 l0 l0 (gI h37 l0 11) (0 : Int32) h37)))))))))))
else
(ck h23 l0 10
(bd (f_X10_field l0 v20 h23) fun v45 h46 =>
(some (v45, h46)))))))))))))))))
set_option maxRecDepth 20000 in
theorem t_X10_atom_0 (l0 : Nat) (h : Hp) (k0 : Hp → Option (Int32 × Hp)) (hk0 : ∀ s : Hp, Sm rvI g_X10_atom 0 [.ref l0, .null] [] s (k0 s)) : Sm rvI g_X10_atom 0 [.ref l0, .null] [] h (f_X10_atom_0 k0 l0 h) := by
  unfold f_X10_atom_0
  refine Sm.aload_n dX10_atom_0 rfl rfl rfl ?_
  refine Sm.aload_n dX10_atom_1 rfl rfl rfl ?_
  refine Sm.ck (fun o1 => ?_)
  refine gf_X10_137 o1 dX10_atom_2 rfl rfl ?_
  refine kc_X10_140 o1 dX10_atom_5 rfl (Nat.le_of_ble_eq_true rfl) (Nat.le_of_ble_eq_true rfl) rfl (fun v2 h3 => ?_)
  refine Sm.bipush dX10_atom_8 bp_33 rfl ?_
  refine Sm.icmp_eq (t := 39) dX10_atom_10 (by decide) rfl (fun b4 => ?_) (fun b4 => ?_)
  · exact Sm.wk (t_X10_atom_39 l0 h3 k0 hk0) ⟨Or.inr rfl, Or.inl rfl, trivial⟩
  · refine Sm.aload_n dX10_atom_13 rfl rfl rfl ?_
    refine Sm.aload_n dX10_atom_14 rfl rfl rfl ?_
    refine Sm.ck (fun o11 => ?_)
    refine gf_X10_137 o11 dX10_atom_15 rfl rfl ?_
    refine kc_X10_140 o11 dX10_atom_18 rfl (Nat.le_of_ble_eq_true rfl) (Nat.le_of_ble_eq_true rfl) rfl (fun v12 h13 => ?_)
    refine Sm.bipush dX10_atom_21 bp_40 rfl ?_
    refine Sm.icmp_eq (t := 39) dX10_atom_23 (by decide) rfl (fun b14 => ?_) (fun b14 => ?_)
    · exact Sm.wk (t_X10_atom_39 l0 h13 k0 hk0) ⟨Or.inr rfl, Or.inl rfl, trivial⟩
    · refine Sm.aload_n dX10_atom_26 rfl rfl rfl ?_
      refine Sm.aload_n dX10_atom_27 rfl rfl rfl ?_
      refine Sm.ck (fun o15 => ?_)
      refine gf_X10_137 o15 dX10_atom_28 rfl rfl ?_
      refine kc_X10_140 o15 dX10_atom_31 rfl (Nat.le_of_ble_eq_true rfl) (Nat.le_of_ble_eq_true rfl) rfl (fun v16 h17 => ?_)
      refine Sm.bipush dX10_atom_34 bp_91 rfl ?_
      refine Sm.icmp_ne (t := 64) dX10_atom_36 (by decide) rfl (fun b18 => ?_) (fun b18 => ?_)
      · exact Sm.wk (t_X10_atom_39 l0 h17 k0 hk0) ⟨Or.inr rfl, Or.inl rfl, trivial⟩
      · refine Sm.aload_n dX10_atom_64 rfl rfl rfl ?_
        refine Sm.aload_n dX10_atom_65 rfl rfl rfl ?_
        refine Sm.ck (fun o19 => ?_)
        refine gf_X10_137 o19 dX10_atom_66 rfl rfl ?_
        refine kc_X10_140 o19 dX10_atom_69 rfl (Nat.le_of_ble_eq_true rfl) (Nat.le_of_ble_eq_true rfl) rfl (fun v20 h21 => ?_)
        refine Sm.istore_n (lv' := [.ref l0, .int v20]) dX10_atom_72 rfl (Nat.le_of_ble_eq_true rfl) rfl rfl ?_
        refine Sm.iload_n dX10_atom_73 rfl rfl rfl ?_
        refine Sm.bipush dX10_atom_74 bp_120 rfl ?_
        refine Sm.bipush dX10_atom_76 bp_122 rfl ?_
        refine kc_X10_98 dX10_atom_78 rfl (Nat.le_of_ble_eq_true rfl) (Nat.le_of_ble_eq_true rfl) rfl (fun v22 h23 => ?_)
        refine Sm.if_eq (t := 90) dX10_atom_81 (by decide) rfl (fun b24 => ?_) (fun b24 => ?_)
        · refine Sm.iload_n dX10_atom_90 rfl rfl rfl ?_
          refine Sm.bipush dX10_atom_91 bp_48 rfl ?_
          refine Sm.icmp_eq (t := 102) dX10_atom_93 (by decide) rfl (fun b25 => ?_) (fun b25 => ?_)
          · exact Sm.wk (t_X10_atom_102 l0 v20 h23) ⟨Or.inr rfl, Or.inr rfl, trivial⟩
          · refine Sm.iload_n dX10_atom_96 rfl rfl rfl ?_
            refine Sm.bipush dX10_atom_97 bp_49 rfl ?_
            refine Sm.icmp_ne (t := 122) dX10_atom_99 (by decide) rfl (fun b31 => ?_) (fun b31 => ?_)
            · exact Sm.wk (t_X10_atom_102 l0 v20 h23) ⟨Or.inr rfl, Or.inr rfl, trivial⟩
            · refine Sm.iload_n dX10_atom_122 rfl rfl rfl ?_
              refine Sm.bipush dX10_atom_123 bp_112 rfl ?_
              refine Sm.bipush dX10_atom_125 bp_115 rfl ?_
              refine kc_X10_98 dX10_atom_127 rfl (Nat.le_of_ble_eq_true rfl) (Nat.le_of_ble_eq_true rfl) rfl (fun v32 h33 => ?_)
              refine Sm.if_eq (t := 170) dX10_atom_130 (by decide) rfl (fun b34 => ?_) (fun b34 => ?_)
              · refine Sm.aload_n dX10_atom_170 rfl rfl rfl ?_
                refine Sm.ck (fun o35 => ?_)
                refine gf_X10_137 o35 dX10_atom_171 rfl rfl ?_
                exact Sm.ret dX10_atom_174 trivial rfl
              · refine Sm.aload_n dX10_atom_133 rfl rfl rfl ?_
                refine Sm.iload_n dX10_atom_134 rfl rfl rfl ?_
                refine Sm.bipush dX10_atom_135 bp_112 rfl ?_
                refine Sm.isub dX10_atom_137 rfl ?_
                refine Sm.ck (fun o36 => ?_)
                refine kc_X10_149 o36 dX10_atom_138 rfl (Nat.le_of_ble_eq_true rfl) (Nat.le_of_ble_eq_true rfl) rfl (fun _ h37 => ?_)
                refine Sm.aload_n dX10_atom_141 rfl rfl rfl ?_
                refine Sm.aload_n dX10_atom_142 rfl rfl rfl ?_
                refine Sm.ck (fun o38 => ?_)
                refine gf_X10_137 o38 dX10_atom_143 rfl rfl ?_
                refine Sm.aload_n dX10_atom_146 rfl rfl rfl ?_
                refine gf_X10_37 o38 dX10_atom_147 rfl rfl (fun v39 => ?_)
                refine Sm.iload_n dX10_atom_150 rfl rfl rfl ?_
                refine Sm.bipush dX10_atom_151 bp_112 rfl ?_
                refine Sm.isub dX10_atom_153 rfl ?_
                refine Sm.ca (fun q40 => ?_)
                refine Sm.iald q40 dX10_atom_154 rfl ?_
                refine Sm.iconst dX10_atom_155 ic_1 rfl ?_
                refine Sm.icmp_ne (t := 163) dX10_atom_156 (by decide) rfl (fun b41 => ?_) (fun b41 => ?_)
                · refine Sm.iconst dX10_atom_159 ic_1 rfl ?_
                  refine Sm.goto (t := 164) dX10_atom_160 (by decide) ?_
                  exact Sm.wk (t_X10_atom_164 l0 l0 (gI h37 l0 11) (1 : Int32) h37) ⟨Or.inr rfl, Or.inl rfl, trivial⟩
                · refine Sm.iconst dX10_atom_163 ic_0 rfl ?_
                  exact Sm.wk (t_X10_atom_164 l0 l0 (gI h37 l0 11) (0 : Int32) h37) ⟨Or.inr rfl, Or.inl rfl, trivial⟩
        · refine Sm.aload_n dX10_atom_84 rfl rfl rfl ?_
          refine Sm.iload_n dX10_atom_85 rfl rfl rfl ?_
          refine Sm.ck (fun o44 => ?_)
          refine kc_X10_146 o44 dX10_atom_86 rfl (Nat.le_of_ble_eq_true rfl) (Nat.le_of_ble_eq_true rfl) rfl (fun v45 h46 => ?_)
          exact Sm.ret dX10_atom_89 trivial rfl
def f_X10_atom (l0 : Nat) (h : Hp) : Option (Int32 × Hp) :=
  (loopN (fun k s => f_X10_atom_0 k l0 s) 5000 h)
set_option maxRecDepth 20000 in
theorem t_X10_atom (l0 : Nat) (h : Hp) : Sm rvI g_X10_atom 0 (ent 2 [.ref l0]) [] h (f_X10_atom l0 h) := by
  show Sm rvI g_X10_atom 0 [.ref l0, .null] [] h _
  unfold f_X10_atom
  exact Sm.wk (Sm.loop (σ := Hp) (LV := fun s => [.ref l0, .null]) (HH := fun s => s) (fun k hk s => t_X10_atom_0 l0 s k hk) 5000 h) ⟨Or.inr rfl, Or.inl rfl, trivial⟩
set_option maxRecDepth 20000 in
theorem kc_X10_170 {ρ : Type} {rv : ρ → Option Value} {G : Gx} {pc q : Nat} {lv st : List Value} {h : Hp} {a : Nat} {e : Int32 → Hp → Option (ρ × Hp)} (hk : isO h a 10) (d : decode G.2.1 pc = .ok (.invokevirtual 170, 3)) (ho : G.1.cls = RX10) (hdep : (g_X10_atom).2.2.2.2 < G.2.2.2.2) (hcat : catS st ≤ 8) (hq : pc + 3 = q) (k : ∀ r h1, Sm rv G q lv (.int r :: st) h1 (e r h1)) : Sm rv G pc lv (.ref a :: st) h (bd (f_X10_atom a h) e) :=
  Sm.callV (rv' := rvI) (args := []) (n := 0) (t_X10_atom a h) hk (by decide) (r := (RX10, TX10, 43)) rfl rfl ho mw_1066 mw_1068 mp_55 mw_11 mw_1069 ⟨⟨by decide, rfl, hdep, Nat.le_of_ble_eq_true rfl⟩, Nat.le_of_ble_eq_true rfl, rfl, ⟨by decide, by decide⟩, hcat⟩ (by decide +kernel) (fun v hv => by cases hv) d hq k rfl
abbrev g_X10_endsFactor : Gx := (yX10_endsFactor, cX10_endsFactor, 1, (Option.some FieldType.int), 1)
def f_X10_endsFactor_44 (k44 : Hp → Option (Int32 × Hp)) (l0 : Nat) (h : Hp) : Option (Int32 × Hp) :=
  (ck h l0 10
(bd (f_X10_lastOpen l0 h) fun v14 h15 =>
(if v14 = (33 : Int32) then
(ck h15 l0 10
((gP h15 l0 9).bind fun v18 =>
(ca h15 v18 20 ((gI h15 l0 10) - (1 : Int32))
(if (gI h15 v18 ((gI h15 l0 10) - (1 : Int32)).toNatClampNeg) = 0 then
((gP h15 l0 8).bind fun v21 =>
(ca h15 v21 20 ((gI h15 l0 10) - (1 : Int32))
(some ((gI h15 v21 ((gI h15 l0 10) - (1 : Int32)).toNatClampNeg), h15))))
else
(bd (f_X10_makes l0 (53 : Int32) h15) fun _ h23 =>
(ck h23 l0 10
((gP (sI h23 l0 14 ((gI h23 l0 14) - (1 : Int32))) l0 8).bind fun v25 =>
((gP (sI h23 l0 14 ((gI h23 l0 14) - (1 : Int32))) l0 13).bind fun v26 =>
(ca (sI h23 l0 14 ((gI h23 l0 14) - (1 : Int32))) v26 20 (gI (sI h23 l0 14 ((gI h23 l0 14) - (1 : Int32))) l0 14)
(ca (sI h23 l0 14 ((gI h23 l0 14) - (1 : Int32))) v25 20 ((gI (sI h23 l0 14 ((gI h23 l0 14) - (1 : Int32))) l0 10) - (1 : Int32))
(nm (sI (sI h23 l0 14 ((gI h23 l0 14) - (1 : Int32))) v25 ((gI (sI h23 l0 14 ((gI h23 l0 14) - (1 : Int32))) l0 10) - (1 : Int32)).toNatClampNeg (gI (sI h23 l0 14 ((gI h23 l0 14) - (1 : Int32))) v26 (gI (sI h23 l0 14 ((gI h23 l0 14) - (1 : Int32))) l0 14).toNatClampNeg)) fun h29 =>
(k44 h29))))))))))))
else
(some ((-1 : Int32), h15)))))
set_option maxRecDepth 20000 in
theorem t_X10_endsFactor_44 (l0 : Nat) (h : Hp) (k44 : Hp → Option (Int32 × Hp)) (hk44 : ∀ s : Hp, Sm rvI g_X10_endsFactor 44 [.ref l0] [] s (k44 s)) : Sm rvI g_X10_endsFactor 44 [.ref l0] [] h (f_X10_endsFactor_44 k44 l0 h) := by
  unfold f_X10_endsFactor_44
  refine Sm.aload_n dX10_endsFactor_44 rfl rfl rfl ?_
  refine Sm.ck (fun o13 => ?_)
  refine kc_X10_152 o13 dX10_endsFactor_45 rfl (Nat.le_of_ble_eq_true rfl) (Nat.le_of_ble_eq_true rfl) rfl (fun v14 h15 => ?_)
  refine Sm.bipush dX10_endsFactor_48 bp_33 rfl ?_
  refine Sm.icmp_ne (t := 118) dX10_endsFactor_50 (by decide) rfl (fun b16 => ?_) (fun b16 => ?_)
  · refine Sm.aload_n dX10_endsFactor_53 rfl rfl rfl ?_
    refine Sm.ck (fun o17 => ?_)
    refine gf_X10_28 o17 dX10_endsFactor_54 rfl rfl (fun v18 => ?_)
    refine Sm.aload_n dX10_endsFactor_57 rfl rfl rfl ?_
    refine gf_X10_113 o17 dX10_endsFactor_58 rfl rfl ?_
    refine Sm.iconst dX10_endsFactor_61 ic_1 rfl ?_
    refine Sm.isub dX10_endsFactor_62 rfl ?_
    refine Sm.ca (fun q19 => ?_)
    refine Sm.iald q19 dX10_endsFactor_63 rfl ?_
    refine Sm.if_ne (t := 79) dX10_endsFactor_64 (by decide) rfl (fun b20 => ?_) (fun b20 => ?_)
    · refine Sm.aload_n dX10_endsFactor_67 rfl rfl rfl ?_
      refine gf_X10_25 o17 dX10_endsFactor_68 rfl rfl (fun v21 => ?_)
      refine Sm.aload_n dX10_endsFactor_71 rfl rfl rfl ?_
      refine gf_X10_113 o17 dX10_endsFactor_72 rfl rfl ?_
      refine Sm.iconst dX10_endsFactor_75 ic_1 rfl ?_
      refine Sm.isub dX10_endsFactor_76 rfl ?_
      refine Sm.ca (fun q22 => ?_)
      refine Sm.iald q22 dX10_endsFactor_77 rfl ?_
      exact Sm.ret dX10_endsFactor_78 trivial rfl
    · refine Sm.aload_n dX10_endsFactor_79 rfl rfl rfl ?_
      refine Sm.bipush dX10_endsFactor_80 bp_53 rfl ?_
      refine kc_X10_127 o17 dX10_endsFactor_82 rfl (Nat.le_of_ble_eq_true rfl) (Nat.le_of_ble_eq_true rfl) rfl (fun _ h23 => ?_)
      refine Sm.aload_n dX10_endsFactor_85 rfl rfl rfl ?_
      refine Sm.dup dX10_endsFactor_86 rfl rfl ?_
      refine Sm.ck (fun o24 => ?_)
      refine gf_X10_134 o24 dX10_endsFactor_87 rfl rfl ?_
      refine Sm.iconst dX10_endsFactor_90 ic_1 rfl ?_
      refine Sm.isub dX10_endsFactor_91 rfl ?_
      refine pf_X10_134 o24 dX10_endsFactor_92 rfl rfl ?_
      refine Sm.aload_n dX10_endsFactor_95 rfl rfl rfl ?_
      refine gf_X10_25 o24 dX10_endsFactor_96 rfl rfl (fun v25 => ?_)
      refine Sm.aload_n dX10_endsFactor_99 rfl rfl rfl ?_
      refine gf_X10_113 o24 dX10_endsFactor_100 rfl rfl ?_
      refine Sm.iconst dX10_endsFactor_103 ic_1 rfl ?_
      refine Sm.isub dX10_endsFactor_104 rfl ?_
      refine Sm.aload_n dX10_endsFactor_105 rfl rfl rfl ?_
      refine gf_X10_34 o24 dX10_endsFactor_106 rfl rfl (fun v26 => ?_)
      refine Sm.aload_n dX10_endsFactor_109 rfl rfl rfl ?_
      refine gf_X10_134 o24 dX10_endsFactor_110 rfl rfl ?_
      refine Sm.ca (fun q27 => ?_)
      refine Sm.iald q27 dX10_endsFactor_113 rfl ?_
      refine Sm.ca (fun q28 => ?_)
      refine Sm.iast q28 dX10_endsFactor_114 rfl ?_
      refine Sm.nmH (fun h29 e30 e31 => ?_)
      refine Sm.goto (t := 44) dX10_endsFactor_115 (by decide) ?_
      exact Sm.wk (hk44 h29) ⟨Or.inr rfl, trivial⟩
  · refine Sm.iconst dX10_endsFactor_118 ic_m1 rfl ?_
    exact Sm.ret dX10_endsFactor_119 trivial rfl
def f_X10_endsFactor_0 (k0 : Hp → Option (Int32 × Hp)) (l0 : Nat) (h : Hp) : Option (Int32 × Hp) :=
  (ck h l0 10
(bd (f_X10_byteAt l0 (gI h l0 11) h) fun v2 h3 =>
(if v2 = (42 : Int32) then
(ck h3 l0 10
(bd (f_X10_makes l0 (52 : Int32) h3) fun _ h6 =>
(ck h6 l0 10
((gP h6 l0 9).bind fun v8 =>
(ca h6 v8 20 ((gI h6 l0 10) - (1 : Int32))
(nm (sI (sI h6 v8 ((gI h6 l0 10) - (1 : Int32)).toNatClampNeg (0 : Int32)) l0 11 ((gI (sI h6 v8 ((gI h6 l0 10) - (1 : Int32)).toNatClampNeg (0 : Int32)) l0 11) + (1 : Int32))) fun h10 =>
(k0 h10)))))))
else
(loopN (fun k s => f_X10_endsFactor_44 k l0 s) 5000 h3))))
set_option maxRecDepth 20000 in
theorem t_X10_endsFactor_0 (l0 : Nat) (h : Hp) (k0 : Hp → Option (Int32 × Hp)) (hk0 : ∀ s : Hp, Sm rvI g_X10_endsFactor 0 [.ref l0] [] s (k0 s)) : Sm rvI g_X10_endsFactor 0 [.ref l0] [] h (f_X10_endsFactor_0 k0 l0 h) := by
  unfold f_X10_endsFactor_0
  refine Sm.aload_n dX10_endsFactor_0 rfl rfl rfl ?_
  refine Sm.aload_n dX10_endsFactor_1 rfl rfl rfl ?_
  refine Sm.ck (fun o1 => ?_)
  refine gf_X10_137 o1 dX10_endsFactor_2 rfl rfl ?_
  refine kc_X10_140 o1 dX10_endsFactor_5 rfl (Nat.le_of_ble_eq_true rfl) (Nat.le_of_ble_eq_true rfl) rfl (fun v2 h3 => ?_)
  refine Sm.bipush dX10_endsFactor_8 bp_42 rfl ?_
  refine Sm.icmp_ne (t := 44) dX10_endsFactor_10 (by decide) rfl (fun b4 => ?_) (fun b4 => ?_)
  · refine Sm.aload_n dX10_endsFactor_13 rfl rfl rfl ?_
    refine Sm.bipush dX10_endsFactor_14 bp_52 rfl ?_
    refine Sm.ck (fun o5 => ?_)
    refine kc_X10_127 o5 dX10_endsFactor_16 rfl (Nat.le_of_ble_eq_true rfl) (Nat.le_of_ble_eq_true rfl) rfl (fun _ h6 => ?_)
    refine Sm.aload_n dX10_endsFactor_19 rfl rfl rfl ?_
    refine Sm.ck (fun o7 => ?_)
    refine gf_X10_28 o7 dX10_endsFactor_20 rfl rfl (fun v8 => ?_)
    refine Sm.aload_n dX10_endsFactor_23 rfl rfl rfl ?_
    refine gf_X10_113 o7 dX10_endsFactor_24 rfl rfl ?_
    refine Sm.iconst dX10_endsFactor_27 ic_1 rfl ?_
    refine Sm.isub dX10_endsFactor_28 rfl ?_
    refine Sm.iconst dX10_endsFactor_29 ic_0 rfl ?_
    refine Sm.ca (fun q9 => ?_)
    refine Sm.iast q9 dX10_endsFactor_30 rfl ?_
    refine Sm.aload_n dX10_endsFactor_31 rfl rfl rfl ?_
    refine Sm.dup dX10_endsFactor_32 rfl rfl ?_
    refine gf_X10_137 o7 dX10_endsFactor_33 rfl rfl ?_
    refine Sm.iconst dX10_endsFactor_36 ic_1 rfl ?_
    refine Sm.iadd dX10_endsFactor_37 rfl ?_
    refine pf_X10_137 o7 dX10_endsFactor_38 rfl rfl ?_
    refine Sm.nmH (fun h10 e11 e12 => ?_)
    refine Sm.goto (t := 0) dX10_endsFactor_41 (by decide) ?_
    exact Sm.wk (hk0 h10) ⟨Or.inr rfl, trivial⟩
  · exact Sm.wk (Sm.loop (σ := Hp) (LV := fun s => [.ref l0]) (HH := fun s => s) (fun k hk s => t_X10_endsFactor_44 l0 s k hk) 5000 h3) ⟨Or.inr rfl, trivial⟩
def f_X10_endsFactor (l0 : Nat) (h : Hp) : Option (Int32 × Hp) :=
  (loopN (fun k s => f_X10_endsFactor_0 k l0 s) 5000 h)
set_option maxRecDepth 20000 in
theorem t_X10_endsFactor (l0 : Nat) (h : Hp) : Sm rvI g_X10_endsFactor 0 (ent 1 [.ref l0]) [] h (f_X10_endsFactor l0 h) := by
  show Sm rvI g_X10_endsFactor 0 [.ref l0] [] h _
  unfold f_X10_endsFactor
  exact Sm.wk (Sm.loop (σ := Hp) (LV := fun s => [.ref l0]) (HH := fun s => s) (fun k hk s => t_X10_endsFactor_0 l0 s k hk) 5000 h) ⟨Or.inr rfl, trivial⟩
set_option maxRecDepth 20000 in
theorem kc_X10_173 {ρ : Type} {rv : ρ → Option Value} {G : Gx} {pc q : Nat} {lv st : List Value} {h : Hp} {a : Nat} {e : Int32 → Hp → Option (ρ × Hp)} (hk : isO h a 10) (d : decode G.2.1 pc = .ok (.invokevirtual 173, 3)) (ho : G.1.cls = RX10) (hdep : (g_X10_endsFactor).2.2.2.2 < G.2.2.2.2) (hcat : catS st ≤ 8) (hq : pc + 3 = q) (k : ∀ r h1, Sm rv G q lv (.int r :: st) h1 (e r h1)) : Sm rv G pc lv (.ref a :: st) h (bd (f_X10_endsFactor a h) e) :=
  Sm.callV (rv' := rvI) (args := []) (n := 0) (t_X10_endsFactor a h) hk (by decide) (r := (RX10, TX10, 43)) rfl rfl ho mw_1090 mw_1092 mp_61 mw_11 mw_1093 ⟨⟨by decide, rfl, hdep, Nat.le_of_ble_eq_true rfl⟩, Nat.le_of_ble_eq_true rfl, rfl, ⟨by decide, by decide⟩, hcat⟩ (by decide +kernel) (fun v hv => by cases hv) d hq k rfl
abbrev g_X10_joinsTwo : Gx := (yX10_joinsTwo, cX10_joinsTwo, 2, (Option.none : Option FieldType), 1)
def f_X10_joinsTwo (l0 : Nat) (l1 : Int32) (h : Hp) : Option (Unit × Hp) :=
  (ck h l0 10
(nm (sI (sI h l0 14 ((gI h l0 14) - (1 : Int32))) l0 10 ((gI (sI h l0 14 ((gI h l0 14) - (1 : Int32))) l0 10) - (1 : Int32))) fun h2 =>
((gP h2 l0 9).bind fun v5 =>
(nm ((gI h2 l0 10) - (1 : Int32)) fun v6 =>
(ca h2 v5 20 v6
((gP h2 l0 9).bind fun v8 =>
(ca h2 v8 20 (gI h2 l0 10)
(ca h2 v5 20 v6
(bd (f_X10_makes l0 l1 (sI h2 v5 v6.toNatClampNeg ((gI h2 v5 v6.toNatClampNeg) &&& (gI h2 v8 (gI h2 l0 10).toNatClampNeg)))) fun _ h11 =>
(some ((), h11)))))))))))
set_option maxRecDepth 20000 in
theorem t_X10_joinsTwo (l0 : Nat) (l1 : Int32) (h : Hp) : Sm rvV g_X10_joinsTwo 0 (ent 2 [.ref l0, .int l1]) [] h (f_X10_joinsTwo l0 l1 h) := by
  show Sm rvV g_X10_joinsTwo 0 [.ref l0, .int l1] [] h _
  unfold f_X10_joinsTwo
  refine Sm.aload_n dX10_joinsTwo_0 rfl rfl rfl ?_
  refine Sm.dup dX10_joinsTwo_1 rfl rfl ?_
  refine Sm.ck (fun o1 => ?_)
  refine gf_X10_134 o1 dX10_joinsTwo_2 rfl rfl ?_
  refine Sm.iconst dX10_joinsTwo_5 ic_1 rfl ?_
  refine Sm.isub dX10_joinsTwo_6 rfl ?_
  refine pf_X10_134 o1 dX10_joinsTwo_7 rfl rfl ?_
  refine Sm.aload_n dX10_joinsTwo_10 rfl rfl rfl ?_
  refine Sm.dup dX10_joinsTwo_11 rfl rfl ?_
  refine gf_X10_113 o1 dX10_joinsTwo_12 rfl rfl ?_
  refine Sm.iconst dX10_joinsTwo_15 ic_1 rfl ?_
  refine Sm.isub dX10_joinsTwo_16 rfl ?_
  refine pf_X10_113 o1 dX10_joinsTwo_17 rfl rfl ?_
  refine Sm.nmH (fun h2 e3 e4 => ?_)
  refine Sm.aload_n dX10_joinsTwo_20 rfl rfl rfl ?_
  refine gf_X10_28 (isO.tr e3 e4 o1) dX10_joinsTwo_21 rfl rfl (fun v5 => ?_)
  refine Sm.aload_n dX10_joinsTwo_24 rfl rfl rfl ?_
  refine gf_X10_113 (isO.tr e3 e4 o1) dX10_joinsTwo_25 rfl rfl ?_
  refine Sm.iconst dX10_joinsTwo_28 ic_1 rfl ?_
  refine Sm.isub dX10_joinsTwo_29 rfl ?_
  refine Sm.nm (LV := fun v6 => [.ref l0, .int l1]) (ST := fun v6 => [.int v6, .ref v5]) (fun v6 => ?_)
  refine Sm.dup2 dX10_joinsTwo_30 rfl rfl rfl ?_
  refine Sm.ca (fun q7 => ?_)
  refine Sm.iald q7 dX10_joinsTwo_31 rfl ?_
  refine Sm.aload_n dX10_joinsTwo_32 rfl rfl rfl ?_
  refine gf_X10_28 (isO.tr e3 e4 o1) dX10_joinsTwo_33 rfl rfl (fun v8 => ?_)
  refine Sm.aload_n dX10_joinsTwo_36 rfl rfl rfl ?_
  refine gf_X10_113 (isO.tr e3 e4 o1) dX10_joinsTwo_37 rfl rfl ?_
  refine Sm.ca (fun q9 => ?_)
  refine Sm.iald q9 dX10_joinsTwo_40 rfl ?_
  refine Sm.iand dX10_joinsTwo_41 rfl ?_
  refine Sm.ca (fun q10 => ?_)
  refine Sm.iast q10 dX10_joinsTwo_42 rfl ?_
  refine Sm.aload_n dX10_joinsTwo_43 rfl rfl rfl ?_
  refine Sm.iload_n dX10_joinsTwo_44 rfl rfl rfl ?_
  refine kc_X10_127 (isO.tr e3 e4 o1) dX10_joinsTwo_45 rfl (Nat.le_of_ble_eq_true rfl) (Nat.le_of_ble_eq_true rfl) rfl (fun _ h11 => ?_)
  exact Sm.ret (r := ()) dX10_joinsTwo_48 trivial rfl
set_option maxRecDepth 20000 in
theorem kc_X10_156 {ρ : Type} {rv : ρ → Option Value} {G : Gx} {pc q : Nat} {lv st : List Value} {h : Hp} {a : Nat} {x1 : Int32} {e : Unit → Hp → Option (ρ × Hp)} (hk : isO h a 10) (d : decode G.2.1 pc = .ok (.invokevirtual 156, 3)) (ho : G.1.cls = RX10) (hdep : (g_X10_joinsTwo).2.2.2.2 < G.2.2.2.2) (hcat : catS st ≤ 8) (hq : pc + 3 = q) (k : ∀ r h1, Sm rv G q lv (st) h1 (e r h1)) : Sm rv G pc lv (.int x1 :: .ref a :: st) h (bd (f_X10_joinsTwo a x1 h) e) :=
  Sm.callV (rv' := rvV) (args := [.int x1]) (n := 1) (t_X10_joinsTwo a x1 h) hk (by decide) (r := (RX10, TX10, 43)) rfl rfl ho mw_1106 mw_1108 mp_65 mw_11 mw_1109 ⟨⟨by decide, rfl, hdep, Nat.le_of_ble_eq_true rfl⟩, Nat.le_of_ble_eq_true rfl, rfl, ⟨by decide, by decide⟩, hcat⟩ (by decide +kernel) (by intro v hv; simp only [List.mem_cons, List.not_mem_nil, or_false] at hv; rcases hv with rfl <;> intro x hx <;> cases hx) d hq k rfl
abbrev g_X10_joins : Gx := (yX10_joins, cX10_joins, 2, (Option.none : Option FieldType), 2)
def f_X10_joins_39 (k0 : Hp → Option (Unit × Hp)) (l0 : Nat) (l1 : Int32) (s0 : Nat) (s1 : Int32) (h : Hp) : Option (Unit × Hp) :=
  (ck h s0 10
(bd (f_X10_joinsTwo s0 s1 h) fun _ h10 =>
(k0 h10)))
set_option maxRecDepth 20000 in
theorem t_X10_joins_39 (l0 : Nat) (l1 : Int32) (s0 : Nat) (s1 : Int32) (h : Hp) (k0 : Hp → Option (Unit × Hp)) (hk0 : ∀ s : Hp, Sm rvV g_X10_joins 0 [.ref l0, .int l1] [] s (k0 s)) : Sm rvV g_X10_joins 39 [.ref l0, .int l1] [.int s1, .ref s0] h (f_X10_joins_39 k0 l0 l1 s0 s1 h) := by
  unfold f_X10_joins_39
  refine Sm.ck (fun o9 => ?_)
  refine kc_X10_156 o9 dX10_joins_39 rfl (Nat.le_of_ble_eq_true rfl) (Nat.le_of_ble_eq_true rfl) rfl (fun _ h10 => ?_)
  refine Sm.goto (t := 0) dX10_joins_42 (by decide) ?_
  exact Sm.wk (hk0 h10) ⟨Or.inr rfl, Or.inr rfl, trivial⟩
def f_X10_joins_22 (k0 : Hp → Option (Unit × Hp)) (l0 : Nat) (l1 : Int32) (h : Hp) : Option (Unit × Hp) :=
  (ck h l0 10
(bd (f_X10_lastOpen l0 h) fun v6 h7 =>
(if v6 = (46 : Int32) then
(f_X10_joins_39 k0 l0 l1 l0 (51 : Int32) h7)
else
(f_X10_joins_39 k0 l0 l1 l0 (50 : Int32) h7))))
set_option maxRecDepth 20000 in
theorem t_X10_joins_22 (l0 : Nat) (l1 : Int32) (h : Hp) (k0 : Hp → Option (Unit × Hp)) (hk0 : ∀ s : Hp, Sm rvV g_X10_joins 0 [.ref l0, .int l1] [] s (k0 s)) : Sm rvV g_X10_joins 22 [.ref l0, .int l1] [] h (f_X10_joins_22 k0 l0 l1 h) := by
  unfold f_X10_joins_22
  refine Sm.aload_n dX10_joins_22 rfl rfl rfl ?_
  refine Sm.aload_n dX10_joins_23 rfl rfl rfl ?_
  refine Sm.ck (fun o5 => ?_)
  refine kc_X10_152 o5 dX10_joins_24 rfl (Nat.le_of_ble_eq_true rfl) (Nat.le_of_ble_eq_true rfl) rfl (fun v6 h7 => ?_)
  refine Sm.bipush dX10_joins_27 bp_46 rfl ?_
  refine Sm.icmp_ne (t := 37) dX10_joins_29 (by decide) rfl (fun b8 => ?_) (fun b8 => ?_)
  · refine Sm.bipush dX10_joins_32 bp_51 rfl ?_
    refine Sm.goto (t := 39) dX10_joins_34 (by decide) ?_
    exact Sm.wk (t_X10_joins_39 l0 l1 l0 (51 : Int32) h7 k0 hk0) ⟨Or.inr rfl, Or.inr rfl, trivial⟩
  · refine Sm.bipush dX10_joins_37 bp_50 rfl ?_
    exact Sm.wk (t_X10_joins_39 l0 l1 l0 (50 : Int32) h7 k0 hk0) ⟨Or.inr rfl, Or.inr rfl, trivial⟩
def f_X10_joins_0 (k0 : Hp → Option (Unit × Hp)) (l0 : Nat) (l1 : Int32) (h : Hp) : Option (Unit × Hp) :=
  (ck h l0 10
(bd (f_X10_lastOpen l0 h) fun v2 h3 =>
(if v2 = (46 : Int32) then
(f_X10_joins_22 k0 l0 l1 h3)
else
(if l1 = 0 then
(some ((), h3))
else
(ck h3 l0 10
(bd (f_X10_lastOpen l0 h3) fun v13 h14 =>
(if v13 = (43 : Int32) then
(f_X10_joins_22 k0 l0 l1 h14)
else
(some ((), h14)))))))))
set_option maxRecDepth 20000 in
theorem t_X10_joins_0 (l0 : Nat) (l1 : Int32) (h : Hp) (k0 : Hp → Option (Unit × Hp)) (hk0 : ∀ s : Hp, Sm rvV g_X10_joins 0 [.ref l0, .int l1] [] s (k0 s)) : Sm rvV g_X10_joins 0 [.ref l0, .int l1] [] h (f_X10_joins_0 k0 l0 l1 h) := by
  unfold f_X10_joins_0
  refine Sm.aload_n dX10_joins_0 rfl rfl rfl ?_
  refine Sm.ck (fun o1 => ?_)
  refine kc_X10_152 o1 dX10_joins_1 rfl (Nat.le_of_ble_eq_true rfl) (Nat.le_of_ble_eq_true rfl) rfl (fun v2 h3 => ?_)
  refine Sm.bipush dX10_joins_4 bp_46 rfl ?_
  refine Sm.icmp_eq (t := 22) dX10_joins_6 (by decide) rfl (fun b4 => ?_) (fun b4 => ?_)
  · exact Sm.wk (t_X10_joins_22 l0 l1 h3 k0 hk0) ⟨Or.inr rfl, Or.inr rfl, trivial⟩
  · refine Sm.iload_n dX10_joins_9 rfl rfl rfl ?_
    refine Sm.if_eq (t := 45) dX10_joins_10 (by decide) rfl (fun b11 => ?_) (fun b11 => ?_)
    · exact Sm.ret (r := ()) dX10_joins_45 trivial rfl
    · refine Sm.aload_n dX10_joins_13 rfl rfl rfl ?_
      refine Sm.ck (fun o12 => ?_)
      refine kc_X10_152 o12 dX10_joins_14 rfl (Nat.le_of_ble_eq_true rfl) (Nat.le_of_ble_eq_true rfl) rfl (fun v13 h14 => ?_)
      refine Sm.bipush dX10_joins_17 bp_43 rfl ?_
      refine Sm.icmp_ne (t := 45) dX10_joins_19 (by decide) rfl (fun b15 => ?_) (fun b15 => ?_)
      · exact Sm.wk (t_X10_joins_22 l0 l1 h14 k0 hk0) ⟨Or.inr rfl, Or.inr rfl, trivial⟩
      · exact Sm.ret (r := ()) dX10_joins_45 trivial rfl
def f_X10_joins (l0 : Nat) (l1 : Int32) (h : Hp) : Option (Unit × Hp) :=
  (loopN (fun k s => f_X10_joins_0 k l0 l1 s) 5000 h)
set_option maxRecDepth 20000 in
theorem t_X10_joins (l0 : Nat) (l1 : Int32) (h : Hp) : Sm rvV g_X10_joins 0 (ent 2 [.ref l0, .int l1]) [] h (f_X10_joins l0 l1 h) := by
  show Sm rvV g_X10_joins 0 [.ref l0, .int l1] [] h _
  unfold f_X10_joins
  exact Sm.wk (Sm.loop (σ := Hp) (LV := fun s => [.ref l0, .int l1]) (HH := fun s => s) (fun k hk s => t_X10_joins_0 l0 l1 s k hk) 5000 h) ⟨Or.inr rfl, Or.inr rfl, trivial⟩
set_option maxRecDepth 20000 in
theorem kc_X10_159 {ρ : Type} {rv : ρ → Option Value} {G : Gx} {pc q : Nat} {lv st : List Value} {h : Hp} {a : Nat} {x1 : Int32} {e : Unit → Hp → Option (ρ × Hp)} (hk : isO h a 10) (d : decode G.2.1 pc = .ok (.invokevirtual 159, 3)) (ho : G.1.cls = RX10) (hdep : (g_X10_joins).2.2.2.2 < G.2.2.2.2) (hcat : catS st ≤ 8) (hq : pc + 3 = q) (k : ∀ r h1, Sm rv G q lv (st) h1 (e r h1)) : Sm rv G pc lv (.int x1 :: .ref a :: st) h (bd (f_X10_joins a x1 h) e) :=
  Sm.callV (rv' := rvV) (args := [.int x1]) (n := 1) (t_X10_joins a x1 h) hk (by decide) (r := (RX10, TX10, 43)) rfl rfl ho mw_1102 mw_1104 mp_64 mw_11 mw_1105 ⟨⟨by decide, rfl, hdep, Nat.le_of_ble_eq_true rfl⟩, Nat.le_of_ble_eq_true rfl, rfl, ⟨by decide, by decide⟩, hcat⟩ (by decide +kernel) (by intro v hv; simp only [List.mem_cons, List.not_mem_nil, or_false] at hv; rcases hv with rfl <;> intro x hx <;> cases hx) d hq k rfl
abbrev g_X10_behind : Gx := (yX10_behind, cX10_behind, 4, (Option.some FieldType.int), 3)
def f_X10_behind_77 (l0 : Nat) (l1 : Int32) (h : Hp) : Option (Int32 × Hp) :=
  (ck h l0 10
(bd (f_X10_pushes l0 l1 h) fun _ h22 =>
(ck h22 l0 10
(some ((-1 : Int32), (sI (sI h22 l0 11 ((gI h22 l0 11) + (1 : Int32))) l0 16 (1 : Int32)))))))
set_option maxRecDepth 20000 in
theorem t_X10_behind_77 (l0 : Nat) (l1 : Int32) (h : Hp) : Sm rvI g_X10_behind 77 [.ref l0, .int l1, .null, .null] [] h (f_X10_behind_77 l0 l1 h) := by
  unfold f_X10_behind_77
  refine Sm.aload_n dX10_behind_77 rfl rfl rfl ?_
  refine Sm.iload_n dX10_behind_78 rfl rfl rfl ?_
  refine Sm.ck (fun o21 => ?_)
  refine kc_X10_143 o21 dX10_behind_79 rfl (Nat.le_of_ble_eq_true rfl) (Nat.le_of_ble_eq_true rfl) rfl (fun _ h22 => ?_)
  refine Sm.aload_n dX10_behind_82 rfl rfl rfl ?_
  refine Sm.dup dX10_behind_83 rfl rfl ?_
  refine Sm.ck (fun o23 => ?_)
  refine gf_X10_137 o23 dX10_behind_84 rfl rfl ?_
  refine Sm.iconst dX10_behind_87 ic_1 rfl ?_
  refine Sm.iadd dX10_behind_88 rfl ?_
  refine pf_X10_137 o23 dX10_behind_89 rfl rfl ?_
  refine Sm.aload_n dX10_behind_92 rfl rfl rfl ?_
  refine Sm.iconst dX10_behind_93 ic_1 rfl ?_
  refine pf_X10_163 o23 dX10_behind_94 rfl rfl ?_
  refine Sm.iconst dX10_behind_97 ic_m1 rfl ?_
  exact Sm.ret dX10_behind_98 trivial rfl
def f_X10_behind_56 (l0 : Nat) (l1 : Int32) (h : Hp) : Option (Int32 × Hp) :=
  (if l1 = (43 : Int32) then
(ck h l0 10
(bd (f_X10_lastOpen l0 h) fun v16 h17 =>
(if v16 = (43 : Int32) then
(ck h17 l0 10
(bd (f_X10_joinsTwo l0 (50 : Int32) h17) fun _ h20 =>
(f_X10_behind_77 l0 l1 h20)))
else
(f_X10_behind_77 l0 l1 h17))))
else
(f_X10_behind_77 l0 l1 h))
set_option maxRecDepth 20000 in
theorem t_X10_behind_56 (l0 : Nat) (l1 : Int32) (h : Hp) : Sm rvI g_X10_behind 56 [.ref l0, .int l1, .null, .null] [] h (f_X10_behind_56 l0 l1 h) := by
  unfold f_X10_behind_56
  refine Sm.iload_n dX10_behind_56 rfl rfl rfl ?_
  refine Sm.bipush dX10_behind_57 bp_43 rfl ?_
  refine Sm.icmp_ne (t := 77) dX10_behind_59 (by decide) rfl (fun b14 => ?_) (fun b14 => ?_)
  · refine Sm.aload_n dX10_behind_62 rfl rfl rfl ?_
    refine Sm.ck (fun o15 => ?_)
    refine kc_X10_152 o15 dX10_behind_63 rfl (Nat.le_of_ble_eq_true rfl) (Nat.le_of_ble_eq_true rfl) rfl (fun v16 h17 => ?_)
    refine Sm.bipush dX10_behind_66 bp_43 rfl ?_
    refine Sm.icmp_ne (t := 77) dX10_behind_68 (by decide) rfl (fun b18 => ?_) (fun b18 => ?_)
    · refine Sm.aload_n dX10_behind_71 rfl rfl rfl ?_
      refine Sm.bipush dX10_behind_72 bp_50 rfl ?_
      refine Sm.ck (fun o19 => ?_)
      refine kc_X10_156 o19 dX10_behind_74 rfl (Nat.le_of_ble_eq_true rfl) (Nat.le_of_ble_eq_true rfl) rfl (fun _ h20 => ?_)
      exact Sm.wk (t_X10_behind_77 l0 l1 h20) ⟨Or.inr rfl, Or.inr rfl, Or.inl rfl, Or.inl rfl, trivial⟩
    · exact Sm.wk (t_X10_behind_77 l0 l1 h17) ⟨Or.inr rfl, Or.inr rfl, Or.inl rfl, Or.inl rfl, trivial⟩
  · exact Sm.wk (t_X10_behind_77 l0 l1 h) ⟨Or.inr rfl, Or.inr rfl, Or.inl rfl, Or.inl rfl, trivial⟩
def f_X10_behind_33 (l0 : Nat) (l1 : Int32) (s0 : Nat) (s1 : Int32) (h : Hp) : Option (Int32 × Hp) :=
  (ck h s0 10
(bd (f_X10_joins s0 s1 h) fun _ h7 =>
(if l1 = (46 : Int32) then
(ck h7 l0 10
(bd (f_X10_lastOpen l0 h7) fun v10 h11 =>
(if v10 = (46 : Int32) then
(ck h11 l0 10
(some ((gI h11 l0 11), h11)))
else
(f_X10_behind_56 l0 l1 h11))))
else
(f_X10_behind_56 l0 l1 h7))))
set_option maxRecDepth 20000 in
theorem t_X10_behind_33 (l0 : Nat) (l1 : Int32) (s0 : Nat) (s1 : Int32) (h : Hp) : Sm rvI g_X10_behind 33 [.ref l0, .int l1, .null, .null] [.int s1, .ref s0] h (f_X10_behind_33 l0 l1 s0 s1 h) := by
  unfold f_X10_behind_33
  refine Sm.ck (fun o6 => ?_)
  refine kc_X10_159 o6 dX10_behind_33 rfl (Nat.le_of_ble_eq_true rfl) (Nat.le_of_ble_eq_true rfl) rfl (fun _ h7 => ?_)
  refine Sm.iload_n dX10_behind_36 rfl rfl rfl ?_
  refine Sm.bipush dX10_behind_37 bp_46 rfl ?_
  refine Sm.icmp_ne (t := 56) dX10_behind_39 (by decide) rfl (fun b8 => ?_) (fun b8 => ?_)
  · refine Sm.aload_n dX10_behind_42 rfl rfl rfl ?_
    refine Sm.ck (fun o9 => ?_)
    refine kc_X10_152 o9 dX10_behind_43 rfl (Nat.le_of_ble_eq_true rfl) (Nat.le_of_ble_eq_true rfl) rfl (fun v10 h11 => ?_)
    refine Sm.bipush dX10_behind_46 bp_46 rfl ?_
    refine Sm.icmp_ne (t := 56) dX10_behind_48 (by decide) rfl (fun b12 => ?_) (fun b12 => ?_)
    · refine Sm.aload_n dX10_behind_51 rfl rfl rfl ?_
      refine Sm.ck (fun o13 => ?_)
      refine gf_X10_137 o13 dX10_behind_52 rfl rfl ?_
      exact Sm.ret dX10_behind_55 trivial rfl
    · exact Sm.wk (t_X10_behind_56 l0 l1 h11) ⟨Or.inr rfl, Or.inr rfl, Or.inl rfl, Or.inl rfl, trivial⟩
  · exact Sm.wk (t_X10_behind_56 l0 l1 h7) ⟨Or.inr rfl, Or.inr rfl, Or.inl rfl, Or.inl rfl, trivial⟩
def f_X10_behind_21 (l0 : Nat) (l1 : Int32) (h : Hp) : Option (Int32 × Hp) :=
  (if l1 = (43 : Int32) then
(f_X10_behind_33 l0 l1 l0 (1 : Int32) h)
else
(f_X10_behind_33 l0 l1 l0 (0 : Int32) h))
set_option maxRecDepth 20000 in
theorem t_X10_behind_21 (l0 : Nat) (l1 : Int32) (h : Hp) : Sm rvI g_X10_behind 21 [.ref l0, .int l1, .null, .null] [] h (f_X10_behind_21 l0 l1 h) := by
  unfold f_X10_behind_21
  refine Sm.aload_n dX10_behind_21 rfl rfl rfl ?_
  refine Sm.iload_n dX10_behind_22 rfl rfl rfl ?_
  refine Sm.bipush dX10_behind_23 bp_43 rfl ?_
  refine Sm.icmp_ne (t := 32) dX10_behind_25 (by decide) rfl (fun b5 => ?_) (fun b5 => ?_)
  · refine Sm.iconst dX10_behind_28 ic_1 rfl ?_
    refine Sm.goto (t := 33) dX10_behind_29 (by decide) ?_
    exact Sm.wk (t_X10_behind_33 l0 l1 l0 (1 : Int32) h) ⟨Or.inr rfl, Or.inr rfl, Or.inl rfl, Or.inl rfl, trivial⟩
  · refine Sm.iconst dX10_behind_32 ic_0 rfl ?_
    exact Sm.wk (t_X10_behind_33 l0 l1 l0 (0 : Int32) h) ⟨Or.inr rfl, Or.inr rfl, Or.inl rfl, Or.inl rfl, trivial⟩
def f_X10_behind_399 (l0 : Nat) (h : Hp) : Option (Int32 × Hp) :=
  (ck h l0 10
(some ((-1 : Int32), (sI h l0 11 ((gI h l0 11) + (1 : Int32))))))
set_option maxRecDepth 20000 in
theorem t_X10_behind_399 (l0 : Nat) (h : Hp) : Sm rvI g_X10_behind 399 [.ref l0, .null, .null, .null] [] h (f_X10_behind_399 l0 h) := by
  unfold f_X10_behind_399
  refine Sm.aload_n dX10_behind_399 rfl rfl rfl ?_
  refine Sm.dup dX10_behind_400 rfl rfl ?_
  refine Sm.ck (fun o53 => ?_)
  refine gf_X10_137 o53 dX10_behind_401 rfl rfl ?_
  refine Sm.iconst dX10_behind_404 ic_1 rfl ?_
  refine Sm.iadd dX10_behind_405 rfl ?_
  refine pf_X10_137 o53 dX10_behind_406 rfl rfl ?_
  refine Sm.iconst dX10_behind_409 ic_m1 rfl ?_
  exact Sm.ret dX10_behind_410 trivial rfl
def f_X10_behind_236 (l0 : Nat) (l1 : Int32) (l2 : Int32) (s0 : Int32) (h : Hp) : Option (Int32 × Hp) :=
  (if s0 = 0 then
(ck h l0 10
(some ((gI h l0 11), h)))
else
(if l2 = (40 : Int32) then
(ck h l0 10
((gP (sI h l0 14 ((gI h l0 14) - (1 : Int32))) l0 8).bind fun v46 =>
((gP (sI h l0 14 ((gI h l0 14) - (1 : Int32))) l0 13).bind fun v47 =>
(ca (sI h l0 14 ((gI h l0 14) - (1 : Int32))) v47 20 (gI (sI h l0 14 ((gI h l0 14) - (1 : Int32))) l0 14)
(ca (sI h l0 14 ((gI h l0 14) - (1 : Int32))) v46 20 ((gI (sI h l0 14 ((gI h l0 14) - (1 : Int32))) l0 10) - (1 : Int32))
(nm (sI (sI h l0 14 ((gI h l0 14) - (1 : Int32))) v46 ((gI (sI h l0 14 ((gI h l0 14) - (1 : Int32))) l0 10) - (1 : Int32)).toNatClampNeg (gI (sI h l0 14 ((gI h l0 14) - (1 : Int32))) v47 (gI (sI h l0 14 ((gI h l0 14) - (1 : Int32))) l0 14).toNatClampNeg)) fun h50 =>
(f_X10_behind_399 l0 (sI h50 l0 16 (2 : Int32)))))))))
else
(if l2 = (124 : Int32) then
(ck h l0 10
(nm (sI (sI h l0 14 ((gI h l0 14) - (1 : Int32))) l0 10 ((gI (sI h l0 14 ((gI h l0 14) - (1 : Int32))) l0 10) - (2 : Int32))) fun h56 =>
((gP h56 l0 9).bind fun v59 =>
((gP h56 l0 9).bind fun v60 =>
(ca h56 v60 20 (gI h56 l0 10)
((gP h56 l0 9).bind fun v62 =>
(ca h56 v62 20 ((gI h56 l0 10) + (1 : Int32))
(ca h56 v59 20 ((gI h56 l0 10) - (1 : Int32))
((gP (sI h56 v59 ((gI h56 l0 10) - (1 : Int32)).toNatClampNeg ((gI h56 v60 (gI h56 l0 10).toNatClampNeg) &&& (gI h56 v62 ((gI h56 l0 10) + (1 : Int32)).toNatClampNeg))) l0 8).bind fun v65 =>
((gP (sI h56 v59 ((gI h56 l0 10) - (1 : Int32)).toNatClampNeg ((gI h56 v60 (gI h56 l0 10).toNatClampNeg) &&& (gI h56 v62 ((gI h56 l0 10) + (1 : Int32)).toNatClampNeg))) l0 13).bind fun v66 =>
(ca (sI h56 v59 ((gI h56 l0 10) - (1 : Int32)).toNatClampNeg ((gI h56 v60 (gI h56 l0 10).toNatClampNeg) &&& (gI h56 v62 ((gI h56 l0 10) + (1 : Int32)).toNatClampNeg))) v66 20 (gI (sI h56 v59 ((gI h56 l0 10) - (1 : Int32)).toNatClampNeg ((gI h56 v60 (gI h56 l0 10).toNatClampNeg) &&& (gI h56 v62 ((gI h56 l0 10) + (1 : Int32)).toNatClampNeg))) l0 14)
(ca (sI h56 v59 ((gI h56 l0 10) - (1 : Int32)).toNatClampNeg ((gI h56 v60 (gI h56 l0 10).toNatClampNeg) &&& (gI h56 v62 ((gI h56 l0 10) + (1 : Int32)).toNatClampNeg))) v65 20 ((gI (sI h56 v59 ((gI h56 l0 10) - (1 : Int32)).toNatClampNeg ((gI h56 v60 (gI h56 l0 10).toNatClampNeg) &&& (gI h56 v62 ((gI h56 l0 10) + (1 : Int32)).toNatClampNeg))) l0 10) - (1 : Int32))
(nm (sI (sI h56 v59 ((gI h56 l0 10) - (1 : Int32)).toNatClampNeg ((gI h56 v60 (gI h56 l0 10).toNatClampNeg) &&& (gI h56 v62 ((gI h56 l0 10) + (1 : Int32)).toNatClampNeg))) v65 ((gI (sI h56 v59 ((gI h56 l0 10) - (1 : Int32)).toNatClampNeg ((gI h56 v60 (gI h56 l0 10).toNatClampNeg) &&& (gI h56 v62 ((gI h56 l0 10) + (1 : Int32)).toNatClampNeg))) l0 10) - (1 : Int32)).toNatClampNeg (gI (sI h56 v59 ((gI h56 l0 10) - (1 : Int32)).toNatClampNeg ((gI h56 v60 (gI h56 l0 10).toNatClampNeg) &&& (gI h56 v62 ((gI h56 l0 10) + (1 : Int32)).toNatClampNeg))) v66 (gI (sI h56 v59 ((gI h56 l0 10) - (1 : Int32)).toNatClampNeg ((gI h56 v60 (gI h56 l0 10).toNatClampNeg) &&& (gI h56 v62 ((gI h56 l0 10) + (1 : Int32)).toNatClampNeg))) l0 14).toNatClampNeg)) fun h69 =>
(bd (f_X10_makes l0 (54 : Int32) h69) fun _ h72 =>
(ck h72 l0 10
(f_X10_behind_399 l0 (sI h72 l0 16 (2 : Int32))))))))))))))))))
else
(ck h l0 10
((gP h l0 12).bind fun v75 =>
(ca h v75 20 ((gI h l0 14) - (1 : Int32))
(f_X10_behind_399 l0 (sI (sI h v75 ((gI h l0 14) - (1 : Int32)).toNatClampNeg l1) l0 16 (1 : Int32)))))))))
set_option maxRecDepth 20000 in
theorem t_X10_behind_236 (l0 : Nat) (l1 : Int32) (l2 : Int32) (s0 : Int32) (h : Hp) : Sm rvI g_X10_behind 236 [.ref l0, .int l1, .int l2, .null] [.int s0] h (f_X10_behind_236 l0 l1 l2 s0 h) := by
  unfold f_X10_behind_236
  refine Sm.istore_n (lv' := [.ref l0, .int l1, .int l2, .int s0]) dX10_behind_236 rfl (Nat.le_of_ble_eq_true rfl) rfl rfl ?_
  refine Sm.iload_n dX10_behind_237 rfl rfl rfl ?_
  refine Sm.if_ne (t := 246) dX10_behind_238 (by decide) rfl (fun b42 => ?_) (fun b42 => ?_)
  · refine Sm.aload_n dX10_behind_241 rfl rfl rfl ?_
    refine Sm.ck (fun o43 => ?_)
    refine gf_X10_137 o43 dX10_behind_242 rfl rfl ?_
    exact Sm.ret dX10_behind_245 trivial rfl
  · refine Sm.iload_n dX10_behind_246 rfl rfl rfl ?_
    refine Sm.bipush dX10_behind_247 bp_40 rfl ?_
    refine Sm.icmp_ne (t := 290) dX10_behind_249 (by decide) rfl (fun b44 => ?_) (fun b44 => ?_)
    · refine Sm.aload_n dX10_behind_252 rfl rfl rfl ?_
      refine Sm.dup dX10_behind_253 rfl rfl ?_
      refine Sm.ck (fun o45 => ?_)
      refine gf_X10_134 o45 dX10_behind_254 rfl rfl ?_
      refine Sm.iconst dX10_behind_257 ic_1 rfl ?_
      refine Sm.isub dX10_behind_258 rfl ?_
      refine pf_X10_134 o45 dX10_behind_259 rfl rfl ?_
      refine Sm.aload_n dX10_behind_262 rfl rfl rfl ?_
      refine gf_X10_25 o45 dX10_behind_263 rfl rfl (fun v46 => ?_)
      refine Sm.aload_n dX10_behind_266 rfl rfl rfl ?_
      refine gf_X10_113 o45 dX10_behind_267 rfl rfl ?_
      refine Sm.iconst dX10_behind_270 ic_1 rfl ?_
      refine Sm.isub dX10_behind_271 rfl ?_
      refine Sm.aload_n dX10_behind_272 rfl rfl rfl ?_
      refine gf_X10_34 o45 dX10_behind_273 rfl rfl (fun v47 => ?_)
      refine Sm.aload_n dX10_behind_276 rfl rfl rfl ?_
      refine gf_X10_134 o45 dX10_behind_277 rfl rfl ?_
      refine Sm.ca (fun q48 => ?_)
      refine Sm.iald q48 dX10_behind_280 rfl ?_
      refine Sm.ca (fun q49 => ?_)
      refine Sm.iast q49 dX10_behind_281 rfl ?_
      refine Sm.nmH (fun h50 e51 e52 => ?_)
      refine Sm.aload_n dX10_behind_282 rfl rfl rfl ?_
      refine Sm.iconst dX10_behind_283 ic_2 rfl ?_
      refine pf_X10_163 (isO.tr e51 e52 o45) dX10_behind_284 rfl rfl ?_
      refine Sm.goto (t := 399) dX10_behind_287 (by decide) ?_
      exact Sm.wk (t_X10_behind_399 l0 (sI h50 l0 16 (2 : Int32))) ⟨Or.inr rfl, Or.inl rfl, Or.inl rfl, Or.inl rfl, trivial⟩
    · refine Sm.iload_n dX10_behind_290 rfl rfl rfl ?_
      refine Sm.bipush dX10_behind_291 bp_124 rfl ?_
      refine Sm.icmp_ne (t := 382) dX10_behind_293 (by decide) rfl (fun b54 => ?_) (fun b54 => ?_)
      · refine Sm.aload_n dX10_behind_296 rfl rfl rfl ?_
        refine Sm.dup dX10_behind_297 rfl rfl ?_
        refine Sm.ck (fun o55 => ?_)
        refine gf_X10_134 o55 dX10_behind_298 rfl rfl ?_
        refine Sm.iconst dX10_behind_301 ic_1 rfl ?_
        refine Sm.isub dX10_behind_302 rfl ?_
        refine pf_X10_134 o55 dX10_behind_303 rfl rfl ?_
        refine Sm.aload_n dX10_behind_306 rfl rfl rfl ?_
        refine Sm.dup dX10_behind_307 rfl rfl ?_
        refine gf_X10_113 o55 dX10_behind_308 rfl rfl ?_
        refine Sm.iconst dX10_behind_311 ic_2 rfl ?_
        refine Sm.isub dX10_behind_312 rfl ?_
        refine pf_X10_113 o55 dX10_behind_313 rfl rfl ?_
        refine Sm.nmH (fun h56 e57 e58 => ?_)
        refine Sm.aload_n dX10_behind_316 rfl rfl rfl ?_
        refine gf_X10_28 (isO.tr e57 e58 o55) dX10_behind_317 rfl rfl (fun v59 => ?_)
        refine Sm.aload_n dX10_behind_320 rfl rfl rfl ?_
        refine gf_X10_113 (isO.tr e57 e58 o55) dX10_behind_321 rfl rfl ?_
        refine Sm.iconst dX10_behind_324 ic_1 rfl ?_
        refine Sm.isub dX10_behind_325 rfl ?_
        refine Sm.aload_n dX10_behind_326 rfl rfl rfl ?_
        refine gf_X10_28 (isO.tr e57 e58 o55) dX10_behind_327 rfl rfl (fun v60 => ?_)
        refine Sm.aload_n dX10_behind_330 rfl rfl rfl ?_
        refine gf_X10_113 (isO.tr e57 e58 o55) dX10_behind_331 rfl rfl ?_
        refine Sm.ca (fun q61 => ?_)
        refine Sm.iald q61 dX10_behind_334 rfl ?_
        refine Sm.aload_n dX10_behind_335 rfl rfl rfl ?_
        refine gf_X10_28 (isO.tr e57 e58 o55) dX10_behind_336 rfl rfl (fun v62 => ?_)
        refine Sm.aload_n dX10_behind_339 rfl rfl rfl ?_
        refine gf_X10_113 (isO.tr e57 e58 o55) dX10_behind_340 rfl rfl ?_
        refine Sm.iconst dX10_behind_343 ic_1 rfl ?_
        refine Sm.iadd dX10_behind_344 rfl ?_
        refine Sm.ca (fun q63 => ?_)
        refine Sm.iald q63 dX10_behind_345 rfl ?_
        refine Sm.iand dX10_behind_346 rfl ?_
        refine Sm.ca (fun q64 => ?_)
        refine Sm.iast q64 dX10_behind_347 rfl ?_
        refine Sm.aload_n dX10_behind_348 rfl rfl rfl ?_
        refine gf_X10_25 (isO.tr e57 e58 o55) dX10_behind_349 rfl rfl (fun v65 => ?_)
        refine Sm.aload_n dX10_behind_352 rfl rfl rfl ?_
        refine gf_X10_113 (isO.tr e57 e58 o55) dX10_behind_353 rfl rfl ?_
        refine Sm.iconst dX10_behind_356 ic_1 rfl ?_
        refine Sm.isub dX10_behind_357 rfl ?_
        refine Sm.aload_n dX10_behind_358 rfl rfl rfl ?_
        refine gf_X10_34 (isO.tr e57 e58 o55) dX10_behind_359 rfl rfl (fun v66 => ?_)
        refine Sm.aload_n dX10_behind_362 rfl rfl rfl ?_
        refine gf_X10_134 (isO.tr e57 e58 o55) dX10_behind_363 rfl rfl ?_
        refine Sm.ca (fun q67 => ?_)
        refine Sm.iald q67 dX10_behind_366 rfl ?_
        refine Sm.ca (fun q68 => ?_)
        refine Sm.iast q68 dX10_behind_367 rfl ?_
        refine Sm.nmH (fun h69 e70 e71 => ?_)
        refine Sm.aload_n dX10_behind_368 rfl rfl rfl ?_
        refine Sm.bipush dX10_behind_369 bp_54 rfl ?_
        refine kc_X10_127 (isO.tr e70 e71 (isO.tr e57 e58 o55)) dX10_behind_371 rfl (Nat.le_of_ble_eq_true rfl) (Nat.le_of_ble_eq_true rfl) rfl (fun _ h72 => ?_)
        refine Sm.aload_n dX10_behind_374 rfl rfl rfl ?_
        refine Sm.iconst dX10_behind_375 ic_2 rfl ?_
        refine Sm.ck (fun o73 => ?_)
        refine pf_X10_163 o73 dX10_behind_376 rfl rfl ?_
        refine Sm.goto (t := 399) dX10_behind_379 (by decide) ?_
        exact Sm.wk (t_X10_behind_399 l0 (sI h72 l0 16 (2 : Int32))) ⟨Or.inr rfl, Or.inl rfl, Or.inl rfl, Or.inl rfl, trivial⟩
      · refine Sm.aload_n dX10_behind_382 rfl rfl rfl ?_
        refine Sm.ck (fun o74 => ?_)
        refine gf_X10_31 o74 dX10_behind_383 rfl rfl (fun v75 => ?_)
        refine Sm.aload_n dX10_behind_386 rfl rfl rfl ?_
        refine gf_X10_134 o74 dX10_behind_387 rfl rfl ?_
        refine Sm.iconst dX10_behind_390 ic_1 rfl ?_
        refine Sm.isub dX10_behind_391 rfl ?_
        refine Sm.iload_n dX10_behind_392 rfl rfl rfl ?_
        refine Sm.ca (fun q76 => ?_)
        refine Sm.iast q76 dX10_behind_393 rfl ?_
        refine Sm.aload_n dX10_behind_394 rfl rfl rfl ?_
        refine Sm.iconst dX10_behind_395 ic_1 rfl ?_
        refine pf_X10_163 o74 dX10_behind_396 rfl rfl ?_
        exact Sm.wk (t_X10_behind_399 l0 (sI (sI h v75 ((gI h l0 14) - (1 : Int32)).toNatClampNeg l1) l0 16 (1 : Int32))) ⟨Or.inr rfl, Or.inl rfl, Or.inl rfl, Or.inl rfl, trivial⟩
def f_X10_behind_141 (l0 : Nat) (l1 : Int32) (l2 : Int32) (h : Hp) : Option (Int32 × Hp) :=
  (if l2 = (-1 : Int32) then
(ck h l0 10
(if l1 = (-1 : Int32) then
(some ((-1 : Int32), (sI h l0 16 (0 : Int32))))
else
(some ((gI (sI h l0 16 (0 : Int32)) l0 11), (sI h l0 16 (0 : Int32))))))
else
(if l2 = (40 : Int32) then
(if l1 = (41 : Int32) then
(f_X10_behind_236 l0 l1 l2 (1 : Int32) h)
else
(f_X10_behind_236 l0 l1 l2 (0 : Int32) h))
else
(if l2 = (91 : Int32) then
(if l1 = (63 : Int32) then
(f_X10_behind_236 l0 l1 l2 (1 : Int32) h)
else
(f_X10_behind_236 l0 l1 l2 (0 : Int32) h))
else
(if l2 = (63 : Int32) then
(if l1 = (124 : Int32) then
(f_X10_behind_236 l0 l1 l2 (1 : Int32) h)
else
(f_X10_behind_236 l0 l1 l2 (0 : Int32) h))
else
(if l1 = (93 : Int32) then
(f_X10_behind_236 l0 l1 l2 (1 : Int32) h)
else
(f_X10_behind_236 l0 l1 l2 (0 : Int32) h))))))
set_option maxRecDepth 20000 in
theorem t_X10_behind_141 (l0 : Nat) (l1 : Int32) (l2 : Int32) (h : Hp) : Sm rvI g_X10_behind 141 [.ref l0, .int l1, .int l2, .null] [] h (f_X10_behind_141 l0 l1 l2 h) := by
  unfold f_X10_behind_141
  refine Sm.iload_n dX10_behind_141 rfl rfl rfl ?_
  refine Sm.iconst dX10_behind_142 ic_m1 rfl ?_
  refine Sm.icmp_ne (t := 165) dX10_behind_143 (by decide) rfl (fun b37 => ?_) (fun b37 => ?_)
  · refine Sm.aload_n dX10_behind_146 rfl rfl rfl ?_
    refine Sm.iconst dX10_behind_147 ic_0 rfl ?_
    refine Sm.ck (fun o38 => ?_)
    refine pf_X10_163 o38 dX10_behind_148 rfl rfl ?_
    refine Sm.iload_n dX10_behind_151 rfl rfl rfl ?_
    refine Sm.iconst dX10_behind_152 ic_m1 rfl ?_
    refine Sm.icmp_ne (t := 160) dX10_behind_153 (by decide) rfl (fun b39 => ?_) (fun b39 => ?_)
    · refine Sm.iconst dX10_behind_156 ic_m1 rfl ?_
      refine Sm.goto (t := 164) dX10_behind_157 (by decide) ?_
      exact Sm.ret dX10_behind_164 trivial rfl
    · refine Sm.aload_n dX10_behind_160 rfl rfl rfl ?_
      refine gf_X10_137 o38 dX10_behind_161 rfl rfl ?_
      exact Sm.ret dX10_behind_164 trivial rfl
  · refine Sm.iload_n dX10_behind_165 rfl rfl rfl ?_
    refine Sm.bipush dX10_behind_166 bp_40 rfl ?_
    refine Sm.icmp_ne (t := 185) dX10_behind_168 (by decide) rfl (fun b40 => ?_) (fun b40 => ?_)
    · refine Sm.iload_n dX10_behind_171 rfl rfl rfl ?_
      refine Sm.bipush dX10_behind_172 bp_41 rfl ?_
      refine Sm.icmp_ne (t := 181) dX10_behind_174 (by decide) rfl (fun b41 => ?_) (fun b41 => ?_)
      · refine Sm.iconst dX10_behind_177 ic_1 rfl ?_
        refine Sm.goto (t := 236) dX10_behind_178 (by decide) ?_
        exact Sm.wk (t_X10_behind_236 l0 l1 l2 (1 : Int32) h) ⟨Or.inr rfl, Or.inr rfl, Or.inr rfl, Or.inl rfl, trivial⟩
      · refine Sm.iconst dX10_behind_181 ic_0 rfl ?_
        refine Sm.goto (t := 236) dX10_behind_182 (by decide) ?_
        exact Sm.wk (t_X10_behind_236 l0 l1 l2 (0 : Int32) h) ⟨Or.inr rfl, Or.inr rfl, Or.inr rfl, Or.inl rfl, trivial⟩
    · refine Sm.iload_n dX10_behind_185 rfl rfl rfl ?_
      refine Sm.bipush dX10_behind_186 bp_91 rfl ?_
      refine Sm.icmp_ne (t := 205) dX10_behind_188 (by decide) rfl (fun b77 => ?_) (fun b77 => ?_)
      · refine Sm.iload_n dX10_behind_191 rfl rfl rfl ?_
        refine Sm.bipush dX10_behind_192 bp_63 rfl ?_
        refine Sm.icmp_ne (t := 201) dX10_behind_194 (by decide) rfl (fun b78 => ?_) (fun b78 => ?_)
        · refine Sm.iconst dX10_behind_197 ic_1 rfl ?_
          refine Sm.goto (t := 236) dX10_behind_198 (by decide) ?_
          exact Sm.wk (t_X10_behind_236 l0 l1 l2 (1 : Int32) h) ⟨Or.inr rfl, Or.inr rfl, Or.inr rfl, Or.inl rfl, trivial⟩
        · refine Sm.iconst dX10_behind_201 ic_0 rfl ?_
          refine Sm.goto (t := 236) dX10_behind_202 (by decide) ?_
          exact Sm.wk (t_X10_behind_236 l0 l1 l2 (0 : Int32) h) ⟨Or.inr rfl, Or.inr rfl, Or.inr rfl, Or.inl rfl, trivial⟩
      · refine Sm.iload_n dX10_behind_205 rfl rfl rfl ?_
        refine Sm.bipush dX10_behind_206 bp_63 rfl ?_
        refine Sm.icmp_ne (t := 225) dX10_behind_208 (by decide) rfl (fun b79 => ?_) (fun b79 => ?_)
        · refine Sm.iload_n dX10_behind_211 rfl rfl rfl ?_
          refine Sm.bipush dX10_behind_212 bp_124 rfl ?_
          refine Sm.icmp_ne (t := 221) dX10_behind_214 (by decide) rfl (fun b80 => ?_) (fun b80 => ?_)
          · refine Sm.iconst dX10_behind_217 ic_1 rfl ?_
            refine Sm.goto (t := 236) dX10_behind_218 (by decide) ?_
            exact Sm.wk (t_X10_behind_236 l0 l1 l2 (1 : Int32) h) ⟨Or.inr rfl, Or.inr rfl, Or.inr rfl, Or.inl rfl, trivial⟩
          · refine Sm.iconst dX10_behind_221 ic_0 rfl ?_
            refine Sm.goto (t := 236) dX10_behind_222 (by decide) ?_
            exact Sm.wk (t_X10_behind_236 l0 l1 l2 (0 : Int32) h) ⟨Or.inr rfl, Or.inr rfl, Or.inr rfl, Or.inl rfl, trivial⟩
        · refine Sm.iload_n dX10_behind_225 rfl rfl rfl ?_
          refine Sm.bipush dX10_behind_226 bp_93 rfl ?_
          refine Sm.icmp_ne (t := 235) dX10_behind_228 (by decide) rfl (fun b81 => ?_) (fun b81 => ?_)
          · refine Sm.iconst dX10_behind_231 ic_1 rfl ?_
            refine Sm.goto (t := 236) dX10_behind_232 (by decide) ?_
            exact Sm.wk (t_X10_behind_236 l0 l1 l2 (1 : Int32) h) ⟨Or.inr rfl, Or.inr rfl, Or.inr rfl, Or.inl rfl, trivial⟩
          · refine Sm.iconst dX10_behind_235 ic_0 rfl ?_
            exact Sm.wk (t_X10_behind_236 l0 l1 l2 (0 : Int32) h) ⟨Or.inr rfl, Or.inr rfl, Or.inr rfl, Or.inl rfl, trivial⟩
def f_X10_behind (l0 : Nat) (h : Hp) : Option (Int32 × Hp) :=
  (ck h l0 10
(bd (f_X10_byteAt l0 (gI h l0 11) h) fun v2 h3 =>
(if v2 = (46 : Int32) then
(f_X10_behind_21 l0 v2 h3)
else
(if v2 = (43 : Int32) then
(f_X10_behind_21 l0 v2 h3)
else
(ck h3 l0 10
(bd (f_X10_joins l0 (1 : Int32) h3) fun _ h26 =>
(ck h26 l0 10
(bd (f_X10_lastOpen l0 h26) fun v28 h29 =>
(if v28 = (91 : Int32) then
(ck h29 l0 10
((gP h29 l0 9).bind fun v32 =>
(ca h29 v32 20 ((gI h29 l0 10) - (1 : Int32))
(if (gI h29 v32 ((gI h29 l0 10) - (1 : Int32)).toNatClampNeg) = 0 then
((gP h29 l0 8).bind fun v35 =>
(ca h29 v35 20 ((gI h29 l0 10) - (1 : Int32))
(some ((gI h29 v35 ((gI h29 l0 10) - (1 : Int32)).toNatClampNeg), h29))))
else
(f_X10_behind_141 l0 v2 v28 h29)))))
else
(f_X10_behind_141 l0 v2 v28 h29))))))))))
set_option maxRecDepth 20000 in
theorem t_X10_behind (l0 : Nat) (h : Hp) : Sm rvI g_X10_behind 0 (ent 4 [.ref l0]) [] h (f_X10_behind l0 h) := by
  show Sm rvI g_X10_behind 0 [.ref l0, .null, .null, .null] [] h _
  unfold f_X10_behind
  refine Sm.aload_n dX10_behind_0 rfl rfl rfl ?_
  refine Sm.aload_n dX10_behind_1 rfl rfl rfl ?_
  refine Sm.ck (fun o1 => ?_)
  refine gf_X10_137 o1 dX10_behind_2 rfl rfl ?_
  refine kc_X10_140 o1 dX10_behind_5 rfl (Nat.le_of_ble_eq_true rfl) (Nat.le_of_ble_eq_true rfl) rfl (fun v2 h3 => ?_)
  refine Sm.istore_n (lv' := [.ref l0, .int v2, .null, .null]) dX10_behind_8 rfl (Nat.le_of_ble_eq_true rfl) rfl rfl ?_
  refine Sm.iload_n dX10_behind_9 rfl rfl rfl ?_
  refine Sm.bipush dX10_behind_10 bp_46 rfl ?_
  refine Sm.icmp_eq (t := 21) dX10_behind_12 (by decide) rfl (fun b4 => ?_) (fun b4 => ?_)
  · exact Sm.wk (t_X10_behind_21 l0 v2 h3) ⟨Or.inr rfl, Or.inr rfl, Or.inl rfl, Or.inl rfl, trivial⟩
  · refine Sm.iload_n dX10_behind_15 rfl rfl rfl ?_
    refine Sm.bipush dX10_behind_16 bp_43 rfl ?_
    refine Sm.icmp_ne (t := 99) dX10_behind_18 (by decide) rfl (fun b24 => ?_) (fun b24 => ?_)
    · exact Sm.wk (t_X10_behind_21 l0 v2 h3) ⟨Or.inr rfl, Or.inr rfl, Or.inl rfl, Or.inl rfl, trivial⟩
    · refine Sm.aload_n dX10_behind_99 rfl rfl rfl ?_
      refine Sm.iconst dX10_behind_100 ic_1 rfl ?_
      refine Sm.ck (fun o25 => ?_)
      refine kc_X10_159 o25 dX10_behind_101 rfl (Nat.le_of_ble_eq_true rfl) (Nat.le_of_ble_eq_true rfl) rfl (fun _ h26 => ?_)
      refine Sm.aload_n dX10_behind_104 rfl rfl rfl ?_
      refine Sm.ck (fun o27 => ?_)
      refine kc_X10_152 o27 dX10_behind_105 rfl (Nat.le_of_ble_eq_true rfl) (Nat.le_of_ble_eq_true rfl) rfl (fun v28 h29 => ?_)
      refine Sm.istore_n (lv' := [.ref l0, .int v2, .int v28, .null]) dX10_behind_108 rfl (Nat.le_of_ble_eq_true rfl) rfl rfl ?_
      refine Sm.iload_n dX10_behind_109 rfl rfl rfl ?_
      refine Sm.bipush dX10_behind_110 bp_91 rfl ?_
      refine Sm.icmp_ne (t := 141) dX10_behind_112 (by decide) rfl (fun b30 => ?_) (fun b30 => ?_)
      · refine Sm.aload_n dX10_behind_115 rfl rfl rfl ?_
        refine Sm.ck (fun o31 => ?_)
        refine gf_X10_28 o31 dX10_behind_116 rfl rfl (fun v32 => ?_)
        refine Sm.aload_n dX10_behind_119 rfl rfl rfl ?_
        refine gf_X10_113 o31 dX10_behind_120 rfl rfl ?_
        refine Sm.iconst dX10_behind_123 ic_1 rfl ?_
        refine Sm.isub dX10_behind_124 rfl ?_
        refine Sm.ca (fun q33 => ?_)
        refine Sm.iald q33 dX10_behind_125 rfl ?_
        refine Sm.if_ne (t := 141) dX10_behind_126 (by decide) rfl (fun b34 => ?_) (fun b34 => ?_)
        · refine Sm.aload_n dX10_behind_129 rfl rfl rfl ?_
          refine gf_X10_25 o31 dX10_behind_130 rfl rfl (fun v35 => ?_)
          refine Sm.aload_n dX10_behind_133 rfl rfl rfl ?_
          refine gf_X10_113 o31 dX10_behind_134 rfl rfl ?_
          refine Sm.iconst dX10_behind_137 ic_1 rfl ?_
          refine Sm.isub dX10_behind_138 rfl ?_
          refine Sm.ca (fun q36 => ?_)
          refine Sm.iald q36 dX10_behind_139 rfl ?_
          exact Sm.ret dX10_behind_140 trivial rfl
        · exact Sm.wk (t_X10_behind_141 l0 v2 v28 h29) ⟨Or.inr rfl, Or.inr rfl, Or.inr rfl, Or.inl rfl, trivial⟩
      · exact Sm.wk (t_X10_behind_141 l0 v2 v28 h29) ⟨Or.inr rfl, Or.inr rfl, Or.inr rfl, Or.inl rfl, trivial⟩
set_option maxRecDepth 20000 in
theorem kc_X10_176 {ρ : Type} {rv : ρ → Option Value} {G : Gx} {pc q : Nat} {lv st : List Value} {h : Hp} {a : Nat} {e : Int32 → Hp → Option (ρ × Hp)} (hk : isO h a 10) (d : decode G.2.1 pc = .ok (.invokevirtual 176, 3)) (ho : G.1.cls = RX10) (hdep : (g_X10_behind).2.2.2.2 < G.2.2.2.2) (hcat : catS st ≤ 8) (hq : pc + 3 = q) (k : ∀ r h1, Sm rv G q lv (.int r :: st) h1 (e r h1)) : Sm rv G pc lv (.ref a :: st) h (bd (f_X10_behind a h) e) :=
  Sm.callV (rv' := rvI) (args := []) (n := 0) (t_X10_behind a h) hk (by decide) (r := (RX10, TX10, 43)) rfl rfl ho mw_1098 mw_1100 mp_63 mw_11 mw_1101 ⟨⟨by decide, rfl, hdep, Nat.le_of_ble_eq_true rfl⟩, Nat.le_of_ble_eq_true rfl, rfl, ⟨by decide, by decide⟩, hcat⟩ (by decide +kernel) (fun v hv => by cases hv) d hq k rfl
abbrev g_X10_reads : Gx := (yX10_reads, cX10_reads, 2, (Option.some FieldType.int), 4)
def f_X10_reads_59 (k59 : (Int32 × Hp) → Option (Int32 × Hp)) (l0 : Nat) (l1 : Int32) (h : Hp) : Option (Int32 × Hp) :=
  (ck h l0 10
(if (gI h l0 16) ≤ 0 then
(some (l1, h))
else
(if l1 = (-1 : Int32) then
(if (gI h l0 16) = (1 : Int32) then
(bd (f_X10_atom l0 h) fun v10 h11 =>
(ck h11 l0 10
(k59 (v10, (sI h11 l0 16 (2 : Int32))))))
else
(bd (f_X10_endsFactor l0 h) fun v13 h14 =>
(if v13 = (-1 : Int32) then
(ck h14 l0 10
(bd (f_X10_behind l0 h14) fun v17 h18 =>
(k59 (v17, h18))))
else
(k59 (v13, h14)))))
else
(some (l1, h)))))
set_option maxRecDepth 20000 in
theorem t_X10_reads_59 (l0 : Nat) (l1 : Int32) (h : Hp) (k59 : (Int32 × Hp) → Option (Int32 × Hp)) (hk59 : ∀ s : Int32 × Hp, Sm rvI g_X10_reads 59 [.ref l0, .int s.1] [] s.2 (k59 s)) : Sm rvI g_X10_reads 59 [.ref l0, .int l1] [] h (f_X10_reads_59 k59 l0 l1 h) := by
  unfold f_X10_reads_59
  refine Sm.aload_n dX10_reads_59 rfl rfl rfl ?_
  refine Sm.ck (fun o6 => ?_)
  refine gf_X10_163 o6 dX10_reads_60 rfl rfl ?_
  refine Sm.if_le (t := 114) dX10_reads_63 (by decide) rfl (fun b7 => ?_) (fun b7 => ?_)
  · refine Sm.iload_n dX10_reads_114 rfl rfl rfl ?_
    exact Sm.ret dX10_reads_115 trivial rfl
  · refine Sm.iload_n dX10_reads_66 rfl rfl rfl ?_
    refine Sm.iconst dX10_reads_67 ic_m1 rfl ?_
    refine Sm.icmp_ne (t := 114) dX10_reads_68 (by decide) rfl (fun b8 => ?_) (fun b8 => ?_)
    · refine Sm.aload_n dX10_reads_71 rfl rfl rfl ?_
      refine gf_X10_163 o6 dX10_reads_72 rfl rfl ?_
      refine Sm.iconst dX10_reads_75 ic_1 rfl ?_
      refine Sm.icmp_ne (t := 92) dX10_reads_76 (by decide) rfl (fun b9 => ?_) (fun b9 => ?_)
      · refine Sm.aload_n dX10_reads_79 rfl rfl rfl ?_
        refine kc_X10_170 o6 dX10_reads_80 rfl (Nat.le_of_ble_eq_true rfl) (Nat.le_of_ble_eq_true rfl) rfl (fun v10 h11 => ?_)
        refine Sm.istore_n (lv' := [.ref l0, .int v10]) dX10_reads_83 rfl (Nat.le_of_ble_eq_true rfl) rfl rfl ?_
        refine Sm.aload_n dX10_reads_84 rfl rfl rfl ?_
        refine Sm.iconst dX10_reads_85 ic_2 rfl ?_
        refine Sm.ck (fun o12 => ?_)
        refine pf_X10_163 o12 dX10_reads_86 rfl rfl ?_
        refine Sm.goto (t := 59) dX10_reads_89 (by decide) ?_
        exact Sm.wk (hk59 (v10, (sI h11 l0 16 (2 : Int32)))) ⟨Or.inr rfl, Or.inr rfl, trivial⟩
      · refine Sm.aload_n dX10_reads_92 rfl rfl rfl ?_
        refine kc_X10_173 o6 dX10_reads_93 rfl (Nat.le_of_ble_eq_true rfl) (Nat.le_of_ble_eq_true rfl) rfl (fun v13 h14 => ?_)
        refine Sm.istore_n (lv' := [.ref l0, .int v13]) dX10_reads_96 rfl (Nat.le_of_ble_eq_true rfl) rfl rfl ?_
        refine Sm.iload_n dX10_reads_97 rfl rfl rfl ?_
        refine Sm.iconst dX10_reads_98 ic_m1 rfl ?_
        refine Sm.icmp_ne (t := 109) dX10_reads_99 (by decide) rfl (fun b15 => ?_) (fun b15 => ?_)
        · refine Sm.aload_n dX10_reads_102 rfl rfl rfl ?_
          refine Sm.ck (fun o16 => ?_)
          refine kc_X10_176 o16 dX10_reads_103 rfl (Nat.le_of_ble_eq_true rfl) (Nat.le_of_ble_eq_true rfl) rfl (fun v17 h18 => ?_)
          refine Sm.goto (t := 110) dX10_reads_106 (by decide) ?_
          refine Sm.istore_n (lv' := [.ref l0, .int v17]) dX10_reads_110 rfl (Nat.le_of_ble_eq_true rfl) rfl rfl ?_
          refine Sm.goto (t := 59) dX10_reads_111 (by decide) ?_
          exact Sm.wk (hk59 (v17, h18)) ⟨Or.inr rfl, Or.inr rfl, trivial⟩
        · refine Sm.iload_n dX10_reads_109 rfl rfl rfl ?_
          refine Sm.istore_n (lv' := [.ref l0, .int v13]) dX10_reads_110 rfl (Nat.le_of_ble_eq_true rfl) rfl rfl ?_
          refine Sm.goto (t := 59) dX10_reads_111 (by decide) ?_
          exact Sm.wk (hk59 (v13, h14)) ⟨Or.inr rfl, Or.inr rfl, trivial⟩
    · refine Sm.iload_n dX10_reads_114 rfl rfl rfl ?_
      exact Sm.ret dX10_reads_115 trivial rfl
def f_X10_reads_2 (k2 : (Int32 × Hp) → Option (Int32 × Hp)) (l0 : Nat) (l1 : Int32) (h : Hp) : Option (Int32 × Hp) :=
  (if (4 : Int32) ≤ l1 then
(ck h l0 10
(nm (sI (sI (sI h l0 7 (0 : Int32)) l0 10 (0 : Int32)) l0 14 (0 : Int32)) fun h3 =>
(loopN (fun k s => f_X10_reads_59 k l0 s.1 s.2) 5000 ((-1 : Int32), (sI (sI h3 l0 11 (0 : Int32)) l0 16 (1 : Int32))))))
else
(ck h l0 10
((gP h l0 15).bind fun v20 =>
(bd (f_X10_isPredicateRow l0 l1 h) fun v21 h22 =>
(if v21 = 0 then
(ca h22 v20 20 l1
(nm (l1 + (1 : Int32)) fun v25 =>
(k2 (v25, (sI h22 v20 l1.toNatClampNeg (0 : Int32))))))
else
(ca h22 v20 20 l1
(nm (l1 + (1 : Int32)) fun v27 =>
(k2 (v27, (sI h22 v20 l1.toNatClampNeg (1 : Int32)))))))))))
set_option maxRecDepth 20000 in
theorem t_X10_reads_2 (l0 : Nat) (l1 : Int32) (h : Hp) (k2 : (Int32 × Hp) → Option (Int32 × Hp)) (hk2 : ∀ s : Int32 × Hp, Sm rvI g_X10_reads 2 [.ref l0, .int s.1] [] s.2 (k2 s)) : Sm rvI g_X10_reads 2 [.ref l0, .int l1] [] h (f_X10_reads_2 k2 l0 l1 h) := by
  unfold f_X10_reads_2
  refine Sm.iload_n dX10_reads_2 rfl rfl rfl ?_
  refine Sm.iconst dX10_reads_3 ic_4 rfl ?_
  refine Sm.icmp_ge (t := 32) dX10_reads_4 (by decide) rfl (fun b1 => ?_) (fun b1 => ?_)
  · refine Sm.aload_n dX10_reads_32 rfl rfl rfl ?_
    refine Sm.iconst dX10_reads_33 ic_0 rfl ?_
    refine Sm.ck (fun o2 => ?_)
    refine pf_X10_110 o2 dX10_reads_34 rfl rfl ?_
    refine Sm.aload_n dX10_reads_37 rfl rfl rfl ?_
    refine Sm.iconst dX10_reads_38 ic_0 rfl ?_
    refine pf_X10_113 o2 dX10_reads_39 rfl rfl ?_
    refine Sm.aload_n dX10_reads_42 rfl rfl rfl ?_
    refine Sm.iconst dX10_reads_43 ic_0 rfl ?_
    refine pf_X10_134 o2 dX10_reads_44 rfl rfl ?_
    refine Sm.nmH (fun h3 e4 e5 => ?_)
    refine Sm.aload_n dX10_reads_47 rfl rfl rfl ?_
    refine Sm.iconst dX10_reads_48 ic_0 rfl ?_
    refine pf_X10_137 (isO.tr e4 e5 o2) dX10_reads_49 rfl rfl ?_
    refine Sm.aload_n dX10_reads_52 rfl rfl rfl ?_
    refine Sm.iconst dX10_reads_53 ic_1 rfl ?_
    refine pf_X10_163 (isO.tr e4 e5 o2) dX10_reads_54 rfl rfl ?_
    refine Sm.iconst dX10_reads_57 ic_m1 rfl ?_
    refine Sm.istore_n (lv' := [.ref l0, .int (-1 : Int32)]) dX10_reads_58 rfl (Nat.le_of_ble_eq_true rfl) rfl rfl ?_
    exact Sm.wk (Sm.loop (σ := Int32 × Hp) (LV := fun s => [.ref l0, .int s.1]) (HH := fun s => s.2) (fun k hk s => t_X10_reads_59 l0 s.1 s.2 k hk) 5000 ((-1 : Int32), (sI (sI h3 l0 11 (0 : Int32)) l0 16 (1 : Int32)))) ⟨Or.inr rfl, Or.inr rfl, trivial⟩
  · refine Sm.aload_n dX10_reads_7 rfl rfl rfl ?_
    refine Sm.ck (fun o19 => ?_)
    refine gf_X10_37 o19 dX10_reads_8 rfl rfl (fun v20 => ?_)
    refine Sm.iload_n dX10_reads_11 rfl rfl rfl ?_
    refine Sm.aload_n dX10_reads_12 rfl rfl rfl ?_
    refine Sm.iload_n dX10_reads_13 rfl rfl rfl ?_
    refine kc_X10_166 o19 dX10_reads_14 rfl (Nat.le_of_ble_eq_true rfl) (Nat.le_of_ble_eq_true rfl) rfl (fun v21 h22 => ?_)
    refine Sm.if_eq (t := 24) dX10_reads_17 (by decide) rfl (fun b23 => ?_) (fun b23 => ?_)
    · refine Sm.iconst dX10_reads_24 ic_0 rfl ?_
      refine Sm.ca (fun q24 => ?_)
      refine Sm.iast q24 dX10_reads_25 rfl ?_
      refine Sm.iinc (lv' := [.ref l0, .int (l1 + (1 : Int32))]) dX10_reads_26 rfl ic_1 rfl rfl ?_
      refine Sm.nm (LV := fun v25 => [.ref l0, .int v25]) (ST := fun v25 => []) (fun v25 => ?_)
      refine Sm.goto (t := 2) dX10_reads_29 (by decide) ?_
      exact Sm.wk (hk2 (v25, (sI h22 v20 l1.toNatClampNeg (0 : Int32)))) ⟨Or.inr rfl, Or.inr rfl, trivial⟩
    · refine Sm.iconst dX10_reads_20 ic_1 rfl ?_
      refine Sm.goto (t := 25) dX10_reads_21 (by decide) ?_
      refine Sm.ca (fun q26 => ?_)
      refine Sm.iast q26 dX10_reads_25 rfl ?_
      refine Sm.iinc (lv' := [.ref l0, .int (l1 + (1 : Int32))]) dX10_reads_26 rfl ic_1 rfl rfl ?_
      refine Sm.nm (LV := fun v27 => [.ref l0, .int v27]) (ST := fun v27 => []) (fun v27 => ?_)
      refine Sm.goto (t := 2) dX10_reads_29 (by decide) ?_
      exact Sm.wk (hk2 (v27, (sI h22 v20 l1.toNatClampNeg (1 : Int32)))) ⟨Or.inr rfl, Or.inr rfl, trivial⟩
def f_X10_reads (l0 : Nat) (h : Hp) : Option (Int32 × Hp) :=
  (loopN (fun k s => f_X10_reads_2 k l0 s.1 s.2) 5000 ((0 : Int32), h))
set_option maxRecDepth 20000 in
theorem t_X10_reads (l0 : Nat) (h : Hp) : Sm rvI g_X10_reads 0 (ent 2 [.ref l0]) [] h (f_X10_reads l0 h) := by
  show Sm rvI g_X10_reads 0 [.ref l0, .null] [] h _
  unfold f_X10_reads
  refine Sm.iconst dX10_reads_0 ic_0 rfl ?_
  refine Sm.istore_n (lv' := [.ref l0, .int (0 : Int32)]) dX10_reads_1 rfl (Nat.le_of_ble_eq_true rfl) rfl rfl ?_
  exact Sm.wk (Sm.loop (σ := Int32 × Hp) (LV := fun s => [.ref l0, .int s.1]) (HH := fun s => s.2) (fun k hk s => t_X10_reads_2 l0 s.1 s.2 k hk) 5000 ((0 : Int32), h)) ⟨Or.inr rfl, Or.inr rfl, trivial⟩
set_option maxRecDepth 20000 in
theorem kc_X10_182 {ρ : Type} {rv : ρ → Option Value} {G : Gx} {pc q : Nat} {lv st : List Value} {h : Hp} {a : Nat} {e : Int32 → Hp → Option (ρ × Hp)} (hk : isO h a 10) (d : decode G.2.1 pc = .ok (.invokevirtual 182, 3)) (ho : G.1.cls = RX10) (hdep : (g_X10_reads).2.2.2.2 < G.2.2.2.2) (hcat : catS st ≤ 8) (hq : pc + 3 = q) (k : ∀ r h1, Sm rv G q lv (.int r :: st) h1 (e r h1)) : Sm rv G pc lv (.ref a :: st) h (bd (f_X10_reads a h) e) :=
  Sm.callV (rv' := rvI) (args := []) (n := 0) (t_X10_reads a h) hk (by decide) (r := (RX10, TX10, 43)) rfl rfl ho mw_1050 mw_1052 mp_51 mw_11 mw_1053 ⟨⟨by decide, rfl, hdep, Nat.le_of_ble_eq_true rfl⟩, Nat.le_of_ble_eq_true rfl, rfl, ⟨by decide, by decide⟩, hcat⟩ (by decide +kernel) (fun v hv => by cases hv) d hq k rfl
abbrev g_X10_parse : Gx := (yX10_parse, cX10_parse, 3, (Option.some FieldType.int), 5)
def f_X10_parse (l0 : Nat) (l1 : Int32) (h : Hp) : Option (Int32 × Hp) :=
  (bd (f_X10_isSlot l1 h) fun v1 h2 =>
(if v1 = 0 then
(ck h2 l0 10
(bd (f_X10_fails l0 (-2 : Int32) h2) fun v5 h6 =>
(some (v5, h6))))
else
(ck h2 l0 10
(bd (f_X10_reads l0 h2) fun v8 h9 =>
(if v8 = (-1 : Int32) then
(ck h9 l0 10
(if (gI h9 l0 7) ≤ (60 : Int32) then
(bd (f_X10_keeps l0 l1 h9) fun v13 h14 =>
(some (v13, h14)))
else
(bd (f_X10_fails l0 (-4 : Int32) h9) fun v15 h16 =>
(some (v15, h16)))))
else
(some (((-10 : Int32) - v8), h9)))))))
set_option maxRecDepth 20000 in
theorem t_X10_parse (l0 : Nat) (l1 : Int32) (h : Hp) : Sm rvI g_X10_parse 0 (ent 3 [.ref l0, .int l1]) [] h (f_X10_parse l0 l1 h) := by
  show Sm rvI g_X10_parse 0 [.ref l0, .int l1, .null] [] h _
  unfold f_X10_parse
  refine Sm.iload_n dX10_parse_0 rfl rfl rfl ?_
  refine kc_X10_179 dX10_parse_1 rfl (Nat.le_of_ble_eq_true rfl) (Nat.le_of_ble_eq_true rfl) rfl (fun v1 h2 => ?_)
  refine Sm.if_ne (t := 14) dX10_parse_4 (by decide) rfl (fun b3 => ?_) (fun b3 => ?_)
  · refine Sm.aload_n dX10_parse_7 rfl rfl rfl ?_
    refine Sm.bipush dX10_parse_8 bp_m2 rfl ?_
    refine Sm.ck (fun o4 => ?_)
    refine kc_X10_106 o4 dX10_parse_10 rfl (Nat.le_of_ble_eq_true rfl) (Nat.le_of_ble_eq_true rfl) rfl (fun v5 h6 => ?_)
    exact Sm.ret dX10_parse_13 trivial rfl
  · refine Sm.aload_n dX10_parse_14 rfl rfl rfl ?_
    refine Sm.ck (fun o7 => ?_)
    refine kc_X10_182 o7 dX10_parse_15 rfl (Nat.le_of_ble_eq_true rfl) (Nat.le_of_ble_eq_true rfl) rfl (fun v8 h9 => ?_)
    refine Sm.istore_n (lv' := [.ref l0, .int l1, .int v8]) dX10_parse_18 rfl (Nat.le_of_ble_eq_true rfl) rfl rfl ?_
    refine Sm.iload_n dX10_parse_19 rfl rfl rfl ?_
    refine Sm.iconst dX10_parse_20 ic_m1 rfl ?_
    refine Sm.icmp_eq (t := 29) dX10_parse_21 (by decide) rfl (fun b10 => ?_) (fun b10 => ?_)
    · refine Sm.aload_n dX10_parse_29 rfl rfl rfl ?_
      refine Sm.ck (fun o11 => ?_)
      refine gf_X10_110 o11 dX10_parse_30 rfl rfl ?_
      refine Sm.bipush dX10_parse_33 bp_60 rfl ?_
      refine Sm.icmp_le (t := 47) dX10_parse_35 (by decide) rfl (fun b12 => ?_) (fun b12 => ?_)
      · refine Sm.aload_n dX10_parse_47 rfl rfl rfl ?_
        refine Sm.iload_n dX10_parse_48 rfl rfl rfl ?_
        refine kc_X10_185 o11 dX10_parse_49 rfl (Nat.le_of_ble_eq_true rfl) (Nat.le_of_ble_eq_true rfl) rfl (fun v13 h14 => ?_)
        exact Sm.ret dX10_parse_52 trivial rfl
      · refine Sm.aload_n dX10_parse_38 rfl rfl rfl ?_
        refine Sm.bipush dX10_parse_39 bp_m4 rfl ?_
        refine kc_X10_106 o11 dX10_parse_41 rfl (Nat.le_of_ble_eq_true rfl) (Nat.le_of_ble_eq_true rfl) rfl (fun v15 h16 => ?_)
        refine Sm.goto (t := 52) dX10_parse_44 (by decide) ?_
        exact Sm.ret dX10_parse_52 trivial rfl
    · refine Sm.bipush dX10_parse_24 bp_m10 rfl ?_
      refine Sm.iload_n dX10_parse_26 rfl rfl rfl ?_
      refine Sm.isub dX10_parse_27 rfl ?_
      exact Sm.ret dX10_parse_28 trivial rfl
set_option maxRecDepth 20000 in
theorem kc_L_26 {ρ : Type} {rv : ρ → Option Value} {G : Gx} {pc q : Nat} {lv st : List Value} {h : Hp} {a : Nat} {x1 : Int32} {e : Int32 → Hp → Option (ρ × Hp)} (hk : isO h a 10) (d : decode G.2.1 pc = .ok (.invokevirtual 26, 3)) (ho : G.1.cls = RL) (hdep : (g_X10_parse).2.2.2.2 < G.2.2.2.2) (hcat : catS st ≤ 8) (hq : pc + 3 = q) (k : ∀ r h1, Sm rv G q lv (.int r :: st) h1 (e r h1)) : Sm rv G pc lv (.int x1 :: .ref a :: st) h (bd (f_X10_parse a x1 h) e) :=
  Sm.callV (rv' := rvI) (args := [.int x1]) (n := 1) (t_X10_parse a x1 h) hk (by decide) (r := (RX10, TX10, 43)) rfl rfl ho mw_1043 mw_1044 mw_1045 mw_11 mw_1046 ⟨⟨by decide, rfl, hdep, Nat.le_of_ble_eq_true rfl⟩, Nat.le_of_ble_eq_true rfl, rfl, ⟨by decide, by decide⟩, hcat⟩ (by decide +kernel) (by intro v hv; simp only [List.mem_cons, List.not_mem_nil, or_false] at hv; rcases hv with rfl <;> intro x hx <;> cases hx) d hq k rfl
abbrev g_X10_combine : Gx := (yX10_combine, cX10_combine, 5, (Option.some FieldType.int), 2)
def f_X10_combine_31 (l0 : Nat) (h : Hp) : Option (Int32 × Hp) :=
  (ck h l0 10
(bd (f_X10_fails l0 (-2 : Int32) h) fun v5 h6 =>
(some (v5, h6))))
set_option maxRecDepth 20000 in
theorem t_X10_combine_31 (l0 : Nat) (h : Hp) : Sm rvI g_X10_combine 31 [.ref l0, .null, .null, .null, .null] [] h (f_X10_combine_31 l0 h) := by
  unfold f_X10_combine_31
  refine Sm.aload_n dX10_combine_31 rfl rfl rfl ?_
  refine Sm.bipush dX10_combine_32 bp_m2 rfl ?_
  refine Sm.ck (fun o4 => ?_)
  refine kc_X10_106 o4 dX10_combine_34 rfl (Nat.le_of_ble_eq_true rfl) (Nat.le_of_ble_eq_true rfl) rfl (fun v5 h6 => ?_)
  exact Sm.ret dX10_combine_37 trivial rfl
def f_X10_combine (l0 : Nat) (l1 : Int32) (l2 : Int32) (l3 : Int32) (l4 : Int32) (h : Hp) : Option (Int32 × Hp) :=
  (bd (f_X10_within l1 (0 : Int32) (1 : Int32) h) fun v1 h2 =>
(if v1 = 0 then
(f_X10_combine_31 l0 h2)
else
(bd (f_X10_isSlot l2 h2) fun v7 h8 =>
(if v7 = 0 then
(f_X10_combine_31 l0 h8)
else
(bd (f_X10_isSlot l3 h8) fun v10 h11 =>
(if v10 = 0 then
(f_X10_combine_31 l0 h11)
else
(bd (f_X10_isSlot l4 h11) fun v13 h14 =>
(if v13 = 0 then
(f_X10_combine_31 l0 h14)
else
(ck h14 l0 10
((gP h14 l0 0).bind fun v17 =>
(ca h14 v17 20 l2
((gP h14 l0 0).bind fun v19 =>
(ca h14 v19 20 l3
(if ((gI h14 v17 l2.toNatClampNeg) + (gI h14 v19 l3.toNatClampNeg)) < (60 : Int32) then
(bd (f_X10_copies l0 l2 (sI h14 l0 7 (0 : Int32))) fun _ h22 =>
(ck h22 l0 10
(bd (f_X10_copies l0 l3 h22) fun _ h24 =>
(ck h24 l0 10
(bd (f_X10_makes l0 ((50 : Int32) + l1) h24) fun _ h26 =>
(ck h26 l0 10
(bd (f_X10_keeps l0 l4 h26) fun v28 h29 =>
(some (v28, h29)))))))))
else
(bd (f_X10_fails l0 (-4 : Int32) h14) fun v30 h31 =>
(some (v30, h31)))))))))))))))))
set_option maxRecDepth 20000 in
theorem t_X10_combine (l0 : Nat) (l1 : Int32) (l2 : Int32) (l3 : Int32) (l4 : Int32) (h : Hp) : Sm rvI g_X10_combine 0 (ent 5 [.ref l0, .int l1, .int l2, .int l3, .int l4]) [] h (f_X10_combine l0 l1 l2 l3 l4 h) := by
  show Sm rvI g_X10_combine 0 [.ref l0, .int l1, .int l2, .int l3, .int l4] [] h _
  unfold f_X10_combine
  refine Sm.iload_n dX10_combine_0 rfl rfl rfl ?_
  refine Sm.iconst dX10_combine_1 ic_0 rfl ?_
  refine Sm.iconst dX10_combine_2 ic_1 rfl ?_
  refine kc_X10_98 dX10_combine_3 rfl (Nat.le_of_ble_eq_true rfl) (Nat.le_of_ble_eq_true rfl) rfl (fun v1 h2 => ?_)
  refine Sm.if_eq (t := 31) dX10_combine_6 (by decide) rfl (fun b3 => ?_) (fun b3 => ?_)
  · exact Sm.wk (t_X10_combine_31 l0 h2) ⟨Or.inr rfl, Or.inl rfl, Or.inl rfl, Or.inl rfl, Or.inl rfl, trivial⟩
  · refine Sm.iload_n dX10_combine_9 rfl rfl rfl ?_
    refine kc_X10_179 dX10_combine_10 rfl (Nat.le_of_ble_eq_true rfl) (Nat.le_of_ble_eq_true rfl) rfl (fun v7 h8 => ?_)
    refine Sm.if_eq (t := 31) dX10_combine_13 (by decide) rfl (fun b9 => ?_) (fun b9 => ?_)
    · exact Sm.wk (t_X10_combine_31 l0 h8) ⟨Or.inr rfl, Or.inl rfl, Or.inl rfl, Or.inl rfl, Or.inl rfl, trivial⟩
    · refine Sm.iload_n dX10_combine_16 rfl rfl rfl ?_
      refine kc_X10_179 dX10_combine_17 rfl (Nat.le_of_ble_eq_true rfl) (Nat.le_of_ble_eq_true rfl) rfl (fun v10 h11 => ?_)
      refine Sm.if_eq (t := 31) dX10_combine_20 (by decide) rfl (fun b12 => ?_) (fun b12 => ?_)
      · exact Sm.wk (t_X10_combine_31 l0 h11) ⟨Or.inr rfl, Or.inl rfl, Or.inl rfl, Or.inl rfl, Or.inl rfl, trivial⟩
      · refine Sm.iload dX10_combine_23 rfl rfl ?_
        refine kc_X10_179 dX10_combine_25 rfl (Nat.le_of_ble_eq_true rfl) (Nat.le_of_ble_eq_true rfl) rfl (fun v13 h14 => ?_)
        refine Sm.if_ne (t := 38) dX10_combine_28 (by decide) rfl (fun b15 => ?_) (fun b15 => ?_)
        · exact Sm.wk (t_X10_combine_31 l0 h14) ⟨Or.inr rfl, Or.inl rfl, Or.inl rfl, Or.inl rfl, Or.inl rfl, trivial⟩
        · refine Sm.aload_n dX10_combine_38 rfl rfl rfl ?_
          refine Sm.ck (fun o16 => ?_)
          refine gf_X10_7 o16 dX10_combine_39 rfl rfl (fun v17 => ?_)
          refine Sm.iload_n dX10_combine_42 rfl rfl rfl ?_
          refine Sm.ca (fun q18 => ?_)
          refine Sm.iald q18 dX10_combine_43 rfl ?_
          refine Sm.aload_n dX10_combine_44 rfl rfl rfl ?_
          refine gf_X10_7 o16 dX10_combine_45 rfl rfl (fun v19 => ?_)
          refine Sm.iload_n dX10_combine_48 rfl rfl rfl ?_
          refine Sm.ca (fun q20 => ?_)
          refine Sm.iald q20 dX10_combine_49 rfl ?_
          refine Sm.iadd dX10_combine_50 rfl ?_
          refine Sm.bipush dX10_combine_51 bp_60 rfl ?_
          refine Sm.icmp_lt (t := 63) dX10_combine_53 (by decide) rfl (fun b21 => ?_) (fun b21 => ?_)
          · refine Sm.aload_n dX10_combine_63 rfl rfl rfl ?_
            refine Sm.iconst dX10_combine_64 ic_0 rfl ?_
            refine pf_X10_110 o16 dX10_combine_65 rfl rfl ?_
            refine Sm.aload_n dX10_combine_68 rfl rfl rfl ?_
            refine Sm.iload_n dX10_combine_69 rfl rfl rfl ?_
            refine kc_X10_149 o16 dX10_combine_70 rfl (Nat.le_of_ble_eq_true rfl) (Nat.le_of_ble_eq_true rfl) rfl (fun _ h22 => ?_)
            refine Sm.aload_n dX10_combine_73 rfl rfl rfl ?_
            refine Sm.iload_n dX10_combine_74 rfl rfl rfl ?_
            refine Sm.ck (fun o23 => ?_)
            refine kc_X10_149 o23 dX10_combine_75 rfl (Nat.le_of_ble_eq_true rfl) (Nat.le_of_ble_eq_true rfl) rfl (fun _ h24 => ?_)
            refine Sm.aload_n dX10_combine_78 rfl rfl rfl ?_
            refine Sm.bipush dX10_combine_79 bp_50 rfl ?_
            refine Sm.iload_n dX10_combine_81 rfl rfl rfl ?_
            refine Sm.iadd dX10_combine_82 rfl ?_
            refine Sm.ck (fun o25 => ?_)
            refine kc_X10_127 o25 dX10_combine_83 rfl (Nat.le_of_ble_eq_true rfl) (Nat.le_of_ble_eq_true rfl) rfl (fun _ h26 => ?_)
            refine Sm.aload_n dX10_combine_86 rfl rfl rfl ?_
            refine Sm.iload dX10_combine_87 rfl rfl ?_
            refine Sm.ck (fun o27 => ?_)
            refine kc_X10_185 o27 dX10_combine_89 rfl (Nat.le_of_ble_eq_true rfl) (Nat.le_of_ble_eq_true rfl) rfl (fun v28 h29 => ?_)
            exact Sm.ret dX10_combine_92 trivial rfl
          · refine Sm.aload_n dX10_combine_56 rfl rfl rfl ?_
            refine Sm.bipush dX10_combine_57 bp_m4 rfl ?_
            refine kc_X10_106 o16 dX10_combine_59 rfl (Nat.le_of_ble_eq_true rfl) (Nat.le_of_ble_eq_true rfl) rfl (fun v30 h31 => ?_)
            exact Sm.ret dX10_combine_62 trivial rfl
set_option maxRecDepth 20000 in
theorem kc_L_31 {ρ : Type} {rv : ρ → Option Value} {G : Gx} {pc q : Nat} {lv st : List Value} {h : Hp} {a : Nat} {x1 : Int32} {x2 : Int32} {x3 : Int32} {x4 : Int32} {e : Int32 → Hp → Option (ρ × Hp)} (hk : isO h a 10) (d : decode G.2.1 pc = .ok (.invokevirtual 31, 3)) (ho : G.1.cls = RL) (hdep : (g_X10_combine).2.2.2.2 < G.2.2.2.2) (hcat : catS st ≤ 8) (hq : pc + 3 = q) (k : ∀ r h1, Sm rv G q lv (.int r :: st) h1 (e r h1)) : Sm rv G pc lv (.int x4 :: .int x3 :: .int x2 :: .int x1 :: .ref a :: st) h (bd (f_X10_combine a x1 x2 x3 x4 h) e) :=
  Sm.callV (rv' := rvI) (args := [.int x1, .int x2, .int x3, .int x4]) (n := 4) (t_X10_combine a x1 x2 x3 x4 h) hk (by decide) (r := (RX10, TX10, 43)) rfl rfl ho mw_1118 mw_1119 mw_1120 mw_11 mw_1121 ⟨⟨by decide, rfl, hdep, Nat.le_of_ble_eq_true rfl⟩, Nat.le_of_ble_eq_true rfl, rfl, ⟨by decide, by decide⟩, hcat⟩ (by decide +kernel) (by intro v hv; simp only [List.mem_cons, List.not_mem_nil, or_false] at hv; rcases hv with rfl | rfl | rfl | rfl <;> intro x hx <;> cases hx) d hq k rfl
abbrev g_X10_modify : Gx := (yX10_modify, cX10_modify, 4, (Option.some FieldType.int), 2)
def f_X10_modify_23 (l0 : Nat) (h : Hp) : Option (Int32 × Hp) :=
  (ck h l0 10
(bd (f_X10_fails l0 (-2 : Int32) h) fun v5 h6 =>
(some (v5, h6))))
set_option maxRecDepth 20000 in
theorem t_X10_modify_23 (l0 : Nat) (h : Hp) : Sm rvI g_X10_modify 23 [.ref l0, .null, .null, .null] [] h (f_X10_modify_23 l0 h) := by
  unfold f_X10_modify_23
  refine Sm.aload_n dX10_modify_23 rfl rfl rfl ?_
  refine Sm.bipush dX10_modify_24 bp_m2 rfl ?_
  refine Sm.ck (fun o4 => ?_)
  refine kc_X10_106 o4 dX10_modify_26 rfl (Nat.le_of_ble_eq_true rfl) (Nat.le_of_ble_eq_true rfl) rfl (fun v5 h6 => ?_)
  exact Sm.ret dX10_modify_29 trivial rfl
def f_X10_modify_50 (l0 : Nat) (l1 : Int32) (l2 : Int32) (l3 : Int32) (h : Hp) : Option (Int32 × Hp) :=
  (ck h l0 10
((gP h l0 0).bind fun v22 =>
(ca h v22 20 l2
(if (gI h v22 l2.toNatClampNeg) < (60 : Int32) then
(bd (f_X10_copies l0 l2 (sI h l0 7 (0 : Int32))) fun _ h25 =>
(ck h25 l0 10
(bd (f_X10_makes l0 ((52 : Int32) + l1) h25) fun _ h27 =>
(ck h27 l0 10
(bd (f_X10_keeps l0 l3 h27) fun v29 h30 =>
(some (v29, h30)))))))
else
(bd (f_X10_fails l0 (-4 : Int32) h) fun v31 h32 =>
(some (v31, h32)))))))
set_option maxRecDepth 20000 in
theorem t_X10_modify_50 (l0 : Nat) (l1 : Int32) (l2 : Int32) (l3 : Int32) (h : Hp) : Sm rvI g_X10_modify 50 [.ref l0, .int l1, .int l2, .int l3] [] h (f_X10_modify_50 l0 l1 l2 l3 h) := by
  unfold f_X10_modify_50
  refine Sm.aload_n dX10_modify_50 rfl rfl rfl ?_
  refine Sm.ck (fun o21 => ?_)
  refine gf_X10_7 o21 dX10_modify_51 rfl rfl (fun v22 => ?_)
  refine Sm.iload_n dX10_modify_54 rfl rfl rfl ?_
  refine Sm.ca (fun q23 => ?_)
  refine Sm.iald q23 dX10_modify_55 rfl ?_
  refine Sm.bipush dX10_modify_56 bp_60 rfl ?_
  refine Sm.icmp_lt (t := 68) dX10_modify_58 (by decide) rfl (fun b24 => ?_) (fun b24 => ?_)
  · refine Sm.aload_n dX10_modify_68 rfl rfl rfl ?_
    refine Sm.iconst dX10_modify_69 ic_0 rfl ?_
    refine pf_X10_110 o21 dX10_modify_70 rfl rfl ?_
    refine Sm.aload_n dX10_modify_73 rfl rfl rfl ?_
    refine Sm.iload_n dX10_modify_74 rfl rfl rfl ?_
    refine kc_X10_149 o21 dX10_modify_75 rfl (Nat.le_of_ble_eq_true rfl) (Nat.le_of_ble_eq_true rfl) rfl (fun _ h25 => ?_)
    refine Sm.aload_n dX10_modify_78 rfl rfl rfl ?_
    refine Sm.bipush dX10_modify_79 bp_52 rfl ?_
    refine Sm.iload_n dX10_modify_81 rfl rfl rfl ?_
    refine Sm.iadd dX10_modify_82 rfl ?_
    refine Sm.ck (fun o26 => ?_)
    refine kc_X10_127 o26 dX10_modify_83 rfl (Nat.le_of_ble_eq_true rfl) (Nat.le_of_ble_eq_true rfl) rfl (fun _ h27 => ?_)
    refine Sm.aload_n dX10_modify_86 rfl rfl rfl ?_
    refine Sm.iload_n dX10_modify_87 rfl rfl rfl ?_
    refine Sm.ck (fun o28 => ?_)
    refine kc_X10_185 o28 dX10_modify_88 rfl (Nat.le_of_ble_eq_true rfl) (Nat.le_of_ble_eq_true rfl) rfl (fun v29 h30 => ?_)
    exact Sm.ret dX10_modify_91 trivial rfl
  · refine Sm.aload_n dX10_modify_61 rfl rfl rfl ?_
    refine Sm.bipush dX10_modify_62 bp_m4 rfl ?_
    refine kc_X10_106 o21 dX10_modify_64 rfl (Nat.le_of_ble_eq_true rfl) (Nat.le_of_ble_eq_true rfl) rfl (fun v31 h32 => ?_)
    exact Sm.ret dX10_modify_67 trivial rfl
def f_X10_modify (l0 : Nat) (l1 : Int32) (l2 : Int32) (l3 : Int32) (h : Hp) : Option (Int32 × Hp) :=
  (bd (f_X10_within l1 (0 : Int32) (1 : Int32) h) fun v1 h2 =>
(if v1 = 0 then
(f_X10_modify_23 l0 h2)
else
(bd (f_X10_isSlot l2 h2) fun v7 h8 =>
(if v7 = 0 then
(f_X10_modify_23 l0 h8)
else
(bd (f_X10_isSlot l3 h8) fun v10 h11 =>
(if v10 = 0 then
(f_X10_modify_23 l0 h11)
else
(if l1 = (1 : Int32) then
(ck h11 l0 10
(bd (f_X10_isPredicateRow l0 l2 h11) fun v15 h16 =>
(if v15 = 0 then
(ck h16 l0 10
(bd (f_X10_fails l0 (-3 : Int32) h16) fun v19 h20 =>
(some (v19, h20))))
else
(f_X10_modify_50 l0 l1 l2 l3 h16))))
else
(f_X10_modify_50 l0 l1 l2 l3 h11))))))))
set_option maxRecDepth 20000 in
theorem t_X10_modify (l0 : Nat) (l1 : Int32) (l2 : Int32) (l3 : Int32) (h : Hp) : Sm rvI g_X10_modify 0 (ent 4 [.ref l0, .int l1, .int l2, .int l3]) [] h (f_X10_modify l0 l1 l2 l3 h) := by
  show Sm rvI g_X10_modify 0 [.ref l0, .int l1, .int l2, .int l3] [] h _
  unfold f_X10_modify
  refine Sm.iload_n dX10_modify_0 rfl rfl rfl ?_
  refine Sm.iconst dX10_modify_1 ic_0 rfl ?_
  refine Sm.iconst dX10_modify_2 ic_1 rfl ?_
  refine kc_X10_98 dX10_modify_3 rfl (Nat.le_of_ble_eq_true rfl) (Nat.le_of_ble_eq_true rfl) rfl (fun v1 h2 => ?_)
  refine Sm.if_eq (t := 23) dX10_modify_6 (by decide) rfl (fun b3 => ?_) (fun b3 => ?_)
  · exact Sm.wk (t_X10_modify_23 l0 h2) ⟨Or.inr rfl, Or.inl rfl, Or.inl rfl, Or.inl rfl, trivial⟩
  · refine Sm.iload_n dX10_modify_9 rfl rfl rfl ?_
    refine kc_X10_179 dX10_modify_10 rfl (Nat.le_of_ble_eq_true rfl) (Nat.le_of_ble_eq_true rfl) rfl (fun v7 h8 => ?_)
    refine Sm.if_eq (t := 23) dX10_modify_13 (by decide) rfl (fun b9 => ?_) (fun b9 => ?_)
    · exact Sm.wk (t_X10_modify_23 l0 h8) ⟨Or.inr rfl, Or.inl rfl, Or.inl rfl, Or.inl rfl, trivial⟩
    · refine Sm.iload_n dX10_modify_16 rfl rfl rfl ?_
      refine kc_X10_179 dX10_modify_17 rfl (Nat.le_of_ble_eq_true rfl) (Nat.le_of_ble_eq_true rfl) rfl (fun v10 h11 => ?_)
      refine Sm.if_ne (t := 30) dX10_modify_20 (by decide) rfl (fun b12 => ?_) (fun b12 => ?_)
      · exact Sm.wk (t_X10_modify_23 l0 h11) ⟨Or.inr rfl, Or.inl rfl, Or.inl rfl, Or.inl rfl, trivial⟩
      · refine Sm.iload_n dX10_modify_30 rfl rfl rfl ?_
        refine Sm.iconst dX10_modify_31 ic_1 rfl ?_
        refine Sm.icmp_ne (t := 50) dX10_modify_32 (by decide) rfl (fun b13 => ?_) (fun b13 => ?_)
        · refine Sm.aload_n dX10_modify_35 rfl rfl rfl ?_
          refine Sm.iload_n dX10_modify_36 rfl rfl rfl ?_
          refine Sm.ck (fun o14 => ?_)
          refine kc_X10_166 o14 dX10_modify_37 rfl (Nat.le_of_ble_eq_true rfl) (Nat.le_of_ble_eq_true rfl) rfl (fun v15 h16 => ?_)
          refine Sm.if_ne (t := 50) dX10_modify_40 (by decide) rfl (fun b17 => ?_) (fun b17 => ?_)
          · refine Sm.aload_n dX10_modify_43 rfl rfl rfl ?_
            refine Sm.bipush dX10_modify_44 bp_m3 rfl ?_
            refine Sm.ck (fun o18 => ?_)
            refine kc_X10_106 o18 dX10_modify_46 rfl (Nat.le_of_ble_eq_true rfl) (Nat.le_of_ble_eq_true rfl) rfl (fun v19 h20 => ?_)
            exact Sm.ret dX10_modify_49 trivial rfl
          · exact Sm.wk (t_X10_modify_50 l0 l1 l2 l3 h16) ⟨Or.inr rfl, Or.inr rfl, Or.inr rfl, Or.inr rfl, trivial⟩
        · exact Sm.wk (t_X10_modify_50 l0 l1 l2 l3 h11) ⟨Or.inr rfl, Or.inr rfl, Or.inr rfl, Or.inr rfl, trivial⟩
set_option maxRecDepth 20000 in
theorem kc_L_36 {ρ : Type} {rv : ρ → Option Value} {G : Gx} {pc q : Nat} {lv st : List Value} {h : Hp} {a : Nat} {x1 : Int32} {x2 : Int32} {x3 : Int32} {e : Int32 → Hp → Option (ρ × Hp)} (hk : isO h a 10) (d : decode G.2.1 pc = .ok (.invokevirtual 36, 3)) (ho : G.1.cls = RL) (hdep : (g_X10_modify).2.2.2.2 < G.2.2.2.2) (hcat : catS st ≤ 8) (hq : pc + 3 = q) (k : ∀ r h1, Sm rv G q lv (.int r :: st) h1 (e r h1)) : Sm rv G pc lv (.int x3 :: .int x2 :: .int x1 :: .ref a :: st) h (bd (f_X10_modify a x1 x2 x3 h) e) :=
  Sm.callV (rv' := rvI) (args := [.int x1, .int x2, .int x3]) (n := 3) (t_X10_modify a x1 x2 x3 h) hk (by decide) (r := (RX10, TX10, 43)) rfl rfl ho mw_1122 mw_1123 mw_1124 mw_11 mw_1125 ⟨⟨by decide, rfl, hdep, Nat.le_of_ble_eq_true rfl⟩, Nat.le_of_ble_eq_true rfl, rfl, ⟨by decide, by decide⟩, hcat⟩ (by decide +kernel) (by intro v hv; simp only [List.mem_cons, List.not_mem_nil, or_false] at hv; rcases hv with rfl | rfl | rfl <;> intro x hx <;> cases hx) d hq k rfl
abbrev g_X10_size : Gx := (yX10_size, cX10_size, 2, (Option.some FieldType.int), 2)
def f_X10_size (l0 : Nat) (l1 : Int32) (h : Hp) : Option (Int32 × Hp) :=
  (bd (f_X10_isSlot l1 h) fun v1 h2 =>
(if v1 = 0 then
(ck h2 l0 10
(bd (f_X10_fails l0 (-2 : Int32) h2) fun v5 h6 =>
(some (v5, h6))))
else
(ck h2 l0 10
((gP h2 l0 0).bind fun v8 =>
(ca h2 v8 20 l1
(some ((gI h2 v8 l1.toNatClampNeg), h2)))))))
set_option maxRecDepth 20000 in
theorem t_X10_size (l0 : Nat) (l1 : Int32) (h : Hp) : Sm rvI g_X10_size 0 (ent 2 [.ref l0, .int l1]) [] h (f_X10_size l0 l1 h) := by
  show Sm rvI g_X10_size 0 [.ref l0, .int l1] [] h _
  unfold f_X10_size
  refine Sm.iload_n dX10_size_0 rfl rfl rfl ?_
  refine kc_X10_179 dX10_size_1 rfl (Nat.le_of_ble_eq_true rfl) (Nat.le_of_ble_eq_true rfl) rfl (fun v1 h2 => ?_)
  refine Sm.if_eq (t := 16) dX10_size_4 (by decide) rfl (fun b3 => ?_) (fun b3 => ?_)
  · refine Sm.aload_n dX10_size_16 rfl rfl rfl ?_
    refine Sm.bipush dX10_size_17 bp_m2 rfl ?_
    refine Sm.ck (fun o4 => ?_)
    refine kc_X10_106 o4 dX10_size_19 rfl (Nat.le_of_ble_eq_true rfl) (Nat.le_of_ble_eq_true rfl) rfl (fun v5 h6 => ?_)
    exact Sm.ret dX10_size_22 trivial rfl
  · refine Sm.aload_n dX10_size_7 rfl rfl rfl ?_
    refine Sm.ck (fun o7 => ?_)
    refine gf_X10_7 o7 dX10_size_8 rfl rfl (fun v8 => ?_)
    refine Sm.iload_n dX10_size_11 rfl rfl rfl ?_
    refine Sm.ca (fun q9 => ?_)
    refine Sm.iald q9 dX10_size_12 rfl ?_
    refine Sm.goto (t := 22) dX10_size_13 (by decide) ?_
    exact Sm.ret dX10_size_22 trivial rfl
set_option maxRecDepth 20000 in
theorem kc_L_40 {ρ : Type} {rv : ρ → Option Value} {G : Gx} {pc q : Nat} {lv st : List Value} {h : Hp} {a : Nat} {x1 : Int32} {e : Int32 → Hp → Option (ρ × Hp)} (hk : isO h a 10) (d : decode G.2.1 pc = .ok (.invokevirtual 40, 3)) (ho : G.1.cls = RL) (hdep : (g_X10_size).2.2.2.2 < G.2.2.2.2) (hcat : catS st ≤ 8) (hq : pc + 3 = q) (k : ∀ r h1, Sm rv G q lv (.int r :: st) h1 (e r h1)) : Sm rv G pc lv (.int x1 :: .ref a :: st) h (bd (f_X10_size a x1 h) e) :=
  Sm.callV (rv' := rvI) (args := [.int x1]) (n := 1) (t_X10_size a x1 h) hk (by decide) (r := (RX10, TX10, 43)) rfl rfl ho mw_1126 mw_1127 mw_1128 mw_11 mw_1129 ⟨⟨by decide, rfl, hdep, Nat.le_of_ble_eq_true rfl⟩, Nat.le_of_ble_eq_true rfl, rfl, ⟨by decide, by decide⟩, hcat⟩ (by decide +kernel) (by intro v hv; simp only [List.mem_cons, List.not_mem_nil, or_false] at hv; rcases hv with rfl <;> intro x hx <;> cases hx) d hq k rfl
abbrev g_X10_isPredicate : Gx := (yX10_isPredicate, cX10_isPredicate, 2, (Option.some FieldType.int), 2)
def f_X10_isPredicate (l0 : Nat) (l1 : Int32) (h : Hp) : Option (Int32 × Hp) :=
  (bd (f_X10_isSlot l1 h) fun v1 h2 =>
(if v1 = 0 then
(ck h2 l0 10
(bd (f_X10_fails l0 (-2 : Int32) h2) fun v5 h6 =>
(some (v5, h6))))
else
(ck h2 l0 10
(bd (f_X10_isPredicateRow l0 l1 h2) fun v8 h9 =>
(if v8 = 0 then
(some ((0 : Int32), h9))
else
(some ((1 : Int32), h9)))))))
set_option maxRecDepth 20000 in
theorem t_X10_isPredicate (l0 : Nat) (l1 : Int32) (h : Hp) : Sm rvI g_X10_isPredicate 0 (ent 2 [.ref l0, .int l1]) [] h (f_X10_isPredicate l0 l1 h) := by
  show Sm rvI g_X10_isPredicate 0 [.ref l0, .int l1] [] h _
  unfold f_X10_isPredicate
  refine Sm.iload_n dX10_isPredicate_0 rfl rfl rfl ?_
  refine kc_X10_179 dX10_isPredicate_1 rfl (Nat.le_of_ble_eq_true rfl) (Nat.le_of_ble_eq_true rfl) rfl (fun v1 h2 => ?_)
  refine Sm.if_eq (t := 23) dX10_isPredicate_4 (by decide) rfl (fun b3 => ?_) (fun b3 => ?_)
  · refine Sm.aload_n dX10_isPredicate_23 rfl rfl rfl ?_
    refine Sm.bipush dX10_isPredicate_24 bp_m2 rfl ?_
    refine Sm.ck (fun o4 => ?_)
    refine kc_X10_106 o4 dX10_isPredicate_26 rfl (Nat.le_of_ble_eq_true rfl) (Nat.le_of_ble_eq_true rfl) rfl (fun v5 h6 => ?_)
    exact Sm.ret dX10_isPredicate_29 trivial rfl
  · refine Sm.aload_n dX10_isPredicate_7 rfl rfl rfl ?_
    refine Sm.iload_n dX10_isPredicate_8 rfl rfl rfl ?_
    refine Sm.ck (fun o7 => ?_)
    refine kc_X10_166 o7 dX10_isPredicate_9 rfl (Nat.le_of_ble_eq_true rfl) (Nat.le_of_ble_eq_true rfl) rfl (fun v8 h9 => ?_)
    refine Sm.if_eq (t := 19) dX10_isPredicate_12 (by decide) rfl (fun b10 => ?_) (fun b10 => ?_)
    · refine Sm.iconst dX10_isPredicate_19 ic_0 rfl ?_
      refine Sm.goto (t := 29) dX10_isPredicate_20 (by decide) ?_
      exact Sm.ret dX10_isPredicate_29 trivial rfl
    · refine Sm.iconst dX10_isPredicate_15 ic_1 rfl ?_
      refine Sm.goto (t := 29) dX10_isPredicate_16 (by decide) ?_
      exact Sm.ret dX10_isPredicate_29 trivial rfl
set_option maxRecDepth 20000 in
theorem kc_L_44 {ρ : Type} {rv : ρ → Option Value} {G : Gx} {pc q : Nat} {lv st : List Value} {h : Hp} {a : Nat} {x1 : Int32} {e : Int32 → Hp → Option (ρ × Hp)} (hk : isO h a 10) (d : decode G.2.1 pc = .ok (.invokevirtual 44, 3)) (ho : G.1.cls = RL) (hdep : (g_X10_isPredicate).2.2.2.2 < G.2.2.2.2) (hcat : catS st ≤ 8) (hq : pc + 3 = q) (k : ∀ r h1, Sm rv G q lv (.int r :: st) h1 (e r h1)) : Sm rv G pc lv (.int x1 :: .ref a :: st) h (bd (f_X10_isPredicate a x1 h) e) :=
  Sm.callV (rv' := rvI) (args := [.int x1]) (n := 1) (t_X10_isPredicate a x1 h) hk (by decide) (r := (RX10, TX10, 43)) rfl rfl ho mw_1130 mw_1131 mw_1132 mw_11 mw_1133 ⟨⟨by decide, rfl, hdep, Nat.le_of_ble_eq_true rfl⟩, Nat.le_of_ble_eq_true rfl, rfl, ⟨by decide, by decide⟩, hcat⟩ (by decide +kernel) (by intro v hv; simp only [List.mem_cons, List.not_mem_nil, or_false] at hv; rcases hv with rfl <;> intro x hx <;> cases hx) d hq k rfl
abbrev g_X10_laysOperands : Gx := (yX10_laysOperands, cX10_laysOperands, 5, (Option.none : Option FieldType), 1)
def f_X10_laysOperands_145 (k7 : (Int32 × Hp) → Option (Unit × Hp)) (l0 : Nat) (l1 : Int32) (l2 : Int32) (s0 : Nat) (s1 : Int32) (s2 : Int32) (h : Hp) : Option (Unit × Hp) :=
  (ca h s0 20 s1
(ck (sI h s0 s1.toNatClampNeg s2) l0 10
((gP (sI h s0 s1.toNatClampNeg s2) l0 20).bind fun v24 =>
(ca (sI h s0 s1.toNatClampNeg s2) v24 20 (gI (sI h s0 s1.toNatClampNeg s2) l0 21)
(nm (sI (sI h s0 s1.toNatClampNeg s2) v24 (gI (sI h s0 s1.toNatClampNeg s2) l0 21).toNatClampNeg l2) fun h26 =>
(nm (l2 + (1 : Int32)) fun v29 =>
(k7 (v29, (sI h26 l0 21 ((gI h26 l0 21) + (1 : Int32)))))))))))
set_option maxRecDepth 20000 in
theorem t_X10_laysOperands_145 (l0 : Nat) (l1 : Int32) (l2 : Int32) (s0 : Nat) (s1 : Int32) (s2 : Int32) (h : Hp) (k7 : (Int32 × Hp) → Option (Unit × Hp)) (hk7 : ∀ s : Int32 × Hp, Sm rvV g_X10_laysOperands 7 [.ref l0, .int l1, .int s.1, .null, .null] [] s.2 (k7 s)) : Sm rvV g_X10_laysOperands 145 [.ref l0, .int l1, .int l2, .null, .null] [.int s2, .int s1, .ref s0] h (f_X10_laysOperands_145 k7 l0 l1 l2 s0 s1 s2 h) := by
  unfold f_X10_laysOperands_145
  refine Sm.ca (fun q22 => ?_)
  refine Sm.iast q22 dX10_laysOperands_145 rfl ?_
  refine Sm.aload_n dX10_laysOperands_146 rfl rfl rfl ?_
  refine Sm.ck (fun o23 => ?_)
  refine gf_X10_49 o23 dX10_laysOperands_147 rfl rfl (fun v24 => ?_)
  refine Sm.aload_n dX10_laysOperands_150 rfl rfl rfl ?_
  refine gf_X10_188 o23 dX10_laysOperands_151 rfl rfl ?_
  refine Sm.iload_n dX10_laysOperands_154 rfl rfl rfl ?_
  refine Sm.ca (fun q25 => ?_)
  refine Sm.iast q25 dX10_laysOperands_155 rfl ?_
  refine Sm.nmH (fun h26 e27 e28 => ?_)
  refine Sm.aload_n dX10_laysOperands_156 rfl rfl rfl ?_
  refine Sm.dup dX10_laysOperands_157 rfl rfl ?_
  refine gf_X10_188 (isO.tr e27 e28 o23) dX10_laysOperands_158 rfl rfl ?_
  refine Sm.iconst dX10_laysOperands_161 ic_1 rfl ?_
  refine Sm.iadd dX10_laysOperands_162 rfl ?_
  refine pf_X10_188 (isO.tr e27 e28 o23) dX10_laysOperands_163 rfl rfl ?_
  refine Sm.iinc (lv' := [.ref l0, .int l1, .int (l2 + (1 : Int32)), .null, .null]) dX10_laysOperands_166 rfl ic_1 rfl rfl ?_
  refine Sm.nm (LV := fun v29 => [.ref l0, .int l1, .int v29, .null, .null]) (ST := fun v29 => []) (fun v29 => ?_)
  refine Sm.goto (t := 7) dX10_laysOperands_169 (by decide) ?_
  exact Sm.wk (hk7 (v29, (sI h26 l0 21 ((gI h26 l0 21) + (1 : Int32))))) ⟨Or.inr rfl, Or.inr rfl, Or.inr rfl, Or.inl rfl, Or.inl rfl, trivial⟩
def f_X10_laysOperands_118 (k7 : (Int32 × Hp) → Option (Unit × Hp)) (l0 : Nat) (l1 : Int32) (l2 : Int32) (l4 : Int32) (s0 : Nat) (s1 : Int32) (s2 : Int32) (h : Hp) : Option (Unit × Hp) :=
  (ca h s0 20 s1
(ck (sI h s0 s1.toNatClampNeg s2) l0 10
((gP (sI h s0 s1.toNatClampNeg s2) l0 19).bind fun v20 =>
(if l4 ≤ (2 : Int32) then
(f_X10_laysOperands_145 k7 l0 l1 l2 v20 l2 (-1 : Int32) (sI h s0 s1.toNatClampNeg s2))
else
((gP (sI h s0 s1.toNatClampNeg s2) l0 20).bind fun v30 =>
(ca (sI h s0 s1.toNatClampNeg s2) v30 20 ((gI (sI h s0 s1.toNatClampNeg s2) l0 21) + (2 : Int32))
(f_X10_laysOperands_145 k7 l0 l1 l2 v20 l2 (gI (sI h s0 s1.toNatClampNeg s2) v30 ((gI (sI h s0 s1.toNatClampNeg s2) l0 21) + (2 : Int32)).toNatClampNeg) (sI h s0 s1.toNatClampNeg s2))))))))
set_option maxRecDepth 20000 in
theorem t_X10_laysOperands_118 (l0 : Nat) (l1 : Int32) (l2 : Int32) (l4 : Int32) (s0 : Nat) (s1 : Int32) (s2 : Int32) (h : Hp) (k7 : (Int32 × Hp) → Option (Unit × Hp)) (hk7 : ∀ s : Int32 × Hp, Sm rvV g_X10_laysOperands 7 [.ref l0, .int l1, .int s.1, .null, .null] [] s.2 (k7 s)) : Sm rvV g_X10_laysOperands 118 [.ref l0, .int l1, .int l2, .null, .int l4] [.int s2, .int s1, .ref s0] h (f_X10_laysOperands_118 k7 l0 l1 l2 l4 s0 s1 s2 h) := by
  unfold f_X10_laysOperands_118
  refine Sm.ca (fun q18 => ?_)
  refine Sm.iast q18 dX10_laysOperands_118 rfl ?_
  refine Sm.aload_n dX10_laysOperands_119 rfl rfl rfl ?_
  refine Sm.ck (fun o19 => ?_)
  refine gf_X10_46 o19 dX10_laysOperands_120 rfl rfl (fun v20 => ?_)
  refine Sm.iload_n dX10_laysOperands_123 rfl rfl rfl ?_
  refine Sm.iload dX10_laysOperands_124 rfl rfl ?_
  refine Sm.iconst dX10_laysOperands_126 ic_2 rfl ?_
  refine Sm.icmp_le (t := 144) dX10_laysOperands_127 (by decide) rfl (fun b21 => ?_) (fun b21 => ?_)
  · refine Sm.iconst dX10_laysOperands_144 ic_m1 rfl ?_
    exact Sm.wk (t_X10_laysOperands_145 l0 l1 l2 v20 l2 (-1 : Int32) (sI h s0 s1.toNatClampNeg s2) k7 hk7) ⟨Or.inr rfl, Or.inr rfl, Or.inr rfl, Or.inl rfl, Or.inl rfl, trivial⟩
  · refine Sm.aload_n dX10_laysOperands_130 rfl rfl rfl ?_
    refine gf_X10_49 o19 dX10_laysOperands_131 rfl rfl (fun v30 => ?_)
    refine Sm.aload_n dX10_laysOperands_134 rfl rfl rfl ?_
    refine gf_X10_188 o19 dX10_laysOperands_135 rfl rfl ?_
    refine Sm.iconst dX10_laysOperands_138 ic_2 rfl ?_
    refine Sm.iadd dX10_laysOperands_139 rfl ?_
    refine Sm.ca (fun q31 => ?_)
    refine Sm.iald q31 dX10_laysOperands_140 rfl ?_
    refine Sm.goto (t := 145) dX10_laysOperands_141 (by decide) ?_
    exact Sm.wk (t_X10_laysOperands_145 l0 l1 l2 v20 l2 (gI (sI h s0 s1.toNatClampNeg s2) v30 ((gI (sI h s0 s1.toNatClampNeg s2) l0 21) + (2 : Int32)).toNatClampNeg) (sI h s0 s1.toNatClampNeg s2) k7 hk7) ⟨Or.inr rfl, Or.inr rfl, Or.inr rfl, Or.inl rfl, Or.inl rfl, trivial⟩
def f_X10_laysOperands_91 (k7 : (Int32 × Hp) → Option (Unit × Hp)) (l0 : Nat) (l1 : Int32) (l2 : Int32) (l4 : Int32) (s0 : Nat) (s1 : Int32) (s2 : Int32) (h : Hp) : Option (Unit × Hp) :=
  (ca h s0 20 s1
(ck (sI h s0 s1.toNatClampNeg s2) l0 10
((gP (sI h s0 s1.toNatClampNeg s2) l0 18).bind fun v16 =>
(if l4 ≤ (1 : Int32) then
(f_X10_laysOperands_118 k7 l0 l1 l2 l4 v16 l2 (-1 : Int32) (sI h s0 s1.toNatClampNeg s2))
else
((gP (sI h s0 s1.toNatClampNeg s2) l0 20).bind fun v32 =>
(ca (sI h s0 s1.toNatClampNeg s2) v32 20 ((gI (sI h s0 s1.toNatClampNeg s2) l0 21) + (1 : Int32))
(f_X10_laysOperands_118 k7 l0 l1 l2 l4 v16 l2 (gI (sI h s0 s1.toNatClampNeg s2) v32 ((gI (sI h s0 s1.toNatClampNeg s2) l0 21) + (1 : Int32)).toNatClampNeg) (sI h s0 s1.toNatClampNeg s2))))))))
set_option maxRecDepth 20000 in
theorem t_X10_laysOperands_91 (l0 : Nat) (l1 : Int32) (l2 : Int32) (l4 : Int32) (s0 : Nat) (s1 : Int32) (s2 : Int32) (h : Hp) (k7 : (Int32 × Hp) → Option (Unit × Hp)) (hk7 : ∀ s : Int32 × Hp, Sm rvV g_X10_laysOperands 7 [.ref l0, .int l1, .int s.1, .null, .null] [] s.2 (k7 s)) : Sm rvV g_X10_laysOperands 91 [.ref l0, .int l1, .int l2, .null, .int l4] [.int s2, .int s1, .ref s0] h (f_X10_laysOperands_91 k7 l0 l1 l2 l4 s0 s1 s2 h) := by
  unfold f_X10_laysOperands_91
  refine Sm.ca (fun q14 => ?_)
  refine Sm.iast q14 dX10_laysOperands_91 rfl ?_
  refine Sm.aload_n dX10_laysOperands_92 rfl rfl rfl ?_
  refine Sm.ck (fun o15 => ?_)
  refine gf_X10_43 o15 dX10_laysOperands_93 rfl rfl (fun v16 => ?_)
  refine Sm.iload_n dX10_laysOperands_96 rfl rfl rfl ?_
  refine Sm.iload dX10_laysOperands_97 rfl rfl ?_
  refine Sm.iconst dX10_laysOperands_99 ic_1 rfl ?_
  refine Sm.icmp_le (t := 117) dX10_laysOperands_100 (by decide) rfl (fun b17 => ?_) (fun b17 => ?_)
  · refine Sm.iconst dX10_laysOperands_117 ic_m1 rfl ?_
    exact Sm.wk (t_X10_laysOperands_118 l0 l1 l2 l4 v16 l2 (-1 : Int32) (sI h s0 s1.toNatClampNeg s2) k7 hk7) ⟨Or.inr rfl, Or.inr rfl, Or.inr rfl, Or.inl rfl, Or.inr rfl, trivial⟩
  · refine Sm.aload_n dX10_laysOperands_103 rfl rfl rfl ?_
    refine gf_X10_49 o15 dX10_laysOperands_104 rfl rfl (fun v32 => ?_)
    refine Sm.aload_n dX10_laysOperands_107 rfl rfl rfl ?_
    refine gf_X10_188 o15 dX10_laysOperands_108 rfl rfl ?_
    refine Sm.iconst dX10_laysOperands_111 ic_1 rfl ?_
    refine Sm.iadd dX10_laysOperands_112 rfl ?_
    refine Sm.ca (fun q33 => ?_)
    refine Sm.iald q33 dX10_laysOperands_113 rfl ?_
    refine Sm.goto (t := 118) dX10_laysOperands_114 (by decide) ?_
    exact Sm.wk (t_X10_laysOperands_118 l0 l1 l2 l4 v16 l2 (gI (sI h s0 s1.toNatClampNeg s2) v32 ((gI (sI h s0 s1.toNatClampNeg s2) l0 21) + (1 : Int32)).toNatClampNeg) (sI h s0 s1.toNatClampNeg s2) k7 hk7) ⟨Or.inr rfl, Or.inr rfl, Or.inr rfl, Or.inl rfl, Or.inr rfl, trivial⟩
def f_X10_laysOperands_55 (k7 : (Int32 × Hp) → Option (Unit × Hp)) (l0 : Nat) (l1 : Int32) (l2 : Int32) (s0 : Int32) (h : Hp) : Option (Unit × Hp) :=
  (ck h l0 10
((gP (sI h l0 21 ((gI h l0 21) - s0)) l0 17).bind fun v12 =>
(if s0 ≤ 0 then
(f_X10_laysOperands_91 k7 l0 l1 l2 s0 v12 l2 (-1 : Int32) (sI h l0 21 ((gI h l0 21) - s0)))
else
((gP (sI h l0 21 ((gI h l0 21) - s0)) l0 20).bind fun v34 =>
(ca (sI h l0 21 ((gI h l0 21) - s0)) v34 20 (gI (sI h l0 21 ((gI h l0 21) - s0)) l0 21)
(f_X10_laysOperands_91 k7 l0 l1 l2 s0 v12 l2 (gI (sI h l0 21 ((gI h l0 21) - s0)) v34 (gI (sI h l0 21 ((gI h l0 21) - s0)) l0 21).toNatClampNeg) (sI h l0 21 ((gI h l0 21) - s0))))))))
set_option maxRecDepth 20000 in
theorem t_X10_laysOperands_55 (l0 : Nat) (l1 : Int32) (l2 : Int32) (s0 : Int32) (h : Hp) (k7 : (Int32 × Hp) → Option (Unit × Hp)) (hk7 : ∀ s : Int32 × Hp, Sm rvV g_X10_laysOperands 7 [.ref l0, .int l1, .int s.1, .null, .null] [] s.2 (k7 s)) : Sm rvV g_X10_laysOperands 55 [.ref l0, .int l1, .int l2, .null, .null] [.int s0] h (f_X10_laysOperands_55 k7 l0 l1 l2 s0 h) := by
  unfold f_X10_laysOperands_55
  refine Sm.istore (lv' := [.ref l0, .int l1, .int l2, .null, .int s0]) dX10_laysOperands_55 (Nat.le_of_ble_eq_true rfl) rfl rfl ?_
  refine Sm.aload_n dX10_laysOperands_57 rfl rfl rfl ?_
  refine Sm.dup dX10_laysOperands_58 rfl rfl ?_
  refine Sm.ck (fun o11 => ?_)
  refine gf_X10_188 o11 dX10_laysOperands_59 rfl rfl ?_
  refine Sm.iload dX10_laysOperands_62 rfl rfl ?_
  refine Sm.isub dX10_laysOperands_64 rfl ?_
  refine pf_X10_188 o11 dX10_laysOperands_65 rfl rfl ?_
  refine Sm.aload_n dX10_laysOperands_68 rfl rfl rfl ?_
  refine gf_X10_40 o11 dX10_laysOperands_69 rfl rfl (fun v12 => ?_)
  refine Sm.iload_n dX10_laysOperands_72 rfl rfl rfl ?_
  refine Sm.iload dX10_laysOperands_73 rfl rfl ?_
  refine Sm.if_le (t := 90) dX10_laysOperands_75 (by decide) rfl (fun b13 => ?_) (fun b13 => ?_)
  · refine Sm.iconst dX10_laysOperands_90 ic_m1 rfl ?_
    exact Sm.wk (t_X10_laysOperands_91 l0 l1 l2 s0 v12 l2 (-1 : Int32) (sI h l0 21 ((gI h l0 21) - s0)) k7 hk7) ⟨Or.inr rfl, Or.inr rfl, Or.inr rfl, Or.inl rfl, Or.inr rfl, trivial⟩
  · refine Sm.aload_n dX10_laysOperands_78 rfl rfl rfl ?_
    refine gf_X10_49 o11 dX10_laysOperands_79 rfl rfl (fun v34 => ?_)
    refine Sm.aload_n dX10_laysOperands_82 rfl rfl rfl ?_
    refine gf_X10_188 o11 dX10_laysOperands_83 rfl rfl ?_
    refine Sm.ca (fun q35 => ?_)
    refine Sm.iald q35 dX10_laysOperands_86 rfl ?_
    refine Sm.goto (t := 91) dX10_laysOperands_87 (by decide) ?_
    exact Sm.wk (t_X10_laysOperands_91 l0 l1 l2 s0 v12 l2 (gI (sI h l0 21 ((gI h l0 21) - s0)) v34 (gI (sI h l0 21 ((gI h l0 21) - s0)) l0 21).toNatClampNeg) (sI h l0 21 ((gI h l0 21) - s0)) k7 hk7) ⟨Or.inr rfl, Or.inr rfl, Or.inr rfl, Or.inl rfl, Or.inr rfl, trivial⟩
def f_X10_laysOperands_7 (k7 : (Int32 × Hp) → Option (Unit × Hp)) (l0 : Nat) (l1 : Int32) (l2 : Int32) (h : Hp) : Option (Unit × Hp) :=
  (ck h l0 10
((gP h l0 0).bind fun v3 =>
(ca h v3 20 l1
(if (gI h v3 l1.toNatClampNeg) ≤ l2 then
(some ((), h))
else
(bd (f_X10_signOf l0 l1 l2 h) fun v6 h7 =>
(if (50 : Int32) ≤ v6 then
(if (52 : Int32) ≤ v6 then
(if v6 = (54 : Int32) then
(f_X10_laysOperands_55 k7 l0 l1 l2 (3 : Int32) h7)
else
(f_X10_laysOperands_55 k7 l0 l1 l2 (1 : Int32) h7))
else
(f_X10_laysOperands_55 k7 l0 l1 l2 (2 : Int32) h7))
else
(f_X10_laysOperands_55 k7 l0 l1 l2 (0 : Int32) h7)))))))
set_option maxRecDepth 20000 in
theorem t_X10_laysOperands_7 (l0 : Nat) (l1 : Int32) (l2 : Int32) (h : Hp) (k7 : (Int32 × Hp) → Option (Unit × Hp)) (hk7 : ∀ s : Int32 × Hp, Sm rvV g_X10_laysOperands 7 [.ref l0, .int l1, .int s.1, .null, .null] [] s.2 (k7 s)) : Sm rvV g_X10_laysOperands 7 [.ref l0, .int l1, .int l2, .null, .null] [] h (f_X10_laysOperands_7 k7 l0 l1 l2 h) := by
  unfold f_X10_laysOperands_7
  refine Sm.iload_n dX10_laysOperands_7 rfl rfl rfl ?_
  refine Sm.aload_n dX10_laysOperands_8 rfl rfl rfl ?_
  refine Sm.ck (fun o2 => ?_)
  refine gf_X10_7 o2 dX10_laysOperands_9 rfl rfl (fun v3 => ?_)
  refine Sm.iload_n dX10_laysOperands_12 rfl rfl rfl ?_
  refine Sm.ca (fun q4 => ?_)
  refine Sm.iald q4 dX10_laysOperands_13 rfl ?_
  refine Sm.icmp_ge (t := 172) dX10_laysOperands_14 (by decide) rfl (fun b5 => ?_) (fun b5 => ?_)
  · exact Sm.ret (r := ()) dX10_laysOperands_172 trivial rfl
  · refine Sm.aload_n dX10_laysOperands_17 rfl rfl rfl ?_
    refine Sm.iload_n dX10_laysOperands_18 rfl rfl rfl ?_
    refine Sm.iload_n dX10_laysOperands_19 rfl rfl rfl ?_
    refine kc_X10_116 o2 dX10_laysOperands_20 rfl (Nat.le_of_ble_eq_true rfl) (Nat.le_of_ble_eq_true rfl) rfl (fun v6 h7 => ?_)
    refine Sm.istore_n (lv' := [.ref l0, .int l1, .int l2, .int v6, .null]) dX10_laysOperands_23 rfl (Nat.le_of_ble_eq_true rfl) rfl rfl ?_
    refine Sm.iload_n dX10_laysOperands_24 rfl rfl rfl ?_
    refine Sm.bipush dX10_laysOperands_25 bp_50 rfl ?_
    refine Sm.icmp_ge (t := 34) dX10_laysOperands_27 (by decide) rfl (fun b8 => ?_) (fun b8 => ?_)
    · refine Sm.iload_n dX10_laysOperands_34 rfl rfl rfl ?_
      refine Sm.bipush dX10_laysOperands_35 bp_52 rfl ?_
      refine Sm.icmp_ge (t := 44) dX10_laysOperands_37 (by decide) rfl (fun b9 => ?_) (fun b9 => ?_)
      · refine Sm.iload_n dX10_laysOperands_44 rfl rfl rfl ?_
        refine Sm.bipush dX10_laysOperands_45 bp_54 rfl ?_
        refine Sm.icmp_ne (t := 54) dX10_laysOperands_47 (by decide) rfl (fun b10 => ?_) (fun b10 => ?_)
        · refine Sm.iconst dX10_laysOperands_50 ic_3 rfl ?_
          refine Sm.goto (t := 55) dX10_laysOperands_51 (by decide) ?_
          exact Sm.wk (t_X10_laysOperands_55 l0 l1 l2 (3 : Int32) h7 k7 hk7) ⟨Or.inr rfl, Or.inr rfl, Or.inr rfl, Or.inl rfl, Or.inl rfl, trivial⟩
        · refine Sm.iconst dX10_laysOperands_54 ic_1 rfl ?_
          exact Sm.wk (t_X10_laysOperands_55 l0 l1 l2 (1 : Int32) h7 k7 hk7) ⟨Or.inr rfl, Or.inr rfl, Or.inr rfl, Or.inl rfl, Or.inl rfl, trivial⟩
      · refine Sm.iconst dX10_laysOperands_40 ic_2 rfl ?_
        refine Sm.goto (t := 55) dX10_laysOperands_41 (by decide) ?_
        exact Sm.wk (t_X10_laysOperands_55 l0 l1 l2 (2 : Int32) h7 k7 hk7) ⟨Or.inr rfl, Or.inr rfl, Or.inr rfl, Or.inl rfl, Or.inl rfl, trivial⟩
    · refine Sm.iconst dX10_laysOperands_30 ic_0 rfl ?_
      refine Sm.goto (t := 55) dX10_laysOperands_31 (by decide) ?_
      exact Sm.wk (t_X10_laysOperands_55 l0 l1 l2 (0 : Int32) h7 k7 hk7) ⟨Or.inr rfl, Or.inr rfl, Or.inr rfl, Or.inl rfl, Or.inl rfl, trivial⟩
def f_X10_laysOperands (l0 : Nat) (l1 : Int32) (h : Hp) : Option (Unit × Hp) :=
  (ck h l0 10
(loopN (fun k s => f_X10_laysOperands_7 k l0 l1 s.1 s.2) 5000 ((0 : Int32), (sI h l0 21 (0 : Int32)))))
set_option maxRecDepth 20000 in
theorem t_X10_laysOperands (l0 : Nat) (l1 : Int32) (h : Hp) : Sm rvV g_X10_laysOperands 0 (ent 5 [.ref l0, .int l1]) [] h (f_X10_laysOperands l0 l1 h) := by
  show Sm rvV g_X10_laysOperands 0 [.ref l0, .int l1, .null, .null, .null] [] h _
  unfold f_X10_laysOperands
  refine Sm.aload_n dX10_laysOperands_0 rfl rfl rfl ?_
  refine Sm.iconst dX10_laysOperands_1 ic_0 rfl ?_
  refine Sm.ck (fun o1 => ?_)
  refine pf_X10_188 o1 dX10_laysOperands_2 rfl rfl ?_
  refine Sm.iconst dX10_laysOperands_5 ic_0 rfl ?_
  refine Sm.istore_n (lv' := [.ref l0, .int l1, .int (0 : Int32), .null, .null]) dX10_laysOperands_6 rfl (Nat.le_of_ble_eq_true rfl) rfl rfl ?_
  exact Sm.wk (Sm.loop (σ := Int32 × Hp) (LV := fun s => [.ref l0, .int l1, .int s.1, .null, .null]) (HH := fun s => s.2) (fun k hk s => t_X10_laysOperands_7 l0 l1 s.1 s.2 k hk) 5000 ((0 : Int32), (sI h l0 21 (0 : Int32)))) ⟨Or.inr rfl, Or.inr rfl, Or.inr rfl, Or.inl rfl, Or.inl rfl, trivial⟩
set_option maxRecDepth 20000 in
theorem kc_X10_203 {ρ : Type} {rv : ρ → Option Value} {G : Gx} {pc q : Nat} {lv st : List Value} {h : Hp} {a : Nat} {x1 : Int32} {e : Unit → Hp → Option (ρ × Hp)} (hk : isO h a 10) (d : decode G.2.1 pc = .ok (.invokevirtual 203, 3)) (ho : G.1.cls = RX10) (hdep : (g_X10_laysOperands).2.2.2.2 < G.2.2.2.2) (hcat : catS st ≤ 8) (hq : pc + 3 = q) (k : ∀ r h1, Sm rv G q lv (st) h1 (e r h1)) : Sm rv G pc lv (.int x1 :: .ref a :: st) h (bd (f_X10_laysOperands a x1 h) e) :=
  Sm.callV (rv' := rvV) (args := [.int x1]) (n := 1) (t_X10_laysOperands a x1 h) hk (by decide) (r := (RX10, TX10, 43)) rfl rfl ho mw_1142 mw_1144 mp_69 mw_11 mw_1145 ⟨⟨by decide, rfl, hdep, Nat.le_of_ble_eq_true rfl⟩, Nat.le_of_ble_eq_true rfl, rfl, ⟨by decide, by decide⟩, hcat⟩ (by decide +kernel) (by intro v hv; simp only [List.mem_cons, List.not_mem_nil, or_false] at hv; rcases hv with rfl <;> intro x hx <;> cases hx) d hq k rfl
abbrev g_X10_piles : Gx := (yX10_piles, cX10_piles, 2, (Option.none : Option FieldType), 0)
def f_X10_piles (l0 : Nat) (l1 : Int32) (h : Hp) : Option (Unit × Hp) :=
  (ck h l0 10
((gP h l0 20).bind fun v2 =>
(ca h v2 20 (gI h l0 21)
(nm (sI (sI h v2 (gI h l0 21).toNatClampNeg l1) l0 21 ((gI (sI h v2 (gI h l0 21).toNatClampNeg l1) l0 21) + (1 : Int32))) fun h4 =>
(some ((), h4))))))
set_option maxRecDepth 20000 in
theorem t_X10_piles (l0 : Nat) (l1 : Int32) (h : Hp) : Sm rvV g_X10_piles 0 (ent 2 [.ref l0, .int l1]) [] h (f_X10_piles l0 l1 h) := by
  show Sm rvV g_X10_piles 0 [.ref l0, .int l1] [] h _
  unfold f_X10_piles
  refine Sm.aload_n dX10_piles_0 rfl rfl rfl ?_
  refine Sm.ck (fun o1 => ?_)
  refine gf_X10_49 o1 dX10_piles_1 rfl rfl (fun v2 => ?_)
  refine Sm.aload_n dX10_piles_4 rfl rfl rfl ?_
  refine gf_X10_188 o1 dX10_piles_5 rfl rfl ?_
  refine Sm.iload_n dX10_piles_8 rfl rfl rfl ?_
  refine Sm.ca (fun q3 => ?_)
  refine Sm.iast q3 dX10_piles_9 rfl ?_
  refine Sm.aload_n dX10_piles_10 rfl rfl rfl ?_
  refine Sm.dup dX10_piles_11 rfl rfl ?_
  refine gf_X10_188 o1 dX10_piles_12 rfl rfl ?_
  refine Sm.iconst dX10_piles_15 ic_1 rfl ?_
  refine Sm.iadd dX10_piles_16 rfl ?_
  refine pf_X10_188 o1 dX10_piles_17 rfl rfl ?_
  refine Sm.nmH (fun h4 e5 e6 => ?_)
  exact Sm.ret (r := ()) dX10_piles_20 trivial rfl
set_option maxRecDepth 20000 in
theorem kc_X10_191 {ρ : Type} {rv : ρ → Option Value} {G : Gx} {pc q : Nat} {lv st : List Value} {h : Hp} {a : Nat} {x1 : Int32} {e : Unit → Hp → Option (ρ × Hp)} (hk : isO h a 10) (d : decode G.2.1 pc = .ok (.invokevirtual 191, 3)) (ho : G.1.cls = RX10) (hdep : (g_X10_piles).2.2.2.2 < G.2.2.2.2) (hcat : catS st ≤ 8) (hq : pc + 3 = q) (k : ∀ r h1, Sm rv G q lv (st) h1 (e r h1)) : Sm rv G pc lv (.int x1 :: .ref a :: st) h (bd (f_X10_piles a x1 h) e) :=
  Sm.callV (rv' := rvV) (args := [.int x1]) (n := 1) (t_X10_piles a x1 h) hk (by decide) (r := (RX10, TX10, 43)) rfl rfl ho mw_1158 mw_1160 mp_73 mw_11 mw_1161 ⟨⟨by decide, rfl, hdep, Nat.le_of_ble_eq_true rfl⟩, Nat.le_of_ble_eq_true rfl, rfl, ⟨by decide, by decide⟩, hcat⟩ (by decide +kernel) (by intro v hv; simp only [List.mem_cons, List.not_mem_nil, or_false] at hv; rcases hv with rfl <;> intro x hx <;> cases hx) d hq k rfl
abbrev g_X10_pilesOperand : Gx := (yX10_pilesOperand, cX10_pilesOperand, 3, (Option.none : Option FieldType), 1)
def f_X10_pilesOperand_10 (l0 : Nat) (l1 : Int32) (l2 : Int32) (h : Hp) : Option (Unit × Hp) :=
  (ck h l0 10
(bd (f_X10_piles l0 l1 h) fun _ h3 =>
(if l2 = 0 then
(some ((), h3))
else
(ck h3 l0 10
(bd (f_X10_piles l0 (-40 : Int32) h3) fun _ h6 =>
(some ((), h6)))))))
set_option maxRecDepth 20000 in
theorem t_X10_pilesOperand_10 (l0 : Nat) (l1 : Int32) (l2 : Int32) (h : Hp) : Sm rvV g_X10_pilesOperand 10 [.ref l0, .int l1, .int l2] [] h (f_X10_pilesOperand_10 l0 l1 l2 h) := by
  unfold f_X10_pilesOperand_10
  refine Sm.aload_n dX10_pilesOperand_10 rfl rfl rfl ?_
  refine Sm.iload_n dX10_pilesOperand_11 rfl rfl rfl ?_
  refine Sm.ck (fun o2 => ?_)
  refine kc_X10_191 o2 dX10_pilesOperand_12 rfl (Nat.le_of_ble_eq_true rfl) (Nat.le_of_ble_eq_true rfl) rfl (fun _ h3 => ?_)
  refine Sm.iload_n dX10_pilesOperand_15 rfl rfl rfl ?_
  refine Sm.if_eq (t := 25) dX10_pilesOperand_16 (by decide) rfl (fun b4 => ?_) (fun b4 => ?_)
  · exact Sm.ret (r := ()) dX10_pilesOperand_25 trivial rfl
  · refine Sm.aload_n dX10_pilesOperand_19 rfl rfl rfl ?_
    refine Sm.bipush dX10_pilesOperand_20 bp_m40 rfl ?_
    refine Sm.ck (fun o5 => ?_)
    refine kc_X10_191 o5 dX10_pilesOperand_22 rfl (Nat.le_of_ble_eq_true rfl) (Nat.le_of_ble_eq_true rfl) rfl (fun _ h6 => ?_)
    exact Sm.ret (r := ()) dX10_pilesOperand_25 trivial rfl
def f_X10_pilesOperand (l0 : Nat) (l1 : Int32) (l2 : Int32) (h : Hp) : Option (Unit × Hp) :=
  (if l2 = 0 then
(f_X10_pilesOperand_10 l0 l1 l2 h)
else
(ck h l0 10
(bd (f_X10_piles l0 (-41 : Int32) h) fun _ h8 =>
(f_X10_pilesOperand_10 l0 l1 l2 h8))))
set_option maxRecDepth 20000 in
theorem t_X10_pilesOperand (l0 : Nat) (l1 : Int32) (l2 : Int32) (h : Hp) : Sm rvV g_X10_pilesOperand 0 (ent 3 [.ref l0, .int l1, .int l2]) [] h (f_X10_pilesOperand l0 l1 l2 h) := by
  show Sm rvV g_X10_pilesOperand 0 [.ref l0, .int l1, .int l2] [] h _
  unfold f_X10_pilesOperand
  refine Sm.iload_n dX10_pilesOperand_0 rfl rfl rfl ?_
  refine Sm.if_eq (t := 10) dX10_pilesOperand_1 (by decide) rfl (fun b1 => ?_) (fun b1 => ?_)
  · exact Sm.wk (t_X10_pilesOperand_10 l0 l1 l2 h) ⟨Or.inr rfl, Or.inr rfl, Or.inr rfl, trivial⟩
  · refine Sm.aload_n dX10_pilesOperand_4 rfl rfl rfl ?_
    refine Sm.bipush dX10_pilesOperand_5 bp_m41 rfl ?_
    refine Sm.ck (fun o7 => ?_)
    refine kc_X10_191 o7 dX10_pilesOperand_7 rfl (Nat.le_of_ble_eq_true rfl) (Nat.le_of_ble_eq_true rfl) rfl (fun _ h8 => ?_)
    exact Sm.wk (t_X10_pilesOperand_10 l0 l1 l2 h8) ⟨Or.inr rfl, Or.inr rfl, Or.inr rfl, trivial⟩
set_option maxRecDepth 20000 in
theorem kc_X10_200 {ρ : Type} {rv : ρ → Option Value} {G : Gx} {pc q : Nat} {lv st : List Value} {h : Hp} {a : Nat} {x1 : Int32} {x2 : Int32} {e : Unit → Hp → Option (ρ × Hp)} (hk : isO h a 10) (d : decode G.2.1 pc = .ok (.invokevirtual 200, 3)) (ho : G.1.cls = RX10) (hdep : (g_X10_pilesOperand).2.2.2.2 < G.2.2.2.2) (hcat : catS st ≤ 8) (hq : pc + 3 = q) (k : ∀ r h1, Sm rv G q lv (st) h1 (e r h1)) : Sm rv G pc lv (.int x2 :: .int x1 :: .ref a :: st) h (bd (f_X10_pilesOperand a x1 x2 h) e) :=
  Sm.callV (rv' := rvV) (args := [.int x1, .int x2]) (n := 2) (t_X10_pilesOperand a x1 x2 h) hk (by decide) (r := (RX10, TX10, 43)) rfl rfl ho mw_1154 mw_1156 mp_72 mw_11 mw_1157 ⟨⟨by decide, rfl, hdep, Nat.le_of_ble_eq_true rfl⟩, Nat.le_of_ble_eq_true rfl, rfl, ⟨by decide, by decide⟩, hcat⟩ (by decide +kernel) (by intro v hv; simp only [List.mem_cons, List.not_mem_nil, or_false] at hv; rcases hv with rfl | rfl <;> intro x hx <;> cases hx) d hq k rfl
abbrev g_X10_shows : Gx := (yX10_shows, cX10_shows, 2, (Option.none : Option FieldType), 0)
def f_X10_shows (l0 : Nat) (l1 : Int32) (h : Hp) : Option (Unit × Hp) :=
  (ck h l0 10
((gP h l0 22).bind fun v2 =>
(ca h v2 20 (gI h l0 23)
(nm (sI (sI h v2 (gI h l0 23).toNatClampNeg l1) l0 23 ((gI (sI h v2 (gI h l0 23).toNatClampNeg l1) l0 23) + (1 : Int32))) fun h4 =>
(some ((), h4))))))
set_option maxRecDepth 20000 in
theorem t_X10_shows (l0 : Nat) (l1 : Int32) (h : Hp) : Sm rvV g_X10_shows 0 (ent 2 [.ref l0, .int l1]) [] h (f_X10_shows l0 l1 h) := by
  show Sm rvV g_X10_shows 0 [.ref l0, .int l1] [] h _
  unfold f_X10_shows
  refine Sm.aload_n dX10_shows_0 rfl rfl rfl ?_
  refine Sm.ck (fun o1 => ?_)
  refine gf_X10_52 o1 dX10_shows_1 rfl rfl (fun v2 => ?_)
  refine Sm.aload_n dX10_shows_4 rfl rfl rfl ?_
  refine gf_X10_194 o1 dX10_shows_5 rfl rfl ?_
  refine Sm.iload_n dX10_shows_8 rfl rfl rfl ?_
  refine Sm.ca (fun q3 => ?_)
  refine Sm.iast q3 dX10_shows_9 rfl ?_
  refine Sm.aload_n dX10_shows_10 rfl rfl rfl ?_
  refine Sm.dup dX10_shows_11 rfl rfl ?_
  refine gf_X10_194 o1 dX10_shows_12 rfl rfl ?_
  refine Sm.iconst dX10_shows_15 ic_1 rfl ?_
  refine Sm.iadd dX10_shows_16 rfl ?_
  refine pf_X10_194 o1 dX10_shows_17 rfl rfl ?_
  refine Sm.nmH (fun h4 e5 e6 => ?_)
  exact Sm.ret (r := ()) dX10_shows_20 trivial rfl
set_option maxRecDepth 20000 in
theorem kc_X10_197 {ρ : Type} {rv : ρ → Option Value} {G : Gx} {pc q : Nat} {lv st : List Value} {h : Hp} {a : Nat} {x1 : Int32} {e : Unit → Hp → Option (ρ × Hp)} (hk : isO h a 10) (d : decode G.2.1 pc = .ok (.invokevirtual 197, 3)) (ho : G.1.cls = RX10) (hdep : (g_X10_shows).2.2.2.2 < G.2.2.2.2) (hcat : catS st ≤ 8) (hq : pc + 3 = q) (k : ∀ r h1, Sm rv G q lv (st) h1 (e r h1)) : Sm rv G pc lv (.int x1 :: .ref a :: st) h (bd (f_X10_shows a x1 h) e) :=
  Sm.callV (rv' := rvV) (args := [.int x1]) (n := 1) (t_X10_shows a x1 h) hk (by decide) (r := (RX10, TX10, 43)) rfl rfl ho mw_1146 mw_1148 mp_70 mw_11 mw_1149 ⟨⟨by decide, rfl, hdep, Nat.le_of_ble_eq_true rfl⟩, Nat.le_of_ble_eq_true rfl, rfl, ⟨by decide, by decide⟩, hcat⟩ (by decide +kernel) (by intro v hv; simp only [List.mem_cons, List.not_mem_nil, or_false] at hv; rcases hv with rfl <;> intro x hx <;> cases hx) d hq k rfl
abbrev g_X10_expands : Gx := (yX10_expands, cX10_expands, 7, (Option.none : Option FieldType), 2)
def f_X10_expands_170 (l0 : Nat) (l2 : Int32) (s0 : Nat) (s1 : Int32) (s2 : Int32) (h : Hp) : Option (Unit × Hp) :=
  (ck h s0 10
(bd (f_X10_pilesOperand s0 s1 s2 h) fun _ h20 =>
(ck h20 l0 10
(bd (f_X10_piles l0 (-43 : Int32) h20) fun _ h22 =>
(ck h22 l0 10
((gP h22 l0 17).bind fun v24 =>
(ca h22 v24 20 l2
(bd (f_X10_piles l0 (gI h22 v24 l2.toNatClampNeg) h22) fun _ h26 =>
(some ((), h26))))))))))
set_option maxRecDepth 20000 in
theorem t_X10_expands_170 (l0 : Nat) (l2 : Int32) (s0 : Nat) (s1 : Int32) (s2 : Int32) (h : Hp) : Sm rvV g_X10_expands 170 [.ref l0, .null, .int l2, .null, .null, .null, .null] [.int s2, .int s1, .ref s0] h (f_X10_expands_170 l0 l2 s0 s1 s2 h) := by
  unfold f_X10_expands_170
  refine Sm.ck (fun o19 => ?_)
  refine kc_X10_200 o19 dX10_expands_170 rfl (Nat.le_of_ble_eq_true rfl) (Nat.le_of_ble_eq_true rfl) rfl (fun _ h20 => ?_)
  refine Sm.aload_n dX10_expands_173 rfl rfl rfl ?_
  refine Sm.bipush dX10_expands_174 bp_m43 rfl ?_
  refine Sm.ck (fun o21 => ?_)
  refine kc_X10_191 o21 dX10_expands_176 rfl (Nat.le_of_ble_eq_true rfl) (Nat.le_of_ble_eq_true rfl) rfl (fun _ h22 => ?_)
  refine Sm.aload_n dX10_expands_179 rfl rfl rfl ?_
  refine Sm.aload_n dX10_expands_180 rfl rfl rfl ?_
  refine Sm.ck (fun o23 => ?_)
  refine gf_X10_40 o23 dX10_expands_181 rfl rfl (fun v24 => ?_)
  refine Sm.iload_n dX10_expands_184 rfl rfl rfl ?_
  refine Sm.ca (fun q25 => ?_)
  refine Sm.iald q25 dX10_expands_185 rfl ?_
  refine kc_X10_191 o23 dX10_expands_186 rfl (Nat.le_of_ble_eq_true rfl) (Nat.le_of_ble_eq_true rfl) rfl (fun _ h26 => ?_)
  refine Sm.goto (t := 407) dX10_expands_189 (by decide) ?_
  exact Sm.ret (r := ()) dX10_expands_407 trivial rfl
def f_X10_expands_252 (s0 : Nat) (s1 : Int32) (s2 : Int32) (h : Hp) : Option (Unit × Hp) :=
  (ck h s0 10
(bd (f_X10_pilesOperand s0 s1 s2 h) fun _ h41 =>
(some ((), h41))))
set_option maxRecDepth 20000 in
theorem t_X10_expands_252 (s0 : Nat) (s1 : Int32) (s2 : Int32) (h : Hp) : Sm rvV g_X10_expands 252 [.null, .null, .null, .null, .null, .null, .null] [.int s2, .int s1, .ref s0] h (f_X10_expands_252 s0 s1 s2 h) := by
  unfold f_X10_expands_252
  refine Sm.ck (fun o40 => ?_)
  refine kc_X10_200 o40 dX10_expands_252 rfl (Nat.le_of_ble_eq_true rfl) (Nat.le_of_ble_eq_true rfl) rfl (fun _ h41 => ?_)
  refine Sm.goto (t := 407) dX10_expands_255 (by decide) ?_
  exact Sm.ret (r := ()) dX10_expands_407 trivial rfl
def f_X10_expands_224 (l0 : Nat) (l2 : Int32) (l4 : Int32) (s0 : Nat) (s1 : Int32) (s2 : Int32) (h : Hp) : Option (Unit × Hp) :=
  (ck h s0 10
(bd (f_X10_pilesOperand s0 s1 s2 h) fun _ h33 =>
(ck h33 l0 10
(bd (f_X10_piles l0 (-46 : Int32) h33) fun _ h35 =>
(ck h35 l0 10
((gP h35 l0 17).bind fun v37 =>
(ca h35 v37 20 l2
(if l4 = (50 : Int32) then
(f_X10_expands_252 l0 (gI h35 v37 l2.toNatClampNeg) (1 : Int32) h35)
else
(f_X10_expands_252 l0 (gI h35 v37 l2.toNatClampNeg) (0 : Int32) h35)))))))))
set_option maxRecDepth 20000 in
theorem t_X10_expands_224 (l0 : Nat) (l2 : Int32) (l4 : Int32) (s0 : Nat) (s1 : Int32) (s2 : Int32) (h : Hp) : Sm rvV g_X10_expands 224 [.ref l0, .null, .int l2, .null, .int l4, .null, .null] [.int s2, .int s1, .ref s0] h (f_X10_expands_224 l0 l2 l4 s0 s1 s2 h) := by
  unfold f_X10_expands_224
  refine Sm.ck (fun o32 => ?_)
  refine kc_X10_200 o32 dX10_expands_224 rfl (Nat.le_of_ble_eq_true rfl) (Nat.le_of_ble_eq_true rfl) rfl (fun _ h33 => ?_)
  refine Sm.aload_n dX10_expands_227 rfl rfl rfl ?_
  refine Sm.bipush dX10_expands_228 bp_m46 rfl ?_
  refine Sm.ck (fun o34 => ?_)
  refine kc_X10_191 o34 dX10_expands_230 rfl (Nat.le_of_ble_eq_true rfl) (Nat.le_of_ble_eq_true rfl) rfl (fun _ h35 => ?_)
  refine Sm.aload_n dX10_expands_233 rfl rfl rfl ?_
  refine Sm.aload_n dX10_expands_234 rfl rfl rfl ?_
  refine Sm.ck (fun o36 => ?_)
  refine gf_X10_40 o36 dX10_expands_235 rfl rfl (fun v37 => ?_)
  refine Sm.iload_n dX10_expands_238 rfl rfl rfl ?_
  refine Sm.ca (fun q38 => ?_)
  refine Sm.iald q38 dX10_expands_239 rfl ?_
  refine Sm.iload dX10_expands_240 rfl rfl ?_
  refine Sm.bipush dX10_expands_242 bp_50 rfl ?_
  refine Sm.icmp_ne (t := 251) dX10_expands_244 (by decide) rfl (fun b39 => ?_) (fun b39 => ?_)
  · refine Sm.iconst dX10_expands_247 ic_1 rfl ?_
    refine Sm.goto (t := 252) dX10_expands_248 (by decide) ?_
    exact Sm.wk (t_X10_expands_252 l0 (gI h35 v37 l2.toNatClampNeg) (1 : Int32) h35) ⟨Or.inl rfl, Or.inl rfl, Or.inl rfl, Or.inl rfl, Or.inl rfl, Or.inl rfl, Or.inl rfl, trivial⟩
  · refine Sm.iconst dX10_expands_251 ic_0 rfl ?_
    exact Sm.wk (t_X10_expands_252 l0 (gI h35 v37 l2.toNatClampNeg) (0 : Int32) h35) ⟨Or.inl rfl, Or.inl rfl, Or.inl rfl, Or.inl rfl, Or.inl rfl, Or.inl rfl, Or.inl rfl, trivial⟩
def f_X10_expands_219 (l0 : Nat) (l2 : Int32) (l4 : Int32) (s0 : Nat) (s1 : Int32) (h : Hp) : Option (Unit × Hp) :=
  (f_X10_expands_224 l0 l2 l4 s0 s1 (1 : Int32) h)
set_option maxRecDepth 20000 in
theorem t_X10_expands_219 (l0 : Nat) (l2 : Int32) (l4 : Int32) (s0 : Nat) (s1 : Int32) (h : Hp) : Sm rvV g_X10_expands 219 [.ref l0, .null, .int l2, .null, .int l4, .null, .null] [.int s1, .ref s0] h (f_X10_expands_219 l0 l2 l4 s0 s1 h) := by
  unfold f_X10_expands_219
  refine Sm.iconst dX10_expands_219 ic_1 rfl ?_
  refine Sm.goto (t := 224) dX10_expands_220 (by decide) ?_
  exact Sm.wk (t_X10_expands_224 l0 l2 l4 s0 s1 (1 : Int32) h) ⟨Or.inr rfl, Or.inl rfl, Or.inr rfl, Or.inl rfl, Or.inr rfl, Or.inl rfl, Or.inl rfl, trivial⟩
def f_X10_expands_303 (s0 : Nat) (s1 : Int32) (s2 : Int32) (h : Hp) : Option (Unit × Hp) :=
  (ck h s0 10
(bd (f_X10_pilesOperand s0 s1 s2 h) fun _ h51 =>
(some ((), h51))))
set_option maxRecDepth 20000 in
theorem t_X10_expands_303 (s0 : Nat) (s1 : Int32) (s2 : Int32) (h : Hp) : Sm rvV g_X10_expands 303 [.null, .null, .null, .null, .null, .null, .null] [.int s2, .int s1, .ref s0] h (f_X10_expands_303 s0 s1 s2 h) := by
  unfold f_X10_expands_303
  refine Sm.ck (fun o50 => ?_)
  refine kc_X10_200 o50 dX10_expands_303 rfl (Nat.le_of_ble_eq_true rfl) (Nat.le_of_ble_eq_true rfl) rfl (fun _ h51 => ?_)
  refine Sm.goto (t := 407) dX10_expands_306 (by decide) ?_
  exact Sm.ret (r := ()) dX10_expands_407 trivial rfl
def f_X10_expands_298 (s0 : Nat) (s1 : Int32) (h : Hp) : Option (Unit × Hp) :=
  (f_X10_expands_303 s0 s1 (1 : Int32) h)
set_option maxRecDepth 20000 in
theorem t_X10_expands_298 (s0 : Nat) (s1 : Int32) (h : Hp) : Sm rvV g_X10_expands 298 [.null, .null, .null, .null, .null, .null, .null] [.int s1, .ref s0] h (f_X10_expands_298 s0 s1 h) := by
  unfold f_X10_expands_298
  refine Sm.iconst dX10_expands_298 ic_1 rfl ?_
  refine Sm.goto (t := 303) dX10_expands_299 (by decide) ?_
  exact Sm.wk (t_X10_expands_303 s0 s1 (1 : Int32) h) ⟨Or.inl rfl, Or.inl rfl, Or.inl rfl, Or.inl rfl, Or.inl rfl, Or.inl rfl, Or.inl rfl, trivial⟩
def f_X10_expands_341 (l0 : Nat) (s0 : Nat) (s1 : Int32) (s2 : Int32) (h : Hp) : Option (Unit × Hp) :=
  (ck h s0 10
(bd (f_X10_pilesOperand s0 s1 s2 h) fun _ h60 =>
(ck h60 l0 10
(bd (f_X10_piles l0 (-33 : Int32) h60) fun _ h62 =>
(some ((), h62))))))
set_option maxRecDepth 20000 in
theorem t_X10_expands_341 (l0 : Nat) (s0 : Nat) (s1 : Int32) (s2 : Int32) (h : Hp) : Sm rvV g_X10_expands 341 [.ref l0, .null, .null, .null, .null, .null, .null] [.int s2, .int s1, .ref s0] h (f_X10_expands_341 l0 s0 s1 s2 h) := by
  unfold f_X10_expands_341
  refine Sm.ck (fun o59 => ?_)
  refine kc_X10_200 o59 dX10_expands_341 rfl (Nat.le_of_ble_eq_true rfl) (Nat.le_of_ble_eq_true rfl) rfl (fun _ h60 => ?_)
  refine Sm.aload_n dX10_expands_344 rfl rfl rfl ?_
  refine Sm.bipush dX10_expands_345 bp_m33 rfl ?_
  refine Sm.ck (fun o61 => ?_)
  refine kc_X10_191 o61 dX10_expands_347 rfl (Nat.le_of_ble_eq_true rfl) (Nat.le_of_ble_eq_true rfl) rfl (fun _ h62 => ?_)
  refine Sm.goto (t := 407) dX10_expands_350 (by decide) ?_
  exact Sm.ret (r := ()) dX10_expands_407 trivial rfl
def f_X10_expands_336 (l0 : Nat) (s0 : Nat) (s1 : Int32) (h : Hp) : Option (Unit × Hp) :=
  (f_X10_expands_341 l0 s0 s1 (1 : Int32) h)
set_option maxRecDepth 20000 in
theorem t_X10_expands_336 (l0 : Nat) (s0 : Nat) (s1 : Int32) (h : Hp) : Sm rvV g_X10_expands 336 [.ref l0, .null, .null, .null, .null, .null, .null] [.int s1, .ref s0] h (f_X10_expands_336 l0 s0 s1 h) := by
  unfold f_X10_expands_336
  refine Sm.iconst dX10_expands_336 ic_1 rfl ?_
  refine Sm.goto (t := 341) dX10_expands_337 (by decide) ?_
  exact Sm.wk (t_X10_expands_341 l0 s0 s1 (1 : Int32) h) ⟨Or.inr rfl, Or.inl rfl, Or.inl rfl, Or.inl rfl, Or.inl rfl, Or.inl rfl, Or.inl rfl, trivial⟩
def f_X10_expands_128 (l0 : Nat) (l6 : Int32) (s0 : Nat) (s1 : Int32) (h : Hp) : Option (Unit × Hp) :=
  (ck h s0 10
(bd (f_X10_shows s0 s1 h) fun _ h89 =>
(ck h89 l0 10
(bd (f_X10_shows l0 ((48 : Int32) + (l6 - l6 / (4 : Int32) * (4 : Int32))) h89) fun _ h91 =>
(some ((), h91))))))
set_option maxRecDepth 20000 in
theorem t_X10_expands_128 (l0 : Nat) (l6 : Int32) (s0 : Nat) (s1 : Int32) (h : Hp) : Sm rvV g_X10_expands 128 [.ref l0, .null, .null, .null, .null, .null, .int l6] [.int s1, .ref s0] h (f_X10_expands_128 l0 l6 s0 s1 h) := by
  unfold f_X10_expands_128
  refine Sm.ck (fun o88 => ?_)
  refine kc_X10_197 o88 dX10_expands_128 rfl (Nat.le_of_ble_eq_true rfl) (Nat.le_of_ble_eq_true rfl) rfl (fun _ h89 => ?_)
  refine Sm.aload_n dX10_expands_131 rfl rfl rfl ?_
  refine Sm.bipush dX10_expands_132 bp_48 rfl ?_
  refine Sm.iload dX10_expands_134 rfl rfl ?_
  refine Sm.iconst dX10_expands_136 ic_4 rfl ?_
  refine Sm.irem dX10_expands_137 (by decide) rfl ?_
  refine Sm.iadd dX10_expands_138 rfl ?_
  refine Sm.ck (fun o90 => ?_)
  refine kc_X10_197 o90 dX10_expands_139 rfl (Nat.le_of_ble_eq_true rfl) (Nat.le_of_ble_eq_true rfl) rfl (fun _ h91 => ?_)
  refine Sm.goto (t := 407) dX10_expands_142 (by decide) ?_
  exact Sm.ret (r := ()) dX10_expands_407 trivial rfl
def f_X10_expands_101 (l0 : Nat) (l3 : Int32) (s0 : Int32) (h : Hp) : Option (Unit × Hp) :=
  (ck h l0 10
(bd (f_X10_shows l0 ((120 : Int32) + (s0 / (4 : Int32))) h) fun _ h86 =>
(if (30 : Int32) ≤ l3 then
(f_X10_expands_128 l0 s0 l0 (58 : Int32) h86)
else
(f_X10_expands_128 l0 s0 l0 (61 : Int32) h86))))
set_option maxRecDepth 20000 in
theorem t_X10_expands_101 (l0 : Nat) (l3 : Int32) (s0 : Int32) (h : Hp) : Sm rvV g_X10_expands 101 [.ref l0, .null, .null, .int l3, .null, .null, .null] [.int s0] h (f_X10_expands_101 l0 l3 s0 h) := by
  unfold f_X10_expands_101
  refine Sm.istore (lv' := [.ref l0, .null, .null, .int l3, .null, .null, .int s0]) dX10_expands_101 (Nat.le_of_ble_eq_true rfl) rfl rfl ?_
  refine Sm.aload_n dX10_expands_103 rfl rfl rfl ?_
  refine Sm.bipush dX10_expands_104 bp_120 rfl ?_
  refine Sm.iload dX10_expands_106 rfl rfl ?_
  refine Sm.iconst dX10_expands_108 ic_4 rfl ?_
  refine Sm.idiv dX10_expands_109 (by decide) rfl ?_
  refine Sm.iadd dX10_expands_110 rfl ?_
  refine Sm.ck (fun o85 => ?_)
  refine kc_X10_197 o85 dX10_expands_111 rfl (Nat.le_of_ble_eq_true rfl) (Nat.le_of_ble_eq_true rfl) rfl (fun _ h86 => ?_)
  refine Sm.aload_n dX10_expands_114 rfl rfl rfl ?_
  refine Sm.iload_n dX10_expands_115 rfl rfl rfl ?_
  refine Sm.bipush dX10_expands_116 bp_30 rfl ?_
  refine Sm.icmp_ge (t := 126) dX10_expands_118 (by decide) rfl (fun b87 => ?_) (fun b87 => ?_)
  · refine Sm.bipush dX10_expands_126 bp_58 rfl ?_
    exact Sm.wk (t_X10_expands_128 l0 s0 l0 (58 : Int32) h86) ⟨Or.inr rfl, Or.inl rfl, Or.inl rfl, Or.inl rfl, Or.inl rfl, Or.inl rfl, Or.inr rfl, trivial⟩
  · refine Sm.bipush dX10_expands_121 bp_61 rfl ?_
    refine Sm.goto (t := 128) dX10_expands_123 (by decide) ?_
    exact Sm.wk (t_X10_expands_128 l0 s0 l0 (61 : Int32) h86) ⟨Or.inr rfl, Or.inl rfl, Or.inl rfl, Or.inl rfl, Or.inl rfl, Or.inl rfl, Or.inr rfl, trivial⟩
def f_X10_expands_59 (l0 : Nat) (l2 : Int32) (l3 : Int32) (l4 : Int32) (s0 : Int32) (h : Hp) : Option (Unit × Hp) :=
  (if (10 : Int32) ≤ l3 then
(if (50 : Int32) ≤ l3 then
(if l3 = (50 : Int32) then
(ck h l0 10
((gP h l0 18).bind fun v16 =>
(ca h v16 20 l2
(if s0 = (50 : Int32) then
(f_X10_expands_170 l0 l2 l0 (gI h v16 l2.toNatClampNeg) (1 : Int32) h)
else
(f_X10_expands_170 l0 l2 l0 (gI h v16 l2.toNatClampNeg) (0 : Int32) h)))))
else
(if l3 = (51 : Int32) then
(ck h l0 10
((gP h l0 18).bind fun v29 =>
(ca h v29 20 l2
(if s0 = (50 : Int32) then
(f_X10_expands_219 l0 l2 l4 l0 (gI h v29 l2.toNatClampNeg) h)
else
(if s0 = (51 : Int32) then
(f_X10_expands_219 l0 l2 l4 l0 (gI h v29 l2.toNatClampNeg) h)
else
(f_X10_expands_224 l0 l2 l4 l0 (gI h v29 l2.toNatClampNeg) (0 : Int32) h))))))
else
(if l3 = (52 : Int32) then
(ck h l0 10
(bd (f_X10_piles l0 (-42 : Int32) h) fun _ h45 =>
(ck h45 l0 10
((gP h45 l0 17).bind fun v47 =>
(ca h45 v47 20 l2
(if l4 = (50 : Int32) then
(f_X10_expands_298 l0 (gI h45 v47 l2.toNatClampNeg) h45)
else
(if l4 = (51 : Int32) then
(f_X10_expands_298 l0 (gI h45 v47 l2.toNatClampNeg) h45)
else
(if l4 = (53 : Int32) then
(f_X10_expands_298 l0 (gI h45 v47 l2.toNatClampNeg) h45)
else
(f_X10_expands_303 l0 (gI h45 v47 l2.toNatClampNeg) (0 : Int32) h45)))))))))
else
(if l3 = (53 : Int32) then
(ck h l0 10
((gP h l0 17).bind fun v56 =>
(ca h v56 20 l2
(if l4 = (50 : Int32) then
(f_X10_expands_336 l0 l0 (gI h v56 l2.toNatClampNeg) h)
else
(if l4 = (51 : Int32) then
(f_X10_expands_336 l0 l0 (gI h v56 l2.toNatClampNeg) h)
else
(f_X10_expands_341 l0 l0 (gI h v56 l2.toNatClampNeg) (0 : Int32) h))))))
else
(ck h l0 10
(bd (f_X10_piles l0 (-93 : Int32) h) fun _ h65 =>
(ck h65 l0 10
((gP h65 l0 19).bind fun v67 =>
(ca h65 v67 20 l2
(bd (f_X10_piles l0 (gI h65 v67 l2.toNatClampNeg) h65) fun _ h69 =>
(ck h69 l0 10
(bd (f_X10_piles l0 (-124 : Int32) h69) fun _ h71 =>
(ck h71 l0 10
((gP h71 l0 18).bind fun v73 =>
(ca h71 v73 20 l2
(bd (f_X10_piles l0 (gI h71 v73 l2.toNatClampNeg) h71) fun _ h75 =>
(ck h75 l0 10
(bd (f_X10_piles l0 (-63 : Int32) h75) fun _ h77 =>
(ck h77 l0 10
((gP h77 l0 17).bind fun v79 =>
(ca h77 v79 20 l2
(bd (f_X10_piles l0 (gI h77 v79 l2.toNatClampNeg) h77) fun _ h81 =>
(ck h81 l0 10
(bd (f_X10_piles l0 (-91 : Int32) h81) fun _ h83 =>
(some ((), h83))))))))))))))))))))))))))
else
(if (30 : Int32) ≤ l3 then
(f_X10_expands_101 l0 l3 (l3 - (30 : Int32)) h)
else
(f_X10_expands_101 l0 l3 (l3 - (10 : Int32)) h)))
else
(ck h l0 10
(bd (f_X10_shows l0 ((48 : Int32) + l3) h) fun _ h93 =>
(some ((), h93)))))
set_option maxRecDepth 20000 in
theorem t_X10_expands_59 (l0 : Nat) (l2 : Int32) (l3 : Int32) (l4 : Int32) (s0 : Int32) (h : Hp) : Sm rvV g_X10_expands 59 [.ref l0, .null, .int l2, .int l3, .int l4, .null, .null] [.int s0] h (f_X10_expands_59 l0 l2 l3 l4 s0 h) := by
  unfold f_X10_expands_59
  refine Sm.istore (lv' := [.ref l0, .null, .int l2, .int l3, .int l4, .int s0, .null]) dX10_expands_59 (Nat.le_of_ble_eq_true rfl) rfl rfl ?_
  refine Sm.iload_n dX10_expands_61 rfl rfl rfl ?_
  refine Sm.bipush dX10_expands_62 bp_10 rfl ?_
  refine Sm.icmp_ge (t := 78) dX10_expands_64 (by decide) rfl (fun b12 => ?_) (fun b12 => ?_)
  · refine Sm.iload_n dX10_expands_78 rfl rfl rfl ?_
    refine Sm.bipush dX10_expands_79 bp_50 rfl ?_
    refine Sm.icmp_ge (t := 145) dX10_expands_81 (by decide) rfl (fun b13 => ?_) (fun b13 => ?_)
    · refine Sm.iload_n dX10_expands_145 rfl rfl rfl ?_
      refine Sm.bipush dX10_expands_146 bp_50 rfl ?_
      refine Sm.icmp_ne (t := 192) dX10_expands_148 (by decide) rfl (fun b14 => ?_) (fun b14 => ?_)
      · refine Sm.aload_n dX10_expands_151 rfl rfl rfl ?_
        refine Sm.aload_n dX10_expands_152 rfl rfl rfl ?_
        refine Sm.ck (fun o15 => ?_)
        refine gf_X10_43 o15 dX10_expands_153 rfl rfl (fun v16 => ?_)
        refine Sm.iload_n dX10_expands_156 rfl rfl rfl ?_
        refine Sm.ca (fun q17 => ?_)
        refine Sm.iald q17 dX10_expands_157 rfl ?_
        refine Sm.iload dX10_expands_158 rfl rfl ?_
        refine Sm.bipush dX10_expands_160 bp_50 rfl ?_
        refine Sm.icmp_ne (t := 169) dX10_expands_162 (by decide) rfl (fun b18 => ?_) (fun b18 => ?_)
        · refine Sm.iconst dX10_expands_165 ic_1 rfl ?_
          refine Sm.goto (t := 170) dX10_expands_166 (by decide) ?_
          exact Sm.wk (t_X10_expands_170 l0 l2 l0 (gI h v16 l2.toNatClampNeg) (1 : Int32) h) ⟨Or.inr rfl, Or.inl rfl, Or.inr rfl, Or.inl rfl, Or.inl rfl, Or.inl rfl, Or.inl rfl, trivial⟩
        · refine Sm.iconst dX10_expands_169 ic_0 rfl ?_
          exact Sm.wk (t_X10_expands_170 l0 l2 l0 (gI h v16 l2.toNatClampNeg) (0 : Int32) h) ⟨Or.inr rfl, Or.inl rfl, Or.inr rfl, Or.inl rfl, Or.inl rfl, Or.inl rfl, Or.inl rfl, trivial⟩
      · refine Sm.iload_n dX10_expands_192 rfl rfl rfl ?_
        refine Sm.bipush dX10_expands_193 bp_51 rfl ?_
        refine Sm.icmp_ne (t := 258) dX10_expands_195 (by decide) rfl (fun b27 => ?_) (fun b27 => ?_)
        · refine Sm.aload_n dX10_expands_198 rfl rfl rfl ?_
          refine Sm.aload_n dX10_expands_199 rfl rfl rfl ?_
          refine Sm.ck (fun o28 => ?_)
          refine gf_X10_43 o28 dX10_expands_200 rfl rfl (fun v29 => ?_)
          refine Sm.iload_n dX10_expands_203 rfl rfl rfl ?_
          refine Sm.ca (fun q30 => ?_)
          refine Sm.iald q30 dX10_expands_204 rfl ?_
          refine Sm.iload dX10_expands_205 rfl rfl ?_
          refine Sm.bipush dX10_expands_207 bp_50 rfl ?_
          refine Sm.icmp_eq (t := 219) dX10_expands_209 (by decide) rfl (fun b31 => ?_) (fun b31 => ?_)
          · exact Sm.wk (t_X10_expands_219 l0 l2 l4 l0 (gI h v29 l2.toNatClampNeg) h) ⟨Or.inr rfl, Or.inl rfl, Or.inr rfl, Or.inl rfl, Or.inr rfl, Or.inl rfl, Or.inl rfl, trivial⟩
          · refine Sm.iload dX10_expands_212 rfl rfl ?_
            refine Sm.bipush dX10_expands_214 bp_51 rfl ?_
            refine Sm.icmp_ne (t := 223) dX10_expands_216 (by decide) rfl (fun b42 => ?_) (fun b42 => ?_)
            · exact Sm.wk (t_X10_expands_219 l0 l2 l4 l0 (gI h v29 l2.toNatClampNeg) h) ⟨Or.inr rfl, Or.inl rfl, Or.inr rfl, Or.inl rfl, Or.inr rfl, Or.inl rfl, Or.inl rfl, trivial⟩
            · refine Sm.iconst dX10_expands_223 ic_0 rfl ?_
              exact Sm.wk (t_X10_expands_224 l0 l2 l4 l0 (gI h v29 l2.toNatClampNeg) (0 : Int32) h) ⟨Or.inr rfl, Or.inl rfl, Or.inr rfl, Or.inl rfl, Or.inr rfl, Or.inl rfl, Or.inl rfl, trivial⟩
        · refine Sm.iload_n dX10_expands_258 rfl rfl rfl ?_
          refine Sm.bipush dX10_expands_259 bp_52 rfl ?_
          refine Sm.icmp_ne (t := 309) dX10_expands_261 (by decide) rfl (fun b43 => ?_) (fun b43 => ?_)
          · refine Sm.aload_n dX10_expands_264 rfl rfl rfl ?_
            refine Sm.bipush dX10_expands_265 bp_m42 rfl ?_
            refine Sm.ck (fun o44 => ?_)
            refine kc_X10_191 o44 dX10_expands_267 rfl (Nat.le_of_ble_eq_true rfl) (Nat.le_of_ble_eq_true rfl) rfl (fun _ h45 => ?_)
            refine Sm.aload_n dX10_expands_270 rfl rfl rfl ?_
            refine Sm.aload_n dX10_expands_271 rfl rfl rfl ?_
            refine Sm.ck (fun o46 => ?_)
            refine gf_X10_40 o46 dX10_expands_272 rfl rfl (fun v47 => ?_)
            refine Sm.iload_n dX10_expands_275 rfl rfl rfl ?_
            refine Sm.ca (fun q48 => ?_)
            refine Sm.iald q48 dX10_expands_276 rfl ?_
            refine Sm.iload dX10_expands_277 rfl rfl ?_
            refine Sm.bipush dX10_expands_279 bp_50 rfl ?_
            refine Sm.icmp_eq (t := 298) dX10_expands_281 (by decide) rfl (fun b49 => ?_) (fun b49 => ?_)
            · exact Sm.wk (t_X10_expands_298 l0 (gI h45 v47 l2.toNatClampNeg) h45) ⟨Or.inl rfl, Or.inl rfl, Or.inl rfl, Or.inl rfl, Or.inl rfl, Or.inl rfl, Or.inl rfl, trivial⟩
            · refine Sm.iload dX10_expands_284 rfl rfl ?_
              refine Sm.bipush dX10_expands_286 bp_51 rfl ?_
              refine Sm.icmp_eq (t := 298) dX10_expands_288 (by decide) rfl (fun b52 => ?_) (fun b52 => ?_)
              · exact Sm.wk (t_X10_expands_298 l0 (gI h45 v47 l2.toNatClampNeg) h45) ⟨Or.inl rfl, Or.inl rfl, Or.inl rfl, Or.inl rfl, Or.inl rfl, Or.inl rfl, Or.inl rfl, trivial⟩
              · refine Sm.iload dX10_expands_291 rfl rfl ?_
                refine Sm.bipush dX10_expands_293 bp_53 rfl ?_
                refine Sm.icmp_ne (t := 302) dX10_expands_295 (by decide) rfl (fun b53 => ?_) (fun b53 => ?_)
                · exact Sm.wk (t_X10_expands_298 l0 (gI h45 v47 l2.toNatClampNeg) h45) ⟨Or.inl rfl, Or.inl rfl, Or.inl rfl, Or.inl rfl, Or.inl rfl, Or.inl rfl, Or.inl rfl, trivial⟩
                · refine Sm.iconst dX10_expands_302 ic_0 rfl ?_
                  exact Sm.wk (t_X10_expands_303 l0 (gI h45 v47 l2.toNatClampNeg) (0 : Int32) h45) ⟨Or.inl rfl, Or.inl rfl, Or.inl rfl, Or.inl rfl, Or.inl rfl, Or.inl rfl, Or.inl rfl, trivial⟩
          · refine Sm.iload_n dX10_expands_309 rfl rfl rfl ?_
            refine Sm.bipush dX10_expands_310 bp_53 rfl ?_
            refine Sm.icmp_ne (t := 353) dX10_expands_312 (by decide) rfl (fun b54 => ?_) (fun b54 => ?_)
            · refine Sm.aload_n dX10_expands_315 rfl rfl rfl ?_
              refine Sm.aload_n dX10_expands_316 rfl rfl rfl ?_
              refine Sm.ck (fun o55 => ?_)
              refine gf_X10_40 o55 dX10_expands_317 rfl rfl (fun v56 => ?_)
              refine Sm.iload_n dX10_expands_320 rfl rfl rfl ?_
              refine Sm.ca (fun q57 => ?_)
              refine Sm.iald q57 dX10_expands_321 rfl ?_
              refine Sm.iload dX10_expands_322 rfl rfl ?_
              refine Sm.bipush dX10_expands_324 bp_50 rfl ?_
              refine Sm.icmp_eq (t := 336) dX10_expands_326 (by decide) rfl (fun b58 => ?_) (fun b58 => ?_)
              · exact Sm.wk (t_X10_expands_336 l0 l0 (gI h v56 l2.toNatClampNeg) h) ⟨Or.inr rfl, Or.inl rfl, Or.inl rfl, Or.inl rfl, Or.inl rfl, Or.inl rfl, Or.inl rfl, trivial⟩
              · refine Sm.iload dX10_expands_329 rfl rfl ?_
                refine Sm.bipush dX10_expands_331 bp_51 rfl ?_
                refine Sm.icmp_ne (t := 340) dX10_expands_333 (by decide) rfl (fun b63 => ?_) (fun b63 => ?_)
                · exact Sm.wk (t_X10_expands_336 l0 l0 (gI h v56 l2.toNatClampNeg) h) ⟨Or.inr rfl, Or.inl rfl, Or.inl rfl, Or.inl rfl, Or.inl rfl, Or.inl rfl, Or.inl rfl, trivial⟩
                · refine Sm.iconst dX10_expands_340 ic_0 rfl ?_
                  exact Sm.wk (t_X10_expands_341 l0 l0 (gI h v56 l2.toNatClampNeg) (0 : Int32) h) ⟨Or.inr rfl, Or.inl rfl, Or.inl rfl, Or.inl rfl, Or.inl rfl, Or.inl rfl, Or.inl rfl, trivial⟩
            · refine Sm.aload_n dX10_expands_353 rfl rfl rfl ?_
              refine Sm.bipush dX10_expands_354 bp_m93 rfl ?_
              refine Sm.ck (fun o64 => ?_)
              refine kc_X10_191 o64 dX10_expands_356 rfl (Nat.le_of_ble_eq_true rfl) (Nat.le_of_ble_eq_true rfl) rfl (fun _ h65 => ?_)
              refine Sm.aload_n dX10_expands_359 rfl rfl rfl ?_
              refine Sm.aload_n dX10_expands_360 rfl rfl rfl ?_
              refine Sm.ck (fun o66 => ?_)
              refine gf_X10_46 o66 dX10_expands_361 rfl rfl (fun v67 => ?_)
              refine Sm.iload_n dX10_expands_364 rfl rfl rfl ?_
              refine Sm.ca (fun q68 => ?_)
              refine Sm.iald q68 dX10_expands_365 rfl ?_
              refine kc_X10_191 o66 dX10_expands_366 rfl (Nat.le_of_ble_eq_true rfl) (Nat.le_of_ble_eq_true rfl) rfl (fun _ h69 => ?_)
              refine Sm.aload_n dX10_expands_369 rfl rfl rfl ?_
              refine Sm.bipush dX10_expands_370 bp_m124 rfl ?_
              refine Sm.ck (fun o70 => ?_)
              refine kc_X10_191 o70 dX10_expands_372 rfl (Nat.le_of_ble_eq_true rfl) (Nat.le_of_ble_eq_true rfl) rfl (fun _ h71 => ?_)
              refine Sm.aload_n dX10_expands_375 rfl rfl rfl ?_
              refine Sm.aload_n dX10_expands_376 rfl rfl rfl ?_
              refine Sm.ck (fun o72 => ?_)
              refine gf_X10_43 o72 dX10_expands_377 rfl rfl (fun v73 => ?_)
              refine Sm.iload_n dX10_expands_380 rfl rfl rfl ?_
              refine Sm.ca (fun q74 => ?_)
              refine Sm.iald q74 dX10_expands_381 rfl ?_
              refine kc_X10_191 o72 dX10_expands_382 rfl (Nat.le_of_ble_eq_true rfl) (Nat.le_of_ble_eq_true rfl) rfl (fun _ h75 => ?_)
              refine Sm.aload_n dX10_expands_385 rfl rfl rfl ?_
              refine Sm.bipush dX10_expands_386 bp_m63 rfl ?_
              refine Sm.ck (fun o76 => ?_)
              refine kc_X10_191 o76 dX10_expands_388 rfl (Nat.le_of_ble_eq_true rfl) (Nat.le_of_ble_eq_true rfl) rfl (fun _ h77 => ?_)
              refine Sm.aload_n dX10_expands_391 rfl rfl rfl ?_
              refine Sm.aload_n dX10_expands_392 rfl rfl rfl ?_
              refine Sm.ck (fun o78 => ?_)
              refine gf_X10_40 o78 dX10_expands_393 rfl rfl (fun v79 => ?_)
              refine Sm.iload_n dX10_expands_396 rfl rfl rfl ?_
              refine Sm.ca (fun q80 => ?_)
              refine Sm.iald q80 dX10_expands_397 rfl ?_
              refine kc_X10_191 o78 dX10_expands_398 rfl (Nat.le_of_ble_eq_true rfl) (Nat.le_of_ble_eq_true rfl) rfl (fun _ h81 => ?_)
              refine Sm.aload_n dX10_expands_401 rfl rfl rfl ?_
              refine Sm.bipush dX10_expands_402 bp_m91 rfl ?_
              refine Sm.ck (fun o82 => ?_)
              refine kc_X10_191 o82 dX10_expands_404 rfl (Nat.le_of_ble_eq_true rfl) (Nat.le_of_ble_eq_true rfl) rfl (fun _ h83 => ?_)
              exact Sm.ret (r := ()) dX10_expands_407 trivial rfl
    · refine Sm.iload_n dX10_expands_84 rfl rfl rfl ?_
      refine Sm.bipush dX10_expands_85 bp_30 rfl ?_
      refine Sm.icmp_ge (t := 97) dX10_expands_87 (by decide) rfl (fun b84 => ?_) (fun b84 => ?_)
      · refine Sm.iload_n dX10_expands_97 rfl rfl rfl ?_
        refine Sm.bipush dX10_expands_98 bp_30 rfl ?_
        refine Sm.isub dX10_expands_100 rfl ?_
        exact Sm.wk (t_X10_expands_101 l0 l3 (l3 - (30 : Int32)) h) ⟨Or.inr rfl, Or.inl rfl, Or.inl rfl, Or.inr rfl, Or.inl rfl, Or.inl rfl, Or.inl rfl, trivial⟩
      · refine Sm.iload_n dX10_expands_90 rfl rfl rfl ?_
        refine Sm.bipush dX10_expands_91 bp_10 rfl ?_
        refine Sm.isub dX10_expands_93 rfl ?_
        refine Sm.goto (t := 101) dX10_expands_94 (by decide) ?_
        exact Sm.wk (t_X10_expands_101 l0 l3 (l3 - (10 : Int32)) h) ⟨Or.inr rfl, Or.inl rfl, Or.inl rfl, Or.inr rfl, Or.inl rfl, Or.inl rfl, Or.inl rfl, trivial⟩
  · refine Sm.aload_n dX10_expands_67 rfl rfl rfl ?_
    refine Sm.bipush dX10_expands_68 bp_48 rfl ?_
    refine Sm.iload_n dX10_expands_70 rfl rfl rfl ?_
    refine Sm.iadd dX10_expands_71 rfl ?_
    refine Sm.ck (fun o92 => ?_)
    refine kc_X10_197 o92 dX10_expands_72 rfl (Nat.le_of_ble_eq_true rfl) (Nat.le_of_ble_eq_true rfl) rfl (fun _ h93 => ?_)
    refine Sm.goto (t := 407) dX10_expands_75 (by decide) ?_
    exact Sm.ret (r := ()) dX10_expands_407 trivial rfl
def f_X10_expands_32 (l0 : Nat) (l1 : Int32) (l2 : Int32) (l3 : Int32) (s0 : Int32) (h : Hp) : Option (Unit × Hp) :=
  (ck h l0 10
((gP h l0 18).bind fun v9 =>
(ca h v9 20 l2
(if (gI h v9 l2.toNatClampNeg) = (-1 : Int32) then
(f_X10_expands_59 l0 l2 l3 s0 (-1 : Int32) h)
else
((gP h l0 18).bind fun v94 =>
(ca h v94 20 l2
(bd (f_X10_signOf l0 l1 (gI h v94 l2.toNatClampNeg) h) fun v96 h97 =>
(f_X10_expands_59 l0 l2 l3 s0 v96 h97))))))))
set_option maxRecDepth 20000 in
theorem t_X10_expands_32 (l0 : Nat) (l1 : Int32) (l2 : Int32) (l3 : Int32) (s0 : Int32) (h : Hp) : Sm rvV g_X10_expands 32 [.ref l0, .int l1, .int l2, .int l3, .null, .null, .null] [.int s0] h (f_X10_expands_32 l0 l1 l2 l3 s0 h) := by
  unfold f_X10_expands_32
  refine Sm.istore (lv' := [.ref l0, .int l1, .int l2, .int l3, .int s0, .null, .null]) dX10_expands_32 (Nat.le_of_ble_eq_true rfl) rfl rfl ?_
  refine Sm.aload_n dX10_expands_34 rfl rfl rfl ?_
  refine Sm.ck (fun o8 => ?_)
  refine gf_X10_43 o8 dX10_expands_35 rfl rfl (fun v9 => ?_)
  refine Sm.iload_n dX10_expands_38 rfl rfl rfl ?_
  refine Sm.ca (fun q10 => ?_)
  refine Sm.iald q10 dX10_expands_39 rfl ?_
  refine Sm.iconst dX10_expands_40 ic_m1 rfl ?_
  refine Sm.icmp_ne (t := 48) dX10_expands_41 (by decide) rfl (fun b11 => ?_) (fun b11 => ?_)
  · refine Sm.iconst dX10_expands_44 ic_m1 rfl ?_
    refine Sm.goto (t := 59) dX10_expands_45 (by decide) ?_
    exact Sm.wk (t_X10_expands_59 l0 l2 l3 s0 (-1 : Int32) h) ⟨Or.inr rfl, Or.inl rfl, Or.inr rfl, Or.inr rfl, Or.inr rfl, Or.inl rfl, Or.inl rfl, trivial⟩
  · refine Sm.aload_n dX10_expands_48 rfl rfl rfl ?_
    refine Sm.iload_n dX10_expands_49 rfl rfl rfl ?_
    refine Sm.aload_n dX10_expands_50 rfl rfl rfl ?_
    refine gf_X10_43 o8 dX10_expands_51 rfl rfl (fun v94 => ?_)
    refine Sm.iload_n dX10_expands_54 rfl rfl rfl ?_
    refine Sm.ca (fun q95 => ?_)
    refine Sm.iald q95 dX10_expands_55 rfl ?_
    refine kc_X10_116 o8 dX10_expands_56 rfl (Nat.le_of_ble_eq_true rfl) (Nat.le_of_ble_eq_true rfl) rfl (fun v96 h97 => ?_)
    exact Sm.wk (t_X10_expands_59 l0 l2 l3 s0 v96 h97) ⟨Or.inr rfl, Or.inl rfl, Or.inr rfl, Or.inr rfl, Or.inr rfl, Or.inl rfl, Or.inl rfl, trivial⟩
def f_X10_expands (l0 : Nat) (l1 : Int32) (l2 : Int32) (h : Hp) : Option (Unit × Hp) :=
  (ck h l0 10
(bd (f_X10_signOf l0 l1 l2 h) fun v2 h3 =>
(ck h3 l0 10
((gP h3 l0 17).bind fun v5 =>
(ca h3 v5 20 l2
(if (gI h3 v5 l2.toNatClampNeg) = (-1 : Int32) then
(f_X10_expands_32 l0 l1 l2 v2 (-1 : Int32) h3)
else
((gP h3 l0 17).bind fun v98 =>
(ca h3 v98 20 l2
(bd (f_X10_signOf l0 l1 (gI h3 v98 l2.toNatClampNeg) h3) fun v100 h101 =>
(f_X10_expands_32 l0 l1 l2 v2 v100 h101))))))))))
set_option maxRecDepth 20000 in
theorem t_X10_expands (l0 : Nat) (l1 : Int32) (l2 : Int32) (h : Hp) : Sm rvV g_X10_expands 0 (ent 7 [.ref l0, .int l1, .int l2]) [] h (f_X10_expands l0 l1 l2 h) := by
  show Sm rvV g_X10_expands 0 [.ref l0, .int l1, .int l2, .null, .null, .null, .null] [] h _
  unfold f_X10_expands
  refine Sm.aload_n dX10_expands_0 rfl rfl rfl ?_
  refine Sm.iload_n dX10_expands_1 rfl rfl rfl ?_
  refine Sm.iload_n dX10_expands_2 rfl rfl rfl ?_
  refine Sm.ck (fun o1 => ?_)
  refine kc_X10_116 o1 dX10_expands_3 rfl (Nat.le_of_ble_eq_true rfl) (Nat.le_of_ble_eq_true rfl) rfl (fun v2 h3 => ?_)
  refine Sm.istore_n (lv' := [.ref l0, .int l1, .int l2, .int v2, .null, .null, .null]) dX10_expands_6 rfl (Nat.le_of_ble_eq_true rfl) rfl rfl ?_
  refine Sm.aload_n dX10_expands_7 rfl rfl rfl ?_
  refine Sm.ck (fun o4 => ?_)
  refine gf_X10_40 o4 dX10_expands_8 rfl rfl (fun v5 => ?_)
  refine Sm.iload_n dX10_expands_11 rfl rfl rfl ?_
  refine Sm.ca (fun q6 => ?_)
  refine Sm.iald q6 dX10_expands_12 rfl ?_
  refine Sm.iconst dX10_expands_13 ic_m1 rfl ?_
  refine Sm.icmp_ne (t := 21) dX10_expands_14 (by decide) rfl (fun b7 => ?_) (fun b7 => ?_)
  · refine Sm.iconst dX10_expands_17 ic_m1 rfl ?_
    refine Sm.goto (t := 32) dX10_expands_18 (by decide) ?_
    exact Sm.wk (t_X10_expands_32 l0 l1 l2 v2 (-1 : Int32) h3) ⟨Or.inr rfl, Or.inr rfl, Or.inr rfl, Or.inr rfl, Or.inl rfl, Or.inl rfl, Or.inl rfl, trivial⟩
  · refine Sm.aload_n dX10_expands_21 rfl rfl rfl ?_
    refine Sm.iload_n dX10_expands_22 rfl rfl rfl ?_
    refine Sm.aload_n dX10_expands_23 rfl rfl rfl ?_
    refine gf_X10_40 o4 dX10_expands_24 rfl rfl (fun v98 => ?_)
    refine Sm.iload_n dX10_expands_27 rfl rfl rfl ?_
    refine Sm.ca (fun q99 => ?_)
    refine Sm.iald q99 dX10_expands_28 rfl ?_
    refine kc_X10_116 o4 dX10_expands_29 rfl (Nat.le_of_ble_eq_true rfl) (Nat.le_of_ble_eq_true rfl) rfl (fun v100 h101 => ?_)
    exact Sm.wk (t_X10_expands_32 l0 l1 l2 v2 v100 h101) ⟨Or.inr rfl, Or.inr rfl, Or.inr rfl, Or.inr rfl, Or.inl rfl, Or.inl rfl, Or.inl rfl, trivial⟩
set_option maxRecDepth 20000 in
theorem kc_X10_206 {ρ : Type} {rv : ρ → Option Value} {G : Gx} {pc q : Nat} {lv st : List Value} {h : Hp} {a : Nat} {x1 : Int32} {x2 : Int32} {e : Unit → Hp → Option (ρ × Hp)} (hk : isO h a 10) (d : decode G.2.1 pc = .ok (.invokevirtual 206, 3)) (ho : G.1.cls = RX10) (hdep : (g_X10_expands).2.2.2.2 < G.2.2.2.2) (hcat : catS st ≤ 8) (hq : pc + 3 = q) (k : ∀ r h1, Sm rv G q lv (st) h1 (e r h1)) : Sm rv G pc lv (.int x2 :: .int x1 :: .ref a :: st) h (bd (f_X10_expands a x1 x2 h) e) :=
  Sm.callV (rv' := rvV) (args := [.int x1, .int x2]) (n := 2) (t_X10_expands a x1 x2 h) hk (by decide) (r := (RX10, TX10, 43)) rfl rfl ho mw_1150 mw_1152 mp_71 mw_11 mw_1153 ⟨⟨by decide, rfl, hdep, Nat.le_of_ble_eq_true rfl⟩, Nat.le_of_ble_eq_true rfl, rfl, ⟨by decide, by decide⟩, hcat⟩ (by decide +kernel) (by intro v hv; simp only [List.mem_cons, List.not_mem_nil, or_false] at hv; rcases hv with rfl | rfl <;> intro x hx <;> cases hx) d hq k rfl
abbrev g_X10_prints : Gx := (yX10_prints, cX10_prints, 3, (Option.none : Option FieldType), 3)
def f_X10_prints_29 (k29 : Hp → Option (Unit × Hp)) (l0 : Nat) (l1 : Int32) (h : Hp) : Option (Unit × Hp) :=
  (ck h l0 10
(if (gI h l0 21) ≤ 0 then
(some ((), h))
else
((gP (sI h l0 21 ((gI h l0 21) - (1 : Int32))) l0 20).bind fun v13 =>
(ca (sI h l0 21 ((gI h l0 21) - (1 : Int32))) v13 20 (gI (sI h l0 21 ((gI h l0 21) - (1 : Int32))) l0 21)
(nm (gI (sI h l0 21 ((gI h l0 21) - (1 : Int32))) v13 (gI (sI h l0 21 ((gI h l0 21) - (1 : Int32))) l0 21).toNatClampNeg) fun v15 =>
(if 0 ≤ v15 then
(bd (f_X10_expands l0 l1 v15 (sI h l0 21 ((gI h l0 21) - (1 : Int32)))) fun _ h17 =>
(k29 h17))
else
(bd (f_X10_shows l0 (-v15) (sI h l0 21 ((gI h l0 21) - (1 : Int32)))) fun _ h18 =>
(k29 h18))))))))
set_option maxRecDepth 20000 in
theorem t_X10_prints_29 (l0 : Nat) (l1 : Int32) (h : Hp) (k29 : Hp → Option (Unit × Hp)) (hk29 : ∀ s : Hp, Sm rvV g_X10_prints 29 [.ref l0, .int l1, .null] [] s (k29 s)) : Sm rvV g_X10_prints 29 [.ref l0, .int l1, .null] [] h (f_X10_prints_29 k29 l0 l1 h) := by
  unfold f_X10_prints_29
  refine Sm.aload_n dX10_prints_29 rfl rfl rfl ?_
  refine Sm.ck (fun o11 => ?_)
  refine gf_X10_188 o11 dX10_prints_30 rfl rfl ?_
  refine Sm.if_le (t := 78) dX10_prints_33 (by decide) rfl (fun b12 => ?_) (fun b12 => ?_)
  · exact Sm.ret (r := ()) dX10_prints_78 trivial rfl
  · refine Sm.aload_n dX10_prints_36 rfl rfl rfl ?_
    refine Sm.dup dX10_prints_37 rfl rfl ?_
    refine gf_X10_188 o11 dX10_prints_38 rfl rfl ?_
    refine Sm.iconst dX10_prints_41 ic_1 rfl ?_
    refine Sm.isub dX10_prints_42 rfl ?_
    refine pf_X10_188 o11 dX10_prints_43 rfl rfl ?_
    refine Sm.aload_n dX10_prints_46 rfl rfl rfl ?_
    refine gf_X10_49 o11 dX10_prints_47 rfl rfl (fun v13 => ?_)
    refine Sm.aload_n dX10_prints_50 rfl rfl rfl ?_
    refine gf_X10_188 o11 dX10_prints_51 rfl rfl ?_
    refine Sm.ca (fun q14 => ?_)
    refine Sm.iald q14 dX10_prints_54 rfl ?_
    refine Sm.nm (LV := fun v15 => [.ref l0, .int l1, .null]) (ST := fun v15 => [.int v15]) (fun v15 => ?_)
    refine Sm.istore_n (lv' := [.ref l0, .int l1, .int v15]) dX10_prints_55 rfl (Nat.le_of_ble_eq_true rfl) rfl rfl ?_
    refine Sm.iload_n dX10_prints_56 rfl rfl rfl ?_
    refine Sm.if_ge (t := 69) dX10_prints_57 (by decide) rfl (fun b16 => ?_) (fun b16 => ?_)
    · refine Sm.aload_n dX10_prints_69 rfl rfl rfl ?_
      refine Sm.iload_n dX10_prints_70 rfl rfl rfl ?_
      refine Sm.iload_n dX10_prints_71 rfl rfl rfl ?_
      refine kc_X10_206 o11 dX10_prints_72 rfl (Nat.le_of_ble_eq_true rfl) (Nat.le_of_ble_eq_true rfl) rfl (fun _ h17 => ?_)
      refine Sm.goto (t := 29) dX10_prints_75 (by decide) ?_
      exact Sm.wk (hk29 h17) ⟨Or.inr rfl, Or.inr rfl, Or.inl rfl, trivial⟩
    · refine Sm.aload_n dX10_prints_60 rfl rfl rfl ?_
      refine Sm.iload_n dX10_prints_61 rfl rfl rfl ?_
      refine Sm.ineg dX10_prints_62 rfl ?_
      refine kc_X10_197 o11 dX10_prints_63 rfl (Nat.le_of_ble_eq_true rfl) (Nat.le_of_ble_eq_true rfl) rfl (fun _ h18 => ?_)
      refine Sm.goto (t := 75) dX10_prints_66 (by decide) ?_
      refine Sm.goto (t := 29) dX10_prints_75 (by decide) ?_
      exact Sm.wk (hk29 h18) ⟨Or.inr rfl, Or.inr rfl, Or.inl rfl, trivial⟩
def f_X10_prints (l0 : Nat) (l1 : Int32) (h : Hp) : Option (Unit × Hp) :=
  (ck h l0 10
(bd (f_X10_laysOperands l0 l1 h) fun _ h2 =>
(ck h2 l0 10
((gP (sI (sI h2 l0 23 (0 : Int32)) l0 21 (1 : Int32)) l0 20).bind fun v4 =>
((gP (sI (sI h2 l0 23 (0 : Int32)) l0 21 (1 : Int32)) l0 0).bind fun v5 =>
(ca (sI (sI h2 l0 23 (0 : Int32)) l0 21 (1 : Int32)) v5 20 l1
(ca (sI (sI h2 l0 23 (0 : Int32)) l0 21 (1 : Int32)) v4 20 (0 : Int32)
(nm (sI (sI (sI h2 l0 23 (0 : Int32)) l0 21 (1 : Int32)) v4 (0 : Int32).toNatClampNeg ((gI (sI (sI h2 l0 23 (0 : Int32)) l0 21 (1 : Int32)) v5 l1.toNatClampNeg) - (1 : Int32))) fun h8 =>
(loopN (fun k s => f_X10_prints_29 k l0 l1 s) 5000 h8)))))))))
set_option maxRecDepth 20000 in
theorem t_X10_prints (l0 : Nat) (l1 : Int32) (h : Hp) : Sm rvV g_X10_prints 0 (ent 3 [.ref l0, .int l1]) [] h (f_X10_prints l0 l1 h) := by
  show Sm rvV g_X10_prints 0 [.ref l0, .int l1, .null] [] h _
  unfold f_X10_prints
  refine Sm.aload_n dX10_prints_0 rfl rfl rfl ?_
  refine Sm.iload_n dX10_prints_1 rfl rfl rfl ?_
  refine Sm.ck (fun o1 => ?_)
  refine kc_X10_203 o1 dX10_prints_2 rfl (Nat.le_of_ble_eq_true rfl) (Nat.le_of_ble_eq_true rfl) rfl (fun _ h2 => ?_)
  refine Sm.aload_n dX10_prints_5 rfl rfl rfl ?_
  refine Sm.iconst dX10_prints_6 ic_0 rfl ?_
  refine Sm.ck (fun o3 => ?_)
  refine pf_X10_194 o3 dX10_prints_7 rfl rfl ?_
  refine Sm.aload_n dX10_prints_10 rfl rfl rfl ?_
  refine Sm.iconst dX10_prints_11 ic_1 rfl ?_
  refine pf_X10_188 o3 dX10_prints_12 rfl rfl ?_
  refine Sm.aload_n dX10_prints_15 rfl rfl rfl ?_
  refine gf_X10_49 o3 dX10_prints_16 rfl rfl (fun v4 => ?_)
  refine Sm.iconst dX10_prints_19 ic_0 rfl ?_
  refine Sm.aload_n dX10_prints_20 rfl rfl rfl ?_
  refine gf_X10_7 o3 dX10_prints_21 rfl rfl (fun v5 => ?_)
  refine Sm.iload_n dX10_prints_24 rfl rfl rfl ?_
  refine Sm.ca (fun q6 => ?_)
  refine Sm.iald q6 dX10_prints_25 rfl ?_
  refine Sm.iconst dX10_prints_26 ic_1 rfl ?_
  refine Sm.isub dX10_prints_27 rfl ?_
  refine Sm.ca (fun q7 => ?_)
  refine Sm.iast q7 dX10_prints_28 rfl ?_
  refine Sm.nmH (fun h8 e9 e10 => ?_)
  exact Sm.wk (Sm.loop (σ := Hp) (LV := fun s => [.ref l0, .int l1, .null]) (HH := fun s => s) (fun k hk s => t_X10_prints_29 l0 l1 s k hk) 5000 h8) ⟨Or.inr rfl, Or.inr rfl, Or.inl rfl, trivial⟩
set_option maxRecDepth 20000 in
theorem kc_X10_210 {ρ : Type} {rv : ρ → Option Value} {G : Gx} {pc q : Nat} {lv st : List Value} {h : Hp} {a : Nat} {x1 : Int32} {e : Unit → Hp → Option (ρ × Hp)} (hk : isO h a 10) (d : decode G.2.1 pc = .ok (.invokevirtual 210, 3)) (ho : G.1.cls = RX10) (hdep : (g_X10_prints).2.2.2.2 < G.2.2.2.2) (hcat : catS st ≤ 8) (hq : pc + 3 = q) (k : ∀ r h1, Sm rv G q lv (st) h1 (e r h1)) : Sm rv G pc lv (.int x1 :: .ref a :: st) h (bd (f_X10_prints a x1 h) e) :=
  Sm.callV (rv' := rvV) (args := [.int x1]) (n := 1) (t_X10_prints a x1 h) hk (by decide) (r := (RX10, TX10, 43)) rfl rfl ho mw_1138 mw_1140 mp_68 mw_11 mw_1141 ⟨⟨by decide, rfl, hdep, Nat.le_of_ble_eq_true rfl⟩, Nat.le_of_ble_eq_true rfl, rfl, ⟨by decide, by decide⟩, hcat⟩ (by decide +kernel) (by intro v hv; simp only [List.mem_cons, List.not_mem_nil, or_false] at hv; rcases hv with rfl <;> intro x hx <;> cases hx) d hq k rfl
abbrev g_X10_printed : Gx := (yX10_printed, cX10_printed, 3, (Option.some FieldType.int), 4)
def f_X10_printed_12 (l0 : Nat) (h : Hp) : Option (Int32 × Hp) :=
  (ck h l0 10
(bd (f_X10_fails l0 (-2 : Int32) h) fun v5 h6 =>
(some (v5, h6))))
set_option maxRecDepth 20000 in
theorem t_X10_printed_12 (l0 : Nat) (h : Hp) : Sm rvI g_X10_printed 12 [.ref l0, .null, .null] [] h (f_X10_printed_12 l0 h) := by
  unfold f_X10_printed_12
  refine Sm.aload_n dX10_printed_12 rfl rfl rfl ?_
  refine Sm.bipush dX10_printed_13 bp_m2 rfl ?_
  refine Sm.ck (fun o4 => ?_)
  refine kc_X10_106 o4 dX10_printed_15 rfl (Nat.le_of_ble_eq_true rfl) (Nat.le_of_ble_eq_true rfl) rfl (fun v5 h6 => ?_)
  exact Sm.ret dX10_printed_18 trivial rfl
def f_X10_printed (l0 : Nat) (l1 : Int32) (l2 : Int32) (h : Hp) : Option (Int32 × Hp) :=
  (bd (f_X10_isSlot l1 h) fun v1 h2 =>
(if v1 = 0 then
(f_X10_printed_12 l0 h2)
else
(if (-1 : Int32) ≤ l2 then
(ck h2 l0 10
(bd (f_X10_prints l0 l1 h2) fun _ h9 =>
(if l2 = (-1 : Int32) then
(ck h9 l0 10
(some ((gI h9 l0 23), h9)))
else
(ck h9 l0 10
(if (gI h9 l0 23) ≤ l2 then
(some ((-1 : Int32), h9))
else
((gP h9 l0 22).bind fun v14 =>
(ca h9 v14 20 l2
(some ((gI h9 v14 l2.toNatClampNeg), h9)))))))))
else
(f_X10_printed_12 l0 h2))))
set_option maxRecDepth 20000 in
theorem t_X10_printed (l0 : Nat) (l1 : Int32) (l2 : Int32) (h : Hp) : Sm rvI g_X10_printed 0 (ent 3 [.ref l0, .int l1, .int l2]) [] h (f_X10_printed l0 l1 l2 h) := by
  show Sm rvI g_X10_printed 0 [.ref l0, .int l1, .int l2] [] h _
  unfold f_X10_printed
  refine Sm.iload_n dX10_printed_0 rfl rfl rfl ?_
  refine kc_X10_179 dX10_printed_1 rfl (Nat.le_of_ble_eq_true rfl) (Nat.le_of_ble_eq_true rfl) rfl (fun v1 h2 => ?_)
  refine Sm.if_eq (t := 12) dX10_printed_4 (by decide) rfl (fun b3 => ?_) (fun b3 => ?_)
  · exact Sm.wk (t_X10_printed_12 l0 h2) ⟨Or.inr rfl, Or.inl rfl, Or.inl rfl, trivial⟩
  · refine Sm.iload_n dX10_printed_7 rfl rfl rfl ?_
    refine Sm.iconst dX10_printed_8 ic_m1 rfl ?_
    refine Sm.icmp_ge (t := 19) dX10_printed_9 (by decide) rfl (fun b7 => ?_) (fun b7 => ?_)
    · refine Sm.aload_n dX10_printed_19 rfl rfl rfl ?_
      refine Sm.iload_n dX10_printed_20 rfl rfl rfl ?_
      refine Sm.ck (fun o8 => ?_)
      refine kc_X10_210 o8 dX10_printed_21 rfl (Nat.le_of_ble_eq_true rfl) (Nat.le_of_ble_eq_true rfl) rfl (fun _ h9 => ?_)
      refine Sm.iload_n dX10_printed_24 rfl rfl rfl ?_
      refine Sm.iconst dX10_printed_25 ic_m1 rfl ?_
      refine Sm.icmp_ne (t := 36) dX10_printed_26 (by decide) rfl (fun b10 => ?_) (fun b10 => ?_)
      · refine Sm.aload_n dX10_printed_29 rfl rfl rfl ?_
        refine Sm.ck (fun o11 => ?_)
        refine gf_X10_194 o11 dX10_printed_30 rfl rfl ?_
        refine Sm.goto (t := 54) dX10_printed_33 (by decide) ?_
        exact Sm.ret dX10_printed_54 trivial rfl
      · refine Sm.iload_n dX10_printed_36 rfl rfl rfl ?_
        refine Sm.aload_n dX10_printed_37 rfl rfl rfl ?_
        refine Sm.ck (fun o12 => ?_)
        refine gf_X10_194 o12 dX10_printed_38 rfl rfl ?_
        refine Sm.icmp_ge (t := 53) dX10_printed_41 (by decide) rfl (fun b13 => ?_) (fun b13 => ?_)
        · refine Sm.iconst dX10_printed_53 ic_m1 rfl ?_
          exact Sm.ret dX10_printed_54 trivial rfl
        · refine Sm.aload_n dX10_printed_44 rfl rfl rfl ?_
          refine gf_X10_52 o12 dX10_printed_45 rfl rfl (fun v14 => ?_)
          refine Sm.iload_n dX10_printed_48 rfl rfl rfl ?_
          refine Sm.ca (fun q15 => ?_)
          refine Sm.iald q15 dX10_printed_49 rfl ?_
          refine Sm.goto (t := 54) dX10_printed_50 (by decide) ?_
          exact Sm.ret dX10_printed_54 trivial rfl
    · exact Sm.wk (t_X10_printed_12 l0 h2) ⟨Or.inr rfl, Or.inl rfl, Or.inl rfl, trivial⟩
set_option maxRecDepth 20000 in
theorem kc_L_49 {ρ : Type} {rv : ρ → Option Value} {G : Gx} {pc q : Nat} {lv st : List Value} {h : Hp} {a : Nat} {x1 : Int32} {x2 : Int32} {e : Int32 → Hp → Option (ρ × Hp)} (hk : isO h a 10) (d : decode G.2.1 pc = .ok (.invokevirtual 49, 3)) (ho : G.1.cls = RL) (hdep : (g_X10_printed).2.2.2.2 < G.2.2.2.2) (hcat : catS st ≤ 8) (hq : pc + 3 = q) (k : ∀ r h1, Sm rv G q lv (.int r :: st) h1 (e r h1)) : Sm rv G pc lv (.int x2 :: .int x1 :: .ref a :: st) h (bd (f_X10_printed a x1 x2 h) e) :=
  Sm.callV (rv' := rvI) (args := [.int x1, .int x2]) (n := 2) (t_X10_printed a x1 x2 h) hk (by decide) (r := (RX10, TX10, 43)) rfl rfl ho mw_1134 mw_1135 mw_1136 mw_11 mw_1137 ⟨⟨by decide, rfl, hdep, Nat.le_of_ble_eq_true rfl⟩, Nat.le_of_ble_eq_true rfl, rfl, ⟨by decide, by decide⟩, hcat⟩ (by decide +kernel) (by intro v hv; simp only [List.mem_cons, List.not_mem_nil, or_false] at hv; rcases hv with rfl | rfl <;> intro x hx <;> cases hx) d hq k rfl
abbrev g_X10_valueOf : Gx := (yX10_valueOf, cX10_valueOf, 2, (Option.some FieldType.int), 0)
def f_X10_valueOf (l0 : Int32) (l1 : Int32) (h : Hp) : Option (Int32 × Hp) :=
  (some (((l0 >>> (((4 : Int32) - ((2 : Int32) * l1)) &&& 31)) &&& (3 : Int32)), h))
set_option maxRecDepth 20000 in
theorem t_X10_valueOf (l0 : Int32) (l1 : Int32) (h : Hp) : Sm rvI g_X10_valueOf 0 (ent 2 [.int l0, .int l1]) [] h (f_X10_valueOf l0 l1 h) := by
  show Sm rvI g_X10_valueOf 0 [.int l0, .int l1] [] h _
  unfold f_X10_valueOf
  refine Sm.iload_n dX10_valueOf_0 rfl rfl rfl ?_
  refine Sm.iconst dX10_valueOf_1 ic_4 rfl ?_
  refine Sm.iconst dX10_valueOf_2 ic_2 rfl ?_
  refine Sm.iload_n dX10_valueOf_3 rfl rfl rfl ?_
  refine Sm.imul dX10_valueOf_4 rfl ?_
  refine Sm.isub dX10_valueOf_5 rfl ?_
  refine Sm.ishr dX10_valueOf_6 rfl ?_
  refine Sm.iconst dX10_valueOf_7 ic_3 rfl ?_
  refine Sm.iand dX10_valueOf_8 rfl ?_
  exact Sm.ret dX10_valueOf_9 trivial rfl
set_option maxRecDepth 20000 in
theorem kc_X10_216 {ρ : Type} {rv : ρ → Option Value} {G : Gx} {pc q : Nat} {lv st : List Value} {h : Hp} {x0 : Int32} {x1 : Int32} {e : Int32 → Hp → Option (ρ × Hp)} (d : decode G.2.1 pc = .ok (.invokestatic 216, 3)) (ho : G.1.cls = RX10) (hdep : (g_X10_valueOf).2.2.2.2 < G.2.2.2.2) (hcat : catS st ≤ 8) (hq : pc + 3 = q) (k : ∀ r h1, Sm rv G q lv (.int r :: st) h1 (e r h1)) : Sm rv G pc lv (.int x1 :: .int x0 :: st) h (bd (f_X10_valueOf x0 x1 h) e) :=
  Sm.callS (rv' := rvI) (as := [.int x0, .int x1]) (n := 2) (t_X10_valueOf x0 x1 h) ho mw_1181 mw_1182 mw_11 mw_1183 ⟨⟨by decide, rfl, hdep, Nat.le_of_ble_eq_true rfl⟩, Nat.le_of_ble_eq_true rfl, rfl, ⟨by decide, by decide⟩, hcat⟩ (by decide +kernel) (by intro v hv; simp only [List.mem_cons, List.not_mem_nil, or_false] at hv; rcases hv with rfl | rfl <;> intro x hx <;> cases hx) d hq k rfl
abbrev g_X10_simple : Gx := (yX10_simple, cX10_simple, 6, (Option.none : Option FieldType), 1)
def f_X10_simple_54 (k10 : (Int32 × Hp) → Option (Unit × Hp)) (l0 : Nat) (l1 : Int32) (l2 : Int32) (l3 : Int32) (l4 : Int32) (s0 : Int32) (h : Hp) : Option (Unit × Hp) :=
  (nm (s0 - s0 / (4 : Int32) * (4 : Int32)) fun v8 =>
(if (10 : Int32) ≤ l1 then
(if (30 : Int32) ≤ l1 then
(ck h l0 10
((gP h l0 24).bind fun v12 =>
(bd (f_X10_valueOf l3 l4 h) fun v13 h14 =>
(ca h14 v12 22 (l2 + l3)
(nm (l3 + (1 : Int32)) fun v16 =>
(k10 (v16, (sL h14 v12 (l2 + l3).toNatClampNeg ((1 : Int64) <<< ((l3 + ((v8 - v13) <<< (((4 : Int32) - ((2 : Int32) * l4)) &&& 31))).toInt64 &&& 63))))))))))
else
(ck h l0 10
((gP h l0 24).bind fun v18 =>
(bd (f_X10_valueOf l3 l4 h) fun v19 h20 =>
(if v19 = v8 then
(ca h20 v18 22 (l2 + l3)
(nm (l3 + (1 : Int32)) fun v23 =>
(k10 (v23, (sL h20 v18 (l2 + l3).toNatClampNeg ((1 : Int64) <<< (l3.toInt64 &&& 63)))))))
else
(ca h20 v18 22 (l2 + l3)
(nm (l3 + (1 : Int32)) fun v25 =>
(k10 (v25, (sL h20 v18 (l2 + l3).toNatClampNeg (0 : Int64)))))))))))
else
(ck h l0 10
((gP h l0 24).bind fun v27 =>
(if l1 = (1 : Int32) then
(ca h v27 22 (l2 + l3)
(nm (l3 + (1 : Int32)) fun v30 =>
(k10 (v30, (sL h v27 (l2 + l3).toNatClampNeg ((1 : Int64) <<< (l3.toInt64 &&& 63)))))))
else
(ca h v27 22 (l2 + l3)
(nm (l3 + (1 : Int32)) fun v32 =>
(k10 (v32, (sL h v27 (l2 + l3).toNatClampNeg (0 : Int64)))))))))))
set_option maxRecDepth 20000 in
theorem t_X10_simple_54 (l0 : Nat) (l1 : Int32) (l2 : Int32) (l3 : Int32) (l4 : Int32) (s0 : Int32) (h : Hp) (k10 : (Int32 × Hp) → Option (Unit × Hp)) (hk10 : ∀ s : Int32 × Hp, Sm rvV g_X10_simple 10 [.ref l0, .int l1, .int l2, .int s.1, .null, .null] [] s.2 (k10 s)) : Sm rvV g_X10_simple 54 [.ref l0, .int l1, .int l2, .int l3, .int l4, .null] [.int s0] h (f_X10_simple_54 k10 l0 l1 l2 l3 l4 s0 h) := by
  unfold f_X10_simple_54
  refine Sm.iconst dX10_simple_54 ic_4 rfl ?_
  refine Sm.irem dX10_simple_55 (by decide) rfl ?_
  refine Sm.nm (LV := fun v8 => [.ref l0, .int l1, .int l2, .int l3, .int l4, .null]) (ST := fun v8 => [.int v8]) (fun v8 => ?_)
  refine Sm.istore (lv' := [.ref l0, .int l1, .int l2, .int l3, .int l4, .int v8]) dX10_simple_56 (Nat.le_of_ble_eq_true rfl) rfl rfl ?_
  refine Sm.iload_n dX10_simple_58 rfl rfl rfl ?_
  refine Sm.bipush dX10_simple_59 bp_10 rfl ?_
  refine Sm.icmp_ge (t := 87) dX10_simple_61 (by decide) rfl (fun b9 => ?_) (fun b9 => ?_)
  · refine Sm.iload_n dX10_simple_87 rfl rfl rfl ?_
    refine Sm.bipush dX10_simple_88 bp_30 rfl ?_
    refine Sm.icmp_ge (t := 122) dX10_simple_90 (by decide) rfl (fun b10 => ?_) (fun b10 => ?_)
    · refine Sm.aload_n dX10_simple_122 rfl rfl rfl ?_
      refine Sm.ck (fun o11 => ?_)
      refine gf_X10_55 o11 dX10_simple_123 rfl rfl (fun v12 => ?_)
      refine Sm.iload_n dX10_simple_126 rfl rfl rfl ?_
      refine Sm.iload_n dX10_simple_127 rfl rfl rfl ?_
      refine Sm.iadd dX10_simple_128 rfl ?_
      refine Sm.lconst (v := (1 : Int64)) dX10_simple_129 (by decide) rfl ?_
      refine Sm.iload_n dX10_simple_130 rfl rfl rfl ?_
      refine Sm.iload dX10_simple_131 rfl rfl ?_
      refine Sm.iload_n dX10_simple_133 rfl rfl rfl ?_
      refine Sm.iload dX10_simple_134 rfl rfl ?_
      refine kc_X10_216 dX10_simple_136 rfl (Nat.le_of_ble_eq_true rfl) (Nat.le_of_ble_eq_true rfl) rfl (fun v13 h14 => ?_)
      refine Sm.isub dX10_simple_139 rfl ?_
      refine Sm.iconst dX10_simple_140 ic_4 rfl ?_
      refine Sm.iconst dX10_simple_141 ic_2 rfl ?_
      refine Sm.iload dX10_simple_142 rfl rfl ?_
      refine Sm.imul dX10_simple_144 rfl ?_
      refine Sm.isub dX10_simple_145 rfl ?_
      refine Sm.ishl dX10_simple_146 rfl ?_
      refine Sm.iadd dX10_simple_147 rfl ?_
      refine Sm.lshl dX10_simple_148 rfl ?_
      refine Sm.ca (fun q15 => ?_)
      refine Sm.last q15 dX10_simple_149 rfl ?_
      refine Sm.iinc (lv' := [.ref l0, .int l1, .int l2, .int (l3 + (1 : Int32)), .int l4, .int v8]) dX10_simple_150 rfl ic_1 rfl rfl ?_
      refine Sm.nm (LV := fun v16 => [.ref l0, .int l1, .int l2, .int v16, .int l4, .int v8]) (ST := fun v16 => []) (fun v16 => ?_)
      refine Sm.goto (t := 10) dX10_simple_153 (by decide) ?_
      exact Sm.wk (hk10 (v16, (sL h14 v12 (l2 + l3).toNatClampNeg ((1 : Int64) <<< ((l3 + ((v8 - v13) <<< (((4 : Int32) - ((2 : Int32) * l4)) &&& 31))).toInt64 &&& 63))))) ⟨Or.inr rfl, Or.inr rfl, Or.inr rfl, Or.inr rfl, Or.inl rfl, Or.inl rfl, trivial⟩
    · refine Sm.aload_n dX10_simple_93 rfl rfl rfl ?_
      refine Sm.ck (fun o17 => ?_)
      refine gf_X10_55 o17 dX10_simple_94 rfl rfl (fun v18 => ?_)
      refine Sm.iload_n dX10_simple_97 rfl rfl rfl ?_
      refine Sm.iload_n dX10_simple_98 rfl rfl rfl ?_
      refine Sm.iadd dX10_simple_99 rfl ?_
      refine Sm.iload_n dX10_simple_100 rfl rfl rfl ?_
      refine Sm.iload dX10_simple_101 rfl rfl ?_
      refine kc_X10_216 dX10_simple_103 rfl (Nat.le_of_ble_eq_true rfl) (Nat.le_of_ble_eq_true rfl) rfl (fun v19 h20 => ?_)
      refine Sm.iload dX10_simple_106 rfl rfl ?_
      refine Sm.icmp_ne (t := 117) dX10_simple_108 (by decide) rfl (fun b21 => ?_) (fun b21 => ?_)
      · refine Sm.lconst (v := (1 : Int64)) dX10_simple_111 (by decide) rfl ?_
        refine Sm.iload_n dX10_simple_112 rfl rfl rfl ?_
        refine Sm.lshl dX10_simple_113 rfl ?_
        refine Sm.goto (t := 118) dX10_simple_114 (by decide) ?_
        refine Sm.ca (fun q22 => ?_)
        refine Sm.last q22 dX10_simple_118 rfl ?_
        refine Sm.goto (t := 150) dX10_simple_119 (by decide) ?_
        refine Sm.iinc (lv' := [.ref l0, .int l1, .int l2, .int (l3 + (1 : Int32)), .int l4, .int v8]) dX10_simple_150 rfl ic_1 rfl rfl ?_
        refine Sm.nm (LV := fun v23 => [.ref l0, .int l1, .int l2, .int v23, .int l4, .int v8]) (ST := fun v23 => []) (fun v23 => ?_)
        refine Sm.goto (t := 10) dX10_simple_153 (by decide) ?_
        exact Sm.wk (hk10 (v23, (sL h20 v18 (l2 + l3).toNatClampNeg ((1 : Int64) <<< (l3.toInt64 &&& 63))))) ⟨Or.inr rfl, Or.inr rfl, Or.inr rfl, Or.inr rfl, Or.inl rfl, Or.inl rfl, trivial⟩
      · refine Sm.lconst (v := (0 : Int64)) dX10_simple_117 (by decide) rfl ?_
        refine Sm.ca (fun q24 => ?_)
        refine Sm.last q24 dX10_simple_118 rfl ?_
        refine Sm.goto (t := 150) dX10_simple_119 (by decide) ?_
        refine Sm.iinc (lv' := [.ref l0, .int l1, .int l2, .int (l3 + (1 : Int32)), .int l4, .int v8]) dX10_simple_150 rfl ic_1 rfl rfl ?_
        refine Sm.nm (LV := fun v25 => [.ref l0, .int l1, .int l2, .int v25, .int l4, .int v8]) (ST := fun v25 => []) (fun v25 => ?_)
        refine Sm.goto (t := 10) dX10_simple_153 (by decide) ?_
        exact Sm.wk (hk10 (v25, (sL h20 v18 (l2 + l3).toNatClampNeg (0 : Int64)))) ⟨Or.inr rfl, Or.inr rfl, Or.inr rfl, Or.inr rfl, Or.inl rfl, Or.inl rfl, trivial⟩
  · refine Sm.aload_n dX10_simple_64 rfl rfl rfl ?_
    refine Sm.ck (fun o26 => ?_)
    refine gf_X10_55 o26 dX10_simple_65 rfl rfl (fun v27 => ?_)
    refine Sm.iload_n dX10_simple_68 rfl rfl rfl ?_
    refine Sm.iload_n dX10_simple_69 rfl rfl rfl ?_
    refine Sm.iadd dX10_simple_70 rfl ?_
    refine Sm.iload_n dX10_simple_71 rfl rfl rfl ?_
    refine Sm.iconst dX10_simple_72 ic_1 rfl ?_
    refine Sm.icmp_ne (t := 82) dX10_simple_73 (by decide) rfl (fun b28 => ?_) (fun b28 => ?_)
    · refine Sm.lconst (v := (1 : Int64)) dX10_simple_76 (by decide) rfl ?_
      refine Sm.iload_n dX10_simple_77 rfl rfl rfl ?_
      refine Sm.lshl dX10_simple_78 rfl ?_
      refine Sm.goto (t := 83) dX10_simple_79 (by decide) ?_
      refine Sm.ca (fun q29 => ?_)
      refine Sm.last q29 dX10_simple_83 rfl ?_
      refine Sm.goto (t := 150) dX10_simple_84 (by decide) ?_
      refine Sm.iinc (lv' := [.ref l0, .int l1, .int l2, .int (l3 + (1 : Int32)), .int l4, .int v8]) dX10_simple_150 rfl ic_1 rfl rfl ?_
      refine Sm.nm (LV := fun v30 => [.ref l0, .int l1, .int l2, .int v30, .int l4, .int v8]) (ST := fun v30 => []) (fun v30 => ?_)
      refine Sm.goto (t := 10) dX10_simple_153 (by decide) ?_
      exact Sm.wk (hk10 (v30, (sL h v27 (l2 + l3).toNatClampNeg ((1 : Int64) <<< (l3.toInt64 &&& 63))))) ⟨Or.inr rfl, Or.inr rfl, Or.inr rfl, Or.inr rfl, Or.inl rfl, Or.inl rfl, trivial⟩
    · refine Sm.lconst (v := (0 : Int64)) dX10_simple_82 (by decide) rfl ?_
      refine Sm.ca (fun q31 => ?_)
      refine Sm.last q31 dX10_simple_83 rfl ?_
      refine Sm.goto (t := 150) dX10_simple_84 (by decide) ?_
      refine Sm.iinc (lv' := [.ref l0, .int l1, .int l2, .int (l3 + (1 : Int32)), .int l4, .int v8]) dX10_simple_150 rfl ic_1 rfl rfl ?_
      refine Sm.nm (LV := fun v32 => [.ref l0, .int l1, .int l2, .int v32, .int l4, .int v8]) (ST := fun v32 => []) (fun v32 => ?_)
      refine Sm.goto (t := 10) dX10_simple_153 (by decide) ?_
      exact Sm.wk (hk10 (v32, (sL h v27 (l2 + l3).toNatClampNeg (0 : Int64)))) ⟨Or.inr rfl, Or.inr rfl, Or.inr rfl, Or.inr rfl, Or.inl rfl, Or.inl rfl, trivial⟩
def f_X10_simple_33 (k10 : (Int32 × Hp) → Option (Unit × Hp)) (l0 : Nat) (l1 : Int32) (l2 : Int32) (l3 : Int32) (s0 : Int32) (h : Hp) : Option (Unit × Hp) :=
  (nm (s0 / (4 : Int32)) fun v6 =>
(if (30 : Int32) ≤ l1 then
(f_X10_simple_54 k10 l0 l1 l2 l3 v6 (l1 - (30 : Int32)) h)
else
(f_X10_simple_54 k10 l0 l1 l2 l3 v6 (l1 - (10 : Int32)) h)))
set_option maxRecDepth 20000 in
theorem t_X10_simple_33 (l0 : Nat) (l1 : Int32) (l2 : Int32) (l3 : Int32) (s0 : Int32) (h : Hp) (k10 : (Int32 × Hp) → Option (Unit × Hp)) (hk10 : ∀ s : Int32 × Hp, Sm rvV g_X10_simple 10 [.ref l0, .int l1, .int l2, .int s.1, .null, .null] [] s.2 (k10 s)) : Sm rvV g_X10_simple 33 [.ref l0, .int l1, .int l2, .int l3, .null, .null] [.int s0] h (f_X10_simple_33 k10 l0 l1 l2 l3 s0 h) := by
  unfold f_X10_simple_33
  refine Sm.iconst dX10_simple_33 ic_4 rfl ?_
  refine Sm.idiv dX10_simple_34 (by decide) rfl ?_
  refine Sm.nm (LV := fun v6 => [.ref l0, .int l1, .int l2, .int l3, .null, .null]) (ST := fun v6 => [.int v6]) (fun v6 => ?_)
  refine Sm.istore (lv' := [.ref l0, .int l1, .int l2, .int l3, .int v6, .null]) dX10_simple_35 (Nat.le_of_ble_eq_true rfl) rfl rfl ?_
  refine Sm.iload_n dX10_simple_37 rfl rfl rfl ?_
  refine Sm.bipush dX10_simple_38 bp_30 rfl ?_
  refine Sm.icmp_ge (t := 50) dX10_simple_40 (by decide) rfl (fun b7 => ?_) (fun b7 => ?_)
  · refine Sm.iload_n dX10_simple_50 rfl rfl rfl ?_
    refine Sm.bipush dX10_simple_51 bp_30 rfl ?_
    refine Sm.isub dX10_simple_53 rfl ?_
    exact Sm.wk (t_X10_simple_54 l0 l1 l2 l3 v6 (l1 - (30 : Int32)) h k10 hk10) ⟨Or.inr rfl, Or.inr rfl, Or.inr rfl, Or.inr rfl, Or.inr rfl, Or.inl rfl, trivial⟩
  · refine Sm.iload_n dX10_simple_43 rfl rfl rfl ?_
    refine Sm.bipush dX10_simple_44 bp_10 rfl ?_
    refine Sm.isub dX10_simple_46 rfl ?_
    refine Sm.goto (t := 54) dX10_simple_47 (by decide) ?_
    exact Sm.wk (t_X10_simple_54 l0 l1 l2 l3 v6 (l1 - (10 : Int32)) h k10 hk10) ⟨Or.inr rfl, Or.inr rfl, Or.inr rfl, Or.inr rfl, Or.inr rfl, Or.inl rfl, trivial⟩
def f_X10_simple_10 (k10 : (Int32 × Hp) → Option (Unit × Hp)) (l0 : Nat) (l1 : Int32) (l2 : Int32) (l3 : Int32) (h : Hp) : Option (Unit × Hp) :=
  (if (64 : Int32) ≤ l3 then
(ck h l0 10
(some ((), (sI h l0 25 ((gI h l0 25) + (1 : Int32))))))
else
(if (30 : Int32) ≤ l1 then
(f_X10_simple_33 k10 l0 l1 l2 l3 (l1 - (30 : Int32)) h)
else
(f_X10_simple_33 k10 l0 l1 l2 l3 (l1 - (10 : Int32)) h)))
set_option maxRecDepth 20000 in
theorem t_X10_simple_10 (l0 : Nat) (l1 : Int32) (l2 : Int32) (l3 : Int32) (h : Hp) (k10 : (Int32 × Hp) → Option (Unit × Hp)) (hk10 : ∀ s : Int32 × Hp, Sm rvV g_X10_simple 10 [.ref l0, .int l1, .int l2, .int s.1, .null, .null] [] s.2 (k10 s)) : Sm rvV g_X10_simple 10 [.ref l0, .int l1, .int l2, .int l3, .null, .null] [] h (f_X10_simple_10 k10 l0 l1 l2 l3 h) := by
  unfold f_X10_simple_10
  refine Sm.iload_n dX10_simple_10 rfl rfl rfl ?_
  refine Sm.bipush dX10_simple_11 bp_64 rfl ?_
  refine Sm.icmp_ge (t := 156) dX10_simple_13 (by decide) rfl (fun b3 => ?_) (fun b3 => ?_)
  · refine Sm.aload_n dX10_simple_156 rfl rfl rfl ?_
    refine Sm.dup dX10_simple_157 rfl rfl ?_
    refine Sm.ck (fun o4 => ?_)
    refine gf_X10_213 o4 dX10_simple_158 rfl rfl ?_
    refine Sm.iconst dX10_simple_161 ic_1 rfl ?_
    refine Sm.iadd dX10_simple_162 rfl ?_
    refine pf_X10_213 o4 dX10_simple_163 rfl rfl ?_
    exact Sm.ret (r := ()) dX10_simple_166 trivial rfl
  · refine Sm.iload_n dX10_simple_16 rfl rfl rfl ?_
    refine Sm.bipush dX10_simple_17 bp_30 rfl ?_
    refine Sm.icmp_ge (t := 29) dX10_simple_19 (by decide) rfl (fun b5 => ?_) (fun b5 => ?_)
    · refine Sm.iload_n dX10_simple_29 rfl rfl rfl ?_
      refine Sm.bipush dX10_simple_30 bp_30 rfl ?_
      refine Sm.isub dX10_simple_32 rfl ?_
      exact Sm.wk (t_X10_simple_33 l0 l1 l2 l3 (l1 - (30 : Int32)) h k10 hk10) ⟨Or.inr rfl, Or.inr rfl, Or.inr rfl, Or.inr rfl, Or.inl rfl, Or.inl rfl, trivial⟩
    · refine Sm.iload_n dX10_simple_22 rfl rfl rfl ?_
      refine Sm.bipush dX10_simple_23 bp_10 rfl ?_
      refine Sm.isub dX10_simple_25 rfl ?_
      refine Sm.goto (t := 33) dX10_simple_26 (by decide) ?_
      exact Sm.wk (t_X10_simple_33 l0 l1 l2 l3 (l1 - (10 : Int32)) h k10 hk10) ⟨Or.inr rfl, Or.inr rfl, Or.inr rfl, Or.inr rfl, Or.inl rfl, Or.inl rfl, trivial⟩
def f_X10_simple (l0 : Nat) (l1 : Int32) (h : Hp) : Option (Unit × Hp) :=
  (ck h l0 10
(nm ((64 : Int32) * (gI h l0 25)) fun v2 =>
(loopN (fun k s => f_X10_simple_10 k l0 l1 v2 s.1 s.2) 5000 ((0 : Int32), h))))
set_option maxRecDepth 20000 in
theorem t_X10_simple (l0 : Nat) (l1 : Int32) (h : Hp) : Sm rvV g_X10_simple 0 (ent 6 [.ref l0, .int l1]) [] h (f_X10_simple l0 l1 h) := by
  show Sm rvV g_X10_simple 0 [.ref l0, .int l1, .null, .null, .null, .null] [] h _
  unfold f_X10_simple
  refine Sm.bipush dX10_simple_0 bp_64 rfl ?_
  refine Sm.aload_n dX10_simple_2 rfl rfl rfl ?_
  refine Sm.ck (fun o1 => ?_)
  refine gf_X10_213 o1 dX10_simple_3 rfl rfl ?_
  refine Sm.imul dX10_simple_6 rfl ?_
  refine Sm.nm (LV := fun v2 => [.ref l0, .int l1, .null, .null, .null, .null]) (ST := fun v2 => [.int v2]) (fun v2 => ?_)
  refine Sm.istore_n (lv' := [.ref l0, .int l1, .int v2, .null, .null, .null]) dX10_simple_7 rfl (Nat.le_of_ble_eq_true rfl) rfl rfl ?_
  refine Sm.iconst dX10_simple_8 ic_0 rfl ?_
  refine Sm.istore_n (lv' := [.ref l0, .int l1, .int v2, .int (0 : Int32), .null, .null]) dX10_simple_9 rfl (Nat.le_of_ble_eq_true rfl) rfl rfl ?_
  exact Sm.wk (Sm.loop (σ := Int32 × Hp) (LV := fun s => [.ref l0, .int l1, .int v2, .int s.1, .null, .null]) (HH := fun s => s.2) (fun k hk s => t_X10_simple_10 l0 l1 v2 s.1 s.2 k hk) 5000 ((0 : Int32), h)) ⟨Or.inr rfl, Or.inr rfl, Or.inr rfl, Or.inr rfl, Or.inl rfl, Or.inl rfl, trivial⟩
set_option maxRecDepth 20000 in
theorem kc_X10_229 {ρ : Type} {rv : ρ → Option Value} {G : Gx} {pc q : Nat} {lv st : List Value} {h : Hp} {a : Nat} {x1 : Int32} {e : Unit → Hp → Option (ρ × Hp)} (hk : isO h a 10) (d : decode G.2.1 pc = .ok (.invokevirtual 229, 3)) (ho : G.1.cls = RX10) (hdep : (g_X10_simple).2.2.2.2 < G.2.2.2.2) (hcat : catS st ≤ 8) (hq : pc + 3 = q) (k : ∀ r h1, Sm rv G q lv (st) h1 (e r h1)) : Sm rv G pc lv (.int x1 :: .ref a :: st) h (bd (f_X10_simple a x1 h) e) :=
  Sm.callV (rv' := rvV) (args := [.int x1]) (n := 1) (t_X10_simple a x1 h) hk (by decide) (r := (RX10, TX10, 43)) rfl rfl ho mw_1177 mw_1179 mp_76 mw_11 mw_1180 ⟨⟨by decide, rfl, hdep, Nat.le_of_ble_eq_true rfl⟩, Nat.le_of_ble_eq_true rfl, rfl, ⟨by decide, by decide⟩, hcat⟩ (by decide +kernel) (by intro v hv; simp only [List.mem_cons, List.not_mem_nil, or_false] at hv; rcases hv with rfl <;> intro x hx <;> cases hx) d hq k rfl
abbrev g_X10_turned : Gx := (yX10_turned, cX10_turned, 7, (Option.some FieldType.long), 0)
def f_X10_turned_6 (k6 : (Int64 × Int32) → Option (Int64 × Hp)) (l0 : Nat) (l1 : Int64) (l3 : Int32) (l4 : Int64) (l6 : Int32) (h : Hp) : Option (Int64 × Hp) :=
  (if (64 : Int32) ≤ l6 then
(some (l4, h))
else
(if (lg_cmp ((l1 >>> (l6.toInt64 &&& 63)) &&& (1 : Int64)) (1 : Int64)) = 0 then
(ck h l0 10
((gP h l0 24).bind fun v4 =>
(ca h v4 22 (l3 + l6)
(nm (l4 ||| (gL h v4 (l3 + l6).toNatClampNeg)) fun v6 =>
(nm (l6 + (1 : Int32)) fun v7 =>
(k6 (v6, v7)))))))
else
(nm (l4 ||| (0 : Int64)) fun v8 =>
(nm (l6 + (1 : Int32)) fun v9 =>
(k6 (v8, v9))))))
set_option maxRecDepth 20000 in
theorem t_X10_turned_6 (l0 : Nat) (l1 : Int64) (l3 : Int32) (l4 : Int64) (l6 : Int32) (h : Hp) (k6 : (Int64 × Int32) → Option (Int64 × Hp)) (hk6 : ∀ s : Int64 × Int32, Sm rvJ g_X10_turned 6 [.ref l0, .long l1, .null, .int l3, .long s.1, .null, .int s.2] [] h (k6 s)) : Sm rvJ g_X10_turned 6 [.ref l0, .long l1, .null, .int l3, .long l4, .null, .int l6] [] h (f_X10_turned_6 k6 l0 l1 l3 l4 l6 h) := by
  unfold f_X10_turned_6
  refine Sm.iload dX10_turned_6 rfl rfl ?_
  refine Sm.bipush dX10_turned_8 bp_64 rfl ?_
  refine Sm.icmp_ge (t := 48) dX10_turned_10 (by decide) rfl (fun b1 => ?_) (fun b1 => ?_)
  · refine Sm.lload dX10_turned_48 rfl rfl ?_
    exact Sm.ret dX10_turned_50 trivial rfl
  · refine Sm.lload dX10_turned_13 rfl rfl ?_
    refine Sm.lload_n dX10_turned_15 rfl rfl rfl ?_
    refine Sm.iload dX10_turned_16 rfl rfl ?_
    refine Sm.lshr dX10_turned_18 rfl ?_
    refine Sm.lconst (v := (1 : Int64)) dX10_turned_19 (by decide) rfl ?_
    refine Sm.land dX10_turned_20 rfl ?_
    refine Sm.lconst (v := (1 : Int64)) dX10_turned_21 (by decide) rfl ?_
    refine Sm.lcmp dX10_turned_22 rfl ?_
    refine Sm.if_ne (t := 38) dX10_turned_23 (by decide) rfl (fun b2 => ?_) (fun b2 => ?_)
    · refine Sm.aload_n dX10_turned_26 rfl rfl rfl ?_
      refine Sm.ck (fun o3 => ?_)
      refine gf_X10_55 o3 dX10_turned_27 rfl rfl (fun v4 => ?_)
      refine Sm.iload_n dX10_turned_30 rfl rfl rfl ?_
      refine Sm.iload dX10_turned_31 rfl rfl ?_
      refine Sm.iadd dX10_turned_33 rfl ?_
      refine Sm.ca (fun q5 => ?_)
      refine Sm.lald q5 dX10_turned_34 rfl ?_
      refine Sm.goto (t := 39) dX10_turned_35 (by decide) ?_
      refine Sm.lor dX10_turned_39 rfl ?_
      refine Sm.nm (LV := fun v6 => [.ref l0, .long l1, .null, .int l3, .long l4, .null, .int l6]) (ST := fun v6 => [.long v6]) (fun v6 => ?_)
      refine Sm.lstore (lv' := [.ref l0, .long l1, .null, .int l3, .long v6, .null, .int l6]) dX10_turned_40 (Nat.le_of_ble_eq_true rfl) rfl rfl ?_
      refine Sm.iinc (lv' := [.ref l0, .long l1, .null, .int l3, .long v6, .null, .int (l6 + (1 : Int32))]) dX10_turned_42 rfl ic_1 rfl rfl ?_
      refine Sm.nm (LV := fun v7 => [.ref l0, .long l1, .null, .int l3, .long v6, .null, .int v7]) (ST := fun v7 => []) (fun v7 => ?_)
      refine Sm.goto (t := 6) dX10_turned_45 (by decide) ?_
      exact Sm.wk (hk6 (v6, v7)) ⟨Or.inr rfl, Or.inr rfl, Or.inl rfl, Or.inr rfl, Or.inr rfl, Or.inl rfl, Or.inr rfl, trivial⟩
    · refine Sm.lconst (v := (0 : Int64)) dX10_turned_38 (by decide) rfl ?_
      refine Sm.lor dX10_turned_39 rfl ?_
      refine Sm.nm (LV := fun v8 => [.ref l0, .long l1, .null, .int l3, .long l4, .null, .int l6]) (ST := fun v8 => [.long v8]) (fun v8 => ?_)
      refine Sm.lstore (lv' := [.ref l0, .long l1, .null, .int l3, .long v8, .null, .int l6]) dX10_turned_40 (Nat.le_of_ble_eq_true rfl) rfl rfl ?_
      refine Sm.iinc (lv' := [.ref l0, .long l1, .null, .int l3, .long v8, .null, .int (l6 + (1 : Int32))]) dX10_turned_42 rfl ic_1 rfl rfl ?_
      refine Sm.nm (LV := fun v9 => [.ref l0, .long l1, .null, .int l3, .long v8, .null, .int v9]) (ST := fun v9 => []) (fun v9 => ?_)
      refine Sm.goto (t := 6) dX10_turned_45 (by decide) ?_
      exact Sm.wk (hk6 (v8, v9)) ⟨Or.inr rfl, Or.inr rfl, Or.inl rfl, Or.inr rfl, Or.inr rfl, Or.inl rfl, Or.inr rfl, trivial⟩
def f_X10_turned (l0 : Nat) (l1 : Int64) (l3 : Int32) (h : Hp) : Option (Int64 × Hp) :=
  (loopN (fun k s => f_X10_turned_6 k l0 l1 l3 s.1 s.2 h) 5000 ((0 : Int64), (0 : Int32)))
set_option maxRecDepth 20000 in
theorem t_X10_turned (l0 : Nat) (l1 : Int64) (l3 : Int32) (h : Hp) : Sm rvJ g_X10_turned 0 (ent 7 [.ref l0, .long l1, .int l3]) [] h (f_X10_turned l0 l1 l3 h) := by
  show Sm rvJ g_X10_turned 0 [.ref l0, .long l1, .null, .int l3, .null, .null, .null] [] h _
  unfold f_X10_turned
  refine Sm.lconst (v := (0 : Int64)) dX10_turned_0 (by decide) rfl ?_
  refine Sm.lstore (lv' := [.ref l0, .long l1, .null, .int l3, .long (0 : Int64), .null, .null]) dX10_turned_1 (Nat.le_of_ble_eq_true rfl) rfl rfl ?_
  refine Sm.iconst dX10_turned_3 ic_0 rfl ?_
  refine Sm.istore (lv' := [.ref l0, .long l1, .null, .int l3, .long (0 : Int64), .null, .int (0 : Int32)]) dX10_turned_4 (Nat.le_of_ble_eq_true rfl) rfl rfl ?_
  exact Sm.wk (Sm.loop (σ := Int64 × Int32) (LV := fun s => [.ref l0, .long l1, .null, .int l3, .long s.1, .null, .int s.2]) (HH := fun s => h) (fun k hk s => t_X10_turned_6 l0 l1 l3 s.1 s.2 h k hk) 5000 ((0 : Int64), (0 : Int32))) ⟨Or.inr rfl, Or.inr rfl, Or.inl rfl, Or.inr rfl, Or.inr rfl, Or.inl rfl, Or.inr rfl, trivial⟩
set_option maxRecDepth 20000 in
theorem kc_X10_219 {ρ : Type} {rv : ρ → Option Value} {G : Gx} {pc q : Nat} {lv st : List Value} {h : Hp} {a : Nat} {x1 : Int64} {x2 : Int32} {e : Int64 → Hp → Option (ρ × Hp)} (hk : isO h a 10) (d : decode G.2.1 pc = .ok (.invokevirtual 219, 3)) (ho : G.1.cls = RX10) (hdep : (g_X10_turned).2.2.2.2 < G.2.2.2.2) (hcat : catS st ≤ 8) (hq : pc + 3 = q) (k : ∀ r h1, Sm rv G q lv (.long r :: st) h1 (e r h1)) : Sm rv G pc lv (.int x2 :: .long x1 :: .ref a :: st) h (bd (f_X10_turned a x1 x2 h) e) :=
  Sm.callV (rv' := rvJ) (args := [.long x1, .int x2]) (n := 2) (t_X10_turned a x1 x2 h) hk (by decide) (r := (RX10, TX10, 43)) rfl rfl ho mw_1188 mw_1190 mp_78 mw_11 mw_1191 ⟨⟨by decide, rfl, hdep, Nat.le_of_ble_eq_true rfl⟩, Nat.le_of_ble_eq_true rfl, rfl, ⟨by decide, by decide⟩, hcat⟩ (by decide +kernel) (by intro v hv; simp only [List.mem_cons, List.not_mem_nil, or_false] at hv; rcases hv with rfl | rfl <;> intro x hx <;> cases hx) d hq k rfl
abbrev g_X10_reached : Gx := (yX10_reached, cX10_reached, 7, (Option.some FieldType.long), 1)
def f_X10_reached_25 (k25 : (Int64 × Int64 × Hp) → Option (Int64 × Hp)) (l0 : Nat) (l1 : Int32) (l2 : Int32) (l3 : Int64) (l5 : Int64) (h : Hp) : Option (Int64 × Hp) :=
  (if (lg_cmp l5 (0 : Int64)) = 0 then
(some (l3, h))
else
(ck h l0 10
((gP h l0 26).bind fun v11 =>
(ca h v11 20 l1
(ca h v11 20 l1
(nm (l3 ||| l5) fun v14 =>
(bd (f_X10_turned l0 v14 l2 (sI h v11 l1.toNatClampNeg ((gI h v11 l1.toNatClampNeg) + (1 : Int32)))) fun v15 h16 =>
(nm (v15 &&& (v14 ^^^ (-1 : Int64))) fun v17 =>
(k25 (v14, v17, h16))))))))))
set_option maxRecDepth 20000 in
theorem t_X10_reached_25 (l0 : Nat) (l1 : Int32) (l2 : Int32) (l3 : Int64) (l5 : Int64) (h : Hp) (k25 : (Int64 × Int64 × Hp) → Option (Int64 × Hp)) (hk25 : ∀ s : Int64 × Int64 × Hp, Sm rvJ g_X10_reached 25 [.ref l0, .int l1, .int l2, .long s.1, .null, .long s.2.1, .null] [] s.2.2 (k25 s)) : Sm rvJ g_X10_reached 25 [.ref l0, .int l1, .int l2, .long l3, .null, .long l5, .null] [] h (f_X10_reached_25 k25 l0 l1 l2 l3 l5 h) := by
  unfold f_X10_reached_25
  refine Sm.lload dX10_reached_25 rfl rfl ?_
  refine Sm.lconst (v := (0 : Int64)) dX10_reached_27 (by decide) rfl ?_
  refine Sm.lcmp dX10_reached_28 rfl ?_
  refine Sm.if_eq (t := 64) dX10_reached_29 (by decide) rfl (fun b9 => ?_) (fun b9 => ?_)
  · refine Sm.lload_n dX10_reached_64 rfl rfl rfl ?_
    exact Sm.ret dX10_reached_65 trivial rfl
  · refine Sm.aload_n dX10_reached_32 rfl rfl rfl ?_
    refine Sm.ck (fun o10 => ?_)
    refine gf_X10_59 o10 dX10_reached_33 rfl rfl (fun v11 => ?_)
    refine Sm.iload_n dX10_reached_36 rfl rfl rfl ?_
    refine Sm.dup2 dX10_reached_37 rfl rfl rfl ?_
    refine Sm.ca (fun q12 => ?_)
    refine Sm.iald q12 dX10_reached_38 rfl ?_
    refine Sm.iconst dX10_reached_39 ic_1 rfl ?_
    refine Sm.iadd dX10_reached_40 rfl ?_
    refine Sm.ca (fun q13 => ?_)
    refine Sm.iast q13 dX10_reached_41 rfl ?_
    refine Sm.lload_n dX10_reached_42 rfl rfl rfl ?_
    refine Sm.lload dX10_reached_43 rfl rfl ?_
    refine Sm.lor dX10_reached_45 rfl ?_
    refine Sm.nm (LV := fun v14 => [.ref l0, .int l1, .int l2, .long l3, .null, .long l5, .null]) (ST := fun v14 => [.long v14]) (fun v14 => ?_)
    refine Sm.lstore_n (lv' := [.ref l0, .int l1, .int l2, .long v14, .null, .long l5, .null]) dX10_reached_46 rfl (Nat.le_of_ble_eq_true rfl) rfl rfl ?_
    refine Sm.aload_n dX10_reached_47 rfl rfl rfl ?_
    refine Sm.lload_n dX10_reached_48 rfl rfl rfl ?_
    refine Sm.iload_n dX10_reached_49 rfl rfl rfl ?_
    refine kc_X10_219 o10 dX10_reached_50 rfl (Nat.le_of_ble_eq_true rfl) (Nat.le_of_ble_eq_true rfl) rfl (fun v15 h16 => ?_)
    refine Sm.lload_n dX10_reached_53 rfl rfl rfl ?_
    refine Sm.ldc2 dX10_reached_54 mw_1196 rfl ?_
    refine Sm.lxor dX10_reached_57 rfl ?_
    refine Sm.land dX10_reached_58 rfl ?_
    refine Sm.nm (LV := fun v17 => [.ref l0, .int l1, .int l2, .long v14, .null, .long l5, .null]) (ST := fun v17 => [.long v17]) (fun v17 => ?_)
    refine Sm.lstore (lv' := [.ref l0, .int l1, .int l2, .long v14, .null, .long v17, .null]) dX10_reached_59 (Nat.le_of_ble_eq_true rfl) rfl rfl ?_
    refine Sm.goto (t := 25) dX10_reached_61 (by decide) ?_
    exact Sm.wk (hk25 (v14, v17, h16)) ⟨Or.inr rfl, Or.inr rfl, Or.inr rfl, Or.inr rfl, Or.inl rfl, Or.inr rfl, Or.inl rfl, trivial⟩
def f_X10_reached (l0 : Nat) (l1 : Int32) (l2 : Int32) (h : Hp) : Option (Int64 × Hp) :=
  (nm ((1 : Int64) <<< (l1.toInt64 &&& 63)) fun v1 =>
(ck h l0 10
(bd (f_X10_turned l0 v1 l2 h) fun v3 h4 =>
(nm (v3 &&& (v1 ^^^ (-1 : Int64))) fun v5 =>
(ck h4 l0 10
((gP h4 l0 26).bind fun v7 =>
(ca h4 v7 20 l1
(loopN (fun k s => f_X10_reached_25 k l0 l1 l2 s.1 s.2.1 s.2.2) 5000 (v1, v5, (sI h4 v7 l1.toNatClampNeg (0 : Int32)))))))))))
set_option maxRecDepth 20000 in
theorem t_X10_reached (l0 : Nat) (l1 : Int32) (l2 : Int32) (h : Hp) : Sm rvJ g_X10_reached 0 (ent 7 [.ref l0, .int l1, .int l2]) [] h (f_X10_reached l0 l1 l2 h) := by
  show Sm rvJ g_X10_reached 0 [.ref l0, .int l1, .int l2, .null, .null, .null, .null] [] h _
  unfold f_X10_reached
  refine Sm.lconst (v := (1 : Int64)) dX10_reached_0 (by decide) rfl ?_
  refine Sm.iload_n dX10_reached_1 rfl rfl rfl ?_
  refine Sm.lshl dX10_reached_2 rfl ?_
  refine Sm.nm (LV := fun v1 => [.ref l0, .int l1, .int l2, .null, .null, .null, .null]) (ST := fun v1 => [.long v1]) (fun v1 => ?_)
  refine Sm.lstore_n (lv' := [.ref l0, .int l1, .int l2, .long v1, .null, .null, .null]) dX10_reached_3 rfl (Nat.le_of_ble_eq_true rfl) rfl rfl ?_
  refine Sm.aload_n dX10_reached_4 rfl rfl rfl ?_
  refine Sm.lload_n dX10_reached_5 rfl rfl rfl ?_
  refine Sm.iload_n dX10_reached_6 rfl rfl rfl ?_
  refine Sm.ck (fun o2 => ?_)
  refine kc_X10_219 o2 dX10_reached_7 rfl (Nat.le_of_ble_eq_true rfl) (Nat.le_of_ble_eq_true rfl) rfl (fun v3 h4 => ?_)
  refine Sm.lload_n dX10_reached_10 rfl rfl rfl ?_
  refine Sm.ldc2 dX10_reached_11 mw_1196 rfl ?_
  refine Sm.lxor dX10_reached_14 rfl ?_
  refine Sm.land dX10_reached_15 rfl ?_
  refine Sm.nm (LV := fun v5 => [.ref l0, .int l1, .int l2, .long v1, .null, .null, .null]) (ST := fun v5 => [.long v5]) (fun v5 => ?_)
  refine Sm.lstore (lv' := [.ref l0, .int l1, .int l2, .long v1, .null, .long v5, .null]) dX10_reached_16 (Nat.le_of_ble_eq_true rfl) rfl rfl ?_
  refine Sm.aload_n dX10_reached_18 rfl rfl rfl ?_
  refine Sm.ck (fun o6 => ?_)
  refine gf_X10_59 o6 dX10_reached_19 rfl rfl (fun v7 => ?_)
  refine Sm.iload_n dX10_reached_22 rfl rfl rfl ?_
  refine Sm.iconst dX10_reached_23 ic_0 rfl ?_
  refine Sm.ca (fun q8 => ?_)
  refine Sm.iast q8 dX10_reached_24 rfl ?_
  exact Sm.wk (Sm.loop (σ := Int64 × Int64 × Hp) (LV := fun s => [.ref l0, .int l1, .int l2, .long s.1, .null, .long s.2.1, .null]) (HH := fun s => s.2.2) (fun k hk s => t_X10_reached_25 l0 l1 l2 s.1 s.2.1 s.2.2 k hk) 5000 (v1, v5, (sI h4 v7 l1.toNatClampNeg (0 : Int32)))) ⟨Or.inr rfl, Or.inr rfl, Or.inr rfl, Or.inr rfl, Or.inl rfl, Or.inr rfl, Or.inl rfl, trivial⟩
set_option maxRecDepth 20000 in
theorem kc_X10_225 {ρ : Type} {rv : ρ → Option Value} {G : Gx} {pc q : Nat} {lv st : List Value} {h : Hp} {a : Nat} {x1 : Int32} {x2 : Int32} {e : Int64 → Hp → Option (ρ × Hp)} (hk : isO h a 10) (d : decode G.2.1 pc = .ok (.invokevirtual 225, 3)) (ho : G.1.cls = RX10) (hdep : (g_X10_reached).2.2.2.2 < G.2.2.2.2) (hcat : catS st ≤ 8) (hq : pc + 3 = q) (k : ∀ r h1, Sm rv G q lv (.long r :: st) h1 (e r h1)) : Sm rv G pc lv (.int x2 :: .int x1 :: .ref a :: st) h (bd (f_X10_reached a x1 x2 h) e) :=
  Sm.callV (rv' := rvJ) (args := [.int x1, .int x2]) (n := 2) (t_X10_reached a x1 x2 h) hk (by decide) (r := (RX10, TX10, 43)) rfl rfl ho mw_1192 mw_1194 mp_79 mw_11 mw_1195 ⟨⟨by decide, rfl, hdep, Nat.le_of_ble_eq_true rfl⟩, Nat.le_of_ble_eq_true rfl, rfl, ⟨by decide, by decide⟩, hcat⟩ (by decide +kernel) (by intro v hv; simp only [List.mem_cons, List.not_mem_nil, or_false] at hv; rcases hv with rfl | rfl <;> intro x hx <;> cases hx) d hq k rfl
abbrev g_X10_operates : Gx := (yX10_operates, cX10_operates, 7, (Option.none : Option FieldType), 2)
def f_X10_operates_220 (k220 : (Int32 × Hp) → Option (Unit × Hp)) (l0 : Nat) (l3 : Int32) (l6 : Int32) (h : Hp) : Option (Unit × Hp) :=
  (if (64 : Int32) ≤ l6 then
(some ((), h))
else
(ck h l0 10
((gP h l0 24).bind fun v10 =>
((gP h l0 27).bind fun v11 =>
(ca h v11 22 l6
(ca h v10 22 (l3 + l6)
(nm (l6 + (1 : Int32)) fun v14 =>
(k220 (v14, (sL h v10 (l3 + l6).toNatClampNeg (gL h v11 l6.toNatClampNeg)))))))))))
set_option maxRecDepth 20000 in
theorem t_X10_operates_220 (l0 : Nat) (l3 : Int32) (l6 : Int32) (h : Hp) (k220 : (Int32 × Hp) → Option (Unit × Hp)) (hk220 : ∀ s : Int32 × Hp, Sm rvV g_X10_operates 220 [.ref l0, .null, .null, .int l3, .null, .null, .int s.1] [] s.2 (k220 s)) : Sm rvV g_X10_operates 220 [.ref l0, .null, .null, .int l3, .null, .null, .int l6] [] h (f_X10_operates_220 k220 l0 l3 l6 h) := by
  unfold f_X10_operates_220
  refine Sm.iload dX10_operates_220 rfl rfl ?_
  refine Sm.bipush dX10_operates_222 bp_64 rfl ?_
  refine Sm.icmp_ge (t := 249) dX10_operates_224 (by decide) rfl (fun b8 => ?_) (fun b8 => ?_)
  · exact Sm.ret (r := ()) dX10_operates_249 trivial rfl
  · refine Sm.aload_n dX10_operates_227 rfl rfl rfl ?_
    refine Sm.ck (fun o9 => ?_)
    refine gf_X10_55 o9 dX10_operates_228 rfl rfl (fun v10 => ?_)
    refine Sm.iload_n dX10_operates_231 rfl rfl rfl ?_
    refine Sm.iload dX10_operates_232 rfl rfl ?_
    refine Sm.iadd dX10_operates_234 rfl ?_
    refine Sm.aload_n dX10_operates_235 rfl rfl rfl ?_
    refine gf_X10_62 o9 dX10_operates_236 rfl rfl (fun v11 => ?_)
    refine Sm.iload dX10_operates_239 rfl rfl ?_
    refine Sm.ca (fun q12 => ?_)
    refine Sm.lald q12 dX10_operates_241 rfl ?_
    refine Sm.ca (fun q13 => ?_)
    refine Sm.last q13 dX10_operates_242 rfl ?_
    refine Sm.iinc (lv' := [.ref l0, .null, .null, .int l3, .null, .null, .int (l6 + (1 : Int32))]) dX10_operates_243 rfl ic_1 rfl rfl ?_
    refine Sm.nm (LV := fun v14 => [.ref l0, .null, .null, .int l3, .null, .null, .int v14]) (ST := fun v14 => []) (fun v14 => ?_)
    refine Sm.goto (t := 220) dX10_operates_246 (by decide) ?_
    exact Sm.wk (hk220 (v14, (sL h v10 (l3 + l6).toNatClampNeg (gL h v11 l6.toNatClampNeg)))) ⟨Or.inr rfl, Or.inl rfl, Or.inl rfl, Or.inr rfl, Or.inl rfl, Or.inl rfl, Or.inr rfl, trivial⟩
def f_X10_operates_60 (k60 : (Int32 × Hp) → Option (Unit × Hp)) (l0 : Nat) (l1 : Int32) (l3 : Int32) (l4 : Int32) (l5 : Int32) (l6 : Int32) (h : Hp) : Option (Unit × Hp) :=
  (if (64 : Int32) ≤ l6 then
(loopN (fun k s => f_X10_operates_220 k l0 l3 s.1 s.2) 5000 ((0 : Int32), h))
else
(ck h l0 10
((gP h l0 27).bind fun v16 =>
(if l1 = (50 : Int32) then
((gP h l0 24).bind fun v18 =>
(ca h v18 22 (l3 + l6)
((gP h l0 24).bind fun v20 =>
(ca h v20 22 (l4 + l6)
(ca h v16 22 l6
(nm (l6 + (1 : Int32)) fun v23 =>
(k60 (v23, (sL h v16 l6.toNatClampNeg ((gL h v18 (l3 + l6).toNatClampNeg) ||| (gL h v20 (l4 + l6).toNatClampNeg)))))))))))
else
(if l1 = (51 : Int32) then
((gP h l0 24).bind fun v25 =>
(ca h v25 22 (l3 + l6)
(bd (f_X10_turned l0 (gL h v25 (l3 + l6).toNatClampNeg) l4 h) fun v27 h28 =>
(ca h28 v16 22 l6
(nm (l6 + (1 : Int32)) fun v30 =>
(k60 (v30, (sL h28 v16 l6.toNatClampNeg v27))))))))
else
(if l1 = (52 : Int32) then
(bd (f_X10_reached l0 l6 l3 h) fun v32 h33 =>
(ca h33 v16 22 l6
(nm (l6 + (1 : Int32)) fun v35 =>
(k60 (v35, (sL h33 v16 l6.toNatClampNeg v32))))))
else
(if l1 = (53 : Int32) then
((gP h l0 24).bind fun v37 =>
(ca h v37 22 (l3 + l6)
(if (lg_cmp (gL h v37 (l3 + l6).toNatClampNeg) (0 : Int64)) = 0 then
(ca h v16 22 l6
(nm (l6 + (1 : Int32)) fun v41 =>
(k60 (v41, (sL h v16 l6.toNatClampNeg ((1 : Int64) <<< (l6.toInt64 &&& 63)))))))
else
(ca h v16 22 l6
(nm (l6 + (1 : Int32)) fun v43 =>
(k60 (v43, (sL h v16 l6.toNatClampNeg (0 : Int64)))))))))
else
((gP h l0 24).bind fun v44 =>
(ca h v44 22 (l3 + l6)
(if (lg_cmp (gL h v44 (l3 + l6).toNatClampNeg) (0 : Int64)) = 0 then
((gP h l0 24).bind fun v47 =>
(ca h v47 22 (l5 + l6)
(ca h v16 22 l6
(nm (l6 + (1 : Int32)) fun v50 =>
(k60 (v50, (sL h v16 l6.toNatClampNeg (gL h v47 (l5 + l6).toNatClampNeg))))))))
else
((gP h l0 24).bind fun v51 =>
(ca h v51 22 (l4 + l6)
(ca h v16 22 l6
(nm (l6 + (1 : Int32)) fun v54 =>
(k60 (v54, (sL h v16 l6.toNatClampNeg (gL h v51 (l4 + l6).toNatClampNeg))))))))))))))))))
set_option maxRecDepth 20000 in
theorem t_X10_operates_60 (l0 : Nat) (l1 : Int32) (l3 : Int32) (l4 : Int32) (l5 : Int32) (l6 : Int32) (h : Hp) (k60 : (Int32 × Hp) → Option (Unit × Hp)) (hk60 : ∀ s : Int32 × Hp, Sm rvV g_X10_operates 60 [.ref l0, .int l1, .null, .int l3, .int l4, .int l5, .int s.1] [] s.2 (k60 s)) : Sm rvV g_X10_operates 60 [.ref l0, .int l1, .null, .int l3, .int l4, .int l5, .int l6] [] h (f_X10_operates_60 k60 l0 l1 l3 l4 l5 l6 h) := by
  unfold f_X10_operates_60
  refine Sm.iload dX10_operates_60 rfl rfl ?_
  refine Sm.bipush dX10_operates_62 bp_64 rfl ?_
  refine Sm.icmp_ge (t := 217) dX10_operates_64 (by decide) rfl (fun b7 => ?_) (fun b7 => ?_)
  · refine Sm.iconst dX10_operates_217 ic_0 rfl ?_
    refine Sm.istore (lv' := [.ref l0, .int l1, .null, .int l3, .int l4, .int l5, .int (0 : Int32)]) dX10_operates_218 (Nat.le_of_ble_eq_true rfl) rfl rfl ?_
    exact Sm.wk (Sm.loop (σ := Int32 × Hp) (LV := fun s => [.ref l0, .null, .null, .int l3, .null, .null, .int s.1]) (HH := fun s => s.2) (fun k hk s => t_X10_operates_220 l0 l3 s.1 s.2 k hk) 5000 ((0 : Int32), h)) ⟨Or.inr rfl, Or.inl rfl, Or.inl rfl, Or.inr rfl, Or.inl rfl, Or.inl rfl, Or.inr rfl, trivial⟩
  · refine Sm.aload_n dX10_operates_67 rfl rfl rfl ?_
    refine Sm.ck (fun o15 => ?_)
    refine gf_X10_62 o15 dX10_operates_68 rfl rfl (fun v16 => ?_)
    refine Sm.iload dX10_operates_71 rfl rfl ?_
    refine Sm.iload_n dX10_operates_73 rfl rfl rfl ?_
    refine Sm.bipush dX10_operates_74 bp_50 rfl ?_
    refine Sm.icmp_ne (t := 102) dX10_operates_76 (by decide) rfl (fun b17 => ?_) (fun b17 => ?_)
    · refine Sm.aload_n dX10_operates_79 rfl rfl rfl ?_
      refine gf_X10_55 o15 dX10_operates_80 rfl rfl (fun v18 => ?_)
      refine Sm.iload_n dX10_operates_83 rfl rfl rfl ?_
      refine Sm.iload dX10_operates_84 rfl rfl ?_
      refine Sm.iadd dX10_operates_86 rfl ?_
      refine Sm.ca (fun q19 => ?_)
      refine Sm.lald q19 dX10_operates_87 rfl ?_
      refine Sm.aload_n dX10_operates_88 rfl rfl rfl ?_
      refine gf_X10_55 o15 dX10_operates_89 rfl rfl (fun v20 => ?_)
      refine Sm.iload dX10_operates_92 rfl rfl ?_
      refine Sm.iload dX10_operates_94 rfl rfl ?_
      refine Sm.iadd dX10_operates_96 rfl ?_
      refine Sm.ca (fun q21 => ?_)
      refine Sm.lald q21 dX10_operates_97 rfl ?_
      refine Sm.lor dX10_operates_98 rfl ?_
      refine Sm.goto (t := 210) dX10_operates_99 (by decide) ?_
      refine Sm.ca (fun q22 => ?_)
      refine Sm.last q22 dX10_operates_210 rfl ?_
      refine Sm.iinc (lv' := [.ref l0, .int l1, .null, .int l3, .int l4, .int l5, .int (l6 + (1 : Int32))]) dX10_operates_211 rfl ic_1 rfl rfl ?_
      refine Sm.nm (LV := fun v23 => [.ref l0, .int l1, .null, .int l3, .int l4, .int l5, .int v23]) (ST := fun v23 => []) (fun v23 => ?_)
      refine Sm.goto (t := 60) dX10_operates_214 (by decide) ?_
      exact Sm.wk (hk60 (v23, (sL h v16 l6.toNatClampNeg ((gL h v18 (l3 + l6).toNatClampNeg) ||| (gL h v20 (l4 + l6).toNatClampNeg))))) ⟨Or.inr rfl, Or.inr rfl, Or.inl rfl, Or.inr rfl, Or.inr rfl, Or.inr rfl, Or.inr rfl, trivial⟩
    · refine Sm.iload_n dX10_operates_102 rfl rfl rfl ?_
      refine Sm.bipush dX10_operates_103 bp_51 rfl ?_
      refine Sm.icmp_ne (t := 126) dX10_operates_105 (by decide) rfl (fun b24 => ?_) (fun b24 => ?_)
      · refine Sm.aload_n dX10_operates_108 rfl rfl rfl ?_
        refine Sm.aload_n dX10_operates_109 rfl rfl rfl ?_
        refine gf_X10_55 o15 dX10_operates_110 rfl rfl (fun v25 => ?_)
        refine Sm.iload_n dX10_operates_113 rfl rfl rfl ?_
        refine Sm.iload dX10_operates_114 rfl rfl ?_
        refine Sm.iadd dX10_operates_116 rfl ?_
        refine Sm.ca (fun q26 => ?_)
        refine Sm.lald q26 dX10_operates_117 rfl ?_
        refine Sm.iload dX10_operates_118 rfl rfl ?_
        refine kc_X10_219 o15 dX10_operates_120 rfl (Nat.le_of_ble_eq_true rfl) (Nat.le_of_ble_eq_true rfl) rfl (fun v27 h28 => ?_)
        refine Sm.goto (t := 210) dX10_operates_123 (by decide) ?_
        refine Sm.ca (fun q29 => ?_)
        refine Sm.last q29 dX10_operates_210 rfl ?_
        refine Sm.iinc (lv' := [.ref l0, .int l1, .null, .int l3, .int l4, .int l5, .int (l6 + (1 : Int32))]) dX10_operates_211 rfl ic_1 rfl rfl ?_
        refine Sm.nm (LV := fun v30 => [.ref l0, .int l1, .null, .int l3, .int l4, .int l5, .int v30]) (ST := fun v30 => []) (fun v30 => ?_)
        refine Sm.goto (t := 60) dX10_operates_214 (by decide) ?_
        exact Sm.wk (hk60 (v30, (sL h28 v16 l6.toNatClampNeg v27))) ⟨Or.inr rfl, Or.inr rfl, Or.inl rfl, Or.inr rfl, Or.inr rfl, Or.inr rfl, Or.inr rfl, trivial⟩
      · refine Sm.iload_n dX10_operates_126 rfl rfl rfl ?_
        refine Sm.bipush dX10_operates_127 bp_52 rfl ?_
        refine Sm.icmp_ne (t := 142) dX10_operates_129 (by decide) rfl (fun b31 => ?_) (fun b31 => ?_)
        · refine Sm.aload_n dX10_operates_132 rfl rfl rfl ?_
          refine Sm.iload dX10_operates_133 rfl rfl ?_
          refine Sm.iload_n dX10_operates_135 rfl rfl rfl ?_
          refine kc_X10_225 o15 dX10_operates_136 rfl (Nat.le_of_ble_eq_true rfl) (Nat.le_of_ble_eq_true rfl) rfl (fun v32 h33 => ?_)
          refine Sm.goto (t := 210) dX10_operates_139 (by decide) ?_
          refine Sm.ca (fun q34 => ?_)
          refine Sm.last q34 dX10_operates_210 rfl ?_
          refine Sm.iinc (lv' := [.ref l0, .int l1, .null, .int l3, .int l4, .int l5, .int (l6 + (1 : Int32))]) dX10_operates_211 rfl ic_1 rfl rfl ?_
          refine Sm.nm (LV := fun v35 => [.ref l0, .int l1, .null, .int l3, .int l4, .int l5, .int v35]) (ST := fun v35 => []) (fun v35 => ?_)
          refine Sm.goto (t := 60) dX10_operates_214 (by decide) ?_
          exact Sm.wk (hk60 (v35, (sL h33 v16 l6.toNatClampNeg v32))) ⟨Or.inr rfl, Or.inr rfl, Or.inl rfl, Or.inr rfl, Or.inr rfl, Or.inr rfl, Or.inr rfl, trivial⟩
        · refine Sm.iload_n dX10_operates_142 rfl rfl rfl ?_
          refine Sm.bipush dX10_operates_143 bp_53 rfl ?_
          refine Sm.icmp_ne (t := 173) dX10_operates_145 (by decide) rfl (fun b36 => ?_) (fun b36 => ?_)
          · refine Sm.aload_n dX10_operates_148 rfl rfl rfl ?_
            refine gf_X10_55 o15 dX10_operates_149 rfl rfl (fun v37 => ?_)
            refine Sm.iload_n dX10_operates_152 rfl rfl rfl ?_
            refine Sm.iload dX10_operates_153 rfl rfl ?_
            refine Sm.iadd dX10_operates_155 rfl ?_
            refine Sm.ca (fun q38 => ?_)
            refine Sm.lald q38 dX10_operates_156 rfl ?_
            refine Sm.lconst (v := (0 : Int64)) dX10_operates_157 (by decide) rfl ?_
            refine Sm.lcmp dX10_operates_158 rfl ?_
            refine Sm.if_ne (t := 169) dX10_operates_159 (by decide) rfl (fun b39 => ?_) (fun b39 => ?_)
            · refine Sm.lconst (v := (1 : Int64)) dX10_operates_162 (by decide) rfl ?_
              refine Sm.iload dX10_operates_163 rfl rfl ?_
              refine Sm.lshl dX10_operates_165 rfl ?_
              refine Sm.goto (t := 210) dX10_operates_166 (by decide) ?_
              refine Sm.ca (fun q40 => ?_)
              refine Sm.last q40 dX10_operates_210 rfl ?_
              refine Sm.iinc (lv' := [.ref l0, .int l1, .null, .int l3, .int l4, .int l5, .int (l6 + (1 : Int32))]) dX10_operates_211 rfl ic_1 rfl rfl ?_
              refine Sm.nm (LV := fun v41 => [.ref l0, .int l1, .null, .int l3, .int l4, .int l5, .int v41]) (ST := fun v41 => []) (fun v41 => ?_)
              refine Sm.goto (t := 60) dX10_operates_214 (by decide) ?_
              exact Sm.wk (hk60 (v41, (sL h v16 l6.toNatClampNeg ((1 : Int64) <<< (l6.toInt64 &&& 63))))) ⟨Or.inr rfl, Or.inr rfl, Or.inl rfl, Or.inr rfl, Or.inr rfl, Or.inr rfl, Or.inr rfl, trivial⟩
            · refine Sm.lconst (v := (0 : Int64)) dX10_operates_169 (by decide) rfl ?_
              refine Sm.goto (t := 210) dX10_operates_170 (by decide) ?_
              refine Sm.ca (fun q42 => ?_)
              refine Sm.last q42 dX10_operates_210 rfl ?_
              refine Sm.iinc (lv' := [.ref l0, .int l1, .null, .int l3, .int l4, .int l5, .int (l6 + (1 : Int32))]) dX10_operates_211 rfl ic_1 rfl rfl ?_
              refine Sm.nm (LV := fun v43 => [.ref l0, .int l1, .null, .int l3, .int l4, .int l5, .int v43]) (ST := fun v43 => []) (fun v43 => ?_)
              refine Sm.goto (t := 60) dX10_operates_214 (by decide) ?_
              exact Sm.wk (hk60 (v43, (sL h v16 l6.toNatClampNeg (0 : Int64)))) ⟨Or.inr rfl, Or.inr rfl, Or.inl rfl, Or.inr rfl, Or.inr rfl, Or.inr rfl, Or.inr rfl, trivial⟩
          · refine Sm.aload_n dX10_operates_173 rfl rfl rfl ?_
            refine gf_X10_55 o15 dX10_operates_174 rfl rfl (fun v44 => ?_)
            refine Sm.iload_n dX10_operates_177 rfl rfl rfl ?_
            refine Sm.iload dX10_operates_178 rfl rfl ?_
            refine Sm.iadd dX10_operates_180 rfl ?_
            refine Sm.ca (fun q45 => ?_)
            refine Sm.lald q45 dX10_operates_181 rfl ?_
            refine Sm.lconst (v := (0 : Int64)) dX10_operates_182 (by decide) rfl ?_
            refine Sm.lcmp dX10_operates_183 rfl ?_
            refine Sm.if_eq (t := 200) dX10_operates_184 (by decide) rfl (fun b46 => ?_) (fun b46 => ?_)
            · refine Sm.aload_n dX10_operates_200 rfl rfl rfl ?_
              refine gf_X10_55 o15 dX10_operates_201 rfl rfl (fun v47 => ?_)
              refine Sm.iload dX10_operates_204 rfl rfl ?_
              refine Sm.iload dX10_operates_206 rfl rfl ?_
              refine Sm.iadd dX10_operates_208 rfl ?_
              refine Sm.ca (fun q48 => ?_)
              refine Sm.lald q48 dX10_operates_209 rfl ?_
              refine Sm.ca (fun q49 => ?_)
              refine Sm.last q49 dX10_operates_210 rfl ?_
              refine Sm.iinc (lv' := [.ref l0, .int l1, .null, .int l3, .int l4, .int l5, .int (l6 + (1 : Int32))]) dX10_operates_211 rfl ic_1 rfl rfl ?_
              refine Sm.nm (LV := fun v50 => [.ref l0, .int l1, .null, .int l3, .int l4, .int l5, .int v50]) (ST := fun v50 => []) (fun v50 => ?_)
              refine Sm.goto (t := 60) dX10_operates_214 (by decide) ?_
              exact Sm.wk (hk60 (v50, (sL h v16 l6.toNatClampNeg (gL h v47 (l5 + l6).toNatClampNeg)))) ⟨Or.inr rfl, Or.inr rfl, Or.inl rfl, Or.inr rfl, Or.inr rfl, Or.inr rfl, Or.inr rfl, trivial⟩
            · refine Sm.aload_n dX10_operates_187 rfl rfl rfl ?_
              refine gf_X10_55 o15 dX10_operates_188 rfl rfl (fun v51 => ?_)
              refine Sm.iload dX10_operates_191 rfl rfl ?_
              refine Sm.iload dX10_operates_193 rfl rfl ?_
              refine Sm.iadd dX10_operates_195 rfl ?_
              refine Sm.ca (fun q52 => ?_)
              refine Sm.lald q52 dX10_operates_196 rfl ?_
              refine Sm.goto (t := 210) dX10_operates_197 (by decide) ?_
              refine Sm.ca (fun q53 => ?_)
              refine Sm.last q53 dX10_operates_210 rfl ?_
              refine Sm.iinc (lv' := [.ref l0, .int l1, .null, .int l3, .int l4, .int l5, .int (l6 + (1 : Int32))]) dX10_operates_211 rfl ic_1 rfl rfl ?_
              refine Sm.nm (LV := fun v54 => [.ref l0, .int l1, .null, .int l3, .int l4, .int l5, .int v54]) (ST := fun v54 => []) (fun v54 => ?_)
              refine Sm.goto (t := 60) dX10_operates_214 (by decide) ?_
              exact Sm.wk (hk60 (v54, (sL h v16 l6.toNatClampNeg (gL h v51 (l4 + l6).toNatClampNeg)))) ⟨Or.inr rfl, Or.inr rfl, Or.inl rfl, Or.inr rfl, Or.inr rfl, Or.inr rfl, Or.inr rfl, trivial⟩
def f_X10_operates_21 (l0 : Nat) (l1 : Int32) (s0 : Int32) (h : Hp) : Option (Unit × Hp) :=
  (ck h l0 10
(nm ((64 : Int32) * ((gI (sI h l0 25 ((gI h l0 25) - (s0 - (1 : Int32)))) l0 25) - (1 : Int32))) fun v4 =>
(nm (v4 + (64 : Int32)) fun v5 =>
(nm (v5 + (64 : Int32)) fun v6 =>
(loopN (fun k s => f_X10_operates_60 k l0 l1 v4 v5 v6 s.1 s.2) 5000 ((0 : Int32), (sI h l0 25 ((gI h l0 25) - (s0 - (1 : Int32))))))))))
set_option maxRecDepth 20000 in
theorem t_X10_operates_21 (l0 : Nat) (l1 : Int32) (s0 : Int32) (h : Hp) : Sm rvV g_X10_operates 21 [.ref l0, .int l1, .null, .null, .null, .null, .null] [.int s0] h (f_X10_operates_21 l0 l1 s0 h) := by
  unfold f_X10_operates_21
  refine Sm.istore_n (lv' := [.ref l0, .int l1, .int s0, .null, .null, .null, .null]) dX10_operates_21 rfl (Nat.le_of_ble_eq_true rfl) rfl rfl ?_
  refine Sm.aload_n dX10_operates_22 rfl rfl rfl ?_
  refine Sm.dup dX10_operates_23 rfl rfl ?_
  refine Sm.ck (fun o3 => ?_)
  refine gf_X10_213 o3 dX10_operates_24 rfl rfl ?_
  refine Sm.iload_n dX10_operates_27 rfl rfl rfl ?_
  refine Sm.iconst dX10_operates_28 ic_1 rfl ?_
  refine Sm.isub dX10_operates_29 rfl ?_
  refine Sm.isub dX10_operates_30 rfl ?_
  refine pf_X10_213 o3 dX10_operates_31 rfl rfl ?_
  refine Sm.bipush dX10_operates_34 bp_64 rfl ?_
  refine Sm.aload_n dX10_operates_36 rfl rfl rfl ?_
  refine gf_X10_213 o3 dX10_operates_37 rfl rfl ?_
  refine Sm.iconst dX10_operates_40 ic_1 rfl ?_
  refine Sm.isub dX10_operates_41 rfl ?_
  refine Sm.imul dX10_operates_42 rfl ?_
  refine Sm.nm (LV := fun v4 => [.ref l0, .int l1, .int s0, .null, .null, .null, .null]) (ST := fun v4 => [.int v4]) (fun v4 => ?_)
  refine Sm.istore_n (lv' := [.ref l0, .int l1, .int s0, .int v4, .null, .null, .null]) dX10_operates_43 rfl (Nat.le_of_ble_eq_true rfl) rfl rfl ?_
  refine Sm.iload_n dX10_operates_44 rfl rfl rfl ?_
  refine Sm.bipush dX10_operates_45 bp_64 rfl ?_
  refine Sm.iadd dX10_operates_47 rfl ?_
  refine Sm.nm (LV := fun v5 => [.ref l0, .int l1, .int s0, .int v4, .null, .null, .null]) (ST := fun v5 => [.int v5]) (fun v5 => ?_)
  refine Sm.istore (lv' := [.ref l0, .int l1, .int s0, .int v4, .int v5, .null, .null]) dX10_operates_48 (Nat.le_of_ble_eq_true rfl) rfl rfl ?_
  refine Sm.iload dX10_operates_50 rfl rfl ?_
  refine Sm.bipush dX10_operates_52 bp_64 rfl ?_
  refine Sm.iadd dX10_operates_54 rfl ?_
  refine Sm.nm (LV := fun v6 => [.ref l0, .int l1, .int s0, .int v4, .int v5, .null, .null]) (ST := fun v6 => [.int v6]) (fun v6 => ?_)
  refine Sm.istore (lv' := [.ref l0, .int l1, .int s0, .int v4, .int v5, .int v6, .null]) dX10_operates_55 (Nat.le_of_ble_eq_true rfl) rfl rfl ?_
  refine Sm.iconst dX10_operates_57 ic_0 rfl ?_
  refine Sm.istore (lv' := [.ref l0, .int l1, .int s0, .int v4, .int v5, .int v6, .int (0 : Int32)]) dX10_operates_58 (Nat.le_of_ble_eq_true rfl) rfl rfl ?_
  exact Sm.wk (Sm.loop (σ := Int32 × Hp) (LV := fun s => [.ref l0, .int l1, .null, .int v4, .int v5, .int v6, .int s.1]) (HH := fun s => s.2) (fun k hk s => t_X10_operates_60 l0 l1 v4 v5 v6 s.1 s.2 k hk) 5000 ((0 : Int32), (sI h l0 25 ((gI h l0 25) - (s0 - (1 : Int32)))))) ⟨Or.inr rfl, Or.inr rfl, Or.inl rfl, Or.inr rfl, Or.inr rfl, Or.inr rfl, Or.inr rfl, trivial⟩
def f_X10_operates (l0 : Nat) (l1 : Int32) (h : Hp) : Option (Unit × Hp) :=
  (if (52 : Int32) ≤ l1 then
(if l1 = (54 : Int32) then
(f_X10_operates_21 l0 l1 (3 : Int32) h)
else
(f_X10_operates_21 l0 l1 (1 : Int32) h))
else
(f_X10_operates_21 l0 l1 (2 : Int32) h))
set_option maxRecDepth 20000 in
theorem t_X10_operates (l0 : Nat) (l1 : Int32) (h : Hp) : Sm rvV g_X10_operates 0 (ent 7 [.ref l0, .int l1]) [] h (f_X10_operates l0 l1 h) := by
  show Sm rvV g_X10_operates 0 [.ref l0, .int l1, .null, .null, .null, .null, .null] [] h _
  unfold f_X10_operates
  refine Sm.iload_n dX10_operates_0 rfl rfl rfl ?_
  refine Sm.bipush dX10_operates_1 bp_52 rfl ?_
  refine Sm.icmp_ge (t := 10) dX10_operates_3 (by decide) rfl (fun b1 => ?_) (fun b1 => ?_)
  · refine Sm.iload_n dX10_operates_10 rfl rfl rfl ?_
    refine Sm.bipush dX10_operates_11 bp_54 rfl ?_
    refine Sm.icmp_ne (t := 20) dX10_operates_13 (by decide) rfl (fun b2 => ?_) (fun b2 => ?_)
    · refine Sm.iconst dX10_operates_16 ic_3 rfl ?_
      refine Sm.goto (t := 21) dX10_operates_17 (by decide) ?_
      exact Sm.wk (t_X10_operates_21 l0 l1 (3 : Int32) h) ⟨Or.inr rfl, Or.inr rfl, Or.inl rfl, Or.inl rfl, Or.inl rfl, Or.inl rfl, Or.inl rfl, trivial⟩
    · refine Sm.iconst dX10_operates_20 ic_1 rfl ?_
      exact Sm.wk (t_X10_operates_21 l0 l1 (1 : Int32) h) ⟨Or.inr rfl, Or.inr rfl, Or.inl rfl, Or.inl rfl, Or.inl rfl, Or.inl rfl, Or.inl rfl, trivial⟩
  · refine Sm.iconst dX10_operates_6 ic_2 rfl ?_
    refine Sm.goto (t := 21) dX10_operates_7 (by decide) ?_
    exact Sm.wk (t_X10_operates_21 l0 l1 (2 : Int32) h) ⟨Or.inr rfl, Or.inr rfl, Or.inl rfl, Or.inl rfl, Or.inl rfl, Or.inl rfl, Or.inl rfl, trivial⟩
set_option maxRecDepth 20000 in
theorem kc_X10_232 {ρ : Type} {rv : ρ → Option Value} {G : Gx} {pc q : Nat} {lv st : List Value} {h : Hp} {a : Nat} {x1 : Int32} {e : Unit → Hp → Option (ρ × Hp)} (hk : isO h a 10) (d : decode G.2.1 pc = .ok (.invokevirtual 232, 3)) (ho : G.1.cls = RX10) (hdep : (g_X10_operates).2.2.2.2 < G.2.2.2.2) (hcat : catS st ≤ 8) (hq : pc + 3 = q) (k : ∀ r h1, Sm rv G q lv (st) h1 (e r h1)) : Sm rv G pc lv (.int x1 :: .ref a :: st) h (bd (f_X10_operates a x1 h) e) :=
  Sm.callV (rv' := rvV) (args := [.int x1]) (n := 1) (t_X10_operates a x1 h) hk (by decide) (r := (RX10, TX10, 43)) rfl rfl ho mw_1184 mw_1186 mp_77 mw_11 mw_1187 ⟨⟨by decide, rfl, hdep, Nat.le_of_ble_eq_true rfl⟩, Nat.le_of_ble_eq_true rfl, rfl, ⟨by decide, by decide⟩, hcat⟩ (by decide +kernel) (by intro v hv; simp only [List.mem_cons, List.not_mem_nil, or_false] at hv; rcases hv with rfl <;> intro x hx <;> cases hx) d hq k rfl
abbrev g_X10_evaluates : Gx := (yX10_evaluates, cX10_evaluates, 4, (Option.none : Option FieldType), 3)
def f_X10_evaluates_7 (k7 : (Int32 × Hp) → Option (Unit × Hp)) (l0 : Nat) (l1 : Int32) (l2 : Int32) (h : Hp) : Option (Unit × Hp) :=
  (ck h l0 10
((gP h l0 0).bind fun v3 =>
(ca h v3 20 l1
(if (gI h v3 l1.toNatClampNeg) ≤ l2 then
(some ((), h))
else
(bd (f_X10_signOf l0 l1 l2 h) fun v6 h7 =>
(if (50 : Int32) ≤ v6 then
(ck h7 l0 10
(bd (f_X10_operates l0 v6 h7) fun _ h10 =>
(nm (l2 + (1 : Int32)) fun v11 =>
(k7 (v11, h10)))))
else
(ck h7 l0 10
(bd (f_X10_simple l0 v6 h7) fun _ h13 =>
(nm (l2 + (1 : Int32)) fun v14 =>
(k7 (v14, h13)))))))))))
set_option maxRecDepth 20000 in
theorem t_X10_evaluates_7 (l0 : Nat) (l1 : Int32) (l2 : Int32) (h : Hp) (k7 : (Int32 × Hp) → Option (Unit × Hp)) (hk7 : ∀ s : Int32 × Hp, Sm rvV g_X10_evaluates 7 [.ref l0, .int l1, .int s.1, .null] [] s.2 (k7 s)) : Sm rvV g_X10_evaluates 7 [.ref l0, .int l1, .int l2, .null] [] h (f_X10_evaluates_7 k7 l0 l1 l2 h) := by
  unfold f_X10_evaluates_7
  refine Sm.iload_n dX10_evaluates_7 rfl rfl rfl ?_
  refine Sm.aload_n dX10_evaluates_8 rfl rfl rfl ?_
  refine Sm.ck (fun o2 => ?_)
  refine gf_X10_7 o2 dX10_evaluates_9 rfl rfl (fun v3 => ?_)
  refine Sm.iload_n dX10_evaluates_12 rfl rfl rfl ?_
  refine Sm.ca (fun q4 => ?_)
  refine Sm.iald q4 dX10_evaluates_13 rfl ?_
  refine Sm.icmp_ge (t := 49) dX10_evaluates_14 (by decide) rfl (fun b5 => ?_) (fun b5 => ?_)
  · exact Sm.ret (r := ()) dX10_evaluates_49 trivial rfl
  · refine Sm.aload_n dX10_evaluates_17 rfl rfl rfl ?_
    refine Sm.iload_n dX10_evaluates_18 rfl rfl rfl ?_
    refine Sm.iload_n dX10_evaluates_19 rfl rfl rfl ?_
    refine kc_X10_116 o2 dX10_evaluates_20 rfl (Nat.le_of_ble_eq_true rfl) (Nat.le_of_ble_eq_true rfl) rfl (fun v6 h7 => ?_)
    refine Sm.istore_n (lv' := [.ref l0, .int l1, .int l2, .int v6]) dX10_evaluates_23 rfl (Nat.le_of_ble_eq_true rfl) rfl rfl ?_
    refine Sm.iload_n dX10_evaluates_24 rfl rfl rfl ?_
    refine Sm.bipush dX10_evaluates_25 bp_50 rfl ?_
    refine Sm.icmp_ge (t := 38) dX10_evaluates_27 (by decide) rfl (fun b8 => ?_) (fun b8 => ?_)
    · refine Sm.aload_n dX10_evaluates_38 rfl rfl rfl ?_
      refine Sm.iload_n dX10_evaluates_39 rfl rfl rfl ?_
      refine Sm.ck (fun o9 => ?_)
      refine kc_X10_232 o9 dX10_evaluates_40 rfl (Nat.le_of_ble_eq_true rfl) (Nat.le_of_ble_eq_true rfl) rfl (fun _ h10 => ?_)
      refine Sm.iinc (lv' := [.ref l0, .int l1, .int (l2 + (1 : Int32)), .int v6]) dX10_evaluates_43 rfl ic_1 rfl rfl ?_
      refine Sm.nm (LV := fun v11 => [.ref l0, .int l1, .int v11, .int v6]) (ST := fun v11 => []) (fun v11 => ?_)
      refine Sm.goto (t := 7) dX10_evaluates_46 (by decide) ?_
      exact Sm.wk (hk7 (v11, h10)) ⟨Or.inr rfl, Or.inr rfl, Or.inr rfl, Or.inl rfl, trivial⟩
    · refine Sm.aload_n dX10_evaluates_30 rfl rfl rfl ?_
      refine Sm.iload_n dX10_evaluates_31 rfl rfl rfl ?_
      refine Sm.ck (fun o12 => ?_)
      refine kc_X10_229 o12 dX10_evaluates_32 rfl (Nat.le_of_ble_eq_true rfl) (Nat.le_of_ble_eq_true rfl) rfl (fun _ h13 => ?_)
      refine Sm.goto (t := 43) dX10_evaluates_35 (by decide) ?_
      refine Sm.iinc (lv' := [.ref l0, .int l1, .int (l2 + (1 : Int32)), .int v6]) dX10_evaluates_43 rfl ic_1 rfl rfl ?_
      refine Sm.nm (LV := fun v14 => [.ref l0, .int l1, .int v14, .int v6]) (ST := fun v14 => []) (fun v14 => ?_)
      refine Sm.goto (t := 7) dX10_evaluates_46 (by decide) ?_
      exact Sm.wk (hk7 (v14, h13)) ⟨Or.inr rfl, Or.inr rfl, Or.inr rfl, Or.inl rfl, trivial⟩
def f_X10_evaluates (l0 : Nat) (l1 : Int32) (h : Hp) : Option (Unit × Hp) :=
  (ck h l0 10
(loopN (fun k s => f_X10_evaluates_7 k l0 l1 s.1 s.2) 5000 ((0 : Int32), (sI h l0 25 (0 : Int32)))))
set_option maxRecDepth 20000 in
theorem t_X10_evaluates (l0 : Nat) (l1 : Int32) (h : Hp) : Sm rvV g_X10_evaluates 0 (ent 4 [.ref l0, .int l1]) [] h (f_X10_evaluates l0 l1 h) := by
  show Sm rvV g_X10_evaluates 0 [.ref l0, .int l1, .null, .null] [] h _
  unfold f_X10_evaluates
  refine Sm.aload_n dX10_evaluates_0 rfl rfl rfl ?_
  refine Sm.iconst dX10_evaluates_1 ic_0 rfl ?_
  refine Sm.ck (fun o1 => ?_)
  refine pf_X10_213 o1 dX10_evaluates_2 rfl rfl ?_
  refine Sm.iconst dX10_evaluates_5 ic_0 rfl ?_
  refine Sm.istore_n (lv' := [.ref l0, .int l1, .int (0 : Int32), .null]) dX10_evaluates_6 rfl (Nat.le_of_ble_eq_true rfl) rfl rfl ?_
  exact Sm.wk (Sm.loop (σ := Int32 × Hp) (LV := fun s => [.ref l0, .int l1, .int s.1, .null]) (HH := fun s => s.2) (fun k hk s => t_X10_evaluates_7 l0 l1 s.1 s.2 k hk) 5000 ((0 : Int32), (sI h l0 25 (0 : Int32)))) ⟨Or.inr rfl, Or.inr rfl, Or.inr rfl, Or.inl rfl, trivial⟩
set_option maxRecDepth 20000 in
theorem kc_X10_235 {ρ : Type} {rv : ρ → Option Value} {G : Gx} {pc q : Nat} {lv st : List Value} {h : Hp} {a : Nat} {x1 : Int32} {e : Unit → Hp → Option (ρ × Hp)} (hk : isO h a 10) (d : decode G.2.1 pc = .ok (.invokevirtual 235, 3)) (ho : G.1.cls = RX10) (hdep : (g_X10_evaluates).2.2.2.2 < G.2.2.2.2) (hcat : catS st ≤ 8) (hq : pc + 3 = q) (k : ∀ r h1, Sm rv G q lv (st) h1 (e r h1)) : Sm rv G pc lv (.int x1 :: .ref a :: st) h (bd (f_X10_evaluates a x1 h) e) :=
  Sm.callV (rv' := rvV) (args := [.int x1]) (n := 1) (t_X10_evaluates a x1 h) hk (by decide) (r := (RX10, TX10, 43)) rfl rfl ho mw_1173 mw_1175 mp_75 mw_11 mw_1176 ⟨⟨by decide, rfl, hdep, Nat.le_of_ble_eq_true rfl⟩, Nat.le_of_ble_eq_true rfl, rfl, ⟨by decide, by decide⟩, hcat⟩ (by decide +kernel) (by intro v hv; simp only [List.mem_cons, List.not_mem_nil, or_false] at hv; rcases hv with rfl <;> intro x hx <;> cases hx) d hq k rfl
abbrev g_X10_outputsOf : Gx := (yX10_outputsOf, cX10_outputsOf, 3, (Option.some FieldType.long), 4)
def f_X10_outputsOf (l0 : Nat) (l1 : Int32) (l2 : Int32) (h : Hp) : Option (Int64 × Hp) :=
  (ck h l0 10
(bd (f_X10_evaluates l0 l1 h) fun _ h2 =>
(ck h2 l0 10
((gP h2 l0 24).bind fun v4 =>
(ca h2 v4 22 l2
(some ((gL h2 v4 l2.toNatClampNeg), h2)))))))
set_option maxRecDepth 20000 in
theorem t_X10_outputsOf (l0 : Nat) (l1 : Int32) (l2 : Int32) (h : Hp) : Sm rvJ g_X10_outputsOf 0 (ent 3 [.ref l0, .int l1, .int l2]) [] h (f_X10_outputsOf l0 l1 l2 h) := by
  show Sm rvJ g_X10_outputsOf 0 [.ref l0, .int l1, .int l2] [] h _
  unfold f_X10_outputsOf
  refine Sm.aload_n dX10_outputsOf_0 rfl rfl rfl ?_
  refine Sm.iload_n dX10_outputsOf_1 rfl rfl rfl ?_
  refine Sm.ck (fun o1 => ?_)
  refine kc_X10_235 o1 dX10_outputsOf_2 rfl (Nat.le_of_ble_eq_true rfl) (Nat.le_of_ble_eq_true rfl) rfl (fun _ h2 => ?_)
  refine Sm.aload_n dX10_outputsOf_5 rfl rfl rfl ?_
  refine Sm.ck (fun o3 => ?_)
  refine gf_X10_55 o3 dX10_outputsOf_6 rfl rfl (fun v4 => ?_)
  refine Sm.iload_n dX10_outputsOf_9 rfl rfl rfl ?_
  refine Sm.ca (fun q5 => ?_)
  refine Sm.lald q5 dX10_outputsOf_10 rfl ?_
  exact Sm.ret dX10_outputsOf_11 trivial rfl
set_option maxRecDepth 20000 in
theorem kc_X10_241 {ρ : Type} {rv : ρ → Option Value} {G : Gx} {pc q : Nat} {lv st : List Value} {h : Hp} {a : Nat} {x1 : Int32} {x2 : Int32} {e : Int64 → Hp → Option (ρ × Hp)} (hk : isO h a 10) (d : decode G.2.1 pc = .ok (.invokevirtual 241, 3)) (ho : G.1.cls = RX10) (hdep : (g_X10_outputsOf).2.2.2.2 < G.2.2.2.2) (hcat : catS st ≤ 8) (hq : pc + 3 = q) (k : ∀ r h1, Sm rv G q lv (.long r :: st) h1 (e r h1)) : Sm rv G pc lv (.int x2 :: .int x1 :: .ref a :: st) h (bd (f_X10_outputsOf a x1 x2 h) e) :=
  Sm.callV (rv' := rvJ) (args := [.int x1, .int x2]) (n := 2) (t_X10_outputsOf a x1 x2 h) hk (by decide) (r := (RX10, TX10, 43)) rfl rfl ho mw_1169 mw_1171 mp_74 mw_11 mw_1172 ⟨⟨by decide, rfl, hdep, Nat.le_of_ble_eq_true rfl⟩, Nat.le_of_ble_eq_true rfl, rfl, ⟨by decide, by decide⟩, hcat⟩ (by decide +kernel) (by intro v hv; simp only [List.mem_cons, List.not_mem_nil, or_false] at hv; rcases hv with rfl | rfl <;> intro x hx <;> cases hx) d hq k rfl
abbrev g_X10_isPacket : Gx := (yX10_isPacket, cX10_isPacket, 1, (Option.some FieldType.boolean), 1)
def f_X10_isPacket (l0 : Int32) (h : Hp) : Option (Int32 × Hp) :=
  (bd (f_X10_within l0 (0 : Int32) (63 : Int32) h) fun v1 h2 =>
(bz v1
(some (v1, h2))))
set_option maxRecDepth 20000 in
theorem t_X10_isPacket (l0 : Int32) (h : Hp) : Sm rvI g_X10_isPacket 0 (ent 1 [.int l0]) [] h (f_X10_isPacket l0 h) := by
  show Sm rvI g_X10_isPacket 0 [.int l0] [] h _
  unfold f_X10_isPacket
  refine Sm.iload_n dX10_isPacket_0 rfl rfl rfl ?_
  refine Sm.iconst dX10_isPacket_1 ic_0 rfl ?_
  refine Sm.bipush dX10_isPacket_2 bp_63 rfl ?_
  refine kc_X10_98 dX10_isPacket_4 rfl (Nat.le_of_ble_eq_true rfl) (Nat.le_of_ble_eq_true rfl) rfl (fun v1 h2 => ?_)
  refine Sm.bz (fun z3 => ?_)
  exact Sm.ret dX10_isPacket_7 z3 rfl
set_option maxRecDepth 20000 in
theorem kc_X10_238 {ρ : Type} {rv : ρ → Option Value} {G : Gx} {pc q : Nat} {lv st : List Value} {h : Hp} {x0 : Int32} {e : Int32 → Hp → Option (ρ × Hp)} (d : decode G.2.1 pc = .ok (.invokestatic 238, 3)) (ho : G.1.cls = RX10) (hdep : (g_X10_isPacket).2.2.2.2 < G.2.2.2.2) (hcat : catS st ≤ 8) (hq : pc + 3 = q) (k : ∀ r h1, Sm rv G q lv (.int r :: st) h1 (e r h1)) : Sm rv G pc lv (.int x0 :: st) h (bd (f_X10_isPacket x0 h) e) :=
  Sm.callS (rv' := rvI) (as := [.int x0]) (n := 1) (t_X10_isPacket x0 h) ho mw_1166 mw_1167 mw_11 mw_1168 ⟨⟨by decide, rfl, hdep, Nat.le_of_ble_eq_true rfl⟩, Nat.le_of_ble_eq_true rfl, rfl, ⟨by decide, by decide⟩, hcat⟩ (by decide +kernel) (by intro v hv; simp only [List.mem_cons, List.not_mem_nil, or_false] at hv; rcases hv with rfl <;> intro x hx <;> cases hx) d hq k rfl
abbrev g_X10_outputs : Gx := (yX10_outputs, cX10_outputs, 3, (Option.some FieldType.long), 5)
def f_X10_outputs_23 (l0 : Nat) (h : Hp) : Option (Int64 × Hp) :=
  (ck h l0 10
(bd (f_X10_fails l0 (-2 : Int32) h) fun v5 h6 =>
(some (v5.toInt64, h6))))
set_option maxRecDepth 20000 in
theorem t_X10_outputs_23 (l0 : Nat) (h : Hp) : Sm rvJ g_X10_outputs 23 [.ref l0, .null, .null] [] h (f_X10_outputs_23 l0 h) := by
  unfold f_X10_outputs_23
  refine Sm.aload_n dX10_outputs_23 rfl rfl rfl ?_
  refine Sm.bipush dX10_outputs_24 bp_m2 rfl ?_
  refine Sm.ck (fun o4 => ?_)
  refine kc_X10_106 o4 dX10_outputs_26 rfl (Nat.le_of_ble_eq_true rfl) (Nat.le_of_ble_eq_true rfl) rfl (fun v5 h6 => ?_)
  refine Sm.i2l dX10_outputs_29 rfl ?_
  exact Sm.ret dX10_outputs_30 trivial rfl
def f_X10_outputs (l0 : Nat) (l1 : Int32) (l2 : Int32) (h : Hp) : Option (Int64 × Hp) :=
  (bd (f_X10_isSlot l1 h) fun v1 h2 =>
(if v1 = 0 then
(f_X10_outputs_23 l0 h2)
else
(bd (f_X10_isPacket l2 h2) fun v7 h8 =>
(if v7 = 0 then
(f_X10_outputs_23 l0 h8)
else
(ck h8 l0 10
(bd (f_X10_outputsOf l0 l1 l2 h8) fun v11 h12 =>
(some (v11, h12))))))))
set_option maxRecDepth 20000 in
theorem t_X10_outputs (l0 : Nat) (l1 : Int32) (l2 : Int32) (h : Hp) : Sm rvJ g_X10_outputs 0 (ent 3 [.ref l0, .int l1, .int l2]) [] h (f_X10_outputs l0 l1 l2 h) := by
  show Sm rvJ g_X10_outputs 0 [.ref l0, .int l1, .int l2] [] h _
  unfold f_X10_outputs
  refine Sm.iload_n dX10_outputs_0 rfl rfl rfl ?_
  refine kc_X10_179 dX10_outputs_1 rfl (Nat.le_of_ble_eq_true rfl) (Nat.le_of_ble_eq_true rfl) rfl (fun v1 h2 => ?_)
  refine Sm.if_eq (t := 23) dX10_outputs_4 (by decide) rfl (fun b3 => ?_) (fun b3 => ?_)
  · exact Sm.wk (t_X10_outputs_23 l0 h2) ⟨Or.inr rfl, Or.inl rfl, Or.inl rfl, trivial⟩
  · refine Sm.iload_n dX10_outputs_7 rfl rfl rfl ?_
    refine kc_X10_238 dX10_outputs_8 rfl (Nat.le_of_ble_eq_true rfl) (Nat.le_of_ble_eq_true rfl) rfl (fun v7 h8 => ?_)
    refine Sm.if_eq (t := 23) dX10_outputs_11 (by decide) rfl (fun b9 => ?_) (fun b9 => ?_)
    · exact Sm.wk (t_X10_outputs_23 l0 h8) ⟨Or.inr rfl, Or.inl rfl, Or.inl rfl, trivial⟩
    · refine Sm.aload_n dX10_outputs_14 rfl rfl rfl ?_
      refine Sm.iload_n dX10_outputs_15 rfl rfl rfl ?_
      refine Sm.iload_n dX10_outputs_16 rfl rfl rfl ?_
      refine Sm.ck (fun o10 => ?_)
      refine kc_X10_241 o10 dX10_outputs_17 rfl (Nat.le_of_ble_eq_true rfl) (Nat.le_of_ble_eq_true rfl) rfl (fun v11 h12 => ?_)
      refine Sm.goto (t := 30) dX10_outputs_20 (by decide) ?_
      exact Sm.ret dX10_outputs_30 trivial rfl
set_option maxRecDepth 20000 in
theorem kc_L_54 {ρ : Type} {rv : ρ → Option Value} {G : Gx} {pc q : Nat} {lv st : List Value} {h : Hp} {a : Nat} {x1 : Int32} {x2 : Int32} {e : Int64 → Hp → Option (ρ × Hp)} (hk : isO h a 10) (d : decode G.2.1 pc = .ok (.invokevirtual 54, 3)) (ho : G.1.cls = RL) (hdep : (g_X10_outputs).2.2.2.2 < G.2.2.2.2) (hcat : catS st ≤ 8) (hq : pc + 3 = q) (k : ∀ r h1, Sm rv G q lv (.long r :: st) h1 (e r h1)) : Sm rv G pc lv (.int x2 :: .int x1 :: .ref a :: st) h (bd (f_X10_outputs a x1 x2 h) e) :=
  Sm.callV (rv' := rvJ) (args := [.int x1, .int x2]) (n := 2) (t_X10_outputs a x1 x2 h) hk (by decide) (r := (RX10, TX10, 43)) rfl rfl ho mw_1162 mw_1163 mw_1164 mw_11 mw_1165 ⟨⟨by decide, rfl, hdep, Nat.le_of_ble_eq_true rfl⟩, Nat.le_of_ble_eq_true rfl, rfl, ⟨by decide, by decide⟩, hcat⟩ (by decide +kernel) (by intro v hv; simp only [List.mem_cons, List.not_mem_nil, or_false] at hv; rcases hv with rfl | rfl <;> intro x hx <;> cases hx) d hq k rfl
abbrev g_X10_acceptedOf : Gx := (yX10_acceptedOf, cX10_acceptedOf, 5, (Option.some FieldType.long), 4)
def f_X10_acceptedOf_10 (k10 : (Int64 × Int32) → Option (Int64 × Hp)) (l0 : Nat) (l2 : Int64) (l4 : Int32) (h : Hp) : Option (Int64 × Hp) :=
  (if (64 : Int32) ≤ l4 then
(some (l2, h))
else
(ck h l0 10
((gP h l0 24).bind fun v5 =>
(ca h v5 22 l4
(if (lg_cmp (gL h v5 l4.toNatClampNeg) (0 : Int64)) = 0 then
(nm (l2 ||| (0 : Int64)) fun v8 =>
(nm (l4 + (1 : Int32)) fun v9 =>
(k10 (v8, v9))))
else
(nm (l2 ||| ((1 : Int64) <<< (l4.toInt64 &&& 63))) fun v10 =>
(nm (l4 + (1 : Int32)) fun v11 =>
(k10 (v10, v11)))))))))
set_option maxRecDepth 20000 in
theorem t_X10_acceptedOf_10 (l0 : Nat) (l2 : Int64) (l4 : Int32) (h : Hp) (k10 : (Int64 × Int32) → Option (Int64 × Hp)) (hk10 : ∀ s : Int64 × Int32, Sm rvJ g_X10_acceptedOf 10 [.ref l0, .null, .long s.1, .null, .int s.2] [] h (k10 s)) : Sm rvJ g_X10_acceptedOf 10 [.ref l0, .null, .long l2, .null, .int l4] [] h (f_X10_acceptedOf_10 k10 l0 l2 l4 h) := by
  unfold f_X10_acceptedOf_10
  refine Sm.iload dX10_acceptedOf_10 rfl rfl ?_
  refine Sm.bipush dX10_acceptedOf_12 bp_64 rfl ?_
  refine Sm.icmp_ge (t := 46) dX10_acceptedOf_14 (by decide) rfl (fun b3 => ?_) (fun b3 => ?_)
  · refine Sm.lload_n dX10_acceptedOf_46 rfl rfl rfl ?_
    exact Sm.ret dX10_acceptedOf_47 trivial rfl
  · refine Sm.lload_n dX10_acceptedOf_17 rfl rfl rfl ?_
    refine Sm.aload_n dX10_acceptedOf_18 rfl rfl rfl ?_
    refine Sm.ck (fun o4 => ?_)
    refine gf_X10_55 o4 dX10_acceptedOf_19 rfl rfl (fun v5 => ?_)
    refine Sm.iload dX10_acceptedOf_22 rfl rfl ?_
    refine Sm.ca (fun q6 => ?_)
    refine Sm.lald q6 dX10_acceptedOf_24 rfl ?_
    refine Sm.lconst (v := (0 : Int64)) dX10_acceptedOf_25 (by decide) rfl ?_
    refine Sm.lcmp dX10_acceptedOf_26 rfl ?_
    refine Sm.if_eq (t := 37) dX10_acceptedOf_27 (by decide) rfl (fun b7 => ?_) (fun b7 => ?_)
    · refine Sm.lconst (v := (0 : Int64)) dX10_acceptedOf_37 (by decide) rfl ?_
      refine Sm.lor dX10_acceptedOf_38 rfl ?_
      refine Sm.nm (LV := fun v8 => [.ref l0, .null, .long l2, .null, .int l4]) (ST := fun v8 => [.long v8]) (fun v8 => ?_)
      refine Sm.lstore_n (lv' := [.ref l0, .null, .long v8, .null, .int l4]) dX10_acceptedOf_39 rfl (Nat.le_of_ble_eq_true rfl) rfl rfl ?_
      refine Sm.iinc (lv' := [.ref l0, .null, .long v8, .null, .int (l4 + (1 : Int32))]) dX10_acceptedOf_40 rfl ic_1 rfl rfl ?_
      refine Sm.nm (LV := fun v9 => [.ref l0, .null, .long v8, .null, .int v9]) (ST := fun v9 => []) (fun v9 => ?_)
      refine Sm.goto (t := 10) dX10_acceptedOf_43 (by decide) ?_
      exact Sm.wk (hk10 (v8, v9)) ⟨Or.inr rfl, Or.inl rfl, Or.inr rfl, Or.inl rfl, Or.inr rfl, trivial⟩
    · refine Sm.lconst (v := (1 : Int64)) dX10_acceptedOf_30 (by decide) rfl ?_
      refine Sm.iload dX10_acceptedOf_31 rfl rfl ?_
      refine Sm.lshl dX10_acceptedOf_33 rfl ?_
      refine Sm.goto (t := 38) dX10_acceptedOf_34 (by decide) ?_
      refine Sm.lor dX10_acceptedOf_38 rfl ?_
      refine Sm.nm (LV := fun v10 => [.ref l0, .null, .long l2, .null, .int l4]) (ST := fun v10 => [.long v10]) (fun v10 => ?_)
      refine Sm.lstore_n (lv' := [.ref l0, .null, .long v10, .null, .int l4]) dX10_acceptedOf_39 rfl (Nat.le_of_ble_eq_true rfl) rfl rfl ?_
      refine Sm.iinc (lv' := [.ref l0, .null, .long v10, .null, .int (l4 + (1 : Int32))]) dX10_acceptedOf_40 rfl ic_1 rfl rfl ?_
      refine Sm.nm (LV := fun v11 => [.ref l0, .null, .long v10, .null, .int v11]) (ST := fun v11 => []) (fun v11 => ?_)
      refine Sm.goto (t := 10) dX10_acceptedOf_43 (by decide) ?_
      exact Sm.wk (hk10 (v10, v11)) ⟨Or.inr rfl, Or.inl rfl, Or.inr rfl, Or.inl rfl, Or.inr rfl, trivial⟩
def f_X10_acceptedOf (l0 : Nat) (l1 : Int32) (h : Hp) : Option (Int64 × Hp) :=
  (ck h l0 10
(bd (f_X10_evaluates l0 l1 h) fun _ h2 =>
(loopN (fun k s => f_X10_acceptedOf_10 k l0 s.1 s.2 h2) 5000 ((0 : Int64), (0 : Int32)))))
set_option maxRecDepth 20000 in
theorem t_X10_acceptedOf (l0 : Nat) (l1 : Int32) (h : Hp) : Sm rvJ g_X10_acceptedOf 0 (ent 5 [.ref l0, .int l1]) [] h (f_X10_acceptedOf l0 l1 h) := by
  show Sm rvJ g_X10_acceptedOf 0 [.ref l0, .int l1, .null, .null, .null] [] h _
  unfold f_X10_acceptedOf
  refine Sm.aload_n dX10_acceptedOf_0 rfl rfl rfl ?_
  refine Sm.iload_n dX10_acceptedOf_1 rfl rfl rfl ?_
  refine Sm.ck (fun o1 => ?_)
  refine kc_X10_235 o1 dX10_acceptedOf_2 rfl (Nat.le_of_ble_eq_true rfl) (Nat.le_of_ble_eq_true rfl) rfl (fun _ h2 => ?_)
  refine Sm.lconst (v := (0 : Int64)) dX10_acceptedOf_5 (by decide) rfl ?_
  refine Sm.lstore_n (lv' := [.ref l0, .int l1, .long (0 : Int64), .null, .null]) dX10_acceptedOf_6 rfl (Nat.le_of_ble_eq_true rfl) rfl rfl ?_
  refine Sm.iconst dX10_acceptedOf_7 ic_0 rfl ?_
  refine Sm.istore (lv' := [.ref l0, .int l1, .long (0 : Int64), .null, .int (0 : Int32)]) dX10_acceptedOf_8 (Nat.le_of_ble_eq_true rfl) rfl rfl ?_
  exact Sm.wk (Sm.loop (σ := Int64 × Int32) (LV := fun s => [.ref l0, .null, .long s.1, .null, .int s.2]) (HH := fun s => h2) (fun k hk s => t_X10_acceptedOf_10 l0 s.1 s.2 h2 k hk) 5000 ((0 : Int64), (0 : Int32))) ⟨Or.inr rfl, Or.inl rfl, Or.inr rfl, Or.inl rfl, Or.inr rfl, trivial⟩
set_option maxRecDepth 20000 in
theorem kc_X10_244 {ρ : Type} {rv : ρ → Option Value} {G : Gx} {pc q : Nat} {lv st : List Value} {h : Hp} {a : Nat} {x1 : Int32} {e : Int64 → Hp → Option (ρ × Hp)} (hk : isO h a 10) (d : decode G.2.1 pc = .ok (.invokevirtual 244, 3)) (ho : G.1.cls = RX10) (hdep : (g_X10_acceptedOf).2.2.2.2 < G.2.2.2.2) (hcat : catS st ≤ 8) (hq : pc + 3 = q) (k : ∀ r h1, Sm rv G q lv (.long r :: st) h1 (e r h1)) : Sm rv G pc lv (.int x1 :: .ref a :: st) h (bd (f_X10_acceptedOf a x1 h) e) :=
  Sm.callV (rv' := rvJ) (args := [.int x1]) (n := 1) (t_X10_acceptedOf a x1 h) hk (by decide) (r := (RX10, TX10, 43)) rfl rfl ho mw_1201 mw_1203 mp_80 mw_11 mw_1204 ⟨⟨by decide, rfl, hdep, Nat.le_of_ble_eq_true rfl⟩, Nat.le_of_ble_eq_true rfl, rfl, ⟨by decide, by decide⟩, hcat⟩ (by decide +kernel) (by intro v hv; simp only [List.mem_cons, List.not_mem_nil, or_false] at hv; rcases hv with rfl <;> intro x hx <;> cases hx) d hq k rfl
abbrev g_X10_accepted : Gx := (yX10_accepted, cX10_accepted, 2, (Option.some FieldType.long), 5)
def f_X10_accepted (l0 : Nat) (l1 : Int32) (h : Hp) : Option (Int64 × Hp) :=
  (bd (f_X10_isSlot l1 h) fun v1 h2 =>
(if v1 = 0 then
(ck h2 l0 10
(bd (f_X10_fails l0 (-2 : Int32) h2) fun v5 h6 =>
(some (v5.toInt64, h6))))
else
(ck h2 l0 10
(bd (f_X10_acceptedOf l0 l1 h2) fun v8 h9 =>
(some (v8, h9))))))
set_option maxRecDepth 20000 in
theorem t_X10_accepted (l0 : Nat) (l1 : Int32) (h : Hp) : Sm rvJ g_X10_accepted 0 (ent 2 [.ref l0, .int l1]) [] h (f_X10_accepted l0 l1 h) := by
  show Sm rvJ g_X10_accepted 0 [.ref l0, .int l1] [] h _
  unfold f_X10_accepted
  refine Sm.iload_n dX10_accepted_0 rfl rfl rfl ?_
  refine kc_X10_179 dX10_accepted_1 rfl (Nat.le_of_ble_eq_true rfl) (Nat.le_of_ble_eq_true rfl) rfl (fun v1 h2 => ?_)
  refine Sm.if_eq (t := 15) dX10_accepted_4 (by decide) rfl (fun b3 => ?_) (fun b3 => ?_)
  · refine Sm.aload_n dX10_accepted_15 rfl rfl rfl ?_
    refine Sm.bipush dX10_accepted_16 bp_m2 rfl ?_
    refine Sm.ck (fun o4 => ?_)
    refine kc_X10_106 o4 dX10_accepted_18 rfl (Nat.le_of_ble_eq_true rfl) (Nat.le_of_ble_eq_true rfl) rfl (fun v5 h6 => ?_)
    refine Sm.i2l dX10_accepted_21 rfl ?_
    exact Sm.ret dX10_accepted_22 trivial rfl
  · refine Sm.aload_n dX10_accepted_7 rfl rfl rfl ?_
    refine Sm.iload_n dX10_accepted_8 rfl rfl rfl ?_
    refine Sm.ck (fun o7 => ?_)
    refine kc_X10_244 o7 dX10_accepted_9 rfl (Nat.le_of_ble_eq_true rfl) (Nat.le_of_ble_eq_true rfl) rfl (fun v8 h9 => ?_)
    refine Sm.goto (t := 22) dX10_accepted_12 (by decide) ?_
    exact Sm.ret dX10_accepted_22 trivial rfl
set_option maxRecDepth 20000 in
theorem kc_L_59 {ρ : Type} {rv : ρ → Option Value} {G : Gx} {pc q : Nat} {lv st : List Value} {h : Hp} {a : Nat} {x1 : Int32} {e : Int64 → Hp → Option (ρ × Hp)} (hk : isO h a 10) (d : decode G.2.1 pc = .ok (.invokevirtual 59, 3)) (ho : G.1.cls = RL) (hdep : (g_X10_accepted).2.2.2.2 < G.2.2.2.2) (hcat : catS st ≤ 8) (hq : pc + 3 = q) (k : ∀ r h1, Sm rv G q lv (.long r :: st) h1 (e r h1)) : Sm rv G pc lv (.int x1 :: .ref a :: st) h (bd (f_X10_accepted a x1 h) e) :=
  Sm.callV (rv' := rvJ) (args := [.int x1]) (n := 1) (t_X10_accepted a x1 h) hk (by decide) (r := (RX10, TX10, 43)) rfl rfl ho mw_1197 mw_1198 mw_1199 mw_11 mw_1200 ⟨⟨by decide, rfl, hdep, Nat.le_of_ble_eq_true rfl⟩, Nat.le_of_ble_eq_true rfl, rfl, ⟨by decide, by decide⟩, hcat⟩ (by decide +kernel) (by intro v hv; simp only [List.mem_cons, List.not_mem_nil, or_false] at hv; rcases hv with rfl <;> intro x hx <;> cases hx) d hq k rfl
abbrev g_X10_ones : Gx := (yX10_ones, cX10_ones, 4, (Option.some FieldType.int), 0)
def f_X10_ones_4 (k4 : (Int32 × Int32) → Option (Int32 × Hp)) (l0 : Int64) (l2 : Int32) (l3 : Int32) (h : Hp) : Option (Int32 × Hp) :=
  (if (64 : Int32) ≤ l3 then
(some (l2, h))
else
(if (lg_cmp ((l0 >>> (l3.toInt64 &&& 63)) &&& (1 : Int64)) (1 : Int64)) = 0 then
(nm (l2 + (1 : Int32)) fun v3 =>
(nm (l3 + (1 : Int32)) fun v4 =>
(k4 (v3, v4))))
else
(nm (l2 + (0 : Int32)) fun v5 =>
(nm (l3 + (1 : Int32)) fun v6 =>
(k4 (v5, v6))))))
set_option maxRecDepth 20000 in
theorem t_X10_ones_4 (l0 : Int64) (l2 : Int32) (l3 : Int32) (h : Hp) (k4 : (Int32 × Int32) → Option (Int32 × Hp)) (hk4 : ∀ s : Int32 × Int32, Sm rvI g_X10_ones 4 [.long l0, .null, .int s.1, .int s.2] [] h (k4 s)) : Sm rvI g_X10_ones 4 [.long l0, .null, .int l2, .int l3] [] h (f_X10_ones_4 k4 l0 l2 l3 h) := by
  unfold f_X10_ones_4
  refine Sm.iload_n dX10_ones_4 rfl rfl rfl ?_
  refine Sm.bipush dX10_ones_5 bp_64 rfl ?_
  refine Sm.icmp_ge (t := 34) dX10_ones_7 (by decide) rfl (fun b1 => ?_) (fun b1 => ?_)
  · refine Sm.iload_n dX10_ones_34 rfl rfl rfl ?_
    exact Sm.ret dX10_ones_35 trivial rfl
  · refine Sm.iload_n dX10_ones_10 rfl rfl rfl ?_
    refine Sm.lload_n dX10_ones_11 rfl rfl rfl ?_
    refine Sm.iload_n dX10_ones_12 rfl rfl rfl ?_
    refine Sm.lshr dX10_ones_13 rfl ?_
    refine Sm.lconst (v := (1 : Int64)) dX10_ones_14 (by decide) rfl ?_
    refine Sm.land dX10_ones_15 rfl ?_
    refine Sm.lconst (v := (1 : Int64)) dX10_ones_16 (by decide) rfl ?_
    refine Sm.lcmp dX10_ones_17 rfl ?_
    refine Sm.if_ne (t := 25) dX10_ones_18 (by decide) rfl (fun b2 => ?_) (fun b2 => ?_)
    · refine Sm.iconst dX10_ones_21 ic_1 rfl ?_
      refine Sm.goto (t := 26) dX10_ones_22 (by decide) ?_
      refine Sm.iadd dX10_ones_26 rfl ?_
      refine Sm.nm (LV := fun v3 => [.long l0, .null, .int l2, .int l3]) (ST := fun v3 => [.int v3]) (fun v3 => ?_)
      refine Sm.istore_n (lv' := [.long l0, .null, .int v3, .int l3]) dX10_ones_27 rfl (Nat.le_of_ble_eq_true rfl) rfl rfl ?_
      refine Sm.iinc (lv' := [.long l0, .null, .int v3, .int (l3 + (1 : Int32))]) dX10_ones_28 rfl ic_1 rfl rfl ?_
      refine Sm.nm (LV := fun v4 => [.long l0, .null, .int v3, .int v4]) (ST := fun v4 => []) (fun v4 => ?_)
      refine Sm.goto (t := 4) dX10_ones_31 (by decide) ?_
      exact Sm.wk (hk4 (v3, v4)) ⟨Or.inr rfl, Or.inl rfl, Or.inr rfl, Or.inr rfl, trivial⟩
    · refine Sm.iconst dX10_ones_25 ic_0 rfl ?_
      refine Sm.iadd dX10_ones_26 rfl ?_
      refine Sm.nm (LV := fun v5 => [.long l0, .null, .int l2, .int l3]) (ST := fun v5 => [.int v5]) (fun v5 => ?_)
      refine Sm.istore_n (lv' := [.long l0, .null, .int v5, .int l3]) dX10_ones_27 rfl (Nat.le_of_ble_eq_true rfl) rfl rfl ?_
      refine Sm.iinc (lv' := [.long l0, .null, .int v5, .int (l3 + (1 : Int32))]) dX10_ones_28 rfl ic_1 rfl rfl ?_
      refine Sm.nm (LV := fun v6 => [.long l0, .null, .int v5, .int v6]) (ST := fun v6 => []) (fun v6 => ?_)
      refine Sm.goto (t := 4) dX10_ones_31 (by decide) ?_
      exact Sm.wk (hk4 (v5, v6)) ⟨Or.inr rfl, Or.inl rfl, Or.inr rfl, Or.inr rfl, trivial⟩
def f_X10_ones (l0 : Int64) (h : Hp) : Option (Int32 × Hp) :=
  (loopN (fun k s => f_X10_ones_4 k l0 s.1 s.2 h) 5000 ((0 : Int32), (0 : Int32)))
set_option maxRecDepth 20000 in
theorem t_X10_ones (l0 : Int64) (h : Hp) : Sm rvI g_X10_ones 0 (ent 4 [.long l0]) [] h (f_X10_ones l0 h) := by
  show Sm rvI g_X10_ones 0 [.long l0, .null, .null, .null] [] h _
  unfold f_X10_ones
  refine Sm.iconst dX10_ones_0 ic_0 rfl ?_
  refine Sm.istore_n (lv' := [.long l0, .null, .int (0 : Int32), .null]) dX10_ones_1 rfl (Nat.le_of_ble_eq_true rfl) rfl rfl ?_
  refine Sm.iconst dX10_ones_2 ic_0 rfl ?_
  refine Sm.istore_n (lv' := [.long l0, .null, .int (0 : Int32), .int (0 : Int32)]) dX10_ones_3 rfl (Nat.le_of_ble_eq_true rfl) rfl rfl ?_
  exact Sm.wk (Sm.loop (σ := Int32 × Int32) (LV := fun s => [.long l0, .null, .int s.1, .int s.2]) (HH := fun s => h) (fun k hk s => t_X10_ones_4 l0 s.1 s.2 h k hk) 5000 ((0 : Int32), (0 : Int32))) ⟨Or.inr rfl, Or.inl rfl, Or.inr rfl, Or.inr rfl, trivial⟩
set_option maxRecDepth 20000 in
theorem kc_X10_248 {ρ : Type} {rv : ρ → Option Value} {G : Gx} {pc q : Nat} {lv st : List Value} {h : Hp} {x0 : Int64} {e : Int32 → Hp → Option (ρ × Hp)} (d : decode G.2.1 pc = .ok (.invokestatic 248, 3)) (ho : G.1.cls = RX10) (hdep : (g_X10_ones).2.2.2.2 < G.2.2.2.2) (hcat : catS st ≤ 8) (hq : pc + 3 = q) (k : ∀ r h1, Sm rv G q lv (.int r :: st) h1 (e r h1)) : Sm rv G pc lv (.long x0 :: st) h (bd (f_X10_ones x0 h) e) :=
  Sm.callS (rv' := rvI) (as := [.long x0]) (n := 1) (t_X10_ones x0 h) ho mw_1213 mw_1214 mw_11 mw_1215 ⟨⟨by decide, rfl, hdep, Nat.le_of_ble_eq_true rfl⟩, Nat.le_of_ble_eq_true rfl, rfl, ⟨by decide, by decide⟩, hcat⟩ (by decide +kernel) (by intro v hv; simp only [List.mem_cons, List.not_mem_nil, or_false] at hv; rcases hv with rfl <;> intro x hx <;> cases hx) d hq k rfl
abbrev g_X10_spreadOf : Gx := (yX10_spreadOf, cX10_spreadOf, 4, (Option.some FieldType.int), 4)
def f_X10_spreadOf_9 (k9 : (Int32 × Int32 × Hp) → Option (Int32 × Hp)) (l0 : Nat) (l2 : Int32) (l3 : Int32) (h : Hp) : Option (Int32 × Hp) :=
  (if (64 : Int32) ≤ l3 then
(some (l2, h))
else
(ck h l0 10
((gP h l0 24).bind fun v5 =>
(ca h v5 22 l3
(bd (f_X10_ones (gL h v5 l3.toNatClampNeg) h) fun v7 h8 =>
(if v7 ≤ l2 then
(nm (l3 + (1 : Int32)) fun v10 =>
(k9 (l2, v10, h8)))
else
(ck h8 l0 10
((gP h8 l0 24).bind fun v12 =>
(ca h8 v12 22 l3
(bd (f_X10_ones (gL h8 v12 l3.toNatClampNeg) h8) fun v14 h15 =>
(nm (l3 + (1 : Int32)) fun v16 =>
(k9 (v14, v16, h15)))))))))))))
set_option maxRecDepth 20000 in
theorem t_X10_spreadOf_9 (l0 : Nat) (l2 : Int32) (l3 : Int32) (h : Hp) (k9 : (Int32 × Int32 × Hp) → Option (Int32 × Hp)) (hk9 : ∀ s : Int32 × Int32 × Hp, Sm rvI g_X10_spreadOf 9 [.ref l0, .null, .int s.1, .int s.2.1] [] s.2.2 (k9 s)) : Sm rvI g_X10_spreadOf 9 [.ref l0, .null, .int l2, .int l3] [] h (f_X10_spreadOf_9 k9 l0 l2 l3 h) := by
  unfold f_X10_spreadOf_9
  refine Sm.iload_n dX10_spreadOf_9 rfl rfl rfl ?_
  refine Sm.bipush dX10_spreadOf_10 bp_64 rfl ?_
  refine Sm.icmp_ge (t := 48) dX10_spreadOf_12 (by decide) rfl (fun b3 => ?_) (fun b3 => ?_)
  · refine Sm.iload_n dX10_spreadOf_48 rfl rfl rfl ?_
    exact Sm.ret dX10_spreadOf_49 trivial rfl
  · refine Sm.aload_n dX10_spreadOf_15 rfl rfl rfl ?_
    refine Sm.ck (fun o4 => ?_)
    refine gf_X10_55 o4 dX10_spreadOf_16 rfl rfl (fun v5 => ?_)
    refine Sm.iload_n dX10_spreadOf_19 rfl rfl rfl ?_
    refine Sm.ca (fun q6 => ?_)
    refine Sm.lald q6 dX10_spreadOf_20 rfl ?_
    refine kc_X10_248 dX10_spreadOf_21 rfl (Nat.le_of_ble_eq_true rfl) (Nat.le_of_ble_eq_true rfl) rfl (fun v7 h8 => ?_)
    refine Sm.iload_n dX10_spreadOf_24 rfl rfl rfl ?_
    refine Sm.icmp_le (t := 40) dX10_spreadOf_25 (by decide) rfl (fun b9 => ?_) (fun b9 => ?_)
    · refine Sm.iload_n dX10_spreadOf_40 rfl rfl rfl ?_
      refine Sm.istore_n (lv' := [.ref l0, .null, .int l2, .int l3]) dX10_spreadOf_41 rfl (Nat.le_of_ble_eq_true rfl) rfl rfl ?_
      refine Sm.iinc (lv' := [.ref l0, .null, .int l2, .int (l3 + (1 : Int32))]) dX10_spreadOf_42 rfl ic_1 rfl rfl ?_
      refine Sm.nm (LV := fun v10 => [.ref l0, .null, .int l2, .int v10]) (ST := fun v10 => []) (fun v10 => ?_)
      refine Sm.goto (t := 9) dX10_spreadOf_45 (by decide) ?_
      exact Sm.wk (hk9 (l2, v10, h8)) ⟨Or.inr rfl, Or.inl rfl, Or.inr rfl, Or.inr rfl, trivial⟩
    · refine Sm.aload_n dX10_spreadOf_28 rfl rfl rfl ?_
      refine Sm.ck (fun o11 => ?_)
      refine gf_X10_55 o11 dX10_spreadOf_29 rfl rfl (fun v12 => ?_)
      refine Sm.iload_n dX10_spreadOf_32 rfl rfl rfl ?_
      refine Sm.ca (fun q13 => ?_)
      refine Sm.lald q13 dX10_spreadOf_33 rfl ?_
      refine kc_X10_248 dX10_spreadOf_34 rfl (Nat.le_of_ble_eq_true rfl) (Nat.le_of_ble_eq_true rfl) rfl (fun v14 h15 => ?_)
      refine Sm.goto (t := 41) dX10_spreadOf_37 (by decide) ?_
      refine Sm.istore_n (lv' := [.ref l0, .null, .int v14, .int l3]) dX10_spreadOf_41 rfl (Nat.le_of_ble_eq_true rfl) rfl rfl ?_
      refine Sm.iinc (lv' := [.ref l0, .null, .int v14, .int (l3 + (1 : Int32))]) dX10_spreadOf_42 rfl ic_1 rfl rfl ?_
      refine Sm.nm (LV := fun v16 => [.ref l0, .null, .int v14, .int v16]) (ST := fun v16 => []) (fun v16 => ?_)
      refine Sm.goto (t := 9) dX10_spreadOf_45 (by decide) ?_
      exact Sm.wk (hk9 (v14, v16, h15)) ⟨Or.inr rfl, Or.inl rfl, Or.inr rfl, Or.inr rfl, trivial⟩
def f_X10_spreadOf (l0 : Nat) (l1 : Int32) (h : Hp) : Option (Int32 × Hp) :=
  (ck h l0 10
(bd (f_X10_evaluates l0 l1 h) fun _ h2 =>
(loopN (fun k s => f_X10_spreadOf_9 k l0 s.1 s.2.1 s.2.2) 5000 ((0 : Int32), (0 : Int32), h2))))
set_option maxRecDepth 20000 in
theorem t_X10_spreadOf (l0 : Nat) (l1 : Int32) (h : Hp) : Sm rvI g_X10_spreadOf 0 (ent 4 [.ref l0, .int l1]) [] h (f_X10_spreadOf l0 l1 h) := by
  show Sm rvI g_X10_spreadOf 0 [.ref l0, .int l1, .null, .null] [] h _
  unfold f_X10_spreadOf
  refine Sm.aload_n dX10_spreadOf_0 rfl rfl rfl ?_
  refine Sm.iload_n dX10_spreadOf_1 rfl rfl rfl ?_
  refine Sm.ck (fun o1 => ?_)
  refine kc_X10_235 o1 dX10_spreadOf_2 rfl (Nat.le_of_ble_eq_true rfl) (Nat.le_of_ble_eq_true rfl) rfl (fun _ h2 => ?_)
  refine Sm.iconst dX10_spreadOf_5 ic_0 rfl ?_
  refine Sm.istore_n (lv' := [.ref l0, .int l1, .int (0 : Int32), .null]) dX10_spreadOf_6 rfl (Nat.le_of_ble_eq_true rfl) rfl rfl ?_
  refine Sm.iconst dX10_spreadOf_7 ic_0 rfl ?_
  refine Sm.istore_n (lv' := [.ref l0, .int l1, .int (0 : Int32), .int (0 : Int32)]) dX10_spreadOf_8 rfl (Nat.le_of_ble_eq_true rfl) rfl rfl ?_
  exact Sm.wk (Sm.loop (σ := Int32 × Int32 × Hp) (LV := fun s => [.ref l0, .null, .int s.1, .int s.2.1]) (HH := fun s => s.2.2) (fun k hk s => t_X10_spreadOf_9 l0 s.1 s.2.1 s.2.2 k hk) 5000 ((0 : Int32), (0 : Int32), h2)) ⟨Or.inr rfl, Or.inl rfl, Or.inr rfl, Or.inr rfl, trivial⟩
set_option maxRecDepth 20000 in
theorem kc_X10_252 {ρ : Type} {rv : ρ → Option Value} {G : Gx} {pc q : Nat} {lv st : List Value} {h : Hp} {a : Nat} {x1 : Int32} {e : Int32 → Hp → Option (ρ × Hp)} (hk : isO h a 10) (d : decode G.2.1 pc = .ok (.invokevirtual 252, 3)) (ho : G.1.cls = RX10) (hdep : (g_X10_spreadOf).2.2.2.2 < G.2.2.2.2) (hcat : catS st ≤ 8) (hq : pc + 3 = q) (k : ∀ r h1, Sm rv G q lv (.int r :: st) h1 (e r h1)) : Sm rv G pc lv (.int x1 :: .ref a :: st) h (bd (f_X10_spreadOf a x1 h) e) :=
  Sm.callV (rv' := rvI) (args := [.int x1]) (n := 1) (t_X10_spreadOf a x1 h) hk (by decide) (r := (RX10, TX10, 43)) rfl rfl ho mw_1209 mw_1211 mp_81 mw_11 mw_1212 ⟨⟨by decide, rfl, hdep, Nat.le_of_ble_eq_true rfl⟩, Nat.le_of_ble_eq_true rfl, rfl, ⟨by decide, by decide⟩, hcat⟩ (by decide +kernel) (by intro v hv; simp only [List.mem_cons, List.not_mem_nil, or_false] at hv; rcases hv with rfl <;> intro x hx <;> cases hx) d hq k rfl
abbrev g_X10_spread : Gx := (yX10_spread, cX10_spread, 2, (Option.some FieldType.int), 5)
def f_X10_spread (l0 : Nat) (l1 : Int32) (h : Hp) : Option (Int32 × Hp) :=
  (bd (f_X10_isSlot l1 h) fun v1 h2 =>
(if v1 = 0 then
(ck h2 l0 10
(bd (f_X10_fails l0 (-2 : Int32) h2) fun v5 h6 =>
(some (v5, h6))))
else
(ck h2 l0 10
(bd (f_X10_spreadOf l0 l1 h2) fun v8 h9 =>
(some (v8, h9))))))
set_option maxRecDepth 20000 in
theorem t_X10_spread (l0 : Nat) (l1 : Int32) (h : Hp) : Sm rvI g_X10_spread 0 (ent 2 [.ref l0, .int l1]) [] h (f_X10_spread l0 l1 h) := by
  show Sm rvI g_X10_spread 0 [.ref l0, .int l1] [] h _
  unfold f_X10_spread
  refine Sm.iload_n dX10_spread_0 rfl rfl rfl ?_
  refine kc_X10_179 dX10_spread_1 rfl (Nat.le_of_ble_eq_true rfl) (Nat.le_of_ble_eq_true rfl) rfl (fun v1 h2 => ?_)
  refine Sm.if_eq (t := 15) dX10_spread_4 (by decide) rfl (fun b3 => ?_) (fun b3 => ?_)
  · refine Sm.aload_n dX10_spread_15 rfl rfl rfl ?_
    refine Sm.bipush dX10_spread_16 bp_m2 rfl ?_
    refine Sm.ck (fun o4 => ?_)
    refine kc_X10_106 o4 dX10_spread_18 rfl (Nat.le_of_ble_eq_true rfl) (Nat.le_of_ble_eq_true rfl) rfl (fun v5 h6 => ?_)
    exact Sm.ret dX10_spread_21 trivial rfl
  · refine Sm.aload_n dX10_spread_7 rfl rfl rfl ?_
    refine Sm.iload_n dX10_spread_8 rfl rfl rfl ?_
    refine Sm.ck (fun o7 => ?_)
    refine kc_X10_252 o7 dX10_spread_9 rfl (Nat.le_of_ble_eq_true rfl) (Nat.le_of_ble_eq_true rfl) rfl (fun v8 h9 => ?_)
    refine Sm.goto (t := 21) dX10_spread_12 (by decide) ?_
    exact Sm.ret dX10_spread_21 trivial rfl
set_option maxRecDepth 20000 in
theorem kc_L_63 {ρ : Type} {rv : ρ → Option Value} {G : Gx} {pc q : Nat} {lv st : List Value} {h : Hp} {a : Nat} {x1 : Int32} {e : Int32 → Hp → Option (ρ × Hp)} (hk : isO h a 10) (d : decode G.2.1 pc = .ok (.invokevirtual 63, 3)) (ho : G.1.cls = RL) (hdep : (g_X10_spread).2.2.2.2 < G.2.2.2.2) (hcat : catS st ≤ 8) (hq : pc + 3 = q) (k : ∀ r h1, Sm rv G q lv (.int r :: st) h1 (e r h1)) : Sm rv G pc lv (.int x1 :: .ref a :: st) h (bd (f_X10_spread a x1 h) e) :=
  Sm.callV (rv' := rvI) (args := [.int x1]) (n := 1) (t_X10_spread a x1 h) hk (by decide) (r := (RX10, TX10, 43)) rfl rfl ho mw_1205 mw_1206 mw_1207 mw_11 mw_1208 ⟨⟨by decide, rfl, hdep, Nat.le_of_ble_eq_true rfl⟩, Nat.le_of_ble_eq_true rfl, rfl, ⟨by decide, by decide⟩, hcat⟩ (by decide +kernel) (by intro v hv; simp only [List.mem_cons, List.not_mem_nil, or_false] at hv; rcases hv with rfl <;> intro x hx <;> cases hx) d hq k rfl
abbrev g_X10_roundsOf : Gx := (yX10_roundsOf, cX10_roundsOf, 6, (Option.some FieldType.int), 4)
def f_X10_roundsOf_9 (k9 : (Int32 × Int32 × Hp) → Option (Int32 × Hp)) (l0 : Nat) (l2 : Int32) (l3 : Int32) (h : Hp) : Option (Int32 × Hp) :=
  (if (64 : Int32) ≤ l3 then
(some (l2, h))
else
(ck h l0 10
(bd (f_X10_reached l0 l3 (0 : Int32) h) fun v5 h6 =>
(if (lg_cmp v5 (0 : Int64)) = 0 then
(nm (l3 + (1 : Int32)) fun v8 =>
(k9 (l2, v8, h6)))
else
(ck h6 l0 10
((gP h6 l0 26).bind fun v10 =>
(ca h6 v10 20 l3
(if (gI h6 v10 l3.toNatClampNeg) ≤ l2 then
(nm (l3 + (1 : Int32)) fun v13 =>
(k9 (l2, v13, h6)))
else
((gP h6 l0 26).bind fun v14 =>
(ca h6 v14 20 l3
(nm (gI h6 v14 l3.toNatClampNeg) fun v16 =>
(nm (l3 + (1 : Int32)) fun v17 =>
(k9 (v16, v17, h6))))))))))))))
set_option maxRecDepth 20000 in
theorem t_X10_roundsOf_9 (l0 : Nat) (l2 : Int32) (l3 : Int32) (h : Hp) (k9 : (Int32 × Int32 × Hp) → Option (Int32 × Hp)) (hk9 : ∀ s : Int32 × Int32 × Hp, Sm rvI g_X10_roundsOf 9 [.ref l0, .null, .int s.1, .int s.2.1, .null, .null] [] s.2.2 (k9 s)) : Sm rvI g_X10_roundsOf 9 [.ref l0, .null, .int l2, .int l3, .null, .null] [] h (f_X10_roundsOf_9 k9 l0 l2 l3 h) := by
  unfold f_X10_roundsOf_9
  refine Sm.iload_n dX10_roundsOf_9 rfl rfl rfl ?_
  refine Sm.bipush dX10_roundsOf_10 bp_64 rfl ?_
  refine Sm.icmp_ge (t := 57) dX10_roundsOf_12 (by decide) rfl (fun b3 => ?_) (fun b3 => ?_)
  · refine Sm.iload_n dX10_roundsOf_57 rfl rfl rfl ?_
    exact Sm.ret dX10_roundsOf_58 trivial rfl
  · refine Sm.aload_n dX10_roundsOf_15 rfl rfl rfl ?_
    refine Sm.iload_n dX10_roundsOf_16 rfl rfl rfl ?_
    refine Sm.iconst dX10_roundsOf_17 ic_0 rfl ?_
    refine Sm.ck (fun o4 => ?_)
    refine kc_X10_225 o4 dX10_roundsOf_18 rfl (Nat.le_of_ble_eq_true rfl) (Nat.le_of_ble_eq_true rfl) rfl (fun v5 h6 => ?_)
    refine Sm.lstore (lv' := [.ref l0, .null, .int l2, .int l3, .long v5, .null]) dX10_roundsOf_21 (Nat.le_of_ble_eq_true rfl) rfl rfl ?_
    refine Sm.lload dX10_roundsOf_23 rfl rfl ?_
    refine Sm.lconst (v := (0 : Int64)) dX10_roundsOf_25 (by decide) rfl ?_
    refine Sm.lcmp dX10_roundsOf_26 rfl ?_
    refine Sm.if_eq (t := 49) dX10_roundsOf_27 (by decide) rfl (fun b7 => ?_) (fun b7 => ?_)
    · refine Sm.iload_n dX10_roundsOf_49 rfl rfl rfl ?_
      refine Sm.istore_n (lv' := [.ref l0, .null, .int l2, .int l3, .long v5, .null]) dX10_roundsOf_50 rfl (Nat.le_of_ble_eq_true rfl) rfl rfl ?_
      refine Sm.iinc (lv' := [.ref l0, .null, .int l2, .int (l3 + (1 : Int32)), .long v5, .null]) dX10_roundsOf_51 rfl ic_1 rfl rfl ?_
      refine Sm.nm (LV := fun v8 => [.ref l0, .null, .int l2, .int v8, .long v5, .null]) (ST := fun v8 => []) (fun v8 => ?_)
      refine Sm.goto (t := 9) dX10_roundsOf_54 (by decide) ?_
      exact Sm.wk (hk9 (l2, v8, h6)) ⟨Or.inr rfl, Or.inl rfl, Or.inr rfl, Or.inr rfl, Or.inl rfl, Or.inl rfl, trivial⟩
    · refine Sm.aload_n dX10_roundsOf_30 rfl rfl rfl ?_
      refine Sm.ck (fun o9 => ?_)
      refine gf_X10_59 o9 dX10_roundsOf_31 rfl rfl (fun v10 => ?_)
      refine Sm.iload_n dX10_roundsOf_34 rfl rfl rfl ?_
      refine Sm.ca (fun q11 => ?_)
      refine Sm.iald q11 dX10_roundsOf_35 rfl ?_
      refine Sm.iload_n dX10_roundsOf_36 rfl rfl rfl ?_
      refine Sm.icmp_le (t := 49) dX10_roundsOf_37 (by decide) rfl (fun b12 => ?_) (fun b12 => ?_)
      · refine Sm.iload_n dX10_roundsOf_49 rfl rfl rfl ?_
        refine Sm.istore_n (lv' := [.ref l0, .null, .int l2, .int l3, .long v5, .null]) dX10_roundsOf_50 rfl (Nat.le_of_ble_eq_true rfl) rfl rfl ?_
        refine Sm.iinc (lv' := [.ref l0, .null, .int l2, .int (l3 + (1 : Int32)), .long v5, .null]) dX10_roundsOf_51 rfl ic_1 rfl rfl ?_
        refine Sm.nm (LV := fun v13 => [.ref l0, .null, .int l2, .int v13, .long v5, .null]) (ST := fun v13 => []) (fun v13 => ?_)
        refine Sm.goto (t := 9) dX10_roundsOf_54 (by decide) ?_
        exact Sm.wk (hk9 (l2, v13, h6)) ⟨Or.inr rfl, Or.inl rfl, Or.inr rfl, Or.inr rfl, Or.inl rfl, Or.inl rfl, trivial⟩
      · refine Sm.aload_n dX10_roundsOf_40 rfl rfl rfl ?_
        refine gf_X10_59 o9 dX10_roundsOf_41 rfl rfl (fun v14 => ?_)
        refine Sm.iload_n dX10_roundsOf_44 rfl rfl rfl ?_
        refine Sm.ca (fun q15 => ?_)
        refine Sm.iald q15 dX10_roundsOf_45 rfl ?_
        refine Sm.goto (t := 50) dX10_roundsOf_46 (by decide) ?_
        refine Sm.nm (LV := fun v16 => [.ref l0, .null, .int l2, .int l3, .long v5, .null]) (ST := fun v16 => [.int v16]) (fun v16 => ?_)
        refine Sm.istore_n (lv' := [.ref l0, .null, .int v16, .int l3, .long v5, .null]) dX10_roundsOf_50 rfl (Nat.le_of_ble_eq_true rfl) rfl rfl ?_
        refine Sm.iinc (lv' := [.ref l0, .null, .int v16, .int (l3 + (1 : Int32)), .long v5, .null]) dX10_roundsOf_51 rfl ic_1 rfl rfl ?_
        refine Sm.nm (LV := fun v17 => [.ref l0, .null, .int v16, .int v17, .long v5, .null]) (ST := fun v17 => []) (fun v17 => ?_)
        refine Sm.goto (t := 9) dX10_roundsOf_54 (by decide) ?_
        exact Sm.wk (hk9 (v16, v17, h6)) ⟨Or.inr rfl, Or.inl rfl, Or.inr rfl, Or.inr rfl, Or.inl rfl, Or.inl rfl, trivial⟩
def f_X10_roundsOf (l0 : Nat) (l1 : Int32) (h : Hp) : Option (Int32 × Hp) :=
  (ck h l0 10
(bd (f_X10_evaluates l0 l1 h) fun _ h2 =>
(loopN (fun k s => f_X10_roundsOf_9 k l0 s.1 s.2.1 s.2.2) 5000 ((0 : Int32), (0 : Int32), h2))))
set_option maxRecDepth 20000 in
theorem t_X10_roundsOf (l0 : Nat) (l1 : Int32) (h : Hp) : Sm rvI g_X10_roundsOf 0 (ent 6 [.ref l0, .int l1]) [] h (f_X10_roundsOf l0 l1 h) := by
  show Sm rvI g_X10_roundsOf 0 [.ref l0, .int l1, .null, .null, .null, .null] [] h _
  unfold f_X10_roundsOf
  refine Sm.aload_n dX10_roundsOf_0 rfl rfl rfl ?_
  refine Sm.iload_n dX10_roundsOf_1 rfl rfl rfl ?_
  refine Sm.ck (fun o1 => ?_)
  refine kc_X10_235 o1 dX10_roundsOf_2 rfl (Nat.le_of_ble_eq_true rfl) (Nat.le_of_ble_eq_true rfl) rfl (fun _ h2 => ?_)
  refine Sm.iconst dX10_roundsOf_5 ic_0 rfl ?_
  refine Sm.istore_n (lv' := [.ref l0, .int l1, .int (0 : Int32), .null, .null, .null]) dX10_roundsOf_6 rfl (Nat.le_of_ble_eq_true rfl) rfl rfl ?_
  refine Sm.iconst dX10_roundsOf_7 ic_0 rfl ?_
  refine Sm.istore_n (lv' := [.ref l0, .int l1, .int (0 : Int32), .int (0 : Int32), .null, .null]) dX10_roundsOf_8 rfl (Nat.le_of_ble_eq_true rfl) rfl rfl ?_
  exact Sm.wk (Sm.loop (σ := Int32 × Int32 × Hp) (LV := fun s => [.ref l0, .null, .int s.1, .int s.2.1, .null, .null]) (HH := fun s => s.2.2) (fun k hk s => t_X10_roundsOf_9 l0 s.1 s.2.1 s.2.2 k hk) 5000 ((0 : Int32), (0 : Int32), h2)) ⟨Or.inr rfl, Or.inl rfl, Or.inr rfl, Or.inr rfl, Or.inl rfl, Or.inl rfl, trivial⟩
set_option maxRecDepth 20000 in
theorem kc_X10_255 {ρ : Type} {rv : ρ → Option Value} {G : Gx} {pc q : Nat} {lv st : List Value} {h : Hp} {a : Nat} {x1 : Int32} {e : Int32 → Hp → Option (ρ × Hp)} (hk : isO h a 10) (d : decode G.2.1 pc = .ok (.invokevirtual 255, 3)) (ho : G.1.cls = RX10) (hdep : (g_X10_roundsOf).2.2.2.2 < G.2.2.2.2) (hcat : catS st ≤ 8) (hq : pc + 3 = q) (k : ∀ r h1, Sm rv G q lv (.int r :: st) h1 (e r h1)) : Sm rv G pc lv (.int x1 :: .ref a :: st) h (bd (f_X10_roundsOf a x1 h) e) :=
  Sm.callV (rv' := rvI) (args := [.int x1]) (n := 1) (t_X10_roundsOf a x1 h) hk (by decide) (r := (RX10, TX10, 43)) rfl rfl ho mw_1220 mw_1222 mp_82 mw_11 mw_1223 ⟨⟨by decide, rfl, hdep, Nat.le_of_ble_eq_true rfl⟩, Nat.le_of_ble_eq_true rfl, rfl, ⟨by decide, by decide⟩, hcat⟩ (by decide +kernel) (by intro v hv; simp only [List.mem_cons, List.not_mem_nil, or_false] at hv; rcases hv with rfl <;> intro x hx <;> cases hx) d hq k rfl
abbrev g_X10_rounds : Gx := (yX10_rounds, cX10_rounds, 2, (Option.some FieldType.int), 5)
def f_X10_rounds (l0 : Nat) (l1 : Int32) (h : Hp) : Option (Int32 × Hp) :=
  (bd (f_X10_isSlot l1 h) fun v1 h2 =>
(if v1 = 0 then
(ck h2 l0 10
(bd (f_X10_fails l0 (-2 : Int32) h2) fun v5 h6 =>
(some (v5, h6))))
else
(ck h2 l0 10
(bd (f_X10_roundsOf l0 l1 h2) fun v8 h9 =>
(some (v8, h9))))))
set_option maxRecDepth 20000 in
theorem t_X10_rounds (l0 : Nat) (l1 : Int32) (h : Hp) : Sm rvI g_X10_rounds 0 (ent 2 [.ref l0, .int l1]) [] h (f_X10_rounds l0 l1 h) := by
  show Sm rvI g_X10_rounds 0 [.ref l0, .int l1] [] h _
  unfold f_X10_rounds
  refine Sm.iload_n dX10_rounds_0 rfl rfl rfl ?_
  refine kc_X10_179 dX10_rounds_1 rfl (Nat.le_of_ble_eq_true rfl) (Nat.le_of_ble_eq_true rfl) rfl (fun v1 h2 => ?_)
  refine Sm.if_eq (t := 15) dX10_rounds_4 (by decide) rfl (fun b3 => ?_) (fun b3 => ?_)
  · refine Sm.aload_n dX10_rounds_15 rfl rfl rfl ?_
    refine Sm.bipush dX10_rounds_16 bp_m2 rfl ?_
    refine Sm.ck (fun o4 => ?_)
    refine kc_X10_106 o4 dX10_rounds_18 rfl (Nat.le_of_ble_eq_true rfl) (Nat.le_of_ble_eq_true rfl) rfl (fun v5 h6 => ?_)
    exact Sm.ret dX10_rounds_21 trivial rfl
  · refine Sm.aload_n dX10_rounds_7 rfl rfl rfl ?_
    refine Sm.iload_n dX10_rounds_8 rfl rfl rfl ?_
    refine Sm.ck (fun o7 => ?_)
    refine kc_X10_255 o7 dX10_rounds_9 rfl (Nat.le_of_ble_eq_true rfl) (Nat.le_of_ble_eq_true rfl) rfl (fun v8 h9 => ?_)
    refine Sm.goto (t := 21) dX10_rounds_12 (by decide) ?_
    exact Sm.ret dX10_rounds_21 trivial rfl
set_option maxRecDepth 20000 in
theorem kc_L_67 {ρ : Type} {rv : ρ → Option Value} {G : Gx} {pc q : Nat} {lv st : List Value} {h : Hp} {a : Nat} {x1 : Int32} {e : Int32 → Hp → Option (ρ × Hp)} (hk : isO h a 10) (d : decode G.2.1 pc = .ok (.invokevirtual 67, 3)) (ho : G.1.cls = RL) (hdep : (g_X10_rounds).2.2.2.2 < G.2.2.2.2) (hcat : catS st ≤ 8) (hq : pc + 3 = q) (k : ∀ r h1, Sm rv G q lv (.int r :: st) h1 (e r h1)) : Sm rv G pc lv (.int x1 :: .ref a :: st) h (bd (f_X10_rounds a x1 h) e) :=
  Sm.callV (rv' := rvI) (args := [.int x1]) (n := 1) (t_X10_rounds a x1 h) hk (by decide) (r := (RX10, TX10, 43)) rfl rfl ho mw_1216 mw_1217 mw_1218 mw_11 mw_1219 ⟨⟨by decide, rfl, hdep, Nat.le_of_ble_eq_true rfl⟩, Nat.le_of_ble_eq_true rfl, rfl, ⟨by decide, by decide⟩, hcat⟩ (by decide +kernel) (by intro v hv; simp only [List.mem_cons, List.not_mem_nil, or_false] at hv; rcases hv with rfl <;> intro x hx <;> cases hx) d hq k rfl
abbrev g_X10_laysBoth : Gx := (yX10_laysBoth, cX10_laysBoth, 4, (Option.none : Option FieldType), 4)
def f_X10_laysBoth_7 (k7 : (Int32 × Hp) → Option (Unit × Hp)) (l0 : Nat) (l2 : Int32) (l3 : Int32) (h : Hp) : Option (Unit × Hp) :=
  (if (64 : Int32) ≤ l3 then
(ck h l0 10
(bd (f_X10_evaluates l0 l2 h) fun _ h5 =>
(some ((), h5))))
else
(ck h l0 10
((gP h l0 28).bind fun v7 =>
((gP h l0 24).bind fun v8 =>
(ca h v8 22 l3
(ca h v7 22 l3
(nm (l3 + (1 : Int32)) fun v11 =>
(k7 (v11, (sL h v7 l3.toNatClampNeg (gL h v8 l3.toNatClampNeg)))))))))))
set_option maxRecDepth 20000 in
theorem t_X10_laysBoth_7 (l0 : Nat) (l2 : Int32) (l3 : Int32) (h : Hp) (k7 : (Int32 × Hp) → Option (Unit × Hp)) (hk7 : ∀ s : Int32 × Hp, Sm rvV g_X10_laysBoth 7 [.ref l0, .null, .int l2, .int s.1] [] s.2 (k7 s)) : Sm rvV g_X10_laysBoth 7 [.ref l0, .null, .int l2, .int l3] [] h (f_X10_laysBoth_7 k7 l0 l2 l3 h) := by
  unfold f_X10_laysBoth_7
  refine Sm.iload_n dX10_laysBoth_7 rfl rfl rfl ?_
  refine Sm.bipush dX10_laysBoth_8 bp_64 rfl ?_
  refine Sm.icmp_ge (t := 31) dX10_laysBoth_10 (by decide) rfl (fun b3 => ?_) (fun b3 => ?_)
  · refine Sm.aload_n dX10_laysBoth_31 rfl rfl rfl ?_
    refine Sm.iload_n dX10_laysBoth_32 rfl rfl rfl ?_
    refine Sm.ck (fun o4 => ?_)
    refine kc_X10_235 o4 dX10_laysBoth_33 rfl (Nat.le_of_ble_eq_true rfl) (Nat.le_of_ble_eq_true rfl) rfl (fun _ h5 => ?_)
    exact Sm.ret (r := ()) dX10_laysBoth_36 trivial rfl
  · refine Sm.aload_n dX10_laysBoth_13 rfl rfl rfl ?_
    refine Sm.ck (fun o6 => ?_)
    refine gf_X10_65 o6 dX10_laysBoth_14 rfl rfl (fun v7 => ?_)
    refine Sm.iload_n dX10_laysBoth_17 rfl rfl rfl ?_
    refine Sm.aload_n dX10_laysBoth_18 rfl rfl rfl ?_
    refine gf_X10_55 o6 dX10_laysBoth_19 rfl rfl (fun v8 => ?_)
    refine Sm.iload_n dX10_laysBoth_22 rfl rfl rfl ?_
    refine Sm.ca (fun q9 => ?_)
    refine Sm.lald q9 dX10_laysBoth_23 rfl ?_
    refine Sm.ca (fun q10 => ?_)
    refine Sm.last q10 dX10_laysBoth_24 rfl ?_
    refine Sm.iinc (lv' := [.ref l0, .null, .int l2, .int (l3 + (1 : Int32))]) dX10_laysBoth_25 rfl ic_1 rfl rfl ?_
    refine Sm.nm (LV := fun v11 => [.ref l0, .null, .int l2, .int v11]) (ST := fun v11 => []) (fun v11 => ?_)
    refine Sm.goto (t := 7) dX10_laysBoth_28 (by decide) ?_
    exact Sm.wk (hk7 (v11, (sL h v7 l3.toNatClampNeg (gL h v8 l3.toNatClampNeg)))) ⟨Or.inr rfl, Or.inl rfl, Or.inr rfl, Or.inr rfl, trivial⟩
def f_X10_laysBoth (l0 : Nat) (l1 : Int32) (l2 : Int32) (h : Hp) : Option (Unit × Hp) :=
  (ck h l0 10
(bd (f_X10_evaluates l0 l1 h) fun _ h2 =>
(loopN (fun k s => f_X10_laysBoth_7 k l0 l2 s.1 s.2) 5000 ((0 : Int32), h2))))
set_option maxRecDepth 20000 in
theorem t_X10_laysBoth (l0 : Nat) (l1 : Int32) (l2 : Int32) (h : Hp) : Sm rvV g_X10_laysBoth 0 (ent 4 [.ref l0, .int l1, .int l2]) [] h (f_X10_laysBoth l0 l1 l2 h) := by
  show Sm rvV g_X10_laysBoth 0 [.ref l0, .int l1, .int l2, .null] [] h _
  unfold f_X10_laysBoth
  refine Sm.aload_n dX10_laysBoth_0 rfl rfl rfl ?_
  refine Sm.iload_n dX10_laysBoth_1 rfl rfl rfl ?_
  refine Sm.ck (fun o1 => ?_)
  refine kc_X10_235 o1 dX10_laysBoth_2 rfl (Nat.le_of_ble_eq_true rfl) (Nat.le_of_ble_eq_true rfl) rfl (fun _ h2 => ?_)
  refine Sm.iconst dX10_laysBoth_5 ic_0 rfl ?_
  refine Sm.istore_n (lv' := [.ref l0, .int l1, .int l2, .int (0 : Int32)]) dX10_laysBoth_6 rfl (Nat.le_of_ble_eq_true rfl) rfl rfl ?_
  exact Sm.wk (Sm.loop (σ := Int32 × Hp) (LV := fun s => [.ref l0, .null, .int l2, .int s.1]) (HH := fun s => s.2) (fun k hk s => t_X10_laysBoth_7 l0 l2 s.1 s.2 k hk) 5000 ((0 : Int32), h2)) ⟨Or.inr rfl, Or.inl rfl, Or.inr rfl, Or.inr rfl, trivial⟩
set_option maxRecDepth 20000 in
theorem kc_X10_258 {ρ : Type} {rv : ρ → Option Value} {G : Gx} {pc q : Nat} {lv st : List Value} {h : Hp} {a : Nat} {x1 : Int32} {x2 : Int32} {e : Unit → Hp → Option (ρ × Hp)} (hk : isO h a 10) (d : decode G.2.1 pc = .ok (.invokevirtual 258, 3)) (ho : G.1.cls = RX10) (hdep : (g_X10_laysBoth).2.2.2.2 < G.2.2.2.2) (hcat : catS st ≤ 8) (hq : pc + 3 = q) (k : ∀ r h1, Sm rv G q lv (st) h1 (e r h1)) : Sm rv G pc lv (.int x2 :: .int x1 :: .ref a :: st) h (bd (f_X10_laysBoth a x1 x2 h) e) :=
  Sm.callV (rv' := rvV) (args := [.int x1, .int x2]) (n := 2) (t_X10_laysBoth a x1 x2 h) hk (by decide) (r := (RX10, TX10, 43)) rfl rfl ho mw_1232 mw_1234 mp_84 mw_11 mw_1235 ⟨⟨by decide, rfl, hdep, Nat.le_of_ble_eq_true rfl⟩, Nat.le_of_ble_eq_true rfl, rfl, ⟨by decide, by decide⟩, hcat⟩ (by decide +kernel) (by intro v hv; simp only [List.mem_cons, List.not_mem_nil, or_false] at hv; rcases hv with rfl | rfl <;> intro x hx <;> cases hx) d hq k rfl
abbrev g_X10_compared : Gx := (yX10_compared, cX10_compared, 6, (Option.some FieldType.int), 5)
def f_X10_compared_110 (l3 : Int32) (l4 : Int32) (h : Hp) : Option (Int32 × Hp) :=
  (if l3 = 0 then
(if l4 = 0 then
(some ((3 : Int32), h))
else
(some ((2 : Int32), h)))
else
(some ((1 : Int32), h)))
set_option maxRecDepth 20000 in
theorem t_X10_compared_110 (l3 : Int32) (l4 : Int32) (h : Hp) : Sm rvI g_X10_compared 110 [.null, .null, .null, .int l3, .int l4, .null] [] h (f_X10_compared_110 l3 l4 h) := by
  unfold f_X10_compared_110
  refine Sm.iload_n dX10_compared_110 rfl rfl rfl ?_
  refine Sm.if_eq (t := 118) dX10_compared_111 (by decide) rfl (fun b5 => ?_) (fun b5 => ?_)
  · refine Sm.iload dX10_compared_118 rfl rfl ?_
    refine Sm.if_eq (t := 127) dX10_compared_120 (by decide) rfl (fun b6 => ?_) (fun b6 => ?_)
    · refine Sm.iconst dX10_compared_127 ic_3 rfl ?_
      exact Sm.ret dX10_compared_128 trivial rfl
    · refine Sm.iconst dX10_compared_123 ic_2 rfl ?_
      refine Sm.goto (t := 128) dX10_compared_124 (by decide) ?_
      exact Sm.ret dX10_compared_128 trivial rfl
  · refine Sm.iconst dX10_compared_114 ic_1 rfl ?_
    refine Sm.goto (t := 128) dX10_compared_115 (by decide) ?_
    exact Sm.ret dX10_compared_128 trivial rfl
def f_X10_compared_54 (k14 : (Int32 × Int32 × Int32) → Option (Int32 × Hp)) (l0 : Nat) (l4 : Int32) (l5 : Int32) (s0 : Int32) (h : Hp) : Option (Int32 × Hp) :=
  (if l4 = 0 then
(nm (l5 + (1 : Int32)) fun v10 =>
(k14 (s0, (0 : Int32), v10)))
else
(ck h l0 10
((gP h l0 24).bind fun v12 =>
(ca h v12 22 l5
((gP h l0 28).bind fun v14 =>
(ca h v14 22 l5
(if (lg_cmp ((gL h v12 l5.toNatClampNeg) &&& ((gL h v14 l5.toNatClampNeg) ^^^ (-1 : Int64))) (0 : Int64)) = 0 then
(nm (l5 + (1 : Int32)) fun v17 =>
(k14 (s0, (1 : Int32), v17)))
else
(nm (l5 + (1 : Int32)) fun v18 =>
(k14 (s0, (0 : Int32), v18))))))))))
set_option maxRecDepth 20000 in
theorem t_X10_compared_54 (l0 : Nat) (l4 : Int32) (l5 : Int32) (s0 : Int32) (h : Hp) (k14 : (Int32 × Int32 × Int32) → Option (Int32 × Hp)) (hk14 : ∀ s : Int32 × Int32 × Int32, Sm rvI g_X10_compared 14 [.ref l0, .null, .null, .int s.1, .int s.2.1, .int s.2.2] [] h (k14 s)) : Sm rvI g_X10_compared 54 [.ref l0, .null, .null, .null, .int l4, .int l5] [.int s0] h (f_X10_compared_54 k14 l0 l4 l5 s0 h) := by
  unfold f_X10_compared_54
  refine Sm.istore_n (lv' := [.ref l0, .null, .null, .int s0, .int l4, .int l5]) dX10_compared_54 rfl (Nat.le_of_ble_eq_true rfl) rfl rfl ?_
  refine Sm.iload dX10_compared_55 rfl rfl ?_
  refine Sm.if_eq (t := 88) dX10_compared_57 (by decide) rfl (fun b9 => ?_) (fun b9 => ?_)
  · refine Sm.iconst dX10_compared_88 ic_0 rfl ?_
    refine Sm.istore (lv' := [.ref l0, .null, .null, .int s0, .int (0 : Int32), .int l5]) dX10_compared_89 (Nat.le_of_ble_eq_true rfl) rfl rfl ?_
    refine Sm.iinc (lv' := [.ref l0, .null, .null, .int s0, .int (0 : Int32), .int (l5 + (1 : Int32))]) dX10_compared_91 rfl ic_1 rfl rfl ?_
    refine Sm.nm (LV := fun v10 => [.ref l0, .null, .null, .int s0, .int (0 : Int32), .int v10]) (ST := fun v10 => []) (fun v10 => ?_)
    refine Sm.goto (t := 14) dX10_compared_94 (by decide) ?_
    exact Sm.wk (hk14 (s0, (0 : Int32), v10)) ⟨Or.inr rfl, Or.inl rfl, Or.inl rfl, Or.inr rfl, Or.inr rfl, Or.inr rfl, trivial⟩
  · refine Sm.aload_n dX10_compared_60 rfl rfl rfl ?_
    refine Sm.ck (fun o11 => ?_)
    refine gf_X10_55 o11 dX10_compared_61 rfl rfl (fun v12 => ?_)
    refine Sm.iload dX10_compared_64 rfl rfl ?_
    refine Sm.ca (fun q13 => ?_)
    refine Sm.lald q13 dX10_compared_66 rfl ?_
    refine Sm.aload_n dX10_compared_67 rfl rfl rfl ?_
    refine gf_X10_65 o11 dX10_compared_68 rfl rfl (fun v14 => ?_)
    refine Sm.iload dX10_compared_71 rfl rfl ?_
    refine Sm.ca (fun q15 => ?_)
    refine Sm.lald q15 dX10_compared_73 rfl ?_
    refine Sm.ldc2 dX10_compared_74 mw_1196 rfl ?_
    refine Sm.lxor dX10_compared_77 rfl ?_
    refine Sm.land dX10_compared_78 rfl ?_
    refine Sm.lconst (v := (0 : Int64)) dX10_compared_79 (by decide) rfl ?_
    refine Sm.lcmp dX10_compared_80 rfl ?_
    refine Sm.if_ne (t := 88) dX10_compared_81 (by decide) rfl (fun b16 => ?_) (fun b16 => ?_)
    · refine Sm.iconst dX10_compared_84 ic_1 rfl ?_
      refine Sm.goto (t := 89) dX10_compared_85 (by decide) ?_
      refine Sm.istore (lv' := [.ref l0, .null, .null, .int s0, .int (1 : Int32), .int l5]) dX10_compared_89 (Nat.le_of_ble_eq_true rfl) rfl rfl ?_
      refine Sm.iinc (lv' := [.ref l0, .null, .null, .int s0, .int (1 : Int32), .int (l5 + (1 : Int32))]) dX10_compared_91 rfl ic_1 rfl rfl ?_
      refine Sm.nm (LV := fun v17 => [.ref l0, .null, .null, .int s0, .int (1 : Int32), .int v17]) (ST := fun v17 => []) (fun v17 => ?_)
      refine Sm.goto (t := 14) dX10_compared_94 (by decide) ?_
      exact Sm.wk (hk14 (s0, (1 : Int32), v17)) ⟨Or.inr rfl, Or.inl rfl, Or.inl rfl, Or.inr rfl, Or.inr rfl, Or.inr rfl, trivial⟩
    · refine Sm.iconst dX10_compared_88 ic_0 rfl ?_
      refine Sm.istore (lv' := [.ref l0, .null, .null, .int s0, .int (0 : Int32), .int l5]) dX10_compared_89 (Nat.le_of_ble_eq_true rfl) rfl rfl ?_
      refine Sm.iinc (lv' := [.ref l0, .null, .null, .int s0, .int (0 : Int32), .int (l5 + (1 : Int32))]) dX10_compared_91 rfl ic_1 rfl rfl ?_
      refine Sm.nm (LV := fun v18 => [.ref l0, .null, .null, .int s0, .int (0 : Int32), .int v18]) (ST := fun v18 => []) (fun v18 => ?_)
      refine Sm.goto (t := 14) dX10_compared_94 (by decide) ?_
      exact Sm.wk (hk14 (s0, (0 : Int32), v18)) ⟨Or.inr rfl, Or.inl rfl, Or.inl rfl, Or.inr rfl, Or.inr rfl, Or.inr rfl, trivial⟩
def f_X10_compared_53 (k14 : (Int32 × Int32 × Int32) → Option (Int32 × Hp)) (l0 : Nat) (l4 : Int32) (l5 : Int32) (h : Hp) : Option (Int32 × Hp) :=
  (f_X10_compared_54 k14 l0 l4 l5 (0 : Int32) h)
set_option maxRecDepth 20000 in
theorem t_X10_compared_53 (l0 : Nat) (l4 : Int32) (l5 : Int32) (h : Hp) (k14 : (Int32 × Int32 × Int32) → Option (Int32 × Hp)) (hk14 : ∀ s : Int32 × Int32 × Int32, Sm rvI g_X10_compared 14 [.ref l0, .null, .null, .int s.1, .int s.2.1, .int s.2.2] [] h (k14 s)) : Sm rvI g_X10_compared 53 [.ref l0, .null, .null, .null, .int l4, .int l5] [] h (f_X10_compared_53 k14 l0 l4 l5 h) := by
  unfold f_X10_compared_53
  refine Sm.iconst dX10_compared_53 ic_0 rfl ?_
  exact Sm.wk (t_X10_compared_54 l0 l4 l5 (0 : Int32) h k14 hk14) ⟨Or.inr rfl, Or.inl rfl, Or.inl rfl, Or.inl rfl, Or.inr rfl, Or.inr rfl, trivial⟩
def f_X10_compared_14 (k14 : (Int32 × Int32 × Int32) → Option (Int32 × Hp)) (l0 : Nat) (l3 : Int32) (l4 : Int32) (l5 : Int32) (h : Hp) : Option (Int32 × Hp) :=
  (if (64 : Int32) ≤ l5 then
(if l3 = 0 then
(f_X10_compared_110 l3 l4 h)
else
(if l4 = 0 then
(f_X10_compared_110 l3 l4 h)
else
(some ((0 : Int32), h))))
else
(if l3 = 0 then
(f_X10_compared_53 k14 l0 l4 l5 h)
else
(ck h l0 10
((gP h l0 28).bind fun v20 =>
(ca h v20 22 l5
((gP h l0 24).bind fun v22 =>
(ca h v22 22 l5
(if (lg_cmp ((gL h v20 l5.toNatClampNeg) &&& ((gL h v22 l5.toNatClampNeg) ^^^ (-1 : Int64))) (0 : Int64)) = 0 then
(f_X10_compared_54 k14 l0 l4 l5 (1 : Int32) h)
else
(f_X10_compared_53 k14 l0 l4 l5 h)))))))))
set_option maxRecDepth 20000 in
theorem t_X10_compared_14 (l0 : Nat) (l3 : Int32) (l4 : Int32) (l5 : Int32) (h : Hp) (k14 : (Int32 × Int32 × Int32) → Option (Int32 × Hp)) (hk14 : ∀ s : Int32 × Int32 × Int32, Sm rvI g_X10_compared 14 [.ref l0, .null, .null, .int s.1, .int s.2.1, .int s.2.2] [] h (k14 s)) : Sm rvI g_X10_compared 14 [.ref l0, .null, .null, .int l3, .int l4, .int l5] [] h (f_X10_compared_14 k14 l0 l3 l4 l5 h) := by
  unfold f_X10_compared_14
  refine Sm.iload dX10_compared_14 rfl rfl ?_
  refine Sm.bipush dX10_compared_16 bp_64 rfl ?_
  refine Sm.icmp_ge (t := 97) dX10_compared_18 (by decide) rfl (fun b3 => ?_) (fun b3 => ?_)
  · refine Sm.iload_n dX10_compared_97 rfl rfl rfl ?_
    refine Sm.if_eq (t := 110) dX10_compared_98 (by decide) rfl (fun b4 => ?_) (fun b4 => ?_)
    · exact Sm.wk (t_X10_compared_110 l3 l4 h) ⟨Or.inl rfl, Or.inl rfl, Or.inl rfl, Or.inr rfl, Or.inr rfl, Or.inl rfl, trivial⟩
    · refine Sm.iload dX10_compared_101 rfl rfl ?_
      refine Sm.if_eq (t := 110) dX10_compared_103 (by decide) rfl (fun b7 => ?_) (fun b7 => ?_)
      · exact Sm.wk (t_X10_compared_110 l3 l4 h) ⟨Or.inl rfl, Or.inl rfl, Or.inl rfl, Or.inr rfl, Or.inr rfl, Or.inl rfl, trivial⟩
      · refine Sm.iconst dX10_compared_106 ic_0 rfl ?_
        refine Sm.goto (t := 128) dX10_compared_107 (by decide) ?_
        exact Sm.ret dX10_compared_128 trivial rfl
  · refine Sm.iload_n dX10_compared_21 rfl rfl rfl ?_
    refine Sm.if_eq (t := 53) dX10_compared_22 (by decide) rfl (fun b8 => ?_) (fun b8 => ?_)
    · exact Sm.wk (t_X10_compared_53 l0 l4 l5 h k14 hk14) ⟨Or.inr rfl, Or.inl rfl, Or.inl rfl, Or.inl rfl, Or.inr rfl, Or.inr rfl, trivial⟩
    · refine Sm.aload_n dX10_compared_25 rfl rfl rfl ?_
      refine Sm.ck (fun o19 => ?_)
      refine gf_X10_65 o19 dX10_compared_26 rfl rfl (fun v20 => ?_)
      refine Sm.iload dX10_compared_29 rfl rfl ?_
      refine Sm.ca (fun q21 => ?_)
      refine Sm.lald q21 dX10_compared_31 rfl ?_
      refine Sm.aload_n dX10_compared_32 rfl rfl rfl ?_
      refine gf_X10_55 o19 dX10_compared_33 rfl rfl (fun v22 => ?_)
      refine Sm.iload dX10_compared_36 rfl rfl ?_
      refine Sm.ca (fun q23 => ?_)
      refine Sm.lald q23 dX10_compared_38 rfl ?_
      refine Sm.ldc2 dX10_compared_39 mw_1196 rfl ?_
      refine Sm.lxor dX10_compared_42 rfl ?_
      refine Sm.land dX10_compared_43 rfl ?_
      refine Sm.lconst (v := (0 : Int64)) dX10_compared_44 (by decide) rfl ?_
      refine Sm.lcmp dX10_compared_45 rfl ?_
      refine Sm.if_ne (t := 53) dX10_compared_46 (by decide) rfl (fun b24 => ?_) (fun b24 => ?_)
      · refine Sm.iconst dX10_compared_49 ic_1 rfl ?_
        refine Sm.goto (t := 54) dX10_compared_50 (by decide) ?_
        exact Sm.wk (t_X10_compared_54 l0 l4 l5 (1 : Int32) h k14 hk14) ⟨Or.inr rfl, Or.inl rfl, Or.inl rfl, Or.inl rfl, Or.inr rfl, Or.inr rfl, trivial⟩
      · exact Sm.wk (t_X10_compared_53 l0 l4 l5 h k14 hk14) ⟨Or.inr rfl, Or.inl rfl, Or.inl rfl, Or.inl rfl, Or.inr rfl, Or.inr rfl, trivial⟩
def f_X10_compared (l0 : Nat) (l1 : Int32) (l2 : Int32) (h : Hp) : Option (Int32 × Hp) :=
  (ck h l0 10
(bd (f_X10_laysBoth l0 l1 l2 h) fun _ h2 =>
(loopN (fun k s => f_X10_compared_14 k l0 s.1 s.2.1 s.2.2 h2) 5000 ((1 : Int32), (1 : Int32), (0 : Int32)))))
set_option maxRecDepth 20000 in
theorem t_X10_compared (l0 : Nat) (l1 : Int32) (l2 : Int32) (h : Hp) : Sm rvI g_X10_compared 0 (ent 6 [.ref l0, .int l1, .int l2]) [] h (f_X10_compared l0 l1 l2 h) := by
  show Sm rvI g_X10_compared 0 [.ref l0, .int l1, .int l2, .null, .null, .null] [] h _
  unfold f_X10_compared
  refine Sm.aload_n dX10_compared_0 rfl rfl rfl ?_
  refine Sm.iload_n dX10_compared_1 rfl rfl rfl ?_
  refine Sm.iload_n dX10_compared_2 rfl rfl rfl ?_
  refine Sm.ck (fun o1 => ?_)
  refine kc_X10_258 o1 dX10_compared_3 rfl (Nat.le_of_ble_eq_true rfl) (Nat.le_of_ble_eq_true rfl) rfl (fun _ h2 => ?_)
  refine Sm.iconst dX10_compared_6 ic_1 rfl ?_
  refine Sm.istore_n (lv' := [.ref l0, .int l1, .int l2, .int (1 : Int32), .null, .null]) dX10_compared_7 rfl (Nat.le_of_ble_eq_true rfl) rfl rfl ?_
  refine Sm.iconst dX10_compared_8 ic_1 rfl ?_
  refine Sm.istore (lv' := [.ref l0, .int l1, .int l2, .int (1 : Int32), .int (1 : Int32), .null]) dX10_compared_9 (Nat.le_of_ble_eq_true rfl) rfl rfl ?_
  refine Sm.iconst dX10_compared_11 ic_0 rfl ?_
  refine Sm.istore (lv' := [.ref l0, .int l1, .int l2, .int (1 : Int32), .int (1 : Int32), .int (0 : Int32)]) dX10_compared_12 (Nat.le_of_ble_eq_true rfl) rfl rfl ?_
  exact Sm.wk (Sm.loop (σ := Int32 × Int32 × Int32) (LV := fun s => [.ref l0, .null, .null, .int s.1, .int s.2.1, .int s.2.2]) (HH := fun s => h2) (fun k hk s => t_X10_compared_14 l0 s.1 s.2.1 s.2.2 h2 k hk) 5000 ((1 : Int32), (1 : Int32), (0 : Int32))) ⟨Or.inr rfl, Or.inl rfl, Or.inl rfl, Or.inr rfl, Or.inr rfl, Or.inr rfl, trivial⟩
set_option maxRecDepth 20000 in
theorem kc_X10_261 {ρ : Type} {rv : ρ → Option Value} {G : Gx} {pc q : Nat} {lv st : List Value} {h : Hp} {a : Nat} {x1 : Int32} {x2 : Int32} {e : Int32 → Hp → Option (ρ × Hp)} (hk : isO h a 10) (d : decode G.2.1 pc = .ok (.invokevirtual 261, 3)) (ho : G.1.cls = RX10) (hdep : (g_X10_compared).2.2.2.2 < G.2.2.2.2) (hcat : catS st ≤ 8) (hq : pc + 3 = q) (k : ∀ r h1, Sm rv G q lv (.int r :: st) h1 (e r h1)) : Sm rv G pc lv (.int x2 :: .int x1 :: .ref a :: st) h (bd (f_X10_compared a x1 x2 h) e) :=
  Sm.callV (rv' := rvI) (args := [.int x1, .int x2]) (n := 2) (t_X10_compared a x1 x2 h) hk (by decide) (r := (RX10, TX10, 43)) rfl rfl ho mw_1228 mw_1230 mp_83 mw_11 mw_1231 ⟨⟨by decide, rfl, hdep, Nat.le_of_ble_eq_true rfl⟩, Nat.le_of_ble_eq_true rfl, rfl, ⟨by decide, by decide⟩, hcat⟩ (by decide +kernel) (by intro v hv; simp only [List.mem_cons, List.not_mem_nil, or_false] at hv; rcases hv with rfl | rfl <;> intro x hx <;> cases hx) d hq k rfl
abbrev g_X10_compare : Gx := (yX10_compare, cX10_compare, 3, (Option.some FieldType.int), 6)
def f_X10_compare_23 (l0 : Nat) (h : Hp) : Option (Int32 × Hp) :=
  (ck h l0 10
(bd (f_X10_fails l0 (-2 : Int32) h) fun v5 h6 =>
(some (v5, h6))))
set_option maxRecDepth 20000 in
theorem t_X10_compare_23 (l0 : Nat) (h : Hp) : Sm rvI g_X10_compare 23 [.ref l0, .null, .null] [] h (f_X10_compare_23 l0 h) := by
  unfold f_X10_compare_23
  refine Sm.aload_n dX10_compare_23 rfl rfl rfl ?_
  refine Sm.bipush dX10_compare_24 bp_m2 rfl ?_
  refine Sm.ck (fun o4 => ?_)
  refine kc_X10_106 o4 dX10_compare_26 rfl (Nat.le_of_ble_eq_true rfl) (Nat.le_of_ble_eq_true rfl) rfl (fun v5 h6 => ?_)
  exact Sm.ret dX10_compare_29 trivial rfl
def f_X10_compare (l0 : Nat) (l1 : Int32) (l2 : Int32) (h : Hp) : Option (Int32 × Hp) :=
  (bd (f_X10_isSlot l1 h) fun v1 h2 =>
(if v1 = 0 then
(f_X10_compare_23 l0 h2)
else
(bd (f_X10_isSlot l2 h2) fun v7 h8 =>
(if v7 = 0 then
(f_X10_compare_23 l0 h8)
else
(ck h8 l0 10
(bd (f_X10_compared l0 l1 l2 h8) fun v11 h12 =>
(some (v11, h12))))))))
set_option maxRecDepth 20000 in
theorem t_X10_compare (l0 : Nat) (l1 : Int32) (l2 : Int32) (h : Hp) : Sm rvI g_X10_compare 0 (ent 3 [.ref l0, .int l1, .int l2]) [] h (f_X10_compare l0 l1 l2 h) := by
  show Sm rvI g_X10_compare 0 [.ref l0, .int l1, .int l2] [] h _
  unfold f_X10_compare
  refine Sm.iload_n dX10_compare_0 rfl rfl rfl ?_
  refine kc_X10_179 dX10_compare_1 rfl (Nat.le_of_ble_eq_true rfl) (Nat.le_of_ble_eq_true rfl) rfl (fun v1 h2 => ?_)
  refine Sm.if_eq (t := 23) dX10_compare_4 (by decide) rfl (fun b3 => ?_) (fun b3 => ?_)
  · exact Sm.wk (t_X10_compare_23 l0 h2) ⟨Or.inr rfl, Or.inl rfl, Or.inl rfl, trivial⟩
  · refine Sm.iload_n dX10_compare_7 rfl rfl rfl ?_
    refine kc_X10_179 dX10_compare_8 rfl (Nat.le_of_ble_eq_true rfl) (Nat.le_of_ble_eq_true rfl) rfl (fun v7 h8 => ?_)
    refine Sm.if_eq (t := 23) dX10_compare_11 (by decide) rfl (fun b9 => ?_) (fun b9 => ?_)
    · exact Sm.wk (t_X10_compare_23 l0 h8) ⟨Or.inr rfl, Or.inl rfl, Or.inl rfl, trivial⟩
    · refine Sm.aload_n dX10_compare_14 rfl rfl rfl ?_
      refine Sm.iload_n dX10_compare_15 rfl rfl rfl ?_
      refine Sm.iload_n dX10_compare_16 rfl rfl rfl ?_
      refine Sm.ck (fun o10 => ?_)
      refine kc_X10_261 o10 dX10_compare_17 rfl (Nat.le_of_ble_eq_true rfl) (Nat.le_of_ble_eq_true rfl) rfl (fun v11 h12 => ?_)
      refine Sm.goto (t := 29) dX10_compare_20 (by decide) ?_
      exact Sm.ret dX10_compare_29 trivial rfl
set_option maxRecDepth 20000 in
theorem kc_L_71 {ρ : Type} {rv : ρ → Option Value} {G : Gx} {pc q : Nat} {lv st : List Value} {h : Hp} {a : Nat} {x1 : Int32} {x2 : Int32} {e : Int32 → Hp → Option (ρ × Hp)} (hk : isO h a 10) (d : decode G.2.1 pc = .ok (.invokevirtual 71, 3)) (ho : G.1.cls = RL) (hdep : (g_X10_compare).2.2.2.2 < G.2.2.2.2) (hcat : catS st ≤ 8) (hq : pc + 3 = q) (k : ∀ r h1, Sm rv G q lv (.int r :: st) h1 (e r h1)) : Sm rv G pc lv (.int x2 :: .int x1 :: .ref a :: st) h (bd (f_X10_compare a x1 x2 h) e) :=
  Sm.callV (rv' := rvI) (args := [.int x1, .int x2]) (n := 2) (t_X10_compare a x1 x2 h) hk (by decide) (r := (RX10, TX10, 43)) rfl rfl ho mw_1224 mw_1225 mw_1226 mw_11 mw_1227 ⟨⟨by decide, rfl, hdep, Nat.le_of_ble_eq_true rfl⟩, Nat.le_of_ble_eq_true rfl, rfl, ⟨by decide, by decide⟩, hcat⟩ (by decide +kernel) (by intro v hv; simp only [List.mem_cons, List.not_mem_nil, or_false] at hv; rcases hv with rfl | rfl <;> intro x hx <;> cases hx) d hq k rfl
abbrev g_X10_witnessOf : Gx := (yX10_witnessOf, cX10_witnessOf, 4, (Option.some FieldType.int), 5)
def f_X10_witnessOf_36 (l3 : Int32) (h : Hp) : Option (Int32 × Hp) :=
  (if l3 = (64 : Int32) then
(some ((-1 : Int32), h))
else
(some (l3, h)))
set_option maxRecDepth 20000 in
theorem t_X10_witnessOf_36 (l3 : Int32) (h : Hp) : Sm rvI g_X10_witnessOf 36 [.null, .null, .null, .int l3] [] h (f_X10_witnessOf_36 l3 h) := by
  unfold f_X10_witnessOf_36
  refine Sm.iload_n dX10_witnessOf_36 rfl rfl rfl ?_
  refine Sm.bipush dX10_witnessOf_37 bp_64 rfl ?_
  refine Sm.icmp_ne (t := 46) dX10_witnessOf_39 (by decide) rfl (fun b4 => ?_) (fun b4 => ?_)
  · refine Sm.iconst dX10_witnessOf_42 ic_m1 rfl ?_
    refine Sm.goto (t := 47) dX10_witnessOf_43 (by decide) ?_
    exact Sm.ret dX10_witnessOf_47 trivial rfl
  · refine Sm.iload_n dX10_witnessOf_46 rfl rfl rfl ?_
    exact Sm.ret dX10_witnessOf_47 trivial rfl
def f_X10_witnessOf_8 (k8 : Int32 → Option (Int32 × Hp)) (l0 : Nat) (l3 : Int32) (h : Hp) : Option (Int32 × Hp) :=
  (if (64 : Int32) ≤ l3 then
(f_X10_witnessOf_36 l3 h)
else
(ck h l0 10
((gP h l0 28).bind fun v6 =>
(ca h v6 22 l3
((gP h l0 24).bind fun v8 =>
(ca h v8 22 l3
(if (lg_cmp (gL h v6 l3.toNatClampNeg) (gL h v8 l3.toNatClampNeg)) = 0 then
(nm (l3 + (1 : Int32)) fun v11 =>
(k8 v11))
else
(f_X10_witnessOf_36 l3 h))))))))
set_option maxRecDepth 20000 in
theorem t_X10_witnessOf_8 (l0 : Nat) (l3 : Int32) (h : Hp) (k8 : Int32 → Option (Int32 × Hp)) (hk8 : ∀ s : Int32, Sm rvI g_X10_witnessOf 8 [.ref l0, .null, .null, .int s] [] h (k8 s)) : Sm rvI g_X10_witnessOf 8 [.ref l0, .null, .null, .int l3] [] h (f_X10_witnessOf_8 k8 l0 l3 h) := by
  unfold f_X10_witnessOf_8
  refine Sm.iload_n dX10_witnessOf_8 rfl rfl rfl ?_
  refine Sm.bipush dX10_witnessOf_9 bp_64 rfl ?_
  refine Sm.icmp_ge (t := 36) dX10_witnessOf_11 (by decide) rfl (fun b3 => ?_) (fun b3 => ?_)
  · exact Sm.wk (t_X10_witnessOf_36 l3 h) ⟨Or.inl rfl, Or.inl rfl, Or.inl rfl, Or.inr rfl, trivial⟩
  · refine Sm.aload_n dX10_witnessOf_14 rfl rfl rfl ?_
    refine Sm.ck (fun o5 => ?_)
    refine gf_X10_65 o5 dX10_witnessOf_15 rfl rfl (fun v6 => ?_)
    refine Sm.iload_n dX10_witnessOf_18 rfl rfl rfl ?_
    refine Sm.ca (fun q7 => ?_)
    refine Sm.lald q7 dX10_witnessOf_19 rfl ?_
    refine Sm.aload_n dX10_witnessOf_20 rfl rfl rfl ?_
    refine gf_X10_55 o5 dX10_witnessOf_21 rfl rfl (fun v8 => ?_)
    refine Sm.iload_n dX10_witnessOf_24 rfl rfl rfl ?_
    refine Sm.ca (fun q9 => ?_)
    refine Sm.lald q9 dX10_witnessOf_25 rfl ?_
    refine Sm.lcmp dX10_witnessOf_26 rfl ?_
    refine Sm.if_ne (t := 36) dX10_witnessOf_27 (by decide) rfl (fun b10 => ?_) (fun b10 => ?_)
    · refine Sm.iinc (lv' := [.ref l0, .null, .null, .int (l3 + (1 : Int32))]) dX10_witnessOf_30 rfl ic_1 rfl rfl ?_
      refine Sm.nm (LV := fun v11 => [.ref l0, .null, .null, .int v11]) (ST := fun v11 => []) (fun v11 => ?_)
      refine Sm.goto (t := 8) dX10_witnessOf_33 (by decide) ?_
      exact Sm.wk (hk8 v11) ⟨Or.inr rfl, Or.inl rfl, Or.inl rfl, Or.inr rfl, trivial⟩
    · exact Sm.wk (t_X10_witnessOf_36 l3 h) ⟨Or.inl rfl, Or.inl rfl, Or.inl rfl, Or.inr rfl, trivial⟩
def f_X10_witnessOf (l0 : Nat) (l1 : Int32) (l2 : Int32) (h : Hp) : Option (Int32 × Hp) :=
  (ck h l0 10
(bd (f_X10_laysBoth l0 l1 l2 h) fun _ h2 =>
(loopN (fun k s => f_X10_witnessOf_8 k l0 s h2) 5000 (0 : Int32))))
set_option maxRecDepth 20000 in
theorem t_X10_witnessOf (l0 : Nat) (l1 : Int32) (l2 : Int32) (h : Hp) : Sm rvI g_X10_witnessOf 0 (ent 4 [.ref l0, .int l1, .int l2]) [] h (f_X10_witnessOf l0 l1 l2 h) := by
  show Sm rvI g_X10_witnessOf 0 [.ref l0, .int l1, .int l2, .null] [] h _
  unfold f_X10_witnessOf
  refine Sm.aload_n dX10_witnessOf_0 rfl rfl rfl ?_
  refine Sm.iload_n dX10_witnessOf_1 rfl rfl rfl ?_
  refine Sm.iload_n dX10_witnessOf_2 rfl rfl rfl ?_
  refine Sm.ck (fun o1 => ?_)
  refine kc_X10_258 o1 dX10_witnessOf_3 rfl (Nat.le_of_ble_eq_true rfl) (Nat.le_of_ble_eq_true rfl) rfl (fun _ h2 => ?_)
  refine Sm.iconst dX10_witnessOf_6 ic_0 rfl ?_
  refine Sm.istore_n (lv' := [.ref l0, .int l1, .int l2, .int (0 : Int32)]) dX10_witnessOf_7 rfl (Nat.le_of_ble_eq_true rfl) rfl rfl ?_
  exact Sm.wk (Sm.loop (σ := Int32) (LV := fun s => [.ref l0, .null, .null, .int s]) (HH := fun s => h2) (fun k hk s => t_X10_witnessOf_8 l0 s h2 k hk) 5000 (0 : Int32)) ⟨Or.inr rfl, Or.inl rfl, Or.inl rfl, Or.inr rfl, trivial⟩
set_option maxRecDepth 20000 in
theorem kc_X10_264 {ρ : Type} {rv : ρ → Option Value} {G : Gx} {pc q : Nat} {lv st : List Value} {h : Hp} {a : Nat} {x1 : Int32} {x2 : Int32} {e : Int32 → Hp → Option (ρ × Hp)} (hk : isO h a 10) (d : decode G.2.1 pc = .ok (.invokevirtual 264, 3)) (ho : G.1.cls = RX10) (hdep : (g_X10_witnessOf).2.2.2.2 < G.2.2.2.2) (hcat : catS st ≤ 8) (hq : pc + 3 = q) (k : ∀ r h1, Sm rv G q lv (.int r :: st) h1 (e r h1)) : Sm rv G pc lv (.int x2 :: .int x1 :: .ref a :: st) h (bd (f_X10_witnessOf a x1 x2 h) e) :=
  Sm.callV (rv' := rvI) (args := [.int x1, .int x2]) (n := 2) (t_X10_witnessOf a x1 x2 h) hk (by decide) (r := (RX10, TX10, 43)) rfl rfl ho mw_1240 mw_1242 mp_85 mw_11 mw_1243 ⟨⟨by decide, rfl, hdep, Nat.le_of_ble_eq_true rfl⟩, Nat.le_of_ble_eq_true rfl, rfl, ⟨by decide, by decide⟩, hcat⟩ (by decide +kernel) (by intro v hv; simp only [List.mem_cons, List.not_mem_nil, or_false] at hv; rcases hv with rfl | rfl <;> intro x hx <;> cases hx) d hq k rfl
abbrev g_X10_witness : Gx := (yX10_witness, cX10_witness, 3, (Option.some FieldType.int), 6)
def f_X10_witness_23 (l0 : Nat) (h : Hp) : Option (Int32 × Hp) :=
  (ck h l0 10
(bd (f_X10_fails l0 (-2 : Int32) h) fun v5 h6 =>
(some (v5, h6))))
set_option maxRecDepth 20000 in
theorem t_X10_witness_23 (l0 : Nat) (h : Hp) : Sm rvI g_X10_witness 23 [.ref l0, .null, .null] [] h (f_X10_witness_23 l0 h) := by
  unfold f_X10_witness_23
  refine Sm.aload_n dX10_witness_23 rfl rfl rfl ?_
  refine Sm.bipush dX10_witness_24 bp_m2 rfl ?_
  refine Sm.ck (fun o4 => ?_)
  refine kc_X10_106 o4 dX10_witness_26 rfl (Nat.le_of_ble_eq_true rfl) (Nat.le_of_ble_eq_true rfl) rfl (fun v5 h6 => ?_)
  exact Sm.ret dX10_witness_29 trivial rfl
def f_X10_witness (l0 : Nat) (l1 : Int32) (l2 : Int32) (h : Hp) : Option (Int32 × Hp) :=
  (bd (f_X10_isSlot l1 h) fun v1 h2 =>
(if v1 = 0 then
(f_X10_witness_23 l0 h2)
else
(bd (f_X10_isSlot l2 h2) fun v7 h8 =>
(if v7 = 0 then
(f_X10_witness_23 l0 h8)
else
(ck h8 l0 10
(bd (f_X10_witnessOf l0 l1 l2 h8) fun v11 h12 =>
(some (v11, h12))))))))
set_option maxRecDepth 20000 in
theorem t_X10_witness (l0 : Nat) (l1 : Int32) (l2 : Int32) (h : Hp) : Sm rvI g_X10_witness 0 (ent 3 [.ref l0, .int l1, .int l2]) [] h (f_X10_witness l0 l1 l2 h) := by
  show Sm rvI g_X10_witness 0 [.ref l0, .int l1, .int l2] [] h _
  unfold f_X10_witness
  refine Sm.iload_n dX10_witness_0 rfl rfl rfl ?_
  refine kc_X10_179 dX10_witness_1 rfl (Nat.le_of_ble_eq_true rfl) (Nat.le_of_ble_eq_true rfl) rfl (fun v1 h2 => ?_)
  refine Sm.if_eq (t := 23) dX10_witness_4 (by decide) rfl (fun b3 => ?_) (fun b3 => ?_)
  · exact Sm.wk (t_X10_witness_23 l0 h2) ⟨Or.inr rfl, Or.inl rfl, Or.inl rfl, trivial⟩
  · refine Sm.iload_n dX10_witness_7 rfl rfl rfl ?_
    refine kc_X10_179 dX10_witness_8 rfl (Nat.le_of_ble_eq_true rfl) (Nat.le_of_ble_eq_true rfl) rfl (fun v7 h8 => ?_)
    refine Sm.if_eq (t := 23) dX10_witness_11 (by decide) rfl (fun b9 => ?_) (fun b9 => ?_)
    · exact Sm.wk (t_X10_witness_23 l0 h8) ⟨Or.inr rfl, Or.inl rfl, Or.inl rfl, trivial⟩
    · refine Sm.aload_n dX10_witness_14 rfl rfl rfl ?_
      refine Sm.iload_n dX10_witness_15 rfl rfl rfl ?_
      refine Sm.iload_n dX10_witness_16 rfl rfl rfl ?_
      refine Sm.ck (fun o10 => ?_)
      refine kc_X10_264 o10 dX10_witness_17 rfl (Nat.le_of_ble_eq_true rfl) (Nat.le_of_ble_eq_true rfl) rfl (fun v11 h12 => ?_)
      refine Sm.goto (t := 29) dX10_witness_20 (by decide) ?_
      exact Sm.ret dX10_witness_29 trivial rfl
set_option maxRecDepth 20000 in
theorem kc_L_75 {ρ : Type} {rv : ρ → Option Value} {G : Gx} {pc q : Nat} {lv st : List Value} {h : Hp} {a : Nat} {x1 : Int32} {x2 : Int32} {e : Int32 → Hp → Option (ρ × Hp)} (hk : isO h a 10) (d : decode G.2.1 pc = .ok (.invokevirtual 75, 3)) (ho : G.1.cls = RL) (hdep : (g_X10_witness).2.2.2.2 < G.2.2.2.2) (hcat : catS st ≤ 8) (hq : pc + 3 = q) (k : ∀ r h1, Sm rv G q lv (.int r :: st) h1 (e r h1)) : Sm rv G pc lv (.int x2 :: .int x1 :: .ref a :: st) h (bd (f_X10_witness a x1 x2 h) e) :=
  Sm.callV (rv' := rvI) (args := [.int x1, .int x2]) (n := 2) (t_X10_witness a x1 x2 h) hk (by decide) (r := (RX10, TX10, 43)) rfl rfl ho mw_1236 mw_1237 mw_1238 mw_11 mw_1239 ⟨⟨by decide, rfl, hdep, Nat.le_of_ble_eq_true rfl⟩, Nat.le_of_ble_eq_true rfl, rfl, ⟨by decide, by decide⟩, hcat⟩ (by decide +kernel) (by intro v hv; simp only [List.mem_cons, List.not_mem_nil, or_false] at hv; rcases hv with rfl | rfl <;> intro x hx <;> cases hx) d hq k rfl
abbrev g_X10_difference : Gx := (yX10_difference, cX10_difference, 5, (Option.some FieldType.int), 6)
def f_X10_difference_14 (l0 : Nat) (h : Hp) : Option (Int32 × Hp) :=
  (ck h l0 10
(bd (f_X10_fails l0 (-2 : Int32) h) fun v5 h6 =>
(some (v5, h6))))
set_option maxRecDepth 20000 in
theorem t_X10_difference_14 (l0 : Nat) (h : Hp) : Sm rvI g_X10_difference 14 [.ref l0, .null, .null, .null, .null] [] h (f_X10_difference_14 l0 h) := by
  unfold f_X10_difference_14
  refine Sm.aload_n dX10_difference_14 rfl rfl rfl ?_
  refine Sm.bipush dX10_difference_15 bp_m2 rfl ?_
  refine Sm.ck (fun o4 => ?_)
  refine kc_X10_106 o4 dX10_difference_17 rfl (Nat.le_of_ble_eq_true rfl) (Nat.le_of_ble_eq_true rfl) rfl (fun v5 h6 => ?_)
  exact Sm.ret dX10_difference_20 trivial rfl
def f_X10_difference_65 (l3 : Int32) (l4 : Int32) (h : Hp) : Option (Int32 × Hp) :=
  (if l3 = (-1 : Int32) then
(some ((-1 : Int32), h))
else
(some (l4, h)))
set_option maxRecDepth 20000 in
theorem t_X10_difference_65 (l3 : Int32) (l4 : Int32) (h : Hp) : Sm rvI g_X10_difference 65 [.null, .null, .null, .int l3, .int l4] [] h (f_X10_difference_65 l3 l4 h) := by
  unfold f_X10_difference_65
  refine Sm.iload_n dX10_difference_65 rfl rfl rfl ?_
  refine Sm.iconst dX10_difference_66 ic_m1 rfl ?_
  refine Sm.icmp_ne (t := 74) dX10_difference_67 (by decide) rfl (fun b14 => ?_) (fun b14 => ?_)
  · refine Sm.iconst dX10_difference_70 ic_m1 rfl ?_
    refine Sm.goto (t := 76) dX10_difference_71 (by decide) ?_
    exact Sm.ret dX10_difference_76 trivial rfl
  · refine Sm.iload dX10_difference_74 rfl rfl ?_
    exact Sm.ret dX10_difference_76 trivial rfl
def f_X10_difference_31 (k31 : Int32 → Option (Int32 × Hp)) (l0 : Nat) (l3 : Int32) (l4 : Int32) (h : Hp) : Option (Int32 × Hp) :=
  (if l3 = (-1 : Int32) then
(f_X10_difference_65 l3 l4 h)
else
(ck h l0 10
((gP h l0 28).bind fun v16 =>
(ca h v16 22 l3
((gP h l0 24).bind fun v18 =>
(ca h v18 22 l3
(if (lg_cmp ((((gL h v16 l3.toNatClampNeg) ^^^ (gL h v18 l3.toNatClampNeg)) >>> (l4.toInt64 &&& 63)) &&& (1 : Int64)) (0 : Int64)) = 0 then
(nm (l4 + (1 : Int32)) fun v21 =>
(k31 v21))
else
(f_X10_difference_65 l3 l4 h))))))))
set_option maxRecDepth 20000 in
theorem t_X10_difference_31 (l0 : Nat) (l3 : Int32) (l4 : Int32) (h : Hp) (k31 : Int32 → Option (Int32 × Hp)) (hk31 : ∀ s : Int32, Sm rvI g_X10_difference 31 [.ref l0, .null, .null, .int l3, .int s] [] h (k31 s)) : Sm rvI g_X10_difference 31 [.ref l0, .null, .null, .int l3, .int l4] [] h (f_X10_difference_31 k31 l0 l3 l4 h) := by
  unfold f_X10_difference_31
  refine Sm.iload_n dX10_difference_31 rfl rfl rfl ?_
  refine Sm.iconst dX10_difference_32 ic_m1 rfl ?_
  refine Sm.icmp_eq (t := 65) dX10_difference_33 (by decide) rfl (fun b13 => ?_) (fun b13 => ?_)
  · exact Sm.wk (t_X10_difference_65 l3 l4 h) ⟨Or.inl rfl, Or.inl rfl, Or.inl rfl, Or.inr rfl, Or.inr rfl, trivial⟩
  · refine Sm.aload_n dX10_difference_36 rfl rfl rfl ?_
    refine Sm.ck (fun o15 => ?_)
    refine gf_X10_65 o15 dX10_difference_37 rfl rfl (fun v16 => ?_)
    refine Sm.iload_n dX10_difference_40 rfl rfl rfl ?_
    refine Sm.ca (fun q17 => ?_)
    refine Sm.lald q17 dX10_difference_41 rfl ?_
    refine Sm.aload_n dX10_difference_42 rfl rfl rfl ?_
    refine gf_X10_55 o15 dX10_difference_43 rfl rfl (fun v18 => ?_)
    refine Sm.iload_n dX10_difference_46 rfl rfl rfl ?_
    refine Sm.ca (fun q19 => ?_)
    refine Sm.lald q19 dX10_difference_47 rfl ?_
    refine Sm.lxor dX10_difference_48 rfl ?_
    refine Sm.iload dX10_difference_49 rfl rfl ?_
    refine Sm.lshr dX10_difference_51 rfl ?_
    refine Sm.lconst (v := (1 : Int64)) dX10_difference_52 (by decide) rfl ?_
    refine Sm.land dX10_difference_53 rfl ?_
    refine Sm.lconst (v := (0 : Int64)) dX10_difference_54 (by decide) rfl ?_
    refine Sm.lcmp dX10_difference_55 rfl ?_
    refine Sm.if_ne (t := 65) dX10_difference_56 (by decide) rfl (fun b20 => ?_) (fun b20 => ?_)
    · refine Sm.iinc (lv' := [.ref l0, .null, .null, .int l3, .int (l4 + (1 : Int32))]) dX10_difference_59 rfl ic_1 rfl rfl ?_
      refine Sm.nm (LV := fun v21 => [.ref l0, .null, .null, .int l3, .int v21]) (ST := fun v21 => []) (fun v21 => ?_)
      refine Sm.goto (t := 31) dX10_difference_62 (by decide) ?_
      exact Sm.wk (hk31 v21) ⟨Or.inr rfl, Or.inl rfl, Or.inl rfl, Or.inr rfl, Or.inr rfl, trivial⟩
    · exact Sm.wk (t_X10_difference_65 l3 l4 h) ⟨Or.inl rfl, Or.inl rfl, Or.inl rfl, Or.inr rfl, Or.inr rfl, trivial⟩
def f_X10_difference (l0 : Nat) (l1 : Int32) (l2 : Int32) (h : Hp) : Option (Int32 × Hp) :=
  (bd (f_X10_isSlot l1 h) fun v1 h2 =>
(if v1 = 0 then
(f_X10_difference_14 l0 h2)
else
(bd (f_X10_isSlot l2 h2) fun v7 h8 =>
(if v7 = 0 then
(f_X10_difference_14 l0 h8)
else
(ck h8 l0 10
(bd (f_X10_witnessOf l0 l1 l2 h8) fun v11 h12 =>
(loopN (fun k s => f_X10_difference_31 k l0 v11 s h12) 5000 (0 : Int32))))))))
set_option maxRecDepth 20000 in
theorem t_X10_difference (l0 : Nat) (l1 : Int32) (l2 : Int32) (h : Hp) : Sm rvI g_X10_difference 0 (ent 5 [.ref l0, .int l1, .int l2]) [] h (f_X10_difference l0 l1 l2 h) := by
  show Sm rvI g_X10_difference 0 [.ref l0, .int l1, .int l2, .null, .null] [] h _
  unfold f_X10_difference
  refine Sm.iload_n dX10_difference_0 rfl rfl rfl ?_
  refine kc_X10_179 dX10_difference_1 rfl (Nat.le_of_ble_eq_true rfl) (Nat.le_of_ble_eq_true rfl) rfl (fun v1 h2 => ?_)
  refine Sm.if_eq (t := 14) dX10_difference_4 (by decide) rfl (fun b3 => ?_) (fun b3 => ?_)
  · exact Sm.wk (t_X10_difference_14 l0 h2) ⟨Or.inr rfl, Or.inl rfl, Or.inl rfl, Or.inl rfl, Or.inl rfl, trivial⟩
  · refine Sm.iload_n dX10_difference_7 rfl rfl rfl ?_
    refine kc_X10_179 dX10_difference_8 rfl (Nat.le_of_ble_eq_true rfl) (Nat.le_of_ble_eq_true rfl) rfl (fun v7 h8 => ?_)
    refine Sm.if_ne (t := 21) dX10_difference_11 (by decide) rfl (fun b9 => ?_) (fun b9 => ?_)
    · exact Sm.wk (t_X10_difference_14 l0 h8) ⟨Or.inr rfl, Or.inl rfl, Or.inl rfl, Or.inl rfl, Or.inl rfl, trivial⟩
    · refine Sm.aload_n dX10_difference_21 rfl rfl rfl ?_
      refine Sm.iload_n dX10_difference_22 rfl rfl rfl ?_
      refine Sm.iload_n dX10_difference_23 rfl rfl rfl ?_
      refine Sm.ck (fun o10 => ?_)
      refine kc_X10_264 o10 dX10_difference_24 rfl (Nat.le_of_ble_eq_true rfl) (Nat.le_of_ble_eq_true rfl) rfl (fun v11 h12 => ?_)
      refine Sm.istore_n (lv' := [.ref l0, .int l1, .int l2, .int v11, .null]) dX10_difference_27 rfl (Nat.le_of_ble_eq_true rfl) rfl rfl ?_
      refine Sm.iconst dX10_difference_28 ic_0 rfl ?_
      refine Sm.istore (lv' := [.ref l0, .int l1, .int l2, .int v11, .int (0 : Int32)]) dX10_difference_29 (Nat.le_of_ble_eq_true rfl) rfl rfl ?_
      exact Sm.wk (Sm.loop (σ := Int32) (LV := fun s => [.ref l0, .null, .null, .int v11, .int s]) (HH := fun s => h12) (fun k hk s => t_X10_difference_31 l0 v11 s h12 k hk) 5000 (0 : Int32)) ⟨Or.inr rfl, Or.inl rfl, Or.inl rfl, Or.inr rfl, Or.inr rfl, trivial⟩
set_option maxRecDepth 20000 in
theorem kc_L_79 {ρ : Type} {rv : ρ → Option Value} {G : Gx} {pc q : Nat} {lv st : List Value} {h : Hp} {a : Nat} {x1 : Int32} {x2 : Int32} {e : Int32 → Hp → Option (ρ × Hp)} (hk : isO h a 10) (d : decode G.2.1 pc = .ok (.invokevirtual 79, 3)) (ho : G.1.cls = RL) (hdep : (g_X10_difference).2.2.2.2 < G.2.2.2.2) (hcat : catS st ≤ 8) (hq : pc + 3 = q) (k : ∀ r h1, Sm rv G q lv (.int r :: st) h1 (e r h1)) : Sm rv G pc lv (.int x2 :: .int x1 :: .ref a :: st) h (bd (f_X10_difference a x1 x2 h) e) :=
  Sm.callV (rv' := rvI) (args := [.int x1, .int x2]) (n := 2) (t_X10_difference a x1 x2 h) hk (by decide) (r := (RX10, TX10, 43)) rfl rfl ho mw_1244 mw_1245 mw_1246 mw_11 mw_1247 ⟨⟨by decide, rfl, hdep, Nat.le_of_ble_eq_true rfl⟩, Nat.le_of_ble_eq_true rfl, rfl, ⟨by decide, by decide⟩, hcat⟩ (by decide +kernel) (by intro v hv; simp only [List.mem_cons, List.not_mem_nil, or_false] at hv; rcases hv with rfl | rfl <;> intro x hx <;> cases hx) d hq k rfl
abbrev g_X10_actionOf : Gx := (yX10_actionOf, cX10_actionOf, 4, (Option.some FieldType.int), 1)
def f_X10_actionOf_4 (k4 : (Int32 × Int32 × Hp) → Option (Int32 × Hp)) (l0 : Int32) (l1 : Int32) (l2 : Int32) (l3 : Int32) (h : Hp) : Option (Int32 × Hp) :=
  (if (3 : Int32) ≤ l3 then
(some (l2, h))
else
(bd (f_X10_valueOf l0 l3 h) fun v2 h3 =>
(bd (f_X10_valueOf l1 l3 h3) fun v4 h5 =>
(if v2 = v4 then
(nm (((5 : Int32) * l2) + (4 : Int32)) fun v7 =>
(nm (l3 + (1 : Int32)) fun v8 =>
(k4 (v7, v8, h5))))
else
(bd (f_X10_valueOf l1 l3 h5) fun v9 h10 =>
(nm (((5 : Int32) * l2) + v9) fun v11 =>
(nm (l3 + (1 : Int32)) fun v12 =>
(k4 (v11, v12, h10)))))))))
set_option maxRecDepth 20000 in
theorem t_X10_actionOf_4 (l0 : Int32) (l1 : Int32) (l2 : Int32) (l3 : Int32) (h : Hp) (k4 : (Int32 × Int32 × Hp) → Option (Int32 × Hp)) (hk4 : ∀ s : Int32 × Int32 × Hp, Sm rvI g_X10_actionOf 4 [.int l0, .int l1, .int s.1, .int s.2.1] [] s.2.2 (k4 s)) : Sm rvI g_X10_actionOf 4 [.int l0, .int l1, .int l2, .int l3] [] h (f_X10_actionOf_4 k4 l0 l1 l2 l3 h) := by
  unfold f_X10_actionOf_4
  refine Sm.iload_n dX10_actionOf_4 rfl rfl rfl ?_
  refine Sm.iconst dX10_actionOf_5 ic_3 rfl ?_
  refine Sm.icmp_ge (t := 42) dX10_actionOf_6 (by decide) rfl (fun b1 => ?_) (fun b1 => ?_)
  · refine Sm.iload_n dX10_actionOf_42 rfl rfl rfl ?_
    exact Sm.ret dX10_actionOf_43 trivial rfl
  · refine Sm.iconst dX10_actionOf_9 ic_5 rfl ?_
    refine Sm.iload_n dX10_actionOf_10 rfl rfl rfl ?_
    refine Sm.imul dX10_actionOf_11 rfl ?_
    refine Sm.iload_n dX10_actionOf_12 rfl rfl rfl ?_
    refine Sm.iload_n dX10_actionOf_13 rfl rfl rfl ?_
    refine kc_X10_216 dX10_actionOf_14 rfl (Nat.le_of_ble_eq_true rfl) (Nat.le_of_ble_eq_true rfl) rfl (fun v2 h3 => ?_)
    refine Sm.iload_n dX10_actionOf_17 rfl rfl rfl ?_
    refine Sm.iload_n dX10_actionOf_18 rfl rfl rfl ?_
    refine kc_X10_216 dX10_actionOf_19 rfl (Nat.le_of_ble_eq_true rfl) (Nat.le_of_ble_eq_true rfl) rfl (fun v4 h5 => ?_)
    refine Sm.icmp_ne (t := 29) dX10_actionOf_22 (by decide) rfl (fun b6 => ?_) (fun b6 => ?_)
    · refine Sm.iconst dX10_actionOf_25 ic_4 rfl ?_
      refine Sm.goto (t := 34) dX10_actionOf_26 (by decide) ?_
      refine Sm.iadd dX10_actionOf_34 rfl ?_
      refine Sm.nm (LV := fun v7 => [.int l0, .int l1, .int l2, .int l3]) (ST := fun v7 => [.int v7]) (fun v7 => ?_)
      refine Sm.istore_n (lv' := [.int l0, .int l1, .int v7, .int l3]) dX10_actionOf_35 rfl (Nat.le_of_ble_eq_true rfl) rfl rfl ?_
      refine Sm.iinc (lv' := [.int l0, .int l1, .int v7, .int (l3 + (1 : Int32))]) dX10_actionOf_36 rfl ic_1 rfl rfl ?_
      refine Sm.nm (LV := fun v8 => [.int l0, .int l1, .int v7, .int v8]) (ST := fun v8 => []) (fun v8 => ?_)
      refine Sm.goto (t := 4) dX10_actionOf_39 (by decide) ?_
      exact Sm.wk (hk4 (v7, v8, h5)) ⟨Or.inr rfl, Or.inr rfl, Or.inr rfl, Or.inr rfl, trivial⟩
    · refine Sm.iload_n dX10_actionOf_29 rfl rfl rfl ?_
      refine Sm.iload_n dX10_actionOf_30 rfl rfl rfl ?_
      refine kc_X10_216 dX10_actionOf_31 rfl (Nat.le_of_ble_eq_true rfl) (Nat.le_of_ble_eq_true rfl) rfl (fun v9 h10 => ?_)
      refine Sm.iadd dX10_actionOf_34 rfl ?_
      refine Sm.nm (LV := fun v11 => [.int l0, .int l1, .int l2, .int l3]) (ST := fun v11 => [.int v11]) (fun v11 => ?_)
      refine Sm.istore_n (lv' := [.int l0, .int l1, .int v11, .int l3]) dX10_actionOf_35 rfl (Nat.le_of_ble_eq_true rfl) rfl rfl ?_
      refine Sm.iinc (lv' := [.int l0, .int l1, .int v11, .int (l3 + (1 : Int32))]) dX10_actionOf_36 rfl ic_1 rfl rfl ?_
      refine Sm.nm (LV := fun v12 => [.int l0, .int l1, .int v11, .int v12]) (ST := fun v12 => []) (fun v12 => ?_)
      refine Sm.goto (t := 4) dX10_actionOf_39 (by decide) ?_
      exact Sm.wk (hk4 (v11, v12, h10)) ⟨Or.inr rfl, Or.inr rfl, Or.inr rfl, Or.inr rfl, trivial⟩
def f_X10_actionOf (l0 : Int32) (l1 : Int32) (h : Hp) : Option (Int32 × Hp) :=
  (loopN (fun k s => f_X10_actionOf_4 k l0 l1 s.1 s.2.1 s.2.2) 5000 ((0 : Int32), (0 : Int32), h))
set_option maxRecDepth 20000 in
theorem t_X10_actionOf (l0 : Int32) (l1 : Int32) (h : Hp) : Sm rvI g_X10_actionOf 0 (ent 4 [.int l0, .int l1]) [] h (f_X10_actionOf l0 l1 h) := by
  show Sm rvI g_X10_actionOf 0 [.int l0, .int l1, .null, .null] [] h _
  unfold f_X10_actionOf
  refine Sm.iconst dX10_actionOf_0 ic_0 rfl ?_
  refine Sm.istore_n (lv' := [.int l0, .int l1, .int (0 : Int32), .null]) dX10_actionOf_1 rfl (Nat.le_of_ble_eq_true rfl) rfl rfl ?_
  refine Sm.iconst dX10_actionOf_2 ic_0 rfl ?_
  refine Sm.istore_n (lv' := [.int l0, .int l1, .int (0 : Int32), .int (0 : Int32)]) dX10_actionOf_3 rfl (Nat.le_of_ble_eq_true rfl) rfl rfl ?_
  exact Sm.wk (Sm.loop (σ := Int32 × Int32 × Hp) (LV := fun s => [.int l0, .int l1, .int s.1, .int s.2.1]) (HH := fun s => s.2.2) (fun k hk s => t_X10_actionOf_4 l0 l1 s.1 s.2.1 s.2.2 k hk) 5000 ((0 : Int32), (0 : Int32), h)) ⟨Or.inr rfl, Or.inr rfl, Or.inr rfl, Or.inr rfl, trivial⟩
set_option maxRecDepth 20000 in
theorem kc_X10_267 {ρ : Type} {rv : ρ → Option Value} {G : Gx} {pc q : Nat} {lv st : List Value} {h : Hp} {x0 : Int32} {x1 : Int32} {e : Int32 → Hp → Option (ρ × Hp)} (d : decode G.2.1 pc = .ok (.invokestatic 267, 3)) (ho : G.1.cls = RX10) (hdep : (g_X10_actionOf).2.2.2.2 < G.2.2.2.2) (hcat : catS st ≤ 8) (hq : pc + 3 = q) (k : ∀ r h1, Sm rv G q lv (.int r :: st) h1 (e r h1)) : Sm rv G pc lv (.int x1 :: .int x0 :: st) h (bd (f_X10_actionOf x0 x1 h) e) :=
  Sm.callS (rv' := rvI) (as := [.int x0, .int x1]) (n := 2) (t_X10_actionOf x0 x1 h) ho mw_1272 mw_1273 mw_11 mw_1274 ⟨⟨by decide, rfl, hdep, Nat.le_of_ble_eq_true rfl⟩, Nat.le_of_ble_eq_true rfl, rfl, ⟨by decide, by decide⟩, hcat⟩ (by decide +kernel) (by intro v hv; simp only [List.mem_cons, List.not_mem_nil, or_false] at hv; rcases hv with rfl | rfl <;> intro x hx <;> cases hx) d hq k rfl
abbrev g_X10_leafOf : Gx := (yX10_leafOf, cX10_leafOf, 8, (Option.some FieldType.int), 2)
def f_X10_leafOf_129 (l0 : Nat) (l2 : Int64) (l4 : Int64) (l6 : Int32) (h : Hp) : Option (Int32 × Hp) :=
  (ck h l0 10
((gP h l0 29).bind fun v5 =>
(ca h v5 22 l6
((gP (sL h v5 l6.toNatClampNeg l2) l0 30).bind fun v7 =>
(ca (sL h v5 l6.toNatClampNeg l2) v7 22 l6
(if l6 = (gI (sL (sL h v5 l6.toNatClampNeg l2) v7 l6.toNatClampNeg l4) l0 31) then
(nm (sI (sL (sL h v5 l6.toNatClampNeg l2) v7 l6.toNatClampNeg l4) l0 31 (l6 + (1 : Int32))) fun h10 =>
(some (l6, h10)))
else
(nm (sI (sL (sL h v5 l6.toNatClampNeg l2) v7 l6.toNatClampNeg l4) l0 31 (gI (sL (sL h v5 l6.toNatClampNeg l2) v7 l6.toNatClampNeg l4) l0 31)) fun h13 =>
(some (l6, h13)))))))))
set_option maxRecDepth 20000 in
theorem t_X10_leafOf_129 (l0 : Nat) (l2 : Int64) (l4 : Int64) (l6 : Int32) (h : Hp) : Sm rvI g_X10_leafOf 129 [.ref l0, .null, .long l2, .null, .long l4, .null, .int l6, .null] [] h (f_X10_leafOf_129 l0 l2 l4 l6 h) := by
  unfold f_X10_leafOf_129
  refine Sm.aload_n dX10_leafOf_129 rfl rfl rfl ?_
  refine Sm.ck (fun o4 => ?_)
  refine gf_X10_68 o4 dX10_leafOf_130 rfl rfl (fun v5 => ?_)
  refine Sm.iload dX10_leafOf_133 rfl rfl ?_
  refine Sm.lload_n dX10_leafOf_135 rfl rfl rfl ?_
  refine Sm.ca (fun q6 => ?_)
  refine Sm.last q6 dX10_leafOf_136 rfl ?_
  refine Sm.aload_n dX10_leafOf_137 rfl rfl rfl ?_
  refine gf_X10_71 o4 dX10_leafOf_138 rfl rfl (fun v7 => ?_)
  refine Sm.iload dX10_leafOf_141 rfl rfl ?_
  refine Sm.lload dX10_leafOf_143 rfl rfl ?_
  refine Sm.ca (fun q8 => ?_)
  refine Sm.last q8 dX10_leafOf_145 rfl ?_
  refine Sm.aload_n dX10_leafOf_146 rfl rfl rfl ?_
  refine Sm.iload dX10_leafOf_147 rfl rfl ?_
  refine Sm.aload_n dX10_leafOf_149 rfl rfl rfl ?_
  refine gf_X10_270 o4 dX10_leafOf_150 rfl rfl ?_
  refine Sm.icmp_ne (t := 163) dX10_leafOf_153 (by decide) rfl (fun b9 => ?_) (fun b9 => ?_)
  · refine Sm.iload dX10_leafOf_156 rfl rfl ?_
    refine Sm.iconst dX10_leafOf_158 ic_1 rfl ?_
    refine Sm.iadd dX10_leafOf_159 rfl ?_
    refine Sm.goto (t := 167) dX10_leafOf_160 (by decide) ?_
    refine pf_X10_270 o4 dX10_leafOf_167 rfl rfl ?_
    refine Sm.nmH (fun h10 e11 e12 => ?_)
    refine Sm.iload dX10_leafOf_170 rfl rfl ?_
    exact Sm.ret dX10_leafOf_172 trivial rfl
  · refine Sm.aload_n dX10_leafOf_163 rfl rfl rfl ?_
    refine gf_X10_270 o4 dX10_leafOf_164 rfl rfl ?_
    refine pf_X10_270 o4 dX10_leafOf_167 rfl rfl ?_
    refine Sm.nmH (fun h13 e14 e15 => ?_)
    refine Sm.iload dX10_leafOf_170 rfl rfl ?_
    exact Sm.ret dX10_leafOf_172 trivial rfl
def f_X10_leafOf_89 (k89 : Int32 → Option (Int32 × Hp)) (l0 : Nat) (l2 : Int64) (l4 : Int64) (l6 : Int32) (h : Hp) : Option (Int32 × Hp) :=
  (ck h l0 10
(if (gI h l0 31) ≤ l6 then
(f_X10_leafOf_129 l0 l2 l4 l6 h)
else
((gP h l0 29).bind fun v16 =>
(ca h v16 22 l6
(if (lg_cmp (gL h v16 l6.toNatClampNeg) l2) = 0 then
((gP h l0 30).bind fun v19 =>
(ca h v19 22 l6
(if (lg_cmp (gL h v19 l6.toNatClampNeg) l4) = 0 then
(f_X10_leafOf_129 l0 l2 l4 l6 h)
else
(nm (l6 + (1 : Int32)) fun v22 =>
(k89 v22)))))
else
(nm (l6 + (1 : Int32)) fun v23 =>
(k89 v23)))))))
set_option maxRecDepth 20000 in
theorem t_X10_leafOf_89 (l0 : Nat) (l2 : Int64) (l4 : Int64) (l6 : Int32) (h : Hp) (k89 : Int32 → Option (Int32 × Hp)) (hk89 : ∀ s : Int32, Sm rvI g_X10_leafOf 89 [.ref l0, .null, .long l2, .null, .long l4, .null, .int s, .null] [] h (k89 s)) : Sm rvI g_X10_leafOf 89 [.ref l0, .null, .long l2, .null, .long l4, .null, .int l6, .null] [] h (f_X10_leafOf_89 k89 l0 l2 l4 l6 h) := by
  unfold f_X10_leafOf_89
  refine Sm.iload dX10_leafOf_89 rfl rfl ?_
  refine Sm.aload_n dX10_leafOf_91 rfl rfl rfl ?_
  refine Sm.ck (fun o2 => ?_)
  refine gf_X10_270 o2 dX10_leafOf_92 rfl rfl ?_
  refine Sm.icmp_ge (t := 129) dX10_leafOf_95 (by decide) rfl (fun b3 => ?_) (fun b3 => ?_)
  · exact Sm.wk (t_X10_leafOf_129 l0 l2 l4 l6 h) ⟨Or.inr rfl, Or.inl rfl, Or.inr rfl, Or.inl rfl, Or.inr rfl, Or.inl rfl, Or.inr rfl, Or.inl rfl, trivial⟩
  · refine Sm.aload_n dX10_leafOf_98 rfl rfl rfl ?_
    refine gf_X10_68 o2 dX10_leafOf_99 rfl rfl (fun v16 => ?_)
    refine Sm.iload dX10_leafOf_102 rfl rfl ?_
    refine Sm.ca (fun q17 => ?_)
    refine Sm.lald q17 dX10_leafOf_104 rfl ?_
    refine Sm.lload_n dX10_leafOf_105 rfl rfl rfl ?_
    refine Sm.lcmp dX10_leafOf_106 rfl ?_
    refine Sm.if_ne (t := 123) dX10_leafOf_107 (by decide) rfl (fun b18 => ?_) (fun b18 => ?_)
    · refine Sm.aload_n dX10_leafOf_110 rfl rfl rfl ?_
      refine gf_X10_71 o2 dX10_leafOf_111 rfl rfl (fun v19 => ?_)
      refine Sm.iload dX10_leafOf_114 rfl rfl ?_
      refine Sm.ca (fun q20 => ?_)
      refine Sm.lald q20 dX10_leafOf_116 rfl ?_
      refine Sm.lload dX10_leafOf_117 rfl rfl ?_
      refine Sm.lcmp dX10_leafOf_119 rfl ?_
      refine Sm.if_eq (t := 129) dX10_leafOf_120 (by decide) rfl (fun b21 => ?_) (fun b21 => ?_)
      · exact Sm.wk (t_X10_leafOf_129 l0 l2 l4 l6 h) ⟨Or.inr rfl, Or.inl rfl, Or.inr rfl, Or.inl rfl, Or.inr rfl, Or.inl rfl, Or.inr rfl, Or.inl rfl, trivial⟩
      · refine Sm.iinc (lv' := [.ref l0, .null, .long l2, .null, .long l4, .null, .int (l6 + (1 : Int32)), .null]) dX10_leafOf_123 rfl ic_1 rfl rfl ?_
        refine Sm.nm (LV := fun v22 => [.ref l0, .null, .long l2, .null, .long l4, .null, .int v22, .null]) (ST := fun v22 => []) (fun v22 => ?_)
        refine Sm.goto (t := 89) dX10_leafOf_126 (by decide) ?_
        exact Sm.wk (hk89 v22) ⟨Or.inr rfl, Or.inl rfl, Or.inr rfl, Or.inl rfl, Or.inr rfl, Or.inl rfl, Or.inr rfl, Or.inl rfl, trivial⟩
    · refine Sm.iinc (lv' := [.ref l0, .null, .long l2, .null, .long l4, .null, .int (l6 + (1 : Int32)), .null]) dX10_leafOf_123 rfl ic_1 rfl rfl ?_
      refine Sm.nm (LV := fun v23 => [.ref l0, .null, .long l2, .null, .long l4, .null, .int v23, .null]) (ST := fun v23 => []) (fun v23 => ?_)
      refine Sm.goto (t := 89) dX10_leafOf_126 (by decide) ?_
      exact Sm.wk (hk89 v23) ⟨Or.inr rfl, Or.inl rfl, Or.inr rfl, Or.inl rfl, Or.inr rfl, Or.inl rfl, Or.inr rfl, Or.inl rfl, trivial⟩
def f_X10_leafOf_55 (k8 : (Int64 × Int64 × Int32 × Hp) → Option (Int32 × Hp)) (l0 : Nat) (l1 : Int32) (l4 : Int64) (l6 : Int32) (l7 : Int32) (s0 : Int64) (s1 : Int64) (h : Hp) : Option (Int32 × Hp) :=
  (nm (s0 ||| s1) fun v31 =>
(if (64 : Int32) ≤ l7 then
(nm (l4 ||| ((1 : Int64) <<< ((l7 - (64 : Int32)).toInt64 &&& 63))) fun v33 =>
(nm (l6 + (1 : Int32)) fun v34 =>
(k8 (v31, v33, v34, h))))
else
(nm (l4 ||| (0 : Int64)) fun v35 =>
(nm (l6 + (1 : Int32)) fun v36 =>
(k8 (v31, v35, v36, h))))))
set_option maxRecDepth 20000 in
theorem t_X10_leafOf_55 (l0 : Nat) (l1 : Int32) (l4 : Int64) (l6 : Int32) (l7 : Int32) (s0 : Int64) (s1 : Int64) (h : Hp) (k8 : (Int64 × Int64 × Int32 × Hp) → Option (Int32 × Hp)) (hk8 : ∀ s : Int64 × Int64 × Int32 × Hp, Sm rvI g_X10_leafOf 8 [.ref l0, .int l1, .long s.1, .null, .long s.2.1, .null, .int s.2.2.1, .null] [] s.2.2.2 (k8 s)) : Sm rvI g_X10_leafOf 55 [.ref l0, .int l1, .null, .null, .long l4, .null, .int l6, .int l7] [.long s1, .long s0] h (f_X10_leafOf_55 k8 l0 l1 l4 l6 l7 s0 s1 h) := by
  unfold f_X10_leafOf_55
  refine Sm.lor dX10_leafOf_55 rfl ?_
  refine Sm.nm (LV := fun v31 => [.ref l0, .int l1, .null, .null, .long l4, .null, .int l6, .int l7]) (ST := fun v31 => [.long v31]) (fun v31 => ?_)
  refine Sm.lstore_n (lv' := [.ref l0, .int l1, .long v31, .null, .long l4, .null, .int l6, .int l7]) dX10_leafOf_56 rfl (Nat.le_of_ble_eq_true rfl) rfl rfl ?_
  refine Sm.lload dX10_leafOf_57 rfl rfl ?_
  refine Sm.iload dX10_leafOf_59 rfl rfl ?_
  refine Sm.bipush dX10_leafOf_61 bp_64 rfl ?_
  refine Sm.icmp_ge (t := 70) dX10_leafOf_63 (by decide) rfl (fun b32 => ?_) (fun b32 => ?_)
  · refine Sm.lconst (v := (1 : Int64)) dX10_leafOf_70 (by decide) rfl ?_
    refine Sm.iload dX10_leafOf_71 rfl rfl ?_
    refine Sm.bipush dX10_leafOf_73 bp_64 rfl ?_
    refine Sm.isub dX10_leafOf_75 rfl ?_
    refine Sm.lshl dX10_leafOf_76 rfl ?_
    refine Sm.lor dX10_leafOf_77 rfl ?_
    refine Sm.nm (LV := fun v33 => [.ref l0, .int l1, .long v31, .null, .long l4, .null, .int l6, .int l7]) (ST := fun v33 => [.long v33]) (fun v33 => ?_)
    refine Sm.lstore (lv' := [.ref l0, .int l1, .long v31, .null, .long v33, .null, .int l6, .int l7]) dX10_leafOf_78 (Nat.le_of_ble_eq_true rfl) rfl rfl ?_
    refine Sm.iinc (lv' := [.ref l0, .int l1, .long v31, .null, .long v33, .null, .int (l6 + (1 : Int32)), .int l7]) dX10_leafOf_80 rfl ic_1 rfl rfl ?_
    refine Sm.nm (LV := fun v34 => [.ref l0, .int l1, .long v31, .null, .long v33, .null, .int v34, .int l7]) (ST := fun v34 => []) (fun v34 => ?_)
    refine Sm.goto (t := 8) dX10_leafOf_83 (by decide) ?_
    exact Sm.wk (hk8 (v31, v33, v34, h)) ⟨Or.inr rfl, Or.inr rfl, Or.inr rfl, Or.inl rfl, Or.inr rfl, Or.inl rfl, Or.inr rfl, Or.inl rfl, trivial⟩
  · refine Sm.lconst (v := (0 : Int64)) dX10_leafOf_66 (by decide) rfl ?_
    refine Sm.goto (t := 77) dX10_leafOf_67 (by decide) ?_
    refine Sm.lor dX10_leafOf_77 rfl ?_
    refine Sm.nm (LV := fun v35 => [.ref l0, .int l1, .long v31, .null, .long l4, .null, .int l6, .int l7]) (ST := fun v35 => [.long v35]) (fun v35 => ?_)
    refine Sm.lstore (lv' := [.ref l0, .int l1, .long v31, .null, .long v35, .null, .int l6, .int l7]) dX10_leafOf_78 (Nat.le_of_ble_eq_true rfl) rfl rfl ?_
    refine Sm.iinc (lv' := [.ref l0, .int l1, .long v31, .null, .long v35, .null, .int (l6 + (1 : Int32)), .int l7]) dX10_leafOf_80 rfl ic_1 rfl rfl ?_
    refine Sm.nm (LV := fun v36 => [.ref l0, .int l1, .long v31, .null, .long v35, .null, .int v36, .int l7]) (ST := fun v36 => []) (fun v36 => ?_)
    refine Sm.goto (t := 8) dX10_leafOf_83 (by decide) ?_
    exact Sm.wk (hk8 (v31, v35, v36, h)) ⟨Or.inr rfl, Or.inr rfl, Or.inr rfl, Or.inl rfl, Or.inr rfl, Or.inl rfl, Or.inr rfl, Or.inl rfl, trivial⟩
def f_X10_leafOf_8 (k8 : (Int64 × Int64 × Int32 × Hp) → Option (Int32 × Hp)) (l0 : Nat) (l1 : Int32) (l2 : Int64) (l4 : Int64) (l6 : Int32) (h : Hp) : Option (Int32 × Hp) :=
  (if (64 : Int32) ≤ l6 then
(loopN (fun k s => f_X10_leafOf_89 k l0 l2 l4 s h) 5000 (0 : Int32))
else
(ck h l0 10
((gP h l0 24).bind fun v25 =>
(ca h v25 22 l1
(if (lg_cmp (((gL h v25 l1.toNatClampNeg) >>> (l6.toInt64 &&& 63)) &&& (1 : Int64)) (1 : Int64)) = 0 then
(bd (f_X10_actionOf l1 l6 h) fun v28 h29 =>
(if (64 : Int32) ≤ v28 then
(f_X10_leafOf_55 k8 l0 l1 l4 l6 v28 l2 (0 : Int64) h29)
else
(f_X10_leafOf_55 k8 l0 l1 l4 l6 v28 l2 ((1 : Int64) <<< (v28.toInt64 &&& 63)) h29)))
else
(nm (l6 + (1 : Int32)) fun v37 =>
(k8 (l2, l4, v37, h))))))))
set_option maxRecDepth 20000 in
theorem t_X10_leafOf_8 (l0 : Nat) (l1 : Int32) (l2 : Int64) (l4 : Int64) (l6 : Int32) (h : Hp) (k8 : (Int64 × Int64 × Int32 × Hp) → Option (Int32 × Hp)) (hk8 : ∀ s : Int64 × Int64 × Int32 × Hp, Sm rvI g_X10_leafOf 8 [.ref l0, .int l1, .long s.1, .null, .long s.2.1, .null, .int s.2.2.1, .null] [] s.2.2.2 (k8 s)) : Sm rvI g_X10_leafOf 8 [.ref l0, .int l1, .long l2, .null, .long l4, .null, .int l6, .null] [] h (f_X10_leafOf_8 k8 l0 l1 l2 l4 l6 h) := by
  unfold f_X10_leafOf_8
  refine Sm.iload dX10_leafOf_8 rfl rfl ?_
  refine Sm.bipush dX10_leafOf_10 bp_64 rfl ?_
  refine Sm.icmp_ge (t := 86) dX10_leafOf_12 (by decide) rfl (fun b1 => ?_) (fun b1 => ?_)
  · refine Sm.iconst dX10_leafOf_86 ic_0 rfl ?_
    refine Sm.istore (lv' := [.ref l0, .int l1, .long l2, .null, .long l4, .null, .int (0 : Int32), .null]) dX10_leafOf_87 (Nat.le_of_ble_eq_true rfl) rfl rfl ?_
    exact Sm.wk (Sm.loop (σ := Int32) (LV := fun s => [.ref l0, .null, .long l2, .null, .long l4, .null, .int s, .null]) (HH := fun s => h) (fun k hk s => t_X10_leafOf_89 l0 l2 l4 s h k hk) 5000 (0 : Int32)) ⟨Or.inr rfl, Or.inl rfl, Or.inr rfl, Or.inl rfl, Or.inr rfl, Or.inl rfl, Or.inr rfl, Or.inl rfl, trivial⟩
  · refine Sm.aload_n dX10_leafOf_15 rfl rfl rfl ?_
    refine Sm.ck (fun o24 => ?_)
    refine gf_X10_55 o24 dX10_leafOf_16 rfl rfl (fun v25 => ?_)
    refine Sm.iload_n dX10_leafOf_19 rfl rfl rfl ?_
    refine Sm.ca (fun q26 => ?_)
    refine Sm.lald q26 dX10_leafOf_20 rfl ?_
    refine Sm.iload dX10_leafOf_21 rfl rfl ?_
    refine Sm.lshr dX10_leafOf_23 rfl ?_
    refine Sm.lconst (v := (1 : Int64)) dX10_leafOf_24 (by decide) rfl ?_
    refine Sm.land dX10_leafOf_25 rfl ?_
    refine Sm.lconst (v := (1 : Int64)) dX10_leafOf_26 (by decide) rfl ?_
    refine Sm.lcmp dX10_leafOf_27 rfl ?_
    refine Sm.if_ne (t := 80) dX10_leafOf_28 (by decide) rfl (fun b27 => ?_) (fun b27 => ?_)
    · refine Sm.iload_n dX10_leafOf_31 rfl rfl rfl ?_
      refine Sm.iload dX10_leafOf_32 rfl rfl ?_
      refine kc_X10_267 dX10_leafOf_34 rfl (Nat.le_of_ble_eq_true rfl) (Nat.le_of_ble_eq_true rfl) rfl (fun v28 h29 => ?_)
      refine Sm.istore (lv' := [.ref l0, .int l1, .long l2, .null, .long l4, .null, .int l6, .int v28]) dX10_leafOf_37 (Nat.le_of_ble_eq_true rfl) rfl rfl ?_
      refine Sm.lload_n dX10_leafOf_39 rfl rfl rfl ?_
      refine Sm.iload dX10_leafOf_40 rfl rfl ?_
      refine Sm.bipush dX10_leafOf_42 bp_64 rfl ?_
      refine Sm.icmp_ge (t := 54) dX10_leafOf_44 (by decide) rfl (fun b30 => ?_) (fun b30 => ?_)
      · refine Sm.lconst (v := (0 : Int64)) dX10_leafOf_54 (by decide) rfl ?_
        exact Sm.wk (t_X10_leafOf_55 l0 l1 l4 l6 v28 l2 (0 : Int64) h29 k8 hk8) ⟨Or.inr rfl, Or.inr rfl, Or.inl rfl, Or.inl rfl, Or.inr rfl, Or.inl rfl, Or.inr rfl, Or.inr rfl, trivial⟩
      · refine Sm.lconst (v := (1 : Int64)) dX10_leafOf_47 (by decide) rfl ?_
        refine Sm.iload dX10_leafOf_48 rfl rfl ?_
        refine Sm.lshl dX10_leafOf_50 rfl ?_
        refine Sm.goto (t := 55) dX10_leafOf_51 (by decide) ?_
        exact Sm.wk (t_X10_leafOf_55 l0 l1 l4 l6 v28 l2 ((1 : Int64) <<< (v28.toInt64 &&& 63)) h29 k8 hk8) ⟨Or.inr rfl, Or.inr rfl, Or.inl rfl, Or.inl rfl, Or.inr rfl, Or.inl rfl, Or.inr rfl, Or.inr rfl, trivial⟩
    · refine Sm.iinc (lv' := [.ref l0, .int l1, .long l2, .null, .long l4, .null, .int (l6 + (1 : Int32)), .null]) dX10_leafOf_80 rfl ic_1 rfl rfl ?_
      refine Sm.nm (LV := fun v37 => [.ref l0, .int l1, .long l2, .null, .long l4, .null, .int v37, .null]) (ST := fun v37 => []) (fun v37 => ?_)
      refine Sm.goto (t := 8) dX10_leafOf_83 (by decide) ?_
      exact Sm.wk (hk8 (l2, l4, v37, h)) ⟨Or.inr rfl, Or.inr rfl, Or.inr rfl, Or.inl rfl, Or.inr rfl, Or.inl rfl, Or.inr rfl, Or.inl rfl, trivial⟩
def f_X10_leafOf (l0 : Nat) (l1 : Int32) (h : Hp) : Option (Int32 × Hp) :=
  (loopN (fun k s => f_X10_leafOf_8 k l0 l1 s.1 s.2.1 s.2.2.1 s.2.2.2) 5000 ((0 : Int64), (0 : Int64), (0 : Int32), h))
set_option maxRecDepth 20000 in
theorem t_X10_leafOf (l0 : Nat) (l1 : Int32) (h : Hp) : Sm rvI g_X10_leafOf 0 (ent 8 [.ref l0, .int l1]) [] h (f_X10_leafOf l0 l1 h) := by
  show Sm rvI g_X10_leafOf 0 [.ref l0, .int l1, .null, .null, .null, .null, .null, .null] [] h _
  unfold f_X10_leafOf
  refine Sm.lconst (v := (0 : Int64)) dX10_leafOf_0 (by decide) rfl ?_
  refine Sm.lstore_n (lv' := [.ref l0, .int l1, .long (0 : Int64), .null, .null, .null, .null, .null]) dX10_leafOf_1 rfl (Nat.le_of_ble_eq_true rfl) rfl rfl ?_
  refine Sm.lconst (v := (0 : Int64)) dX10_leafOf_2 (by decide) rfl ?_
  refine Sm.lstore (lv' := [.ref l0, .int l1, .long (0 : Int64), .null, .long (0 : Int64), .null, .null, .null]) dX10_leafOf_3 (Nat.le_of_ble_eq_true rfl) rfl rfl ?_
  refine Sm.iconst dX10_leafOf_5 ic_0 rfl ?_
  refine Sm.istore (lv' := [.ref l0, .int l1, .long (0 : Int64), .null, .long (0 : Int64), .null, .int (0 : Int32), .null]) dX10_leafOf_6 (Nat.le_of_ble_eq_true rfl) rfl rfl ?_
  exact Sm.wk (Sm.loop (σ := Int64 × Int64 × Int32 × Hp) (LV := fun s => [.ref l0, .int l1, .long s.1, .null, .long s.2.1, .null, .int s.2.2.1, .null]) (HH := fun s => s.2.2.2) (fun k hk s => t_X10_leafOf_8 l0 l1 s.1 s.2.1 s.2.2.1 s.2.2.2 k hk) 5000 ((0 : Int64), (0 : Int64), (0 : Int32), h)) ⟨Or.inr rfl, Or.inr rfl, Or.inr rfl, Or.inl rfl, Or.inr rfl, Or.inl rfl, Or.inr rfl, Or.inl rfl, trivial⟩
set_option maxRecDepth 20000 in
theorem kc_X10_279 {ρ : Type} {rv : ρ → Option Value} {G : Gx} {pc q : Nat} {lv st : List Value} {h : Hp} {a : Nat} {x1 : Int32} {e : Int32 → Hp → Option (ρ × Hp)} (hk : isO h a 10) (d : decode G.2.1 pc = .ok (.invokevirtual 279, 3)) (ho : G.1.cls = RX10) (hdep : (g_X10_leafOf).2.2.2.2 < G.2.2.2.2) (hcat : catS st ≤ 8) (hq : pc + 3 = q) (k : ∀ r h1, Sm rv G q lv (.int r :: st) h1 (e r h1)) : Sm rv G pc lv (.int x1 :: .ref a :: st) h (bd (f_X10_leafOf a x1 h) e) :=
  Sm.callV (rv' := rvI) (args := [.int x1]) (n := 1) (t_X10_leafOf a x1 h) hk (by decide) (r := (RX10, TX10, 43)) rfl rfl ho mw_1268 mw_1270 mp_90 mw_11 mw_1271 ⟨⟨by decide, rfl, hdep, Nat.le_of_ble_eq_true rfl⟩, Nat.le_of_ble_eq_true rfl, rfl, ⟨by decide, by decide⟩, hcat⟩ (by decide +kernel) (by intro v hv; simp only [List.mem_cons, List.not_mem_nil, or_false] at hv; rcases hv with rfl <;> intro x hx <;> cases hx) d hq k rfl
abbrev g_X10_isTest : Gx := (yX10_isTest, cX10_isTest, 6, (Option.some FieldType.boolean), 0)
def f_X10_isTest_20 (k20 : (Int32 × Int32) → Option (Int32 × Hp)) (l0 : Nat) (l1 : Int32) (l3 : Int32) (l4 : Int32) (l5 : Int32) (h : Hp) : Option (Int32 × Hp) :=
  (if (4 : Int32) ≤ l5 then
(bz l4
(some (l4, h)))
else
(if l4 = 0 then
(nm (l5 + (1 : Int32)) fun v8 =>
(k20 ((0 : Int32), v8)))
else
(ck h l0 10
((gP h l0 33).bind fun v10 =>
(ca h v10 20 (((4 : Int32) * l1) + l5)
((gP h l0 36).bind fun v12 =>
(ca h v12 20 (l3 + l5)
(if (gI h v10 (((4 : Int32) * l1) + l5).toNatClampNeg) = (gI h v12 (l3 + l5).toNatClampNeg) then
(nm (l5 + (1 : Int32)) fun v15 =>
(k20 ((1 : Int32), v15)))
else
(nm (l5 + (1 : Int32)) fun v16 =>
(k20 ((0 : Int32), v16)))))))))))
set_option maxRecDepth 20000 in
theorem t_X10_isTest_20 (l0 : Nat) (l1 : Int32) (l3 : Int32) (l4 : Int32) (l5 : Int32) (h : Hp) (k20 : (Int32 × Int32) → Option (Int32 × Hp)) (hk20 : ∀ s : Int32 × Int32, Sm rvI g_X10_isTest 20 [.ref l0, .int l1, .null, .int l3, .int s.1, .int s.2] [] h (k20 s)) : Sm rvI g_X10_isTest 20 [.ref l0, .int l1, .null, .int l3, .int l4, .int l5] [] h (f_X10_isTest_20 k20 l0 l1 l3 l4 l5 h) := by
  unfold f_X10_isTest_20
  refine Sm.iload dX10_isTest_20 rfl rfl ?_
  refine Sm.iconst dX10_isTest_22 ic_4 rfl ?_
  refine Sm.icmp_ge (t := 67) dX10_isTest_23 (by decide) rfl (fun b5 => ?_) (fun b5 => ?_)
  · refine Sm.iload dX10_isTest_67 rfl rfl ?_
    refine Sm.bz (fun z6 => ?_)
    exact Sm.ret dX10_isTest_69 z6 rfl
  · refine Sm.iload dX10_isTest_26 rfl rfl ?_
    refine Sm.if_eq (t := 58) dX10_isTest_28 (by decide) rfl (fun b7 => ?_) (fun b7 => ?_)
    · refine Sm.iconst dX10_isTest_58 ic_0 rfl ?_
      refine Sm.istore (lv' := [.ref l0, .int l1, .null, .int l3, .int (0 : Int32), .int l5]) dX10_isTest_59 (Nat.le_of_ble_eq_true rfl) rfl rfl ?_
      refine Sm.iinc (lv' := [.ref l0, .int l1, .null, .int l3, .int (0 : Int32), .int (l5 + (1 : Int32))]) dX10_isTest_61 rfl ic_1 rfl rfl ?_
      refine Sm.nm (LV := fun v8 => [.ref l0, .int l1, .null, .int l3, .int (0 : Int32), .int v8]) (ST := fun v8 => []) (fun v8 => ?_)
      refine Sm.goto (t := 20) dX10_isTest_64 (by decide) ?_
      exact Sm.wk (hk20 ((0 : Int32), v8)) ⟨Or.inr rfl, Or.inr rfl, Or.inl rfl, Or.inr rfl, Or.inr rfl, Or.inr rfl, trivial⟩
    · refine Sm.aload_n dX10_isTest_31 rfl rfl rfl ?_
      refine Sm.ck (fun o9 => ?_)
      refine gf_X10_77 o9 dX10_isTest_32 rfl rfl (fun v10 => ?_)
      refine Sm.iconst dX10_isTest_35 ic_4 rfl ?_
      refine Sm.iload_n dX10_isTest_36 rfl rfl rfl ?_
      refine Sm.imul dX10_isTest_37 rfl ?_
      refine Sm.iload dX10_isTest_38 rfl rfl ?_
      refine Sm.iadd dX10_isTest_40 rfl ?_
      refine Sm.ca (fun q11 => ?_)
      refine Sm.iald q11 dX10_isTest_41 rfl ?_
      refine Sm.aload_n dX10_isTest_42 rfl rfl rfl ?_
      refine gf_X10_83 o9 dX10_isTest_43 rfl rfl (fun v12 => ?_)
      refine Sm.iload_n dX10_isTest_46 rfl rfl rfl ?_
      refine Sm.iload dX10_isTest_47 rfl rfl ?_
      refine Sm.iadd dX10_isTest_49 rfl ?_
      refine Sm.ca (fun q13 => ?_)
      refine Sm.iald q13 dX10_isTest_50 rfl ?_
      refine Sm.icmp_ne (t := 58) dX10_isTest_51 (by decide) rfl (fun b14 => ?_) (fun b14 => ?_)
      · refine Sm.iconst dX10_isTest_54 ic_1 rfl ?_
        refine Sm.goto (t := 59) dX10_isTest_55 (by decide) ?_
        refine Sm.istore (lv' := [.ref l0, .int l1, .null, .int l3, .int (1 : Int32), .int l5]) dX10_isTest_59 (Nat.le_of_ble_eq_true rfl) rfl rfl ?_
        refine Sm.iinc (lv' := [.ref l0, .int l1, .null, .int l3, .int (1 : Int32), .int (l5 + (1 : Int32))]) dX10_isTest_61 rfl ic_1 rfl rfl ?_
        refine Sm.nm (LV := fun v15 => [.ref l0, .int l1, .null, .int l3, .int (1 : Int32), .int v15]) (ST := fun v15 => []) (fun v15 => ?_)
        refine Sm.goto (t := 20) dX10_isTest_64 (by decide) ?_
        exact Sm.wk (hk20 ((1 : Int32), v15)) ⟨Or.inr rfl, Or.inr rfl, Or.inl rfl, Or.inr rfl, Or.inr rfl, Or.inr rfl, trivial⟩
      · refine Sm.iconst dX10_isTest_58 ic_0 rfl ?_
        refine Sm.istore (lv' := [.ref l0, .int l1, .null, .int l3, .int (0 : Int32), .int l5]) dX10_isTest_59 (Nat.le_of_ble_eq_true rfl) rfl rfl ?_
        refine Sm.iinc (lv' := [.ref l0, .int l1, .null, .int l3, .int (0 : Int32), .int (l5 + (1 : Int32))]) dX10_isTest_61 rfl ic_1 rfl rfl ?_
        refine Sm.nm (LV := fun v16 => [.ref l0, .int l1, .null, .int l3, .int (0 : Int32), .int v16]) (ST := fun v16 => []) (fun v16 => ?_)
        refine Sm.goto (t := 20) dX10_isTest_64 (by decide) ?_
        exact Sm.wk (hk20 ((0 : Int32), v16)) ⟨Or.inr rfl, Or.inr rfl, Or.inl rfl, Or.inr rfl, Or.inr rfl, Or.inr rfl, trivial⟩
def f_X10_isTest (l0 : Nat) (l1 : Int32) (l2 : Int32) (l3 : Int32) (h : Hp) : Option (Int32 × Hp) :=
  (ck h l0 10
((gP h l0 32).bind fun v2 =>
(ca h v2 20 l1
(if (gI h v2 l1.toNatClampNeg) = l2 then
(loopN (fun k s => f_X10_isTest_20 k l0 l1 l3 s.1 s.2 h) 5000 ((1 : Int32), (0 : Int32)))
else
(loopN (fun k s => f_X10_isTest_20 k l0 l1 l3 s.1 s.2 h) 5000 ((0 : Int32), (0 : Int32)))))))
set_option maxRecDepth 20000 in
theorem t_X10_isTest (l0 : Nat) (l1 : Int32) (l2 : Int32) (l3 : Int32) (h : Hp) : Sm rvI g_X10_isTest 0 (ent 6 [.ref l0, .int l1, .int l2, .int l3]) [] h (f_X10_isTest l0 l1 l2 l3 h) := by
  show Sm rvI g_X10_isTest 0 [.ref l0, .int l1, .int l2, .int l3, .null, .null] [] h _
  unfold f_X10_isTest
  refine Sm.aload_n dX10_isTest_0 rfl rfl rfl ?_
  refine Sm.ck (fun o1 => ?_)
  refine gf_X10_74 o1 dX10_isTest_1 rfl rfl (fun v2 => ?_)
  refine Sm.iload_n dX10_isTest_4 rfl rfl rfl ?_
  refine Sm.ca (fun q3 => ?_)
  refine Sm.iald q3 dX10_isTest_5 rfl ?_
  refine Sm.iload_n dX10_isTest_6 rfl rfl rfl ?_
  refine Sm.icmp_ne (t := 14) dX10_isTest_7 (by decide) rfl (fun b4 => ?_) (fun b4 => ?_)
  · refine Sm.iconst dX10_isTest_10 ic_1 rfl ?_
    refine Sm.goto (t := 15) dX10_isTest_11 (by decide) ?_
    refine Sm.istore (lv' := [.ref l0, .int l1, .int l2, .int l3, .int (1 : Int32), .null]) dX10_isTest_15 (Nat.le_of_ble_eq_true rfl) rfl rfl ?_
    refine Sm.iconst dX10_isTest_17 ic_0 rfl ?_
    refine Sm.istore (lv' := [.ref l0, .int l1, .int l2, .int l3, .int (1 : Int32), .int (0 : Int32)]) dX10_isTest_18 (Nat.le_of_ble_eq_true rfl) rfl rfl ?_
    exact Sm.wk (Sm.loop (σ := Int32 × Int32) (LV := fun s => [.ref l0, .int l1, .null, .int l3, .int s.1, .int s.2]) (HH := fun s => h) (fun k hk s => t_X10_isTest_20 l0 l1 l3 s.1 s.2 h k hk) 5000 ((1 : Int32), (0 : Int32))) ⟨Or.inr rfl, Or.inr rfl, Or.inl rfl, Or.inr rfl, Or.inr rfl, Or.inr rfl, trivial⟩
  · refine Sm.iconst dX10_isTest_14 ic_0 rfl ?_
    refine Sm.istore (lv' := [.ref l0, .int l1, .int l2, .int l3, .int (0 : Int32), .null]) dX10_isTest_15 (Nat.le_of_ble_eq_true rfl) rfl rfl ?_
    refine Sm.iconst dX10_isTest_17 ic_0 rfl ?_
    refine Sm.istore (lv' := [.ref l0, .int l1, .int l2, .int l3, .int (0 : Int32), .int (0 : Int32)]) dX10_isTest_18 (Nat.le_of_ble_eq_true rfl) rfl rfl ?_
    exact Sm.wk (Sm.loop (σ := Int32 × Int32) (LV := fun s => [.ref l0, .int l1, .null, .int l3, .int s.1, .int s.2]) (HH := fun s => h) (fun k hk s => t_X10_isTest_20 l0 l1 l3 s.1 s.2 h k hk) 5000 ((0 : Int32), (0 : Int32))) ⟨Or.inr rfl, Or.inr rfl, Or.inl rfl, Or.inr rfl, Or.inr rfl, Or.inr rfl, trivial⟩
set_option maxRecDepth 20000 in
theorem kc_X10_276 {ρ : Type} {rv : ρ → Option Value} {G : Gx} {pc q : Nat} {lv st : List Value} {h : Hp} {a : Nat} {x1 : Int32} {x2 : Int32} {x3 : Int32} {e : Int32 → Hp → Option (ρ × Hp)} (hk : isO h a 10) (d : decode G.2.1 pc = .ok (.invokevirtual 276, 3)) (ho : G.1.cls = RX10) (hdep : (g_X10_isTest).2.2.2.2 < G.2.2.2.2) (hcat : catS st ≤ 8) (hq : pc + 3 = q) (k : ∀ r h1, Sm rv G q lv (.int r :: st) h1 (e r h1)) : Sm rv G pc lv (.int x3 :: .int x2 :: .int x1 :: .ref a :: st) h (bd (f_X10_isTest a x1 x2 x3 h) e) :=
  Sm.callV (rv' := rvI) (args := [.int x1, .int x2, .int x3]) (n := 3) (t_X10_isTest a x1 x2 x3 h) hk (by decide) (r := (RX10, TX10, 43)) rfl rfl ho mw_1279 mw_1281 mp_92 mw_11 mw_1282 ⟨⟨by decide, rfl, hdep, Nat.le_of_ble_eq_true rfl⟩, Nat.le_of_ble_eq_true rfl, rfl, ⟨by decide, by decide⟩, hcat⟩ (by decide +kernel) (by intro v hv; simp only [List.mem_cons, List.not_mem_nil, or_false] at hv; rcases hv with rfl | rfl | rfl <;> intro x hx <;> cases hx) d hq k rfl
abbrev g_X10_nodeOver : Gx := (yX10_nodeOver, cX10_nodeOver, 6, (Option.some FieldType.int), 1)
def f_X10_nodeOver_96 (k96 : (Int32 × Hp) → Option (Int32 × Hp)) (l0 : Nat) (l2 : Int32) (l4 : Int32) (l5 : Int32) (h : Hp) : Option (Int32 × Hp) :=
  (if (4 : Int32) ≤ l5 then
(ck h l0 10
(if l4 = (gI h l0 34) then
(some (((128 : Int32) + l4), (sI h l0 34 (l4 + (1 : Int32)))))
else
(some (((128 : Int32) + l4), (sI h l0 34 (gI h l0 34))))))
else
(ck h l0 10
((gP h l0 33).bind fun v12 =>
((gP h l0 36).bind fun v13 =>
(ca h v13 20 (l2 + l5)
(ca h v12 20 (((4 : Int32) * l4) + l5)
(nm (l5 + (1 : Int32)) fun v16 =>
(k96 (v16, (sI h v12 (((4 : Int32) * l4) + l5).toNatClampNeg (gI h v13 (l2 + l5).toNatClampNeg)))))))))))
set_option maxRecDepth 20000 in
theorem t_X10_nodeOver_96 (l0 : Nat) (l2 : Int32) (l4 : Int32) (l5 : Int32) (h : Hp) (k96 : (Int32 × Hp) → Option (Int32 × Hp)) (hk96 : ∀ s : Int32 × Hp, Sm rvI g_X10_nodeOver 96 [.ref l0, .null, .int l2, .null, .int l4, .int s.1] [] s.2 (k96 s)) : Sm rvI g_X10_nodeOver 96 [.ref l0, .null, .int l2, .null, .int l4, .int l5] [] h (f_X10_nodeOver_96 k96 l0 l2 l4 l5 h) := by
  unfold f_X10_nodeOver_96
  refine Sm.iload dX10_nodeOver_96 rfl rfl ?_
  refine Sm.iconst dX10_nodeOver_98 ic_4 rfl ?_
  refine Sm.icmp_ge (t := 129) dX10_nodeOver_99 (by decide) rfl (fun b8 => ?_) (fun b8 => ?_)
  · refine Sm.aload_n dX10_nodeOver_129 rfl rfl rfl ?_
    refine Sm.iload dX10_nodeOver_130 rfl rfl ?_
    refine Sm.aload_n dX10_nodeOver_132 rfl rfl rfl ?_
    refine Sm.ck (fun o9 => ?_)
    refine gf_X10_273 o9 dX10_nodeOver_133 rfl rfl ?_
    refine Sm.icmp_ne (t := 146) dX10_nodeOver_136 (by decide) rfl (fun b10 => ?_) (fun b10 => ?_)
    · refine Sm.iload dX10_nodeOver_139 rfl rfl ?_
      refine Sm.iconst dX10_nodeOver_141 ic_1 rfl ?_
      refine Sm.iadd dX10_nodeOver_142 rfl ?_
      refine Sm.goto (t := 150) dX10_nodeOver_143 (by decide) ?_
      refine pf_X10_273 o9 dX10_nodeOver_150 rfl rfl ?_
      refine Sm.sipush dX10_nodeOver_153 sp_128 rfl ?_
      refine Sm.iload dX10_nodeOver_156 rfl rfl ?_
      refine Sm.iadd dX10_nodeOver_158 rfl ?_
      exact Sm.ret dX10_nodeOver_159 trivial rfl
    · refine Sm.aload_n dX10_nodeOver_146 rfl rfl rfl ?_
      refine gf_X10_273 o9 dX10_nodeOver_147 rfl rfl ?_
      refine pf_X10_273 o9 dX10_nodeOver_150 rfl rfl ?_
      refine Sm.sipush dX10_nodeOver_153 sp_128 rfl ?_
      refine Sm.iload dX10_nodeOver_156 rfl rfl ?_
      refine Sm.iadd dX10_nodeOver_158 rfl ?_
      exact Sm.ret dX10_nodeOver_159 trivial rfl
  · refine Sm.aload_n dX10_nodeOver_102 rfl rfl rfl ?_
    refine Sm.ck (fun o11 => ?_)
    refine gf_X10_77 o11 dX10_nodeOver_103 rfl rfl (fun v12 => ?_)
    refine Sm.iconst dX10_nodeOver_106 ic_4 rfl ?_
    refine Sm.iload dX10_nodeOver_107 rfl rfl ?_
    refine Sm.imul dX10_nodeOver_109 rfl ?_
    refine Sm.iload dX10_nodeOver_110 rfl rfl ?_
    refine Sm.iadd dX10_nodeOver_112 rfl ?_
    refine Sm.aload_n dX10_nodeOver_113 rfl rfl rfl ?_
    refine gf_X10_83 o11 dX10_nodeOver_114 rfl rfl (fun v13 => ?_)
    refine Sm.iload_n dX10_nodeOver_117 rfl rfl rfl ?_
    refine Sm.iload dX10_nodeOver_118 rfl rfl ?_
    refine Sm.iadd dX10_nodeOver_120 rfl ?_
    refine Sm.ca (fun q14 => ?_)
    refine Sm.iald q14 dX10_nodeOver_121 rfl ?_
    refine Sm.ca (fun q15 => ?_)
    refine Sm.iast q15 dX10_nodeOver_122 rfl ?_
    refine Sm.iinc (lv' := [.ref l0, .null, .int l2, .null, .int l4, .int (l5 + (1 : Int32))]) dX10_nodeOver_123 rfl ic_1 rfl rfl ?_
    refine Sm.nm (LV := fun v16 => [.ref l0, .null, .int l2, .null, .int l4, .int v16]) (ST := fun v16 => []) (fun v16 => ?_)
    refine Sm.goto (t := 96) dX10_nodeOver_126 (by decide) ?_
    exact Sm.wk (hk96 (v16, (sI h v12 (((4 : Int32) * l4) + l5).toNatClampNeg (gI h v13 (l2 + l5).toNatClampNeg)))) ⟨Or.inr rfl, Or.inl rfl, Or.inr rfl, Or.inl rfl, Or.inr rfl, Or.inr rfl, trivial⟩
def f_X10_nodeOver_85 (l0 : Nat) (l1 : Int32) (l2 : Int32) (l4 : Int32) (h : Hp) : Option (Int32 × Hp) :=
  (ck h l0 10
((gP h l0 32).bind fun v6 =>
(ca h v6 20 l4
(loopN (fun k s => f_X10_nodeOver_96 k l0 l2 l4 s.1 s.2) 5000 ((0 : Int32), (sI h v6 l4.toNatClampNeg l1))))))
set_option maxRecDepth 20000 in
theorem t_X10_nodeOver_85 (l0 : Nat) (l1 : Int32) (l2 : Int32) (l4 : Int32) (h : Hp) : Sm rvI g_X10_nodeOver 85 [.ref l0, .int l1, .int l2, .null, .int l4, .null] [] h (f_X10_nodeOver_85 l0 l1 l2 l4 h) := by
  unfold f_X10_nodeOver_85
  refine Sm.aload_n dX10_nodeOver_85 rfl rfl rfl ?_
  refine Sm.ck (fun o5 => ?_)
  refine gf_X10_74 o5 dX10_nodeOver_86 rfl rfl (fun v6 => ?_)
  refine Sm.iload dX10_nodeOver_89 rfl rfl ?_
  refine Sm.iload_n dX10_nodeOver_91 rfl rfl rfl ?_
  refine Sm.ca (fun q7 => ?_)
  refine Sm.iast q7 dX10_nodeOver_92 rfl ?_
  refine Sm.iconst dX10_nodeOver_93 ic_0 rfl ?_
  refine Sm.istore (lv' := [.ref l0, .int l1, .int l2, .null, .int l4, .int (0 : Int32)]) dX10_nodeOver_94 (Nat.le_of_ble_eq_true rfl) rfl rfl ?_
  exact Sm.wk (Sm.loop (σ := Int32 × Hp) (LV := fun s => [.ref l0, .null, .int l2, .null, .int l4, .int s.1]) (HH := fun s => s.2) (fun k hk s => t_X10_nodeOver_96 l0 l2 l4 s.1 s.2 k hk) 5000 ((0 : Int32), (sI h v6 l4.toNatClampNeg l1))) ⟨Or.inr rfl, Or.inl rfl, Or.inr rfl, Or.inl rfl, Or.inr rfl, Or.inr rfl, trivial⟩
def f_X10_nodeOver_59 (k59 : (Int32 × Hp) → Option (Int32 × Hp)) (l0 : Nat) (l1 : Int32) (l2 : Int32) (l4 : Int32) (h : Hp) : Option (Int32 × Hp) :=
  (ck h l0 10
(if (gI h l0 34) ≤ l4 then
(f_X10_nodeOver_85 l0 l1 l2 l4 h)
else
(bd (f_X10_isTest l0 l4 l1 l2 h) fun v17 h18 =>
(if v17 = 0 then
(nm (l4 + (1 : Int32)) fun v20 =>
(k59 (v20, h18)))
else
(f_X10_nodeOver_85 l0 l1 l2 l4 h18)))))
set_option maxRecDepth 20000 in
theorem t_X10_nodeOver_59 (l0 : Nat) (l1 : Int32) (l2 : Int32) (l4 : Int32) (h : Hp) (k59 : (Int32 × Hp) → Option (Int32 × Hp)) (hk59 : ∀ s : Int32 × Hp, Sm rvI g_X10_nodeOver 59 [.ref l0, .int l1, .int l2, .null, .int s.1, .null] [] s.2 (k59 s)) : Sm rvI g_X10_nodeOver 59 [.ref l0, .int l1, .int l2, .null, .int l4, .null] [] h (f_X10_nodeOver_59 k59 l0 l1 l2 l4 h) := by
  unfold f_X10_nodeOver_59
  refine Sm.iload dX10_nodeOver_59 rfl rfl ?_
  refine Sm.aload_n dX10_nodeOver_61 rfl rfl rfl ?_
  refine Sm.ck (fun o3 => ?_)
  refine gf_X10_273 o3 dX10_nodeOver_62 rfl rfl ?_
  refine Sm.icmp_ge (t := 85) dX10_nodeOver_65 (by decide) rfl (fun b4 => ?_) (fun b4 => ?_)
  · exact Sm.wk (t_X10_nodeOver_85 l0 l1 l2 l4 h) ⟨Or.inr rfl, Or.inr rfl, Or.inr rfl, Or.inl rfl, Or.inr rfl, Or.inl rfl, trivial⟩
  · refine Sm.aload_n dX10_nodeOver_68 rfl rfl rfl ?_
    refine Sm.iload dX10_nodeOver_69 rfl rfl ?_
    refine Sm.iload_n dX10_nodeOver_71 rfl rfl rfl ?_
    refine Sm.iload_n dX10_nodeOver_72 rfl rfl rfl ?_
    refine kc_X10_276 o3 dX10_nodeOver_73 rfl (Nat.le_of_ble_eq_true rfl) (Nat.le_of_ble_eq_true rfl) rfl (fun v17 h18 => ?_)
    refine Sm.if_ne (t := 85) dX10_nodeOver_76 (by decide) rfl (fun b19 => ?_) (fun b19 => ?_)
    · refine Sm.iinc (lv' := [.ref l0, .int l1, .int l2, .null, .int (l4 + (1 : Int32)), .null]) dX10_nodeOver_79 rfl ic_1 rfl rfl ?_
      refine Sm.nm (LV := fun v20 => [.ref l0, .int l1, .int l2, .null, .int v20, .null]) (ST := fun v20 => []) (fun v20 => ?_)
      refine Sm.goto (t := 59) dX10_nodeOver_82 (by decide) ?_
      exact Sm.wk (hk59 (v20, h18)) ⟨Or.inr rfl, Or.inr rfl, Or.inr rfl, Or.inl rfl, Or.inr rfl, Or.inl rfl, trivial⟩
    · exact Sm.wk (t_X10_nodeOver_85 l0 l1 l2 l4 h18) ⟨Or.inr rfl, Or.inr rfl, Or.inr rfl, Or.inl rfl, Or.inr rfl, Or.inl rfl, trivial⟩
def f_X10_nodeOver_5 (k5 : (Int32 × Int32) → Option (Int32 × Hp)) (l0 : Nat) (l1 : Int32) (l2 : Int32) (l3 : Int32) (l4 : Int32) (h : Hp) : Option (Int32 × Hp) :=
  (if (4 : Int32) ≤ l4 then
(if l3 = 0 then
(loopN (fun k s => f_X10_nodeOver_59 k l0 l1 l2 s.1 s.2) 5000 ((0 : Int32), h))
else
(ck h l0 10
((gP h l0 36).bind fun v22 =>
(ca h v22 20 l2
(some ((gI h v22 l2.toNatClampNeg), h))))))
else
(if l3 = 0 then
(nm (l4 + (1 : Int32)) fun v25 =>
(k5 ((0 : Int32), v25)))
else
(ck h l0 10
((gP h l0 36).bind fun v27 =>
(ca h v27 20 (l2 + l4)
((gP h l0 36).bind fun v29 =>
(ca h v29 20 l2
(if (gI h v27 (l2 + l4).toNatClampNeg) = (gI h v29 l2.toNatClampNeg) then
(nm (l4 + (1 : Int32)) fun v32 =>
(k5 ((1 : Int32), v32)))
else
(nm (l4 + (1 : Int32)) fun v33 =>
(k5 ((0 : Int32), v33)))))))))))
set_option maxRecDepth 20000 in
theorem t_X10_nodeOver_5 (l0 : Nat) (l1 : Int32) (l2 : Int32) (l3 : Int32) (l4 : Int32) (h : Hp) (k5 : (Int32 × Int32) → Option (Int32 × Hp)) (hk5 : ∀ s : Int32 × Int32, Sm rvI g_X10_nodeOver 5 [.ref l0, .int l1, .int l2, .int s.1, .int s.2, .null] [] h (k5 s)) : Sm rvI g_X10_nodeOver 5 [.ref l0, .int l1, .int l2, .int l3, .int l4, .null] [] h (f_X10_nodeOver_5 k5 l0 l1 l2 l3 l4 h) := by
  unfold f_X10_nodeOver_5
  refine Sm.iload dX10_nodeOver_5 rfl rfl ?_
  refine Sm.iconst dX10_nodeOver_7 ic_4 rfl ?_
  refine Sm.icmp_ge (t := 45) dX10_nodeOver_8 (by decide) rfl (fun b1 => ?_) (fun b1 => ?_)
  · refine Sm.iload_n dX10_nodeOver_45 rfl rfl rfl ?_
    refine Sm.if_eq (t := 56) dX10_nodeOver_46 (by decide) rfl (fun b2 => ?_) (fun b2 => ?_)
    · refine Sm.iconst dX10_nodeOver_56 ic_0 rfl ?_
      refine Sm.istore (lv' := [.ref l0, .int l1, .int l2, .int l3, .int (0 : Int32), .null]) dX10_nodeOver_57 (Nat.le_of_ble_eq_true rfl) rfl rfl ?_
      exact Sm.wk (Sm.loop (σ := Int32 × Hp) (LV := fun s => [.ref l0, .int l1, .int l2, .null, .int s.1, .null]) (HH := fun s => s.2) (fun k hk s => t_X10_nodeOver_59 l0 l1 l2 s.1 s.2 k hk) 5000 ((0 : Int32), h)) ⟨Or.inr rfl, Or.inr rfl, Or.inr rfl, Or.inl rfl, Or.inr rfl, Or.inl rfl, trivial⟩
    · refine Sm.aload_n dX10_nodeOver_49 rfl rfl rfl ?_
      refine Sm.ck (fun o21 => ?_)
      refine gf_X10_83 o21 dX10_nodeOver_50 rfl rfl (fun v22 => ?_)
      refine Sm.iload_n dX10_nodeOver_53 rfl rfl rfl ?_
      refine Sm.ca (fun q23 => ?_)
      refine Sm.iald q23 dX10_nodeOver_54 rfl ?_
      exact Sm.ret dX10_nodeOver_55 trivial rfl
  · refine Sm.iload_n dX10_nodeOver_11 rfl rfl rfl ?_
    refine Sm.if_eq (t := 37) dX10_nodeOver_12 (by decide) rfl (fun b24 => ?_) (fun b24 => ?_)
    · refine Sm.iconst dX10_nodeOver_37 ic_0 rfl ?_
      refine Sm.istore_n (lv' := [.ref l0, .int l1, .int l2, .int (0 : Int32), .int l4, .null]) dX10_nodeOver_38 rfl (Nat.le_of_ble_eq_true rfl) rfl rfl ?_
      refine Sm.iinc (lv' := [.ref l0, .int l1, .int l2, .int (0 : Int32), .int (l4 + (1 : Int32)), .null]) dX10_nodeOver_39 rfl ic_1 rfl rfl ?_
      refine Sm.nm (LV := fun v25 => [.ref l0, .int l1, .int l2, .int (0 : Int32), .int v25, .null]) (ST := fun v25 => []) (fun v25 => ?_)
      refine Sm.goto (t := 5) dX10_nodeOver_42 (by decide) ?_
      exact Sm.wk (hk5 ((0 : Int32), v25)) ⟨Or.inr rfl, Or.inr rfl, Or.inr rfl, Or.inr rfl, Or.inr rfl, Or.inl rfl, trivial⟩
    · refine Sm.aload_n dX10_nodeOver_15 rfl rfl rfl ?_
      refine Sm.ck (fun o26 => ?_)
      refine gf_X10_83 o26 dX10_nodeOver_16 rfl rfl (fun v27 => ?_)
      refine Sm.iload_n dX10_nodeOver_19 rfl rfl rfl ?_
      refine Sm.iload dX10_nodeOver_20 rfl rfl ?_
      refine Sm.iadd dX10_nodeOver_22 rfl ?_
      refine Sm.ca (fun q28 => ?_)
      refine Sm.iald q28 dX10_nodeOver_23 rfl ?_
      refine Sm.aload_n dX10_nodeOver_24 rfl rfl rfl ?_
      refine gf_X10_83 o26 dX10_nodeOver_25 rfl rfl (fun v29 => ?_)
      refine Sm.iload_n dX10_nodeOver_28 rfl rfl rfl ?_
      refine Sm.ca (fun q30 => ?_)
      refine Sm.iald q30 dX10_nodeOver_29 rfl ?_
      refine Sm.icmp_ne (t := 37) dX10_nodeOver_30 (by decide) rfl (fun b31 => ?_) (fun b31 => ?_)
      · refine Sm.iconst dX10_nodeOver_33 ic_1 rfl ?_
        refine Sm.goto (t := 38) dX10_nodeOver_34 (by decide) ?_
        refine Sm.istore_n (lv' := [.ref l0, .int l1, .int l2, .int (1 : Int32), .int l4, .null]) dX10_nodeOver_38 rfl (Nat.le_of_ble_eq_true rfl) rfl rfl ?_
        refine Sm.iinc (lv' := [.ref l0, .int l1, .int l2, .int (1 : Int32), .int (l4 + (1 : Int32)), .null]) dX10_nodeOver_39 rfl ic_1 rfl rfl ?_
        refine Sm.nm (LV := fun v32 => [.ref l0, .int l1, .int l2, .int (1 : Int32), .int v32, .null]) (ST := fun v32 => []) (fun v32 => ?_)
        refine Sm.goto (t := 5) dX10_nodeOver_42 (by decide) ?_
        exact Sm.wk (hk5 ((1 : Int32), v32)) ⟨Or.inr rfl, Or.inr rfl, Or.inr rfl, Or.inr rfl, Or.inr rfl, Or.inl rfl, trivial⟩
      · refine Sm.iconst dX10_nodeOver_37 ic_0 rfl ?_
        refine Sm.istore_n (lv' := [.ref l0, .int l1, .int l2, .int (0 : Int32), .int l4, .null]) dX10_nodeOver_38 rfl (Nat.le_of_ble_eq_true rfl) rfl rfl ?_
        refine Sm.iinc (lv' := [.ref l0, .int l1, .int l2, .int (0 : Int32), .int (l4 + (1 : Int32)), .null]) dX10_nodeOver_39 rfl ic_1 rfl rfl ?_
        refine Sm.nm (LV := fun v33 => [.ref l0, .int l1, .int l2, .int (0 : Int32), .int v33, .null]) (ST := fun v33 => []) (fun v33 => ?_)
        refine Sm.goto (t := 5) dX10_nodeOver_42 (by decide) ?_
        exact Sm.wk (hk5 ((0 : Int32), v33)) ⟨Or.inr rfl, Or.inr rfl, Or.inr rfl, Or.inr rfl, Or.inr rfl, Or.inl rfl, trivial⟩
def f_X10_nodeOver (l0 : Nat) (l1 : Int32) (l2 : Int32) (h : Hp) : Option (Int32 × Hp) :=
  (loopN (fun k s => f_X10_nodeOver_5 k l0 l1 l2 s.1 s.2 h) 5000 ((1 : Int32), (1 : Int32)))
set_option maxRecDepth 20000 in
theorem t_X10_nodeOver (l0 : Nat) (l1 : Int32) (l2 : Int32) (h : Hp) : Sm rvI g_X10_nodeOver 0 (ent 6 [.ref l0, .int l1, .int l2]) [] h (f_X10_nodeOver l0 l1 l2 h) := by
  show Sm rvI g_X10_nodeOver 0 [.ref l0, .int l1, .int l2, .null, .null, .null] [] h _
  unfold f_X10_nodeOver
  refine Sm.iconst dX10_nodeOver_0 ic_1 rfl ?_
  refine Sm.istore_n (lv' := [.ref l0, .int l1, .int l2, .int (1 : Int32), .null, .null]) dX10_nodeOver_1 rfl (Nat.le_of_ble_eq_true rfl) rfl rfl ?_
  refine Sm.iconst dX10_nodeOver_2 ic_1 rfl ?_
  refine Sm.istore (lv' := [.ref l0, .int l1, .int l2, .int (1 : Int32), .int (1 : Int32), .null]) dX10_nodeOver_3 (Nat.le_of_ble_eq_true rfl) rfl rfl ?_
  exact Sm.wk (Sm.loop (σ := Int32 × Int32) (LV := fun s => [.ref l0, .int l1, .int l2, .int s.1, .int s.2, .null]) (HH := fun s => h) (fun k hk s => t_X10_nodeOver_5 l0 l1 l2 s.1 s.2 h k hk) 5000 ((1 : Int32), (1 : Int32))) ⟨Or.inr rfl, Or.inr rfl, Or.inr rfl, Or.inr rfl, Or.inr rfl, Or.inl rfl, trivial⟩
set_option maxRecDepth 20000 in
theorem kc_X10_282 {ρ : Type} {rv : ρ → Option Value} {G : Gx} {pc q : Nat} {lv st : List Value} {h : Hp} {a : Nat} {x1 : Int32} {x2 : Int32} {e : Int32 → Hp → Option (ρ × Hp)} (hk : isO h a 10) (d : decode G.2.1 pc = .ok (.invokevirtual 282, 3)) (ho : G.1.cls = RX10) (hdep : (g_X10_nodeOver).2.2.2.2 < G.2.2.2.2) (hcat : catS st ≤ 8) (hq : pc + 3 = q) (k : ∀ r h1, Sm rv G q lv (.int r :: st) h1 (e r h1)) : Sm rv G pc lv (.int x2 :: .int x1 :: .ref a :: st) h (bd (f_X10_nodeOver a x1 x2 h) e) :=
  Sm.callV (rv' := rvI) (args := [.int x1, .int x2]) (n := 2) (t_X10_nodeOver a x1 x2 h) hk (by decide) (r := (RX10, TX10, 43)) rfl rfl ho mw_1275 mw_1277 mp_91 mw_11 mw_1278 ⟨⟨by decide, rfl, hdep, Nat.le_of_ble_eq_true rfl⟩, Nat.le_of_ble_eq_true rfl, rfl, ⟨by decide, by decide⟩, hcat⟩ (by decide +kernel) (by intro v hv; simp only [List.mem_cons, List.not_mem_nil, or_false] at hv; rcases hv with rfl | rfl <;> intro x hx <;> cases hx) d hq k rfl
abbrev g_X10_draws : Gx := (yX10_draws, cX10_draws, 6, (Option.some FieldType.int), 4)
def f_X10_draws_63 (k51 : (Int32 × Int32 × Hp) → Option (Int32 × Hp)) (k63 : (Int32 × Hp) → Option (Int32 × Hp)) (l0 : Nat) (l2 : Int32) (l3 : Int32) (l4 : Int32) (l5 : Int32) (h : Hp) : Option (Int32 × Hp) :=
  (if l3 ≤ l5 then
(nm (l4 + (-1 : Int32)) fun v10 =>
(k51 (l3, v10, h)))
else
(ck h l0 10
((gP h l0 36).bind fun v12 =>
(bd (f_X10_nodeOver l0 l4 ((4 : Int32) * l5) h) fun v13 h14 =>
(ca h14 v12 20 l5
(ck (sI h14 v12 l5.toNatClampNeg v13) l0 10
((gP (sI h14 v12 l5.toNatClampNeg v13) l0 35).bind fun v17 =>
((gP (sI h14 v12 l5.toNatClampNeg v13) l0 36).bind fun v18 =>
(ca (sI h14 v12 l5.toNatClampNeg v13) v18 20 l5
(nm (gI (sI h14 v12 l5.toNatClampNeg v13) v18 l5.toNatClampNeg) fun v20 =>
(ca (sI h14 v12 l5.toNatClampNeg v13) v17 20 v20
(ca (sI h14 v12 l5.toNatClampNeg v13) v17 20 v20
(nm (sI (sI h14 v12 l5.toNatClampNeg v13) v17 v20.toNatClampNeg ((gI (sI h14 v12 l5.toNatClampNeg v13) v17 v20.toNatClampNeg) ||| l2)) fun h23 =>
(nm (l5 + (1 : Int32)) fun v26 =>
(k63 (v26, h23))))))))))))))))
set_option maxRecDepth 20000 in
theorem t_X10_draws_63 (l0 : Nat) (l2 : Int32) (l3 : Int32) (l4 : Int32) (l5 : Int32) (h : Hp) (k51 : (Int32 × Int32 × Hp) → Option (Int32 × Hp)) (hk51 : ∀ s : Int32 × Int32 × Hp, Sm rvI g_X10_draws 51 [.ref l0, .null, .int l2, .int s.1, .int s.2.1, .null] [] s.2.2 (k51 s)) (k63 : (Int32 × Hp) → Option (Int32 × Hp)) (hk63 : ∀ s : Int32 × Hp, Sm rvI g_X10_draws 63 [.ref l0, .null, .int l2, .int l3, .int l4, .int s.1] [] s.2 (k63 s)) : Sm rvI g_X10_draws 63 [.ref l0, .null, .int l2, .int l3, .int l4, .int l5] [] h (f_X10_draws_63 k51 k63 l0 l2 l3 l4 l5 h) := by
  unfold f_X10_draws_63
  refine Sm.iload dX10_draws_63 rfl rfl ?_
  refine Sm.iload_n dX10_draws_65 rfl rfl rfl ?_
  refine Sm.icmp_ge (t := 108) dX10_draws_66 (by decide) rfl (fun b9 => ?_) (fun b9 => ?_)
  · refine Sm.iinc (lv' := [.ref l0, .null, .int l2, .int l3, .int (l4 + (-1 : Int32)), .int l5]) dX10_draws_108 rfl ic_m1 rfl rfl ?_
    refine Sm.nm (LV := fun v10 => [.ref l0, .null, .int l2, .int l3, .int v10, .int l5]) (ST := fun v10 => []) (fun v10 => ?_)
    refine Sm.goto (t := 51) dX10_draws_111 (by decide) ?_
    exact Sm.wk (hk51 (l3, v10, h)) ⟨Or.inr rfl, Or.inl rfl, Or.inr rfl, Or.inr rfl, Or.inr rfl, Or.inl rfl, trivial⟩
  · refine Sm.aload_n dX10_draws_69 rfl rfl rfl ?_
    refine Sm.ck (fun o11 => ?_)
    refine gf_X10_83 o11 dX10_draws_70 rfl rfl (fun v12 => ?_)
    refine Sm.iload dX10_draws_73 rfl rfl ?_
    refine Sm.aload_n dX10_draws_75 rfl rfl rfl ?_
    refine Sm.iload dX10_draws_76 rfl rfl ?_
    refine Sm.iconst dX10_draws_78 ic_4 rfl ?_
    refine Sm.iload dX10_draws_79 rfl rfl ?_
    refine Sm.imul dX10_draws_81 rfl ?_
    refine kc_X10_282 o11 dX10_draws_82 rfl (Nat.le_of_ble_eq_true rfl) (Nat.le_of_ble_eq_true rfl) rfl (fun v13 h14 => ?_)
    refine Sm.ca (fun q15 => ?_)
    refine Sm.iast q15 dX10_draws_85 rfl ?_
    refine Sm.aload_n dX10_draws_86 rfl rfl rfl ?_
    refine Sm.ck (fun o16 => ?_)
    refine gf_X10_80 o16 dX10_draws_87 rfl rfl (fun v17 => ?_)
    refine Sm.aload_n dX10_draws_90 rfl rfl rfl ?_
    refine gf_X10_83 o16 dX10_draws_91 rfl rfl (fun v18 => ?_)
    refine Sm.iload dX10_draws_94 rfl rfl ?_
    refine Sm.ca (fun q19 => ?_)
    refine Sm.iald q19 dX10_draws_96 rfl ?_
    refine Sm.nm (LV := fun v20 => [.ref l0, .null, .int l2, .int l3, .int l4, .int l5]) (ST := fun v20 => [.int v20, .ref v17]) (fun v20 => ?_)
    refine Sm.dup2 dX10_draws_97 rfl rfl rfl ?_
    refine Sm.ca (fun q21 => ?_)
    refine Sm.iald q21 dX10_draws_98 rfl ?_
    refine Sm.iload_n dX10_draws_99 rfl rfl rfl ?_
    refine Sm.ior dX10_draws_100 rfl ?_
    refine Sm.ca (fun q22 => ?_)
    refine Sm.iast q22 dX10_draws_101 rfl ?_
    refine Sm.nmH (fun h23 e24 e25 => ?_)
    refine Sm.iinc (lv' := [.ref l0, .null, .int l2, .int l3, .int l4, .int (l5 + (1 : Int32))]) dX10_draws_102 rfl ic_1 rfl rfl ?_
    refine Sm.nm (LV := fun v26 => [.ref l0, .null, .int l2, .int l3, .int l4, .int v26]) (ST := fun v26 => []) (fun v26 => ?_)
    refine Sm.goto (t := 63) dX10_draws_105 (by decide) ?_
    exact Sm.wk (hk63 (v26, h23)) ⟨Or.inr rfl, Or.inl rfl, Or.inr rfl, Or.inr rfl, Or.inr rfl, Or.inr rfl, trivial⟩
def f_X10_draws_51 (k51 : (Int32 × Int32 × Hp) → Option (Int32 × Hp)) (l0 : Nat) (l2 : Int32) (l3 : Int32) (l4 : Int32) (h : Hp) : Option (Int32 × Hp) :=
  (if l4 < 0 then
(ck h l0 10
((gP h l0 36).bind fun v6 =>
(ca h v6 20 (0 : Int32)
(some ((gI h v6 (0 : Int32).toNatClampNeg), h)))))
else
(nm (l3 / (4 : Int32)) fun v8 =>
(loopN (fun k s => f_X10_draws_63 k51 k l0 l2 v8 l4 s.1 s.2) 5000 ((0 : Int32), h))))
set_option maxRecDepth 20000 in
theorem t_X10_draws_51 (l0 : Nat) (l2 : Int32) (l3 : Int32) (l4 : Int32) (h : Hp) (k51 : (Int32 × Int32 × Hp) → Option (Int32 × Hp)) (hk51 : ∀ s : Int32 × Int32 × Hp, Sm rvI g_X10_draws 51 [.ref l0, .null, .int l2, .int s.1, .int s.2.1, .null] [] s.2.2 (k51 s)) : Sm rvI g_X10_draws 51 [.ref l0, .null, .int l2, .int l3, .int l4, .null] [] h (f_X10_draws_51 k51 l0 l2 l3 l4 h) := by
  unfold f_X10_draws_51
  refine Sm.iload dX10_draws_51 rfl rfl ?_
  refine Sm.if_lt (t := 114) dX10_draws_53 (by decide) rfl (fun b4 => ?_) (fun b4 => ?_)
  · refine Sm.aload_n dX10_draws_114 rfl rfl rfl ?_
    refine Sm.ck (fun o5 => ?_)
    refine gf_X10_83 o5 dX10_draws_115 rfl rfl (fun v6 => ?_)
    refine Sm.iconst dX10_draws_118 ic_0 rfl ?_
    refine Sm.ca (fun q7 => ?_)
    refine Sm.iald q7 dX10_draws_119 rfl ?_
    exact Sm.ret dX10_draws_120 trivial rfl
  · refine Sm.iload_n dX10_draws_56 rfl rfl rfl ?_
    refine Sm.iconst dX10_draws_57 ic_4 rfl ?_
    refine Sm.idiv dX10_draws_58 (by decide) rfl ?_
    refine Sm.nm (LV := fun v8 => [.ref l0, .null, .int l2, .int l3, .int l4, .null]) (ST := fun v8 => [.int v8]) (fun v8 => ?_)
    refine Sm.istore_n (lv' := [.ref l0, .null, .int l2, .int v8, .int l4, .null]) dX10_draws_59 rfl (Nat.le_of_ble_eq_true rfl) rfl rfl ?_
    refine Sm.iconst dX10_draws_60 ic_0 rfl ?_
    refine Sm.istore (lv' := [.ref l0, .null, .int l2, .int v8, .int l4, .int (0 : Int32)]) dX10_draws_61 (Nat.le_of_ble_eq_true rfl) rfl rfl ?_
    exact Sm.wk (Sm.loop (σ := Int32 × Hp) (LV := fun s => [.ref l0, .null, .int l2, .int v8, .int l4, .int s.1]) (HH := fun s => s.2) (fun k hk s => t_X10_draws_63 l0 l2 v8 l4 s.1 s.2 k51 hk51 k hk) 5000 ((0 : Int32), h)) ⟨Or.inr rfl, Or.inl rfl, Or.inr rfl, Or.inr rfl, Or.inr rfl, Or.inr rfl, trivial⟩
def f_X10_draws_7 (k7 : (Int32 × Hp) → Option (Int32 × Hp)) (l0 : Nat) (l2 : Int32) (l3 : Int32) (h : Hp) : Option (Int32 × Hp) :=
  (if (64 : Int32) ≤ l3 then
(loopN (fun k s => f_X10_draws_51 k l0 l2 s.1 s.2.1 s.2.2) 5000 ((64 : Int32), (2 : Int32), h))
else
(ck h l0 10
((gP h l0 36).bind fun v28 =>
(bd (f_X10_leafOf l0 l3 h) fun v29 h30 =>
(ca h30 v28 20 l3
(ck (sI h30 v28 l3.toNatClampNeg v29) l0 10
((gP (sI h30 v28 l3.toNatClampNeg v29) l0 35).bind fun v33 =>
((gP (sI h30 v28 l3.toNatClampNeg v29) l0 36).bind fun v34 =>
(ca (sI h30 v28 l3.toNatClampNeg v29) v34 20 l3
(nm (gI (sI h30 v28 l3.toNatClampNeg v29) v34 l3.toNatClampNeg) fun v36 =>
(ca (sI h30 v28 l3.toNatClampNeg v29) v33 20 v36
(ca (sI h30 v28 l3.toNatClampNeg v29) v33 20 v36
(nm (sI (sI h30 v28 l3.toNatClampNeg v29) v33 v36.toNatClampNeg ((gI (sI h30 v28 l3.toNatClampNeg v29) v33 v36.toNatClampNeg) ||| l2)) fun h39 =>
(nm (l3 + (1 : Int32)) fun v42 =>
(k7 (v42, h39))))))))))))))))
set_option maxRecDepth 20000 in
theorem t_X10_draws_7 (l0 : Nat) (l2 : Int32) (l3 : Int32) (h : Hp) (k7 : (Int32 × Hp) → Option (Int32 × Hp)) (hk7 : ∀ s : Int32 × Hp, Sm rvI g_X10_draws 7 [.ref l0, .null, .int l2, .int s.1, .null, .null] [] s.2 (k7 s)) : Sm rvI g_X10_draws 7 [.ref l0, .null, .int l2, .int l3, .null, .null] [] h (f_X10_draws_7 k7 l0 l2 l3 h) := by
  unfold f_X10_draws_7
  refine Sm.iload_n dX10_draws_7 rfl rfl rfl ?_
  refine Sm.bipush dX10_draws_8 bp_64 rfl ?_
  refine Sm.icmp_ge (t := 45) dX10_draws_10 (by decide) rfl (fun b3 => ?_) (fun b3 => ?_)
  · refine Sm.bipush dX10_draws_45 bp_64 rfl ?_
    refine Sm.istore_n (lv' := [.ref l0, .null, .int l2, .int (64 : Int32), .null, .null]) dX10_draws_47 rfl (Nat.le_of_ble_eq_true rfl) rfl rfl ?_
    refine Sm.iconst dX10_draws_48 ic_2 rfl ?_
    refine Sm.istore (lv' := [.ref l0, .null, .int l2, .int (64 : Int32), .int (2 : Int32), .null]) dX10_draws_49 (Nat.le_of_ble_eq_true rfl) rfl rfl ?_
    exact Sm.wk (Sm.loop (σ := Int32 × Int32 × Hp) (LV := fun s => [.ref l0, .null, .int l2, .int s.1, .int s.2.1, .null]) (HH := fun s => s.2.2) (fun k hk s => t_X10_draws_51 l0 l2 s.1 s.2.1 s.2.2 k hk) 5000 ((64 : Int32), (2 : Int32), h)) ⟨Or.inr rfl, Or.inl rfl, Or.inr rfl, Or.inr rfl, Or.inr rfl, Or.inl rfl, trivial⟩
  · refine Sm.aload_n dX10_draws_13 rfl rfl rfl ?_
    refine Sm.ck (fun o27 => ?_)
    refine gf_X10_83 o27 dX10_draws_14 rfl rfl (fun v28 => ?_)
    refine Sm.iload_n dX10_draws_17 rfl rfl rfl ?_
    refine Sm.aload_n dX10_draws_18 rfl rfl rfl ?_
    refine Sm.iload_n dX10_draws_19 rfl rfl rfl ?_
    refine kc_X10_279 o27 dX10_draws_20 rfl (Nat.le_of_ble_eq_true rfl) (Nat.le_of_ble_eq_true rfl) rfl (fun v29 h30 => ?_)
    refine Sm.ca (fun q31 => ?_)
    refine Sm.iast q31 dX10_draws_23 rfl ?_
    refine Sm.aload_n dX10_draws_24 rfl rfl rfl ?_
    refine Sm.ck (fun o32 => ?_)
    refine gf_X10_80 o32 dX10_draws_25 rfl rfl (fun v33 => ?_)
    refine Sm.aload_n dX10_draws_28 rfl rfl rfl ?_
    refine gf_X10_83 o32 dX10_draws_29 rfl rfl (fun v34 => ?_)
    refine Sm.iload_n dX10_draws_32 rfl rfl rfl ?_
    refine Sm.ca (fun q35 => ?_)
    refine Sm.iald q35 dX10_draws_33 rfl ?_
    refine Sm.nm (LV := fun v36 => [.ref l0, .null, .int l2, .int l3, .null, .null]) (ST := fun v36 => [.int v36, .ref v33]) (fun v36 => ?_)
    refine Sm.dup2 dX10_draws_34 rfl rfl rfl ?_
    refine Sm.ca (fun q37 => ?_)
    refine Sm.iald q37 dX10_draws_35 rfl ?_
    refine Sm.iload_n dX10_draws_36 rfl rfl rfl ?_
    refine Sm.ior dX10_draws_37 rfl ?_
    refine Sm.ca (fun q38 => ?_)
    refine Sm.iast q38 dX10_draws_38 rfl ?_
    refine Sm.nmH (fun h39 e40 e41 => ?_)
    refine Sm.iinc (lv' := [.ref l0, .null, .int l2, .int (l3 + (1 : Int32)), .null, .null]) dX10_draws_39 rfl ic_1 rfl rfl ?_
    refine Sm.nm (LV := fun v42 => [.ref l0, .null, .int l2, .int v42, .null, .null]) (ST := fun v42 => []) (fun v42 => ?_)
    refine Sm.goto (t := 7) dX10_draws_42 (by decide) ?_
    exact Sm.wk (hk7 (v42, h39)) ⟨Or.inr rfl, Or.inl rfl, Or.inr rfl, Or.inr rfl, Or.inl rfl, Or.inl rfl, trivial⟩
def f_X10_draws (l0 : Nat) (l1 : Int32) (l2 : Int32) (h : Hp) : Option (Int32 × Hp) :=
  (ck h l0 10
(bd (f_X10_evaluates l0 l1 h) fun _ h2 =>
(loopN (fun k s => f_X10_draws_7 k l0 l2 s.1 s.2) 5000 ((0 : Int32), h2))))
set_option maxRecDepth 20000 in
theorem t_X10_draws (l0 : Nat) (l1 : Int32) (l2 : Int32) (h : Hp) : Sm rvI g_X10_draws 0 (ent 6 [.ref l0, .int l1, .int l2]) [] h (f_X10_draws l0 l1 l2 h) := by
  show Sm rvI g_X10_draws 0 [.ref l0, .int l1, .int l2, .null, .null, .null] [] h _
  unfold f_X10_draws
  refine Sm.aload_n dX10_draws_0 rfl rfl rfl ?_
  refine Sm.iload_n dX10_draws_1 rfl rfl rfl ?_
  refine Sm.ck (fun o1 => ?_)
  refine kc_X10_235 o1 dX10_draws_2 rfl (Nat.le_of_ble_eq_true rfl) (Nat.le_of_ble_eq_true rfl) rfl (fun _ h2 => ?_)
  refine Sm.iconst dX10_draws_5 ic_0 rfl ?_
  refine Sm.istore_n (lv' := [.ref l0, .int l1, .int l2, .int (0 : Int32), .null, .null]) dX10_draws_6 rfl (Nat.le_of_ble_eq_true rfl) rfl rfl ?_
  exact Sm.wk (Sm.loop (σ := Int32 × Hp) (LV := fun s => [.ref l0, .null, .int l2, .int s.1, .null, .null]) (HH := fun s => s.2) (fun k hk s => t_X10_draws_7 l0 l2 s.1 s.2 k hk) 5000 ((0 : Int32), h2)) ⟨Or.inr rfl, Or.inl rfl, Or.inr rfl, Or.inr rfl, Or.inl rfl, Or.inl rfl, trivial⟩
set_option maxRecDepth 20000 in
theorem kc_X10_288 {ρ : Type} {rv : ρ → Option Value} {G : Gx} {pc q : Nat} {lv st : List Value} {h : Hp} {a : Nat} {x1 : Int32} {x2 : Int32} {e : Int32 → Hp → Option (ρ × Hp)} (hk : isO h a 10) (d : decode G.2.1 pc = .ok (.invokevirtual 288, 3)) (ho : G.1.cls = RX10) (hdep : (g_X10_draws).2.2.2.2 < G.2.2.2.2) (hcat : catS st ≤ 8) (hq : pc + 3 = q) (k : ∀ r h1, Sm rv G q lv (.int r :: st) h1 (e r h1)) : Sm rv G pc lv (.int x2 :: .int x1 :: .ref a :: st) h (bd (f_X10_draws a x1 x2 h) e) :=
  Sm.callV (rv' := rvI) (args := [.int x1, .int x2]) (n := 2) (t_X10_draws a x1 x2 h) hk (by decide) (r := (RX10, TX10, 43)) rfl rfl ho mw_1264 mw_1266 mp_89 mw_11 mw_1267 ⟨⟨by decide, rfl, hdep, Nat.le_of_ble_eq_true rfl⟩, Nat.le_of_ble_eq_true rfl, rfl, ⟨by decide, by decide⟩, hcat⟩ (by decide +kernel) (by intro v hv; simp only [List.mem_cons, List.not_mem_nil, or_false] at hv; rcases hv with rfl | rfl <;> intro x hx <;> cases hx) d hq k rfl
abbrev g_X10_clears : Gx := (yX10_clears, cX10_clears, 2, (Option.none : Option FieldType), 0)
def f_X10_clears_12 (k12 : (Int32 × Hp) → Option (Unit × Hp)) (l0 : Nat) (l1 : Int32) (h : Hp) : Option (Unit × Hp) :=
  (if (192 : Int32) ≤ l1 then
(some ((), h))
else
(ck h l0 10
((gP h l0 35).bind fun v4 =>
(ca h v4 20 l1
(nm (l1 + (1 : Int32)) fun v6 =>
(k12 (v6, (sI h v4 l1.toNatClampNeg (0 : Int32)))))))))
set_option maxRecDepth 20000 in
theorem t_X10_clears_12 (l0 : Nat) (l1 : Int32) (h : Hp) (k12 : (Int32 × Hp) → Option (Unit × Hp)) (hk12 : ∀ s : Int32 × Hp, Sm rvV g_X10_clears 12 [.ref l0, .int s.1] [] s.2 (k12 s)) : Sm rvV g_X10_clears 12 [.ref l0, .int l1] [] h (f_X10_clears_12 k12 l0 l1 h) := by
  unfold f_X10_clears_12
  refine Sm.iload_n dX10_clears_12 rfl rfl rfl ?_
  refine Sm.sipush dX10_clears_13 sp_192 rfl ?_
  refine Sm.icmp_ge (t := 32) dX10_clears_16 (by decide) rfl (fun b2 => ?_) (fun b2 => ?_)
  · exact Sm.ret (r := ()) dX10_clears_32 trivial rfl
  · refine Sm.aload_n dX10_clears_19 rfl rfl rfl ?_
    refine Sm.ck (fun o3 => ?_)
    refine gf_X10_80 o3 dX10_clears_20 rfl rfl (fun v4 => ?_)
    refine Sm.iload_n dX10_clears_23 rfl rfl rfl ?_
    refine Sm.iconst dX10_clears_24 ic_0 rfl ?_
    refine Sm.ca (fun q5 => ?_)
    refine Sm.iast q5 dX10_clears_25 rfl ?_
    refine Sm.iinc (lv' := [.ref l0, .int (l1 + (1 : Int32))]) dX10_clears_26 rfl ic_1 rfl rfl ?_
    refine Sm.nm (LV := fun v6 => [.ref l0, .int v6]) (ST := fun v6 => []) (fun v6 => ?_)
    refine Sm.goto (t := 12) dX10_clears_29 (by decide) ?_
    exact Sm.wk (hk12 (v6, (sI h v4 l1.toNatClampNeg (0 : Int32)))) ⟨Or.inr rfl, Or.inr rfl, trivial⟩
def f_X10_clears (l0 : Nat) (h : Hp) : Option (Unit × Hp) :=
  (ck h l0 10
(loopN (fun k s => f_X10_clears_12 k l0 s.1 s.2) 5000 ((0 : Int32), (sI (sI h l0 31 (0 : Int32)) l0 34 (0 : Int32)))))
set_option maxRecDepth 20000 in
theorem t_X10_clears (l0 : Nat) (h : Hp) : Sm rvV g_X10_clears 0 (ent 2 [.ref l0]) [] h (f_X10_clears l0 h) := by
  show Sm rvV g_X10_clears 0 [.ref l0, .null] [] h _
  unfold f_X10_clears
  refine Sm.aload_n dX10_clears_0 rfl rfl rfl ?_
  refine Sm.iconst dX10_clears_1 ic_0 rfl ?_
  refine Sm.ck (fun o1 => ?_)
  refine pf_X10_270 o1 dX10_clears_2 rfl rfl ?_
  refine Sm.aload_n dX10_clears_5 rfl rfl rfl ?_
  refine Sm.iconst dX10_clears_6 ic_0 rfl ?_
  refine pf_X10_273 o1 dX10_clears_7 rfl rfl ?_
  refine Sm.iconst dX10_clears_10 ic_0 rfl ?_
  refine Sm.istore_n (lv' := [.ref l0, .int (0 : Int32)]) dX10_clears_11 rfl (Nat.le_of_ble_eq_true rfl) rfl rfl ?_
  exact Sm.wk (Sm.loop (σ := Int32 × Hp) (LV := fun s => [.ref l0, .int s.1]) (HH := fun s => s.2) (fun k hk s => t_X10_clears_12 l0 s.1 s.2 k hk) 5000 ((0 : Int32), (sI (sI h l0 31 (0 : Int32)) l0 34 (0 : Int32)))) ⟨Or.inr rfl, Or.inr rfl, trivial⟩
set_option maxRecDepth 20000 in
theorem kc_X10_285 {ρ : Type} {rv : ρ → Option Value} {G : Gx} {pc q : Nat} {lv st : List Value} {h : Hp} {a : Nat} {e : Unit → Hp → Option (ρ × Hp)} (hk : isO h a 10) (d : decode G.2.1 pc = .ok (.invokevirtual 285, 3)) (ho : G.1.cls = RX10) (hdep : (g_X10_clears).2.2.2.2 < G.2.2.2.2) (hcat : catS st ≤ 8) (hq : pc + 3 = q) (k : ∀ r h1, Sm rv G q lv (st) h1 (e r h1)) : Sm rv G pc lv (.ref a :: st) h (bd (f_X10_clears a h) e) :=
  Sm.callV (rv' := rvV) (args := []) (n := 0) (t_X10_clears a h) hk (by decide) (r := (RX10, TX10, 43)) rfl rfl ho mw_1260 mw_1262 mp_88 mw_11 mw_1263 ⟨⟨by decide, rfl, hdep, Nat.le_of_ble_eq_true rfl⟩, Nat.le_of_ble_eq_true rfl, rfl, ⟨by decide, by decide⟩, hcat⟩ (by decide +kernel) (fun v hv => by cases hv) d hq k rfl
abbrev g_X10_drawsAlone : Gx := (yX10_drawsAlone, cX10_drawsAlone, 2, (Option.some FieldType.int), 5)
def f_X10_drawsAlone (l0 : Nat) (l1 : Int32) (h : Hp) : Option (Int32 × Hp) :=
  (ck h l0 10
(bd (f_X10_clears l0 h) fun _ h2 =>
(ck h2 l0 10
(bd (f_X10_draws l0 l1 (1 : Int32) h2) fun v4 h5 =>
(some (v4, h5))))))
set_option maxRecDepth 20000 in
theorem t_X10_drawsAlone (l0 : Nat) (l1 : Int32) (h : Hp) : Sm rvI g_X10_drawsAlone 0 (ent 2 [.ref l0, .int l1]) [] h (f_X10_drawsAlone l0 l1 h) := by
  show Sm rvI g_X10_drawsAlone 0 [.ref l0, .int l1] [] h _
  unfold f_X10_drawsAlone
  refine Sm.aload_n dX10_drawsAlone_0 rfl rfl rfl ?_
  refine Sm.ck (fun o1 => ?_)
  refine kc_X10_285 o1 dX10_drawsAlone_1 rfl (Nat.le_of_ble_eq_true rfl) (Nat.le_of_ble_eq_true rfl) rfl (fun _ h2 => ?_)
  refine Sm.aload_n dX10_drawsAlone_4 rfl rfl rfl ?_
  refine Sm.iload_n dX10_drawsAlone_5 rfl rfl rfl ?_
  refine Sm.iconst dX10_drawsAlone_6 ic_1 rfl ?_
  refine Sm.ck (fun o3 => ?_)
  refine kc_X10_288 o3 dX10_drawsAlone_7 rfl (Nat.le_of_ble_eq_true rfl) (Nat.le_of_ble_eq_true rfl) rfl (fun v4 h5 => ?_)
  exact Sm.ret dX10_drawsAlone_10 trivial rfl
set_option maxRecDepth 20000 in
theorem kc_X10_291 {ρ : Type} {rv : ρ → Option Value} {G : Gx} {pc q : Nat} {lv st : List Value} {h : Hp} {a : Nat} {x1 : Int32} {e : Int32 → Hp → Option (ρ × Hp)} (hk : isO h a 10) (d : decode G.2.1 pc = .ok (.invokevirtual 291, 3)) (ho : G.1.cls = RX10) (hdep : (g_X10_drawsAlone).2.2.2.2 < G.2.2.2.2) (hcat : catS st ≤ 8) (hq : pc + 3 = q) (k : ∀ r h1, Sm rv G q lv (.int r :: st) h1 (e r h1)) : Sm rv G pc lv (.int x1 :: .ref a :: st) h (bd (f_X10_drawsAlone a x1 h) e) :=
  Sm.callV (rv' := rvI) (args := [.int x1]) (n := 1) (t_X10_drawsAlone a x1 h) hk (by decide) (r := (RX10, TX10, 43)) rfl rfl ho mw_1256 mw_1258 mp_87 mw_11 mw_1259 ⟨⟨by decide, rfl, hdep, Nat.le_of_ble_eq_true rfl⟩, Nat.le_of_ble_eq_true rfl, rfl, ⟨by decide, by decide⟩, hcat⟩ (by decide +kernel) (by intro v hv; simp only [List.mem_cons, List.not_mem_nil, or_false] at hv; rcases hv with rfl <;> intro x hx <;> cases hx) d hq k rfl
abbrev g_X10_sizeOf : Gx := (yX10_sizeOf, cX10_sizeOf, 2, (Option.some FieldType.int), 6)
def f_X10_sizeOf (l0 : Nat) (l1 : Int32) (h : Hp) : Option (Int32 × Hp) :=
  (ck h l0 10
(bd (f_X10_drawsAlone l0 l1 h) fun v2 h3 =>
(ck h3 l0 10
(some (((gI h3 l0 31) + (gI h3 l0 34)), h3)))))
set_option maxRecDepth 20000 in
theorem t_X10_sizeOf (l0 : Nat) (l1 : Int32) (h : Hp) : Sm rvI g_X10_sizeOf 0 (ent 2 [.ref l0, .int l1]) [] h (f_X10_sizeOf l0 l1 h) := by
  show Sm rvI g_X10_sizeOf 0 [.ref l0, .int l1] [] h _
  unfold f_X10_sizeOf
  refine Sm.aload_n dX10_sizeOf_0 rfl rfl rfl ?_
  refine Sm.iload_n dX10_sizeOf_1 rfl rfl rfl ?_
  refine Sm.ck (fun o1 => ?_)
  refine kc_X10_291 o1 dX10_sizeOf_2 rfl (Nat.le_of_ble_eq_true rfl) (Nat.le_of_ble_eq_true rfl) rfl (fun v2 h3 => ?_)
  refine Sm.pop dX10_sizeOf_5 rfl rfl ?_
  refine Sm.aload_n dX10_sizeOf_6 rfl rfl rfl ?_
  refine Sm.ck (fun o4 => ?_)
  refine gf_X10_270 o4 dX10_sizeOf_7 rfl rfl ?_
  refine Sm.aload_n dX10_sizeOf_10 rfl rfl rfl ?_
  refine gf_X10_273 o4 dX10_sizeOf_11 rfl rfl ?_
  refine Sm.iadd dX10_sizeOf_14 rfl ?_
  exact Sm.ret dX10_sizeOf_15 trivial rfl
set_option maxRecDepth 20000 in
theorem kc_X10_294 {ρ : Type} {rv : ρ → Option Value} {G : Gx} {pc q : Nat} {lv st : List Value} {h : Hp} {a : Nat} {x1 : Int32} {e : Int32 → Hp → Option (ρ × Hp)} (hk : isO h a 10) (d : decode G.2.1 pc = .ok (.invokevirtual 294, 3)) (ho : G.1.cls = RX10) (hdep : (g_X10_sizeOf).2.2.2.2 < G.2.2.2.2) (hcat : catS st ≤ 8) (hq : pc + 3 = q) (k : ∀ r h1, Sm rv G q lv (.int r :: st) h1 (e r h1)) : Sm rv G pc lv (.int x1 :: .ref a :: st) h (bd (f_X10_sizeOf a x1 h) e) :=
  Sm.callV (rv' := rvI) (args := [.int x1]) (n := 1) (t_X10_sizeOf a x1 h) hk (by decide) (r := (RX10, TX10, 43)) rfl rfl ho mw_1252 mw_1254 mp_86 mw_11 mw_1255 ⟨⟨by decide, rfl, hdep, Nat.le_of_ble_eq_true rfl⟩, Nat.le_of_ble_eq_true rfl, rfl, ⟨by decide, by decide⟩, hcat⟩ (by decide +kernel) (by intro v hv; simp only [List.mem_cons, List.not_mem_nil, or_false] at hv; rcases hv with rfl <;> intro x hx <;> cases hx) d hq k rfl
abbrev g_X10_diagramSize : Gx := (yX10_diagramSize, cX10_diagramSize, 2, (Option.some FieldType.int), 7)
def f_X10_diagramSize (l0 : Nat) (l1 : Int32) (h : Hp) : Option (Int32 × Hp) :=
  (bd (f_X10_isSlot l1 h) fun v1 h2 =>
(if v1 = 0 then
(ck h2 l0 10
(bd (f_X10_fails l0 (-2 : Int32) h2) fun v5 h6 =>
(some (v5, h6))))
else
(ck h2 l0 10
(bd (f_X10_sizeOf l0 l1 h2) fun v8 h9 =>
(some (v8, h9))))))
set_option maxRecDepth 20000 in
theorem t_X10_diagramSize (l0 : Nat) (l1 : Int32) (h : Hp) : Sm rvI g_X10_diagramSize 0 (ent 2 [.ref l0, .int l1]) [] h (f_X10_diagramSize l0 l1 h) := by
  show Sm rvI g_X10_diagramSize 0 [.ref l0, .int l1] [] h _
  unfold f_X10_diagramSize
  refine Sm.iload_n dX10_diagramSize_0 rfl rfl rfl ?_
  refine kc_X10_179 dX10_diagramSize_1 rfl (Nat.le_of_ble_eq_true rfl) (Nat.le_of_ble_eq_true rfl) rfl (fun v1 h2 => ?_)
  refine Sm.if_eq (t := 15) dX10_diagramSize_4 (by decide) rfl (fun b3 => ?_) (fun b3 => ?_)
  · refine Sm.aload_n dX10_diagramSize_15 rfl rfl rfl ?_
    refine Sm.bipush dX10_diagramSize_16 bp_m2 rfl ?_
    refine Sm.ck (fun o4 => ?_)
    refine kc_X10_106 o4 dX10_diagramSize_18 rfl (Nat.le_of_ble_eq_true rfl) (Nat.le_of_ble_eq_true rfl) rfl (fun v5 h6 => ?_)
    exact Sm.ret dX10_diagramSize_21 trivial rfl
  · refine Sm.aload_n dX10_diagramSize_7 rfl rfl rfl ?_
    refine Sm.iload_n dX10_diagramSize_8 rfl rfl rfl ?_
    refine Sm.ck (fun o7 => ?_)
    refine kc_X10_294 o7 dX10_diagramSize_9 rfl (Nat.le_of_ble_eq_true rfl) (Nat.le_of_ble_eq_true rfl) rfl (fun v8 h9 => ?_)
    refine Sm.goto (t := 21) dX10_diagramSize_12 (by decide) ?_
    exact Sm.ret dX10_diagramSize_21 trivial rfl
set_option maxRecDepth 20000 in
theorem kc_L_83 {ρ : Type} {rv : ρ → Option Value} {G : Gx} {pc q : Nat} {lv st : List Value} {h : Hp} {a : Nat} {x1 : Int32} {e : Int32 → Hp → Option (ρ × Hp)} (hk : isO h a 10) (d : decode G.2.1 pc = .ok (.invokevirtual 83, 3)) (ho : G.1.cls = RL) (hdep : (g_X10_diagramSize).2.2.2.2 < G.2.2.2.2) (hcat : catS st ≤ 8) (hq : pc + 3 = q) (k : ∀ r h1, Sm rv G q lv (.int r :: st) h1 (e r h1)) : Sm rv G pc lv (.int x1 :: .ref a :: st) h (bd (f_X10_diagramSize a x1 h) e) :=
  Sm.callV (rv' := rvI) (args := [.int x1]) (n := 1) (t_X10_diagramSize a x1 h) hk (by decide) (r := (RX10, TX10, 43)) rfl rfl ho mw_1248 mw_1249 mw_1250 mw_11 mw_1251 ⟨⟨by decide, rfl, hdep, Nat.le_of_ble_eq_true rfl⟩, Nat.le_of_ble_eq_true rfl, rfl, ⟨by decide, by decide⟩, hcat⟩ (by decide +kernel) (by intro v hv; simp only [List.mem_cons, List.not_mem_nil, or_false] at hv; rcases hv with rfl <;> intro x hx <;> cases hx) d hq k rfl
abbrev g_X10_leavesOf : Gx := (yX10_leavesOf, cX10_leavesOf, 2, (Option.some FieldType.int), 6)
def f_X10_leavesOf (l0 : Nat) (l1 : Int32) (h : Hp) : Option (Int32 × Hp) :=
  (ck h l0 10
(bd (f_X10_drawsAlone l0 l1 h) fun v2 h3 =>
(ck h3 l0 10
(some ((gI h3 l0 31), h3)))))
set_option maxRecDepth 20000 in
theorem t_X10_leavesOf (l0 : Nat) (l1 : Int32) (h : Hp) : Sm rvI g_X10_leavesOf 0 (ent 2 [.ref l0, .int l1]) [] h (f_X10_leavesOf l0 l1 h) := by
  show Sm rvI g_X10_leavesOf 0 [.ref l0, .int l1] [] h _
  unfold f_X10_leavesOf
  refine Sm.aload_n dX10_leavesOf_0 rfl rfl rfl ?_
  refine Sm.iload_n dX10_leavesOf_1 rfl rfl rfl ?_
  refine Sm.ck (fun o1 => ?_)
  refine kc_X10_291 o1 dX10_leavesOf_2 rfl (Nat.le_of_ble_eq_true rfl) (Nat.le_of_ble_eq_true rfl) rfl (fun v2 h3 => ?_)
  refine Sm.pop dX10_leavesOf_5 rfl rfl ?_
  refine Sm.aload_n dX10_leavesOf_6 rfl rfl rfl ?_
  refine Sm.ck (fun o4 => ?_)
  refine gf_X10_270 o4 dX10_leavesOf_7 rfl rfl ?_
  exact Sm.ret dX10_leavesOf_10 trivial rfl
set_option maxRecDepth 20000 in
theorem kc_X10_297 {ρ : Type} {rv : ρ → Option Value} {G : Gx} {pc q : Nat} {lv st : List Value} {h : Hp} {a : Nat} {x1 : Int32} {e : Int32 → Hp → Option (ρ × Hp)} (hk : isO h a 10) (d : decode G.2.1 pc = .ok (.invokevirtual 297, 3)) (ho : G.1.cls = RX10) (hdep : (g_X10_leavesOf).2.2.2.2 < G.2.2.2.2) (hcat : catS st ≤ 8) (hq : pc + 3 = q) (k : ∀ r h1, Sm rv G q lv (.int r :: st) h1 (e r h1)) : Sm rv G pc lv (.int x1 :: .ref a :: st) h (bd (f_X10_leavesOf a x1 h) e) :=
  Sm.callV (rv' := rvI) (args := [.int x1]) (n := 1) (t_X10_leavesOf a x1 h) hk (by decide) (r := (RX10, TX10, 43)) rfl rfl ho mw_1287 mw_1289 mp_93 mw_11 mw_1290 ⟨⟨by decide, rfl, hdep, Nat.le_of_ble_eq_true rfl⟩, Nat.le_of_ble_eq_true rfl, rfl, ⟨by decide, by decide⟩, hcat⟩ (by decide +kernel) (by intro v hv; simp only [List.mem_cons, List.not_mem_nil, or_false] at hv; rcases hv with rfl <;> intro x hx <;> cases hx) d hq k rfl
abbrev g_X10_leaves : Gx := (yX10_leaves, cX10_leaves, 2, (Option.some FieldType.int), 7)
def f_X10_leaves (l0 : Nat) (l1 : Int32) (h : Hp) : Option (Int32 × Hp) :=
  (bd (f_X10_isSlot l1 h) fun v1 h2 =>
(if v1 = 0 then
(ck h2 l0 10
(bd (f_X10_fails l0 (-2 : Int32) h2) fun v5 h6 =>
(some (v5, h6))))
else
(ck h2 l0 10
(bd (f_X10_leavesOf l0 l1 h2) fun v8 h9 =>
(some (v8, h9))))))
set_option maxRecDepth 20000 in
theorem t_X10_leaves (l0 : Nat) (l1 : Int32) (h : Hp) : Sm rvI g_X10_leaves 0 (ent 2 [.ref l0, .int l1]) [] h (f_X10_leaves l0 l1 h) := by
  show Sm rvI g_X10_leaves 0 [.ref l0, .int l1] [] h _
  unfold f_X10_leaves
  refine Sm.iload_n dX10_leaves_0 rfl rfl rfl ?_
  refine kc_X10_179 dX10_leaves_1 rfl (Nat.le_of_ble_eq_true rfl) (Nat.le_of_ble_eq_true rfl) rfl (fun v1 h2 => ?_)
  refine Sm.if_eq (t := 15) dX10_leaves_4 (by decide) rfl (fun b3 => ?_) (fun b3 => ?_)
  · refine Sm.aload_n dX10_leaves_15 rfl rfl rfl ?_
    refine Sm.bipush dX10_leaves_16 bp_m2 rfl ?_
    refine Sm.ck (fun o4 => ?_)
    refine kc_X10_106 o4 dX10_leaves_18 rfl (Nat.le_of_ble_eq_true rfl) (Nat.le_of_ble_eq_true rfl) rfl (fun v5 h6 => ?_)
    exact Sm.ret dX10_leaves_21 trivial rfl
  · refine Sm.aload_n dX10_leaves_7 rfl rfl rfl ?_
    refine Sm.iload_n dX10_leaves_8 rfl rfl rfl ?_
    refine Sm.ck (fun o7 => ?_)
    refine kc_X10_297 o7 dX10_leaves_9 rfl (Nat.le_of_ble_eq_true rfl) (Nat.le_of_ble_eq_true rfl) rfl (fun v8 h9 => ?_)
    refine Sm.goto (t := 21) dX10_leaves_12 (by decide) ?_
    exact Sm.ret dX10_leaves_21 trivial rfl
set_option maxRecDepth 20000 in
theorem kc_L_87 {ρ : Type} {rv : ρ → Option Value} {G : Gx} {pc q : Nat} {lv st : List Value} {h : Hp} {a : Nat} {x1 : Int32} {e : Int32 → Hp → Option (ρ × Hp)} (hk : isO h a 10) (d : decode G.2.1 pc = .ok (.invokevirtual 87, 3)) (ho : G.1.cls = RL) (hdep : (g_X10_leaves).2.2.2.2 < G.2.2.2.2) (hcat : catS st ≤ 8) (hq : pc + 3 = q) (k : ∀ r h1, Sm rv G q lv (.int r :: st) h1 (e r h1)) : Sm rv G pc lv (.int x1 :: .ref a :: st) h (bd (f_X10_leaves a x1 h) e) :=
  Sm.callV (rv' := rvI) (args := [.int x1]) (n := 1) (t_X10_leaves a x1 h) hk (by decide) (r := (RX10, TX10, 43)) rfl rfl ho mw_1283 mw_1284 mw_1285 mw_11 mw_1286 ⟨⟨by decide, rfl, hdep, Nat.le_of_ble_eq_true rfl⟩, Nat.le_of_ble_eq_true rfl, rfl, ⟨by decide, by decide⟩, hcat⟩ (by decide +kernel) (by intro v hv; simp only [List.mem_cons, List.not_mem_nil, or_false] at hv; rcases hv with rfl <;> intro x hx <;> cases hx) d hq k rfl
abbrev g_X10_depthOf : Gx := (yX10_depthOf, cX10_depthOf, 7, (Option.some FieldType.int), 6)
def f_X10_depthOf_24 (k11 : (Int32 × Int32 × Hp) → Option (Int32 × Hp)) (k24 : (Int32 × Int32 × Hp) → Option (Int32 × Hp)) (l0 : Nat) (l2 : Int32) (l3 : Int32) (l4 : Int32) (l5 : Int32) (l6 : Int32) (h : Hp) : Option (Int32 × Hp) :=
  (if l6 < (128 : Int32) then
(if l5 ≤ l3 then
(nm (l4 + (1 : Int32)) fun v7 =>
(k11 (l3, v7, h)))
else
(nm (l4 + (1 : Int32)) fun v8 =>
(k11 (l5, v8, h))))
else
(ck h l0 10
((gP h l0 33).bind fun v10 =>
((gP h l0 32).bind fun v11 =>
(ca h v11 20 (l6 - (128 : Int32))
(bd (f_X10_valueOf l4 (gI h v11 (l6 - (128 : Int32)).toNatClampNeg) h) fun v13 h14 =>
(ca h14 v10 20 (((4 : Int32) * (l6 - (128 : Int32))) + v13)
(nm (gI h14 v10 (((4 : Int32) * (l6 - (128 : Int32))) + v13).toNatClampNeg) fun v16 =>
(nm (l5 + (1 : Int32)) fun v17 =>
(k24 (v17, v16, h14)))))))))))
set_option maxRecDepth 20000 in
theorem t_X10_depthOf_24 (l0 : Nat) (l2 : Int32) (l3 : Int32) (l4 : Int32) (l5 : Int32) (l6 : Int32) (h : Hp) (k11 : (Int32 × Int32 × Hp) → Option (Int32 × Hp)) (hk11 : ∀ s : Int32 × Int32 × Hp, Sm rvI g_X10_depthOf 11 [.ref l0, .null, .int l2, .int s.1, .int s.2.1, .null, .null] [] s.2.2 (k11 s)) (k24 : (Int32 × Int32 × Hp) → Option (Int32 × Hp)) (hk24 : ∀ s : Int32 × Int32 × Hp, Sm rvI g_X10_depthOf 24 [.ref l0, .null, .int l2, .int l3, .int l4, .int s.1, .int s.2.1] [] s.2.2 (k24 s)) : Sm rvI g_X10_depthOf 24 [.ref l0, .null, .int l2, .int l3, .int l4, .int l5, .int l6] [] h (f_X10_depthOf_24 k11 k24 l0 l2 l3 l4 l5 l6 h) := by
  unfold f_X10_depthOf_24
  refine Sm.iload dX10_depthOf_24 rfl rfl ?_
  refine Sm.sipush dX10_depthOf_26 sp_128 rfl ?_
  refine Sm.icmp_lt (t := 70) dX10_depthOf_29 (by decide) rfl (fun b5 => ?_) (fun b5 => ?_)
  · refine Sm.iload dX10_depthOf_70 rfl rfl ?_
    refine Sm.iload_n dX10_depthOf_72 rfl rfl rfl ?_
    refine Sm.icmp_le (t := 81) dX10_depthOf_73 (by decide) rfl (fun b6 => ?_) (fun b6 => ?_)
    · refine Sm.iload_n dX10_depthOf_81 rfl rfl rfl ?_
      refine Sm.istore_n (lv' := [.ref l0, .null, .int l2, .int l3, .int l4, .int l5, .int l6]) dX10_depthOf_82 rfl (Nat.le_of_ble_eq_true rfl) rfl rfl ?_
      refine Sm.iinc (lv' := [.ref l0, .null, .int l2, .int l3, .int (l4 + (1 : Int32)), .int l5, .int l6]) dX10_depthOf_83 rfl ic_1 rfl rfl ?_
      refine Sm.nm (LV := fun v7 => [.ref l0, .null, .int l2, .int l3, .int v7, .int l5, .int l6]) (ST := fun v7 => []) (fun v7 => ?_)
      refine Sm.goto (t := 11) dX10_depthOf_86 (by decide) ?_
      exact Sm.wk (hk11 (l3, v7, h)) ⟨Or.inr rfl, Or.inl rfl, Or.inr rfl, Or.inr rfl, Or.inr rfl, Or.inl rfl, Or.inl rfl, trivial⟩
    · refine Sm.iload dX10_depthOf_76 rfl rfl ?_
      refine Sm.goto (t := 82) dX10_depthOf_78 (by decide) ?_
      refine Sm.istore_n (lv' := [.ref l0, .null, .int l2, .int l5, .int l4, .int l5, .int l6]) dX10_depthOf_82 rfl (Nat.le_of_ble_eq_true rfl) rfl rfl ?_
      refine Sm.iinc (lv' := [.ref l0, .null, .int l2, .int l5, .int (l4 + (1 : Int32)), .int l5, .int l6]) dX10_depthOf_83 rfl ic_1 rfl rfl ?_
      refine Sm.nm (LV := fun v8 => [.ref l0, .null, .int l2, .int l5, .int v8, .int l5, .int l6]) (ST := fun v8 => []) (fun v8 => ?_)
      refine Sm.goto (t := 11) dX10_depthOf_86 (by decide) ?_
      exact Sm.wk (hk11 (l5, v8, h)) ⟨Or.inr rfl, Or.inl rfl, Or.inr rfl, Or.inr rfl, Or.inr rfl, Or.inl rfl, Or.inl rfl, trivial⟩
  · refine Sm.aload_n dX10_depthOf_32 rfl rfl rfl ?_
    refine Sm.ck (fun o9 => ?_)
    refine gf_X10_77 o9 dX10_depthOf_33 rfl rfl (fun v10 => ?_)
    refine Sm.iconst dX10_depthOf_36 ic_4 rfl ?_
    refine Sm.iload dX10_depthOf_37 rfl rfl ?_
    refine Sm.sipush dX10_depthOf_39 sp_128 rfl ?_
    refine Sm.isub dX10_depthOf_42 rfl ?_
    refine Sm.imul dX10_depthOf_43 rfl ?_
    refine Sm.iload dX10_depthOf_44 rfl rfl ?_
    refine Sm.aload_n dX10_depthOf_46 rfl rfl rfl ?_
    refine gf_X10_74 o9 dX10_depthOf_47 rfl rfl (fun v11 => ?_)
    refine Sm.iload dX10_depthOf_50 rfl rfl ?_
    refine Sm.sipush dX10_depthOf_52 sp_128 rfl ?_
    refine Sm.isub dX10_depthOf_55 rfl ?_
    refine Sm.ca (fun q12 => ?_)
    refine Sm.iald q12 dX10_depthOf_56 rfl ?_
    refine kc_X10_216 dX10_depthOf_57 rfl (Nat.le_of_ble_eq_true rfl) (Nat.le_of_ble_eq_true rfl) rfl (fun v13 h14 => ?_)
    refine Sm.iadd dX10_depthOf_60 rfl ?_
    refine Sm.ca (fun q15 => ?_)
    refine Sm.iald q15 dX10_depthOf_61 rfl ?_
    refine Sm.nm (LV := fun v16 => [.ref l0, .null, .int l2, .int l3, .int l4, .int l5, .int l6]) (ST := fun v16 => [.int v16]) (fun v16 => ?_)
    refine Sm.istore (lv' := [.ref l0, .null, .int l2, .int l3, .int l4, .int l5, .int v16]) dX10_depthOf_62 (Nat.le_of_ble_eq_true rfl) rfl rfl ?_
    refine Sm.iinc (lv' := [.ref l0, .null, .int l2, .int l3, .int l4, .int (l5 + (1 : Int32)), .int v16]) dX10_depthOf_64 rfl ic_1 rfl rfl ?_
    refine Sm.nm (LV := fun v17 => [.ref l0, .null, .int l2, .int l3, .int l4, .int v17, .int v16]) (ST := fun v17 => []) (fun v17 => ?_)
    refine Sm.goto (t := 24) dX10_depthOf_67 (by decide) ?_
    exact Sm.wk (hk24 (v17, v16, h14)) ⟨Or.inr rfl, Or.inl rfl, Or.inr rfl, Or.inr rfl, Or.inr rfl, Or.inr rfl, Or.inr rfl, trivial⟩
def f_X10_depthOf_11 (k11 : (Int32 × Int32 × Hp) → Option (Int32 × Hp)) (l0 : Nat) (l2 : Int32) (l3 : Int32) (l4 : Int32) (h : Hp) : Option (Int32 × Hp) :=
  (if (64 : Int32) ≤ l4 then
(some (l3, h))
else
(loopN (fun k s => f_X10_depthOf_24 k11 k l0 l2 l3 l4 s.1 s.2.1 s.2.2) 5000 ((0 : Int32), l2, h)))
set_option maxRecDepth 20000 in
theorem t_X10_depthOf_11 (l0 : Nat) (l2 : Int32) (l3 : Int32) (l4 : Int32) (h : Hp) (k11 : (Int32 × Int32 × Hp) → Option (Int32 × Hp)) (hk11 : ∀ s : Int32 × Int32 × Hp, Sm rvI g_X10_depthOf 11 [.ref l0, .null, .int l2, .int s.1, .int s.2.1, .null, .null] [] s.2.2 (k11 s)) : Sm rvI g_X10_depthOf 11 [.ref l0, .null, .int l2, .int l3, .int l4, .null, .null] [] h (f_X10_depthOf_11 k11 l0 l2 l3 l4 h) := by
  unfold f_X10_depthOf_11
  refine Sm.iload dX10_depthOf_11 rfl rfl ?_
  refine Sm.bipush dX10_depthOf_13 bp_64 rfl ?_
  refine Sm.icmp_ge (t := 89) dX10_depthOf_15 (by decide) rfl (fun b4 => ?_) (fun b4 => ?_)
  · refine Sm.iload_n dX10_depthOf_89 rfl rfl rfl ?_
    exact Sm.ret dX10_depthOf_90 trivial rfl
  · refine Sm.iconst dX10_depthOf_18 ic_0 rfl ?_
    refine Sm.istore (lv' := [.ref l0, .null, .int l2, .int l3, .int l4, .int (0 : Int32), .null]) dX10_depthOf_19 (Nat.le_of_ble_eq_true rfl) rfl rfl ?_
    refine Sm.iload_n dX10_depthOf_21 rfl rfl rfl ?_
    refine Sm.istore (lv' := [.ref l0, .null, .int l2, .int l3, .int l4, .int (0 : Int32), .int l2]) dX10_depthOf_22 (Nat.le_of_ble_eq_true rfl) rfl rfl ?_
    exact Sm.wk (Sm.loop (σ := Int32 × Int32 × Hp) (LV := fun s => [.ref l0, .null, .int l2, .int l3, .int l4, .int s.1, .int s.2.1]) (HH := fun s => s.2.2) (fun k hk s => t_X10_depthOf_24 l0 l2 l3 l4 s.1 s.2.1 s.2.2 k11 hk11 k hk) 5000 ((0 : Int32), l2, h)) ⟨Or.inr rfl, Or.inl rfl, Or.inr rfl, Or.inr rfl, Or.inr rfl, Or.inr rfl, Or.inr rfl, trivial⟩
def f_X10_depthOf (l0 : Nat) (l1 : Int32) (h : Hp) : Option (Int32 × Hp) :=
  (ck h l0 10
(bd (f_X10_drawsAlone l0 l1 h) fun v2 h3 =>
(loopN (fun k s => f_X10_depthOf_11 k l0 v2 s.1 s.2.1 s.2.2) 5000 ((0 : Int32), (0 : Int32), h3))))
set_option maxRecDepth 20000 in
theorem t_X10_depthOf (l0 : Nat) (l1 : Int32) (h : Hp) : Sm rvI g_X10_depthOf 0 (ent 7 [.ref l0, .int l1]) [] h (f_X10_depthOf l0 l1 h) := by
  show Sm rvI g_X10_depthOf 0 [.ref l0, .int l1, .null, .null, .null, .null, .null] [] h _
  unfold f_X10_depthOf
  refine Sm.aload_n dX10_depthOf_0 rfl rfl rfl ?_
  refine Sm.iload_n dX10_depthOf_1 rfl rfl rfl ?_
  refine Sm.ck (fun o1 => ?_)
  refine kc_X10_291 o1 dX10_depthOf_2 rfl (Nat.le_of_ble_eq_true rfl) (Nat.le_of_ble_eq_true rfl) rfl (fun v2 h3 => ?_)
  refine Sm.istore_n (lv' := [.ref l0, .int l1, .int v2, .null, .null, .null, .null]) dX10_depthOf_5 rfl (Nat.le_of_ble_eq_true rfl) rfl rfl ?_
  refine Sm.iconst dX10_depthOf_6 ic_0 rfl ?_
  refine Sm.istore_n (lv' := [.ref l0, .int l1, .int v2, .int (0 : Int32), .null, .null, .null]) dX10_depthOf_7 rfl (Nat.le_of_ble_eq_true rfl) rfl rfl ?_
  refine Sm.iconst dX10_depthOf_8 ic_0 rfl ?_
  refine Sm.istore (lv' := [.ref l0, .int l1, .int v2, .int (0 : Int32), .int (0 : Int32), .null, .null]) dX10_depthOf_9 (Nat.le_of_ble_eq_true rfl) rfl rfl ?_
  exact Sm.wk (Sm.loop (σ := Int32 × Int32 × Hp) (LV := fun s => [.ref l0, .null, .int v2, .int s.1, .int s.2.1, .null, .null]) (HH := fun s => s.2.2) (fun k hk s => t_X10_depthOf_11 l0 v2 s.1 s.2.1 s.2.2 k hk) 5000 ((0 : Int32), (0 : Int32), h3)) ⟨Or.inr rfl, Or.inl rfl, Or.inr rfl, Or.inr rfl, Or.inr rfl, Or.inl rfl, Or.inl rfl, trivial⟩
set_option maxRecDepth 20000 in
theorem kc_X10_300 {ρ : Type} {rv : ρ → Option Value} {G : Gx} {pc q : Nat} {lv st : List Value} {h : Hp} {a : Nat} {x1 : Int32} {e : Int32 → Hp → Option (ρ × Hp)} (hk : isO h a 10) (d : decode G.2.1 pc = .ok (.invokevirtual 300, 3)) (ho : G.1.cls = RX10) (hdep : (g_X10_depthOf).2.2.2.2 < G.2.2.2.2) (hcat : catS st ≤ 8) (hq : pc + 3 = q) (k : ∀ r h1, Sm rv G q lv (.int r :: st) h1 (e r h1)) : Sm rv G pc lv (.int x1 :: .ref a :: st) h (bd (f_X10_depthOf a x1 h) e) :=
  Sm.callV (rv' := rvI) (args := [.int x1]) (n := 1) (t_X10_depthOf a x1 h) hk (by decide) (r := (RX10, TX10, 43)) rfl rfl ho mw_1295 mw_1297 mp_94 mw_11 mw_1298 ⟨⟨by decide, rfl, hdep, Nat.le_of_ble_eq_true rfl⟩, Nat.le_of_ble_eq_true rfl, rfl, ⟨by decide, by decide⟩, hcat⟩ (by decide +kernel) (by intro v hv; simp only [List.mem_cons, List.not_mem_nil, or_false] at hv; rcases hv with rfl <;> intro x hx <;> cases hx) d hq k rfl
abbrev g_X10_diagramDepth : Gx := (yX10_diagramDepth, cX10_diagramDepth, 2, (Option.some FieldType.int), 7)
def f_X10_diagramDepth (l0 : Nat) (l1 : Int32) (h : Hp) : Option (Int32 × Hp) :=
  (bd (f_X10_isSlot l1 h) fun v1 h2 =>
(if v1 = 0 then
(ck h2 l0 10
(bd (f_X10_fails l0 (-2 : Int32) h2) fun v5 h6 =>
(some (v5, h6))))
else
(ck h2 l0 10
(bd (f_X10_depthOf l0 l1 h2) fun v8 h9 =>
(some (v8, h9))))))
set_option maxRecDepth 20000 in
theorem t_X10_diagramDepth (l0 : Nat) (l1 : Int32) (h : Hp) : Sm rvI g_X10_diagramDepth 0 (ent 2 [.ref l0, .int l1]) [] h (f_X10_diagramDepth l0 l1 h) := by
  show Sm rvI g_X10_diagramDepth 0 [.ref l0, .int l1] [] h _
  unfold f_X10_diagramDepth
  refine Sm.iload_n dX10_diagramDepth_0 rfl rfl rfl ?_
  refine kc_X10_179 dX10_diagramDepth_1 rfl (Nat.le_of_ble_eq_true rfl) (Nat.le_of_ble_eq_true rfl) rfl (fun v1 h2 => ?_)
  refine Sm.if_eq (t := 15) dX10_diagramDepth_4 (by decide) rfl (fun b3 => ?_) (fun b3 => ?_)
  · refine Sm.aload_n dX10_diagramDepth_15 rfl rfl rfl ?_
    refine Sm.bipush dX10_diagramDepth_16 bp_m2 rfl ?_
    refine Sm.ck (fun o4 => ?_)
    refine kc_X10_106 o4 dX10_diagramDepth_18 rfl (Nat.le_of_ble_eq_true rfl) (Nat.le_of_ble_eq_true rfl) rfl (fun v5 h6 => ?_)
    exact Sm.ret dX10_diagramDepth_21 trivial rfl
  · refine Sm.aload_n dX10_diagramDepth_7 rfl rfl rfl ?_
    refine Sm.iload_n dX10_diagramDepth_8 rfl rfl rfl ?_
    refine Sm.ck (fun o7 => ?_)
    refine kc_X10_300 o7 dX10_diagramDepth_9 rfl (Nat.le_of_ble_eq_true rfl) (Nat.le_of_ble_eq_true rfl) rfl (fun v8 h9 => ?_)
    refine Sm.goto (t := 21) dX10_diagramDepth_12 (by decide) ?_
    exact Sm.ret dX10_diagramDepth_21 trivial rfl
set_option maxRecDepth 20000 in
theorem kc_L_91 {ρ : Type} {rv : ρ → Option Value} {G : Gx} {pc q : Nat} {lv st : List Value} {h : Hp} {a : Nat} {x1 : Int32} {e : Int32 → Hp → Option (ρ × Hp)} (hk : isO h a 10) (d : decode G.2.1 pc = .ok (.invokevirtual 91, 3)) (ho : G.1.cls = RL) (hdep : (g_X10_diagramDepth).2.2.2.2 < G.2.2.2.2) (hcat : catS st ≤ 8) (hq : pc + 3 = q) (k : ∀ r h1, Sm rv G q lv (.int r :: st) h1 (e r h1)) : Sm rv G pc lv (.int x1 :: .ref a :: st) h (bd (f_X10_diagramDepth a x1 h) e) :=
  Sm.callV (rv' := rvI) (args := [.int x1]) (n := 1) (t_X10_diagramDepth a x1 h) hk (by decide) (r := (RX10, TX10, 43)) rfl rfl ho mw_1291 mw_1292 mw_1293 mw_11 mw_1294 ⟨⟨by decide, rfl, hdep, Nat.le_of_ble_eq_true rfl⟩, Nat.le_of_ble_eq_true rfl, rfl, ⟨by decide, by decide⟩, hcat⟩ (by decide +kernel) (by intro v hv; simp only [List.mem_cons, List.not_mem_nil, or_false] at hv; rcases hv with rfl <;> intro x hx <;> cases hx) d hq k rfl
abbrev g_X10_sharedNodes : Gx := (yX10_sharedNodes, cX10_sharedNodes, 7, (Option.some FieldType.int), 5)
def f_X10_sharedNodes_14 (l0 : Nat) (h : Hp) : Option (Int32 × Hp) :=
  (ck h l0 10
(bd (f_X10_fails l0 (-2 : Int32) h) fun v5 h6 =>
(some (v5, h6))))
set_option maxRecDepth 20000 in
theorem t_X10_sharedNodes_14 (l0 : Nat) (h : Hp) : Sm rvI g_X10_sharedNodes 14 [.ref l0, .null, .null, .null, .null, .null, .null] [] h (f_X10_sharedNodes_14 l0 h) := by
  unfold f_X10_sharedNodes_14
  refine Sm.aload_n dX10_sharedNodes_14 rfl rfl rfl ?_
  refine Sm.bipush dX10_sharedNodes_15 bp_m2 rfl ?_
  refine Sm.ck (fun o4 => ?_)
  refine kc_X10_106 o4 dX10_sharedNodes_17 rfl (Nat.le_of_ble_eq_true rfl) (Nat.le_of_ble_eq_true rfl) rfl (fun v5 h6 => ?_)
  exact Sm.ret dX10_sharedNodes_20 trivial rfl
def f_X10_sharedNodes_46 (k46 : (Int32 × Int32) → Option (Int32 × Hp)) (l0 : Nat) (l3 : Int32) (l4 : Int32) (l5 : Int32) (l6 : Int32) (h : Hp) : Option (Int32 × Hp) :=
  (if (192 : Int32) ≤ l6 then
(some (l5, h))
else
(if (l3 + l4) < 0 then
(some (l5, h))
else
(ck h l0 10
((gP h l0 35).bind fun v21 =>
(ca h v21 20 l6
(if (gI h v21 l6.toNatClampNeg) = (3 : Int32) then
(nm (l5 + (1 : Int32)) fun v24 =>
(nm (l6 + (1 : Int32)) fun v25 =>
(k46 (v24, v25))))
else
(nm (l5 + (0 : Int32)) fun v26 =>
(nm (l6 + (1 : Int32)) fun v27 =>
(k46 (v26, v27))))))))))
set_option maxRecDepth 20000 in
theorem t_X10_sharedNodes_46 (l0 : Nat) (l3 : Int32) (l4 : Int32) (l5 : Int32) (l6 : Int32) (h : Hp) (k46 : (Int32 × Int32) → Option (Int32 × Hp)) (hk46 : ∀ s : Int32 × Int32, Sm rvI g_X10_sharedNodes 46 [.ref l0, .null, .null, .int l3, .int l4, .int s.1, .int s.2] [] h (k46 s)) : Sm rvI g_X10_sharedNodes 46 [.ref l0, .null, .null, .int l3, .int l4, .int l5, .int l6] [] h (f_X10_sharedNodes_46 k46 l0 l3 l4 l5 l6 h) := by
  unfold f_X10_sharedNodes_46
  refine Sm.iload dX10_sharedNodes_46 rfl rfl ?_
  refine Sm.sipush dX10_sharedNodes_48 sp_192 rfl ?_
  refine Sm.icmp_ge (t := 88) dX10_sharedNodes_51 (by decide) rfl (fun b18 => ?_) (fun b18 => ?_)
  · refine Sm.iload dX10_sharedNodes_88 rfl rfl ?_
    exact Sm.ret dX10_sharedNodes_90 trivial rfl
  · refine Sm.iload_n dX10_sharedNodes_54 rfl rfl rfl ?_
    refine Sm.iload dX10_sharedNodes_55 rfl rfl ?_
    refine Sm.iadd dX10_sharedNodes_57 rfl ?_
    refine Sm.if_lt (t := 88) dX10_sharedNodes_58 (by decide) rfl (fun b19 => ?_) (fun b19 => ?_)
    · refine Sm.iload dX10_sharedNodes_88 rfl rfl ?_
      exact Sm.ret dX10_sharedNodes_90 trivial rfl
    · refine Sm.iload dX10_sharedNodes_61 rfl rfl ?_
      refine Sm.aload_n dX10_sharedNodes_63 rfl rfl rfl ?_
      refine Sm.ck (fun o20 => ?_)
      refine gf_X10_80 o20 dX10_sharedNodes_64 rfl rfl (fun v21 => ?_)
      refine Sm.iload dX10_sharedNodes_67 rfl rfl ?_
      refine Sm.ca (fun q22 => ?_)
      refine Sm.iald q22 dX10_sharedNodes_69 rfl ?_
      refine Sm.iconst dX10_sharedNodes_70 ic_3 rfl ?_
      refine Sm.icmp_ne (t := 78) dX10_sharedNodes_71 (by decide) rfl (fun b23 => ?_) (fun b23 => ?_)
      · refine Sm.iconst dX10_sharedNodes_74 ic_1 rfl ?_
        refine Sm.goto (t := 79) dX10_sharedNodes_75 (by decide) ?_
        refine Sm.iadd dX10_sharedNodes_79 rfl ?_
        refine Sm.nm (LV := fun v24 => [.ref l0, .null, .null, .int l3, .int l4, .int l5, .int l6]) (ST := fun v24 => [.int v24]) (fun v24 => ?_)
        refine Sm.istore (lv' := [.ref l0, .null, .null, .int l3, .int l4, .int v24, .int l6]) dX10_sharedNodes_80 (Nat.le_of_ble_eq_true rfl) rfl rfl ?_
        refine Sm.iinc (lv' := [.ref l0, .null, .null, .int l3, .int l4, .int v24, .int (l6 + (1 : Int32))]) dX10_sharedNodes_82 rfl ic_1 rfl rfl ?_
        refine Sm.nm (LV := fun v25 => [.ref l0, .null, .null, .int l3, .int l4, .int v24, .int v25]) (ST := fun v25 => []) (fun v25 => ?_)
        refine Sm.goto (t := 46) dX10_sharedNodes_85 (by decide) ?_
        exact Sm.wk (hk46 (v24, v25)) ⟨Or.inr rfl, Or.inl rfl, Or.inl rfl, Or.inr rfl, Or.inr rfl, Or.inr rfl, Or.inr rfl, trivial⟩
      · refine Sm.iconst dX10_sharedNodes_78 ic_0 rfl ?_
        refine Sm.iadd dX10_sharedNodes_79 rfl ?_
        refine Sm.nm (LV := fun v26 => [.ref l0, .null, .null, .int l3, .int l4, .int l5, .int l6]) (ST := fun v26 => [.int v26]) (fun v26 => ?_)
        refine Sm.istore (lv' := [.ref l0, .null, .null, .int l3, .int l4, .int v26, .int l6]) dX10_sharedNodes_80 (Nat.le_of_ble_eq_true rfl) rfl rfl ?_
        refine Sm.iinc (lv' := [.ref l0, .null, .null, .int l3, .int l4, .int v26, .int (l6 + (1 : Int32))]) dX10_sharedNodes_82 rfl ic_1 rfl rfl ?_
        refine Sm.nm (LV := fun v27 => [.ref l0, .null, .null, .int l3, .int l4, .int v26, .int v27]) (ST := fun v27 => []) (fun v27 => ?_)
        refine Sm.goto (t := 46) dX10_sharedNodes_85 (by decide) ?_
        exact Sm.wk (hk46 (v26, v27)) ⟨Or.inr rfl, Or.inl rfl, Or.inl rfl, Or.inr rfl, Or.inr rfl, Or.inr rfl, Or.inr rfl, trivial⟩
def f_X10_sharedNodes (l0 : Nat) (l1 : Int32) (l2 : Int32) (h : Hp) : Option (Int32 × Hp) :=
  (bd (f_X10_isSlot l1 h) fun v1 h2 =>
(if v1 = 0 then
(f_X10_sharedNodes_14 l0 h2)
else
(bd (f_X10_isSlot l2 h2) fun v7 h8 =>
(if v7 = 0 then
(f_X10_sharedNodes_14 l0 h8)
else
(ck h8 l0 10
(bd (f_X10_clears l0 h8) fun _ h11 =>
(ck h11 l0 10
(bd (f_X10_draws l0 l1 (1 : Int32) h11) fun v13 h14 =>
(ck h14 l0 10
(bd (f_X10_draws l0 l2 (2 : Int32) h14) fun v16 h17 =>
(loopN (fun k s => f_X10_sharedNodes_46 k l0 v13 v16 s.1 s.2 h17) 5000 ((0 : Int32), (0 : Int32)))))))))))))
set_option maxRecDepth 20000 in
theorem t_X10_sharedNodes (l0 : Nat) (l1 : Int32) (l2 : Int32) (h : Hp) : Sm rvI g_X10_sharedNodes 0 (ent 7 [.ref l0, .int l1, .int l2]) [] h (f_X10_sharedNodes l0 l1 l2 h) := by
  show Sm rvI g_X10_sharedNodes 0 [.ref l0, .int l1, .int l2, .null, .null, .null, .null] [] h _
  unfold f_X10_sharedNodes
  refine Sm.iload_n dX10_sharedNodes_0 rfl rfl rfl ?_
  refine kc_X10_179 dX10_sharedNodes_1 rfl (Nat.le_of_ble_eq_true rfl) (Nat.le_of_ble_eq_true rfl) rfl (fun v1 h2 => ?_)
  refine Sm.if_eq (t := 14) dX10_sharedNodes_4 (by decide) rfl (fun b3 => ?_) (fun b3 => ?_)
  · exact Sm.wk (t_X10_sharedNodes_14 l0 h2) ⟨Or.inr rfl, Or.inl rfl, Or.inl rfl, Or.inl rfl, Or.inl rfl, Or.inl rfl, Or.inl rfl, trivial⟩
  · refine Sm.iload_n dX10_sharedNodes_7 rfl rfl rfl ?_
    refine kc_X10_179 dX10_sharedNodes_8 rfl (Nat.le_of_ble_eq_true rfl) (Nat.le_of_ble_eq_true rfl) rfl (fun v7 h8 => ?_)
    refine Sm.if_ne (t := 21) dX10_sharedNodes_11 (by decide) rfl (fun b9 => ?_) (fun b9 => ?_)
    · exact Sm.wk (t_X10_sharedNodes_14 l0 h8) ⟨Or.inr rfl, Or.inl rfl, Or.inl rfl, Or.inl rfl, Or.inl rfl, Or.inl rfl, Or.inl rfl, trivial⟩
    · refine Sm.aload_n dX10_sharedNodes_21 rfl rfl rfl ?_
      refine Sm.ck (fun o10 => ?_)
      refine kc_X10_285 o10 dX10_sharedNodes_22 rfl (Nat.le_of_ble_eq_true rfl) (Nat.le_of_ble_eq_true rfl) rfl (fun _ h11 => ?_)
      refine Sm.aload_n dX10_sharedNodes_25 rfl rfl rfl ?_
      refine Sm.iload_n dX10_sharedNodes_26 rfl rfl rfl ?_
      refine Sm.iconst dX10_sharedNodes_27 ic_1 rfl ?_
      refine Sm.ck (fun o12 => ?_)
      refine kc_X10_288 o12 dX10_sharedNodes_28 rfl (Nat.le_of_ble_eq_true rfl) (Nat.le_of_ble_eq_true rfl) rfl (fun v13 h14 => ?_)
      refine Sm.istore_n (lv' := [.ref l0, .int l1, .int l2, .int v13, .null, .null, .null]) dX10_sharedNodes_31 rfl (Nat.le_of_ble_eq_true rfl) rfl rfl ?_
      refine Sm.aload_n dX10_sharedNodes_32 rfl rfl rfl ?_
      refine Sm.iload_n dX10_sharedNodes_33 rfl rfl rfl ?_
      refine Sm.iconst dX10_sharedNodes_34 ic_2 rfl ?_
      refine Sm.ck (fun o15 => ?_)
      refine kc_X10_288 o15 dX10_sharedNodes_35 rfl (Nat.le_of_ble_eq_true rfl) (Nat.le_of_ble_eq_true rfl) rfl (fun v16 h17 => ?_)
      refine Sm.istore (lv' := [.ref l0, .int l1, .int l2, .int v13, .int v16, .null, .null]) dX10_sharedNodes_38 (Nat.le_of_ble_eq_true rfl) rfl rfl ?_
      refine Sm.iconst dX10_sharedNodes_40 ic_0 rfl ?_
      refine Sm.istore (lv' := [.ref l0, .int l1, .int l2, .int v13, .int v16, .int (0 : Int32), .null]) dX10_sharedNodes_41 (Nat.le_of_ble_eq_true rfl) rfl rfl ?_
      refine Sm.iconst dX10_sharedNodes_43 ic_0 rfl ?_
      refine Sm.istore (lv' := [.ref l0, .int l1, .int l2, .int v13, .int v16, .int (0 : Int32), .int (0 : Int32)]) dX10_sharedNodes_44 (Nat.le_of_ble_eq_true rfl) rfl rfl ?_
      exact Sm.wk (Sm.loop (σ := Int32 × Int32) (LV := fun s => [.ref l0, .null, .null, .int v13, .int v16, .int s.1, .int s.2]) (HH := fun s => h17) (fun k hk s => t_X10_sharedNodes_46 l0 v13 v16 s.1 s.2 h17 k hk) 5000 ((0 : Int32), (0 : Int32))) ⟨Or.inr rfl, Or.inl rfl, Or.inl rfl, Or.inr rfl, Or.inr rfl, Or.inr rfl, Or.inr rfl, trivial⟩
set_option maxRecDepth 20000 in
theorem kc_L_95 {ρ : Type} {rv : ρ → Option Value} {G : Gx} {pc q : Nat} {lv st : List Value} {h : Hp} {a : Nat} {x1 : Int32} {x2 : Int32} {e : Int32 → Hp → Option (ρ × Hp)} (hk : isO h a 10) (d : decode G.2.1 pc = .ok (.invokevirtual 95, 3)) (ho : G.1.cls = RL) (hdep : (g_X10_sharedNodes).2.2.2.2 < G.2.2.2.2) (hcat : catS st ≤ 8) (hq : pc + 3 = q) (k : ∀ r h1, Sm rv G q lv (.int r :: st) h1 (e r h1)) : Sm rv G pc lv (.int x2 :: .int x1 :: .ref a :: st) h (bd (f_X10_sharedNodes a x1 x2 h) e) :=
  Sm.callV (rv' := rvI) (args := [.int x1, .int x2]) (n := 2) (t_X10_sharedNodes a x1 x2 h) hk (by decide) (r := (RX10, TX10, 43)) rfl rfl ho mw_1299 mw_1300 mw_1301 mw_11 mw_1302 ⟨⟨by decide, rfl, hdep, Nat.le_of_ble_eq_true rfl⟩, Nat.le_of_ble_eq_true rfl, rfl, ⟨by decide, by decide⟩, hcat⟩ (by decide +kernel) (by intro v hv; simp only [List.mem_cons, List.not_mem_nil, or_false] at hv; rcases hv with rfl | rfl <;> intro x hx <;> cases hx) d hq k rfl
abbrev g_X10_fives : Gx := (yX10_fives, cX10_fives, 1, (Option.some FieldType.int), 0)
def f_X10_fives (l0 : Int32) (h : Hp) : Option (Int32 × Hp) :=
  (if l0 = 0 then
(some ((25 : Int32), h))
else
(if l0 = (1 : Int32) then
(some ((5 : Int32), h))
else
(some ((1 : Int32), h))))
set_option maxRecDepth 20000 in
theorem t_X10_fives (l0 : Int32) (h : Hp) : Sm rvI g_X10_fives 0 (ent 1 [.int l0]) [] h (f_X10_fives l0 h) := by
  show Sm rvI g_X10_fives 0 [.int l0] [] h _
  unfold f_X10_fives
  refine Sm.iload_n dX10_fives_0 rfl rfl rfl ?_
  refine Sm.if_ne (t := 9) dX10_fives_1 (by decide) rfl (fun b1 => ?_) (fun b1 => ?_)
  · refine Sm.bipush dX10_fives_4 bp_25 rfl ?_
    refine Sm.goto (t := 19) dX10_fives_6 (by decide) ?_
    exact Sm.ret dX10_fives_19 trivial rfl
  · refine Sm.iload_n dX10_fives_9 rfl rfl rfl ?_
    refine Sm.iconst dX10_fives_10 ic_1 rfl ?_
    refine Sm.icmp_ne (t := 18) dX10_fives_11 (by decide) rfl (fun b2 => ?_) (fun b2 => ?_)
    · refine Sm.iconst dX10_fives_14 ic_5 rfl ?_
      refine Sm.goto (t := 19) dX10_fives_15 (by decide) ?_
      exact Sm.ret dX10_fives_19 trivial rfl
    · refine Sm.iconst dX10_fives_18 ic_1 rfl ?_
      exact Sm.ret dX10_fives_19 trivial rfl
set_option maxRecDepth 20000 in
theorem kc_X10_309 {ρ : Type} {rv : ρ → Option Value} {G : Gx} {pc q : Nat} {lv st : List Value} {h : Hp} {x0 : Int32} {e : Int32 → Hp → Option (ρ × Hp)} (d : decode G.2.1 pc = .ok (.invokestatic 309, 3)) (ho : G.1.cls = RX10) (hdep : (g_X10_fives).2.2.2.2 < G.2.2.2.2) (hcat : catS st ≤ 8) (hq : pc + 3 = q) (k : ∀ r h1, Sm rv G q lv (.int r :: st) h1 (e r h1)) : Sm rv G pc lv (.int x0 :: st) h (bd (f_X10_fives x0 h) e) :=
  Sm.callS (rv' := rvI) (as := [.int x0]) (n := 1) (t_X10_fives x0 h) ho mw_1315 mw_1316 mw_11 mw_1317 ⟨⟨by decide, rfl, hdep, Nat.le_of_ble_eq_true rfl⟩, Nat.le_of_ble_eq_true rfl, rfl, ⟨by decide, by decide⟩, hcat⟩ (by decide +kernel) (by intro v hv; simp only [List.mem_cons, List.not_mem_nil, or_false] at hv; rcases hv with rfl <;> intro x hx <;> cases hx) d hq k rfl
abbrev g_X10_mainOf : Gx := (yX10_mainOf, cX10_mainOf, 7, (Option.some FieldType.int), 0)
def f_X10_mainOf_78 (k7 : (Int32 × Int32 × Int32) → Option (Int32 × Hp)) (l0 : Nat) (l1 : Int32) (l3 : Int32) (l4 : Int32) (l5 : Int32) (s0 : Int32) (h : Hp) : Option (Int32 × Hp) :=
  (if l5 ≤ l3 then
(nm (l4 + (1 : Int32)) fun v8 =>
(k7 (s0, l3, v8)))
else
(nm (l4 + (1 : Int32)) fun v9 =>
(k7 (s0, l5, v9))))
set_option maxRecDepth 20000 in
theorem t_X10_mainOf_78 (l0 : Nat) (l1 : Int32) (l3 : Int32) (l4 : Int32) (l5 : Int32) (s0 : Int32) (h : Hp) (k7 : (Int32 × Int32 × Int32) → Option (Int32 × Hp)) (hk7 : ∀ s : Int32 × Int32 × Int32, Sm rvI g_X10_mainOf 7 [.ref l0, .int l1, .int s.1, .int s.2.1, .int s.2.2, .null, .null] [] h (k7 s)) : Sm rvI g_X10_mainOf 78 [.ref l0, .int l1, .null, .int l3, .int l4, .int l5, .null] [.int s0] h (f_X10_mainOf_78 k7 l0 l1 l3 l4 l5 s0 h) := by
  unfold f_X10_mainOf_78
  refine Sm.istore_n (lv' := [.ref l0, .int l1, .int s0, .int l3, .int l4, .int l5, .null]) dX10_mainOf_78 rfl (Nat.le_of_ble_eq_true rfl) rfl rfl ?_
  refine Sm.iload dX10_mainOf_79 rfl rfl ?_
  refine Sm.iload_n dX10_mainOf_81 rfl rfl rfl ?_
  refine Sm.icmp_le (t := 90) dX10_mainOf_82 (by decide) rfl (fun b7 => ?_) (fun b7 => ?_)
  · refine Sm.iload_n dX10_mainOf_90 rfl rfl rfl ?_
    refine Sm.istore_n (lv' := [.ref l0, .int l1, .int s0, .int l3, .int l4, .int l5, .null]) dX10_mainOf_91 rfl (Nat.le_of_ble_eq_true rfl) rfl rfl ?_
    refine Sm.iinc (lv' := [.ref l0, .int l1, .int s0, .int l3, .int (l4 + (1 : Int32)), .int l5, .null]) dX10_mainOf_92 rfl ic_1 rfl rfl ?_
    refine Sm.nm (LV := fun v8 => [.ref l0, .int l1, .int s0, .int l3, .int v8, .int l5, .null]) (ST := fun v8 => []) (fun v8 => ?_)
    refine Sm.goto (t := 7) dX10_mainOf_95 (by decide) ?_
    exact Sm.wk (hk7 (s0, l3, v8)) ⟨Or.inr rfl, Or.inr rfl, Or.inr rfl, Or.inr rfl, Or.inr rfl, Or.inl rfl, Or.inl rfl, trivial⟩
  · refine Sm.iload dX10_mainOf_85 rfl rfl ?_
    refine Sm.goto (t := 91) dX10_mainOf_87 (by decide) ?_
    refine Sm.istore_n (lv' := [.ref l0, .int l1, .int s0, .int l5, .int l4, .int l5, .null]) dX10_mainOf_91 rfl (Nat.le_of_ble_eq_true rfl) rfl rfl ?_
    refine Sm.iinc (lv' := [.ref l0, .int l1, .int s0, .int l5, .int (l4 + (1 : Int32)), .int l5, .null]) dX10_mainOf_92 rfl ic_1 rfl rfl ?_
    refine Sm.nm (LV := fun v9 => [.ref l0, .int l1, .int s0, .int l5, .int v9, .int l5, .null]) (ST := fun v9 => []) (fun v9 => ?_)
    refine Sm.goto (t := 7) dX10_mainOf_95 (by decide) ?_
    exact Sm.wk (hk7 (s0, l5, v9)) ⟨Or.inr rfl, Or.inr rfl, Or.inr rfl, Or.inr rfl, Or.inr rfl, Or.inl rfl, Or.inl rfl, trivial⟩
def f_X10_mainOf_19 (k7 : (Int32 × Int32 × Int32) → Option (Int32 × Hp)) (k19 : (Int32 × Int32) → Option (Int32 × Hp)) (l0 : Nat) (l1 : Int32) (l2 : Int32) (l3 : Int32) (l4 : Int32) (l5 : Int32) (l6 : Int32) (h : Hp) : Option (Int32 × Hp) :=
  (if (4 : Int32) ≤ l6 then
(if l5 ≤ l3 then
(f_X10_mainOf_78 k7 l0 l1 l3 l4 l5 l2 h)
else
(f_X10_mainOf_78 k7 l0 l1 l3 l4 l5 l4 h))
else
(ck h l0 10
((gP h l0 33).bind fun v11 =>
(ca h v11 20 (((4 : Int32) * l1) + l6)
((gP h l0 33).bind fun v13 =>
(ca h v13 20 (((4 : Int32) * l1) + l4)
(if (gI h v11 (((4 : Int32) * l1) + l6).toNatClampNeg) = (gI h v13 (((4 : Int32) * l1) + l4).toNatClampNeg) then
(nm (l5 + (1 : Int32)) fun v16 =>
(nm (l6 + (1 : Int32)) fun v17 =>
(k19 (v16, v17))))
else
(nm (l5 + (0 : Int32)) fun v18 =>
(nm (l6 + (1 : Int32)) fun v19 =>
(k19 (v18, v19)))))))))))
set_option maxRecDepth 20000 in
theorem t_X10_mainOf_19 (l0 : Nat) (l1 : Int32) (l2 : Int32) (l3 : Int32) (l4 : Int32) (l5 : Int32) (l6 : Int32) (h : Hp) (k7 : (Int32 × Int32 × Int32) → Option (Int32 × Hp)) (hk7 : ∀ s : Int32 × Int32 × Int32, Sm rvI g_X10_mainOf 7 [.ref l0, .int l1, .int s.1, .int s.2.1, .int s.2.2, .null, .null] [] h (k7 s)) (k19 : (Int32 × Int32) → Option (Int32 × Hp)) (hk19 : ∀ s : Int32 × Int32, Sm rvI g_X10_mainOf 19 [.ref l0, .int l1, .int l2, .int l3, .int l4, .int s.1, .int s.2] [] h (k19 s)) : Sm rvI g_X10_mainOf 19 [.ref l0, .int l1, .int l2, .int l3, .int l4, .int l5, .int l6] [] h (f_X10_mainOf_19 k7 k19 l0 l1 l2 l3 l4 l5 l6 h) := by
  unfold f_X10_mainOf_19
  refine Sm.iload dX10_mainOf_19 rfl rfl ?_
  refine Sm.iconst dX10_mainOf_21 ic_4 rfl ?_
  refine Sm.icmp_ge (t := 66) dX10_mainOf_22 (by decide) rfl (fun b5 => ?_) (fun b5 => ?_)
  · refine Sm.iload dX10_mainOf_66 rfl rfl ?_
    refine Sm.iload_n dX10_mainOf_68 rfl rfl rfl ?_
    refine Sm.icmp_le (t := 77) dX10_mainOf_69 (by decide) rfl (fun b6 => ?_) (fun b6 => ?_)
    · refine Sm.iload_n dX10_mainOf_77 rfl rfl rfl ?_
      exact Sm.wk (t_X10_mainOf_78 l0 l1 l3 l4 l5 l2 h k7 hk7) ⟨Or.inr rfl, Or.inr rfl, Or.inl rfl, Or.inr rfl, Or.inr rfl, Or.inr rfl, Or.inl rfl, trivial⟩
    · refine Sm.iload dX10_mainOf_72 rfl rfl ?_
      refine Sm.goto (t := 78) dX10_mainOf_74 (by decide) ?_
      exact Sm.wk (t_X10_mainOf_78 l0 l1 l3 l4 l5 l4 h k7 hk7) ⟨Or.inr rfl, Or.inr rfl, Or.inl rfl, Or.inr rfl, Or.inr rfl, Or.inr rfl, Or.inl rfl, trivial⟩
  · refine Sm.iload dX10_mainOf_25 rfl rfl ?_
    refine Sm.aload_n dX10_mainOf_27 rfl rfl rfl ?_
    refine Sm.ck (fun o10 => ?_)
    refine gf_X10_77 o10 dX10_mainOf_28 rfl rfl (fun v11 => ?_)
    refine Sm.iconst dX10_mainOf_31 ic_4 rfl ?_
    refine Sm.iload_n dX10_mainOf_32 rfl rfl rfl ?_
    refine Sm.imul dX10_mainOf_33 rfl ?_
    refine Sm.iload dX10_mainOf_34 rfl rfl ?_
    refine Sm.iadd dX10_mainOf_36 rfl ?_
    refine Sm.ca (fun q12 => ?_)
    refine Sm.iald q12 dX10_mainOf_37 rfl ?_
    refine Sm.aload_n dX10_mainOf_38 rfl rfl rfl ?_
    refine gf_X10_77 o10 dX10_mainOf_39 rfl rfl (fun v13 => ?_)
    refine Sm.iconst dX10_mainOf_42 ic_4 rfl ?_
    refine Sm.iload_n dX10_mainOf_43 rfl rfl rfl ?_
    refine Sm.imul dX10_mainOf_44 rfl ?_
    refine Sm.iload dX10_mainOf_45 rfl rfl ?_
    refine Sm.iadd dX10_mainOf_47 rfl ?_
    refine Sm.ca (fun q14 => ?_)
    refine Sm.iald q14 dX10_mainOf_48 rfl ?_
    refine Sm.icmp_ne (t := 56) dX10_mainOf_49 (by decide) rfl (fun b15 => ?_) (fun b15 => ?_)
    · refine Sm.iconst dX10_mainOf_52 ic_1 rfl ?_
      refine Sm.goto (t := 57) dX10_mainOf_53 (by decide) ?_
      refine Sm.iadd dX10_mainOf_57 rfl ?_
      refine Sm.nm (LV := fun v16 => [.ref l0, .int l1, .int l2, .int l3, .int l4, .int l5, .int l6]) (ST := fun v16 => [.int v16]) (fun v16 => ?_)
      refine Sm.istore (lv' := [.ref l0, .int l1, .int l2, .int l3, .int l4, .int v16, .int l6]) dX10_mainOf_58 (Nat.le_of_ble_eq_true rfl) rfl rfl ?_
      refine Sm.iinc (lv' := [.ref l0, .int l1, .int l2, .int l3, .int l4, .int v16, .int (l6 + (1 : Int32))]) dX10_mainOf_60 rfl ic_1 rfl rfl ?_
      refine Sm.nm (LV := fun v17 => [.ref l0, .int l1, .int l2, .int l3, .int l4, .int v16, .int v17]) (ST := fun v17 => []) (fun v17 => ?_)
      refine Sm.goto (t := 19) dX10_mainOf_63 (by decide) ?_
      exact Sm.wk (hk19 (v16, v17)) ⟨Or.inr rfl, Or.inr rfl, Or.inr rfl, Or.inr rfl, Or.inr rfl, Or.inr rfl, Or.inr rfl, trivial⟩
    · refine Sm.iconst dX10_mainOf_56 ic_0 rfl ?_
      refine Sm.iadd dX10_mainOf_57 rfl ?_
      refine Sm.nm (LV := fun v18 => [.ref l0, .int l1, .int l2, .int l3, .int l4, .int l5, .int l6]) (ST := fun v18 => [.int v18]) (fun v18 => ?_)
      refine Sm.istore (lv' := [.ref l0, .int l1, .int l2, .int l3, .int l4, .int v18, .int l6]) dX10_mainOf_58 (Nat.le_of_ble_eq_true rfl) rfl rfl ?_
      refine Sm.iinc (lv' := [.ref l0, .int l1, .int l2, .int l3, .int l4, .int v18, .int (l6 + (1 : Int32))]) dX10_mainOf_60 rfl ic_1 rfl rfl ?_
      refine Sm.nm (LV := fun v19 => [.ref l0, .int l1, .int l2, .int l3, .int l4, .int v18, .int v19]) (ST := fun v19 => []) (fun v19 => ?_)
      refine Sm.goto (t := 19) dX10_mainOf_63 (by decide) ?_
      exact Sm.wk (hk19 (v18, v19)) ⟨Or.inr rfl, Or.inr rfl, Or.inr rfl, Or.inr rfl, Or.inr rfl, Or.inr rfl, Or.inr rfl, trivial⟩
def f_X10_mainOf_7 (k7 : (Int32 × Int32 × Int32) → Option (Int32 × Hp)) (l0 : Nat) (l1 : Int32) (l2 : Int32) (l3 : Int32) (l4 : Int32) (h : Hp) : Option (Int32 × Hp) :=
  (if (4 : Int32) ≤ l4 then
(ck h l0 10
((gP h l0 33).bind fun v3 =>
(ca h v3 20 (((4 : Int32) * l1) + l2)
(some ((gI h v3 (((4 : Int32) * l1) + l2).toNatClampNeg), h)))))
else
(loopN (fun k s => f_X10_mainOf_19 k7 k l0 l1 l2 l3 l4 s.1 s.2 h) 5000 ((0 : Int32), (0 : Int32))))
set_option maxRecDepth 20000 in
theorem t_X10_mainOf_7 (l0 : Nat) (l1 : Int32) (l2 : Int32) (l3 : Int32) (l4 : Int32) (h : Hp) (k7 : (Int32 × Int32 × Int32) → Option (Int32 × Hp)) (hk7 : ∀ s : Int32 × Int32 × Int32, Sm rvI g_X10_mainOf 7 [.ref l0, .int l1, .int s.1, .int s.2.1, .int s.2.2, .null, .null] [] h (k7 s)) : Sm rvI g_X10_mainOf 7 [.ref l0, .int l1, .int l2, .int l3, .int l4, .null, .null] [] h (f_X10_mainOf_7 k7 l0 l1 l2 l3 l4 h) := by
  unfold f_X10_mainOf_7
  refine Sm.iload dX10_mainOf_7 rfl rfl ?_
  refine Sm.iconst dX10_mainOf_9 ic_4 rfl ?_
  refine Sm.icmp_ge (t := 98) dX10_mainOf_10 (by decide) rfl (fun b1 => ?_) (fun b1 => ?_)
  · refine Sm.aload_n dX10_mainOf_98 rfl rfl rfl ?_
    refine Sm.ck (fun o2 => ?_)
    refine gf_X10_77 o2 dX10_mainOf_99 rfl rfl (fun v3 => ?_)
    refine Sm.iconst dX10_mainOf_102 ic_4 rfl ?_
    refine Sm.iload_n dX10_mainOf_103 rfl rfl rfl ?_
    refine Sm.imul dX10_mainOf_104 rfl ?_
    refine Sm.iload_n dX10_mainOf_105 rfl rfl rfl ?_
    refine Sm.iadd dX10_mainOf_106 rfl ?_
    refine Sm.ca (fun q4 => ?_)
    refine Sm.iald q4 dX10_mainOf_107 rfl ?_
    exact Sm.ret dX10_mainOf_108 trivial rfl
  · refine Sm.iconst dX10_mainOf_13 ic_0 rfl ?_
    refine Sm.istore (lv' := [.ref l0, .int l1, .int l2, .int l3, .int l4, .int (0 : Int32), .null]) dX10_mainOf_14 (Nat.le_of_ble_eq_true rfl) rfl rfl ?_
    refine Sm.iconst dX10_mainOf_16 ic_0 rfl ?_
    refine Sm.istore (lv' := [.ref l0, .int l1, .int l2, .int l3, .int l4, .int (0 : Int32), .int (0 : Int32)]) dX10_mainOf_17 (Nat.le_of_ble_eq_true rfl) rfl rfl ?_
    exact Sm.wk (Sm.loop (σ := Int32 × Int32) (LV := fun s => [.ref l0, .int l1, .int l2, .int l3, .int l4, .int s.1, .int s.2]) (HH := fun s => h) (fun k hk s => t_X10_mainOf_19 l0 l1 l2 l3 l4 s.1 s.2 h k7 hk7 k hk) 5000 ((0 : Int32), (0 : Int32))) ⟨Or.inr rfl, Or.inr rfl, Or.inr rfl, Or.inr rfl, Or.inr rfl, Or.inr rfl, Or.inr rfl, trivial⟩
def f_X10_mainOf (l0 : Nat) (l1 : Int32) (h : Hp) : Option (Int32 × Hp) :=
  (loopN (fun k s => f_X10_mainOf_7 k l0 l1 s.1 s.2.1 s.2.2 h) 5000 ((0 : Int32), (0 : Int32), (0 : Int32)))
set_option maxRecDepth 20000 in
theorem t_X10_mainOf (l0 : Nat) (l1 : Int32) (h : Hp) : Sm rvI g_X10_mainOf 0 (ent 7 [.ref l0, .int l1]) [] h (f_X10_mainOf l0 l1 h) := by
  show Sm rvI g_X10_mainOf 0 [.ref l0, .int l1, .null, .null, .null, .null, .null] [] h _
  unfold f_X10_mainOf
  refine Sm.iconst dX10_mainOf_0 ic_0 rfl ?_
  refine Sm.istore_n (lv' := [.ref l0, .int l1, .int (0 : Int32), .null, .null, .null, .null]) dX10_mainOf_1 rfl (Nat.le_of_ble_eq_true rfl) rfl rfl ?_
  refine Sm.iconst dX10_mainOf_2 ic_0 rfl ?_
  refine Sm.istore_n (lv' := [.ref l0, .int l1, .int (0 : Int32), .int (0 : Int32), .null, .null, .null]) dX10_mainOf_3 rfl (Nat.le_of_ble_eq_true rfl) rfl rfl ?_
  refine Sm.iconst dX10_mainOf_4 ic_0 rfl ?_
  refine Sm.istore (lv' := [.ref l0, .int l1, .int (0 : Int32), .int (0 : Int32), .int (0 : Int32), .null, .null]) dX10_mainOf_5 (Nat.le_of_ble_eq_true rfl) rfl rfl ?_
  exact Sm.wk (Sm.loop (σ := Int32 × Int32 × Int32) (LV := fun s => [.ref l0, .int l1, .int s.1, .int s.2.1, .int s.2.2, .null, .null]) (HH := fun s => h) (fun k hk s => t_X10_mainOf_7 l0 l1 s.1 s.2.1 s.2.2 h k hk) 5000 ((0 : Int32), (0 : Int32), (0 : Int32))) ⟨Or.inr rfl, Or.inr rfl, Or.inr rfl, Or.inr rfl, Or.inr rfl, Or.inl rfl, Or.inl rfl, trivial⟩
set_option maxRecDepth 20000 in
theorem kc_X10_306 {ρ : Type} {rv : ρ → Option Value} {G : Gx} {pc q : Nat} {lv st : List Value} {h : Hp} {a : Nat} {x1 : Int32} {e : Int32 → Hp → Option (ρ × Hp)} (hk : isO h a 10) (d : decode G.2.1 pc = .ok (.invokevirtual 306, 3)) (ho : G.1.cls = RX10) (hdep : (g_X10_mainOf).2.2.2.2 < G.2.2.2.2) (hcat : catS st ≤ 8) (hq : pc + 3 = q) (k : ∀ r h1, Sm rv G q lv (.int r :: st) h1 (e r h1)) : Sm rv G pc lv (.int x1 :: .ref a :: st) h (bd (f_X10_mainOf a x1 h) e) :=
  Sm.callV (rv' := rvI) (args := [.int x1]) (n := 1) (t_X10_mainOf a x1 h) hk (by decide) (r := (RX10, TX10, 43)) rfl rfl ho mw_1311 mw_1313 mp_96 mw_11 mw_1314 ⟨⟨by decide, rfl, hdep, Nat.le_of_ble_eq_true rfl⟩, Nat.le_of_ble_eq_true rfl, rfl, ⟨by decide, by decide⟩, hcat⟩ (by decide +kernel) (by intro v hv; simp only [List.mem_cons, List.not_mem_nil, or_false] at hv; rcases hv with rfl <;> intro x hx <;> cases hx) d hq k rfl
abbrev g_X10_tabulates : Gx := (yX10_tabulates, cX10_tabulates, 8, (Option.none : Option FieldType), 6)
def f_X10_tabulates_202 (k202 : Hp → Option (Unit × Hp)) (l0 : Nat) (h : Hp) : Option (Unit × Hp) :=
  (ck h l0 10
(if (gI h l0 39) ≤ 0 then
(some ((), h))
else
((gP h l0 29).bind fun v15 =>
((gP h l0 38).bind fun v16 =>
(ca h v16 20 ((gI h l0 39) - (1 : Int32))
(ca h v15 22 (gI h v16 ((gI h l0 39) - (1 : Int32)).toNatClampNeg)
(if (lg_cmp (gL h v15 (gI h v16 ((gI h l0 39) - (1 : Int32)).toNatClampNeg).toNatClampNeg) (0 : Int64)) = 0 then
((gP h l0 30).bind fun v20 =>
((gP h l0 38).bind fun v21 =>
(ca h v21 20 ((gI h l0 39) - (1 : Int32))
(ca h v20 22 (gI h v21 ((gI h l0 39) - (1 : Int32)).toNatClampNeg)
(if (lg_cmp (gL h v20 (gI h v21 ((gI h l0 39) - (1 : Int32)).toNatClampNeg).toNatClampNeg) (0 : Int64)) = 0 then
(k202 (sI h l0 39 ((gI h l0 39) - (1 : Int32))))
else
(some ((), h)))))))
else
(some ((), h)))))))))
set_option maxRecDepth 20000 in
theorem t_X10_tabulates_202 (l0 : Nat) (h : Hp) (k202 : Hp → Option (Unit × Hp)) (hk202 : ∀ s : Hp, Sm rvV g_X10_tabulates 202 [.ref l0, .null, .null, .null, .null, .null, .null, .null] [] s (k202 s)) : Sm rvV g_X10_tabulates 202 [.ref l0, .null, .null, .null, .null, .null, .null, .null] [] h (f_X10_tabulates_202 k202 l0 h) := by
  unfold f_X10_tabulates_202
  refine Sm.aload_n dX10_tabulates_202 rfl rfl rfl ?_
  refine Sm.ck (fun o13 => ?_)
  refine gf_X10_303 o13 dX10_tabulates_203 rfl rfl ?_
  refine Sm.if_le (t := 264) dX10_tabulates_206 (by decide) rfl (fun b14 => ?_) (fun b14 => ?_)
  · exact Sm.ret (r := ()) dX10_tabulates_264 trivial rfl
  · refine Sm.aload_n dX10_tabulates_209 rfl rfl rfl ?_
    refine gf_X10_68 o13 dX10_tabulates_210 rfl rfl (fun v15 => ?_)
    refine Sm.aload_n dX10_tabulates_213 rfl rfl rfl ?_
    refine gf_X10_89 o13 dX10_tabulates_214 rfl rfl (fun v16 => ?_)
    refine Sm.aload_n dX10_tabulates_217 rfl rfl rfl ?_
    refine gf_X10_303 o13 dX10_tabulates_218 rfl rfl ?_
    refine Sm.iconst dX10_tabulates_221 ic_1 rfl ?_
    refine Sm.isub dX10_tabulates_222 rfl ?_
    refine Sm.ca (fun q17 => ?_)
    refine Sm.iald q17 dX10_tabulates_223 rfl ?_
    refine Sm.ca (fun q18 => ?_)
    refine Sm.lald q18 dX10_tabulates_224 rfl ?_
    refine Sm.lconst (v := (0 : Int64)) dX10_tabulates_225 (by decide) rfl ?_
    refine Sm.lcmp dX10_tabulates_226 rfl ?_
    refine Sm.if_ne (t := 264) dX10_tabulates_227 (by decide) rfl (fun b19 => ?_) (fun b19 => ?_)
    · refine Sm.aload_n dX10_tabulates_230 rfl rfl rfl ?_
      refine gf_X10_71 o13 dX10_tabulates_231 rfl rfl (fun v20 => ?_)
      refine Sm.aload_n dX10_tabulates_234 rfl rfl rfl ?_
      refine gf_X10_89 o13 dX10_tabulates_235 rfl rfl (fun v21 => ?_)
      refine Sm.aload_n dX10_tabulates_238 rfl rfl rfl ?_
      refine gf_X10_303 o13 dX10_tabulates_239 rfl rfl ?_
      refine Sm.iconst dX10_tabulates_242 ic_1 rfl ?_
      refine Sm.isub dX10_tabulates_243 rfl ?_
      refine Sm.ca (fun q22 => ?_)
      refine Sm.iald q22 dX10_tabulates_244 rfl ?_
      refine Sm.ca (fun q23 => ?_)
      refine Sm.lald q23 dX10_tabulates_245 rfl ?_
      refine Sm.lconst (v := (0 : Int64)) dX10_tabulates_246 (by decide) rfl ?_
      refine Sm.lcmp dX10_tabulates_247 rfl ?_
      refine Sm.if_ne (t := 264) dX10_tabulates_248 (by decide) rfl (fun b24 => ?_) (fun b24 => ?_)
      · refine Sm.aload_n dX10_tabulates_251 rfl rfl rfl ?_
        refine Sm.dup dX10_tabulates_252 rfl rfl ?_
        refine gf_X10_303 o13 dX10_tabulates_253 rfl rfl ?_
        refine Sm.iconst dX10_tabulates_256 ic_1 rfl ?_
        refine Sm.isub dX10_tabulates_257 rfl ?_
        refine pf_X10_303 o13 dX10_tabulates_258 rfl rfl ?_
        refine Sm.goto (t := 202) dX10_tabulates_261 (by decide) ?_
        exact Sm.wk (hk202 (sI h l0 39 ((gI h l0 39) - (1 : Int32)))) ⟨Or.inr rfl, Or.inl rfl, Or.inl rfl, Or.inl rfl, Or.inl rfl, Or.inl rfl, Or.inl rfl, Or.inl rfl, trivial⟩
      · exact Sm.ret (r := ()) dX10_tabulates_264 trivial rfl
    · exact Sm.ret (r := ()) dX10_tabulates_264 trivial rfl
def f_X10_tabulates_126 (k26 : (Int32 × Hp) → Option (Unit × Hp)) (k126 : (Int32 × Int32 × Hp) → Option (Unit × Hp)) (l0 : Nat) (l2 : Int32) (l4 : Int32) (l5 : Int32) (l6 : Int32) (l7 : Int32) (h : Hp) : Option (Unit × Hp) :=
  (if l7 < 0 then
(k26 (l2, h))
else
(ck h l0 10
((gP h l0 33).bind fun v45 =>
(ca h v45 20 (((4 : Int32) * l5) + l7)
(if (gI h v45 (((4 : Int32) * l5) + l7).toNatClampNeg) = l6 then
(nm (l7 + (-1 : Int32)) fun v48 =>
(k126 (l2, v48, h)))
else
((gP h l0 40).bind fun v49 =>
((gP h l0 33).bind fun v50 =>
(ca h v50 20 (((4 : Int32) * l5) + l7)
(ca h v49 20 l2
((gP (sI h v49 l2.toNatClampNeg (gI h v50 (((4 : Int32) * l5) + l7).toNatClampNeg)) l0 41).bind fun v53 =>
((gP (sI h v49 l2.toNatClampNeg (gI h v50 (((4 : Int32) * l5) + l7).toNatClampNeg)) l0 32).bind fun v54 =>
(ca (sI h v49 l2.toNatClampNeg (gI h v50 (((4 : Int32) * l5) + l7).toNatClampNeg)) v54 20 l5
(bd (f_X10_fives (gI (sI h v49 l2.toNatClampNeg (gI h v50 (((4 : Int32) * l5) + l7).toNatClampNeg)) v54 l5.toNatClampNeg) (sI h v49 l2.toNatClampNeg (gI h v50 (((4 : Int32) * l5) + l7).toNatClampNeg))) fun v56 h57 =>
(ca h57 v53 20 l2
(nm (l2 + (1 : Int32)) fun v59 =>
(nm (l7 + (-1 : Int32)) fun v60 =>
(k126 (v59, v60, (sI h57 v53 l2.toNatClampNeg (l4 + ((l7 - (4 : Int32)) * v56)))))))))))))))))))))
set_option maxRecDepth 20000 in
theorem t_X10_tabulates_126 (l0 : Nat) (l2 : Int32) (l4 : Int32) (l5 : Int32) (l6 : Int32) (l7 : Int32) (h : Hp) (k26 : (Int32 × Hp) → Option (Unit × Hp)) (hk26 : ∀ s : Int32 × Hp, Sm rvV g_X10_tabulates 26 [.ref l0, .null, .int s.1, .null, .null, .null, .null, .null] [] s.2 (k26 s)) (k126 : (Int32 × Int32 × Hp) → Option (Unit × Hp)) (hk126 : ∀ s : Int32 × Int32 × Hp, Sm rvV g_X10_tabulates 126 [.ref l0, .null, .int s.1, .null, .int l4, .int l5, .int l6, .int s.2.1] [] s.2.2 (k126 s)) : Sm rvV g_X10_tabulates 126 [.ref l0, .null, .int l2, .null, .int l4, .int l5, .int l6, .int l7] [] h (f_X10_tabulates_126 k26 k126 l0 l2 l4 l5 l6 l7 h) := by
  unfold f_X10_tabulates_126
  refine Sm.iload dX10_tabulates_126 rfl rfl ?_
  refine Sm.if_lt (t := 199) dX10_tabulates_128 (by decide) rfl (fun b43 => ?_) (fun b43 => ?_)
  · refine Sm.goto (t := 26) dX10_tabulates_199 (by decide) ?_
    exact Sm.wk (hk26 (l2, h)) ⟨Or.inr rfl, Or.inl rfl, Or.inr rfl, Or.inl rfl, Or.inl rfl, Or.inl rfl, Or.inl rfl, Or.inl rfl, trivial⟩
  · refine Sm.aload_n dX10_tabulates_131 rfl rfl rfl ?_
    refine Sm.ck (fun o44 => ?_)
    refine gf_X10_77 o44 dX10_tabulates_132 rfl rfl (fun v45 => ?_)
    refine Sm.iconst dX10_tabulates_135 ic_4 rfl ?_
    refine Sm.iload dX10_tabulates_136 rfl rfl ?_
    refine Sm.imul dX10_tabulates_138 rfl ?_
    refine Sm.iload dX10_tabulates_139 rfl rfl ?_
    refine Sm.iadd dX10_tabulates_141 rfl ?_
    refine Sm.ca (fun q46 => ?_)
    refine Sm.iald q46 dX10_tabulates_142 rfl ?_
    refine Sm.iload dX10_tabulates_143 rfl rfl ?_
    refine Sm.icmp_eq (t := 193) dX10_tabulates_145 (by decide) rfl (fun b47 => ?_) (fun b47 => ?_)
    · refine Sm.iinc (lv' := [.ref l0, .null, .int l2, .null, .int l4, .int l5, .int l6, .int (l7 + (-1 : Int32))]) dX10_tabulates_193 rfl ic_m1 rfl rfl ?_
      refine Sm.nm (LV := fun v48 => [.ref l0, .null, .int l2, .null, .int l4, .int l5, .int l6, .int v48]) (ST := fun v48 => []) (fun v48 => ?_)
      refine Sm.goto (t := 126) dX10_tabulates_196 (by decide) ?_
      exact Sm.wk (hk126 (l2, v48, h)) ⟨Or.inr rfl, Or.inl rfl, Or.inr rfl, Or.inl rfl, Or.inr rfl, Or.inr rfl, Or.inr rfl, Or.inr rfl, trivial⟩
    · refine Sm.aload_n dX10_tabulates_148 rfl rfl rfl ?_
      refine gf_X10_92 o44 dX10_tabulates_149 rfl rfl (fun v49 => ?_)
      refine Sm.iload_n dX10_tabulates_152 rfl rfl rfl ?_
      refine Sm.aload_n dX10_tabulates_153 rfl rfl rfl ?_
      refine gf_X10_77 o44 dX10_tabulates_154 rfl rfl (fun v50 => ?_)
      refine Sm.iconst dX10_tabulates_157 ic_4 rfl ?_
      refine Sm.iload dX10_tabulates_158 rfl rfl ?_
      refine Sm.imul dX10_tabulates_160 rfl ?_
      refine Sm.iload dX10_tabulates_161 rfl rfl ?_
      refine Sm.iadd dX10_tabulates_163 rfl ?_
      refine Sm.ca (fun q51 => ?_)
      refine Sm.iald q51 dX10_tabulates_164 rfl ?_
      refine Sm.ca (fun q52 => ?_)
      refine Sm.iast q52 dX10_tabulates_165 rfl ?_
      refine Sm.aload_n dX10_tabulates_166 rfl rfl rfl ?_
      refine gf_X10_95 o44 dX10_tabulates_167 rfl rfl (fun v53 => ?_)
      refine Sm.iload_n dX10_tabulates_170 rfl rfl rfl ?_
      refine Sm.iload dX10_tabulates_171 rfl rfl ?_
      refine Sm.iload dX10_tabulates_173 rfl rfl ?_
      refine Sm.iconst dX10_tabulates_175 ic_4 rfl ?_
      refine Sm.isub dX10_tabulates_176 rfl ?_
      refine Sm.aload_n dX10_tabulates_177 rfl rfl rfl ?_
      refine gf_X10_74 o44 dX10_tabulates_178 rfl rfl (fun v54 => ?_)
      refine Sm.iload dX10_tabulates_181 rfl rfl ?_
      refine Sm.ca (fun q55 => ?_)
      refine Sm.iald q55 dX10_tabulates_183 rfl ?_
      refine kc_X10_309 dX10_tabulates_184 rfl (Nat.le_of_ble_eq_true rfl) (Nat.le_of_ble_eq_true rfl) rfl (fun v56 h57 => ?_)
      refine Sm.imul dX10_tabulates_187 rfl ?_
      refine Sm.iadd dX10_tabulates_188 rfl ?_
      refine Sm.ca (fun q58 => ?_)
      refine Sm.iast q58 dX10_tabulates_189 rfl ?_
      refine Sm.iinc (lv' := [.ref l0, .null, .int (l2 + (1 : Int32)), .null, .int l4, .int l5, .int l6, .int l7]) dX10_tabulates_190 rfl ic_1 rfl rfl ?_
      refine Sm.nm (LV := fun v59 => [.ref l0, .null, .int v59, .null, .int l4, .int l5, .int l6, .int l7]) (ST := fun v59 => []) (fun v59 => ?_)
      refine Sm.iinc (lv' := [.ref l0, .null, .int v59, .null, .int l4, .int l5, .int l6, .int (l7 + (-1 : Int32))]) dX10_tabulates_193 rfl ic_m1 rfl rfl ?_
      refine Sm.nm (LV := fun v60 => [.ref l0, .null, .int v59, .null, .int l4, .int l5, .int l6, .int v60]) (ST := fun v60 => []) (fun v60 => ?_)
      refine Sm.goto (t := 126) dX10_tabulates_196 (by decide) ?_
      exact Sm.wk (hk126 (v59, v60, (sI h57 v53 l2.toNatClampNeg (l4 + ((l7 - (4 : Int32)) * v56))))) ⟨Or.inr rfl, Or.inl rfl, Or.inr rfl, Or.inl rfl, Or.inr rfl, Or.inr rfl, Or.inr rfl, Or.inr rfl, trivial⟩
def f_X10_tabulates_26 (k26 : (Int32 × Hp) → Option (Unit × Hp)) (l0 : Nat) (l2 : Int32) (h : Hp) : Option (Unit × Hp) :=
  (if l2 ≤ 0 then
(loopN (fun k s => f_X10_tabulates_202 k l0 s) 5000 h)
else
(nm (l2 + (-1 : Int32)) fun v25 =>
(ck h l0 10
((gP h l0 40).bind fun v27 =>
(ca h v27 20 v25
(nm (gI h v27 v25.toNatClampNeg) fun v29 =>
((gP h l0 41).bind fun v30 =>
(ca h v30 20 v25
(nm (gI h v30 v25.toNatClampNeg) fun v32 =>
(if (128 : Int32) ≤ v29 then
(nm (v29 - (128 : Int32)) fun v34 =>
(bd (f_X10_mainOf l0 v34 h) fun v35 h36 =>
(ck h36 l0 10
((gP h36 l0 40).bind fun v38 =>
(ca h36 v38 20 v25
((gP (sI h36 v38 v25.toNatClampNeg v35) l0 41).bind fun v40 =>
(ca (sI h36 v38 v25.toNatClampNeg v35) v40 20 v25
(nm (v25 + (1 : Int32)) fun v42 =>
(loopN (fun k s => f_X10_tabulates_126 k26 k l0 s.1 v32 v34 v35 s.2.1 s.2.2) 5000 (v42, (3 : Int32), (sI (sI h36 v38 v25.toNatClampNeg v35) v40 v25.toNatClampNeg v32)))))))))))
else
((gP h l0 38).bind fun v61 =>
(ca h v61 20 (gI h l0 39)
((gP (sI h v61 (gI h l0 39).toNatClampNeg v29) l0 37).bind fun v63 =>
(ca (sI h v61 (gI h l0 39).toNatClampNeg v29) v63 20 (gI (sI h v61 (gI h l0 39).toNatClampNeg v29) l0 39)
(nm (sI (sI h v61 (gI h l0 39).toNatClampNeg v29) v63 (gI (sI h v61 (gI h l0 39).toNatClampNeg v29) l0 39).toNatClampNeg v32) fun h65 =>
(k26 (v25, (sI h65 l0 39 ((gI h65 l0 39) + (1 : Int32))))))))))))))))))))
set_option maxRecDepth 20000 in
theorem t_X10_tabulates_26 (l0 : Nat) (l2 : Int32) (h : Hp) (k26 : (Int32 × Hp) → Option (Unit × Hp)) (hk26 : ∀ s : Int32 × Hp, Sm rvV g_X10_tabulates 26 [.ref l0, .null, .int s.1, .null, .null, .null, .null, .null] [] s.2 (k26 s)) : Sm rvV g_X10_tabulates 26 [.ref l0, .null, .int l2, .null, .null, .null, .null, .null] [] h (f_X10_tabulates_26 k26 l0 l2 h) := by
  unfold f_X10_tabulates_26
  refine Sm.iload_n dX10_tabulates_26 rfl rfl rfl ?_
  refine Sm.if_le (t := 202) dX10_tabulates_27 (by decide) rfl (fun b12 => ?_) (fun b12 => ?_)
  · exact Sm.wk (Sm.loop (σ := Hp) (LV := fun s => [.ref l0, .null, .null, .null, .null, .null, .null, .null]) (HH := fun s => s) (fun k hk s => t_X10_tabulates_202 l0 s k hk) 5000 h) ⟨Or.inr rfl, Or.inl rfl, Or.inl rfl, Or.inl rfl, Or.inl rfl, Or.inl rfl, Or.inl rfl, Or.inl rfl, trivial⟩
  · refine Sm.iinc (lv' := [.ref l0, .null, .int (l2 + (-1 : Int32)), .null, .null, .null, .null, .null]) dX10_tabulates_30 rfl ic_m1 rfl rfl ?_
    refine Sm.nm (LV := fun v25 => [.ref l0, .null, .int v25, .null, .null, .null, .null, .null]) (ST := fun v25 => []) (fun v25 => ?_)
    refine Sm.aload_n dX10_tabulates_33 rfl rfl rfl ?_
    refine Sm.ck (fun o26 => ?_)
    refine gf_X10_92 o26 dX10_tabulates_34 rfl rfl (fun v27 => ?_)
    refine Sm.iload_n dX10_tabulates_37 rfl rfl rfl ?_
    refine Sm.ca (fun q28 => ?_)
    refine Sm.iald q28 dX10_tabulates_38 rfl ?_
    refine Sm.nm (LV := fun v29 => [.ref l0, .null, .int v25, .null, .null, .null, .null, .null]) (ST := fun v29 => [.int v29]) (fun v29 => ?_)
    refine Sm.istore_n (lv' := [.ref l0, .null, .int v25, .int v29, .null, .null, .null, .null]) dX10_tabulates_39 rfl (Nat.le_of_ble_eq_true rfl) rfl rfl ?_
    refine Sm.aload_n dX10_tabulates_40 rfl rfl rfl ?_
    refine gf_X10_95 o26 dX10_tabulates_41 rfl rfl (fun v30 => ?_)
    refine Sm.iload_n dX10_tabulates_44 rfl rfl rfl ?_
    refine Sm.ca (fun q31 => ?_)
    refine Sm.iald q31 dX10_tabulates_45 rfl ?_
    refine Sm.nm (LV := fun v32 => [.ref l0, .null, .int v25, .int v29, .null, .null, .null, .null]) (ST := fun v32 => [.int v32]) (fun v32 => ?_)
    refine Sm.istore (lv' := [.ref l0, .null, .int v25, .int v29, .int v32, .null, .null, .null]) dX10_tabulates_46 (Nat.le_of_ble_eq_true rfl) rfl rfl ?_
    refine Sm.iload_n dX10_tabulates_48 rfl rfl rfl ?_
    refine Sm.sipush dX10_tabulates_49 sp_128 rfl ?_
    refine Sm.icmp_ge (t := 89) dX10_tabulates_52 (by decide) rfl (fun b33 => ?_) (fun b33 => ?_)
    · refine Sm.iload_n dX10_tabulates_89 rfl rfl rfl ?_
      refine Sm.sipush dX10_tabulates_90 sp_128 rfl ?_
      refine Sm.isub dX10_tabulates_93 rfl ?_
      refine Sm.nm (LV := fun v34 => [.ref l0, .null, .int v25, .int v29, .int v32, .null, .null, .null]) (ST := fun v34 => [.int v34]) (fun v34 => ?_)
      refine Sm.istore (lv' := [.ref l0, .null, .int v25, .int v29, .int v32, .int v34, .null, .null]) dX10_tabulates_94 (Nat.le_of_ble_eq_true rfl) rfl rfl ?_
      refine Sm.aload_n dX10_tabulates_96 rfl rfl rfl ?_
      refine Sm.iload dX10_tabulates_97 rfl rfl ?_
      refine kc_X10_306 o26 dX10_tabulates_99 rfl (Nat.le_of_ble_eq_true rfl) (Nat.le_of_ble_eq_true rfl) rfl (fun v35 h36 => ?_)
      refine Sm.istore (lv' := [.ref l0, .null, .int v25, .int v29, .int v32, .int v34, .int v35, .null]) dX10_tabulates_102 (Nat.le_of_ble_eq_true rfl) rfl rfl ?_
      refine Sm.aload_n dX10_tabulates_104 rfl rfl rfl ?_
      refine Sm.ck (fun o37 => ?_)
      refine gf_X10_92 o37 dX10_tabulates_105 rfl rfl (fun v38 => ?_)
      refine Sm.iload_n dX10_tabulates_108 rfl rfl rfl ?_
      refine Sm.iload dX10_tabulates_109 rfl rfl ?_
      refine Sm.ca (fun q39 => ?_)
      refine Sm.iast q39 dX10_tabulates_111 rfl ?_
      refine Sm.aload_n dX10_tabulates_112 rfl rfl rfl ?_
      refine gf_X10_95 o37 dX10_tabulates_113 rfl rfl (fun v40 => ?_)
      refine Sm.iload_n dX10_tabulates_116 rfl rfl rfl ?_
      refine Sm.iload dX10_tabulates_117 rfl rfl ?_
      refine Sm.ca (fun q41 => ?_)
      refine Sm.iast q41 dX10_tabulates_119 rfl ?_
      refine Sm.iinc (lv' := [.ref l0, .null, .int (v25 + (1 : Int32)), .int v29, .int v32, .int v34, .int v35, .null]) dX10_tabulates_120 rfl ic_1 rfl rfl ?_
      refine Sm.nm (LV := fun v42 => [.ref l0, .null, .int v42, .int v29, .int v32, .int v34, .int v35, .null]) (ST := fun v42 => []) (fun v42 => ?_)
      refine Sm.iconst dX10_tabulates_123 ic_3 rfl ?_
      refine Sm.istore (lv' := [.ref l0, .null, .int v42, .int v29, .int v32, .int v34, .int v35, .int (3 : Int32)]) dX10_tabulates_124 (Nat.le_of_ble_eq_true rfl) rfl rfl ?_
      exact Sm.wk (Sm.loop (σ := Int32 × Int32 × Hp) (LV := fun s => [.ref l0, .null, .int s.1, .null, .int v32, .int v34, .int v35, .int s.2.1]) (HH := fun s => s.2.2) (fun k hk s => t_X10_tabulates_126 l0 s.1 v32 v34 v35 s.2.1 s.2.2 k26 hk26 k hk) 5000 (v42, (3 : Int32), (sI (sI h36 v38 v25.toNatClampNeg v35) v40 v25.toNatClampNeg v32))) ⟨Or.inr rfl, Or.inl rfl, Or.inr rfl, Or.inl rfl, Or.inr rfl, Or.inr rfl, Or.inr rfl, Or.inr rfl, trivial⟩
    · refine Sm.aload_n dX10_tabulates_55 rfl rfl rfl ?_
      refine gf_X10_89 o26 dX10_tabulates_56 rfl rfl (fun v61 => ?_)
      refine Sm.aload_n dX10_tabulates_59 rfl rfl rfl ?_
      refine gf_X10_303 o26 dX10_tabulates_60 rfl rfl ?_
      refine Sm.iload_n dX10_tabulates_63 rfl rfl rfl ?_
      refine Sm.ca (fun q62 => ?_)
      refine Sm.iast q62 dX10_tabulates_64 rfl ?_
      refine Sm.aload_n dX10_tabulates_65 rfl rfl rfl ?_
      refine gf_X10_86 o26 dX10_tabulates_66 rfl rfl (fun v63 => ?_)
      refine Sm.aload_n dX10_tabulates_69 rfl rfl rfl ?_
      refine gf_X10_303 o26 dX10_tabulates_70 rfl rfl ?_
      refine Sm.iload dX10_tabulates_73 rfl rfl ?_
      refine Sm.ca (fun q64 => ?_)
      refine Sm.iast q64 dX10_tabulates_75 rfl ?_
      refine Sm.nmH (fun h65 e66 e67 => ?_)
      refine Sm.aload_n dX10_tabulates_76 rfl rfl rfl ?_
      refine Sm.dup dX10_tabulates_77 rfl rfl ?_
      refine gf_X10_303 (isO.tr e66 e67 o26) dX10_tabulates_78 rfl rfl ?_
      refine Sm.iconst dX10_tabulates_81 ic_1 rfl ?_
      refine Sm.iadd dX10_tabulates_82 rfl ?_
      refine pf_X10_303 (isO.tr e66 e67 o26) dX10_tabulates_83 rfl rfl ?_
      refine Sm.goto (t := 199) dX10_tabulates_86 (by decide) ?_
      refine Sm.goto (t := 26) dX10_tabulates_199 (by decide) ?_
      exact Sm.wk (hk26 (v25, (sI h65 l0 39 ((gI h65 l0 39) + (1 : Int32))))) ⟨Or.inr rfl, Or.inl rfl, Or.inr rfl, Or.inl rfl, Or.inl rfl, Or.inl rfl, Or.inl rfl, Or.inl rfl, trivial⟩
def f_X10_tabulates (l0 : Nat) (l1 : Int32) (h : Hp) : Option (Unit × Hp) :=
  (ck h l0 10
((gP h l0 40).bind fun v2 =>
(bd (f_X10_drawsAlone l0 l1 h) fun v3 h4 =>
(ca h4 v2 20 (0 : Int32)
(ck (sI h4 v2 (0 : Int32).toNatClampNeg v3) l0 10
((gP (sI h4 v2 (0 : Int32).toNatClampNeg v3) l0 41).bind fun v7 =>
(ca (sI h4 v2 (0 : Int32).toNatClampNeg v3) v7 20 (0 : Int32)
(nm (sI (sI (sI h4 v2 (0 : Int32).toNatClampNeg v3) v7 (0 : Int32).toNatClampNeg (124 : Int32)) l0 39 (0 : Int32)) fun h9 =>
(loopN (fun k s => f_X10_tabulates_26 k l0 s.1 s.2) 5000 ((1 : Int32), h9))))))))))
set_option maxRecDepth 20000 in
theorem t_X10_tabulates (l0 : Nat) (l1 : Int32) (h : Hp) : Sm rvV g_X10_tabulates 0 (ent 8 [.ref l0, .int l1]) [] h (f_X10_tabulates l0 l1 h) := by
  show Sm rvV g_X10_tabulates 0 [.ref l0, .int l1, .null, .null, .null, .null, .null, .null] [] h _
  unfold f_X10_tabulates
  refine Sm.aload_n dX10_tabulates_0 rfl rfl rfl ?_
  refine Sm.ck (fun o1 => ?_)
  refine gf_X10_92 o1 dX10_tabulates_1 rfl rfl (fun v2 => ?_)
  refine Sm.iconst dX10_tabulates_4 ic_0 rfl ?_
  refine Sm.aload_n dX10_tabulates_5 rfl rfl rfl ?_
  refine Sm.iload_n dX10_tabulates_6 rfl rfl rfl ?_
  refine kc_X10_291 o1 dX10_tabulates_7 rfl (Nat.le_of_ble_eq_true rfl) (Nat.le_of_ble_eq_true rfl) rfl (fun v3 h4 => ?_)
  refine Sm.ca (fun q5 => ?_)
  refine Sm.iast q5 dX10_tabulates_10 rfl ?_
  refine Sm.aload_n dX10_tabulates_11 rfl rfl rfl ?_
  refine Sm.ck (fun o6 => ?_)
  refine gf_X10_95 o6 dX10_tabulates_12 rfl rfl (fun v7 => ?_)
  refine Sm.iconst dX10_tabulates_15 ic_0 rfl ?_
  refine Sm.bipush dX10_tabulates_16 bp_124 rfl ?_
  refine Sm.ca (fun q8 => ?_)
  refine Sm.iast q8 dX10_tabulates_18 rfl ?_
  refine Sm.iconst dX10_tabulates_19 ic_1 rfl ?_
  refine Sm.istore_n (lv' := [.ref l0, .int l1, .int (1 : Int32), .null, .null, .null, .null, .null]) dX10_tabulates_20 rfl (Nat.le_of_ble_eq_true rfl) rfl rfl ?_
  refine Sm.aload_n dX10_tabulates_21 rfl rfl rfl ?_
  refine Sm.iconst dX10_tabulates_22 ic_0 rfl ?_
  refine pf_X10_303 o6 dX10_tabulates_23 rfl rfl ?_
  refine Sm.nmH (fun h9 e10 e11 => ?_)
  exact Sm.wk (Sm.loop (σ := Int32 × Hp) (LV := fun s => [.ref l0, .null, .int s.1, .null, .null, .null, .null, .null]) (HH := fun s => s.2) (fun k hk s => t_X10_tabulates_26 l0 s.1 s.2 k hk) 5000 ((1 : Int32), h9)) ⟨Or.inr rfl, Or.inl rfl, Or.inr rfl, Or.inl rfl, Or.inl rfl, Or.inl rfl, Or.inl rfl, Or.inl rfl, trivial⟩
set_option maxRecDepth 20000 in
theorem kc_X10_312 {ρ : Type} {rv : ρ → Option Value} {G : Gx} {pc q : Nat} {lv st : List Value} {h : Hp} {a : Nat} {x1 : Int32} {e : Unit → Hp → Option (ρ × Hp)} (hk : isO h a 10) (d : decode G.2.1 pc = .ok (.invokevirtual 312, 3)) (ho : G.1.cls = RX10) (hdep : (g_X10_tabulates).2.2.2.2 < G.2.2.2.2) (hcat : catS st ≤ 8) (hq : pc + 3 = q) (k : ∀ r h1, Sm rv G q lv (st) h1 (e r h1)) : Sm rv G pc lv (.int x1 :: .ref a :: st) h (bd (f_X10_tabulates a x1 h) e) :=
  Sm.callV (rv' := rvV) (args := [.int x1]) (n := 1) (t_X10_tabulates a x1 h) hk (by decide) (r := (RX10, TX10, 43)) rfl rfl ho mw_1307 mw_1309 mp_95 mw_11 mw_1310 ⟨⟨by decide, rfl, hdep, Nat.le_of_ble_eq_true rfl⟩, Nat.le_of_ble_eq_true rfl, rfl, ⟨by decide, by decide⟩, hcat⟩ (by decide +kernel) (by intro v hv; simp only [List.mem_cons, List.not_mem_nil, or_false] at hv; rcases hv with rfl <;> intro x hx <;> cases hx) d hq k rfl
abbrev g_X10_demandOf : Gx := (yX10_demandOf, cX10_demandOf, 2, (Option.some FieldType.int), 1)
def f_X10_demandOf (l0 : Int32) (l1 : Int32) (h : Hp) : Option (Int32 × Hp) :=
  (bd (f_X10_fives l1 h) fun v1 h2 =>
(if v1 = 0 then none else
(nm (l0 / v1) fun v4 =>
(some ((v4 - v4 / (5 : Int32) * (5 : Int32)), h2)))))
set_option maxRecDepth 20000 in
theorem t_X10_demandOf (l0 : Int32) (l1 : Int32) (h : Hp) : Sm rvI g_X10_demandOf 0 (ent 2 [.int l0, .int l1]) [] h (f_X10_demandOf l0 l1 h) := by
  show Sm rvI g_X10_demandOf 0 [.int l0, .int l1] [] h _
  unfold f_X10_demandOf
  refine Sm.iload_n dX10_demandOf_0 rfl rfl rfl ?_
  refine Sm.iload_n dX10_demandOf_1 rfl rfl rfl ?_
  refine kc_X10_309 dX10_demandOf_2 rfl (Nat.le_of_ble_eq_true rfl) (Nat.le_of_ble_eq_true rfl) rfl (fun v1 h2 => ?_)
  refine Sm.iff (fun _ => Sm.none) (fun y3 => ?_)
  refine Sm.idiv dX10_demandOf_5 y3 rfl ?_
  refine Sm.iconst dX10_demandOf_6 ic_5 rfl ?_
  refine Sm.nm (LV := fun v4 => [.int l0, .int l1]) (ST := fun v4 => [.int (5 : Int32), .int v4]) (fun v4 => ?_)
  refine Sm.irem dX10_demandOf_7 (by decide) rfl ?_
  exact Sm.ret dX10_demandOf_8 trivial rfl
set_option maxRecDepth 20000 in
theorem kc_X10_319 {ρ : Type} {rv : ρ → Option Value} {G : Gx} {pc q : Nat} {lv st : List Value} {h : Hp} {x0 : Int32} {x1 : Int32} {e : Int32 → Hp → Option (ρ × Hp)} (d : decode G.2.1 pc = .ok (.invokestatic 319, 3)) (ho : G.1.cls = RX10) (hdep : (g_X10_demandOf).2.2.2.2 < G.2.2.2.2) (hcat : catS st ≤ 8) (hq : pc + 3 = q) (k : ∀ r h1, Sm rv G q lv (.int r :: st) h1 (e r h1)) : Sm rv G pc lv (.int x1 :: .int x0 :: st) h (bd (f_X10_demandOf x0 x1 h) e) :=
  Sm.callS (rv' := rvI) (as := [.int x0, .int x1]) (n := 2) (t_X10_demandOf x0 x1 h) ho mw_1326 mw_1327 mw_11 mw_1328 ⟨⟨by decide, rfl, hdep, Nat.le_of_ble_eq_true rfl⟩, Nat.le_of_ble_eq_true rfl, rfl, ⟨by decide, by decide⟩, hcat⟩ (by decide +kernel) (by intro v hv; simp only [List.mem_cons, List.not_mem_nil, or_false] at hv; rcases hv with rfl | rfl <;> intro x hx <;> cases hx) d hq k rfl
abbrev g_X10_rows : Gx := (yX10_rows, cX10_rows, 2, (Option.some FieldType.int), 7)
def f_X10_rows (l0 : Nat) (l1 : Int32) (h : Hp) : Option (Int32 × Hp) :=
  (bd (f_X10_isSlot l1 h) fun v1 h2 =>
(if v1 = 0 then
(ck h2 l0 10
(bd (f_X10_fails l0 (-2 : Int32) h2) fun v5 h6 =>
(some (v5, h6))))
else
(ck h2 l0 10
(bd (f_X10_tabulates l0 l1 h2) fun _ h8 =>
(ck h8 l0 10
(some ((gI h8 l0 39), h8)))))))
set_option maxRecDepth 20000 in
theorem t_X10_rows (l0 : Nat) (l1 : Int32) (h : Hp) : Sm rvI g_X10_rows 0 (ent 2 [.ref l0, .int l1]) [] h (f_X10_rows l0 l1 h) := by
  show Sm rvI g_X10_rows 0 [.ref l0, .int l1] [] h _
  unfold f_X10_rows
  refine Sm.iload_n dX10_rows_0 rfl rfl rfl ?_
  refine kc_X10_179 dX10_rows_1 rfl (Nat.le_of_ble_eq_true rfl) (Nat.le_of_ble_eq_true rfl) rfl (fun v1 h2 => ?_)
  refine Sm.if_ne (t := 14) dX10_rows_4 (by decide) rfl (fun b3 => ?_) (fun b3 => ?_)
  · refine Sm.aload_n dX10_rows_7 rfl rfl rfl ?_
    refine Sm.bipush dX10_rows_8 bp_m2 rfl ?_
    refine Sm.ck (fun o4 => ?_)
    refine kc_X10_106 o4 dX10_rows_10 rfl (Nat.le_of_ble_eq_true rfl) (Nat.le_of_ble_eq_true rfl) rfl (fun v5 h6 => ?_)
    exact Sm.ret dX10_rows_13 trivial rfl
  · refine Sm.aload_n dX10_rows_14 rfl rfl rfl ?_
    refine Sm.iload_n dX10_rows_15 rfl rfl rfl ?_
    refine Sm.ck (fun o7 => ?_)
    refine kc_X10_312 o7 dX10_rows_16 rfl (Nat.le_of_ble_eq_true rfl) (Nat.le_of_ble_eq_true rfl) rfl (fun _ h8 => ?_)
    refine Sm.aload_n dX10_rows_19 rfl rfl rfl ?_
    refine Sm.ck (fun o9 => ?_)
    refine gf_X10_303 o9 dX10_rows_20 rfl rfl ?_
    exact Sm.ret dX10_rows_23 trivial rfl
set_option maxRecDepth 20000 in
theorem kc_L_99 {ρ : Type} {rv : ρ → Option Value} {G : Gx} {pc q : Nat} {lv st : List Value} {h : Hp} {a : Nat} {x1 : Int32} {e : Int32 → Hp → Option (ρ × Hp)} (hk : isO h a 10) (d : decode G.2.1 pc = .ok (.invokevirtual 99, 3)) (ho : G.1.cls = RL) (hdep : (g_X10_rows).2.2.2.2 < G.2.2.2.2) (hcat : catS st ≤ 8) (hq : pc + 3 = q) (k : ∀ r h1, Sm rv G q lv (.int r :: st) h1 (e r h1)) : Sm rv G pc lv (.int x1 :: .ref a :: st) h (bd (f_X10_rows a x1 h) e) :=
  Sm.callV (rv' := rvI) (args := [.int x1]) (n := 1) (t_X10_rows a x1 h) hk (by decide) (r := (RX10, TX10, 43)) rfl rfl ho mw_1303 mw_1304 mw_1305 mw_11 mw_1306 ⟨⟨by decide, rfl, hdep, Nat.le_of_ble_eq_true rfl⟩, Nat.le_of_ble_eq_true rfl, rfl, ⟨by decide, by decide⟩, hcat⟩ (by decide +kernel) (by intro v hv; simp only [List.mem_cons, List.not_mem_nil, or_false] at hv; rcases hv with rfl <;> intro x hx <;> cases hx) d hq k rfl
abbrev g_X10_hasRow : Gx := (yX10_hasRow, cX10_hasRow, 3, (Option.some FieldType.boolean), 7)
def f_X10_hasRow (l0 : Nat) (l1 : Int32) (l2 : Int32) (h : Hp) : Option (Int32 × Hp) :=
  (bd (f_X10_isSlot l1 h) fun v1 h2 =>
(if v1 = 0 then
(some ((0 : Int32), h2))
else
(ck h2 l0 10
(bd (f_X10_tabulates l0 l1 h2) fun _ h5 =>
(ck h5 l0 10
(bd (f_X10_within l2 (0 : Int32) ((gI h5 l0 39) - (1 : Int32)) h5) fun v7 h8 =>
(bz v7
(some (v7, h8)))))))))
set_option maxRecDepth 20000 in
theorem t_X10_hasRow (l0 : Nat) (l1 : Int32) (l2 : Int32) (h : Hp) : Sm rvI g_X10_hasRow 0 (ent 3 [.ref l0, .int l1, .int l2]) [] h (f_X10_hasRow l0 l1 l2 h) := by
  show Sm rvI g_X10_hasRow 0 [.ref l0, .int l1, .int l2] [] h _
  unfold f_X10_hasRow
  refine Sm.iload_n dX10_hasRow_0 rfl rfl rfl ?_
  refine kc_X10_179 dX10_hasRow_1 rfl (Nat.le_of_ble_eq_true rfl) (Nat.le_of_ble_eq_true rfl) rfl (fun v1 h2 => ?_)
  refine Sm.if_ne (t := 9) dX10_hasRow_4 (by decide) rfl (fun b3 => ?_) (fun b3 => ?_)
  · refine Sm.iconst dX10_hasRow_7 ic_0 rfl ?_
    exact Sm.ret dX10_hasRow_8 (Or.inl rfl) rfl
  · refine Sm.aload_n dX10_hasRow_9 rfl rfl rfl ?_
    refine Sm.iload_n dX10_hasRow_10 rfl rfl rfl ?_
    refine Sm.ck (fun o4 => ?_)
    refine kc_X10_312 o4 dX10_hasRow_11 rfl (Nat.le_of_ble_eq_true rfl) (Nat.le_of_ble_eq_true rfl) rfl (fun _ h5 => ?_)
    refine Sm.iload_n dX10_hasRow_14 rfl rfl rfl ?_
    refine Sm.iconst dX10_hasRow_15 ic_0 rfl ?_
    refine Sm.aload_n dX10_hasRow_16 rfl rfl rfl ?_
    refine Sm.ck (fun o6 => ?_)
    refine gf_X10_303 o6 dX10_hasRow_17 rfl rfl ?_
    refine Sm.iconst dX10_hasRow_20 ic_1 rfl ?_
    refine Sm.isub dX10_hasRow_21 rfl ?_
    refine kc_X10_98 dX10_hasRow_22 rfl (Nat.le_of_ble_eq_true rfl) (Nat.le_of_ble_eq_true rfl) rfl (fun v7 h8 => ?_)
    refine Sm.bz (fun z9 => ?_)
    exact Sm.ret dX10_hasRow_25 z9 rfl
set_option maxRecDepth 20000 in
theorem kc_X10_315 {ρ : Type} {rv : ρ → Option Value} {G : Gx} {pc q : Nat} {lv st : List Value} {h : Hp} {a : Nat} {x1 : Int32} {x2 : Int32} {e : Int32 → Hp → Option (ρ × Hp)} (hk : isO h a 10) (d : decode G.2.1 pc = .ok (.invokevirtual 315, 3)) (ho : G.1.cls = RX10) (hdep : (g_X10_hasRow).2.2.2.2 < G.2.2.2.2) (hcat : catS st ≤ 8) (hq : pc + 3 = q) (k : ∀ r h1, Sm rv G q lv (.int r :: st) h1 (e r h1)) : Sm rv G pc lv (.int x2 :: .int x1 :: .ref a :: st) h (bd (f_X10_hasRow a x1 x2 h) e) :=
  Sm.callV (rv' := rvI) (args := [.int x1, .int x2]) (n := 2) (t_X10_hasRow a x1 x2 h) hk (by decide) (r := (RX10, TX10, 43)) rfl rfl ho mw_1322 mw_1324 mp_97 mw_11 mw_1325 ⟨⟨by decide, rfl, hdep, Nat.le_of_ble_eq_true rfl⟩, Nat.le_of_ble_eq_true rfl, rfl, ⟨by decide, by decide⟩, hcat⟩ (by decide +kernel) (by intro v hv; simp only [List.mem_cons, List.not_mem_nil, or_false] at hv; rcases hv with rfl | rfl <;> intro x hx <;> cases hx) d hq k rfl
abbrev g_X10_match : Gx := (yX10_match, cX10_match, 4, (Option.some FieldType.int), 8)
def f_X10_match_31 (l0 : Nat) (h : Hp) : Option (Int32 × Hp) :=
  (ck h l0 10
(bd (f_X10_fails l0 (-2 : Int32) h) fun v5 h6 =>
(some (v5, h6))))
set_option maxRecDepth 20000 in
theorem t_X10_match_31 (l0 : Nat) (h : Hp) : Sm rvI g_X10_match 31 [.ref l0, .null, .null, .null] [] h (f_X10_match_31 l0 h) := by
  unfold f_X10_match_31
  refine Sm.aload_n dX10_match_31 rfl rfl rfl ?_
  refine Sm.bipush dX10_match_32 bp_m2 rfl ?_
  refine Sm.ck (fun o4 => ?_)
  refine kc_X10_106 o4 dX10_match_34 rfl (Nat.le_of_ble_eq_true rfl) (Nat.le_of_ble_eq_true rfl) rfl (fun v5 h6 => ?_)
  exact Sm.ret dX10_match_37 trivial rfl
def f_X10_match (l0 : Nat) (l1 : Int32) (l2 : Int32) (l3 : Int32) (h : Hp) : Option (Int32 × Hp) :=
  (bd (f_X10_within l3 (0 : Int32) (2 : Int32) h) fun v1 h2 =>
(if v1 = 0 then
(f_X10_match_31 l0 h2)
else
(ck h2 l0 10
(bd (f_X10_hasRow l0 l1 l2 h2) fun v8 h9 =>
(if v8 = 0 then
(f_X10_match_31 l0 h9)
else
(ck h9 l0 10
((gP h9 l0 37).bind fun v12 =>
(ca h9 v12 20 l2
(bd (f_X10_demandOf (gI h9 v12 l2.toNatClampNeg) l3 h9) fun v14 h15 =>
(some (v14, h15)))))))))))
set_option maxRecDepth 20000 in
theorem t_X10_match (l0 : Nat) (l1 : Int32) (l2 : Int32) (l3 : Int32) (h : Hp) : Sm rvI g_X10_match 0 (ent 4 [.ref l0, .int l1, .int l2, .int l3]) [] h (f_X10_match l0 l1 l2 l3 h) := by
  show Sm rvI g_X10_match 0 [.ref l0, .int l1, .int l2, .int l3] [] h _
  unfold f_X10_match
  refine Sm.iload_n dX10_match_0 rfl rfl rfl ?_
  refine Sm.iconst dX10_match_1 ic_0 rfl ?_
  refine Sm.iconst dX10_match_2 ic_2 rfl ?_
  refine kc_X10_98 dX10_match_3 rfl (Nat.le_of_ble_eq_true rfl) (Nat.le_of_ble_eq_true rfl) rfl (fun v1 h2 => ?_)
  refine Sm.if_eq (t := 31) dX10_match_6 (by decide) rfl (fun b3 => ?_) (fun b3 => ?_)
  · exact Sm.wk (t_X10_match_31 l0 h2) ⟨Or.inr rfl, Or.inl rfl, Or.inl rfl, Or.inl rfl, trivial⟩
  · refine Sm.aload_n dX10_match_9 rfl rfl rfl ?_
    refine Sm.iload_n dX10_match_10 rfl rfl rfl ?_
    refine Sm.iload_n dX10_match_11 rfl rfl rfl ?_
    refine Sm.ck (fun o7 => ?_)
    refine kc_X10_315 o7 dX10_match_12 rfl (Nat.le_of_ble_eq_true rfl) (Nat.le_of_ble_eq_true rfl) rfl (fun v8 h9 => ?_)
    refine Sm.if_eq (t := 31) dX10_match_15 (by decide) rfl (fun b10 => ?_) (fun b10 => ?_)
    · exact Sm.wk (t_X10_match_31 l0 h9) ⟨Or.inr rfl, Or.inl rfl, Or.inl rfl, Or.inl rfl, trivial⟩
    · refine Sm.aload_n dX10_match_18 rfl rfl rfl ?_
      refine Sm.ck (fun o11 => ?_)
      refine gf_X10_86 o11 dX10_match_19 rfl rfl (fun v12 => ?_)
      refine Sm.iload_n dX10_match_22 rfl rfl rfl ?_
      refine Sm.ca (fun q13 => ?_)
      refine Sm.iald q13 dX10_match_23 rfl ?_
      refine Sm.iload_n dX10_match_24 rfl rfl rfl ?_
      refine kc_X10_319 dX10_match_25 rfl (Nat.le_of_ble_eq_true rfl) (Nat.le_of_ble_eq_true rfl) rfl (fun v14 h15 => ?_)
      refine Sm.goto (t := 37) dX10_match_28 (by decide) ?_
      exact Sm.ret dX10_match_37 trivial rfl
set_option maxRecDepth 20000 in
theorem kc_L_103 {ρ : Type} {rv : ρ → Option Value} {G : Gx} {pc q : Nat} {lv st : List Value} {h : Hp} {a : Nat} {x1 : Int32} {x2 : Int32} {x3 : Int32} {e : Int32 → Hp → Option (ρ × Hp)} (hk : isO h a 10) (d : decode G.2.1 pc = .ok (.invokevirtual 103, 3)) (ho : G.1.cls = RL) (hdep : (g_X10_match).2.2.2.2 < G.2.2.2.2) (hcat : catS st ≤ 8) (hq : pc + 3 = q) (k : ∀ r h1, Sm rv G q lv (.int r :: st) h1 (e r h1)) : Sm rv G pc lv (.int x3 :: .int x2 :: .int x1 :: .ref a :: st) h (bd (f_X10_match a x1 x2 x3 h) e) :=
  Sm.callV (rv' := rvI) (args := [.int x1, .int x2, .int x3]) (n := 3) (t_X10_match a x1 x2 x3 h) hk (by decide) (r := (RX10, TX10, 43)) rfl rfl ho mw_1318 mw_1319 mw_1320 mw_11 mw_1321 ⟨⟨by decide, rfl, hdep, Nat.le_of_ble_eq_true rfl⟩, Nat.le_of_ble_eq_true rfl, rfl, ⟨by decide, by decide⟩, hcat⟩ (by decide +kernel) (by intro v hv; simp only [List.mem_cons, List.not_mem_nil, or_false] at hv; rcases hv with rfl | rfl | rfl <;> intro x hx <;> cases hx) d hq k rfl
abbrev g_X10_hasAction : Gx := (yX10_hasAction, cX10_hasAction, 5, (Option.some FieldType.boolean), 0)
def f_X10_hasAction_31 (l2 : Int32) (s0 : Int64) (h : Hp) : Option (Int32 × Hp) :=
  (if (lg_cmp ((s0 >>> ((l2 - l2 / (64 : Int32) * (64 : Int32)).toInt64 &&& 63)) &&& (1 : Int64)) (1 : Int64)) = 0 then
(some ((1 : Int32), h))
else
(some ((0 : Int32), h)))
set_option maxRecDepth 20000 in
theorem t_X10_hasAction_31 (l2 : Int32) (s0 : Int64) (h : Hp) : Sm rvI g_X10_hasAction 31 [.null, .null, .int l2, .null, .null] [.long s0] h (f_X10_hasAction_31 l2 s0 h) := by
  unfold f_X10_hasAction_31
  refine Sm.lstore_n (lv' := [.null, .null, .int l2, .long s0, .null]) dX10_hasAction_31 rfl (Nat.le_of_ble_eq_true rfl) rfl rfl ?_
  refine Sm.lload_n dX10_hasAction_32 rfl rfl rfl ?_
  refine Sm.iload_n dX10_hasAction_33 rfl rfl rfl ?_
  refine Sm.bipush dX10_hasAction_34 bp_64 rfl ?_
  refine Sm.irem dX10_hasAction_36 (by decide) rfl ?_
  refine Sm.lshr dX10_hasAction_37 rfl ?_
  refine Sm.lconst (v := (1 : Int64)) dX10_hasAction_38 (by decide) rfl ?_
  refine Sm.land dX10_hasAction_39 rfl ?_
  refine Sm.lconst (v := (1 : Int64)) dX10_hasAction_40 (by decide) rfl ?_
  refine Sm.lcmp dX10_hasAction_41 rfl ?_
  refine Sm.if_ne (t := 49) dX10_hasAction_42 (by decide) rfl (fun b7 => ?_) (fun b7 => ?_)
  · refine Sm.iconst dX10_hasAction_45 ic_1 rfl ?_
    refine Sm.goto (t := 50) dX10_hasAction_46 (by decide) ?_
    exact Sm.ret dX10_hasAction_50 (Or.inr rfl) rfl
  · refine Sm.iconst dX10_hasAction_49 ic_0 rfl ?_
    exact Sm.ret dX10_hasAction_50 (Or.inl rfl) rfl
def f_X10_hasAction (l0 : Nat) (l1 : Int32) (l2 : Int32) (h : Hp) : Option (Int32 × Hp) :=
  (if (64 : Int32) ≤ l2 then
(ck h l0 10
((gP h l0 30).bind fun v3 =>
((gP h l0 38).bind fun v4 =>
(ca h v4 20 l1
(ca h v3 22 (gI h v4 l1.toNatClampNeg)
(f_X10_hasAction_31 l2 (gL h v3 (gI h v4 l1.toNatClampNeg).toNatClampNeg) h))))))
else
(ck h l0 10
((gP h l0 29).bind fun v9 =>
((gP h l0 38).bind fun v10 =>
(ca h v10 20 l1
(ca h v9 22 (gI h v10 l1.toNatClampNeg)
(f_X10_hasAction_31 l2 (gL h v9 (gI h v10 l1.toNatClampNeg).toNatClampNeg) h)))))))
set_option maxRecDepth 20000 in
theorem t_X10_hasAction (l0 : Nat) (l1 : Int32) (l2 : Int32) (h : Hp) : Sm rvI g_X10_hasAction 0 (ent 5 [.ref l0, .int l1, .int l2]) [] h (f_X10_hasAction l0 l1 l2 h) := by
  show Sm rvI g_X10_hasAction 0 [.ref l0, .int l1, .int l2, .null, .null] [] h _
  unfold f_X10_hasAction
  refine Sm.iload_n dX10_hasAction_0 rfl rfl rfl ?_
  refine Sm.bipush dX10_hasAction_1 bp_64 rfl ?_
  refine Sm.icmp_ge (t := 20) dX10_hasAction_3 (by decide) rfl (fun b1 => ?_) (fun b1 => ?_)
  · refine Sm.aload_n dX10_hasAction_20 rfl rfl rfl ?_
    refine Sm.ck (fun o2 => ?_)
    refine gf_X10_71 o2 dX10_hasAction_21 rfl rfl (fun v3 => ?_)
    refine Sm.aload_n dX10_hasAction_24 rfl rfl rfl ?_
    refine gf_X10_89 o2 dX10_hasAction_25 rfl rfl (fun v4 => ?_)
    refine Sm.iload_n dX10_hasAction_28 rfl rfl rfl ?_
    refine Sm.ca (fun q5 => ?_)
    refine Sm.iald q5 dX10_hasAction_29 rfl ?_
    refine Sm.ca (fun q6 => ?_)
    refine Sm.lald q6 dX10_hasAction_30 rfl ?_
    exact Sm.wk (t_X10_hasAction_31 l2 (gL h v3 (gI h v4 l1.toNatClampNeg).toNatClampNeg) h) ⟨Or.inl rfl, Or.inl rfl, Or.inr rfl, Or.inl rfl, Or.inl rfl, trivial⟩
  · refine Sm.aload_n dX10_hasAction_6 rfl rfl rfl ?_
    refine Sm.ck (fun o8 => ?_)
    refine gf_X10_68 o8 dX10_hasAction_7 rfl rfl (fun v9 => ?_)
    refine Sm.aload_n dX10_hasAction_10 rfl rfl rfl ?_
    refine gf_X10_89 o8 dX10_hasAction_11 rfl rfl (fun v10 => ?_)
    refine Sm.iload_n dX10_hasAction_14 rfl rfl rfl ?_
    refine Sm.ca (fun q11 => ?_)
    refine Sm.iald q11 dX10_hasAction_15 rfl ?_
    refine Sm.ca (fun q12 => ?_)
    refine Sm.lald q12 dX10_hasAction_16 rfl ?_
    refine Sm.goto (t := 31) dX10_hasAction_17 (by decide) ?_
    exact Sm.wk (t_X10_hasAction_31 l2 (gL h v9 (gI h v10 l1.toNatClampNeg).toNatClampNeg) h) ⟨Or.inl rfl, Or.inl rfl, Or.inr rfl, Or.inl rfl, Or.inl rfl, trivial⟩
set_option maxRecDepth 20000 in
theorem kc_X10_322 {ρ : Type} {rv : ρ → Option Value} {G : Gx} {pc q : Nat} {lv st : List Value} {h : Hp} {a : Nat} {x1 : Int32} {x2 : Int32} {e : Int32 → Hp → Option (ρ × Hp)} (hk : isO h a 10) (d : decode G.2.1 pc = .ok (.invokevirtual 322, 3)) (ho : G.1.cls = RX10) (hdep : (g_X10_hasAction).2.2.2.2 < G.2.2.2.2) (hcat : catS st ≤ 8) (hq : pc + 3 = q) (k : ∀ r h1, Sm rv G q lv (.int r :: st) h1 (e r h1)) : Sm rv G pc lv (.int x2 :: .int x1 :: .ref a :: st) h (bd (f_X10_hasAction a x1 x2 h) e) :=
  Sm.callV (rv' := rvI) (args := [.int x1, .int x2]) (n := 2) (t_X10_hasAction a x1 x2 h) hk (by decide) (r := (RX10, TX10, 43)) rfl rfl ho mw_1337 mw_1339 mp_99 mw_11 mw_1340 ⟨⟨by decide, rfl, hdep, Nat.le_of_ble_eq_true rfl⟩, Nat.le_of_ble_eq_true rfl, rfl, ⟨by decide, by decide⟩, hcat⟩ (by decide +kernel) (by intro v hv; simp only [List.mem_cons, List.not_mem_nil, or_false] at hv; rcases hv with rfl | rfl <;> intro x hx <;> cases hx) d hq k rfl
abbrev g_X10_actionAt : Gx := (yX10_actionAt, cX10_actionAt, 5, (Option.some FieldType.int), 1)
def f_X10_actionAt_5 (k5 : (Int32 × Int32 × Hp) → Option (Int32 × Hp)) (l0 : Nat) (l1 : Int32) (l2 : Int32) (l3 : Int32) (l4 : Int32) (h : Hp) : Option (Int32 × Hp) :=
  (if (125 : Int32) ≤ l4 then
(if l2 = (-1 : Int32) then
(some (l3, h))
else
(some ((-1 : Int32), h)))
else
(ck h l0 10
(bd (f_X10_hasAction l0 l1 l4 h) fun v4 h5 =>
(if v4 = 0 then
(nm (l4 + (1 : Int32)) fun v7 =>
(k5 (l3, v7, h5)))
else
(if l3 = l2 then
(some (l4, h5))
else
(nm (l3 + (1 : Int32)) fun v9 =>
(nm (l4 + (1 : Int32)) fun v10 =>
(k5 (v9, v10, h5)))))))))
set_option maxRecDepth 20000 in
theorem t_X10_actionAt_5 (l0 : Nat) (l1 : Int32) (l2 : Int32) (l3 : Int32) (l4 : Int32) (h : Hp) (k5 : (Int32 × Int32 × Hp) → Option (Int32 × Hp)) (hk5 : ∀ s : Int32 × Int32 × Hp, Sm rvI g_X10_actionAt 5 [.ref l0, .int l1, .int l2, .int s.1, .int s.2.1] [] s.2.2 (k5 s)) : Sm rvI g_X10_actionAt 5 [.ref l0, .int l1, .int l2, .int l3, .int l4] [] h (f_X10_actionAt_5 k5 l0 l1 l2 l3 l4 h) := by
  unfold f_X10_actionAt_5
  refine Sm.iload dX10_actionAt_5 rfl rfl ?_
  refine Sm.bipush dX10_actionAt_7 bp_125 rfl ?_
  refine Sm.icmp_ge (t := 39) dX10_actionAt_9 (by decide) rfl (fun b1 => ?_) (fun b1 => ?_)
  · refine Sm.iload_n dX10_actionAt_39 rfl rfl rfl ?_
    refine Sm.iconst dX10_actionAt_40 ic_m1 rfl ?_
    refine Sm.icmp_ne (t := 48) dX10_actionAt_41 (by decide) rfl (fun b2 => ?_) (fun b2 => ?_)
    · refine Sm.iload_n dX10_actionAt_44 rfl rfl rfl ?_
      refine Sm.goto (t := 49) dX10_actionAt_45 (by decide) ?_
      exact Sm.ret dX10_actionAt_49 trivial rfl
    · refine Sm.iconst dX10_actionAt_48 ic_m1 rfl ?_
      exact Sm.ret dX10_actionAt_49 trivial rfl
  · refine Sm.aload_n dX10_actionAt_12 rfl rfl rfl ?_
    refine Sm.iload_n dX10_actionAt_13 rfl rfl rfl ?_
    refine Sm.iload dX10_actionAt_14 rfl rfl ?_
    refine Sm.ck (fun o3 => ?_)
    refine kc_X10_322 o3 dX10_actionAt_16 rfl (Nat.le_of_ble_eq_true rfl) (Nat.le_of_ble_eq_true rfl) rfl (fun v4 h5 => ?_)
    refine Sm.if_eq (t := 33) dX10_actionAt_19 (by decide) rfl (fun b6 => ?_) (fun b6 => ?_)
    · refine Sm.iinc (lv' := [.ref l0, .int l1, .int l2, .int l3, .int (l4 + (1 : Int32))]) dX10_actionAt_33 rfl ic_1 rfl rfl ?_
      refine Sm.nm (LV := fun v7 => [.ref l0, .int l1, .int l2, .int l3, .int v7]) (ST := fun v7 => []) (fun v7 => ?_)
      refine Sm.goto (t := 5) dX10_actionAt_36 (by decide) ?_
      exact Sm.wk (hk5 (l3, v7, h5)) ⟨Or.inr rfl, Or.inr rfl, Or.inr rfl, Or.inr rfl, Or.inr rfl, trivial⟩
    · refine Sm.iload_n dX10_actionAt_22 rfl rfl rfl ?_
      refine Sm.iload_n dX10_actionAt_23 rfl rfl rfl ?_
      refine Sm.icmp_ne (t := 30) dX10_actionAt_24 (by decide) rfl (fun b8 => ?_) (fun b8 => ?_)
      · refine Sm.iload dX10_actionAt_27 rfl rfl ?_
        exact Sm.ret dX10_actionAt_29 trivial rfl
      · refine Sm.iinc (lv' := [.ref l0, .int l1, .int l2, .int (l3 + (1 : Int32)), .int l4]) dX10_actionAt_30 rfl ic_1 rfl rfl ?_
        refine Sm.nm (LV := fun v9 => [.ref l0, .int l1, .int l2, .int v9, .int l4]) (ST := fun v9 => []) (fun v9 => ?_)
        refine Sm.iinc (lv' := [.ref l0, .int l1, .int l2, .int v9, .int (l4 + (1 : Int32))]) dX10_actionAt_33 rfl ic_1 rfl rfl ?_
        refine Sm.nm (LV := fun v10 => [.ref l0, .int l1, .int l2, .int v9, .int v10]) (ST := fun v10 => []) (fun v10 => ?_)
        refine Sm.goto (t := 5) dX10_actionAt_36 (by decide) ?_
        exact Sm.wk (hk5 (v9, v10, h5)) ⟨Or.inr rfl, Or.inr rfl, Or.inr rfl, Or.inr rfl, Or.inr rfl, trivial⟩
def f_X10_actionAt (l0 : Nat) (l1 : Int32) (l2 : Int32) (h : Hp) : Option (Int32 × Hp) :=
  (loopN (fun k s => f_X10_actionAt_5 k l0 l1 l2 s.1 s.2.1 s.2.2) 5000 ((0 : Int32), (0 : Int32), h))
set_option maxRecDepth 20000 in
theorem t_X10_actionAt (l0 : Nat) (l1 : Int32) (l2 : Int32) (h : Hp) : Sm rvI g_X10_actionAt 0 (ent 5 [.ref l0, .int l1, .int l2]) [] h (f_X10_actionAt l0 l1 l2 h) := by
  show Sm rvI g_X10_actionAt 0 [.ref l0, .int l1, .int l2, .null, .null] [] h _
  unfold f_X10_actionAt
  refine Sm.iconst dX10_actionAt_0 ic_0 rfl ?_
  refine Sm.istore_n (lv' := [.ref l0, .int l1, .int l2, .int (0 : Int32), .null]) dX10_actionAt_1 rfl (Nat.le_of_ble_eq_true rfl) rfl rfl ?_
  refine Sm.iconst dX10_actionAt_2 ic_0 rfl ?_
  refine Sm.istore (lv' := [.ref l0, .int l1, .int l2, .int (0 : Int32), .int (0 : Int32)]) dX10_actionAt_3 (Nat.le_of_ble_eq_true rfl) rfl rfl ?_
  exact Sm.wk (Sm.loop (σ := Int32 × Int32 × Hp) (LV := fun s => [.ref l0, .int l1, .int l2, .int s.1, .int s.2.1]) (HH := fun s => s.2.2) (fun k hk s => t_X10_actionAt_5 l0 l1 l2 s.1 s.2.1 s.2.2 k hk) 5000 ((0 : Int32), (0 : Int32), h)) ⟨Or.inr rfl, Or.inr rfl, Or.inr rfl, Or.inr rfl, Or.inr rfl, trivial⟩
set_option maxRecDepth 20000 in
theorem kc_X10_325 {ρ : Type} {rv : ρ → Option Value} {G : Gx} {pc q : Nat} {lv st : List Value} {h : Hp} {a : Nat} {x1 : Int32} {x2 : Int32} {e : Int32 → Hp → Option (ρ × Hp)} (hk : isO h a 10) (d : decode G.2.1 pc = .ok (.invokevirtual 325, 3)) (ho : G.1.cls = RX10) (hdep : (g_X10_actionAt).2.2.2.2 < G.2.2.2.2) (hcat : catS st ≤ 8) (hq : pc + 3 = q) (k : ∀ r h1, Sm rv G q lv (.int r :: st) h1 (e r h1)) : Sm rv G pc lv (.int x2 :: .int x1 :: .ref a :: st) h (bd (f_X10_actionAt a x1 x2 h) e) :=
  Sm.callV (rv' := rvI) (args := [.int x1, .int x2]) (n := 2) (t_X10_actionAt a x1 x2 h) hk (by decide) (r := (RX10, TX10, 43)) rfl rfl ho mw_1333 mw_1335 mp_98 mw_11 mw_1336 ⟨⟨by decide, rfl, hdep, Nat.le_of_ble_eq_true rfl⟩, Nat.le_of_ble_eq_true rfl, rfl, ⟨by decide, by decide⟩, hcat⟩ (by decide +kernel) (by intro v hv; simp only [List.mem_cons, List.not_mem_nil, or_false] at hv; rcases hv with rfl | rfl <;> intro x hx <;> cases hx) d hq k rfl
abbrev g_X10_action : Gx := (yX10_action, cX10_action, 4, (Option.some FieldType.int), 8)
def f_X10_action_23 (l0 : Nat) (h : Hp) : Option (Int32 × Hp) :=
  (ck h l0 10
(bd (f_X10_fails l0 (-2 : Int32) h) fun v3 h4 =>
(some (v3, h4))))
set_option maxRecDepth 20000 in
theorem t_X10_action_23 (l0 : Nat) (h : Hp) : Sm rvI g_X10_action 23 [.ref l0, .null, .null, .null] [] h (f_X10_action_23 l0 h) := by
  unfold f_X10_action_23
  refine Sm.aload_n dX10_action_23 rfl rfl rfl ?_
  refine Sm.bipush dX10_action_24 bp_m2 rfl ?_
  refine Sm.ck (fun o2 => ?_)
  refine kc_X10_106 o2 dX10_action_26 rfl (Nat.le_of_ble_eq_true rfl) (Nat.le_of_ble_eq_true rfl) rfl (fun v3 h4 => ?_)
  exact Sm.ret dX10_action_29 trivial rfl
def f_X10_action (l0 : Nat) (l1 : Int32) (l2 : Int32) (l3 : Int32) (h : Hp) : Option (Int32 × Hp) :=
  (if l3 < (-1 : Int32) then
(f_X10_action_23 l0 h)
else
(ck h l0 10
(bd (f_X10_hasRow l0 l1 l2 h) fun v6 h7 =>
(if v6 = 0 then
(f_X10_action_23 l0 h7)
else
(ck h7 l0 10
(bd (f_X10_actionAt l0 l2 l3 h7) fun v10 h11 =>
(some (v10, h11))))))))
set_option maxRecDepth 20000 in
theorem t_X10_action (l0 : Nat) (l1 : Int32) (l2 : Int32) (l3 : Int32) (h : Hp) : Sm rvI g_X10_action 0 (ent 4 [.ref l0, .int l1, .int l2, .int l3]) [] h (f_X10_action l0 l1 l2 l3 h) := by
  show Sm rvI g_X10_action 0 [.ref l0, .int l1, .int l2, .int l3] [] h _
  unfold f_X10_action
  refine Sm.iload_n dX10_action_0 rfl rfl rfl ?_
  refine Sm.iconst dX10_action_1 ic_m1 rfl ?_
  refine Sm.icmp_lt (t := 23) dX10_action_2 (by decide) rfl (fun b1 => ?_) (fun b1 => ?_)
  · exact Sm.wk (t_X10_action_23 l0 h) ⟨Or.inr rfl, Or.inl rfl, Or.inl rfl, Or.inl rfl, trivial⟩
  · refine Sm.aload_n dX10_action_5 rfl rfl rfl ?_
    refine Sm.iload_n dX10_action_6 rfl rfl rfl ?_
    refine Sm.iload_n dX10_action_7 rfl rfl rfl ?_
    refine Sm.ck (fun o5 => ?_)
    refine kc_X10_315 o5 dX10_action_8 rfl (Nat.le_of_ble_eq_true rfl) (Nat.le_of_ble_eq_true rfl) rfl (fun v6 h7 => ?_)
    refine Sm.if_eq (t := 23) dX10_action_11 (by decide) rfl (fun b8 => ?_) (fun b8 => ?_)
    · exact Sm.wk (t_X10_action_23 l0 h7) ⟨Or.inr rfl, Or.inl rfl, Or.inl rfl, Or.inl rfl, trivial⟩
    · refine Sm.aload_n dX10_action_14 rfl rfl rfl ?_
      refine Sm.iload_n dX10_action_15 rfl rfl rfl ?_
      refine Sm.iload_n dX10_action_16 rfl rfl rfl ?_
      refine Sm.ck (fun o9 => ?_)
      refine kc_X10_325 o9 dX10_action_17 rfl (Nat.le_of_ble_eq_true rfl) (Nat.le_of_ble_eq_true rfl) rfl (fun v10 h11 => ?_)
      refine Sm.goto (t := 29) dX10_action_20 (by decide) ?_
      exact Sm.ret dX10_action_29 trivial rfl
set_option maxRecDepth 20000 in
theorem kc_L_107 {ρ : Type} {rv : ρ → Option Value} {G : Gx} {pc q : Nat} {lv st : List Value} {h : Hp} {a : Nat} {x1 : Int32} {x2 : Int32} {x3 : Int32} {e : Int32 → Hp → Option (ρ × Hp)} (hk : isO h a 10) (d : decode G.2.1 pc = .ok (.invokevirtual 107, 3)) (ho : G.1.cls = RL) (hdep : (g_X10_action).2.2.2.2 < G.2.2.2.2) (hcat : catS st ≤ 8) (hq : pc + 3 = q) (k : ∀ r h1, Sm rv G q lv (.int r :: st) h1 (e r h1)) : Sm rv G pc lv (.int x3 :: .int x2 :: .int x1 :: .ref a :: st) h (bd (f_X10_action a x1 x2 x3 h) e) :=
  Sm.callV (rv' := rvI) (args := [.int x1, .int x2, .int x3]) (n := 3) (t_X10_action a x1 x2 x3 h) hk (by decide) (r := (RX10, TX10, 43)) rfl rfl ho mw_1329 mw_1330 mw_1331 mw_11 mw_1332 ⟨⟨by decide, rfl, hdep, Nat.le_of_ble_eq_true rfl⟩, Nat.le_of_ble_eq_true rfl, rfl, ⟨by decide, by decide⟩, hcat⟩ (by decide +kernel) (by intro v hv; simp only [List.mem_cons, List.not_mem_nil, or_false] at hv; rcases hv with rfl | rfl | rfl <;> intro x hx <;> cases hx) d hq k rfl
abbrev g_X10_hitOf : Gx := (yX10_hitOf, cX10_hitOf, 6, (Option.some FieldType.int), 2)
def f_X10_hitOf_15 (k2 : (Int32 × Hp) → Option (Int32 × Hp)) (k15 : (Int32 × Int32 × Hp) → Option (Int32 × Hp)) (l0 : Nat) (l1 : Int32) (l2 : Int32) (l3 : Int32) (l4 : Int32) (h : Hp) : Option (Int32 × Hp) :=
  (if (3 : Int32) ≤ l4 then
(if l3 = 0 then
(nm (l2 + (1 : Int32)) fun v5 =>
(k2 (v5, h)))
else
(some (l2, h)))
else
(ck h l0 10
((gP h l0 37).bind fun v7 =>
(ca h v7 20 l2
(bd (f_X10_demandOf (gI h v7 l2.toNatClampNeg) l4 h) fun v9 h10 =>
(if l3 = 0 then
(nm (l4 + (1 : Int32)) fun v12 =>
(k15 ((0 : Int32), v12, h10)))
else
(if v9 = (4 : Int32) then
(nm (l4 + (1 : Int32)) fun v14 =>
(k15 ((1 : Int32), v14, h10)))
else
(bd (f_X10_valueOf l1 l4 h10) fun v15 h16 =>
(if v9 = v15 then
(nm (l4 + (1 : Int32)) fun v18 =>
(k15 ((1 : Int32), v18, h16)))
else
(nm (l4 + (1 : Int32)) fun v19 =>
(k15 ((0 : Int32), v19, h16))))))))))))
set_option maxRecDepth 20000 in
theorem t_X10_hitOf_15 (l0 : Nat) (l1 : Int32) (l2 : Int32) (l3 : Int32) (l4 : Int32) (h : Hp) (k2 : (Int32 × Hp) → Option (Int32 × Hp)) (hk2 : ∀ s : Int32 × Hp, Sm rvI g_X10_hitOf 2 [.ref l0, .int l1, .int s.1, .null, .null, .null] [] s.2 (k2 s)) (k15 : (Int32 × Int32 × Hp) → Option (Int32 × Hp)) (hk15 : ∀ s : Int32 × Int32 × Hp, Sm rvI g_X10_hitOf 15 [.ref l0, .int l1, .int l2, .int s.1, .int s.2.1, .null] [] s.2.2 (k15 s)) : Sm rvI g_X10_hitOf 15 [.ref l0, .int l1, .int l2, .int l3, .int l4, .null] [] h (f_X10_hitOf_15 k2 k15 l0 l1 l2 l3 l4 h) := by
  unfold f_X10_hitOf_15
  refine Sm.iload dX10_hitOf_15 rfl rfl ?_
  refine Sm.iconst dX10_hitOf_17 ic_3 rfl ?_
  refine Sm.icmp_ge (t := 67) dX10_hitOf_18 (by decide) rfl (fun b3 => ?_) (fun b3 => ?_)
  · refine Sm.iload_n dX10_hitOf_67 rfl rfl rfl ?_
    refine Sm.if_eq (t := 73) dX10_hitOf_68 (by decide) rfl (fun b4 => ?_) (fun b4 => ?_)
    · refine Sm.iinc (lv' := [.ref l0, .int l1, .int (l2 + (1 : Int32)), .int l3, .int l4, .null]) dX10_hitOf_73 rfl ic_1 rfl rfl ?_
      refine Sm.nm (LV := fun v5 => [.ref l0, .int l1, .int v5, .int l3, .int l4, .null]) (ST := fun v5 => []) (fun v5 => ?_)
      refine Sm.goto (t := 2) dX10_hitOf_76 (by decide) ?_
      exact Sm.wk (hk2 (v5, h)) ⟨Or.inr rfl, Or.inr rfl, Or.inr rfl, Or.inl rfl, Or.inl rfl, Or.inl rfl, trivial⟩
    · refine Sm.iload_n dX10_hitOf_71 rfl rfl rfl ?_
      exact Sm.ret dX10_hitOf_72 trivial rfl
  · refine Sm.aload_n dX10_hitOf_21 rfl rfl rfl ?_
    refine Sm.ck (fun o6 => ?_)
    refine gf_X10_86 o6 dX10_hitOf_22 rfl rfl (fun v7 => ?_)
    refine Sm.iload_n dX10_hitOf_25 rfl rfl rfl ?_
    refine Sm.ca (fun q8 => ?_)
    refine Sm.iald q8 dX10_hitOf_26 rfl ?_
    refine Sm.iload dX10_hitOf_27 rfl rfl ?_
    refine kc_X10_319 dX10_hitOf_29 rfl (Nat.le_of_ble_eq_true rfl) (Nat.le_of_ble_eq_true rfl) rfl (fun v9 h10 => ?_)
    refine Sm.istore (lv' := [.ref l0, .int l1, .int l2, .int l3, .int l4, .int v9]) dX10_hitOf_32 (Nat.le_of_ble_eq_true rfl) rfl rfl ?_
    refine Sm.iload_n dX10_hitOf_34 rfl rfl rfl ?_
    refine Sm.if_eq (t := 59) dX10_hitOf_35 (by decide) rfl (fun b11 => ?_) (fun b11 => ?_)
    · refine Sm.iconst dX10_hitOf_59 ic_0 rfl ?_
      refine Sm.istore_n (lv' := [.ref l0, .int l1, .int l2, .int (0 : Int32), .int l4, .int v9]) dX10_hitOf_60 rfl (Nat.le_of_ble_eq_true rfl) rfl rfl ?_
      refine Sm.iinc (lv' := [.ref l0, .int l1, .int l2, .int (0 : Int32), .int (l4 + (1 : Int32)), .int v9]) dX10_hitOf_61 rfl ic_1 rfl rfl ?_
      refine Sm.nm (LV := fun v12 => [.ref l0, .int l1, .int l2, .int (0 : Int32), .int v12, .int v9]) (ST := fun v12 => []) (fun v12 => ?_)
      refine Sm.goto (t := 15) dX10_hitOf_64 (by decide) ?_
      exact Sm.wk (hk15 ((0 : Int32), v12, h10)) ⟨Or.inr rfl, Or.inr rfl, Or.inr rfl, Or.inr rfl, Or.inr rfl, Or.inl rfl, trivial⟩
    · refine Sm.iload dX10_hitOf_38 rfl rfl ?_
      refine Sm.iconst dX10_hitOf_40 ic_4 rfl ?_
      refine Sm.icmp_eq (t := 55) dX10_hitOf_41 (by decide) rfl (fun b13 => ?_) (fun b13 => ?_)
      · refine Sm.iconst dX10_hitOf_55 ic_1 rfl ?_
        refine Sm.goto (t := 60) dX10_hitOf_56 (by decide) ?_
        refine Sm.istore_n (lv' := [.ref l0, .int l1, .int l2, .int (1 : Int32), .int l4, .int v9]) dX10_hitOf_60 rfl (Nat.le_of_ble_eq_true rfl) rfl rfl ?_
        refine Sm.iinc (lv' := [.ref l0, .int l1, .int l2, .int (1 : Int32), .int (l4 + (1 : Int32)), .int v9]) dX10_hitOf_61 rfl ic_1 rfl rfl ?_
        refine Sm.nm (LV := fun v14 => [.ref l0, .int l1, .int l2, .int (1 : Int32), .int v14, .int v9]) (ST := fun v14 => []) (fun v14 => ?_)
        refine Sm.goto (t := 15) dX10_hitOf_64 (by decide) ?_
        exact Sm.wk (hk15 ((1 : Int32), v14, h10)) ⟨Or.inr rfl, Or.inr rfl, Or.inr rfl, Or.inr rfl, Or.inr rfl, Or.inl rfl, trivial⟩
      · refine Sm.iload dX10_hitOf_44 rfl rfl ?_
        refine Sm.iload_n dX10_hitOf_46 rfl rfl rfl ?_
        refine Sm.iload dX10_hitOf_47 rfl rfl ?_
        refine kc_X10_216 dX10_hitOf_49 rfl (Nat.le_of_ble_eq_true rfl) (Nat.le_of_ble_eq_true rfl) rfl (fun v15 h16 => ?_)
        refine Sm.icmp_ne (t := 59) dX10_hitOf_52 (by decide) rfl (fun b17 => ?_) (fun b17 => ?_)
        · refine Sm.iconst dX10_hitOf_55 ic_1 rfl ?_
          refine Sm.goto (t := 60) dX10_hitOf_56 (by decide) ?_
          refine Sm.istore_n (lv' := [.ref l0, .int l1, .int l2, .int (1 : Int32), .int l4, .int v9]) dX10_hitOf_60 rfl (Nat.le_of_ble_eq_true rfl) rfl rfl ?_
          refine Sm.iinc (lv' := [.ref l0, .int l1, .int l2, .int (1 : Int32), .int (l4 + (1 : Int32)), .int v9]) dX10_hitOf_61 rfl ic_1 rfl rfl ?_
          refine Sm.nm (LV := fun v18 => [.ref l0, .int l1, .int l2, .int (1 : Int32), .int v18, .int v9]) (ST := fun v18 => []) (fun v18 => ?_)
          refine Sm.goto (t := 15) dX10_hitOf_64 (by decide) ?_
          exact Sm.wk (hk15 ((1 : Int32), v18, h16)) ⟨Or.inr rfl, Or.inr rfl, Or.inr rfl, Or.inr rfl, Or.inr rfl, Or.inl rfl, trivial⟩
        · refine Sm.iconst dX10_hitOf_59 ic_0 rfl ?_
          refine Sm.istore_n (lv' := [.ref l0, .int l1, .int l2, .int (0 : Int32), .int l4, .int v9]) dX10_hitOf_60 rfl (Nat.le_of_ble_eq_true rfl) rfl rfl ?_
          refine Sm.iinc (lv' := [.ref l0, .int l1, .int l2, .int (0 : Int32), .int (l4 + (1 : Int32)), .int v9]) dX10_hitOf_61 rfl ic_1 rfl rfl ?_
          refine Sm.nm (LV := fun v19 => [.ref l0, .int l1, .int l2, .int (0 : Int32), .int v19, .int v9]) (ST := fun v19 => []) (fun v19 => ?_)
          refine Sm.goto (t := 15) dX10_hitOf_64 (by decide) ?_
          exact Sm.wk (hk15 ((0 : Int32), v19, h16)) ⟨Or.inr rfl, Or.inr rfl, Or.inr rfl, Or.inr rfl, Or.inr rfl, Or.inl rfl, trivial⟩
def f_X10_hitOf_2 (k2 : (Int32 × Hp) → Option (Int32 × Hp)) (l0 : Nat) (l1 : Int32) (l2 : Int32) (h : Hp) : Option (Int32 × Hp) :=
  (ck h l0 10
(if (gI h l0 39) ≤ l2 then
(some ((-1 : Int32), h))
else
(loopN (fun k s => f_X10_hitOf_15 k2 k l0 l1 l2 s.1 s.2.1 s.2.2) 5000 ((1 : Int32), (0 : Int32), h))))
set_option maxRecDepth 20000 in
theorem t_X10_hitOf_2 (l0 : Nat) (l1 : Int32) (l2 : Int32) (h : Hp) (k2 : (Int32 × Hp) → Option (Int32 × Hp)) (hk2 : ∀ s : Int32 × Hp, Sm rvI g_X10_hitOf 2 [.ref l0, .int l1, .int s.1, .null, .null, .null] [] s.2 (k2 s)) : Sm rvI g_X10_hitOf 2 [.ref l0, .int l1, .int l2, .null, .null, .null] [] h (f_X10_hitOf_2 k2 l0 l1 l2 h) := by
  unfold f_X10_hitOf_2
  refine Sm.iload_n dX10_hitOf_2 rfl rfl rfl ?_
  refine Sm.aload_n dX10_hitOf_3 rfl rfl rfl ?_
  refine Sm.ck (fun o1 => ?_)
  refine gf_X10_303 o1 dX10_hitOf_4 rfl rfl ?_
  refine Sm.icmp_ge (t := 79) dX10_hitOf_7 (by decide) rfl (fun b2 => ?_) (fun b2 => ?_)
  · refine Sm.iconst dX10_hitOf_79 ic_m1 rfl ?_
    exact Sm.ret dX10_hitOf_80 trivial rfl
  · refine Sm.iconst dX10_hitOf_10 ic_1 rfl ?_
    refine Sm.istore_n (lv' := [.ref l0, .int l1, .int l2, .int (1 : Int32), .null, .null]) dX10_hitOf_11 rfl (Nat.le_of_ble_eq_true rfl) rfl rfl ?_
    refine Sm.iconst dX10_hitOf_12 ic_0 rfl ?_
    refine Sm.istore (lv' := [.ref l0, .int l1, .int l2, .int (1 : Int32), .int (0 : Int32), .null]) dX10_hitOf_13 (Nat.le_of_ble_eq_true rfl) rfl rfl ?_
    exact Sm.wk (Sm.loop (σ := Int32 × Int32 × Hp) (LV := fun s => [.ref l0, .int l1, .int l2, .int s.1, .int s.2.1, .null]) (HH := fun s => s.2.2) (fun k hk s => t_X10_hitOf_15 l0 l1 l2 s.1 s.2.1 s.2.2 k2 hk2 k hk) 5000 ((1 : Int32), (0 : Int32), h)) ⟨Or.inr rfl, Or.inr rfl, Or.inr rfl, Or.inr rfl, Or.inr rfl, Or.inl rfl, trivial⟩
def f_X10_hitOf (l0 : Nat) (l1 : Int32) (h : Hp) : Option (Int32 × Hp) :=
  (loopN (fun k s => f_X10_hitOf_2 k l0 l1 s.1 s.2) 5000 ((0 : Int32), h))
set_option maxRecDepth 20000 in
theorem t_X10_hitOf (l0 : Nat) (l1 : Int32) (h : Hp) : Sm rvI g_X10_hitOf 0 (ent 6 [.ref l0, .int l1]) [] h (f_X10_hitOf l0 l1 h) := by
  show Sm rvI g_X10_hitOf 0 [.ref l0, .int l1, .null, .null, .null, .null] [] h _
  unfold f_X10_hitOf
  refine Sm.iconst dX10_hitOf_0 ic_0 rfl ?_
  refine Sm.istore_n (lv' := [.ref l0, .int l1, .int (0 : Int32), .null, .null, .null]) dX10_hitOf_1 rfl (Nat.le_of_ble_eq_true rfl) rfl rfl ?_
  exact Sm.wk (Sm.loop (σ := Int32 × Hp) (LV := fun s => [.ref l0, .int l1, .int s.1, .null, .null, .null]) (HH := fun s => s.2) (fun k hk s => t_X10_hitOf_2 l0 l1 s.1 s.2 k hk) 5000 ((0 : Int32), h)) ⟨Or.inr rfl, Or.inr rfl, Or.inr rfl, Or.inl rfl, Or.inl rfl, Or.inl rfl, trivial⟩
set_option maxRecDepth 20000 in
theorem kc_X10_328 {ρ : Type} {rv : ρ → Option Value} {G : Gx} {pc q : Nat} {lv st : List Value} {h : Hp} {a : Nat} {x1 : Int32} {e : Int32 → Hp → Option (ρ × Hp)} (hk : isO h a 10) (d : decode G.2.1 pc = .ok (.invokevirtual 328, 3)) (ho : G.1.cls = RX10) (hdep : (g_X10_hitOf).2.2.2.2 < G.2.2.2.2) (hcat : catS st ≤ 8) (hq : pc + 3 = q) (k : ∀ r h1, Sm rv G q lv (.int r :: st) h1 (e r h1)) : Sm rv G pc lv (.int x1 :: .ref a :: st) h (bd (f_X10_hitOf a x1 h) e) :=
  Sm.callV (rv' := rvI) (args := [.int x1]) (n := 1) (t_X10_hitOf a x1 h) hk (by decide) (r := (RX10, TX10, 43)) rfl rfl ho mw_1345 mw_1347 mp_100 mw_11 mw_1348 ⟨⟨by decide, rfl, hdep, Nat.le_of_ble_eq_true rfl⟩, Nat.le_of_ble_eq_true rfl, rfl, ⟨by decide, by decide⟩, hcat⟩ (by decide +kernel) (by intro v hv; simp only [List.mem_cons, List.not_mem_nil, or_false] at hv; rcases hv with rfl <;> intro x hx <;> cases hx) d hq k rfl
abbrev g_X10_hit : Gx := (yX10_hit, cX10_hit, 3, (Option.some FieldType.int), 7)
def f_X10_hit_14 (l0 : Nat) (h : Hp) : Option (Int32 × Hp) :=
  (ck h l0 10
(bd (f_X10_fails l0 (-2 : Int32) h) fun v5 h6 =>
(some (v5, h6))))
set_option maxRecDepth 20000 in
theorem t_X10_hit_14 (l0 : Nat) (h : Hp) : Sm rvI g_X10_hit 14 [.ref l0, .null, .null] [] h (f_X10_hit_14 l0 h) := by
  unfold f_X10_hit_14
  refine Sm.aload_n dX10_hit_14 rfl rfl rfl ?_
  refine Sm.bipush dX10_hit_15 bp_m2 rfl ?_
  refine Sm.ck (fun o4 => ?_)
  refine kc_X10_106 o4 dX10_hit_17 rfl (Nat.le_of_ble_eq_true rfl) (Nat.le_of_ble_eq_true rfl) rfl (fun v5 h6 => ?_)
  exact Sm.ret dX10_hit_20 trivial rfl
def f_X10_hit (l0 : Nat) (l1 : Int32) (l2 : Int32) (h : Hp) : Option (Int32 × Hp) :=
  (bd (f_X10_isSlot l1 h) fun v1 h2 =>
(if v1 = 0 then
(f_X10_hit_14 l0 h2)
else
(bd (f_X10_isPacket l2 h2) fun v7 h8 =>
(if v7 = 0 then
(f_X10_hit_14 l0 h8)
else
(ck h8 l0 10
(bd (f_X10_tabulates l0 l1 h8) fun _ h11 =>
(ck h11 l0 10
(bd (f_X10_hitOf l0 l2 h11) fun v13 h14 =>
(some (v13, h14))))))))))
set_option maxRecDepth 20000 in
theorem t_X10_hit (l0 : Nat) (l1 : Int32) (l2 : Int32) (h : Hp) : Sm rvI g_X10_hit 0 (ent 3 [.ref l0, .int l1, .int l2]) [] h (f_X10_hit l0 l1 l2 h) := by
  show Sm rvI g_X10_hit 0 [.ref l0, .int l1, .int l2] [] h _
  unfold f_X10_hit
  refine Sm.iload_n dX10_hit_0 rfl rfl rfl ?_
  refine kc_X10_179 dX10_hit_1 rfl (Nat.le_of_ble_eq_true rfl) (Nat.le_of_ble_eq_true rfl) rfl (fun v1 h2 => ?_)
  refine Sm.if_eq (t := 14) dX10_hit_4 (by decide) rfl (fun b3 => ?_) (fun b3 => ?_)
  · exact Sm.wk (t_X10_hit_14 l0 h2) ⟨Or.inr rfl, Or.inl rfl, Or.inl rfl, trivial⟩
  · refine Sm.iload_n dX10_hit_7 rfl rfl rfl ?_
    refine kc_X10_238 dX10_hit_8 rfl (Nat.le_of_ble_eq_true rfl) (Nat.le_of_ble_eq_true rfl) rfl (fun v7 h8 => ?_)
    refine Sm.if_ne (t := 21) dX10_hit_11 (by decide) rfl (fun b9 => ?_) (fun b9 => ?_)
    · exact Sm.wk (t_X10_hit_14 l0 h8) ⟨Or.inr rfl, Or.inl rfl, Or.inl rfl, trivial⟩
    · refine Sm.aload_n dX10_hit_21 rfl rfl rfl ?_
      refine Sm.iload_n dX10_hit_22 rfl rfl rfl ?_
      refine Sm.ck (fun o10 => ?_)
      refine kc_X10_312 o10 dX10_hit_23 rfl (Nat.le_of_ble_eq_true rfl) (Nat.le_of_ble_eq_true rfl) rfl (fun _ h11 => ?_)
      refine Sm.aload_n dX10_hit_26 rfl rfl rfl ?_
      refine Sm.iload_n dX10_hit_27 rfl rfl rfl ?_
      refine Sm.ck (fun o12 => ?_)
      refine kc_X10_328 o12 dX10_hit_28 rfl (Nat.le_of_ble_eq_true rfl) (Nat.le_of_ble_eq_true rfl) rfl (fun v13 h14 => ?_)
      exact Sm.ret dX10_hit_31 trivial rfl
set_option maxRecDepth 20000 in
theorem kc_L_111 {ρ : Type} {rv : ρ → Option Value} {G : Gx} {pc q : Nat} {lv st : List Value} {h : Hp} {a : Nat} {x1 : Int32} {x2 : Int32} {e : Int32 → Hp → Option (ρ × Hp)} (hk : isO h a 10) (d : decode G.2.1 pc = .ok (.invokevirtual 111, 3)) (ho : G.1.cls = RL) (hdep : (g_X10_hit).2.2.2.2 < G.2.2.2.2) (hcat : catS st ≤ 8) (hq : pc + 3 = q) (k : ∀ r h1, Sm rv G q lv (.int r :: st) h1 (e r h1)) : Sm rv G pc lv (.int x2 :: .int x1 :: .ref a :: st) h (bd (f_X10_hit a x1 x2 h) e) :=
  Sm.callV (rv' := rvI) (args := [.int x1, .int x2]) (n := 2) (t_X10_hit a x1 x2 h) hk (by decide) (r := (RX10, TX10, 43)) rfl rfl ho mw_1341 mw_1342 mw_1343 mw_11 mw_1344 ⟨⟨by decide, rfl, hdep, Nat.le_of_ble_eq_true rfl⟩, Nat.le_of_ble_eq_true rfl, rfl, ⟨by decide, by decide⟩, hcat⟩ (by decide +kernel) (by intro v hv; simp only [List.mem_cons, List.not_mem_nil, or_false] at hv; rcases hv with rfl | rfl <;> intro x hx <;> cases hx) d hq k rfl
abbrev g_X10_hits : Gx := (yX10_hits, cX10_hits, 5, (Option.some FieldType.int), 8)
def f_X10_hits_21 (k21 : (Int32 × Int32 × Hp) → Option (Int32 × Hp)) (l0 : Nat) (l2 : Int32) (l3 : Int32) (l4 : Int32) (h : Hp) : Option (Int32 × Hp) :=
  (if (64 : Int32) ≤ l4 then
(some (l3, h))
else
(ck h l0 10
(bd (f_X10_hitOf l0 l4 h) fun v10 h11 =>
(if v10 = l2 then
(nm (l3 + (1 : Int32)) fun v13 =>
(nm (l4 + (1 : Int32)) fun v14 =>
(k21 (v13, v14, h11))))
else
(nm (l3 + (0 : Int32)) fun v15 =>
(nm (l4 + (1 : Int32)) fun v16 =>
(k21 (v15, v16, h11))))))))
set_option maxRecDepth 20000 in
theorem t_X10_hits_21 (l0 : Nat) (l2 : Int32) (l3 : Int32) (l4 : Int32) (h : Hp) (k21 : (Int32 × Int32 × Hp) → Option (Int32 × Hp)) (hk21 : ∀ s : Int32 × Int32 × Hp, Sm rvI g_X10_hits 21 [.ref l0, .null, .int l2, .int s.1, .int s.2.1] [] s.2.2 (k21 s)) : Sm rvI g_X10_hits 21 [.ref l0, .null, .int l2, .int l3, .int l4] [] h (f_X10_hits_21 k21 l0 l2 l3 l4 h) := by
  unfold f_X10_hits_21
  refine Sm.iload dX10_hits_21 rfl rfl ?_
  refine Sm.bipush dX10_hits_23 bp_64 rfl ?_
  refine Sm.icmp_ge (t := 52) dX10_hits_25 (by decide) rfl (fun b8 => ?_) (fun b8 => ?_)
  · refine Sm.iload_n dX10_hits_52 rfl rfl rfl ?_
    exact Sm.ret dX10_hits_53 trivial rfl
  · refine Sm.iload_n dX10_hits_28 rfl rfl rfl ?_
    refine Sm.aload_n dX10_hits_29 rfl rfl rfl ?_
    refine Sm.iload dX10_hits_30 rfl rfl ?_
    refine Sm.ck (fun o9 => ?_)
    refine kc_X10_328 o9 dX10_hits_32 rfl (Nat.le_of_ble_eq_true rfl) (Nat.le_of_ble_eq_true rfl) rfl (fun v10 h11 => ?_)
    refine Sm.iload_n dX10_hits_35 rfl rfl rfl ?_
    refine Sm.icmp_ne (t := 43) dX10_hits_36 (by decide) rfl (fun b12 => ?_) (fun b12 => ?_)
    · refine Sm.iconst dX10_hits_39 ic_1 rfl ?_
      refine Sm.goto (t := 44) dX10_hits_40 (by decide) ?_
      refine Sm.iadd dX10_hits_44 rfl ?_
      refine Sm.nm (LV := fun v13 => [.ref l0, .null, .int l2, .int l3, .int l4]) (ST := fun v13 => [.int v13]) (fun v13 => ?_)
      refine Sm.istore_n (lv' := [.ref l0, .null, .int l2, .int v13, .int l4]) dX10_hits_45 rfl (Nat.le_of_ble_eq_true rfl) rfl rfl ?_
      refine Sm.iinc (lv' := [.ref l0, .null, .int l2, .int v13, .int (l4 + (1 : Int32))]) dX10_hits_46 rfl ic_1 rfl rfl ?_
      refine Sm.nm (LV := fun v14 => [.ref l0, .null, .int l2, .int v13, .int v14]) (ST := fun v14 => []) (fun v14 => ?_)
      refine Sm.goto (t := 21) dX10_hits_49 (by decide) ?_
      exact Sm.wk (hk21 (v13, v14, h11)) ⟨Or.inr rfl, Or.inl rfl, Or.inr rfl, Or.inr rfl, Or.inr rfl, trivial⟩
    · refine Sm.iconst dX10_hits_43 ic_0 rfl ?_
      refine Sm.iadd dX10_hits_44 rfl ?_
      refine Sm.nm (LV := fun v15 => [.ref l0, .null, .int l2, .int l3, .int l4]) (ST := fun v15 => [.int v15]) (fun v15 => ?_)
      refine Sm.istore_n (lv' := [.ref l0, .null, .int l2, .int v15, .int l4]) dX10_hits_45 rfl (Nat.le_of_ble_eq_true rfl) rfl rfl ?_
      refine Sm.iinc (lv' := [.ref l0, .null, .int l2, .int v15, .int (l4 + (1 : Int32))]) dX10_hits_46 rfl ic_1 rfl rfl ?_
      refine Sm.nm (LV := fun v16 => [.ref l0, .null, .int l2, .int v15, .int v16]) (ST := fun v16 => []) (fun v16 => ?_)
      refine Sm.goto (t := 21) dX10_hits_49 (by decide) ?_
      exact Sm.wk (hk21 (v15, v16, h11)) ⟨Or.inr rfl, Or.inl rfl, Or.inr rfl, Or.inr rfl, Or.inr rfl, trivial⟩
def f_X10_hits (l0 : Nat) (l1 : Int32) (l2 : Int32) (h : Hp) : Option (Int32 × Hp) :=
  (ck h l0 10
(bd (f_X10_hasRow l0 l1 l2 h) fun v2 h3 =>
(if v2 = 0 then
(ck h3 l0 10
(bd (f_X10_fails l0 (-2 : Int32) h3) fun v6 h7 =>
(some (v6, h7))))
else
(loopN (fun k s => f_X10_hits_21 k l0 l2 s.1 s.2.1 s.2.2) 5000 ((0 : Int32), (0 : Int32), h3)))))
set_option maxRecDepth 20000 in
theorem t_X10_hits (l0 : Nat) (l1 : Int32) (l2 : Int32) (h : Hp) : Sm rvI g_X10_hits 0 (ent 5 [.ref l0, .int l1, .int l2]) [] h (f_X10_hits l0 l1 l2 h) := by
  show Sm rvI g_X10_hits 0 [.ref l0, .int l1, .int l2, .null, .null] [] h _
  unfold f_X10_hits
  refine Sm.aload_n dX10_hits_0 rfl rfl rfl ?_
  refine Sm.iload_n dX10_hits_1 rfl rfl rfl ?_
  refine Sm.iload_n dX10_hits_2 rfl rfl rfl ?_
  refine Sm.ck (fun o1 => ?_)
  refine kc_X10_315 o1 dX10_hits_3 rfl (Nat.le_of_ble_eq_true rfl) (Nat.le_of_ble_eq_true rfl) rfl (fun v2 h3 => ?_)
  refine Sm.if_ne (t := 16) dX10_hits_6 (by decide) rfl (fun b4 => ?_) (fun b4 => ?_)
  · refine Sm.aload_n dX10_hits_9 rfl rfl rfl ?_
    refine Sm.bipush dX10_hits_10 bp_m2 rfl ?_
    refine Sm.ck (fun o5 => ?_)
    refine kc_X10_106 o5 dX10_hits_12 rfl (Nat.le_of_ble_eq_true rfl) (Nat.le_of_ble_eq_true rfl) rfl (fun v6 h7 => ?_)
    exact Sm.ret dX10_hits_15 trivial rfl
  · refine Sm.iconst dX10_hits_16 ic_0 rfl ?_
    refine Sm.istore_n (lv' := [.ref l0, .int l1, .int l2, .int (0 : Int32), .null]) dX10_hits_17 rfl (Nat.le_of_ble_eq_true rfl) rfl rfl ?_
    refine Sm.iconst dX10_hits_18 ic_0 rfl ?_
    refine Sm.istore (lv' := [.ref l0, .int l1, .int l2, .int (0 : Int32), .int (0 : Int32)]) dX10_hits_19 (Nat.le_of_ble_eq_true rfl) rfl rfl ?_
    exact Sm.wk (Sm.loop (σ := Int32 × Int32 × Hp) (LV := fun s => [.ref l0, .null, .int l2, .int s.1, .int s.2.1]) (HH := fun s => s.2.2) (fun k hk s => t_X10_hits_21 l0 l2 s.1 s.2.1 s.2.2 k hk) 5000 ((0 : Int32), (0 : Int32), h3)) ⟨Or.inr rfl, Or.inl rfl, Or.inr rfl, Or.inr rfl, Or.inr rfl, trivial⟩
set_option maxRecDepth 20000 in
theorem kc_L_115 {ρ : Type} {rv : ρ → Option Value} {G : Gx} {pc q : Nat} {lv st : List Value} {h : Hp} {a : Nat} {x1 : Int32} {x2 : Int32} {e : Int32 → Hp → Option (ρ × Hp)} (hk : isO h a 10) (d : decode G.2.1 pc = .ok (.invokevirtual 115, 3)) (ho : G.1.cls = RL) (hdep : (g_X10_hits).2.2.2.2 < G.2.2.2.2) (hcat : catS st ≤ 8) (hq : pc + 3 = q) (k : ∀ r h1, Sm rv G q lv (.int r :: st) h1 (e r h1)) : Sm rv G pc lv (.int x2 :: .int x1 :: .ref a :: st) h (bd (f_X10_hits a x1 x2 h) e) :=
  Sm.callV (rv' := rvI) (args := [.int x1, .int x2]) (n := 2) (t_X10_hits a x1 x2 h) hk (by decide) (r := (RX10, TX10, 43)) rfl rfl ho mw_1349 mw_1350 mw_1351 mw_11 mw_1352 ⟨⟨by decide, rfl, hdep, Nat.le_of_ble_eq_true rfl⟩, Nat.le_of_ble_eq_true rfl, rfl, ⟨by decide, by decide⟩, hcat⟩ (by decide +kernel) (by intro v hv; simp only [List.mem_cons, List.not_mem_nil, or_false] at hv; rcases hv with rfl | rfl <;> intro x hx <;> cases hx) d hq k rfl
abbrev g_X10_errorCount : Gx := (yX10_errorCount, cX10_errorCount, 2, (Option.some FieldType.int), 1)
def f_X10_errorCount (l0 : Nat) (l1 : Int32) (h : Hp) : Option (Int32 × Hp) :=
  (bd (f_X10_within l1 (-6 : Int32) (-2 : Int32) h) fun v1 h2 =>
(if v1 = 0 then
(ck h2 l0 10
(bd (f_X10_fails l0 (-2 : Int32) h2) fun v5 h6 =>
(some (v5, h6))))
else
(ck h2 l0 10
((gP h2 l0 3).bind fun v8 =>
(ca h2 v8 20 ((-2 : Int32) - l1)
(some ((gI h2 v8 ((-2 : Int32) - l1).toNatClampNeg), h2)))))))
set_option maxRecDepth 20000 in
theorem t_X10_errorCount (l0 : Nat) (l1 : Int32) (h : Hp) : Sm rvI g_X10_errorCount 0 (ent 2 [.ref l0, .int l1]) [] h (f_X10_errorCount l0 l1 h) := by
  show Sm rvI g_X10_errorCount 0 [.ref l0, .int l1] [] h _
  unfold f_X10_errorCount
  refine Sm.iload_n dX10_errorCount_0 rfl rfl rfl ?_
  refine Sm.bipush dX10_errorCount_1 bp_m6 rfl ?_
  refine Sm.bipush dX10_errorCount_3 bp_m2 rfl ?_
  refine kc_X10_98 dX10_errorCount_5 rfl (Nat.le_of_ble_eq_true rfl) (Nat.le_of_ble_eq_true rfl) rfl (fun v1 h2 => ?_)
  refine Sm.if_eq (t := 23) dX10_errorCount_8 (by decide) rfl (fun b3 => ?_) (fun b3 => ?_)
  · refine Sm.aload_n dX10_errorCount_23 rfl rfl rfl ?_
    refine Sm.bipush dX10_errorCount_24 bp_m2 rfl ?_
    refine Sm.ck (fun o4 => ?_)
    refine kc_X10_106 o4 dX10_errorCount_26 rfl (Nat.le_of_ble_eq_true rfl) (Nat.le_of_ble_eq_true rfl) rfl (fun v5 h6 => ?_)
    exact Sm.ret dX10_errorCount_29 trivial rfl
  · refine Sm.aload_n dX10_errorCount_11 rfl rfl rfl ?_
    refine Sm.ck (fun o7 => ?_)
    refine gf_X10_16 o7 dX10_errorCount_12 rfl rfl (fun v8 => ?_)
    refine Sm.bipush dX10_errorCount_15 bp_m2 rfl ?_
    refine Sm.iload_n dX10_errorCount_17 rfl rfl rfl ?_
    refine Sm.isub dX10_errorCount_18 rfl ?_
    refine Sm.ca (fun q9 => ?_)
    refine Sm.iald q9 dX10_errorCount_19 rfl ?_
    refine Sm.goto (t := 29) dX10_errorCount_20 (by decide) ?_
    exact Sm.ret dX10_errorCount_29 trivial rfl
set_option maxRecDepth 20000 in
theorem kc_L_123 {ρ : Type} {rv : ρ → Option Value} {G : Gx} {pc q : Nat} {lv st : List Value} {h : Hp} {a : Nat} {x1 : Int32} {e : Int32 → Hp → Option (ρ × Hp)} (hk : isO h a 10) (d : decode G.2.1 pc = .ok (.invokevirtual 123, 3)) (ho : G.1.cls = RL) (hdep : (g_X10_errorCount).2.2.2.2 < G.2.2.2.2) (hcat : catS st ≤ 8) (hq : pc + 3 = q) (k : ∀ r h1, Sm rv G q lv (.int r :: st) h1 (e r h1)) : Sm rv G pc lv (.int x1 :: .ref a :: st) h (bd (f_X10_errorCount a x1 h) e) :=
  Sm.callV (rv' := rvI) (args := [.int x1]) (n := 1) (t_X10_errorCount a x1 h) hk (by decide) (r := (RX10, TX10, 43)) rfl rfl ho mw_1353 mw_1354 mw_1355 mw_11 mw_1356 ⟨⟨by decide, rfl, hdep, Nat.le_of_ble_eq_true rfl⟩, Nat.le_of_ble_eq_true rfl, rfl, ⟨by decide, by decide⟩, hcat⟩ (by decide +kernel) (by intro v hv; simp only [List.mem_cons, List.not_mem_nil, or_false] at hv; rcases hv with rfl <;> intro x hx <;> cases hx) d hq k rfl
abbrev g_X10_mix : Gx := (yX10_mix, cX10_mix, 3, (Option.none : Option FieldType), 0)
def f_X10_mix (l0 : Nat) (l1 : Int64) (h : Hp) : Option (Unit × Hp) :=
  (ck h l0 10
(some ((), (sL h l0 42 (((31 : Int64) * (gL h l0 42)) + l1)))))
set_option maxRecDepth 20000 in
theorem t_X10_mix (l0 : Nat) (l1 : Int64) (h : Hp) : Sm rvV g_X10_mix 0 (ent 3 [.ref l0, .long l1]) [] h (f_X10_mix l0 l1 h) := by
  show Sm rvV g_X10_mix 0 [.ref l0, .long l1, .null] [] h _
  unfold f_X10_mix
  refine Sm.aload_n dX10_mix_0 rfl rfl rfl ?_
  refine Sm.ldc2 dX10_mix_1 mw_1366 rfl ?_
  refine Sm.aload_n dX10_mix_4 rfl rfl rfl ?_
  refine Sm.ck (fun o1 => ?_)
  refine gf_X10_333 o1 dX10_mix_5 rfl rfl ?_
  refine Sm.lmul dX10_mix_8 rfl ?_
  refine Sm.lload_n dX10_mix_9 rfl rfl rfl ?_
  refine Sm.ladd dX10_mix_10 rfl ?_
  refine pf_X10_333 o1 dX10_mix_11 rfl rfl ?_
  exact Sm.ret (r := ()) dX10_mix_14 trivial rfl
set_option maxRecDepth 20000 in
theorem kc_X10_337 {ρ : Type} {rv : ρ → Option Value} {G : Gx} {pc q : Nat} {lv st : List Value} {h : Hp} {a : Nat} {x1 : Int64} {e : Unit → Hp → Option (ρ × Hp)} (hk : isO h a 10) (d : decode G.2.1 pc = .ok (.invokevirtual 337, 3)) (ho : G.1.cls = RX10) (hdep : (g_X10_mix).2.2.2.2 < G.2.2.2.2) (hcat : catS st ≤ 8) (hq : pc + 3 = q) (k : ∀ r h1, Sm rv G q lv (st) h1 (e r h1)) : Sm rv G pc lv (.long x1 :: .ref a :: st) h (bd (f_X10_mix a x1 h) e) :=
  Sm.callV (rv' := rvV) (args := [.long x1]) (n := 1) (t_X10_mix a x1 h) hk (by decide) (r := (RX10, TX10, 43)) rfl rfl ho mw_1362 mw_1364 mp_101 mw_11 mw_1365 ⟨⟨by decide, rfl, hdep, Nat.le_of_ble_eq_true rfl⟩, Nat.le_of_ble_eq_true rfl, rfl, ⟨by decide, by decide⟩, hcat⟩ (by decide +kernel) (by intro v hv; simp only [List.mem_cons, List.not_mem_nil, or_false] at hv; rcases hv with rfl <;> intro x hx <;> cases hx) d hq k rfl
abbrev g_X10_mixSlot : Gx := (yX10_mixSlot, cX10_mixSlot, 4, (Option.none : Option FieldType), 7)
def f_X10_mixSlot_188 (k150 : (Int32 × Hp) → Option (Unit × Hp)) (k188 : (Int32 × Hp) → Option (Unit × Hp)) (l0 : Nat) (l2 : Int32) (l3 : Int32) (h : Hp) : Option (Unit × Hp) :=
  (if (125 : Int32) ≤ l3 then
(nm (l2 + (1 : Int32)) fun v61 =>
(k150 (v61, h)))
else
(ck h l0 10
(bd (f_X10_hasAction l0 l2 l3 h) fun v63 h64 =>
(if v63 = 0 then
(nm (l3 + (1 : Int32)) fun v66 =>
(k188 (v66, h64)))
else
(ck h64 l0 10
(bd (f_X10_mix l0 l3.toInt64 h64) fun _ h68 =>
(nm (l3 + (1 : Int32)) fun v69 =>
(k188 (v69, h68)))))))))
set_option maxRecDepth 20000 in
theorem t_X10_mixSlot_188 (l0 : Nat) (l2 : Int32) (l3 : Int32) (h : Hp) (k150 : (Int32 × Hp) → Option (Unit × Hp)) (hk150 : ∀ s : Int32 × Hp, Sm rvV g_X10_mixSlot 150 [.ref l0, .null, .int s.1, .null] [] s.2 (k150 s)) (k188 : (Int32 × Hp) → Option (Unit × Hp)) (hk188 : ∀ s : Int32 × Hp, Sm rvV g_X10_mixSlot 188 [.ref l0, .null, .int l2, .int s.1] [] s.2 (k188 s)) : Sm rvV g_X10_mixSlot 188 [.ref l0, .null, .int l2, .int l3] [] h (f_X10_mixSlot_188 k150 k188 l0 l2 l3 h) := by
  unfold f_X10_mixSlot_188
  refine Sm.iload_n dX10_mixSlot_188 rfl rfl rfl ?_
  refine Sm.bipush dX10_mixSlot_189 bp_125 rfl ?_
  refine Sm.icmp_ge (t := 215) dX10_mixSlot_191 (by decide) rfl (fun b60 => ?_) (fun b60 => ?_)
  · refine Sm.iinc (lv' := [.ref l0, .null, .int (l2 + (1 : Int32)), .int l3]) dX10_mixSlot_215 rfl ic_1 rfl rfl ?_
    refine Sm.nm (LV := fun v61 => [.ref l0, .null, .int v61, .int l3]) (ST := fun v61 => []) (fun v61 => ?_)
    refine Sm.goto (t := 150) dX10_mixSlot_218 (by decide) ?_
    exact Sm.wk (hk150 (v61, h)) ⟨Or.inr rfl, Or.inl rfl, Or.inr rfl, Or.inl rfl, trivial⟩
  · refine Sm.aload_n dX10_mixSlot_194 rfl rfl rfl ?_
    refine Sm.iload_n dX10_mixSlot_195 rfl rfl rfl ?_
    refine Sm.iload_n dX10_mixSlot_196 rfl rfl rfl ?_
    refine Sm.ck (fun o62 => ?_)
    refine kc_X10_322 o62 dX10_mixSlot_197 rfl (Nat.le_of_ble_eq_true rfl) (Nat.le_of_ble_eq_true rfl) rfl (fun v63 h64 => ?_)
    refine Sm.if_eq (t := 209) dX10_mixSlot_200 (by decide) rfl (fun b65 => ?_) (fun b65 => ?_)
    · refine Sm.iinc (lv' := [.ref l0, .null, .int l2, .int (l3 + (1 : Int32))]) dX10_mixSlot_209 rfl ic_1 rfl rfl ?_
      refine Sm.nm (LV := fun v66 => [.ref l0, .null, .int l2, .int v66]) (ST := fun v66 => []) (fun v66 => ?_)
      refine Sm.goto (t := 188) dX10_mixSlot_212 (by decide) ?_
      exact Sm.wk (hk188 (v66, h64)) ⟨Or.inr rfl, Or.inl rfl, Or.inr rfl, Or.inr rfl, trivial⟩
    · refine Sm.aload_n dX10_mixSlot_203 rfl rfl rfl ?_
      refine Sm.iload_n dX10_mixSlot_204 rfl rfl rfl ?_
      refine Sm.i2l dX10_mixSlot_205 rfl ?_
      refine Sm.ck (fun o67 => ?_)
      refine kc_X10_337 o67 dX10_mixSlot_206 rfl (Nat.le_of_ble_eq_true rfl) (Nat.le_of_ble_eq_true rfl) rfl (fun _ h68 => ?_)
      refine Sm.iinc (lv' := [.ref l0, .null, .int l2, .int (l3 + (1 : Int32))]) dX10_mixSlot_209 rfl ic_1 rfl rfl ?_
      refine Sm.nm (LV := fun v69 => [.ref l0, .null, .int l2, .int v69]) (ST := fun v69 => []) (fun v69 => ?_)
      refine Sm.goto (t := 188) dX10_mixSlot_212 (by decide) ?_
      exact Sm.wk (hk188 (v69, h68)) ⟨Or.inr rfl, Or.inl rfl, Or.inr rfl, Or.inr rfl, trivial⟩
def f_X10_mixSlot_160 (k150 : (Int32 × Hp) → Option (Unit × Hp)) (k160 : (Int32 × Hp) → Option (Unit × Hp)) (l0 : Nat) (l2 : Int32) (l3 : Int32) (h : Hp) : Option (Unit × Hp) :=
  (if (3 : Int32) ≤ l3 then
(loopN (fun k s => f_X10_mixSlot_188 k150 k l0 l2 s.1 s.2) 5000 ((0 : Int32), h))
else
(ck h l0 10
((gP h l0 37).bind fun v71 =>
(ca h v71 20 l2
(bd (f_X10_demandOf (gI h v71 l2.toNatClampNeg) l3 h) fun v73 h74 =>
(ck h74 l0 10
(bd (f_X10_mix l0 v73.toInt64 h74) fun _ h76 =>
(nm (l3 + (1 : Int32)) fun v77 =>
(k160 (v77, h76))))))))))
set_option maxRecDepth 20000 in
theorem t_X10_mixSlot_160 (l0 : Nat) (l2 : Int32) (l3 : Int32) (h : Hp) (k150 : (Int32 × Hp) → Option (Unit × Hp)) (hk150 : ∀ s : Int32 × Hp, Sm rvV g_X10_mixSlot 150 [.ref l0, .null, .int s.1, .null] [] s.2 (k150 s)) (k160 : (Int32 × Hp) → Option (Unit × Hp)) (hk160 : ∀ s : Int32 × Hp, Sm rvV g_X10_mixSlot 160 [.ref l0, .null, .int l2, .int s.1] [] s.2 (k160 s)) : Sm rvV g_X10_mixSlot 160 [.ref l0, .null, .int l2, .int l3] [] h (f_X10_mixSlot_160 k150 k160 l0 l2 l3 h) := by
  unfold f_X10_mixSlot_160
  refine Sm.iload_n dX10_mixSlot_160 rfl rfl rfl ?_
  refine Sm.iconst dX10_mixSlot_161 ic_3 rfl ?_
  refine Sm.icmp_ge (t := 186) dX10_mixSlot_162 (by decide) rfl (fun b59 => ?_) (fun b59 => ?_)
  · refine Sm.iconst dX10_mixSlot_186 ic_0 rfl ?_
    refine Sm.istore_n (lv' := [.ref l0, .null, .int l2, .int (0 : Int32)]) dX10_mixSlot_187 rfl (Nat.le_of_ble_eq_true rfl) rfl rfl ?_
    exact Sm.wk (Sm.loop (σ := Int32 × Hp) (LV := fun s => [.ref l0, .null, .int l2, .int s.1]) (HH := fun s => s.2) (fun k hk s => t_X10_mixSlot_188 l0 l2 s.1 s.2 k150 hk150 k hk) 5000 ((0 : Int32), h)) ⟨Or.inr rfl, Or.inl rfl, Or.inr rfl, Or.inr rfl, trivial⟩
  · refine Sm.aload_n dX10_mixSlot_165 rfl rfl rfl ?_
    refine Sm.aload_n dX10_mixSlot_166 rfl rfl rfl ?_
    refine Sm.ck (fun o70 => ?_)
    refine gf_X10_86 o70 dX10_mixSlot_167 rfl rfl (fun v71 => ?_)
    refine Sm.iload_n dX10_mixSlot_170 rfl rfl rfl ?_
    refine Sm.ca (fun q72 => ?_)
    refine Sm.iald q72 dX10_mixSlot_171 rfl ?_
    refine Sm.iload_n dX10_mixSlot_172 rfl rfl rfl ?_
    refine kc_X10_319 dX10_mixSlot_173 rfl (Nat.le_of_ble_eq_true rfl) (Nat.le_of_ble_eq_true rfl) rfl (fun v73 h74 => ?_)
    refine Sm.i2l dX10_mixSlot_176 rfl ?_
    refine Sm.ck (fun o75 => ?_)
    refine kc_X10_337 o75 dX10_mixSlot_177 rfl (Nat.le_of_ble_eq_true rfl) (Nat.le_of_ble_eq_true rfl) rfl (fun _ h76 => ?_)
    refine Sm.iinc (lv' := [.ref l0, .null, .int l2, .int (l3 + (1 : Int32))]) dX10_mixSlot_180 rfl ic_1 rfl rfl ?_
    refine Sm.nm (LV := fun v77 => [.ref l0, .null, .int l2, .int v77]) (ST := fun v77 => []) (fun v77 => ?_)
    refine Sm.goto (t := 160) dX10_mixSlot_183 (by decide) ?_
    exact Sm.wk (hk160 (v77, h76)) ⟨Or.inr rfl, Or.inl rfl, Or.inr rfl, Or.inr rfl, trivial⟩
def f_X10_mixSlot_150 (k150 : (Int32 × Hp) → Option (Unit × Hp)) (l0 : Nat) (l2 : Int32) (h : Hp) : Option (Unit × Hp) :=
  (ck h l0 10
(if (gI h l0 39) ≤ l2 then
(some ((), h))
else
(loopN (fun k s => f_X10_mixSlot_160 k150 k l0 l2 s.1 s.2) 5000 ((0 : Int32), h))))
set_option maxRecDepth 20000 in
theorem t_X10_mixSlot_150 (l0 : Nat) (l2 : Int32) (h : Hp) (k150 : (Int32 × Hp) → Option (Unit × Hp)) (hk150 : ∀ s : Int32 × Hp, Sm rvV g_X10_mixSlot 150 [.ref l0, .null, .int s.1, .null] [] s.2 (k150 s)) : Sm rvV g_X10_mixSlot 150 [.ref l0, .null, .int l2, .null] [] h (f_X10_mixSlot_150 k150 l0 l2 h) := by
  unfold f_X10_mixSlot_150
  refine Sm.iload_n dX10_mixSlot_150 rfl rfl rfl ?_
  refine Sm.aload_n dX10_mixSlot_151 rfl rfl rfl ?_
  refine Sm.ck (fun o57 => ?_)
  refine gf_X10_303 o57 dX10_mixSlot_152 rfl rfl ?_
  refine Sm.icmp_ge (t := 221) dX10_mixSlot_155 (by decide) rfl (fun b58 => ?_) (fun b58 => ?_)
  · exact Sm.ret (r := ()) dX10_mixSlot_221 trivial rfl
  · refine Sm.iconst dX10_mixSlot_158 ic_0 rfl ?_
    refine Sm.istore_n (lv' := [.ref l0, .null, .int l2, .int (0 : Int32)]) dX10_mixSlot_159 rfl (Nat.le_of_ble_eq_true rfl) rfl rfl ?_
    exact Sm.wk (Sm.loop (σ := Int32 × Hp) (LV := fun s => [.ref l0, .null, .int l2, .int s.1]) (HH := fun s => s.2) (fun k hk s => t_X10_mixSlot_160 l0 l2 s.1 s.2 k150 hk150 k hk) 5000 ((0 : Int32), h)) ⟨Or.inr rfl, Or.inl rfl, Or.inr rfl, Or.inr rfl, trivial⟩
def f_X10_mixSlot_18 (k18 : (Int32 × Hp) → Option (Unit × Hp)) (l0 : Nat) (l1 : Int32) (l2 : Int32) (h : Hp) : Option (Unit × Hp) :=
  (ck h l0 10
(if (gI h l0 23) ≤ l2 then
(bd (f_X10_outputsOf l0 l1 (0 : Int32) h) fun v9 h10 =>
(ck h10 l0 10
(bd (f_X10_mix l0 v9 h10) fun _ h12 =>
(ck h12 l0 10
(bd (f_X10_outputsOf l0 l1 (27 : Int32) h12) fun v14 h15 =>
(ck h15 l0 10
(bd (f_X10_mix l0 v14 h15) fun _ h17 =>
(ck h17 l0 10
(bd (f_X10_outputsOf l0 l1 (63 : Int32) h17) fun v19 h20 =>
(ck h20 l0 10
(bd (f_X10_mix l0 v19 h20) fun _ h22 =>
(ck h22 l0 10
(bd (f_X10_acceptedOf l0 l1 h22) fun v24 h25 =>
(ck h25 l0 10
(bd (f_X10_mix l0 v24 h25) fun _ h27 =>
(ck h27 l0 10
(bd (f_X10_spreadOf l0 l1 h27) fun v29 h30 =>
(ck h30 l0 10
(bd (f_X10_mix l0 v29.toInt64 h30) fun _ h32 =>
(ck h32 l0 10
(bd (f_X10_roundsOf l0 l1 h32) fun v34 h35 =>
(ck h35 l0 10
(bd (f_X10_mix l0 v34.toInt64 h35) fun _ h37 =>
(ck h37 l0 10
(bd (f_X10_sizeOf l0 l1 h37) fun v39 h40 =>
(ck h40 l0 10
(bd (f_X10_mix l0 v39.toInt64 h40) fun _ h42 =>
(ck h42 l0 10
(bd (f_X10_leavesOf l0 l1 h42) fun v44 h45 =>
(ck h45 l0 10
(bd (f_X10_mix l0 v44.toInt64 h45) fun _ h47 =>
(ck h47 l0 10
(bd (f_X10_depthOf l0 l1 h47) fun v49 h50 =>
(ck h50 l0 10
(bd (f_X10_mix l0 v49.toInt64 h50) fun _ h52 =>
(ck h52 l0 10
(bd (f_X10_tabulates l0 l1 h52) fun _ h54 =>
(ck h54 l0 10
(bd (f_X10_mix l0 ((gI h54 l0 39).toInt64) h54) fun _ h56 =>
(loopN (fun k s => f_X10_mixSlot_150 k l0 s.1 s.2) 5000 ((0 : Int32), h56)))))))))))))))))))))))))))))))))))))))))
else
((gP h l0 22).bind fun v78 =>
(ca h v78 20 l2
(bd (f_X10_mix l0 ((gI h v78 l2.toNatClampNeg).toInt64) h) fun _ h80 =>
(nm (l2 + (1 : Int32)) fun v81 =>
(k18 (v81, h80))))))))
set_option maxRecDepth 20000 in
theorem t_X10_mixSlot_18 (l0 : Nat) (l1 : Int32) (l2 : Int32) (h : Hp) (k18 : (Int32 × Hp) → Option (Unit × Hp)) (hk18 : ∀ s : Int32 × Hp, Sm rvV g_X10_mixSlot 18 [.ref l0, .int l1, .int s.1, .null] [] s.2 (k18 s)) : Sm rvV g_X10_mixSlot 18 [.ref l0, .int l1, .int l2, .null] [] h (f_X10_mixSlot_18 k18 l0 l1 l2 h) := by
  unfold f_X10_mixSlot_18
  refine Sm.iload_n dX10_mixSlot_18 rfl rfl rfl ?_
  refine Sm.aload_n dX10_mixSlot_19 rfl rfl rfl ?_
  refine Sm.ck (fun o7 => ?_)
  refine gf_X10_194 o7 dX10_mixSlot_20 rfl rfl ?_
  refine Sm.icmp_ge (t := 43) dX10_mixSlot_23 (by decide) rfl (fun b8 => ?_) (fun b8 => ?_)
  · refine Sm.aload_n dX10_mixSlot_43 rfl rfl rfl ?_
    refine Sm.aload_n dX10_mixSlot_44 rfl rfl rfl ?_
    refine Sm.iload_n dX10_mixSlot_45 rfl rfl rfl ?_
    refine Sm.iconst dX10_mixSlot_46 ic_0 rfl ?_
    refine kc_X10_241 o7 dX10_mixSlot_47 rfl (Nat.le_of_ble_eq_true rfl) (Nat.le_of_ble_eq_true rfl) rfl (fun v9 h10 => ?_)
    refine Sm.ck (fun o11 => ?_)
    refine kc_X10_337 o11 dX10_mixSlot_50 rfl (Nat.le_of_ble_eq_true rfl) (Nat.le_of_ble_eq_true rfl) rfl (fun _ h12 => ?_)
    refine Sm.aload_n dX10_mixSlot_53 rfl rfl rfl ?_
    refine Sm.aload_n dX10_mixSlot_54 rfl rfl rfl ?_
    refine Sm.iload_n dX10_mixSlot_55 rfl rfl rfl ?_
    refine Sm.bipush dX10_mixSlot_56 bp_27 rfl ?_
    refine Sm.ck (fun o13 => ?_)
    refine kc_X10_241 o13 dX10_mixSlot_58 rfl (Nat.le_of_ble_eq_true rfl) (Nat.le_of_ble_eq_true rfl) rfl (fun v14 h15 => ?_)
    refine Sm.ck (fun o16 => ?_)
    refine kc_X10_337 o16 dX10_mixSlot_61 rfl (Nat.le_of_ble_eq_true rfl) (Nat.le_of_ble_eq_true rfl) rfl (fun _ h17 => ?_)
    refine Sm.aload_n dX10_mixSlot_64 rfl rfl rfl ?_
    refine Sm.aload_n dX10_mixSlot_65 rfl rfl rfl ?_
    refine Sm.iload_n dX10_mixSlot_66 rfl rfl rfl ?_
    refine Sm.bipush dX10_mixSlot_67 bp_63 rfl ?_
    refine Sm.ck (fun o18 => ?_)
    refine kc_X10_241 o18 dX10_mixSlot_69 rfl (Nat.le_of_ble_eq_true rfl) (Nat.le_of_ble_eq_true rfl) rfl (fun v19 h20 => ?_)
    refine Sm.ck (fun o21 => ?_)
    refine kc_X10_337 o21 dX10_mixSlot_72 rfl (Nat.le_of_ble_eq_true rfl) (Nat.le_of_ble_eq_true rfl) rfl (fun _ h22 => ?_)
    refine Sm.aload_n dX10_mixSlot_75 rfl rfl rfl ?_
    refine Sm.aload_n dX10_mixSlot_76 rfl rfl rfl ?_
    refine Sm.iload_n dX10_mixSlot_77 rfl rfl rfl ?_
    refine Sm.ck (fun o23 => ?_)
    refine kc_X10_244 o23 dX10_mixSlot_78 rfl (Nat.le_of_ble_eq_true rfl) (Nat.le_of_ble_eq_true rfl) rfl (fun v24 h25 => ?_)
    refine Sm.ck (fun o26 => ?_)
    refine kc_X10_337 o26 dX10_mixSlot_81 rfl (Nat.le_of_ble_eq_true rfl) (Nat.le_of_ble_eq_true rfl) rfl (fun _ h27 => ?_)
    refine Sm.aload_n dX10_mixSlot_84 rfl rfl rfl ?_
    refine Sm.aload_n dX10_mixSlot_85 rfl rfl rfl ?_
    refine Sm.iload_n dX10_mixSlot_86 rfl rfl rfl ?_
    refine Sm.ck (fun o28 => ?_)
    refine kc_X10_252 o28 dX10_mixSlot_87 rfl (Nat.le_of_ble_eq_true rfl) (Nat.le_of_ble_eq_true rfl) rfl (fun v29 h30 => ?_)
    refine Sm.i2l dX10_mixSlot_90 rfl ?_
    refine Sm.ck (fun o31 => ?_)
    refine kc_X10_337 o31 dX10_mixSlot_91 rfl (Nat.le_of_ble_eq_true rfl) (Nat.le_of_ble_eq_true rfl) rfl (fun _ h32 => ?_)
    refine Sm.aload_n dX10_mixSlot_94 rfl rfl rfl ?_
    refine Sm.aload_n dX10_mixSlot_95 rfl rfl rfl ?_
    refine Sm.iload_n dX10_mixSlot_96 rfl rfl rfl ?_
    refine Sm.ck (fun o33 => ?_)
    refine kc_X10_255 o33 dX10_mixSlot_97 rfl (Nat.le_of_ble_eq_true rfl) (Nat.le_of_ble_eq_true rfl) rfl (fun v34 h35 => ?_)
    refine Sm.i2l dX10_mixSlot_100 rfl ?_
    refine Sm.ck (fun o36 => ?_)
    refine kc_X10_337 o36 dX10_mixSlot_101 rfl (Nat.le_of_ble_eq_true rfl) (Nat.le_of_ble_eq_true rfl) rfl (fun _ h37 => ?_)
    refine Sm.aload_n dX10_mixSlot_104 rfl rfl rfl ?_
    refine Sm.aload_n dX10_mixSlot_105 rfl rfl rfl ?_
    refine Sm.iload_n dX10_mixSlot_106 rfl rfl rfl ?_
    refine Sm.ck (fun o38 => ?_)
    refine kc_X10_294 o38 dX10_mixSlot_107 rfl (Nat.le_of_ble_eq_true rfl) (Nat.le_of_ble_eq_true rfl) rfl (fun v39 h40 => ?_)
    refine Sm.i2l dX10_mixSlot_110 rfl ?_
    refine Sm.ck (fun o41 => ?_)
    refine kc_X10_337 o41 dX10_mixSlot_111 rfl (Nat.le_of_ble_eq_true rfl) (Nat.le_of_ble_eq_true rfl) rfl (fun _ h42 => ?_)
    refine Sm.aload_n dX10_mixSlot_114 rfl rfl rfl ?_
    refine Sm.aload_n dX10_mixSlot_115 rfl rfl rfl ?_
    refine Sm.iload_n dX10_mixSlot_116 rfl rfl rfl ?_
    refine Sm.ck (fun o43 => ?_)
    refine kc_X10_297 o43 dX10_mixSlot_117 rfl (Nat.le_of_ble_eq_true rfl) (Nat.le_of_ble_eq_true rfl) rfl (fun v44 h45 => ?_)
    refine Sm.i2l dX10_mixSlot_120 rfl ?_
    refine Sm.ck (fun o46 => ?_)
    refine kc_X10_337 o46 dX10_mixSlot_121 rfl (Nat.le_of_ble_eq_true rfl) (Nat.le_of_ble_eq_true rfl) rfl (fun _ h47 => ?_)
    refine Sm.aload_n dX10_mixSlot_124 rfl rfl rfl ?_
    refine Sm.aload_n dX10_mixSlot_125 rfl rfl rfl ?_
    refine Sm.iload_n dX10_mixSlot_126 rfl rfl rfl ?_
    refine Sm.ck (fun o48 => ?_)
    refine kc_X10_300 o48 dX10_mixSlot_127 rfl (Nat.le_of_ble_eq_true rfl) (Nat.le_of_ble_eq_true rfl) rfl (fun v49 h50 => ?_)
    refine Sm.i2l dX10_mixSlot_130 rfl ?_
    refine Sm.ck (fun o51 => ?_)
    refine kc_X10_337 o51 dX10_mixSlot_131 rfl (Nat.le_of_ble_eq_true rfl) (Nat.le_of_ble_eq_true rfl) rfl (fun _ h52 => ?_)
    refine Sm.aload_n dX10_mixSlot_134 rfl rfl rfl ?_
    refine Sm.iload_n dX10_mixSlot_135 rfl rfl rfl ?_
    refine Sm.ck (fun o53 => ?_)
    refine kc_X10_312 o53 dX10_mixSlot_136 rfl (Nat.le_of_ble_eq_true rfl) (Nat.le_of_ble_eq_true rfl) rfl (fun _ h54 => ?_)
    refine Sm.aload_n dX10_mixSlot_139 rfl rfl rfl ?_
    refine Sm.aload_n dX10_mixSlot_140 rfl rfl rfl ?_
    refine Sm.ck (fun o55 => ?_)
    refine gf_X10_303 o55 dX10_mixSlot_141 rfl rfl ?_
    refine Sm.i2l dX10_mixSlot_144 rfl ?_
    refine kc_X10_337 o55 dX10_mixSlot_145 rfl (Nat.le_of_ble_eq_true rfl) (Nat.le_of_ble_eq_true rfl) rfl (fun _ h56 => ?_)
    refine Sm.iconst dX10_mixSlot_148 ic_0 rfl ?_
    refine Sm.istore_n (lv' := [.ref l0, .int l1, .int (0 : Int32), .null]) dX10_mixSlot_149 rfl (Nat.le_of_ble_eq_true rfl) rfl rfl ?_
    exact Sm.wk (Sm.loop (σ := Int32 × Hp) (LV := fun s => [.ref l0, .null, .int s.1, .null]) (HH := fun s => s.2) (fun k hk s => t_X10_mixSlot_150 l0 s.1 s.2 k hk) 5000 ((0 : Int32), h56)) ⟨Or.inr rfl, Or.inl rfl, Or.inr rfl, Or.inl rfl, trivial⟩
  · refine Sm.aload_n dX10_mixSlot_26 rfl rfl rfl ?_
    refine Sm.aload_n dX10_mixSlot_27 rfl rfl rfl ?_
    refine gf_X10_52 o7 dX10_mixSlot_28 rfl rfl (fun v78 => ?_)
    refine Sm.iload_n dX10_mixSlot_31 rfl rfl rfl ?_
    refine Sm.ca (fun q79 => ?_)
    refine Sm.iald q79 dX10_mixSlot_32 rfl ?_
    refine Sm.i2l dX10_mixSlot_33 rfl ?_
    refine kc_X10_337 o7 dX10_mixSlot_34 rfl (Nat.le_of_ble_eq_true rfl) (Nat.le_of_ble_eq_true rfl) rfl (fun _ h80 => ?_)
    refine Sm.iinc (lv' := [.ref l0, .int l1, .int (l2 + (1 : Int32)), .null]) dX10_mixSlot_37 rfl ic_1 rfl rfl ?_
    refine Sm.nm (LV := fun v81 => [.ref l0, .int l1, .int v81, .null]) (ST := fun v81 => []) (fun v81 => ?_)
    refine Sm.goto (t := 18) dX10_mixSlot_40 (by decide) ?_
    exact Sm.wk (hk18 (v81, h80)) ⟨Or.inr rfl, Or.inr rfl, Or.inr rfl, Or.inl rfl, trivial⟩
def f_X10_mixSlot (l0 : Nat) (l1 : Int32) (h : Hp) : Option (Unit × Hp) :=
  (ck h l0 10
((gP h l0 0).bind fun v2 =>
(ca h v2 20 l1
(bd (f_X10_mix l0 ((gI h v2 l1.toNatClampNeg).toInt64) h) fun _ h4 =>
(ck h4 l0 10
(bd (f_X10_prints l0 l1 h4) fun _ h6 =>
(loopN (fun k s => f_X10_mixSlot_18 k l0 l1 s.1 s.2) 5000 ((0 : Int32), h6))))))))
set_option maxRecDepth 20000 in
theorem t_X10_mixSlot (l0 : Nat) (l1 : Int32) (h : Hp) : Sm rvV g_X10_mixSlot 0 (ent 4 [.ref l0, .int l1]) [] h (f_X10_mixSlot l0 l1 h) := by
  show Sm rvV g_X10_mixSlot 0 [.ref l0, .int l1, .null, .null] [] h _
  unfold f_X10_mixSlot
  refine Sm.aload_n dX10_mixSlot_0 rfl rfl rfl ?_
  refine Sm.aload_n dX10_mixSlot_1 rfl rfl rfl ?_
  refine Sm.ck (fun o1 => ?_)
  refine gf_X10_7 o1 dX10_mixSlot_2 rfl rfl (fun v2 => ?_)
  refine Sm.iload_n dX10_mixSlot_5 rfl rfl rfl ?_
  refine Sm.ca (fun q3 => ?_)
  refine Sm.iald q3 dX10_mixSlot_6 rfl ?_
  refine Sm.i2l dX10_mixSlot_7 rfl ?_
  refine kc_X10_337 o1 dX10_mixSlot_8 rfl (Nat.le_of_ble_eq_true rfl) (Nat.le_of_ble_eq_true rfl) rfl (fun _ h4 => ?_)
  refine Sm.aload_n dX10_mixSlot_11 rfl rfl rfl ?_
  refine Sm.iload_n dX10_mixSlot_12 rfl rfl rfl ?_
  refine Sm.ck (fun o5 => ?_)
  refine kc_X10_210 o5 dX10_mixSlot_13 rfl (Nat.le_of_ble_eq_true rfl) (Nat.le_of_ble_eq_true rfl) rfl (fun _ h6 => ?_)
  refine Sm.iconst dX10_mixSlot_16 ic_0 rfl ?_
  refine Sm.istore_n (lv' := [.ref l0, .int l1, .int (0 : Int32), .null]) dX10_mixSlot_17 rfl (Nat.le_of_ble_eq_true rfl) rfl rfl ?_
  exact Sm.wk (Sm.loop (σ := Int32 × Hp) (LV := fun s => [.ref l0, .int l1, .int s.1, .null]) (HH := fun s => s.2) (fun k hk s => t_X10_mixSlot_18 l0 l1 s.1 s.2 k hk) 5000 ((0 : Int32), h6)) ⟨Or.inr rfl, Or.inr rfl, Or.inr rfl, Or.inl rfl, trivial⟩
set_option maxRecDepth 20000 in
theorem kc_X10_343 {ρ : Type} {rv : ρ → Option Value} {G : Gx} {pc q : Nat} {lv st : List Value} {h : Hp} {a : Nat} {x1 : Int32} {e : Unit → Hp → Option (ρ × Hp)} (hk : isO h a 10) (d : decode G.2.1 pc = .ok (.invokevirtual 343, 3)) (ho : G.1.cls = RX10) (hdep : (g_X10_mixSlot).2.2.2.2 < G.2.2.2.2) (hcat : catS st ≤ 8) (hq : pc + 3 = q) (k : ∀ r h1, Sm rv G q lv (st) h1 (e r h1)) : Sm rv G pc lv (.int x1 :: .ref a :: st) h (bd (f_X10_mixSlot a x1 h) e) :=
  Sm.callV (rv' := rvV) (args := [.int x1]) (n := 1) (t_X10_mixSlot a x1 h) hk (by decide) (r := (RX10, TX10, 43)) rfl rfl ho mw_1367 mw_1369 mp_102 mw_11 mw_1370 ⟨⟨by decide, rfl, hdep, Nat.le_of_ble_eq_true rfl⟩, Nat.le_of_ble_eq_true rfl, rfl, ⟨by decide, by decide⟩, hcat⟩ (by decide +kernel) (by intro v hv; simp only [List.mem_cons, List.not_mem_nil, or_false] at hv; rcases hv with rfl <;> intro x hx <;> cases hx) d hq k rfl
abbrev g_X10_digest : Gx := (yX10_digest, cX10_digest, 3, (Option.some FieldType.long), 8)
def f_X10_digest_69 (k60 : (Int32 × Hp) → Option (Int64 × Hp)) (k69 : (Int32 × Hp) → Option (Int64 × Hp)) (l0 : Nat) (l1 : Int32) (l2 : Int32) (h : Hp) : Option (Int64 × Hp) :=
  (if (4 : Int32) ≤ l2 then
(nm (l1 + (1 : Int32)) fun v12 =>
(k60 (v12, h)))
else
(ck h l0 10
(bd (f_X10_compared l0 l1 l2 h) fun v14 h15 =>
(ck h15 l0 10
(bd (f_X10_mix l0 v14.toInt64 h15) fun _ h17 =>
(ck h17 l0 10
(bd (f_X10_witnessOf l0 l1 l2 h17) fun v19 h20 =>
(ck h20 l0 10
(bd (f_X10_mix l0 v19.toInt64 h20) fun _ h22 =>
(nm (l2 + (1 : Int32)) fun v23 =>
(k69 (v23, h22))))))))))))
set_option maxRecDepth 20000 in
theorem t_X10_digest_69 (l0 : Nat) (l1 : Int32) (l2 : Int32) (h : Hp) (k60 : (Int32 × Hp) → Option (Int64 × Hp)) (hk60 : ∀ s : Int32 × Hp, Sm rvJ g_X10_digest 60 [.ref l0, .int s.1, .null] [] s.2 (k60 s)) (k69 : (Int32 × Hp) → Option (Int64 × Hp)) (hk69 : ∀ s : Int32 × Hp, Sm rvJ g_X10_digest 69 [.ref l0, .int l1, .int s.1] [] s.2 (k69 s)) : Sm rvJ g_X10_digest 69 [.ref l0, .int l1, .int l2] [] h (f_X10_digest_69 k60 k69 l0 l1 l2 h) := by
  unfold f_X10_digest_69
  refine Sm.iload_n dX10_digest_69 rfl rfl rfl ?_
  refine Sm.iconst dX10_digest_70 ic_4 rfl ?_
  refine Sm.icmp_ge (t := 102) dX10_digest_71 (by decide) rfl (fun b11 => ?_) (fun b11 => ?_)
  · refine Sm.iinc (lv' := [.ref l0, .int (l1 + (1 : Int32)), .int l2]) dX10_digest_102 rfl ic_1 rfl rfl ?_
    refine Sm.nm (LV := fun v12 => [.ref l0, .int v12, .int l2]) (ST := fun v12 => []) (fun v12 => ?_)
    refine Sm.goto (t := 60) dX10_digest_105 (by decide) ?_
    exact Sm.wk (hk60 (v12, h)) ⟨Or.inr rfl, Or.inr rfl, Or.inl rfl, trivial⟩
  · refine Sm.aload_n dX10_digest_74 rfl rfl rfl ?_
    refine Sm.aload_n dX10_digest_75 rfl rfl rfl ?_
    refine Sm.iload_n dX10_digest_76 rfl rfl rfl ?_
    refine Sm.iload_n dX10_digest_77 rfl rfl rfl ?_
    refine Sm.ck (fun o13 => ?_)
    refine kc_X10_261 o13 dX10_digest_78 rfl (Nat.le_of_ble_eq_true rfl) (Nat.le_of_ble_eq_true rfl) rfl (fun v14 h15 => ?_)
    refine Sm.i2l dX10_digest_81 rfl ?_
    refine Sm.ck (fun o16 => ?_)
    refine kc_X10_337 o16 dX10_digest_82 rfl (Nat.le_of_ble_eq_true rfl) (Nat.le_of_ble_eq_true rfl) rfl (fun _ h17 => ?_)
    refine Sm.aload_n dX10_digest_85 rfl rfl rfl ?_
    refine Sm.aload_n dX10_digest_86 rfl rfl rfl ?_
    refine Sm.iload_n dX10_digest_87 rfl rfl rfl ?_
    refine Sm.iload_n dX10_digest_88 rfl rfl rfl ?_
    refine Sm.ck (fun o18 => ?_)
    refine kc_X10_264 o18 dX10_digest_89 rfl (Nat.le_of_ble_eq_true rfl) (Nat.le_of_ble_eq_true rfl) rfl (fun v19 h20 => ?_)
    refine Sm.i2l dX10_digest_92 rfl ?_
    refine Sm.ck (fun o21 => ?_)
    refine kc_X10_337 o21 dX10_digest_93 rfl (Nat.le_of_ble_eq_true rfl) (Nat.le_of_ble_eq_true rfl) rfl (fun _ h22 => ?_)
    refine Sm.iinc (lv' := [.ref l0, .int l1, .int (l2 + (1 : Int32))]) dX10_digest_96 rfl ic_1 rfl rfl ?_
    refine Sm.nm (LV := fun v23 => [.ref l0, .int l1, .int v23]) (ST := fun v23 => []) (fun v23 => ?_)
    refine Sm.goto (t := 69) dX10_digest_99 (by decide) ?_
    exact Sm.wk (hk69 (v23, h22)) ⟨Or.inr rfl, Or.inr rfl, Or.inr rfl, trivial⟩
def f_X10_digest_60 (k60 : (Int32 × Hp) → Option (Int64 × Hp)) (l0 : Nat) (l1 : Int32) (h : Hp) : Option (Int64 × Hp) :=
  (if (4 : Int32) ≤ l1 then
(ck h l0 10
(bd (f_X10_mix l0 ((gI h l0 2).toInt64) h) fun _ h8 =>
(ck h8 l0 10
(some ((gL h8 l0 42), h8)))))
else
(nm (l1 + (1 : Int32)) fun v10 =>
(loopN (fun k s => f_X10_digest_69 k60 k l0 l1 s.1 s.2) 5000 (v10, h))))
set_option maxRecDepth 20000 in
theorem t_X10_digest_60 (l0 : Nat) (l1 : Int32) (h : Hp) (k60 : (Int32 × Hp) → Option (Int64 × Hp)) (hk60 : ∀ s : Int32 × Hp, Sm rvJ g_X10_digest 60 [.ref l0, .int s.1, .null] [] s.2 (k60 s)) : Sm rvJ g_X10_digest 60 [.ref l0, .int l1, .null] [] h (f_X10_digest_60 k60 l0 l1 h) := by
  unfold f_X10_digest_60
  refine Sm.iload_n dX10_digest_60 rfl rfl rfl ?_
  refine Sm.iconst dX10_digest_61 ic_4 rfl ?_
  refine Sm.icmp_ge (t := 108) dX10_digest_62 (by decide) rfl (fun b6 => ?_) (fun b6 => ?_)
  · refine Sm.aload_n dX10_digest_108 rfl rfl rfl ?_
    refine Sm.aload_n dX10_digest_109 rfl rfl rfl ?_
    refine Sm.ck (fun o7 => ?_)
    refine gf_X10_102 o7 dX10_digest_110 rfl rfl ?_
    refine Sm.i2l dX10_digest_113 rfl ?_
    refine kc_X10_337 o7 dX10_digest_114 rfl (Nat.le_of_ble_eq_true rfl) (Nat.le_of_ble_eq_true rfl) rfl (fun _ h8 => ?_)
    refine Sm.aload_n dX10_digest_117 rfl rfl rfl ?_
    refine Sm.ck (fun o9 => ?_)
    refine gf_X10_333 o9 dX10_digest_118 rfl rfl ?_
    exact Sm.ret dX10_digest_121 trivial rfl
  · refine Sm.iload_n dX10_digest_65 rfl rfl rfl ?_
    refine Sm.iconst dX10_digest_66 ic_1 rfl ?_
    refine Sm.iadd dX10_digest_67 rfl ?_
    refine Sm.nm (LV := fun v10 => [.ref l0, .int l1, .null]) (ST := fun v10 => [.int v10]) (fun v10 => ?_)
    refine Sm.istore_n (lv' := [.ref l0, .int l1, .int v10]) dX10_digest_68 rfl (Nat.le_of_ble_eq_true rfl) rfl rfl ?_
    exact Sm.wk (Sm.loop (σ := Int32 × Hp) (LV := fun s => [.ref l0, .int l1, .int s.1]) (HH := fun s => s.2) (fun k hk s => t_X10_digest_69 l0 l1 s.1 s.2 k60 hk60 k hk) 5000 (v10, h)) ⟨Or.inr rfl, Or.inr rfl, Or.inr rfl, trivial⟩
def f_X10_digest_42 (k42 : (Int32 × Hp) → Option (Int64 × Hp)) (l0 : Nat) (l1 : Int32) (h : Hp) : Option (Int64 × Hp) :=
  (if (4 : Int32) ≤ l1 then
(loopN (fun k s => f_X10_digest_60 k l0 s.1 s.2) 5000 ((0 : Int32), h))
else
(ck h l0 10
(bd (f_X10_mixSlot l0 l1 h) fun _ h25 =>
(nm (l1 + (1 : Int32)) fun v26 =>
(k42 (v26, h25))))))
set_option maxRecDepth 20000 in
theorem t_X10_digest_42 (l0 : Nat) (l1 : Int32) (h : Hp) (k42 : (Int32 × Hp) → Option (Int64 × Hp)) (hk42 : ∀ s : Int32 × Hp, Sm rvJ g_X10_digest 42 [.ref l0, .int s.1, .null] [] s.2 (k42 s)) : Sm rvJ g_X10_digest 42 [.ref l0, .int l1, .null] [] h (f_X10_digest_42 k42 l0 l1 h) := by
  unfold f_X10_digest_42
  refine Sm.iload_n dX10_digest_42 rfl rfl rfl ?_
  refine Sm.iconst dX10_digest_43 ic_4 rfl ?_
  refine Sm.icmp_ge (t := 58) dX10_digest_44 (by decide) rfl (fun b5 => ?_) (fun b5 => ?_)
  · refine Sm.iconst dX10_digest_58 ic_0 rfl ?_
    refine Sm.istore_n (lv' := [.ref l0, .int (0 : Int32), .null]) dX10_digest_59 rfl (Nat.le_of_ble_eq_true rfl) rfl rfl ?_
    exact Sm.wk (Sm.loop (σ := Int32 × Hp) (LV := fun s => [.ref l0, .int s.1, .null]) (HH := fun s => s.2) (fun k hk s => t_X10_digest_60 l0 s.1 s.2 k hk) 5000 ((0 : Int32), h)) ⟨Or.inr rfl, Or.inr rfl, Or.inl rfl, trivial⟩
  · refine Sm.aload_n dX10_digest_47 rfl rfl rfl ?_
    refine Sm.iload_n dX10_digest_48 rfl rfl rfl ?_
    refine Sm.ck (fun o24 => ?_)
    refine kc_X10_343 o24 dX10_digest_49 rfl (Nat.le_of_ble_eq_true rfl) (Nat.le_of_ble_eq_true rfl) rfl (fun _ h25 => ?_)
    refine Sm.iinc (lv' := [.ref l0, .int (l1 + (1 : Int32)), .null]) dX10_digest_52 rfl ic_1 rfl rfl ?_
    refine Sm.nm (LV := fun v26 => [.ref l0, .int v26, .null]) (ST := fun v26 => []) (fun v26 => ?_)
    refine Sm.goto (t := 42) dX10_digest_55 (by decide) ?_
    exact Sm.wk (hk42 (v26, h25)) ⟨Or.inr rfl, Or.inr rfl, Or.inl rfl, trivial⟩
def f_X10_digest_9 (k9 : (Int32 × Hp) → Option (Int64 × Hp)) (l0 : Nat) (l1 : Int32) (h : Hp) : Option (Int64 × Hp) :=
  (if (5 : Int32) ≤ l1 then
(ck h l0 10
(bd (f_X10_mix l0 ((gI h l0 5).toInt64) h) fun _ h4 =>
(loopN (fun k s => f_X10_digest_42 k l0 s.1 s.2) 5000 ((0 : Int32), h4))))
else
(ck h l0 10
((gP h l0 3).bind fun v28 =>
(ca h v28 20 l1
(bd (f_X10_mix l0 ((gI h v28 l1.toNatClampNeg).toInt64) h) fun _ h30 =>
(nm (l1 + (1 : Int32)) fun v31 =>
(k9 (v31, h30))))))))
set_option maxRecDepth 20000 in
theorem t_X10_digest_9 (l0 : Nat) (l1 : Int32) (h : Hp) (k9 : (Int32 × Hp) → Option (Int64 × Hp)) (hk9 : ∀ s : Int32 × Hp, Sm rvJ g_X10_digest 9 [.ref l0, .int s.1, .null] [] s.2 (k9 s)) : Sm rvJ g_X10_digest 9 [.ref l0, .int l1, .null] [] h (f_X10_digest_9 k9 l0 l1 h) := by
  unfold f_X10_digest_9
  refine Sm.iload_n dX10_digest_9 rfl rfl rfl ?_
  refine Sm.iconst dX10_digest_10 ic_5 rfl ?_
  refine Sm.icmp_ge (t := 31) dX10_digest_11 (by decide) rfl (fun b2 => ?_) (fun b2 => ?_)
  · refine Sm.aload_n dX10_digest_31 rfl rfl rfl ?_
    refine Sm.aload_n dX10_digest_32 rfl rfl rfl ?_
    refine Sm.ck (fun o3 => ?_)
    refine gf_X10_131 o3 dX10_digest_33 rfl rfl ?_
    refine Sm.i2l dX10_digest_36 rfl ?_
    refine kc_X10_337 o3 dX10_digest_37 rfl (Nat.le_of_ble_eq_true rfl) (Nat.le_of_ble_eq_true rfl) rfl (fun _ h4 => ?_)
    refine Sm.iconst dX10_digest_40 ic_0 rfl ?_
    refine Sm.istore_n (lv' := [.ref l0, .int (0 : Int32), .null]) dX10_digest_41 rfl (Nat.le_of_ble_eq_true rfl) rfl rfl ?_
    exact Sm.wk (Sm.loop (σ := Int32 × Hp) (LV := fun s => [.ref l0, .int s.1, .null]) (HH := fun s => s.2) (fun k hk s => t_X10_digest_42 l0 s.1 s.2 k hk) 5000 ((0 : Int32), h4)) ⟨Or.inr rfl, Or.inr rfl, Or.inl rfl, trivial⟩
  · refine Sm.aload_n dX10_digest_14 rfl rfl rfl ?_
    refine Sm.aload_n dX10_digest_15 rfl rfl rfl ?_
    refine Sm.ck (fun o27 => ?_)
    refine gf_X10_16 o27 dX10_digest_16 rfl rfl (fun v28 => ?_)
    refine Sm.iload_n dX10_digest_19 rfl rfl rfl ?_
    refine Sm.ca (fun q29 => ?_)
    refine Sm.iald q29 dX10_digest_20 rfl ?_
    refine Sm.i2l dX10_digest_21 rfl ?_
    refine kc_X10_337 o27 dX10_digest_22 rfl (Nat.le_of_ble_eq_true rfl) (Nat.le_of_ble_eq_true rfl) rfl (fun _ h30 => ?_)
    refine Sm.iinc (lv' := [.ref l0, .int (l1 + (1 : Int32)), .null]) dX10_digest_25 rfl ic_1 rfl rfl ?_
    refine Sm.nm (LV := fun v31 => [.ref l0, .int v31, .null]) (ST := fun v31 => []) (fun v31 => ?_)
    refine Sm.goto (t := 9) dX10_digest_28 (by decide) ?_
    exact Sm.wk (hk9 (v31, h30)) ⟨Or.inr rfl, Or.inr rfl, Or.inl rfl, trivial⟩
def f_X10_digest (l0 : Nat) (h : Hp) : Option (Int64 × Hp) :=
  (ck h l0 10
(loopN (fun k s => f_X10_digest_9 k l0 s.1 s.2) 5000 ((0 : Int32), (sL h l0 42 (2729 : Int64)))))
set_option maxRecDepth 20000 in
theorem t_X10_digest (l0 : Nat) (h : Hp) : Sm rvJ g_X10_digest 0 (ent 3 [.ref l0]) [] h (f_X10_digest l0 h) := by
  show Sm rvJ g_X10_digest 0 [.ref l0, .null, .null] [] h _
  unfold f_X10_digest
  refine Sm.aload_n dX10_digest_0 rfl rfl rfl ?_
  refine Sm.ldc2 dX10_digest_1 mw_1361 rfl ?_
  refine Sm.ck (fun o1 => ?_)
  refine pf_X10_333 o1 dX10_digest_4 rfl rfl ?_
  refine Sm.iconst dX10_digest_7 ic_0 rfl ?_
  refine Sm.istore_n (lv' := [.ref l0, .int (0 : Int32), .null]) dX10_digest_8 rfl (Nat.le_of_ble_eq_true rfl) rfl rfl ?_
  exact Sm.wk (Sm.loop (σ := Int32 × Hp) (LV := fun s => [.ref l0, .int s.1, .null]) (HH := fun s => s.2) (fun k hk s => t_X10_digest_9 l0 s.1 s.2 k hk) 5000 ((0 : Int32), (sL h l0 42 (2729 : Int64)))) ⟨Or.inr rfl, Or.inr rfl, Or.inl rfl, trivial⟩
set_option maxRecDepth 20000 in
theorem kc_L_128 {ρ : Type} {rv : ρ → Option Value} {G : Gx} {pc q : Nat} {lv st : List Value} {h : Hp} {a : Nat} {e : Int64 → Hp → Option (ρ × Hp)} (hk : isO h a 10) (d : decode G.2.1 pc = .ok (.invokevirtual 128, 3)) (ho : G.1.cls = RL) (hdep : (g_X10_digest).2.2.2.2 < G.2.2.2.2) (hcat : catS st ≤ 8) (hq : pc + 3 = q) (k : ∀ r h1, Sm rv G q lv (.long r :: st) h1 (e r h1)) : Sm rv G pc lv (.ref a :: st) h (bd (f_X10_digest a h) e) :=
  Sm.callV (rv' := rvJ) (args := []) (n := 0) (t_X10_digest a h) hk (by decide) (r := (RX10, TX10, 43)) rfl rfl ho mw_1357 mw_1358 mw_1359 mw_11 mw_1360 ⟨⟨by decide, rfl, hdep, Nat.le_of_ble_eq_true rfl⟩, Nat.le_of_ble_eq_true rfl, rfl, ⟨by decide, by decide⟩, hcat⟩ (by decide +kernel) (fun v hv => by cases hv) d hq k rfl
