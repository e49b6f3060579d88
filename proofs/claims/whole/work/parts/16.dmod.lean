theorem dX10_init_0 : decode cX10_init 0 = .ok (.aload_n 0, 1) := by decide +kernel
theorem dX10_init_1 : decode cX10_init 1 = .ok (.invokespecial 1, 3) := by decide +kernel
theorem dX10_init_4 : decode cX10_init 4 = .ok (.aload_n 0, 1) := by decide +kernel
theorem dX10_init_5 : decode cX10_init 5 = .ok (.sipush 244, 3) := by decide +kernel
theorem dX10_init_8 : decode cX10_init 8 = .ok (.newarray .int, 2) := by decide +kernel
theorem dX10_init_10 : decode cX10_init 10 = .ok (.putfield 7, 3) := by decide +kernel
theorem dX10_init_13 : decode cX10_init 13 = .ok (.aload_n 0, 1) := by decide +kernel
theorem dX10_init_14 : decode cX10_init 14 = .ok (.sipush 1220, 3) := by decide +kernel
theorem dX10_init_17 : decode cX10_init 17 = .ok (.newarray .int, 2) := by decide +kernel
theorem dX10_init_19 : decode cX10_init 19 = .ok (.putfield 13, 3) := by decide +kernel
theorem dX10_init_22 : decode cX10_init 22 = .ok (.aload_n 0, 1) := by decide +kernel
theorem dX10_init_23 : decode cX10_init 23 = .ok (.iconst 5, 1) := by decide +kernel
theorem dX10_init_24 : decode cX10_init 24 = .ok (.newarray .int, 2) := by decide +kernel
theorem dX10_init_26 : decode cX10_init 26 = .ok (.putfield 16, 3) := by decide +kernel
theorem dX10_init_29 : decode cX10_init 29 = .ok (.aload_n 0, 1) := by decide +kernel
theorem dX10_init_30 : decode cX10_init 30 = .ok (.sipush 150, 3) := by decide +kernel
theorem dX10_init_33 : decode cX10_init 33 = .ok (.newarray .int, 2) := by decide +kernel
theorem dX10_init_35 : decode cX10_init 35 = .ok (.putfield 19, 3) := by decide +kernel
theorem dX10_init_38 : decode cX10_init 38 = .ok (.aload_n 0, 1) := by decide +kernel
theorem dX10_init_39 : decode cX10_init 39 = .ok (.sipush 6000, 3) := by decide +kernel
theorem dX10_init_42 : decode cX10_init 42 = .ok (.newarray .int, 2) := by decide +kernel
theorem dX10_init_44 : decode cX10_init 44 = .ok (.putfield 22, 3) := by decide +kernel
theorem dX10_init_47 : decode cX10_init 47 = .ok (.aload_n 0, 1) := by decide +kernel
theorem dX10_init_48 : decode cX10_init 48 = .ok (.sipush 160, 3) := by decide +kernel
theorem dX10_init_51 : decode cX10_init 51 = .ok (.newarray .int, 2) := by decide +kernel
theorem dX10_init_53 : decode cX10_init 53 = .ok (.putfield 25, 3) := by decide +kernel
theorem dX10_init_56 : decode cX10_init 56 = .ok (.aload_n 0, 1) := by decide +kernel
theorem dX10_init_57 : decode cX10_init 57 = .ok (.sipush 160, 3) := by decide +kernel
theorem dX10_init_60 : decode cX10_init 60 = .ok (.newarray .int, 2) := by decide +kernel
theorem dX10_init_62 : decode cX10_init 62 = .ok (.putfield 28, 3) := by decide +kernel
theorem dX10_init_65 : decode cX10_init 65 = .ok (.aload_n 0, 1) := by decide +kernel
theorem dX10_init_66 : decode cX10_init 66 = .ok (.sipush 160, 3) := by decide +kernel
theorem dX10_init_69 : decode cX10_init 69 = .ok (.newarray .int, 2) := by decide +kernel
theorem dX10_init_71 : decode cX10_init 71 = .ok (.putfield 31, 3) := by decide +kernel
theorem dX10_init_74 : decode cX10_init 74 = .ok (.aload_n 0, 1) := by decide +kernel
theorem dX10_init_75 : decode cX10_init 75 = .ok (.sipush 160, 3) := by decide +kernel
theorem dX10_init_78 : decode cX10_init 78 = .ok (.newarray .int, 2) := by decide +kernel
theorem dX10_init_80 : decode cX10_init 80 = .ok (.putfield 34, 3) := by decide +kernel
theorem dX10_init_83 : decode cX10_init 83 = .ok (.aload_n 0, 1) := by decide +kernel
theorem dX10_init_84 : decode cX10_init 84 = .ok (.iconst 4, 1) := by decide +kernel
theorem dX10_init_85 : decode cX10_init 85 = .ok (.newarray .int, 2) := by decide +kernel
theorem dX10_init_87 : decode cX10_init 87 = .ok (.putfield 37, 3) := by decide +kernel
theorem dX10_init_90 : decode cX10_init 90 = .ok (.aload_n 0, 1) := by decide +kernel
theorem dX10_init_91 : decode cX10_init 91 = .ok (.bipush 60, 2) := by decide +kernel
theorem dX10_init_93 : decode cX10_init 93 = .ok (.newarray .int, 2) := by decide +kernel
theorem dX10_init_95 : decode cX10_init 95 = .ok (.putfield 40, 3) := by decide +kernel
theorem dX10_init_98 : decode cX10_init 98 = .ok (.aload_n 0, 1) := by decide +kernel
theorem dX10_init_99 : decode cX10_init 99 = .ok (.bipush 60, 2) := by decide +kernel
theorem dX10_init_101 : decode cX10_init 101 = .ok (.newarray .int, 2) := by decide +kernel
theorem dX10_init_103 : decode cX10_init 103 = .ok (.putfield 43, 3) := by decide +kernel
theorem dX10_init_106 : decode cX10_init 106 = .ok (.aload_n 0, 1) := by decide +kernel
theorem dX10_init_107 : decode cX10_init 107 = .ok (.bipush 60, 2) := by decide +kernel
theorem dX10_init_109 : decode cX10_init 109 = .ok (.newarray .int, 2) := by decide +kernel
theorem dX10_init_111 : decode cX10_init 111 = .ok (.putfield 46, 3) := by decide +kernel
theorem dX10_init_114 : decode cX10_init 114 = .ok (.aload_n 0, 1) := by decide +kernel
theorem dX10_init_115 : decode cX10_init 115 = .ok (.sipush 1000, 3) := by decide +kernel
theorem dX10_init_118 : decode cX10_init 118 = .ok (.newarray .int, 2) := by decide +kernel
theorem dX10_init_120 : decode cX10_init 120 = .ok (.putfield 49, 3) := by decide +kernel
theorem dX10_init_123 : decode cX10_init 123 = .ok (.aload_n 0, 1) := by decide +kernel
theorem dX10_init_124 : decode cX10_init 124 = .ok (.sipush 1000, 3) := by decide +kernel
theorem dX10_init_127 : decode cX10_init 127 = .ok (.newarray .int, 2) := by decide +kernel
theorem dX10_init_129 : decode cX10_init 129 = .ok (.putfield 52, 3) := by decide +kernel
theorem dX10_init_132 : decode cX10_init 132 = .ok (.aload_n 0, 1) := by decide +kernel
theorem dX10_init_133 : decode cX10_init 133 = .ok (.sipush 4096, 3) := by decide +kernel
theorem dX10_init_136 : decode cX10_init 136 = .ok (.newarray .long, 2) := by decide +kernel
theorem dX10_init_138 : decode cX10_init 138 = .ok (.putfield 55, 3) := by decide +kernel
theorem dX10_init_141 : decode cX10_init 141 = .ok (.aload_n 0, 1) := by decide +kernel
theorem dX10_init_142 : decode cX10_init 142 = .ok (.bipush 64, 2) := by decide +kernel
theorem dX10_init_144 : decode cX10_init 144 = .ok (.newarray .int, 2) := by decide +kernel
theorem dX10_init_146 : decode cX10_init 146 = .ok (.putfield 59, 3) := by decide +kernel
theorem dX10_init_149 : decode cX10_init 149 = .ok (.aload_n 0, 1) := by decide +kernel
theorem dX10_init_150 : decode cX10_init 150 = .ok (.bipush 64, 2) := by decide +kernel
theorem dX10_init_152 : decode cX10_init 152 = .ok (.newarray .long, 2) := by decide +kernel
theorem dX10_init_154 : decode cX10_init 154 = .ok (.putfield 62, 3) := by decide +kernel
theorem dX10_init_157 : decode cX10_init 157 = .ok (.aload_n 0, 1) := by decide +kernel
theorem dX10_init_158 : decode cX10_init 158 = .ok (.bipush 64, 2) := by decide +kernel
theorem dX10_init_160 : decode cX10_init 160 = .ok (.newarray .long, 2) := by decide +kernel
theorem dX10_init_162 : decode cX10_init 162 = .ok (.putfield 65, 3) := by decide +kernel
theorem dX10_init_165 : decode cX10_init 165 = .ok (.aload_n 0, 1) := by decide +kernel
theorem dX10_init_166 : decode cX10_init 166 = .ok (.sipush 128, 3) := by decide +kernel
theorem dX10_init_169 : decode cX10_init 169 = .ok (.newarray .long, 2) := by decide +kernel
theorem dX10_init_171 : decode cX10_init 171 = .ok (.putfield 68, 3) := by decide +kernel
theorem dX10_init_174 : decode cX10_init 174 = .ok (.aload_n 0, 1) := by decide +kernel
theorem dX10_init_175 : decode cX10_init 175 = .ok (.sipush 128, 3) := by decide +kernel
theorem dX10_init_178 : decode cX10_init 178 = .ok (.newarray .long, 2) := by decide +kernel
theorem dX10_init_180 : decode cX10_init 180 = .ok (.putfield 71, 3) := by decide +kernel
theorem dX10_init_183 : decode cX10_init 183 = .ok (.aload_n 0, 1) := by decide +kernel
theorem dX10_init_184 : decode cX10_init 184 = .ok (.bipush 64, 2) := by decide +kernel
theorem dX10_init_186 : decode cX10_init 186 = .ok (.newarray .int, 2) := by decide +kernel
theorem dX10_init_188 : decode cX10_init 188 = .ok (.putfield 74, 3) := by decide +kernel
theorem dX10_init_191 : decode cX10_init 191 = .ok (.aload_n 0, 1) := by decide +kernel
theorem dX10_init_192 : decode cX10_init 192 = .ok (.sipush 256, 3) := by decide +kernel
theorem dX10_init_195 : decode cX10_init 195 = .ok (.newarray .int, 2) := by decide +kernel
theorem dX10_init_197 : decode cX10_init 197 = .ok (.putfield 77, 3) := by decide +kernel
theorem dX10_init_200 : decode cX10_init 200 = .ok (.aload_n 0, 1) := by decide +kernel
theorem dX10_init_201 : decode cX10_init 201 = .ok (.sipush 192, 3) := by decide +kernel
theorem dX10_init_204 : decode cX10_init 204 = .ok (.newarray .int, 2) := by decide +kernel
theorem dX10_init_206 : decode cX10_init 206 = .ok (.putfield 80, 3) := by decide +kernel
theorem dX10_init_209 : decode cX10_init 209 = .ok (.aload_n 0, 1) := by decide +kernel
theorem dX10_init_210 : decode cX10_init 210 = .ok (.bipush 64, 2) := by decide +kernel
theorem dX10_init_212 : decode cX10_init 212 = .ok (.newarray .int, 2) := by decide +kernel
theorem dX10_init_214 : decode cX10_init 214 = .ok (.putfield 83, 3) := by decide +kernel
theorem dX10_init_217 : decode cX10_init 217 = .ok (.aload_n 0, 1) := by decide +kernel
theorem dX10_init_218 : decode cX10_init 218 = .ok (.bipush 64, 2) := by decide +kernel
theorem dX10_init_220 : decode cX10_init 220 = .ok (.newarray .int, 2) := by decide +kernel
theorem dX10_init_222 : decode cX10_init 222 = .ok (.putfield 86, 3) := by decide +kernel
theorem dX10_init_225 : decode cX10_init 225 = .ok (.aload_n 0, 1) := by decide +kernel
theorem dX10_init_226 : decode cX10_init 226 = .ok (.bipush 64, 2) := by decide +kernel
theorem dX10_init_228 : decode cX10_init 228 = .ok (.newarray .int, 2) := by decide +kernel
theorem dX10_init_230 : decode cX10_init 230 = .ok (.putfield 89, 3) := by decide +kernel
theorem dX10_init_233 : decode cX10_init 233 = .ok (.aload_n 0, 1) := by decide +kernel
theorem dX10_init_234 : decode cX10_init 234 = .ok (.bipush 64, 2) := by decide +kernel
theorem dX10_init_236 : decode cX10_init 236 = .ok (.newarray .int, 2) := by decide +kernel
theorem dX10_init_238 : decode cX10_init 238 = .ok (.putfield 92, 3) := by decide +kernel
theorem dX10_init_241 : decode cX10_init 241 = .ok (.aload_n 0, 1) := by decide +kernel
theorem dX10_init_242 : decode cX10_init 242 = .ok (.bipush 64, 2) := by decide +kernel
theorem dX10_init_244 : decode cX10_init 244 = .ok (.newarray .int, 2) := by decide +kernel
theorem dX10_init_246 : decode cX10_init 246 = .ok (.putfield 95, 3) := by decide +kernel
theorem dX10_init_249 : decode cX10_init 249 = .ok (.iconst 0, 1) := by decide +kernel
theorem dX10_init_250 : decode cX10_init 250 = .ok (.istore_n 1, 1) := by decide +kernel
theorem dX10_init_251 : decode cX10_init 251 = .ok (.iload_n 1, 1) := by decide +kernel
theorem dX10_init_252 : decode cX10_init 252 = .ok (.iconst 4, 1) := by decide +kernel
theorem dX10_init_253 : decode cX10_init 253 = .ok (.if_icmp .ge 28, 3) := by decide +kernel
theorem dX10_init_256 : decode cX10_init 256 = .ok (.aload_n 0, 1) := by decide +kernel
theorem dX10_init_257 : decode cX10_init 257 = .ok (.getfield 7, 3) := by decide +kernel
theorem dX10_init_260 : decode cX10_init 260 = .ok (.iload_n 1, 1) := by decide +kernel
theorem dX10_init_261 : decode cX10_init 261 = .ok (.iconst 1, 1) := by decide +kernel
theorem dX10_init_262 : decode cX10_init 262 = .ok (.iastore, 1) := by decide +kernel
theorem dX10_init_263 : decode cX10_init 263 = .ok (.aload_n 0, 1) := by decide +kernel
theorem dX10_init_264 : decode cX10_init 264 = .ok (.getfield 7, 3) := by decide +kernel
theorem dX10_init_267 : decode cX10_init 267 = .ok (.iconst 4, 1) := by decide +kernel
theorem dX10_init_268 : decode cX10_init 268 = .ok (.bipush 60, 2) := by decide +kernel
theorem dX10_init_270 : decode cX10_init 270 = .ok (.iload_n 1, 1) := by decide +kernel
theorem dX10_init_271 : decode cX10_init 271 = .ok (.imul, 1) := by decide +kernel
theorem dX10_init_272 : decode cX10_init 272 = .ok (.iadd, 1) := by decide +kernel
theorem dX10_init_273 : decode cX10_init 273 = .ok (.iconst 1, 1) := by decide +kernel
theorem dX10_init_274 : decode cX10_init 274 = .ok (.iastore, 1) := by decide +kernel
theorem dX10_init_275 : decode cX10_init 275 = .ok (.iinc 1 1, 3) := by decide +kernel
theorem dX10_init_278 : decode cX10_init 278 = .ok (.goto (-27), 3) := by decide +kernel
theorem dX10_init_281 : decode cX10_init 281 = .ok (.return_, 1) := by decide +kernel
theorem dX10_within_0 : decode cX10_within 0 = .ok (.iload_n 0, 1) := by decide +kernel
theorem dX10_within_1 : decode cX10_within 1 = .ok (.iload_n 1, 1) := by decide +kernel
theorem dX10_within_2 : decode cX10_within 2 = .ok (.if_icmp .lt 12, 3) := by decide +kernel
theorem dX10_within_5 : decode cX10_within 5 = .ok (.iload_n 0, 1) := by decide +kernel
theorem dX10_within_6 : decode cX10_within 6 = .ok (.iload_n 2, 1) := by decide +kernel
theorem dX10_within_7 : decode cX10_within 7 = .ok (.if_icmp .gt 7, 3) := by decide +kernel
theorem dX10_within_10 : decode cX10_within 10 = .ok (.iconst 1, 1) := by decide +kernel
theorem dX10_within_11 : decode cX10_within 11 = .ok (.goto 4, 3) := by decide +kernel
theorem dX10_within_14 : decode cX10_within 14 = .ok (.iconst 0, 1) := by decide +kernel
theorem dX10_within_15 : decode cX10_within 15 = .ok (.ireturn, 1) := by decide +kernel
theorem dX10_fails_0 : decode cX10_fails 0 = .ok (.aload_n 0, 1) := by decide +kernel
theorem dX10_fails_1 : decode cX10_fails 1 = .ok (.getfield 16, 3) := by decide +kernel
theorem dX10_fails_4 : decode cX10_fails 4 = .ok (.bipush (-2), 2) := by decide +kernel
theorem dX10_fails_6 : decode cX10_fails 6 = .ok (.iload_n 1, 1) := by decide +kernel
theorem dX10_fails_7 : decode cX10_fails 7 = .ok (.isub, 1) := by decide +kernel
theorem dX10_fails_8 : decode cX10_fails 8 = .ok (.dup2, 1) := by decide +kernel
theorem dX10_fails_9 : decode cX10_fails 9 = .ok (.iaload, 1) := by decide +kernel
theorem dX10_fails_10 : decode cX10_fails 10 = .ok (.iconst 1, 1) := by decide +kernel
theorem dX10_fails_11 : decode cX10_fails 11 = .ok (.iadd, 1) := by decide +kernel
theorem dX10_fails_12 : decode cX10_fails 12 = .ok (.iastore, 1) := by decide +kernel
theorem dX10_fails_13 : decode cX10_fails 13 = .ok (.iload_n 1, 1) := by decide +kernel
theorem dX10_fails_14 : decode cX10_fails 14 = .ok (.ireturn, 1) := by decide +kernel
theorem dX10_isSlot_0 : decode cX10_isSlot 0 = .ok (.iload_n 0, 1) := by decide +kernel
theorem dX10_isSlot_1 : decode cX10_isSlot 1 = .ok (.iconst 0, 1) := by decide +kernel
theorem dX10_isSlot_2 : decode cX10_isSlot 2 = .ok (.iconst 3, 1) := by decide +kernel
theorem dX10_isSlot_3 : decode cX10_isSlot 3 = .ok (.invokestatic 98, 3) := by decide +kernel
theorem dX10_isSlot_6 : decode cX10_isSlot 6 = .ok (.ireturn, 1) := by decide +kernel
theorem dX10_signOf_0 : decode cX10_signOf 0 = .ok (.aload_n 0, 1) := by decide +kernel
theorem dX10_signOf_1 : decode cX10_signOf 1 = .ok (.getfield 7, 3) := by decide +kernel
theorem dX10_signOf_4 : decode cX10_signOf 4 = .ok (.iconst 4, 1) := by decide +kernel
theorem dX10_signOf_5 : decode cX10_signOf 5 = .ok (.bipush 60, 2) := by decide +kernel
theorem dX10_signOf_7 : decode cX10_signOf 7 = .ok (.iload_n 1, 1) := by decide +kernel
theorem dX10_signOf_8 : decode cX10_signOf 8 = .ok (.imul, 1) := by decide +kernel
theorem dX10_signOf_9 : decode cX10_signOf 9 = .ok (.iadd, 1) := by decide +kernel
theorem dX10_signOf_10 : decode cX10_signOf 10 = .ok (.iload_n 2, 1) := by decide +kernel
theorem dX10_signOf_11 : decode cX10_signOf 11 = .ok (.iadd, 1) := by decide +kernel
theorem dX10_signOf_12 : decode cX10_signOf 12 = .ok (.iaload, 1) := by decide +kernel
theorem dX10_signOf_13 : decode cX10_signOf 13 = .ok (.ireturn, 1) := by decide +kernel
theorem dX10_saves_0 : decode cX10_saves 0 = .ok (.aload_n 0, 1) := by decide +kernel
theorem dX10_saves_1 : decode cX10_saves 1 = .ok (.getfield 102, 3) := by decide +kernel
theorem dX10_saves_4 : decode cX10_saves 4 = .ok (.iconst 5, 1) := by decide +kernel
theorem dX10_saves_5 : decode cX10_saves 5 = .ok (.if_icmp .ne 44, 3) := by decide +kernel
theorem dX10_saves_8 : decode cX10_saves 8 = .ok (.iconst 0, 1) := by decide +kernel
theorem dX10_saves_9 : decode cX10_saves 9 = .ok (.istore_n 1, 1) := by decide +kernel
theorem dX10_saves_10 : decode cX10_saves 10 = .ok (.iload_n 1, 1) := by decide +kernel
theorem dX10_saves_11 : decode cX10_saves 11 = .ok (.sipush 976, 3) := by decide +kernel
theorem dX10_saves_14 : decode cX10_saves 14 = .ok (.if_icmp .ge 25, 3) := by decide +kernel
theorem dX10_saves_17 : decode cX10_saves 17 = .ok (.aload_n 0, 1) := by decide +kernel
theorem dX10_saves_18 : decode cX10_saves 18 = .ok (.getfield 13, 3) := by decide +kernel
theorem dX10_saves_21 : decode cX10_saves 21 = .ok (.iload_n 1, 1) := by decide +kernel
theorem dX10_saves_22 : decode cX10_saves 22 = .ok (.aload_n 0, 1) := by decide +kernel
theorem dX10_saves_23 : decode cX10_saves 23 = .ok (.getfield 13, 3) := by decide +kernel
theorem dX10_saves_26 : decode cX10_saves 26 = .ok (.iload_n 1, 1) := by decide +kernel
theorem dX10_saves_27 : decode cX10_saves 27 = .ok (.sipush 244, 3) := by decide +kernel
theorem dX10_saves_30 : decode cX10_saves 30 = .ok (.iadd, 1) := by decide +kernel
theorem dX10_saves_31 : decode cX10_saves 31 = .ok (.iaload, 1) := by decide +kernel
theorem dX10_saves_32 : decode cX10_saves 32 = .ok (.iastore, 1) := by decide +kernel
theorem dX10_saves_33 : decode cX10_saves 33 = .ok (.iinc 1 1, 3) := by decide +kernel
theorem dX10_saves_36 : decode cX10_saves 36 = .ok (.goto (-26), 3) := by decide +kernel
theorem dX10_saves_39 : decode cX10_saves 39 = .ok (.aload_n 0, 1) := by decide +kernel
theorem dX10_saves_40 : decode cX10_saves 40 = .ok (.dup, 1) := by decide +kernel
theorem dX10_saves_41 : decode cX10_saves 41 = .ok (.getfield 102, 3) := by decide +kernel
theorem dX10_saves_44 : decode cX10_saves 44 = .ok (.iconst 1, 1) := by decide +kernel
theorem dX10_saves_45 : decode cX10_saves 45 = .ok (.isub, 1) := by decide +kernel
theorem dX10_saves_46 : decode cX10_saves 46 = .ok (.putfield 102, 3) := by decide +kernel
theorem dX10_saves_49 : decode cX10_saves 49 = .ok (.iconst 0, 1) := by decide +kernel
theorem dX10_saves_50 : decode cX10_saves 50 = .ok (.istore_n 1, 1) := by decide +kernel
theorem dX10_saves_51 : decode cX10_saves 51 = .ok (.iload_n 1, 1) := by decide +kernel
theorem dX10_saves_52 : decode cX10_saves 52 = .ok (.sipush 244, 3) := by decide +kernel
theorem dX10_saves_55 : decode cX10_saves 55 = .ok (.if_icmp .ge 30, 3) := by decide +kernel
theorem dX10_saves_58 : decode cX10_saves 58 = .ok (.aload_n 0, 1) := by decide +kernel
theorem dX10_saves_59 : decode cX10_saves 59 = .ok (.getfield 13, 3) := by decide +kernel
theorem dX10_saves_62 : decode cX10_saves 62 = .ok (.sipush 244, 3) := by decide +kernel
theorem dX10_saves_65 : decode cX10_saves 65 = .ok (.aload_n 0, 1) := by decide +kernel
theorem dX10_saves_66 : decode cX10_saves 66 = .ok (.getfield 102, 3) := by decide +kernel
theorem dX10_saves_69 : decode cX10_saves 69 = .ok (.imul, 1) := by decide +kernel
theorem dX10_saves_70 : decode cX10_saves 70 = .ok (.iload_n 1, 1) := by decide +kernel
theorem dX10_saves_71 : decode cX10_saves 71 = .ok (.iadd, 1) := by decide +kernel
theorem dX10_saves_72 : decode cX10_saves 72 = .ok (.aload_n 0, 1) := by decide +kernel
theorem dX10_saves_73 : decode cX10_saves 73 = .ok (.getfield 7, 3) := by decide +kernel
theorem dX10_saves_76 : decode cX10_saves 76 = .ok (.iload_n 1, 1) := by decide +kernel
theorem dX10_saves_77 : decode cX10_saves 77 = .ok (.iaload, 1) := by decide +kernel
theorem dX10_saves_78 : decode cX10_saves 78 = .ok (.iastore, 1) := by decide +kernel
theorem dX10_saves_79 : decode cX10_saves 79 = .ok (.iinc 1 1, 3) := by decide +kernel
theorem dX10_saves_82 : decode cX10_saves 82 = .ok (.goto (-31), 3) := by decide +kernel
theorem dX10_saves_85 : decode cX10_saves 85 = .ok (.aload_n 0, 1) := by decide +kernel
theorem dX10_saves_86 : decode cX10_saves 86 = .ok (.dup, 1) := by decide +kernel
theorem dX10_saves_87 : decode cX10_saves 87 = .ok (.getfield 102, 3) := by decide +kernel
theorem dX10_saves_90 : decode cX10_saves 90 = .ok (.iconst 1, 1) := by decide +kernel
theorem dX10_saves_91 : decode cX10_saves 91 = .ok (.iadd, 1) := by decide +kernel
theorem dX10_saves_92 : decode cX10_saves 92 = .ok (.putfield 102, 3) := by decide +kernel
theorem dX10_saves_95 : decode cX10_saves 95 = .ok (.return_, 1) := by decide +kernel
theorem dX10_undo_0 : decode cX10_undo 0 = .ok (.aload_n 0, 1) := by decide +kernel
theorem dX10_undo_1 : decode cX10_undo 1 = .ok (.getfield 102, 3) := by decide +kernel
theorem dX10_undo_4 : decode cX10_undo 4 = .ok (.ifCond .ne 10, 3) := by decide +kernel
theorem dX10_undo_7 : decode cX10_undo 7 = .ok (.aload_n 0, 1) := by decide +kernel
theorem dX10_undo_8 : decode cX10_undo 8 = .ok (.bipush (-6), 2) := by decide +kernel
theorem dX10_undo_10 : decode cX10_undo 10 = .ok (.invokevirtual 106, 3) := by decide +kernel
theorem dX10_undo_13 : decode cX10_undo 13 = .ok (.ireturn, 1) := by decide +kernel
theorem dX10_undo_14 : decode cX10_undo 14 = .ok (.aload_n 0, 1) := by decide +kernel
theorem dX10_undo_15 : decode cX10_undo 15 = .ok (.dup, 1) := by decide +kernel
theorem dX10_undo_16 : decode cX10_undo 16 = .ok (.getfield 102, 3) := by decide +kernel
theorem dX10_undo_19 : decode cX10_undo 19 = .ok (.iconst 1, 1) := by decide +kernel
theorem dX10_undo_20 : decode cX10_undo 20 = .ok (.isub, 1) := by decide +kernel
theorem dX10_undo_21 : decode cX10_undo 21 = .ok (.putfield 102, 3) := by decide +kernel
theorem dX10_undo_24 : decode cX10_undo 24 = .ok (.iconst 0, 1) := by decide +kernel
theorem dX10_undo_25 : decode cX10_undo 25 = .ok (.istore_n 1, 1) := by decide +kernel
theorem dX10_undo_26 : decode cX10_undo 26 = .ok (.iload_n 1, 1) := by decide +kernel
theorem dX10_undo_27 : decode cX10_undo 27 = .ok (.sipush 244, 3) := by decide +kernel
theorem dX10_undo_30 : decode cX10_undo 30 = .ok (.if_icmp .ge 30, 3) := by decide +kernel
theorem dX10_undo_33 : decode cX10_undo 33 = .ok (.aload_n 0, 1) := by decide +kernel
theorem dX10_undo_34 : decode cX10_undo 34 = .ok (.getfield 7, 3) := by decide +kernel
theorem dX10_undo_37 : decode cX10_undo 37 = .ok (.iload_n 1, 1) := by decide +kernel
theorem dX10_undo_38 : decode cX10_undo 38 = .ok (.aload_n 0, 1) := by decide +kernel
theorem dX10_undo_39 : decode cX10_undo 39 = .ok (.getfield 13, 3) := by decide +kernel
theorem dX10_undo_42 : decode cX10_undo 42 = .ok (.sipush 244, 3) := by decide +kernel
theorem dX10_undo_45 : decode cX10_undo 45 = .ok (.aload_n 0, 1) := by decide +kernel
theorem dX10_undo_46 : decode cX10_undo 46 = .ok (.getfield 102, 3) := by decide +kernel
theorem dX10_undo_49 : decode cX10_undo 49 = .ok (.imul, 1) := by decide +kernel
theorem dX10_undo_50 : decode cX10_undo 50 = .ok (.iload_n 1, 1) := by decide +kernel
theorem dX10_undo_51 : decode cX10_undo 51 = .ok (.iadd, 1) := by decide +kernel
theorem dX10_undo_52 : decode cX10_undo 52 = .ok (.iaload, 1) := by decide +kernel
theorem dX10_undo_53 : decode cX10_undo 53 = .ok (.iastore, 1) := by decide +kernel
theorem dX10_undo_54 : decode cX10_undo 54 = .ok (.iinc 1 1, 3) := by decide +kernel
theorem dX10_undo_57 : decode cX10_undo 57 = .ok (.goto (-31), 3) := by decide +kernel
theorem dX10_undo_60 : decode cX10_undo 60 = .ok (.aload_n 0, 1) := by decide +kernel
theorem dX10_undo_61 : decode cX10_undo 61 = .ok (.getfield 102, 3) := by decide +kernel
theorem dX10_undo_64 : decode cX10_undo 64 = .ok (.ireturn, 1) := by decide +kernel
theorem dX10_makes_0 : decode cX10_makes 0 = .ok (.aload_n 0, 1) := by decide +kernel
theorem dX10_makes_1 : decode cX10_makes 1 = .ok (.getfield 22, 3) := by decide +kernel
theorem dX10_makes_4 : decode cX10_makes 4 = .ok (.aload_n 0, 1) := by decide +kernel
theorem dX10_makes_5 : decode cX10_makes 5 = .ok (.getfield 110, 3) := by decide +kernel
theorem dX10_makes_8 : decode cX10_makes 8 = .ok (.iload_n 1, 1) := by decide +kernel
theorem dX10_makes_9 : decode cX10_makes 9 = .ok (.iastore, 1) := by decide +kernel
theorem dX10_makes_10 : decode cX10_makes 10 = .ok (.aload_n 0, 1) := by decide +kernel
theorem dX10_makes_11 : decode cX10_makes 11 = .ok (.dup, 1) := by decide +kernel
theorem dX10_makes_12 : decode cX10_makes 12 = .ok (.getfield 110, 3) := by decide +kernel
theorem dX10_makes_15 : decode cX10_makes 15 = .ok (.iconst 1, 1) := by decide +kernel
theorem dX10_makes_16 : decode cX10_makes 16 = .ok (.iadd, 1) := by decide +kernel
theorem dX10_makes_17 : decode cX10_makes 17 = .ok (.putfield 110, 3) := by decide +kernel
theorem dX10_makes_20 : decode cX10_makes 20 = .ok (.return_, 1) := by decide +kernel
theorem dX10_waits_0 : decode cX10_waits 0 = .ok (.aload_n 0, 1) := by decide +kernel
theorem dX10_waits_1 : decode cX10_waits 1 = .ok (.getfield 25, 3) := by decide +kernel
theorem dX10_waits_4 : decode cX10_waits 4 = .ok (.aload_n 0, 1) := by decide +kernel
theorem dX10_waits_5 : decode cX10_waits 5 = .ok (.getfield 113, 3) := by decide +kernel
theorem dX10_waits_8 : decode cX10_waits 8 = .ok (.iload_n 1, 1) := by decide +kernel
theorem dX10_waits_9 : decode cX10_waits 9 = .ok (.iastore, 1) := by decide +kernel
theorem dX10_waits_10 : decode cX10_waits 10 = .ok (.aload_n 0, 1) := by decide +kernel
theorem dX10_waits_11 : decode cX10_waits 11 = .ok (.getfield 28, 3) := by decide +kernel
theorem dX10_waits_14 : decode cX10_waits 14 = .ok (.aload_n 0, 1) := by decide +kernel
theorem dX10_waits_15 : decode cX10_waits 15 = .ok (.getfield 113, 3) := by decide +kernel
theorem dX10_waits_18 : decode cX10_waits 18 = .ok (.iload_n 2, 1) := by decide +kernel
theorem dX10_waits_19 : decode cX10_waits 19 = .ok (.ifCond .eq 7, 3) := by decide +kernel
theorem dX10_waits_22 : decode cX10_waits 22 = .ok (.iconst 1, 1) := by decide +kernel
theorem dX10_waits_23 : decode cX10_waits 23 = .ok (.goto 4, 3) := by decide +kernel
theorem dX10_waits_26 : decode cX10_waits 26 = .ok (.iconst 0, 1) := by decide +kernel
theorem dX10_waits_27 : decode cX10_waits 27 = .ok (.iastore, 1) := by decide +kernel
theorem dX10_waits_28 : decode cX10_waits 28 = .ok (.aload_n 0, 1) := by decide +kernel
theorem dX10_waits_29 : decode cX10_waits 29 = .ok (.dup, 1) := by decide +kernel
theorem dX10_waits_30 : decode cX10_waits 30 = .ok (.getfield 113, 3) := by decide +kernel
theorem dX10_waits_33 : decode cX10_waits 33 = .ok (.iconst 1, 1) := by decide +kernel
theorem dX10_waits_34 : decode cX10_waits 34 = .ok (.iadd, 1) := by decide +kernel
theorem dX10_waits_35 : decode cX10_waits 35 = .ok (.putfield 113, 3) := by decide +kernel
theorem dX10_waits_38 : decode cX10_waits 38 = .ok (.return_, 1) := by decide +kernel
theorem dX10_isPredicateRow_0 : decode cX10_isPredicateRow 0 = .ok (.aload_n 0, 1) := by decide +kernel
theorem dX10_isPredicateRow_1 : decode cX10_isPredicateRow 1 = .ok (.iconst 0, 1) := by decide +kernel
theorem dX10_isPredicateRow_2 : decode cX10_isPredicateRow 2 = .ok (.putfield 113, 3) := by decide +kernel
theorem dX10_isPredicateRow_5 : decode cX10_isPredicateRow 5 = .ok (.iconst 0, 1) := by decide +kernel
theorem dX10_isPredicateRow_6 : decode cX10_isPredicateRow 6 = .ok (.istore_n 2, 1) := by decide +kernel
theorem dX10_isPredicateRow_7 : decode cX10_isPredicateRow 7 = .ok (.iload_n 2, 1) := by decide +kernel
theorem dX10_isPredicateRow_8 : decode cX10_isPredicateRow 8 = .ok (.aload_n 0, 1) := by decide +kernel
theorem dX10_isPredicateRow_9 : decode cX10_isPredicateRow 9 = .ok (.getfield 7, 3) := by decide +kernel
theorem dX10_isPredicateRow_12 : decode cX10_isPredicateRow 12 = .ok (.iload_n 1, 1) := by decide +kernel
theorem dX10_isPredicateRow_13 : decode cX10_isPredicateRow 13 = .ok (.iaload, 1) := by decide +kernel
theorem dX10_isPredicateRow_14 : decode cX10_isPredicateRow 14 = .ok (.if_icmp .ge 158, 3) := by decide +kernel
theorem dX10_isPredicateRow_17 : decode cX10_isPredicateRow 17 = .ok (.aload_n 0, 1) := by decide +kernel
theorem dX10_isPredicateRow_18 : decode cX10_isPredicateRow 18 = .ok (.iload_n 1, 1) := by decide +kernel
theorem dX10_isPredicateRow_19 : decode cX10_isPredicateRow 19 = .ok (.iload_n 2, 1) := by decide +kernel
theorem dX10_isPredicateRow_20 : decode cX10_isPredicateRow 20 = .ok (.invokevirtual 116, 3) := by decide +kernel
theorem dX10_isPredicateRow_23 : decode cX10_isPredicateRow 23 = .ok (.istore_n 3, 1) := by decide +kernel
theorem dX10_isPredicateRow_24 : decode cX10_isPredicateRow 24 = .ok (.iload_n 3, 1) := by decide +kernel
theorem dX10_isPredicateRow_25 : decode cX10_isPredicateRow 25 = .ok (.bipush 50, 2) := by decide +kernel
theorem dX10_isPredicateRow_27 : decode cX10_isPredicateRow 27 = .ok (.if_icmp .ge 22, 3) := by decide +kernel
theorem dX10_isPredicateRow_30 : decode cX10_isPredicateRow 30 = .ok (.aload_n 0, 1) := by decide +kernel
theorem dX10_isPredicateRow_31 : decode cX10_isPredicateRow 31 = .ok (.iconst 0, 1) := by decide +kernel
theorem dX10_isPredicateRow_32 : decode cX10_isPredicateRow 32 = .ok (.iload_n 3, 1) := by decide +kernel
theorem dX10_isPredicateRow_33 : decode cX10_isPredicateRow 33 = .ok (.bipush 30, 2) := by decide +kernel
theorem dX10_isPredicateRow_35 : decode cX10_isPredicateRow 35 = .ok (.if_icmp .ge 7, 3) := by decide +kernel
theorem dX10_isPredicateRow_38 : decode cX10_isPredicateRow 38 = .ok (.iconst 1, 1) := by decide +kernel
theorem dX10_isPredicateRow_39 : decode cX10_isPredicateRow 39 = .ok (.goto 4, 3) := by decide +kernel
theorem dX10_isPredicateRow_42 : decode cX10_isPredicateRow 42 = .ok (.iconst 0, 1) := by decide +kernel
theorem dX10_isPredicateRow_43 : decode cX10_isPredicateRow 43 = .ok (.invokevirtual 120, 3) := by decide +kernel
theorem dX10_isPredicateRow_46 : decode cX10_isPredicateRow 46 = .ok (.goto 120, 3) := by decide +kernel
theorem dX10_isPredicateRow_49 : decode cX10_isPredicateRow 49 = .ok (.iload_n 3, 1) := by decide +kernel
theorem dX10_isPredicateRow_50 : decode cX10_isPredicateRow 50 = .ok (.bipush 52, 2) := by decide +kernel
theorem dX10_isPredicateRow_52 : decode cX10_isPredicateRow 52 = .ok (.if_icmp .ne 18, 3) := by decide +kernel
theorem dX10_isPredicateRow_55 : decode cX10_isPredicateRow 55 = .ok (.aload_n 0, 1) := by decide +kernel
theorem dX10_isPredicateRow_56 : decode cX10_isPredicateRow 56 = .ok (.getfield 28, 3) := by decide +kernel
theorem dX10_isPredicateRow_59 : decode cX10_isPredicateRow 59 = .ok (.aload_n 0, 1) := by decide +kernel
theorem dX10_isPredicateRow_60 : decode cX10_isPredicateRow 60 = .ok (.getfield 113, 3) := by decide +kernel
theorem dX10_isPredicateRow_63 : decode cX10_isPredicateRow 63 = .ok (.iconst 1, 1) := by decide +kernel
theorem dX10_isPredicateRow_64 : decode cX10_isPredicateRow 64 = .ok (.isub, 1) := by decide +kernel
theorem dX10_isPredicateRow_65 : decode cX10_isPredicateRow 65 = .ok (.iconst 0, 1) := by decide +kernel
theorem dX10_isPredicateRow_66 : decode cX10_isPredicateRow 66 = .ok (.iastore, 1) := by decide +kernel
theorem dX10_isPredicateRow_67 : decode cX10_isPredicateRow 67 = .ok (.goto 99, 3) := by decide +kernel
theorem dX10_isPredicateRow_70 : decode cX10_isPredicateRow 70 = .ok (.iload_n 3, 1) := by decide +kernel
theorem dX10_isPredicateRow_71 : decode cX10_isPredicateRow 71 = .ok (.bipush 50, 2) := by decide +kernel
theorem dX10_isPredicateRow_73 : decode cX10_isPredicateRow 73 = .ok (.if_icmp .eq 9, 3) := by decide +kernel
theorem dX10_isPredicateRow_76 : decode cX10_isPredicateRow 76 = .ok (.iload_n 3, 1) := by decide +kernel
theorem dX10_isPredicateRow_77 : decode cX10_isPredicateRow 77 = .ok (.bipush 51, 2) := by decide +kernel
theorem dX10_isPredicateRow_79 : decode cX10_isPredicateRow 79 = .ok (.if_icmp .ne 39, 3) := by decide +kernel
theorem dX10_isPredicateRow_82 : decode cX10_isPredicateRow 82 = .ok (.aload_n 0, 1) := by decide +kernel
theorem dX10_isPredicateRow_83 : decode cX10_isPredicateRow 83 = .ok (.dup, 1) := by decide +kernel
theorem dX10_isPredicateRow_84 : decode cX10_isPredicateRow 84 = .ok (.getfield 113, 3) := by decide +kernel
theorem dX10_isPredicateRow_87 : decode cX10_isPredicateRow 87 = .ok (.iconst 1, 1) := by decide +kernel
theorem dX10_isPredicateRow_88 : decode cX10_isPredicateRow 88 = .ok (.isub, 1) := by decide +kernel
theorem dX10_isPredicateRow_89 : decode cX10_isPredicateRow 89 = .ok (.putfield 113, 3) := by decide +kernel
theorem dX10_isPredicateRow_92 : decode cX10_isPredicateRow 92 = .ok (.aload_n 0, 1) := by decide +kernel
theorem dX10_isPredicateRow_93 : decode cX10_isPredicateRow 93 = .ok (.getfield 28, 3) := by decide +kernel
theorem dX10_isPredicateRow_96 : decode cX10_isPredicateRow 96 = .ok (.aload_n 0, 1) := by decide +kernel
theorem dX10_isPredicateRow_97 : decode cX10_isPredicateRow 97 = .ok (.getfield 113, 3) := by decide +kernel
theorem dX10_isPredicateRow_100 : decode cX10_isPredicateRow 100 = .ok (.iconst 1, 1) := by decide +kernel
theorem dX10_isPredicateRow_101 : decode cX10_isPredicateRow 101 = .ok (.isub, 1) := by decide +kernel
theorem dX10_isPredicateRow_102 : decode cX10_isPredicateRow 102 = .ok (.dup2, 1) := by decide +kernel
theorem dX10_isPredicateRow_103 : decode cX10_isPredicateRow 103 = .ok (.iaload, 1) := by decide +kernel
theorem dX10_isPredicateRow_104 : decode cX10_isPredicateRow 104 = .ok (.aload_n 0, 1) := by decide +kernel
theorem dX10_isPredicateRow_105 : decode cX10_isPredicateRow 105 = .ok (.getfield 28, 3) := by decide +kernel
theorem dX10_isPredicateRow_108 : decode cX10_isPredicateRow 108 = .ok (.aload_n 0, 1) := by decide +kernel
theorem dX10_isPredicateRow_109 : decode cX10_isPredicateRow 109 = .ok (.getfield 113, 3) := by decide +kernel
theorem dX10_isPredicateRow_112 : decode cX10_isPredicateRow 112 = .ok (.iaload, 1) := by decide +kernel
theorem dX10_isPredicateRow_113 : decode cX10_isPredicateRow 113 = .ok (.iand, 1) := by decide +kernel
theorem dX10_isPredicateRow_114 : decode cX10_isPredicateRow 114 = .ok (.iastore, 1) := by decide +kernel
theorem dX10_isPredicateRow_115 : decode cX10_isPredicateRow 115 = .ok (.goto 51, 3) := by decide +kernel
theorem dX10_isPredicateRow_118 : decode cX10_isPredicateRow 118 = .ok (.iload_n 3, 1) := by decide +kernel
theorem dX10_isPredicateRow_119 : decode cX10_isPredicateRow 119 = .ok (.bipush 54, 2) := by decide +kernel
theorem dX10_isPredicateRow_121 : decode cX10_isPredicateRow 121 = .ok (.if_icmp .ne 45, 3) := by decide +kernel
theorem dX10_isPredicateRow_124 : decode cX10_isPredicateRow 124 = .ok (.aload_n 0, 1) := by decide +kernel
theorem dX10_isPredicateRow_125 : decode cX10_isPredicateRow 125 = .ok (.dup, 1) := by decide +kernel
theorem dX10_isPredicateRow_126 : decode cX10_isPredicateRow 126 = .ok (.getfield 113, 3) := by decide +kernel
theorem dX10_isPredicateRow_129 : decode cX10_isPredicateRow 129 = .ok (.iconst 2, 1) := by decide +kernel
theorem dX10_isPredicateRow_130 : decode cX10_isPredicateRow 130 = .ok (.isub, 1) := by decide +kernel
theorem dX10_isPredicateRow_131 : decode cX10_isPredicateRow 131 = .ok (.putfield 113, 3) := by decide +kernel
theorem dX10_isPredicateRow_134 : decode cX10_isPredicateRow 134 = .ok (.aload_n 0, 1) := by decide +kernel
theorem dX10_isPredicateRow_135 : decode cX10_isPredicateRow 135 = .ok (.getfield 28, 3) := by decide +kernel
theorem dX10_isPredicateRow_138 : decode cX10_isPredicateRow 138 = .ok (.aload_n 0, 1) := by decide +kernel
theorem dX10_isPredicateRow_139 : decode cX10_isPredicateRow 139 = .ok (.getfield 113, 3) := by decide +kernel
theorem dX10_isPredicateRow_142 : decode cX10_isPredicateRow 142 = .ok (.iconst 1, 1) := by decide +kernel
theorem dX10_isPredicateRow_143 : decode cX10_isPredicateRow 143 = .ok (.isub, 1) := by decide +kernel
theorem dX10_isPredicateRow_144 : decode cX10_isPredicateRow 144 = .ok (.aload_n 0, 1) := by decide +kernel
theorem dX10_isPredicateRow_145 : decode cX10_isPredicateRow 145 = .ok (.getfield 28, 3) := by decide +kernel
theorem dX10_isPredicateRow_148 : decode cX10_isPredicateRow 148 = .ok (.aload_n 0, 1) := by decide +kernel
theorem dX10_isPredicateRow_149 : decode cX10_isPredicateRow 149 = .ok (.getfield 113, 3) := by decide +kernel
theorem dX10_isPredicateRow_152 : decode cX10_isPredicateRow 152 = .ok (.iaload, 1) := by decide +kernel
theorem dX10_isPredicateRow_153 : decode cX10_isPredicateRow 153 = .ok (.aload_n 0, 1) := by decide +kernel
theorem dX10_isPredicateRow_154 : decode cX10_isPredicateRow 154 = .ok (.getfield 28, 3) := by decide +kernel
theorem dX10_isPredicateRow_157 : decode cX10_isPredicateRow 157 = .ok (.aload_n 0, 1) := by decide +kernel
theorem dX10_isPredicateRow_158 : decode cX10_isPredicateRow 158 = .ok (.getfield 113, 3) := by decide +kernel
theorem dX10_isPredicateRow_161 : decode cX10_isPredicateRow 161 = .ok (.iconst 1, 1) := by decide +kernel
theorem dX10_isPredicateRow_162 : decode cX10_isPredicateRow 162 = .ok (.iadd, 1) := by decide +kernel
theorem dX10_isPredicateRow_163 : decode cX10_isPredicateRow 163 = .ok (.iaload, 1) := by decide +kernel
theorem dX10_isPredicateRow_164 : decode cX10_isPredicateRow 164 = .ok (.iand, 1) := by decide +kernel
theorem dX10_isPredicateRow_165 : decode cX10_isPredicateRow 165 = .ok (.iastore, 1) := by decide +kernel
theorem dX10_isPredicateRow_166 : decode cX10_isPredicateRow 166 = .ok (.iinc 2 1, 3) := by decide +kernel
theorem dX10_isPredicateRow_169 : decode cX10_isPredicateRow 169 = .ok (.goto (-162), 3) := by decide +kernel
theorem dX10_isPredicateRow_172 : decode cX10_isPredicateRow 172 = .ok (.aload_n 0, 1) := by decide +kernel
theorem dX10_isPredicateRow_173 : decode cX10_isPredicateRow 173 = .ok (.getfield 28, 3) := by decide +kernel
theorem dX10_isPredicateRow_176 : decode cX10_isPredicateRow 176 = .ok (.iconst 0, 1) := by decide +kernel
theorem dX10_isPredicateRow_177 : decode cX10_isPredicateRow 177 = .ok (.iaload, 1) := by decide +kernel
theorem dX10_isPredicateRow_178 : decode cX10_isPredicateRow 178 = .ok (.iconst 1, 1) := by decide +kernel
theorem dX10_isPredicateRow_179 : decode cX10_isPredicateRow 179 = .ok (.if_icmp .ne 7, 3) := by decide +kernel
theorem dX10_isPredicateRow_182 : decode cX10_isPredicateRow 182 = .ok (.iconst 1, 1) := by decide +kernel
theorem dX10_isPredicateRow_183 : decode cX10_isPredicateRow 183 = .ok (.goto 4, 3) := by decide +kernel
theorem dX10_isPredicateRow_186 : decode cX10_isPredicateRow 186 = .ok (.iconst 0, 1) := by decide +kernel
theorem dX10_isPredicateRow_187 : decode cX10_isPredicateRow 187 = .ok (.ireturn, 1) := by decide +kernel
theorem dX10_keeps_0 : decode cX10_keeps 0 = .ok (.aload_n 0, 1) := by decide +kernel
theorem dX10_keeps_1 : decode cX10_keeps 1 = .ok (.invokevirtual 124, 3) := by decide +kernel
theorem dX10_keeps_4 : decode cX10_keeps 4 = .ok (.aload_n 0, 1) := by decide +kernel
theorem dX10_keeps_5 : decode cX10_keeps 5 = .ok (.getfield 7, 3) := by decide +kernel
theorem dX10_keeps_8 : decode cX10_keeps 8 = .ok (.iload_n 1, 1) := by decide +kernel
theorem dX10_keeps_9 : decode cX10_keeps 9 = .ok (.aload_n 0, 1) := by decide +kernel
theorem dX10_keeps_10 : decode cX10_keeps 10 = .ok (.getfield 110, 3) := by decide +kernel
theorem dX10_keeps_13 : decode cX10_keeps 13 = .ok (.iastore, 1) := by decide +kernel
theorem dX10_keeps_14 : decode cX10_keeps 14 = .ok (.iconst 0, 1) := by decide +kernel
theorem dX10_keeps_15 : decode cX10_keeps 15 = .ok (.istore_n 2, 1) := by decide +kernel
theorem dX10_keeps_16 : decode cX10_keeps 16 = .ok (.iload_n 2, 1) := by decide +kernel
theorem dX10_keeps_17 : decode cX10_keeps 17 = .ok (.aload_n 0, 1) := by decide +kernel
theorem dX10_keeps_18 : decode cX10_keeps 18 = .ok (.getfield 110, 3) := by decide +kernel
theorem dX10_keeps_21 : decode cX10_keeps 21 = .ok (.if_icmp .ge 28, 3) := by decide +kernel
theorem dX10_keeps_24 : decode cX10_keeps 24 = .ok (.aload_n 0, 1) := by decide +kernel
theorem dX10_keeps_25 : decode cX10_keeps 25 = .ok (.getfield 7, 3) := by decide +kernel
theorem dX10_keeps_28 : decode cX10_keeps 28 = .ok (.iconst 4, 1) := by decide +kernel
theorem dX10_keeps_29 : decode cX10_keeps 29 = .ok (.bipush 60, 2) := by decide +kernel
theorem dX10_keeps_31 : decode cX10_keeps 31 = .ok (.iload_n 1, 1) := by decide +kernel
theorem dX10_keeps_32 : decode cX10_keeps 32 = .ok (.imul, 1) := by decide +kernel
theorem dX10_keeps_33 : decode cX10_keeps 33 = .ok (.iadd, 1) := by decide +kernel
theorem dX10_keeps_34 : decode cX10_keeps 34 = .ok (.iload_n 2, 1) := by decide +kernel
theorem dX10_keeps_35 : decode cX10_keeps 35 = .ok (.iadd, 1) := by decide +kernel
theorem dX10_keeps_36 : decode cX10_keeps 36 = .ok (.aload_n 0, 1) := by decide +kernel
theorem dX10_keeps_37 : decode cX10_keeps 37 = .ok (.getfield 22, 3) := by decide +kernel
theorem dX10_keeps_40 : decode cX10_keeps 40 = .ok (.iload_n 2, 1) := by decide +kernel
theorem dX10_keeps_41 : decode cX10_keeps 41 = .ok (.iaload, 1) := by decide +kernel
theorem dX10_keeps_42 : decode cX10_keeps 42 = .ok (.iastore, 1) := by decide +kernel
theorem dX10_keeps_43 : decode cX10_keeps 43 = .ok (.iinc 2 1, 3) := by decide +kernel
theorem dX10_keeps_46 : decode cX10_keeps 46 = .ok (.goto (-30), 3) := by decide +kernel
theorem dX10_keeps_49 : decode cX10_keeps 49 = .ok (.aload_n 0, 1) := by decide +kernel
theorem dX10_keeps_50 : decode cX10_keeps 50 = .ok (.getfield 110, 3) := by decide +kernel
theorem dX10_keeps_53 : decode cX10_keeps 53 = .ok (.ireturn, 1) := by decide +kernel
theorem dX10_copies_0 : decode cX10_copies 0 = .ok (.iconst 0, 1) := by decide +kernel
theorem dX10_copies_1 : decode cX10_copies 1 = .ok (.istore_n 2, 1) := by decide +kernel
theorem dX10_copies_2 : decode cX10_copies 2 = .ok (.iload_n 2, 1) := by decide +kernel
theorem dX10_copies_3 : decode cX10_copies 3 = .ok (.aload_n 0, 1) := by decide +kernel
theorem dX10_copies_4 : decode cX10_copies 4 = .ok (.getfield 7, 3) := by decide +kernel
theorem dX10_copies_7 : decode cX10_copies 7 = .ok (.iload_n 1, 1) := by decide +kernel
theorem dX10_copies_8 : decode cX10_copies 8 = .ok (.iaload, 1) := by decide +kernel
theorem dX10_copies_9 : decode cX10_copies 9 = .ok (.if_icmp .ge 19, 3) := by decide +kernel
theorem dX10_copies_12 : decode cX10_copies 12 = .ok (.aload_n 0, 1) := by decide +kernel
theorem dX10_copies_13 : decode cX10_copies 13 = .ok (.aload_n 0, 1) := by decide +kernel
theorem dX10_copies_14 : decode cX10_copies 14 = .ok (.iload_n 1, 1) := by decide +kernel
theorem dX10_copies_15 : decode cX10_copies 15 = .ok (.iload_n 2, 1) := by decide +kernel
theorem dX10_copies_16 : decode cX10_copies 16 = .ok (.invokevirtual 116, 3) := by decide +kernel
theorem dX10_copies_19 : decode cX10_copies 19 = .ok (.invokevirtual 127, 3) := by decide +kernel
theorem dX10_copies_22 : decode cX10_copies 22 = .ok (.iinc 2 1, 3) := by decide +kernel
theorem dX10_copies_25 : decode cX10_copies 25 = .ok (.goto (-23), 3) := by decide +kernel
theorem dX10_copies_28 : decode cX10_copies 28 = .ok (.return_, 1) := by decide +kernel
theorem dX10_append_0 : decode cX10_append 0 = .ok (.iload_n 1, 1) := by decide +kernel
theorem dX10_append_1 : decode cX10_append 1 = .ok (.iconst 0, 1) := by decide +kernel
theorem dX10_append_2 : decode cX10_append 2 = .ok (.bipush 127, 2) := by decide +kernel
theorem dX10_append_4 : decode cX10_append 4 = .ok (.invokestatic 98, 3) := by decide +kernel
theorem dX10_append_7 : decode cX10_append 7 = .ok (.ifCond .ne 10, 3) := by decide +kernel
theorem dX10_append_10 : decode cX10_append 10 = .ok (.aload_n 0, 1) := by decide +kernel
theorem dX10_append_11 : decode cX10_append 11 = .ok (.bipush (-2), 2) := by decide +kernel
theorem dX10_append_13 : decode cX10_append 13 = .ok (.invokevirtual 106, 3) := by decide +kernel
theorem dX10_append_16 : decode cX10_append 16 = .ok (.ireturn, 1) := by decide +kernel
theorem dX10_append_17 : decode cX10_append 17 = .ok (.aload_n 0, 1) := by decide +kernel
theorem dX10_append_18 : decode cX10_append 18 = .ok (.getfield 131, 3) := by decide +kernel
theorem dX10_append_21 : decode cX10_append 21 = .ok (.sipush 150, 3) := by decide +kernel
theorem dX10_append_24 : decode cX10_append 24 = .ok (.if_icmp .ne 10, 3) := by decide +kernel
theorem dX10_append_27 : decode cX10_append 27 = .ok (.aload_n 0, 1) := by decide +kernel
theorem dX10_append_28 : decode cX10_append 28 = .ok (.bipush (-5), 2) := by decide +kernel
theorem dX10_append_30 : decode cX10_append 30 = .ok (.invokevirtual 106, 3) := by decide +kernel
theorem dX10_append_33 : decode cX10_append 33 = .ok (.ireturn, 1) := by decide +kernel
theorem dX10_append_34 : decode cX10_append 34 = .ok (.aload_n 0, 1) := by decide +kernel
theorem dX10_append_35 : decode cX10_append 35 = .ok (.getfield 19, 3) := by decide +kernel
theorem dX10_append_38 : decode cX10_append 38 = .ok (.aload_n 0, 1) := by decide +kernel
theorem dX10_append_39 : decode cX10_append 39 = .ok (.getfield 131, 3) := by decide +kernel
theorem dX10_append_42 : decode cX10_append 42 = .ok (.iload_n 1, 1) := by decide +kernel
theorem dX10_append_43 : decode cX10_append 43 = .ok (.iastore, 1) := by decide +kernel
theorem dX10_append_44 : decode cX10_append 44 = .ok (.aload_n 0, 1) := by decide +kernel
theorem dX10_append_45 : decode cX10_append 45 = .ok (.dup, 1) := by decide +kernel
theorem dX10_append_46 : decode cX10_append 46 = .ok (.getfield 131, 3) := by decide +kernel
theorem dX10_append_49 : decode cX10_append 49 = .ok (.iconst 1, 1) := by decide +kernel
theorem dX10_append_50 : decode cX10_append 50 = .ok (.iadd, 1) := by decide +kernel
theorem dX10_append_51 : decode cX10_append 51 = .ok (.putfield 131, 3) := by decide +kernel
theorem dX10_append_54 : decode cX10_append 54 = .ok (.aload_n 0, 1) := by decide +kernel
theorem dX10_append_55 : decode cX10_append 55 = .ok (.getfield 131, 3) := by decide +kernel
theorem dX10_append_58 : decode cX10_append 58 = .ok (.ireturn, 1) := by decide +kernel
theorem dX10_clearText_0 : decode cX10_clearText 0 = .ok (.aload_n 0, 1) := by decide +kernel
theorem dX10_clearText_1 : decode cX10_clearText 1 = .ok (.getfield 131, 3) := by decide +kernel
theorem dX10_clearText_4 : decode cX10_clearText 4 = .ok (.istore_n 1, 1) := by decide +kernel
theorem dX10_clearText_5 : decode cX10_clearText 5 = .ok (.aload_n 0, 1) := by decide +kernel
theorem dX10_clearText_6 : decode cX10_clearText 6 = .ok (.iconst 0, 1) := by decide +kernel
theorem dX10_clearText_7 : decode cX10_clearText 7 = .ok (.putfield 131, 3) := by decide +kernel
theorem dX10_clearText_10 : decode cX10_clearText 10 = .ok (.iload_n 1, 1) := by decide +kernel
theorem dX10_clearText_11 : decode cX10_clearText 11 = .ok (.ireturn, 1) := by decide +kernel
theorem dX10_byteAt_0 : decode cX10_byteAt 0 = .ok (.iload_n 1, 1) := by decide +kernel
theorem dX10_byteAt_1 : decode cX10_byteAt 1 = .ok (.aload_n 0, 1) := by decide +kernel
theorem dX10_byteAt_2 : decode cX10_byteAt 2 = .ok (.getfield 131, 3) := by decide +kernel
theorem dX10_byteAt_5 : decode cX10_byteAt 5 = .ok (.if_icmp .ge 12, 3) := by decide +kernel
theorem dX10_byteAt_8 : decode cX10_byteAt 8 = .ok (.aload_n 0, 1) := by decide +kernel
theorem dX10_byteAt_9 : decode cX10_byteAt 9 = .ok (.getfield 19, 3) := by decide +kernel
theorem dX10_byteAt_12 : decode cX10_byteAt 12 = .ok (.iload_n 1, 1) := by decide +kernel
theorem dX10_byteAt_13 : decode cX10_byteAt 13 = .ok (.iaload, 1) := by decide +kernel
theorem dX10_byteAt_14 : decode cX10_byteAt 14 = .ok (.goto 4, 3) := by decide +kernel
theorem dX10_byteAt_17 : decode cX10_byteAt 17 = .ok (.iconst (-1), 1) := by decide +kernel
theorem dX10_byteAt_18 : decode cX10_byteAt 18 = .ok (.ireturn, 1) := by decide +kernel
theorem dX10_lastOpen_0 : decode cX10_lastOpen 0 = .ok (.aload_n 0, 1) := by decide +kernel
theorem dX10_lastOpen_1 : decode cX10_lastOpen 1 = .ok (.getfield 134, 3) := by decide +kernel
theorem dX10_lastOpen_4 : decode cX10_lastOpen 4 = .ok (.ifCond .ne 7, 3) := by decide +kernel
theorem dX10_lastOpen_7 : decode cX10_lastOpen 7 = .ok (.iconst (-1), 1) := by decide +kernel
theorem dX10_lastOpen_8 : decode cX10_lastOpen 8 = .ok (.goto 14, 3) := by decide +kernel
theorem dX10_lastOpen_11 : decode cX10_lastOpen 11 = .ok (.aload_n 0, 1) := by decide +kernel
theorem dX10_lastOpen_12 : decode cX10_lastOpen 12 = .ok (.getfield 31, 3) := by decide +kernel
theorem dX10_lastOpen_15 : decode cX10_lastOpen 15 = .ok (.aload_n 0, 1) := by decide +kernel
theorem dX10_lastOpen_16 : decode cX10_lastOpen 16 = .ok (.getfield 134, 3) := by decide +kernel
theorem dX10_lastOpen_19 : decode cX10_lastOpen 19 = .ok (.iconst 1, 1) := by decide +kernel
theorem dX10_lastOpen_20 : decode cX10_lastOpen 20 = .ok (.isub, 1) := by decide +kernel
theorem dX10_lastOpen_21 : decode cX10_lastOpen 21 = .ok (.iaload, 1) := by decide +kernel
theorem dX10_lastOpen_22 : decode cX10_lastOpen 22 = .ok (.ireturn, 1) := by decide +kernel
theorem dX10_pushes_0 : decode cX10_pushes 0 = .ok (.aload_n 0, 1) := by decide +kernel
theorem dX10_pushes_1 : decode cX10_pushes 1 = .ok (.getfield 31, 3) := by decide +kernel
theorem dX10_pushes_4 : decode cX10_pushes 4 = .ok (.aload_n 0, 1) := by decide +kernel
theorem dX10_pushes_5 : decode cX10_pushes 5 = .ok (.getfield 134, 3) := by decide +kernel
theorem dX10_pushes_8 : decode cX10_pushes 8 = .ok (.iload_n 1, 1) := by decide +kernel
theorem dX10_pushes_9 : decode cX10_pushes 9 = .ok (.iastore, 1) := by decide +kernel
theorem dX10_pushes_10 : decode cX10_pushes 10 = .ok (.aload_n 0, 1) := by decide +kernel
theorem dX10_pushes_11 : decode cX10_pushes 11 = .ok (.getfield 34, 3) := by decide +kernel
theorem dX10_pushes_14 : decode cX10_pushes 14 = .ok (.aload_n 0, 1) := by decide +kernel
theorem dX10_pushes_15 : decode cX10_pushes 15 = .ok (.getfield 134, 3) := by decide +kernel
theorem dX10_pushes_18 : decode cX10_pushes 18 = .ok (.aload_n 0, 1) := by decide +kernel
theorem dX10_pushes_19 : decode cX10_pushes 19 = .ok (.getfield 137, 3) := by decide +kernel
theorem dX10_pushes_22 : decode cX10_pushes 22 = .ok (.iastore, 1) := by decide +kernel
theorem dX10_pushes_23 : decode cX10_pushes 23 = .ok (.aload_n 0, 1) := by decide +kernel
theorem dX10_pushes_24 : decode cX10_pushes 24 = .ok (.dup, 1) := by decide +kernel
theorem dX10_pushes_25 : decode cX10_pushes 25 = .ok (.getfield 134, 3) := by decide +kernel
theorem dX10_pushes_28 : decode cX10_pushes 28 = .ok (.iconst 1, 1) := by decide +kernel
theorem dX10_pushes_29 : decode cX10_pushes 29 = .ok (.iadd, 1) := by decide +kernel
theorem dX10_pushes_30 : decode cX10_pushes 30 = .ok (.putfield 134, 3) := by decide +kernel
theorem dX10_pushes_33 : decode cX10_pushes 33 = .ok (.return_, 1) := by decide +kernel
theorem dX10_field_0 : decode cX10_field 0 = .ok (.aload_n 0, 1) := by decide +kernel
theorem dX10_field_1 : decode cX10_field 1 = .ok (.aload_n 0, 1) := by decide +kernel
theorem dX10_field_2 : decode cX10_field 2 = .ok (.getfield 137, 3) := by decide +kernel
theorem dX10_field_5 : decode cX10_field 5 = .ok (.iconst 1, 1) := by decide +kernel
theorem dX10_field_6 : decode cX10_field 6 = .ok (.iadd, 1) := by decide +kernel
theorem dX10_field_7 : decode cX10_field 7 = .ok (.invokevirtual 140, 3) := by decide +kernel
theorem dX10_field_10 : decode cX10_field 10 = .ok (.istore_n 2, 1) := by decide +kernel
theorem dX10_field_11 : decode cX10_field 11 = .ok (.iload_n 2, 1) := by decide +kernel
theorem dX10_field_12 : decode cX10_field 12 = .ok (.bipush 61, 2) := by decide +kernel
theorem dX10_field_14 : decode cX10_field 14 = .ok (.if_icmp .eq 16, 3) := by decide +kernel
theorem dX10_field_17 : decode cX10_field 17 = .ok (.iload_n 2, 1) := by decide +kernel
theorem dX10_field_18 : decode cX10_field 18 = .ok (.bipush 58, 2) := by decide +kernel
theorem dX10_field_20 : decode cX10_field 20 = .ok (.if_icmp .eq 10, 3) := by decide +kernel
theorem dX10_field_23 : decode cX10_field 23 = .ok (.aload_n 0, 1) := by decide +kernel
theorem dX10_field_24 : decode cX10_field 24 = .ok (.getfield 137, 3) := by decide +kernel
theorem dX10_field_27 : decode cX10_field 27 = .ok (.iconst 1, 1) := by decide +kernel
theorem dX10_field_28 : decode cX10_field 28 = .ok (.iadd, 1) := by decide +kernel
theorem dX10_field_29 : decode cX10_field 29 = .ok (.ireturn, 1) := by decide +kernel
theorem dX10_field_30 : decode cX10_field 30 = .ok (.aload_n 0, 1) := by decide +kernel
theorem dX10_field_31 : decode cX10_field 31 = .ok (.aload_n 0, 1) := by decide +kernel
theorem dX10_field_32 : decode cX10_field 32 = .ok (.getfield 137, 3) := by decide +kernel
theorem dX10_field_35 : decode cX10_field 35 = .ok (.iconst 2, 1) := by decide +kernel
theorem dX10_field_36 : decode cX10_field 36 = .ok (.iadd, 1) := by decide +kernel
theorem dX10_field_37 : decode cX10_field 37 = .ok (.invokevirtual 140, 3) := by decide +kernel
theorem dX10_field_40 : decode cX10_field 40 = .ok (.bipush 48, 2) := by decide +kernel
theorem dX10_field_42 : decode cX10_field 42 = .ok (.bipush 51, 2) := by decide +kernel
theorem dX10_field_44 : decode cX10_field 44 = .ok (.invokestatic 98, 3) := by decide +kernel
theorem dX10_field_47 : decode cX10_field 47 = .ok (.ifCond .ne 10, 3) := by decide +kernel
theorem dX10_field_50 : decode cX10_field 50 = .ok (.aload_n 0, 1) := by decide +kernel
theorem dX10_field_51 : decode cX10_field 51 = .ok (.getfield 137, 3) := by decide +kernel
theorem dX10_field_54 : decode cX10_field 54 = .ok (.iconst 2, 1) := by decide +kernel
theorem dX10_field_55 : decode cX10_field 55 = .ok (.iadd, 1) := by decide +kernel
theorem dX10_field_56 : decode cX10_field 56 = .ok (.ireturn, 1) := by decide +kernel
theorem dX10_field_57 : decode cX10_field 57 = .ok (.aload_n 0, 1) := by decide +kernel
theorem dX10_field_58 : decode cX10_field 58 = .ok (.iload_n 2, 1) := by decide +kernel
theorem dX10_field_59 : decode cX10_field 59 = .ok (.bipush 61, 2) := by decide +kernel
theorem dX10_field_61 : decode cX10_field 61 = .ok (.if_icmp .ne 8, 3) := by decide +kernel
theorem dX10_field_64 : decode cX10_field 64 = .ok (.bipush 10, 2) := by decide +kernel
theorem dX10_field_66 : decode cX10_field 66 = .ok (.goto 5, 3) := by decide +kernel
theorem dX10_field_69 : decode cX10_field 69 = .ok (.bipush 30, 2) := by decide +kernel
theorem dX10_field_71 : decode cX10_field 71 = .ok (.iconst 4, 1) := by decide +kernel
theorem dX10_field_72 : decode cX10_field 72 = .ok (.iload_n 1, 1) := by decide +kernel
theorem dX10_field_73 : decode cX10_field 73 = .ok (.bipush 120, 2) := by decide +kernel
theorem dX10_field_75 : decode cX10_field 75 = .ok (.isub, 1) := by decide +kernel
theorem dX10_field_76 : decode cX10_field 76 = .ok (.imul, 1) := by decide +kernel
theorem dX10_field_77 : decode cX10_field 77 = .ok (.iadd, 1) := by decide +kernel
theorem dX10_field_78 : decode cX10_field 78 = .ok (.aload_n 0, 1) := by decide +kernel
theorem dX10_field_79 : decode cX10_field 79 = .ok (.aload_n 0, 1) := by decide +kernel
theorem dX10_field_80 : decode cX10_field 80 = .ok (.getfield 137, 3) := by decide +kernel
theorem dX10_field_83 : decode cX10_field 83 = .ok (.iconst 2, 1) := by decide +kernel
theorem dX10_field_84 : decode cX10_field 84 = .ok (.iadd, 1) := by decide +kernel
theorem dX10_field_85 : decode cX10_field 85 = .ok (.invokevirtual 140, 3) := by decide +kernel
theorem dX10_field_88 : decode cX10_field 88 = .ok (.iadd, 1) := by decide +kernel
theorem dX10_field_89 : decode cX10_field 89 = .ok (.bipush 48, 2) := by decide +kernel
theorem dX10_field_91 : decode cX10_field 91 = .ok (.isub, 1) := by decide +kernel
theorem dX10_field_92 : decode cX10_field 92 = .ok (.invokevirtual 127, 3) := by decide +kernel
theorem dX10_field_95 : decode cX10_field 95 = .ok (.aload_n 0, 1) := by decide +kernel
theorem dX10_field_96 : decode cX10_field 96 = .ok (.aload_n 0, 1) := by decide +kernel
theorem dX10_field_97 : decode cX10_field 97 = .ok (.getfield 137, 3) := by decide +kernel
theorem dX10_field_100 : decode cX10_field 100 = .ok (.iload_n 2, 1) := by decide +kernel
theorem dX10_field_101 : decode cX10_field 101 = .ok (.bipush 61, 2) := by decide +kernel
theorem dX10_field_103 : decode cX10_field 103 = .ok (.if_icmp .ne 7, 3) := by decide +kernel
theorem dX10_field_106 : decode cX10_field 106 = .ok (.iconst 1, 1) := by decide +kernel
theorem dX10_field_107 : decode cX10_field 107 = .ok (.goto 4, 3) := by decide +kernel
theorem dX10_field_110 : decode cX10_field 110 = .ok (.iconst 0, 1) := by decide +kernel
theorem dX10_field_111 : decode cX10_field 111 = .ok (.invokevirtual 120, 3) := by decide +kernel
theorem dX10_field_114 : decode cX10_field 114 = .ok (.aload_n 0, 1) := by decide +kernel
theorem dX10_field_115 : decode cX10_field 115 = .ok (.dup, 1) := by decide +kernel
theorem dX10_field_116 : decode cX10_field 116 = .ok (.getfield 137, 3) := by decide +kernel
theorem dX10_field_119 : decode cX10_field 119 = .ok (.iconst 3, 1) := by decide +kernel
theorem dX10_field_120 : decode cX10_field 120 = .ok (.iadd, 1) := by decide +kernel
theorem dX10_field_121 : decode cX10_field 121 = .ok (.putfield 137, 3) := by decide +kernel
theorem dX10_field_124 : decode cX10_field 124 = .ok (.iconst (-1), 1) := by decide +kernel
theorem dX10_field_125 : decode cX10_field 125 = .ok (.ireturn, 1) := by decide +kernel
theorem dX10_atom_0 : decode cX10_atom 0 = .ok (.aload_n 0, 1) := by decide +kernel
theorem dX10_atom_1 : decode cX10_atom 1 = .ok (.aload_n 0, 1) := by decide +kernel
theorem dX10_atom_2 : decode cX10_atom 2 = .ok (.getfield 137, 3) := by decide +kernel
theorem dX10_atom_5 : decode cX10_atom 5 = .ok (.invokevirtual 140, 3) := by decide +kernel
theorem dX10_atom_8 : decode cX10_atom 8 = .ok (.bipush 33, 2) := by decide +kernel
theorem dX10_atom_10 : decode cX10_atom 10 = .ok (.if_icmp .eq 29, 3) := by decide +kernel
theorem dX10_atom_13 : decode cX10_atom 13 = .ok (.aload_n 0, 1) := by decide +kernel
theorem dX10_atom_14 : decode cX10_atom 14 = .ok (.aload_n 0, 1) := by decide +kernel
theorem dX10_atom_15 : decode cX10_atom 15 = .ok (.getfield 137, 3) := by decide +kernel
theorem dX10_atom_18 : decode cX10_atom 18 = .ok (.invokevirtual 140, 3) := by decide +kernel
theorem dX10_atom_21 : decode cX10_atom 21 = .ok (.bipush 40, 2) := by decide +kernel
theorem dX10_atom_23 : decode cX10_atom 23 = .ok (.if_icmp .eq 16, 3) := by decide +kernel
theorem dX10_atom_26 : decode cX10_atom 26 = .ok (.aload_n 0, 1) := by decide +kernel
theorem dX10_atom_27 : decode cX10_atom 27 = .ok (.aload_n 0, 1) := by decide +kernel
theorem dX10_atom_28 : decode cX10_atom 28 = .ok (.getfield 137, 3) := by decide +kernel
theorem dX10_atom_31 : decode cX10_atom 31 = .ok (.invokevirtual 140, 3) := by decide +kernel
theorem dX10_atom_34 : decode cX10_atom 34 = .ok (.bipush 91, 2) := by decide +kernel
theorem dX10_atom_36 : decode cX10_atom 36 = .ok (.if_icmp .ne 28, 3) := by decide +kernel
theorem dX10_atom_39 : decode cX10_atom 39 = .ok (.aload_n 0, 1) := by decide +kernel
theorem dX10_atom_40 : decode cX10_atom 40 = .ok (.aload_n 0, 1) := by decide +kernel
theorem dX10_atom_41 : decode cX10_atom 41 = .ok (.aload_n 0, 1) := by decide +kernel
theorem dX10_atom_42 : decode cX10_atom 42 = .ok (.getfield 137, 3) := by decide +kernel
theorem dX10_atom_45 : decode cX10_atom 45 = .ok (.invokevirtual 140, 3) := by decide +kernel
theorem dX10_atom_48 : decode cX10_atom 48 = .ok (.invokevirtual 143, 3) := by decide +kernel
theorem dX10_atom_51 : decode cX10_atom 51 = .ok (.aload_n 0, 1) := by decide +kernel
theorem dX10_atom_52 : decode cX10_atom 52 = .ok (.dup, 1) := by decide +kernel
theorem dX10_atom_53 : decode cX10_atom 53 = .ok (.getfield 137, 3) := by decide +kernel
theorem dX10_atom_56 : decode cX10_atom 56 = .ok (.iconst 1, 1) := by decide +kernel
theorem dX10_atom_57 : decode cX10_atom 57 = .ok (.iadd, 1) := by decide +kernel
theorem dX10_atom_58 : decode cX10_atom 58 = .ok (.putfield 137, 3) := by decide +kernel
theorem dX10_atom_61 : decode cX10_atom 61 = .ok (.goto (-61), 3) := by decide +kernel
theorem dX10_atom_64 : decode cX10_atom 64 = .ok (.aload_n 0, 1) := by decide +kernel
theorem dX10_atom_65 : decode cX10_atom 65 = .ok (.aload_n 0, 1) := by decide +kernel
theorem dX10_atom_66 : decode cX10_atom 66 = .ok (.getfield 137, 3) := by decide +kernel
theorem dX10_atom_69 : decode cX10_atom 69 = .ok (.invokevirtual 140, 3) := by decide +kernel
theorem dX10_atom_72 : decode cX10_atom 72 = .ok (.istore_n 1, 1) := by decide +kernel
theorem dX10_atom_73 : decode cX10_atom 73 = .ok (.iload_n 1, 1) := by decide +kernel
theorem dX10_atom_74 : decode cX10_atom 74 = .ok (.bipush 120, 2) := by decide +kernel
theorem dX10_atom_76 : decode cX10_atom 76 = .ok (.bipush 122, 2) := by decide +kernel
theorem dX10_atom_78 : decode cX10_atom 78 = .ok (.invokestatic 98, 3) := by decide +kernel
theorem dX10_atom_81 : decode cX10_atom 81 = .ok (.ifCond .eq 9, 3) := by decide +kernel
theorem dX10_atom_84 : decode cX10_atom 84 = .ok (.aload_n 0, 1) := by decide +kernel
theorem dX10_atom_85 : decode cX10_atom 85 = .ok (.iload_n 1, 1) := by decide +kernel
theorem dX10_atom_86 : decode cX10_atom 86 = .ok (.invokevirtual 146, 3) := by decide +kernel
theorem dX10_atom_89 : decode cX10_atom 89 = .ok (.ireturn, 1) := by decide +kernel
theorem dX10_atom_90 : decode cX10_atom 90 = .ok (.iload_n 1, 1) := by decide +kernel
theorem dX10_atom_91 : decode cX10_atom 91 = .ok (.bipush 48, 2) := by decide +kernel
theorem dX10_atom_93 : decode cX10_atom 93 = .ok (.if_icmp .eq 9, 3) := by decide +kernel
theorem dX10_atom_96 : decode cX10_atom 96 = .ok (.iload_n 1, 1) := by decide +kernel
theorem dX10_atom_97 : decode cX10_atom 97 = .ok (.bipush 49, 2) := by decide +kernel
theorem dX10_atom_99 : decode cX10_atom 99 = .ok (.if_icmp .ne 23, 3) := by decide +kernel
theorem dX10_atom_102 : decode cX10_atom 102 = .ok (.aload_n 0, 1) := by decide +kernel
theorem dX10_atom_103 : decode cX10_atom 103 = .ok (.iload_n 1, 1) := by decide +kernel
theorem dX10_atom_104 : decode cX10_atom 104 = .ok (.bipush 48, 2) := by decide +kernel
theorem dX10_atom_106 : decode cX10_atom 106 = .ok (.isub, 1) := by decide +kernel
theorem dX10_atom_107 : decode cX10_atom 107 = .ok (.invokevirtual 127, 3) := by decide +kernel
theorem dX10_atom_110 : decode cX10_atom 110 = .ok (.aload_n 0, 1) := by decide +kernel
theorem dX10_atom_111 : decode cX10_atom 111 = .ok (.aload_n 0, 1) := by decide +kernel
theorem dX10_atom_112 : decode cX10_atom 112 = .ok (.getfield 137, 3) := by decide +kernel
theorem dX10_atom_115 : decode cX10_atom 115 = .ok (.iconst 1, 1) := by decide +kernel
theorem dX10_atom_116 : decode cX10_atom 116 = .ok (.invokevirtual 120, 3) := by decide +kernel
theorem dX10_atom_119 : decode cX10_atom 119 = .ok (.goto 56, 3) := by decide +kernel
theorem dX10_atom_122 : decode cX10_atom 122 = .ok (.iload_n 1, 1) := by decide +kernel
theorem dX10_atom_123 : decode cX10_atom 123 = .ok (.bipush 112, 2) := by decide +kernel
theorem dX10_atom_125 : decode cX10_atom 125 = .ok (.bipush 115, 2) := by decide +kernel
theorem dX10_atom_127 : decode cX10_atom 127 = .ok (.invokestatic 98, 3) := by decide +kernel
theorem dX10_atom_130 : decode cX10_atom 130 = .ok (.ifCond .eq 40, 3) := by decide +kernel
theorem dX10_atom_133 : decode cX10_atom 133 = .ok (.aload_n 0, 1) := by decide +kernel
theorem dX10_atom_134 : decode cX10_atom 134 = .ok (.iload_n 1, 1) := by decide +kernel
theorem dX10_atom_135 : decode cX10_atom 135 = .ok (.bipush 112, 2) := by decide +kernel
theorem dX10_atom_137 : decode cX10_atom 137 = .ok (.isub, 1) := by decide +kernel
theorem dX10_atom_138 : decode cX10_atom 138 = .ok (.invokevirtual 149, 3) := by decide +kernel
theorem dX10_atom_141 : decode cX10_atom 141 = .ok (.aload_n 0, 1) := by decide +kernel
theorem dX10_atom_142 : decode cX10_atom 142 = .ok (.aload_n 0, 1) := by decide +kernel
theorem dX10_atom_143 : decode cX10_atom 143 = .ok (.getfield 137, 3) := by decide +kernel
theorem dX10_atom_146 : decode cX10_atom 146 = .ok (.aload_n 0, 1) := by decide +kernel
theorem dX10_atom_147 : decode cX10_atom 147 = .ok (.getfield 37, 3) := by decide +kernel
theorem dX10_atom_150 : decode cX10_atom 150 = .ok (.iload_n 1, 1) := by decide +kernel
theorem dX10_atom_151 : decode cX10_atom 151 = .ok (.bipush 112, 2) := by decide +kernel
theorem dX10_atom_153 : decode cX10_atom 153 = .ok (.isub, 1) := by decide +kernel
theorem dX10_atom_154 : decode cX10_atom 154 = .ok (.iaload, 1) := by decide +kernel
theorem dX10_atom_155 : decode cX10_atom 155 = .ok (.iconst 1, 1) := by decide +kernel
theorem dX10_atom_156 : decode cX10_atom 156 = .ok (.if_icmp .ne 7, 3) := by decide +kernel
theorem dX10_atom_159 : decode cX10_atom 159 = .ok (.iconst 1, 1) := by decide +kernel
theorem dX10_atom_160 : decode cX10_atom 160 = .ok (.goto 4, 3) := by decide +kernel
theorem dX10_atom_163 : decode cX10_atom 163 = .ok (.iconst 0, 1) := by decide +kernel
theorem dX10_atom_164 : decode cX10_atom 164 = .ok (.invokevirtual 120, 3) := by decide +kernel
theorem dX10_atom_167 : decode cX10_atom 167 = .ok (.goto 8, 3) := by decide +kernel
theorem dX10_atom_170 : decode cX10_atom 170 = .ok (.aload_n 0, 1) := by decide +kernel
theorem dX10_atom_171 : decode cX10_atom 171 = .ok (.getfield 137, 3) := by decide +kernel
theorem dX10_atom_174 : decode cX10_atom 174 = .ok (.ireturn, 1) := by decide +kernel
theorem dX10_atom_175 : decode cX10_atom 175 = .ok (.aload_n 0, 1) := by decide +kernel
theorem dX10_atom_176 : decode cX10_atom 176 = .ok (.dup, 1) := by decide +kernel
theorem dX10_atom_177 : decode cX10_atom 177 = .ok (.getfield 137, 3) := by decide +kernel
theorem dX10_atom_180 : decode cX10_atom 180 = .ok (.iconst 1, 1) := by decide +kernel
theorem dX10_atom_181 : decode cX10_atom 181 = .ok (.iadd, 1) := by decide +kernel
theorem dX10_atom_182 : decode cX10_atom 182 = .ok (.putfield 137, 3) := by decide +kernel
theorem dX10_atom_185 : decode cX10_atom 185 = .ok (.iconst (-1), 1) := by decide +kernel
theorem dX10_atom_186 : decode cX10_atom 186 = .ok (.ireturn, 1) := by decide +kernel
theorem dX10_endsFactor_0 : decode cX10_endsFactor 0 = .ok (.aload_n 0, 1) := by decide +kernel
theorem dX10_endsFactor_1 : decode cX10_endsFactor 1 = .ok (.aload_n 0, 1) := by decide +kernel
theorem dX10_endsFactor_2 : decode cX10_endsFactor 2 = .ok (.getfield 137, 3) := by decide +kernel
theorem dX10_endsFactor_5 : decode cX10_endsFactor 5 = .ok (.invokevirtual 140, 3) := by decide +kernel
theorem dX10_endsFactor_8 : decode cX10_endsFactor 8 = .ok (.bipush 42, 2) := by decide +kernel
theorem dX10_endsFactor_10 : decode cX10_endsFactor 10 = .ok (.if_icmp .ne 34, 3) := by decide +kernel
theorem dX10_endsFactor_13 : decode cX10_endsFactor 13 = .ok (.aload_n 0, 1) := by decide +kernel
theorem dX10_endsFactor_14 : decode cX10_endsFactor 14 = .ok (.bipush 52, 2) := by decide +kernel
theorem dX10_endsFactor_16 : decode cX10_endsFactor 16 = .ok (.invokevirtual 127, 3) := by decide +kernel
theorem dX10_endsFactor_19 : decode cX10_endsFactor 19 = .ok (.aload_n 0, 1) := by decide +kernel
theorem dX10_endsFactor_20 : decode cX10_endsFactor 20 = .ok (.getfield 28, 3) := by decide +kernel
theorem dX10_endsFactor_23 : decode cX10_endsFactor 23 = .ok (.aload_n 0, 1) := by decide +kernel
theorem dX10_endsFactor_24 : decode cX10_endsFactor 24 = .ok (.getfield 113, 3) := by decide +kernel
theorem dX10_endsFactor_27 : decode cX10_endsFactor 27 = .ok (.iconst 1, 1) := by decide +kernel
theorem dX10_endsFactor_28 : decode cX10_endsFactor 28 = .ok (.isub, 1) := by decide +kernel
theorem dX10_endsFactor_29 : decode cX10_endsFactor 29 = .ok (.iconst 0, 1) := by decide +kernel
theorem dX10_endsFactor_30 : decode cX10_endsFactor 30 = .ok (.iastore, 1) := by decide +kernel
theorem dX10_endsFactor_31 : decode cX10_endsFactor 31 = .ok (.aload_n 0, 1) := by decide +kernel
theorem dX10_endsFactor_32 : decode cX10_endsFactor 32 = .ok (.dup, 1) := by decide +kernel
theorem dX10_endsFactor_33 : decode cX10_endsFactor 33 = .ok (.getfield 137, 3) := by decide +kernel
theorem dX10_endsFactor_36 : decode cX10_endsFactor 36 = .ok (.iconst 1, 1) := by decide +kernel
theorem dX10_endsFactor_37 : decode cX10_endsFactor 37 = .ok (.iadd, 1) := by decide +kernel
theorem dX10_endsFactor_38 : decode cX10_endsFactor 38 = .ok (.putfield 137, 3) := by decide +kernel
theorem dX10_endsFactor_41 : decode cX10_endsFactor 41 = .ok (.goto (-41), 3) := by decide +kernel
theorem dX10_endsFactor_44 : decode cX10_endsFactor 44 = .ok (.aload_n 0, 1) := by decide +kernel
theorem dX10_endsFactor_45 : decode cX10_endsFactor 45 = .ok (.invokevirtual 152, 3) := by decide +kernel
theorem dX10_endsFactor_48 : decode cX10_endsFactor 48 = .ok (.bipush 33, 2) := by decide +kernel
theorem dX10_endsFactor_50 : decode cX10_endsFactor 50 = .ok (.if_icmp .ne 68, 3) := by decide +kernel
theorem dX10_endsFactor_53 : decode cX10_endsFactor 53 = .ok (.aload_n 0, 1) := by decide +kernel
theorem dX10_endsFactor_54 : decode cX10_endsFactor 54 = .ok (.getfield 28, 3) := by decide +kernel
theorem dX10_endsFactor_57 : decode cX10_endsFactor 57 = .ok (.aload_n 0, 1) := by decide +kernel
theorem dX10_endsFactor_58 : decode cX10_endsFactor 58 = .ok (.getfield 113, 3) := by decide +kernel
theorem dX10_endsFactor_61 : decode cX10_endsFactor 61 = .ok (.iconst 1, 1) := by decide +kernel
theorem dX10_endsFactor_62 : decode cX10_endsFactor 62 = .ok (.isub, 1) := by decide +kernel
theorem dX10_endsFactor_63 : decode cX10_endsFactor 63 = .ok (.iaload, 1) := by decide +kernel
theorem dX10_endsFactor_64 : decode cX10_endsFactor 64 = .ok (.ifCond .ne 15, 3) := by decide +kernel
theorem dX10_endsFactor_67 : decode cX10_endsFactor 67 = .ok (.aload_n 0, 1) := by decide +kernel
theorem dX10_endsFactor_68 : decode cX10_endsFactor 68 = .ok (.getfield 25, 3) := by decide +kernel
theorem dX10_endsFactor_71 : decode cX10_endsFactor 71 = .ok (.aload_n 0, 1) := by decide +kernel
theorem dX10_endsFactor_72 : decode cX10_endsFactor 72 = .ok (.getfield 113, 3) := by decide +kernel
theorem dX10_endsFactor_75 : decode cX10_endsFactor 75 = .ok (.iconst 1, 1) := by decide +kernel
theorem dX10_endsFactor_76 : decode cX10_endsFactor 76 = .ok (.isub, 1) := by decide +kernel
theorem dX10_endsFactor_77 : decode cX10_endsFactor 77 = .ok (.iaload, 1) := by decide +kernel
theorem dX10_endsFactor_78 : decode cX10_endsFactor 78 = .ok (.ireturn, 1) := by decide +kernel
theorem dX10_endsFactor_79 : decode cX10_endsFactor 79 = .ok (.aload_n 0, 1) := by decide +kernel
theorem dX10_endsFactor_80 : decode cX10_endsFactor 80 = .ok (.bipush 53, 2) := by decide +kernel
theorem dX10_endsFactor_82 : decode cX10_endsFactor 82 = .ok (.invokevirtual 127, 3) := by decide +kernel
theorem dX10_endsFactor_85 : decode cX10_endsFactor 85 = .ok (.aload_n 0, 1) := by decide +kernel
theorem dX10_endsFactor_86 : decode cX10_endsFactor 86 = .ok (.dup, 1) := by decide +kernel
theorem dX10_endsFactor_87 : decode cX10_endsFactor 87 = .ok (.getfield 134, 3) := by decide +kernel
theorem dX10_endsFactor_90 : decode cX10_endsFactor 90 = .ok (.iconst 1, 1) := by decide +kernel
theorem dX10_endsFactor_91 : decode cX10_endsFactor 91 = .ok (.isub, 1) := by decide +kernel
theorem dX10_endsFactor_92 : decode cX10_endsFactor 92 = .ok (.putfield 134, 3) := by decide +kernel
theorem dX10_endsFactor_95 : decode cX10_endsFactor 95 = .ok (.aload_n 0, 1) := by decide +kernel
theorem dX10_endsFactor_96 : decode cX10_endsFactor 96 = .ok (.getfield 25, 3) := by decide +kernel
theorem dX10_endsFactor_99 : decode cX10_endsFactor 99 = .ok (.aload_n 0, 1) := by decide +kernel
theorem dX10_endsFactor_100 : decode cX10_endsFactor 100 = .ok (.getfield 113, 3) := by decide +kernel
theorem dX10_endsFactor_103 : decode cX10_endsFactor 103 = .ok (.iconst 1, 1) := by decide +kernel
theorem dX10_endsFactor_104 : decode cX10_endsFactor 104 = .ok (.isub, 1) := by decide +kernel
theorem dX10_endsFactor_105 : decode cX10_endsFactor 105 = .ok (.aload_n 0, 1) := by decide +kernel
theorem dX10_endsFactor_106 : decode cX10_endsFactor 106 = .ok (.getfield 34, 3) := by decide +kernel
theorem dX10_endsFactor_109 : decode cX10_endsFactor 109 = .ok (.aload_n 0, 1) := by decide +kernel
theorem dX10_endsFactor_110 : decode cX10_endsFactor 110 = .ok (.getfield 134, 3) := by decide +kernel
theorem dX10_endsFactor_113 : decode cX10_endsFactor 113 = .ok (.iaload, 1) := by decide +kernel
theorem dX10_endsFactor_114 : decode cX10_endsFactor 114 = .ok (.iastore, 1) := by decide +kernel
theorem dX10_endsFactor_115 : decode cX10_endsFactor 115 = .ok (.goto (-71), 3) := by decide +kernel
theorem dX10_endsFactor_118 : decode cX10_endsFactor 118 = .ok (.iconst (-1), 1) := by decide +kernel
theorem dX10_endsFactor_119 : decode cX10_endsFactor 119 = .ok (.ireturn, 1) := by decide +kernel
theorem dX10_joinsTwo_0 : decode cX10_joinsTwo 0 = .ok (.aload_n 0, 1) := by decide +kernel
theorem dX10_joinsTwo_1 : decode cX10_joinsTwo 1 = .ok (.dup, 1) := by decide +kernel
theorem dX10_joinsTwo_2 : decode cX10_joinsTwo 2 = .ok (.getfield 134, 3) := by decide +kernel
theorem dX10_joinsTwo_5 : decode cX10_joinsTwo 5 = .ok (.iconst 1, 1) := by decide +kernel
theorem dX10_joinsTwo_6 : decode cX10_joinsTwo 6 = .ok (.isub, 1) := by decide +kernel
theorem dX10_joinsTwo_7 : decode cX10_joinsTwo 7 = .ok (.putfield 134, 3) := by decide +kernel
theorem dX10_joinsTwo_10 : decode cX10_joinsTwo 10 = .ok (.aload_n 0, 1) := by decide +kernel
theorem dX10_joinsTwo_11 : decode cX10_joinsTwo 11 = .ok (.dup, 1) := by decide +kernel
theorem dX10_joinsTwo_12 : decode cX10_joinsTwo 12 = .ok (.getfield 113, 3) := by decide +kernel
theorem dX10_joinsTwo_15 : decode cX10_joinsTwo 15 = .ok (.iconst 1, 1) := by decide +kernel
theorem dX10_joinsTwo_16 : decode cX10_joinsTwo 16 = .ok (.isub, 1) := by decide +kernel
theorem dX10_joinsTwo_17 : decode cX10_joinsTwo 17 = .ok (.putfield 113, 3) := by decide +kernel
theorem dX10_joinsTwo_20 : decode cX10_joinsTwo 20 = .ok (.aload_n 0, 1) := by decide +kernel
theorem dX10_joinsTwo_21 : decode cX10_joinsTwo 21 = .ok (.getfield 28, 3) := by decide +kernel
theorem dX10_joinsTwo_24 : decode cX10_joinsTwo 24 = .ok (.aload_n 0, 1) := by decide +kernel
theorem dX10_joinsTwo_25 : decode cX10_joinsTwo 25 = .ok (.getfield 113, 3) := by decide +kernel
theorem dX10_joinsTwo_28 : decode cX10_joinsTwo 28 = .ok (.iconst 1, 1) := by decide +kernel
theorem dX10_joinsTwo_29 : decode cX10_joinsTwo 29 = .ok (.isub, 1) := by decide +kernel
theorem dX10_joinsTwo_30 : decode cX10_joinsTwo 30 = .ok (.dup2, 1) := by decide +kernel
theorem dX10_joinsTwo_31 : decode cX10_joinsTwo 31 = .ok (.iaload, 1) := by decide +kernel
theorem dX10_joinsTwo_32 : decode cX10_joinsTwo 32 = .ok (.aload_n 0, 1) := by decide +kernel
theorem dX10_joinsTwo_33 : decode cX10_joinsTwo 33 = .ok (.getfield 28, 3) := by decide +kernel
theorem dX10_joinsTwo_36 : decode cX10_joinsTwo 36 = .ok (.aload_n 0, 1) := by decide +kernel
theorem dX10_joinsTwo_37 : decode cX10_joinsTwo 37 = .ok (.getfield 113, 3) := by decide +kernel
theorem dX10_joinsTwo_40 : decode cX10_joinsTwo 40 = .ok (.iaload, 1) := by decide +kernel
theorem dX10_joinsTwo_41 : decode cX10_joinsTwo 41 = .ok (.iand, 1) := by decide +kernel
theorem dX10_joinsTwo_42 : decode cX10_joinsTwo 42 = .ok (.iastore, 1) := by decide +kernel
theorem dX10_joinsTwo_43 : decode cX10_joinsTwo 43 = .ok (.aload_n 0, 1) := by decide +kernel
theorem dX10_joinsTwo_44 : decode cX10_joinsTwo 44 = .ok (.iload_n 1, 1) := by decide +kernel
theorem dX10_joinsTwo_45 : decode cX10_joinsTwo 45 = .ok (.invokevirtual 127, 3) := by decide +kernel
theorem dX10_joinsTwo_48 : decode cX10_joinsTwo 48 = .ok (.return_, 1) := by decide +kernel
theorem dX10_joins_0 : decode cX10_joins 0 = .ok (.aload_n 0, 1) := by decide +kernel
theorem dX10_joins_1 : decode cX10_joins 1 = .ok (.invokevirtual 152, 3) := by decide +kernel
theorem dX10_joins_4 : decode cX10_joins 4 = .ok (.bipush 46, 2) := by decide +kernel
theorem dX10_joins_6 : decode cX10_joins 6 = .ok (.if_icmp .eq 16, 3) := by decide +kernel
theorem dX10_joins_9 : decode cX10_joins 9 = .ok (.iload_n 1, 1) := by decide +kernel
theorem dX10_joins_10 : decode cX10_joins 10 = .ok (.ifCond .eq 35, 3) := by decide +kernel
theorem dX10_joins_13 : decode cX10_joins 13 = .ok (.aload_n 0, 1) := by decide +kernel
theorem dX10_joins_14 : decode cX10_joins 14 = .ok (.invokevirtual 152, 3) := by decide +kernel
theorem dX10_joins_17 : decode cX10_joins 17 = .ok (.bipush 43, 2) := by decide +kernel
theorem dX10_joins_19 : decode cX10_joins 19 = .ok (.if_icmp .ne 26, 3) := by decide +kernel
theorem dX10_joins_22 : decode cX10_joins 22 = .ok (.aload_n 0, 1) := by decide +kernel
theorem dX10_joins_23 : decode cX10_joins 23 = .ok (.aload_n 0, 1) := by decide +kernel
theorem dX10_joins_24 : decode cX10_joins 24 = .ok (.invokevirtual 152, 3) := by decide +kernel
theorem dX10_joins_27 : decode cX10_joins 27 = .ok (.bipush 46, 2) := by decide +kernel
theorem dX10_joins_29 : decode cX10_joins 29 = .ok (.if_icmp .ne 8, 3) := by decide +kernel
theorem dX10_joins_32 : decode cX10_joins 32 = .ok (.bipush 51, 2) := by decide +kernel
theorem dX10_joins_34 : decode cX10_joins 34 = .ok (.goto 5, 3) := by decide +kernel
theorem dX10_joins_37 : decode cX10_joins 37 = .ok (.bipush 50, 2) := by decide +kernel
theorem dX10_joins_39 : decode cX10_joins 39 = .ok (.invokevirtual 156, 3) := by decide +kernel
theorem dX10_joins_42 : decode cX10_joins 42 = .ok (.goto (-42), 3) := by decide +kernel
theorem dX10_joins_45 : decode cX10_joins 45 = .ok (.return_, 1) := by decide +kernel
theorem dX10_behind_0 : decode cX10_behind 0 = .ok (.aload_n 0, 1) := by decide +kernel
theorem dX10_behind_1 : decode cX10_behind 1 = .ok (.aload_n 0, 1) := by decide +kernel
theorem dX10_behind_2 : decode cX10_behind 2 = .ok (.getfield 137, 3) := by decide +kernel
theorem dX10_behind_5 : decode cX10_behind 5 = .ok (.invokevirtual 140, 3) := by decide +kernel
theorem dX10_behind_8 : decode cX10_behind 8 = .ok (.istore_n 1, 1) := by decide +kernel
theorem dX10_behind_9 : decode cX10_behind 9 = .ok (.iload_n 1, 1) := by decide +kernel
theorem dX10_behind_10 : decode cX10_behind 10 = .ok (.bipush 46, 2) := by decide +kernel
theorem dX10_behind_12 : decode cX10_behind 12 = .ok (.if_icmp .eq 9, 3) := by decide +kernel
theorem dX10_behind_15 : decode cX10_behind 15 = .ok (.iload_n 1, 1) := by decide +kernel
theorem dX10_behind_16 : decode cX10_behind 16 = .ok (.bipush 43, 2) := by decide +kernel
theorem dX10_behind_18 : decode cX10_behind 18 = .ok (.if_icmp .ne 81, 3) := by decide +kernel
theorem dX10_behind_21 : decode cX10_behind 21 = .ok (.aload_n 0, 1) := by decide +kernel
theorem dX10_behind_22 : decode cX10_behind 22 = .ok (.iload_n 1, 1) := by decide +kernel
theorem dX10_behind_23 : decode cX10_behind 23 = .ok (.bipush 43, 2) := by decide +kernel
theorem dX10_behind_25 : decode cX10_behind 25 = .ok (.if_icmp .ne 7, 3) := by decide +kernel
theorem dX10_behind_28 : decode cX10_behind 28 = .ok (.iconst 1, 1) := by decide +kernel
theorem dX10_behind_29 : decode cX10_behind 29 = .ok (.goto 4, 3) := by decide +kernel
theorem dX10_behind_32 : decode cX10_behind 32 = .ok (.iconst 0, 1) := by decide +kernel
theorem dX10_behind_33 : decode cX10_behind 33 = .ok (.invokevirtual 159, 3) := by decide +kernel
theorem dX10_behind_36 : decode cX10_behind 36 = .ok (.iload_n 1, 1) := by decide +kernel
theorem dX10_behind_37 : decode cX10_behind 37 = .ok (.bipush 46, 2) := by decide +kernel
theorem dX10_behind_39 : decode cX10_behind 39 = .ok (.if_icmp .ne 17, 3) := by decide +kernel
theorem dX10_behind_42 : decode cX10_behind 42 = .ok (.aload_n 0, 1) := by decide +kernel
theorem dX10_behind_43 : decode cX10_behind 43 = .ok (.invokevirtual 152, 3) := by decide +kernel
theorem dX10_behind_46 : decode cX10_behind 46 = .ok (.bipush 46, 2) := by decide +kernel
theorem dX10_behind_48 : decode cX10_behind 48 = .ok (.if_icmp .ne 8, 3) := by decide +kernel
theorem dX10_behind_51 : decode cX10_behind 51 = .ok (.aload_n 0, 1) := by decide +kernel
theorem dX10_behind_52 : decode cX10_behind 52 = .ok (.getfield 137, 3) := by decide +kernel
theorem dX10_behind_55 : decode cX10_behind 55 = .ok (.ireturn, 1) := by decide +kernel
theorem dX10_behind_56 : decode cX10_behind 56 = .ok (.iload_n 1, 1) := by decide +kernel
theorem dX10_behind_57 : decode cX10_behind 57 = .ok (.bipush 43, 2) := by decide +kernel
theorem dX10_behind_59 : decode cX10_behind 59 = .ok (.if_icmp .ne 18, 3) := by decide +kernel
theorem dX10_behind_62 : decode cX10_behind 62 = .ok (.aload_n 0, 1) := by decide +kernel
theorem dX10_behind_63 : decode cX10_behind 63 = .ok (.invokevirtual 152, 3) := by decide +kernel
theorem dX10_behind_66 : decode cX10_behind 66 = .ok (.bipush 43, 2) := by decide +kernel
theorem dX10_behind_68 : decode cX10_behind 68 = .ok (.if_icmp .ne 9, 3) := by decide +kernel
theorem dX10_behind_71 : decode cX10_behind 71 = .ok (.aload_n 0, 1) := by decide +kernel
theorem dX10_behind_72 : decode cX10_behind 72 = .ok (.bipush 50, 2) := by decide +kernel
theorem dX10_behind_74 : decode cX10_behind 74 = .ok (.invokevirtual 156, 3) := by decide +kernel
theorem dX10_behind_77 : decode cX10_behind 77 = .ok (.aload_n 0, 1) := by decide +kernel
theorem dX10_behind_78 : decode cX10_behind 78 = .ok (.iload_n 1, 1) := by decide +kernel
theorem dX10_behind_79 : decode cX10_behind 79 = .ok (.invokevirtual 143, 3) := by decide +kernel
theorem dX10_behind_82 : decode cX10_behind 82 = .ok (.aload_n 0, 1) := by decide +kernel
theorem dX10_behind_83 : decode cX10_behind 83 = .ok (.dup, 1) := by decide +kernel
theorem dX10_behind_84 : decode cX10_behind 84 = .ok (.getfield 137, 3) := by decide +kernel
theorem dX10_behind_87 : decode cX10_behind 87 = .ok (.iconst 1, 1) := by decide +kernel
theorem dX10_behind_88 : decode cX10_behind 88 = .ok (.iadd, 1) := by decide +kernel
theorem dX10_behind_89 : decode cX10_behind 89 = .ok (.putfield 137, 3) := by decide +kernel
theorem dX10_behind_92 : decode cX10_behind 92 = .ok (.aload_n 0, 1) := by decide +kernel
theorem dX10_behind_93 : decode cX10_behind 93 = .ok (.iconst 1, 1) := by decide +kernel
theorem dX10_behind_94 : decode cX10_behind 94 = .ok (.putfield 163, 3) := by decide +kernel
theorem dX10_behind_97 : decode cX10_behind 97 = .ok (.iconst (-1), 1) := by decide +kernel
theorem dX10_behind_98 : decode cX10_behind 98 = .ok (.ireturn, 1) := by decide +kernel
theorem dX10_behind_99 : decode cX10_behind 99 = .ok (.aload_n 0, 1) := by decide +kernel
theorem dX10_behind_100 : decode cX10_behind 100 = .ok (.iconst 1, 1) := by decide +kernel
theorem dX10_behind_101 : decode cX10_behind 101 = .ok (.invokevirtual 159, 3) := by decide +kernel
theorem dX10_behind_104 : decode cX10_behind 104 = .ok (.aload_n 0, 1) := by decide +kernel
theorem dX10_behind_105 : decode cX10_behind 105 = .ok (.invokevirtual 152, 3) := by decide +kernel
theorem dX10_behind_108 : decode cX10_behind 108 = .ok (.istore_n 2, 1) := by decide +kernel
theorem dX10_behind_109 : decode cX10_behind 109 = .ok (.iload_n 2, 1) := by decide +kernel
theorem dX10_behind_110 : decode cX10_behind 110 = .ok (.bipush 91, 2) := by decide +kernel
theorem dX10_behind_112 : decode cX10_behind 112 = .ok (.if_icmp .ne 29, 3) := by decide +kernel
theorem dX10_behind_115 : decode cX10_behind 115 = .ok (.aload_n 0, 1) := by decide +kernel
theorem dX10_behind_116 : decode cX10_behind 116 = .ok (.getfield 28, 3) := by decide +kernel
theorem dX10_behind_119 : decode cX10_behind 119 = .ok (.aload_n 0, 1) := by decide +kernel
theorem dX10_behind_120 : decode cX10_behind 120 = .ok (.getfield 113, 3) := by decide +kernel
theorem dX10_behind_123 : decode cX10_behind 123 = .ok (.iconst 1, 1) := by decide +kernel
theorem dX10_behind_124 : decode cX10_behind 124 = .ok (.isub, 1) := by decide +kernel
theorem dX10_behind_125 : decode cX10_behind 125 = .ok (.iaload, 1) := by decide +kernel
theorem dX10_behind_126 : decode cX10_behind 126 = .ok (.ifCond .ne 15, 3) := by decide +kernel
theorem dX10_behind_129 : decode cX10_behind 129 = .ok (.aload_n 0, 1) := by decide +kernel
theorem dX10_behind_130 : decode cX10_behind 130 = .ok (.getfield 25, 3) := by decide +kernel
theorem dX10_behind_133 : decode cX10_behind 133 = .ok (.aload_n 0, 1) := by decide +kernel
theorem dX10_behind_134 : decode cX10_behind 134 = .ok (.getfield 113, 3) := by decide +kernel
theorem dX10_behind_137 : decode cX10_behind 137 = .ok (.iconst 1, 1) := by decide +kernel
theorem dX10_behind_138 : decode cX10_behind 138 = .ok (.isub, 1) := by decide +kernel
theorem dX10_behind_139 : decode cX10_behind 139 = .ok (.iaload, 1) := by decide +kernel
theorem dX10_behind_140 : decode cX10_behind 140 = .ok (.ireturn, 1) := by decide +kernel
theorem dX10_behind_141 : decode cX10_behind 141 = .ok (.iload_n 2, 1) := by decide +kernel
theorem dX10_behind_142 : decode cX10_behind 142 = .ok (.iconst (-1), 1) := by decide +kernel
theorem dX10_behind_143 : decode cX10_behind 143 = .ok (.if_icmp .ne 22, 3) := by decide +kernel
theorem dX10_behind_146 : decode cX10_behind 146 = .ok (.aload_n 0, 1) := by decide +kernel
theorem dX10_behind_147 : decode cX10_behind 147 = .ok (.iconst 0, 1) := by decide +kernel
theorem dX10_behind_148 : decode cX10_behind 148 = .ok (.putfield 163, 3) := by decide +kernel
theorem dX10_behind_151 : decode cX10_behind 151 = .ok (.iload_n 1, 1) := by decide +kernel
theorem dX10_behind_152 : decode cX10_behind 152 = .ok (.iconst (-1), 1) := by decide +kernel
theorem dX10_behind_153 : decode cX10_behind 153 = .ok (.if_icmp .ne 7, 3) := by decide +kernel
theorem dX10_behind_156 : decode cX10_behind 156 = .ok (.iconst (-1), 1) := by decide +kernel
theorem dX10_behind_157 : decode cX10_behind 157 = .ok (.goto 7, 3) := by decide +kernel
theorem dX10_behind_160 : decode cX10_behind 160 = .ok (.aload_n 0, 1) := by decide +kernel
theorem dX10_behind_161 : decode cX10_behind 161 = .ok (.getfield 137, 3) := by decide +kernel
theorem dX10_behind_164 : decode cX10_behind 164 = .ok (.ireturn, 1) := by decide +kernel
theorem dX10_behind_165 : decode cX10_behind 165 = .ok (.iload_n 2, 1) := by decide +kernel
theorem dX10_behind_166 : decode cX10_behind 166 = .ok (.bipush 40, 2) := by decide +kernel
theorem dX10_behind_168 : decode cX10_behind 168 = .ok (.if_icmp .ne 17, 3) := by decide +kernel
theorem dX10_behind_171 : decode cX10_behind 171 = .ok (.iload_n 1, 1) := by decide +kernel
theorem dX10_behind_172 : decode cX10_behind 172 = .ok (.bipush 41, 2) := by decide +kernel
theorem dX10_behind_174 : decode cX10_behind 174 = .ok (.if_icmp .ne 7, 3) := by decide +kernel
theorem dX10_behind_177 : decode cX10_behind 177 = .ok (.iconst 1, 1) := by decide +kernel
theorem dX10_behind_178 : decode cX10_behind 178 = .ok (.goto 58, 3) := by decide +kernel
theorem dX10_behind_181 : decode cX10_behind 181 = .ok (.iconst 0, 1) := by decide +kernel
theorem dX10_behind_182 : decode cX10_behind 182 = .ok (.goto 54, 3) := by decide +kernel
theorem dX10_behind_185 : decode cX10_behind 185 = .ok (.iload_n 2, 1) := by decide +kernel
theorem dX10_behind_186 : decode cX10_behind 186 = .ok (.bipush 91, 2) := by decide +kernel
theorem dX10_behind_188 : decode cX10_behind 188 = .ok (.if_icmp .ne 17, 3) := by decide +kernel
theorem dX10_behind_191 : decode cX10_behind 191 = .ok (.iload_n 1, 1) := by decide +kernel
theorem dX10_behind_192 : decode cX10_behind 192 = .ok (.bipush 63, 2) := by decide +kernel
theorem dX10_behind_194 : decode cX10_behind 194 = .ok (.if_icmp .ne 7, 3) := by decide +kernel
theorem dX10_behind_197 : decode cX10_behind 197 = .ok (.iconst 1, 1) := by decide +kernel
theorem dX10_behind_198 : decode cX10_behind 198 = .ok (.goto 38, 3) := by decide +kernel
theorem dX10_behind_201 : decode cX10_behind 201 = .ok (.iconst 0, 1) := by decide +kernel
theorem dX10_behind_202 : decode cX10_behind 202 = .ok (.goto 34, 3) := by decide +kernel
theorem dX10_behind_205 : decode cX10_behind 205 = .ok (.iload_n 2, 1) := by decide +kernel
theorem dX10_behind_206 : decode cX10_behind 206 = .ok (.bipush 63, 2) := by decide +kernel
theorem dX10_behind_208 : decode cX10_behind 208 = .ok (.if_icmp .ne 17, 3) := by decide +kernel
theorem dX10_behind_211 : decode cX10_behind 211 = .ok (.iload_n 1, 1) := by decide +kernel
theorem dX10_behind_212 : decode cX10_behind 212 = .ok (.bipush 124, 2) := by decide +kernel
theorem dX10_behind_214 : decode cX10_behind 214 = .ok (.if_icmp .ne 7, 3) := by decide +kernel
theorem dX10_behind_217 : decode cX10_behind 217 = .ok (.iconst 1, 1) := by decide +kernel
theorem dX10_behind_218 : decode cX10_behind 218 = .ok (.goto 18, 3) := by decide +kernel
theorem dX10_behind_221 : decode cX10_behind 221 = .ok (.iconst 0, 1) := by decide +kernel
theorem dX10_behind_222 : decode cX10_behind 222 = .ok (.goto 14, 3) := by decide +kernel
theorem dX10_behind_225 : decode cX10_behind 225 = .ok (.iload_n 1, 1) := by decide +kernel
theorem dX10_behind_226 : decode cX10_behind 226 = .ok (.bipush 93, 2) := by decide +kernel
theorem dX10_behind_228 : decode cX10_behind 228 = .ok (.if_icmp .ne 7, 3) := by decide +kernel
theorem dX10_behind_231 : decode cX10_behind 231 = .ok (.iconst 1, 1) := by decide +kernel
theorem dX10_behind_232 : decode cX10_behind 232 = .ok (.goto 4, 3) := by decide +kernel
theorem dX10_behind_235 : decode cX10_behind 235 = .ok (.iconst 0, 1) := by decide +kernel
theorem dX10_behind_236 : decode cX10_behind 236 = .ok (.istore_n 3, 1) := by decide +kernel
theorem dX10_behind_237 : decode cX10_behind 237 = .ok (.iload_n 3, 1) := by decide +kernel
theorem dX10_behind_238 : decode cX10_behind 238 = .ok (.ifCond .ne 8, 3) := by decide +kernel
theorem dX10_behind_241 : decode cX10_behind 241 = .ok (.aload_n 0, 1) := by decide +kernel
theorem dX10_behind_242 : decode cX10_behind 242 = .ok (.getfield 137, 3) := by decide +kernel
theorem dX10_behind_245 : decode cX10_behind 245 = .ok (.ireturn, 1) := by decide +kernel
theorem dX10_behind_246 : decode cX10_behind 246 = .ok (.iload_n 2, 1) := by decide +kernel
theorem dX10_behind_247 : decode cX10_behind 247 = .ok (.bipush 40, 2) := by decide +kernel
theorem dX10_behind_249 : decode cX10_behind 249 = .ok (.if_icmp .ne 41, 3) := by decide +kernel
theorem dX10_behind_252 : decode cX10_behind 252 = .ok (.aload_n 0, 1) := by decide +kernel
theorem dX10_behind_253 : decode cX10_behind 253 = .ok (.dup, 1) := by decide +kernel
theorem dX10_behind_254 : decode cX10_behind 254 = .ok (.getfield 134, 3) := by decide +kernel
theorem dX10_behind_257 : decode cX10_behind 257 = .ok (.iconst 1, 1) := by decide +kernel
theorem dX10_behind_258 : decode cX10_behind 258 = .ok (.isub, 1) := by decide +kernel
theorem dX10_behind_259 : decode cX10_behind 259 = .ok (.putfield 134, 3) := by decide +kernel
theorem dX10_behind_262 : decode cX10_behind 262 = .ok (.aload_n 0, 1) := by decide +kernel
theorem dX10_behind_263 : decode cX10_behind 263 = .ok (.getfield 25, 3) := by decide +kernel
theorem dX10_behind_266 : decode cX10_behind 266 = .ok (.aload_n 0, 1) := by decide +kernel
theorem dX10_behind_267 : decode cX10_behind 267 = .ok (.getfield 113, 3) := by decide +kernel
theorem dX10_behind_270 : decode cX10_behind 270 = .ok (.iconst 1, 1) := by decide +kernel
theorem dX10_behind_271 : decode cX10_behind 271 = .ok (.isub, 1) := by decide +kernel
theorem dX10_behind_272 : decode cX10_behind 272 = .ok (.aload_n 0, 1) := by decide +kernel
theorem dX10_behind_273 : decode cX10_behind 273 = .ok (.getfield 34, 3) := by decide +kernel
theorem dX10_behind_276 : decode cX10_behind 276 = .ok (.aload_n 0, 1) := by decide +kernel
theorem dX10_behind_277 : decode cX10_behind 277 = .ok (.getfield 134, 3) := by decide +kernel
theorem dX10_behind_280 : decode cX10_behind 280 = .ok (.iaload, 1) := by decide +kernel
theorem dX10_behind_281 : decode cX10_behind 281 = .ok (.iastore, 1) := by decide +kernel
theorem dX10_behind_282 : decode cX10_behind 282 = .ok (.aload_n 0, 1) := by decide +kernel
theorem dX10_behind_283 : decode cX10_behind 283 = .ok (.iconst 2, 1) := by decide +kernel
theorem dX10_behind_284 : decode cX10_behind 284 = .ok (.putfield 163, 3) := by decide +kernel
theorem dX10_behind_287 : decode cX10_behind 287 = .ok (.goto 112, 3) := by decide +kernel
theorem dX10_behind_290 : decode cX10_behind 290 = .ok (.iload_n 2, 1) := by decide +kernel
theorem dX10_behind_291 : decode cX10_behind 291 = .ok (.bipush 124, 2) := by decide +kernel
theorem dX10_behind_293 : decode cX10_behind 293 = .ok (.if_icmp .ne 89, 3) := by decide +kernel
theorem dX10_behind_296 : decode cX10_behind 296 = .ok (.aload_n 0, 1) := by decide +kernel
theorem dX10_behind_297 : decode cX10_behind 297 = .ok (.dup, 1) := by decide +kernel
theorem dX10_behind_298 : decode cX10_behind 298 = .ok (.getfield 134, 3) := by decide +kernel
theorem dX10_behind_301 : decode cX10_behind 301 = .ok (.iconst 1, 1) := by decide +kernel
theorem dX10_behind_302 : decode cX10_behind 302 = .ok (.isub, 1) := by decide +kernel
theorem dX10_behind_303 : decode cX10_behind 303 = .ok (.putfield 134, 3) := by decide +kernel
theorem dX10_behind_306 : decode cX10_behind 306 = .ok (.aload_n 0, 1) := by decide +kernel
theorem dX10_behind_307 : decode cX10_behind 307 = .ok (.dup, 1) := by decide +kernel
theorem dX10_behind_308 : decode cX10_behind 308 = .ok (.getfield 113, 3) := by decide +kernel
theorem dX10_behind_311 : decode cX10_behind 311 = .ok (.iconst 2, 1) := by decide +kernel
theorem dX10_behind_312 : decode cX10_behind 312 = .ok (.isub, 1) := by decide +kernel
theorem dX10_behind_313 : decode cX10_behind 313 = .ok (.putfield 113, 3) := by decide +kernel
theorem dX10_behind_316 : decode cX10_behind 316 = .ok (.aload_n 0, 1) := by decide +kernel
theorem dX10_behind_317 : decode cX10_behind 317 = .ok (.getfield 28, 3) := by decide +kernel
theorem dX10_behind_320 : decode cX10_behind 320 = .ok (.aload_n 0, 1) := by decide +kernel
theorem dX10_behind_321 : decode cX10_behind 321 = .ok (.getfield 113, 3) := by decide +kernel
theorem dX10_behind_324 : decode cX10_behind 324 = .ok (.iconst 1, 1) := by decide +kernel
theorem dX10_behind_325 : decode cX10_behind 325 = .ok (.isub, 1) := by decide +kernel
theorem dX10_behind_326 : decode cX10_behind 326 = .ok (.aload_n 0, 1) := by decide +kernel
theorem dX10_behind_327 : decode cX10_behind 327 = .ok (.getfield 28, 3) := by decide +kernel
theorem dX10_behind_330 : decode cX10_behind 330 = .ok (.aload_n 0, 1) := by decide +kernel
theorem dX10_behind_331 : decode cX10_behind 331 = .ok (.getfield 113, 3) := by decide +kernel
theorem dX10_behind_334 : decode cX10_behind 334 = .ok (.iaload, 1) := by decide +kernel
theorem dX10_behind_335 : decode cX10_behind 335 = .ok (.aload_n 0, 1) := by decide +kernel
theorem dX10_behind_336 : decode cX10_behind 336 = .ok (.getfield 28, 3) := by decide +kernel
theorem dX10_behind_339 : decode cX10_behind 339 = .ok (.aload_n 0, 1) := by decide +kernel
theorem dX10_behind_340 : decode cX10_behind 340 = .ok (.getfield 113, 3) := by decide +kernel
theorem dX10_behind_343 : decode cX10_behind 343 = .ok (.iconst 1, 1) := by decide +kernel
theorem dX10_behind_344 : decode cX10_behind 344 = .ok (.iadd, 1) := by decide +kernel
theorem dX10_behind_345 : decode cX10_behind 345 = .ok (.iaload, 1) := by decide +kernel
theorem dX10_behind_346 : decode cX10_behind 346 = .ok (.iand, 1) := by decide +kernel
theorem dX10_behind_347 : decode cX10_behind 347 = .ok (.iastore, 1) := by decide +kernel
theorem dX10_behind_348 : decode cX10_behind 348 = .ok (.aload_n 0, 1) := by decide +kernel
theorem dX10_behind_349 : decode cX10_behind 349 = .ok (.getfield 25, 3) := by decide +kernel
theorem dX10_behind_352 : decode cX10_behind 352 = .ok (.aload_n 0, 1) := by decide +kernel
theorem dX10_behind_353 : decode cX10_behind 353 = .ok (.getfield 113, 3) := by decide +kernel
theorem dX10_behind_356 : decode cX10_behind 356 = .ok (.iconst 1, 1) := by decide +kernel
theorem dX10_behind_357 : decode cX10_behind 357 = .ok (.isub, 1) := by decide +kernel
theorem dX10_behind_358 : decode cX10_behind 358 = .ok (.aload_n 0, 1) := by decide +kernel
theorem dX10_behind_359 : decode cX10_behind 359 = .ok (.getfield 34, 3) := by decide +kernel
theorem dX10_behind_362 : decode cX10_behind 362 = .ok (.aload_n 0, 1) := by decide +kernel
theorem dX10_behind_363 : decode cX10_behind 363 = .ok (.getfield 134, 3) := by decide +kernel
theorem dX10_behind_366 : decode cX10_behind 366 = .ok (.iaload, 1) := by decide +kernel
theorem dX10_behind_367 : decode cX10_behind 367 = .ok (.iastore, 1) := by decide +kernel
theorem dX10_behind_368 : decode cX10_behind 368 = .ok (.aload_n 0, 1) := by decide +kernel
theorem dX10_behind_369 : decode cX10_behind 369 = .ok (.bipush 54, 2) := by decide +kernel
theorem dX10_behind_371 : decode cX10_behind 371 = .ok (.invokevirtual 127, 3) := by decide +kernel
theorem dX10_behind_374 : decode cX10_behind 374 = .ok (.aload_n 0, 1) := by decide +kernel
theorem dX10_behind_375 : decode cX10_behind 375 = .ok (.iconst 2, 1) := by decide +kernel
theorem dX10_behind_376 : decode cX10_behind 376 = .ok (.putfield 163, 3) := by decide +kernel
theorem dX10_behind_379 : decode cX10_behind 379 = .ok (.goto 20, 3) := by decide +kernel
theorem dX10_behind_382 : decode cX10_behind 382 = .ok (.aload_n 0, 1) := by decide +kernel
theorem dX10_behind_383 : decode cX10_behind 383 = .ok (.getfield 31, 3) := by decide +kernel
theorem dX10_behind_386 : decode cX10_behind 386 = .ok (.aload_n 0, 1) := by decide +kernel
theorem dX10_behind_387 : decode cX10_behind 387 = .ok (.getfield 134, 3) := by decide +kernel
theorem dX10_behind_390 : decode cX10_behind 390 = .ok (.iconst 1, 1) := by decide +kernel
theorem dX10_behind_391 : decode cX10_behind 391 = .ok (.isub, 1) := by decide +kernel
theorem dX10_behind_392 : decode cX10_behind 392 = .ok (.iload_n 1, 1) := by decide +kernel
theorem dX10_behind_393 : decode cX10_behind 393 = .ok (.iastore, 1) := by decide +kernel
theorem dX10_behind_394 : decode cX10_behind 394 = .ok (.aload_n 0, 1) := by decide +kernel
theorem dX10_behind_395 : decode cX10_behind 395 = .ok (.iconst 1, 1) := by decide +kernel
theorem dX10_behind_396 : decode cX10_behind 396 = .ok (.putfield 163, 3) := by decide +kernel
theorem dX10_behind_399 : decode cX10_behind 399 = .ok (.aload_n 0, 1) := by decide +kernel
theorem dX10_behind_400 : decode cX10_behind 400 = .ok (.dup, 1) := by decide +kernel
theorem dX10_behind_401 : decode cX10_behind 401 = .ok (.getfield 137, 3) := by decide +kernel
theorem dX10_behind_404 : decode cX10_behind 404 = .ok (.iconst 1, 1) := by decide +kernel
theorem dX10_behind_405 : decode cX10_behind 405 = .ok (.iadd, 1) := by decide +kernel
theorem dX10_behind_406 : decode cX10_behind 406 = .ok (.putfield 137, 3) := by decide +kernel
theorem dX10_behind_409 : decode cX10_behind 409 = .ok (.iconst (-1), 1) := by decide +kernel
theorem dX10_behind_410 : decode cX10_behind 410 = .ok (.ireturn, 1) := by decide +kernel
theorem dX10_reads_0 : decode cX10_reads 0 = .ok (.iconst 0, 1) := by decide +kernel
theorem dX10_reads_1 : decode cX10_reads 1 = .ok (.istore_n 1, 1) := by decide +kernel
theorem dX10_reads_2 : decode cX10_reads 2 = .ok (.iload_n 1, 1) := by decide +kernel
theorem dX10_reads_3 : decode cX10_reads 3 = .ok (.iconst 4, 1) := by decide +kernel
theorem dX10_reads_4 : decode cX10_reads 4 = .ok (.if_icmp .ge 28, 3) := by decide +kernel
theorem dX10_reads_7 : decode cX10_reads 7 = .ok (.aload_n 0, 1) := by decide +kernel
theorem dX10_reads_8 : decode cX10_reads 8 = .ok (.getfield 37, 3) := by decide +kernel
theorem dX10_reads_11 : decode cX10_reads 11 = .ok (.iload_n 1, 1) := by decide +kernel
theorem dX10_reads_12 : decode cX10_reads 12 = .ok (.aload_n 0, 1) := by decide +kernel
theorem dX10_reads_13 : decode cX10_reads 13 = .ok (.iload_n 1, 1) := by decide +kernel
theorem dX10_reads_14 : decode cX10_reads 14 = .ok (.invokevirtual 166, 3) := by decide +kernel
theorem dX10_reads_17 : decode cX10_reads 17 = .ok (.ifCond .eq 7, 3) := by decide +kernel
theorem dX10_reads_20 : decode cX10_reads 20 = .ok (.iconst 1, 1) := by decide +kernel
theorem dX10_reads_21 : decode cX10_reads 21 = .ok (.goto 4, 3) := by decide +kernel
theorem dX10_reads_24 : decode cX10_reads 24 = .ok (.iconst 0, 1) := by decide +kernel
theorem dX10_reads_25 : decode cX10_reads 25 = .ok (.iastore, 1) := by decide +kernel
theorem dX10_reads_26 : decode cX10_reads 26 = .ok (.iinc 1 1, 3) := by decide +kernel
theorem dX10_reads_29 : decode cX10_reads 29 = .ok (.goto (-27), 3) := by decide +kernel
theorem dX10_reads_32 : decode cX10_reads 32 = .ok (.aload_n 0, 1) := by decide +kernel
theorem dX10_reads_33 : decode cX10_reads 33 = .ok (.iconst 0, 1) := by decide +kernel
theorem dX10_reads_34 : decode cX10_reads 34 = .ok (.putfield 110, 3) := by decide +kernel
theorem dX10_reads_37 : decode cX10_reads 37 = .ok (.aload_n 0, 1) := by decide +kernel
theorem dX10_reads_38 : decode cX10_reads 38 = .ok (.iconst 0, 1) := by decide +kernel
theorem dX10_reads_39 : decode cX10_reads 39 = .ok (.putfield 113, 3) := by decide +kernel
theorem dX10_reads_42 : decode cX10_reads 42 = .ok (.aload_n 0, 1) := by decide +kernel
theorem dX10_reads_43 : decode cX10_reads 43 = .ok (.iconst 0, 1) := by decide +kernel
theorem dX10_reads_44 : decode cX10_reads 44 = .ok (.putfield 134, 3) := by decide +kernel
theorem dX10_reads_47 : decode cX10_reads 47 = .ok (.aload_n 0, 1) := by decide +kernel
theorem dX10_reads_48 : decode cX10_reads 48 = .ok (.iconst 0, 1) := by decide +kernel
theorem dX10_reads_49 : decode cX10_reads 49 = .ok (.putfield 137, 3) := by decide +kernel
theorem dX10_reads_52 : decode cX10_reads 52 = .ok (.aload_n 0, 1) := by decide +kernel
theorem dX10_reads_53 : decode cX10_reads 53 = .ok (.iconst 1, 1) := by decide +kernel
theorem dX10_reads_54 : decode cX10_reads 54 = .ok (.putfield 163, 3) := by decide +kernel
theorem dX10_reads_57 : decode cX10_reads 57 = .ok (.iconst (-1), 1) := by decide +kernel
theorem dX10_reads_58 : decode cX10_reads 58 = .ok (.istore_n 1, 1) := by decide +kernel
theorem dX10_reads_59 : decode cX10_reads 59 = .ok (.aload_n 0, 1) := by decide +kernel
theorem dX10_reads_60 : decode cX10_reads 60 = .ok (.getfield 163, 3) := by decide +kernel
theorem dX10_reads_63 : decode cX10_reads 63 = .ok (.ifCond .le 51, 3) := by decide +kernel
theorem dX10_reads_66 : decode cX10_reads 66 = .ok (.iload_n 1, 1) := by decide +kernel
theorem dX10_reads_67 : decode cX10_reads 67 = .ok (.iconst (-1), 1) := by decide +kernel
theorem dX10_reads_68 : decode cX10_reads 68 = .ok (.if_icmp .ne 46, 3) := by decide +kernel
theorem dX10_reads_71 : decode cX10_reads 71 = .ok (.aload_n 0, 1) := by decide +kernel
theorem dX10_reads_72 : decode cX10_reads 72 = .ok (.getfield 163, 3) := by decide +kernel
theorem dX10_reads_75 : decode cX10_reads 75 = .ok (.iconst 1, 1) := by decide +kernel
theorem dX10_reads_76 : decode cX10_reads 76 = .ok (.if_icmp .ne 16, 3) := by decide +kernel
theorem dX10_reads_79 : decode cX10_reads 79 = .ok (.aload_n 0, 1) := by decide +kernel
theorem dX10_reads_80 : decode cX10_reads 80 = .ok (.invokevirtual 170, 3) := by decide +kernel
theorem dX10_reads_83 : decode cX10_reads 83 = .ok (.istore_n 1, 1) := by decide +kernel
theorem dX10_reads_84 : decode cX10_reads 84 = .ok (.aload_n 0, 1) := by decide +kernel
theorem dX10_reads_85 : decode cX10_reads 85 = .ok (.iconst 2, 1) := by decide +kernel
theorem dX10_reads_86 : decode cX10_reads 86 = .ok (.putfield 163, 3) := by decide +kernel
theorem dX10_reads_89 : decode cX10_reads 89 = .ok (.goto (-30), 3) := by decide +kernel
theorem dX10_reads_92 : decode cX10_reads 92 = .ok (.aload_n 0, 1) := by decide +kernel
theorem dX10_reads_93 : decode cX10_reads 93 = .ok (.invokevirtual 173, 3) := by decide +kernel
theorem dX10_reads_96 : decode cX10_reads 96 = .ok (.istore_n 1, 1) := by decide +kernel
theorem dX10_reads_97 : decode cX10_reads 97 = .ok (.iload_n 1, 1) := by decide +kernel
theorem dX10_reads_98 : decode cX10_reads 98 = .ok (.iconst (-1), 1) := by decide +kernel
theorem dX10_reads_99 : decode cX10_reads 99 = .ok (.if_icmp .ne 10, 3) := by decide +kernel
theorem dX10_reads_102 : decode cX10_reads 102 = .ok (.aload_n 0, 1) := by decide +kernel
theorem dX10_reads_103 : decode cX10_reads 103 = .ok (.invokevirtual 176, 3) := by decide +kernel
theorem dX10_reads_106 : decode cX10_reads 106 = .ok (.goto 4, 3) := by decide +kernel
theorem dX10_reads_109 : decode cX10_reads 109 = .ok (.iload_n 1, 1) := by decide +kernel
theorem dX10_reads_110 : decode cX10_reads 110 = .ok (.istore_n 1, 1) := by decide +kernel
theorem dX10_reads_111 : decode cX10_reads 111 = .ok (.goto (-52), 3) := by decide +kernel
theorem dX10_reads_114 : decode cX10_reads 114 = .ok (.iload_n 1, 1) := by decide +kernel
theorem dX10_reads_115 : decode cX10_reads 115 = .ok (.ireturn, 1) := by decide +kernel
theorem dX10_parse_0 : decode cX10_parse 0 = .ok (.iload_n 1, 1) := by decide +kernel
theorem dX10_parse_1 : decode cX10_parse 1 = .ok (.invokestatic 179, 3) := by decide +kernel
theorem dX10_parse_4 : decode cX10_parse 4 = .ok (.ifCond .ne 10, 3) := by decide +kernel
theorem dX10_parse_7 : decode cX10_parse 7 = .ok (.aload_n 0, 1) := by decide +kernel
theorem dX10_parse_8 : decode cX10_parse 8 = .ok (.bipush (-2), 2) := by decide +kernel
theorem dX10_parse_10 : decode cX10_parse 10 = .ok (.invokevirtual 106, 3) := by decide +kernel
theorem dX10_parse_13 : decode cX10_parse 13 = .ok (.ireturn, 1) := by decide +kernel
theorem dX10_parse_14 : decode cX10_parse 14 = .ok (.aload_n 0, 1) := by decide +kernel
theorem dX10_parse_15 : decode cX10_parse 15 = .ok (.invokevirtual 182, 3) := by decide +kernel
theorem dX10_parse_18 : decode cX10_parse 18 = .ok (.istore_n 2, 1) := by decide +kernel
theorem dX10_parse_19 : decode cX10_parse 19 = .ok (.iload_n 2, 1) := by decide +kernel
theorem dX10_parse_20 : decode cX10_parse 20 = .ok (.iconst (-1), 1) := by decide +kernel
theorem dX10_parse_21 : decode cX10_parse 21 = .ok (.if_icmp .eq 8, 3) := by decide +kernel
theorem dX10_parse_24 : decode cX10_parse 24 = .ok (.bipush (-10), 2) := by decide +kernel
theorem dX10_parse_26 : decode cX10_parse 26 = .ok (.iload_n 2, 1) := by decide +kernel
theorem dX10_parse_27 : decode cX10_parse 27 = .ok (.isub, 1) := by decide +kernel
theorem dX10_parse_28 : decode cX10_parse 28 = .ok (.ireturn, 1) := by decide +kernel
theorem dX10_parse_29 : decode cX10_parse 29 = .ok (.aload_n 0, 1) := by decide +kernel
theorem dX10_parse_30 : decode cX10_parse 30 = .ok (.getfield 110, 3) := by decide +kernel
theorem dX10_parse_33 : decode cX10_parse 33 = .ok (.bipush 60, 2) := by decide +kernel
theorem dX10_parse_35 : decode cX10_parse 35 = .ok (.if_icmp .le 12, 3) := by decide +kernel
theorem dX10_parse_38 : decode cX10_parse 38 = .ok (.aload_n 0, 1) := by decide +kernel
theorem dX10_parse_39 : decode cX10_parse 39 = .ok (.bipush (-4), 2) := by decide +kernel
theorem dX10_parse_41 : decode cX10_parse 41 = .ok (.invokevirtual 106, 3) := by decide +kernel
theorem dX10_parse_44 : decode cX10_parse 44 = .ok (.goto 8, 3) := by decide +kernel
theorem dX10_parse_47 : decode cX10_parse 47 = .ok (.aload_n 0, 1) := by decide +kernel
theorem dX10_parse_48 : decode cX10_parse 48 = .ok (.iload_n 1, 1) := by decide +kernel
theorem dX10_parse_49 : decode cX10_parse 49 = .ok (.invokevirtual 185, 3) := by decide +kernel
theorem dX10_parse_52 : decode cX10_parse 52 = .ok (.ireturn, 1) := by decide +kernel
theorem dX10_combine_0 : decode cX10_combine 0 = .ok (.iload_n 1, 1) := by decide +kernel
theorem dX10_combine_1 : decode cX10_combine 1 = .ok (.iconst 0, 1) := by decide +kernel
theorem dX10_combine_2 : decode cX10_combine 2 = .ok (.iconst 1, 1) := by decide +kernel
theorem dX10_combine_3 : decode cX10_combine 3 = .ok (.invokestatic 98, 3) := by decide +kernel
theorem dX10_combine_6 : decode cX10_combine 6 = .ok (.ifCond .eq 25, 3) := by decide +kernel
theorem dX10_combine_9 : decode cX10_combine 9 = .ok (.iload_n 2, 1) := by decide +kernel
theorem dX10_combine_10 : decode cX10_combine 10 = .ok (.invokestatic 179, 3) := by decide +kernel
theorem dX10_combine_13 : decode cX10_combine 13 = .ok (.ifCond .eq 18, 3) := by decide +kernel
theorem dX10_combine_16 : decode cX10_combine 16 = .ok (.iload_n 3, 1) := by decide +kernel
theorem dX10_combine_17 : decode cX10_combine 17 = .ok (.invokestatic 179, 3) := by decide +kernel
theorem dX10_combine_20 : decode cX10_combine 20 = .ok (.ifCond .eq 11, 3) := by decide +kernel
theorem dX10_combine_23 : decode cX10_combine 23 = .ok (.iload 4, 2) := by decide +kernel
theorem dX10_combine_25 : decode cX10_combine 25 = .ok (.invokestatic 179, 3) := by decide +kernel
theorem dX10_combine_28 : decode cX10_combine 28 = .ok (.ifCond .ne 10, 3) := by decide +kernel
theorem dX10_combine_31 : decode cX10_combine 31 = .ok (.aload_n 0, 1) := by decide +kernel
theorem dX10_combine_32 : decode cX10_combine 32 = .ok (.bipush (-2), 2) := by decide +kernel
theorem dX10_combine_34 : decode cX10_combine 34 = .ok (.invokevirtual 106, 3) := by decide +kernel
theorem dX10_combine_37 : decode cX10_combine 37 = .ok (.ireturn, 1) := by decide +kernel
theorem dX10_combine_38 : decode cX10_combine 38 = .ok (.aload_n 0, 1) := by decide +kernel
theorem dX10_combine_39 : decode cX10_combine 39 = .ok (.getfield 7, 3) := by decide +kernel
theorem dX10_combine_42 : decode cX10_combine 42 = .ok (.iload_n 2, 1) := by decide +kernel
theorem dX10_combine_43 : decode cX10_combine 43 = .ok (.iaload, 1) := by decide +kernel
theorem dX10_combine_44 : decode cX10_combine 44 = .ok (.aload_n 0, 1) := by decide +kernel
theorem dX10_combine_45 : decode cX10_combine 45 = .ok (.getfield 7, 3) := by decide +kernel
theorem dX10_combine_48 : decode cX10_combine 48 = .ok (.iload_n 3, 1) := by decide +kernel
theorem dX10_combine_49 : decode cX10_combine 49 = .ok (.iaload, 1) := by decide +kernel
theorem dX10_combine_50 : decode cX10_combine 50 = .ok (.iadd, 1) := by decide +kernel
theorem dX10_combine_51 : decode cX10_combine 51 = .ok (.bipush 60, 2) := by decide +kernel
theorem dX10_combine_53 : decode cX10_combine 53 = .ok (.if_icmp .lt 10, 3) := by decide +kernel
theorem dX10_combine_56 : decode cX10_combine 56 = .ok (.aload_n 0, 1) := by decide +kernel
theorem dX10_combine_57 : decode cX10_combine 57 = .ok (.bipush (-4), 2) := by decide +kernel
theorem dX10_combine_59 : decode cX10_combine 59 = .ok (.invokevirtual 106, 3) := by decide +kernel
theorem dX10_combine_62 : decode cX10_combine 62 = .ok (.ireturn, 1) := by decide +kernel
theorem dX10_combine_63 : decode cX10_combine 63 = .ok (.aload_n 0, 1) := by decide +kernel
theorem dX10_combine_64 : decode cX10_combine 64 = .ok (.iconst 0, 1) := by decide +kernel
theorem dX10_combine_65 : decode cX10_combine 65 = .ok (.putfield 110, 3) := by decide +kernel
theorem dX10_combine_68 : decode cX10_combine 68 = .ok (.aload_n 0, 1) := by decide +kernel
theorem dX10_combine_69 : decode cX10_combine 69 = .ok (.iload_n 2, 1) := by decide +kernel
theorem dX10_combine_70 : decode cX10_combine 70 = .ok (.invokevirtual 149, 3) := by decide +kernel
theorem dX10_combine_73 : decode cX10_combine 73 = .ok (.aload_n 0, 1) := by decide +kernel
theorem dX10_combine_74 : decode cX10_combine 74 = .ok (.iload_n 3, 1) := by decide +kernel
theorem dX10_combine_75 : decode cX10_combine 75 = .ok (.invokevirtual 149, 3) := by decide +kernel
theorem dX10_combine_78 : decode cX10_combine 78 = .ok (.aload_n 0, 1) := by decide +kernel
theorem dX10_combine_79 : decode cX10_combine 79 = .ok (.bipush 50, 2) := by decide +kernel
theorem dX10_combine_81 : decode cX10_combine 81 = .ok (.iload_n 1, 1) := by decide +kernel
theorem dX10_combine_82 : decode cX10_combine 82 = .ok (.iadd, 1) := by decide +kernel
theorem dX10_combine_83 : decode cX10_combine 83 = .ok (.invokevirtual 127, 3) := by decide +kernel
theorem dX10_combine_86 : decode cX10_combine 86 = .ok (.aload_n 0, 1) := by decide +kernel
theorem dX10_combine_87 : decode cX10_combine 87 = .ok (.iload 4, 2) := by decide +kernel
theorem dX10_combine_89 : decode cX10_combine 89 = .ok (.invokevirtual 185, 3) := by decide +kernel
theorem dX10_combine_92 : decode cX10_combine 92 = .ok (.ireturn, 1) := by decide +kernel
theorem dX10_modify_0 : decode cX10_modify 0 = .ok (.iload_n 1, 1) := by decide +kernel
theorem dX10_modify_1 : decode cX10_modify 1 = .ok (.iconst 0, 1) := by decide +kernel
theorem dX10_modify_2 : decode cX10_modify 2 = .ok (.iconst 1, 1) := by decide +kernel
theorem dX10_modify_3 : decode cX10_modify 3 = .ok (.invokestatic 98, 3) := by decide +kernel
theorem dX10_modify_6 : decode cX10_modify 6 = .ok (.ifCond .eq 17, 3) := by decide +kernel
theorem dX10_modify_9 : decode cX10_modify 9 = .ok (.iload_n 2, 1) := by decide +kernel
theorem dX10_modify_10 : decode cX10_modify 10 = .ok (.invokestatic 179, 3) := by decide +kernel
theorem dX10_modify_13 : decode cX10_modify 13 = .ok (.ifCond .eq 10, 3) := by decide +kernel
theorem dX10_modify_16 : decode cX10_modify 16 = .ok (.iload_n 3, 1) := by decide +kernel
theorem dX10_modify_17 : decode cX10_modify 17 = .ok (.invokestatic 179, 3) := by decide +kernel
theorem dX10_modify_20 : decode cX10_modify 20 = .ok (.ifCond .ne 10, 3) := by decide +kernel
theorem dX10_modify_23 : decode cX10_modify 23 = .ok (.aload_n 0, 1) := by decide +kernel
theorem dX10_modify_24 : decode cX10_modify 24 = .ok (.bipush (-2), 2) := by decide +kernel
theorem dX10_modify_26 : decode cX10_modify 26 = .ok (.invokevirtual 106, 3) := by decide +kernel
theorem dX10_modify_29 : decode cX10_modify 29 = .ok (.ireturn, 1) := by decide +kernel
theorem dX10_modify_30 : decode cX10_modify 30 = .ok (.iload_n 1, 1) := by decide +kernel
theorem dX10_modify_31 : decode cX10_modify 31 = .ok (.iconst 1, 1) := by decide +kernel
theorem dX10_modify_32 : decode cX10_modify 32 = .ok (.if_icmp .ne 18, 3) := by decide +kernel
theorem dX10_modify_35 : decode cX10_modify 35 = .ok (.aload_n 0, 1) := by decide +kernel
theorem dX10_modify_36 : decode cX10_modify 36 = .ok (.iload_n 2, 1) := by decide +kernel
theorem dX10_modify_37 : decode cX10_modify 37 = .ok (.invokevirtual 166, 3) := by decide +kernel
theorem dX10_modify_40 : decode cX10_modify 40 = .ok (.ifCond .ne 10, 3) := by decide +kernel
theorem dX10_modify_43 : decode cX10_modify 43 = .ok (.aload_n 0, 1) := by decide +kernel
theorem dX10_modify_44 : decode cX10_modify 44 = .ok (.bipush (-3), 2) := by decide +kernel
theorem dX10_modify_46 : decode cX10_modify 46 = .ok (.invokevirtual 106, 3) := by decide +kernel
theorem dX10_modify_49 : decode cX10_modify 49 = .ok (.ireturn, 1) := by decide +kernel
theorem dX10_modify_50 : decode cX10_modify 50 = .ok (.aload_n 0, 1) := by decide +kernel
theorem dX10_modify_51 : decode cX10_modify 51 = .ok (.getfield 7, 3) := by decide +kernel
theorem dX10_modify_54 : decode cX10_modify 54 = .ok (.iload_n 2, 1) := by decide +kernel
theorem dX10_modify_55 : decode cX10_modify 55 = .ok (.iaload, 1) := by decide +kernel
theorem dX10_modify_56 : decode cX10_modify 56 = .ok (.bipush 60, 2) := by decide +kernel
theorem dX10_modify_58 : decode cX10_modify 58 = .ok (.if_icmp .lt 10, 3) := by decide +kernel
theorem dX10_modify_61 : decode cX10_modify 61 = .ok (.aload_n 0, 1) := by decide +kernel
theorem dX10_modify_62 : decode cX10_modify 62 = .ok (.bipush (-4), 2) := by decide +kernel
theorem dX10_modify_64 : decode cX10_modify 64 = .ok (.invokevirtual 106, 3) := by decide +kernel
theorem dX10_modify_67 : decode cX10_modify 67 = .ok (.ireturn, 1) := by decide +kernel
theorem dX10_modify_68 : decode cX10_modify 68 = .ok (.aload_n 0, 1) := by decide +kernel
theorem dX10_modify_69 : decode cX10_modify 69 = .ok (.iconst 0, 1) := by decide +kernel
theorem dX10_modify_70 : decode cX10_modify 70 = .ok (.putfield 110, 3) := by decide +kernel
theorem dX10_modify_73 : decode cX10_modify 73 = .ok (.aload_n 0, 1) := by decide +kernel
theorem dX10_modify_74 : decode cX10_modify 74 = .ok (.iload_n 2, 1) := by decide +kernel
theorem dX10_modify_75 : decode cX10_modify 75 = .ok (.invokevirtual 149, 3) := by decide +kernel
theorem dX10_modify_78 : decode cX10_modify 78 = .ok (.aload_n 0, 1) := by decide +kernel
theorem dX10_modify_79 : decode cX10_modify 79 = .ok (.bipush 52, 2) := by decide +kernel
theorem dX10_modify_81 : decode cX10_modify 81 = .ok (.iload_n 1, 1) := by decide +kernel
theorem dX10_modify_82 : decode cX10_modify 82 = .ok (.iadd, 1) := by decide +kernel
theorem dX10_modify_83 : decode cX10_modify 83 = .ok (.invokevirtual 127, 3) := by decide +kernel
theorem dX10_modify_86 : decode cX10_modify 86 = .ok (.aload_n 0, 1) := by decide +kernel
theorem dX10_modify_87 : decode cX10_modify 87 = .ok (.iload_n 3, 1) := by decide +kernel
theorem dX10_modify_88 : decode cX10_modify 88 = .ok (.invokevirtual 185, 3) := by decide +kernel
theorem dX10_modify_91 : decode cX10_modify 91 = .ok (.ireturn, 1) := by decide +kernel
theorem dX10_size_0 : decode cX10_size 0 = .ok (.iload_n 1, 1) := by decide +kernel
theorem dX10_size_1 : decode cX10_size 1 = .ok (.invokestatic 179, 3) := by decide +kernel
theorem dX10_size_4 : decode cX10_size 4 = .ok (.ifCond .eq 12, 3) := by decide +kernel
theorem dX10_size_7 : decode cX10_size 7 = .ok (.aload_n 0, 1) := by decide +kernel
theorem dX10_size_8 : decode cX10_size 8 = .ok (.getfield 7, 3) := by decide +kernel
theorem dX10_size_11 : decode cX10_size 11 = .ok (.iload_n 1, 1) := by decide +kernel
theorem dX10_size_12 : decode cX10_size 12 = .ok (.iaload, 1) := by decide +kernel
theorem dX10_size_13 : decode cX10_size 13 = .ok (.goto 9, 3) := by decide +kernel
theorem dX10_size_16 : decode cX10_size 16 = .ok (.aload_n 0, 1) := by decide +kernel
theorem dX10_size_17 : decode cX10_size 17 = .ok (.bipush (-2), 2) := by decide +kernel
theorem dX10_size_19 : decode cX10_size 19 = .ok (.invokevirtual 106, 3) := by decide +kernel
theorem dX10_size_22 : decode cX10_size 22 = .ok (.ireturn, 1) := by decide +kernel
theorem dX10_isPredicate_0 : decode cX10_isPredicate 0 = .ok (.iload_n 1, 1) := by decide +kernel
theorem dX10_isPredicate_1 : decode cX10_isPredicate 1 = .ok (.invokestatic 179, 3) := by decide +kernel
theorem dX10_isPredicate_4 : decode cX10_isPredicate 4 = .ok (.ifCond .eq 19, 3) := by decide +kernel
theorem dX10_isPredicate_7 : decode cX10_isPredicate 7 = .ok (.aload_n 0, 1) := by decide +kernel
theorem dX10_isPredicate_8 : decode cX10_isPredicate 8 = .ok (.iload_n 1, 1) := by decide +kernel
theorem dX10_isPredicate_9 : decode cX10_isPredicate 9 = .ok (.invokevirtual 166, 3) := by decide +kernel
theorem dX10_isPredicate_12 : decode cX10_isPredicate 12 = .ok (.ifCond .eq 7, 3) := by decide +kernel
theorem dX10_isPredicate_15 : decode cX10_isPredicate 15 = .ok (.iconst 1, 1) := by decide +kernel
theorem dX10_isPredicate_16 : decode cX10_isPredicate 16 = .ok (.goto 13, 3) := by decide +kernel
theorem dX10_isPredicate_19 : decode cX10_isPredicate 19 = .ok (.iconst 0, 1) := by decide +kernel
theorem dX10_isPredicate_20 : decode cX10_isPredicate 20 = .ok (.goto 9, 3) := by decide +kernel
theorem dX10_isPredicate_23 : decode cX10_isPredicate 23 = .ok (.aload_n 0, 1) := by decide +kernel
theorem dX10_isPredicate_24 : decode cX10_isPredicate 24 = .ok (.bipush (-2), 2) := by decide +kernel
theorem dX10_isPredicate_26 : decode cX10_isPredicate 26 = .ok (.invokevirtual 106, 3) := by decide +kernel
theorem dX10_isPredicate_29 : decode cX10_isPredicate 29 = .ok (.ireturn, 1) := by decide +kernel
theorem dX10_laysOperands_0 : decode cX10_laysOperands 0 = .ok (.aload_n 0, 1) := by decide +kernel
theorem dX10_laysOperands_1 : decode cX10_laysOperands 1 = .ok (.iconst 0, 1) := by decide +kernel
theorem dX10_laysOperands_2 : decode cX10_laysOperands 2 = .ok (.putfield 188, 3) := by decide +kernel
theorem dX10_laysOperands_5 : decode cX10_laysOperands 5 = .ok (.iconst 0, 1) := by decide +kernel
theorem dX10_laysOperands_6 : decode cX10_laysOperands 6 = .ok (.istore_n 2, 1) := by decide +kernel
theorem dX10_laysOperands_7 : decode cX10_laysOperands 7 = .ok (.iload_n 2, 1) := by decide +kernel
theorem dX10_laysOperands_8 : decode cX10_laysOperands 8 = .ok (.aload_n 0, 1) := by decide +kernel
theorem dX10_laysOperands_9 : decode cX10_laysOperands 9 = .ok (.getfield 7, 3) := by decide +kernel
theorem dX10_laysOperands_12 : decode cX10_laysOperands 12 = .ok (.iload_n 1, 1) := by decide +kernel
theorem dX10_laysOperands_13 : decode cX10_laysOperands 13 = .ok (.iaload, 1) := by decide +kernel
theorem dX10_laysOperands_14 : decode cX10_laysOperands 14 = .ok (.if_icmp .ge 158, 3) := by decide +kernel
theorem dX10_laysOperands_17 : decode cX10_laysOperands 17 = .ok (.aload_n 0, 1) := by decide +kernel
theorem dX10_laysOperands_18 : decode cX10_laysOperands 18 = .ok (.iload_n 1, 1) := by decide +kernel
theorem dX10_laysOperands_19 : decode cX10_laysOperands 19 = .ok (.iload_n 2, 1) := by decide +kernel
theorem dX10_laysOperands_20 : decode cX10_laysOperands 20 = .ok (.invokevirtual 116, 3) := by decide +kernel
theorem dX10_laysOperands_23 : decode cX10_laysOperands 23 = .ok (.istore_n 3, 1) := by decide +kernel
theorem dX10_laysOperands_24 : decode cX10_laysOperands 24 = .ok (.iload_n 3, 1) := by decide +kernel
theorem dX10_laysOperands_25 : decode cX10_laysOperands 25 = .ok (.bipush 50, 2) := by decide +kernel
theorem dX10_laysOperands_27 : decode cX10_laysOperands 27 = .ok (.if_icmp .ge 7, 3) := by decide +kernel
theorem dX10_laysOperands_30 : decode cX10_laysOperands 30 = .ok (.iconst 0, 1) := by decide +kernel
theorem dX10_laysOperands_31 : decode cX10_laysOperands 31 = .ok (.goto 24, 3) := by decide +kernel
theorem dX10_laysOperands_34 : decode cX10_laysOperands 34 = .ok (.iload_n 3, 1) := by decide +kernel
theorem dX10_laysOperands_35 : decode cX10_laysOperands 35 = .ok (.bipush 52, 2) := by decide +kernel
theorem dX10_laysOperands_37 : decode cX10_laysOperands 37 = .ok (.if_icmp .ge 7, 3) := by decide +kernel
theorem dX10_laysOperands_40 : decode cX10_laysOperands 40 = .ok (.iconst 2, 1) := by decide +kernel
theorem dX10_laysOperands_41 : decode cX10_laysOperands 41 = .ok (.goto 14, 3) := by decide +kernel
theorem dX10_laysOperands_44 : decode cX10_laysOperands 44 = .ok (.iload_n 3, 1) := by decide +kernel
theorem dX10_laysOperands_45 : decode cX10_laysOperands 45 = .ok (.bipush 54, 2) := by decide +kernel
theorem dX10_laysOperands_47 : decode cX10_laysOperands 47 = .ok (.if_icmp .ne 7, 3) := by decide +kernel
theorem dX10_laysOperands_50 : decode cX10_laysOperands 50 = .ok (.iconst 3, 1) := by decide +kernel
theorem dX10_laysOperands_51 : decode cX10_laysOperands 51 = .ok (.goto 4, 3) := by decide +kernel
theorem dX10_laysOperands_54 : decode cX10_laysOperands 54 = .ok (.iconst 1, 1) := by decide +kernel
theorem dX10_laysOperands_55 : decode cX10_laysOperands 55 = .ok (.istore 4, 2) := by decide +kernel
theorem dX10_laysOperands_57 : decode cX10_laysOperands 57 = .ok (.aload_n 0, 1) := by decide +kernel
theorem dX10_laysOperands_58 : decode cX10_laysOperands 58 = .ok (.dup, 1) := by decide +kernel
theorem dX10_laysOperands_59 : decode cX10_laysOperands 59 = .ok (.getfield 188, 3) := by decide +kernel
theorem dX10_laysOperands_62 : decode cX10_laysOperands 62 = .ok (.iload 4, 2) := by decide +kernel
theorem dX10_laysOperands_64 : decode cX10_laysOperands 64 = .ok (.isub, 1) := by decide +kernel
theorem dX10_laysOperands_65 : decode cX10_laysOperands 65 = .ok (.putfield 188, 3) := by decide +kernel
theorem dX10_laysOperands_68 : decode cX10_laysOperands 68 = .ok (.aload_n 0, 1) := by decide +kernel
theorem dX10_laysOperands_69 : decode cX10_laysOperands 69 = .ok (.getfield 40, 3) := by decide +kernel
theorem dX10_laysOperands_72 : decode cX10_laysOperands 72 = .ok (.iload_n 2, 1) := by decide +kernel
theorem dX10_laysOperands_73 : decode cX10_laysOperands 73 = .ok (.iload 4, 2) := by decide +kernel
theorem dX10_laysOperands_75 : decode cX10_laysOperands 75 = .ok (.ifCond .le 15, 3) := by decide +kernel
theorem dX10_laysOperands_78 : decode cX10_laysOperands 78 = .ok (.aload_n 0, 1) := by decide +kernel
theorem dX10_laysOperands_79 : decode cX10_laysOperands 79 = .ok (.getfield 49, 3) := by decide +kernel
theorem dX10_laysOperands_82 : decode cX10_laysOperands 82 = .ok (.aload_n 0, 1) := by decide +kernel
theorem dX10_laysOperands_83 : decode cX10_laysOperands 83 = .ok (.getfield 188, 3) := by decide +kernel
theorem dX10_laysOperands_86 : decode cX10_laysOperands 86 = .ok (.iaload, 1) := by decide +kernel
theorem dX10_laysOperands_87 : decode cX10_laysOperands 87 = .ok (.goto 4, 3) := by decide +kernel
theorem dX10_laysOperands_90 : decode cX10_laysOperands 90 = .ok (.iconst (-1), 1) := by decide +kernel
theorem dX10_laysOperands_91 : decode cX10_laysOperands 91 = .ok (.iastore, 1) := by decide +kernel
theorem dX10_laysOperands_92 : decode cX10_laysOperands 92 = .ok (.aload_n 0, 1) := by decide +kernel
theorem dX10_laysOperands_93 : decode cX10_laysOperands 93 = .ok (.getfield 43, 3) := by decide +kernel
theorem dX10_laysOperands_96 : decode cX10_laysOperands 96 = .ok (.iload_n 2, 1) := by decide +kernel
theorem dX10_laysOperands_97 : decode cX10_laysOperands 97 = .ok (.iload 4, 2) := by decide +kernel
theorem dX10_laysOperands_99 : decode cX10_laysOperands 99 = .ok (.iconst 1, 1) := by decide +kernel
theorem dX10_laysOperands_100 : decode cX10_laysOperands 100 = .ok (.if_icmp .le 17, 3) := by decide +kernel
theorem dX10_laysOperands_103 : decode cX10_laysOperands 103 = .ok (.aload_n 0, 1) := by decide +kernel
theorem dX10_laysOperands_104 : decode cX10_laysOperands 104 = .ok (.getfield 49, 3) := by decide +kernel
theorem dX10_laysOperands_107 : decode cX10_laysOperands 107 = .ok (.aload_n 0, 1) := by decide +kernel
theorem dX10_laysOperands_108 : decode cX10_laysOperands 108 = .ok (.getfield 188, 3) := by decide +kernel
theorem dX10_laysOperands_111 : decode cX10_laysOperands 111 = .ok (.iconst 1, 1) := by decide +kernel
theorem dX10_laysOperands_112 : decode cX10_laysOperands 112 = .ok (.iadd, 1) := by decide +kernel
theorem dX10_laysOperands_113 : decode cX10_laysOperands 113 = .ok (.iaload, 1) := by decide +kernel
theorem dX10_laysOperands_114 : decode cX10_laysOperands 114 = .ok (.goto 4, 3) := by decide +kernel
theorem dX10_laysOperands_117 : decode cX10_laysOperands 117 = .ok (.iconst (-1), 1) := by decide +kernel
theorem dX10_laysOperands_118 : decode cX10_laysOperands 118 = .ok (.iastore, 1) := by decide +kernel
theorem dX10_laysOperands_119 : decode cX10_laysOperands 119 = .ok (.aload_n 0, 1) := by decide +kernel
theorem dX10_laysOperands_120 : decode cX10_laysOperands 120 = .ok (.getfield 46, 3) := by decide +kernel
theorem dX10_laysOperands_123 : decode cX10_laysOperands 123 = .ok (.iload_n 2, 1) := by decide +kernel
theorem dX10_laysOperands_124 : decode cX10_laysOperands 124 = .ok (.iload 4, 2) := by decide +kernel
theorem dX10_laysOperands_126 : decode cX10_laysOperands 126 = .ok (.iconst 2, 1) := by decide +kernel
theorem dX10_laysOperands_127 : decode cX10_laysOperands 127 = .ok (.if_icmp .le 17, 3) := by decide +kernel
theorem dX10_laysOperands_130 : decode cX10_laysOperands 130 = .ok (.aload_n 0, 1) := by decide +kernel
theorem dX10_laysOperands_131 : decode cX10_laysOperands 131 = .ok (.getfield 49, 3) := by decide +kernel
theorem dX10_laysOperands_134 : decode cX10_laysOperands 134 = .ok (.aload_n 0, 1) := by decide +kernel
theorem dX10_laysOperands_135 : decode cX10_laysOperands 135 = .ok (.getfield 188, 3) := by decide +kernel
theorem dX10_laysOperands_138 : decode cX10_laysOperands 138 = .ok (.iconst 2, 1) := by decide +kernel
theorem dX10_laysOperands_139 : decode cX10_laysOperands 139 = .ok (.iadd, 1) := by decide +kernel
theorem dX10_laysOperands_140 : decode cX10_laysOperands 140 = .ok (.iaload, 1) := by decide +kernel
theorem dX10_laysOperands_141 : decode cX10_laysOperands 141 = .ok (.goto 4, 3) := by decide +kernel
theorem dX10_laysOperands_144 : decode cX10_laysOperands 144 = .ok (.iconst (-1), 1) := by decide +kernel
theorem dX10_laysOperands_145 : decode cX10_laysOperands 145 = .ok (.iastore, 1) := by decide +kernel
theorem dX10_laysOperands_146 : decode cX10_laysOperands 146 = .ok (.aload_n 0, 1) := by decide +kernel
theorem dX10_laysOperands_147 : decode cX10_laysOperands 147 = .ok (.getfield 49, 3) := by decide +kernel
theorem dX10_laysOperands_150 : decode cX10_laysOperands 150 = .ok (.aload_n 0, 1) := by decide +kernel
theorem dX10_laysOperands_151 : decode cX10_laysOperands 151 = .ok (.getfield 188, 3) := by decide +kernel
theorem dX10_laysOperands_154 : decode cX10_laysOperands 154 = .ok (.iload_n 2, 1) := by decide +kernel
theorem dX10_laysOperands_155 : decode cX10_laysOperands 155 = .ok (.iastore, 1) := by decide +kernel
theorem dX10_laysOperands_156 : decode cX10_laysOperands 156 = .ok (.aload_n 0, 1) := by decide +kernel
theorem dX10_laysOperands_157 : decode cX10_laysOperands 157 = .ok (.dup, 1) := by decide +kernel
theorem dX10_laysOperands_158 : decode cX10_laysOperands 158 = .ok (.getfield 188, 3) := by decide +kernel
theorem dX10_laysOperands_161 : decode cX10_laysOperands 161 = .ok (.iconst 1, 1) := by decide +kernel
theorem dX10_laysOperands_162 : decode cX10_laysOperands 162 = .ok (.iadd, 1) := by decide +kernel
theorem dX10_laysOperands_163 : decode cX10_laysOperands 163 = .ok (.putfield 188, 3) := by decide +kernel
theorem dX10_laysOperands_166 : decode cX10_laysOperands 166 = .ok (.iinc 2 1, 3) := by decide +kernel
theorem dX10_laysOperands_169 : decode cX10_laysOperands 169 = .ok (.goto (-162), 3) := by decide +kernel
theorem dX10_laysOperands_172 : decode cX10_laysOperands 172 = .ok (.return_, 1) := by decide +kernel
theorem dX10_piles_0 : decode cX10_piles 0 = .ok (.aload_n 0, 1) := by decide +kernel
theorem dX10_piles_1 : decode cX10_piles 1 = .ok (.getfield 49, 3) := by decide +kernel
theorem dX10_piles_4 : decode cX10_piles 4 = .ok (.aload_n 0, 1) := by decide +kernel
theorem dX10_piles_5 : decode cX10_piles 5 = .ok (.getfield 188, 3) := by decide +kernel
theorem dX10_piles_8 : decode cX10_piles 8 = .ok (.iload_n 1, 1) := by decide +kernel
theorem dX10_piles_9 : decode cX10_piles 9 = .ok (.iastore, 1) := by decide +kernel
theorem dX10_piles_10 : decode cX10_piles 10 = .ok (.aload_n 0, 1) := by decide +kernel
theorem dX10_piles_11 : decode cX10_piles 11 = .ok (.dup, 1) := by decide +kernel
theorem dX10_piles_12 : decode cX10_piles 12 = .ok (.getfield 188, 3) := by decide +kernel
theorem dX10_piles_15 : decode cX10_piles 15 = .ok (.iconst 1, 1) := by decide +kernel
theorem dX10_piles_16 : decode cX10_piles 16 = .ok (.iadd, 1) := by decide +kernel
theorem dX10_piles_17 : decode cX10_piles 17 = .ok (.putfield 188, 3) := by decide +kernel
theorem dX10_piles_20 : decode cX10_piles 20 = .ok (.return_, 1) := by decide +kernel
theorem dX10_pilesOperand_0 : decode cX10_pilesOperand 0 = .ok (.iload_n 2, 1) := by decide +kernel
theorem dX10_pilesOperand_1 : decode cX10_pilesOperand 1 = .ok (.ifCond .eq 9, 3) := by decide +kernel
theorem dX10_pilesOperand_4 : decode cX10_pilesOperand 4 = .ok (.aload_n 0, 1) := by decide +kernel
theorem dX10_pilesOperand_5 : decode cX10_pilesOperand 5 = .ok (.bipush (-41), 2) := by decide +kernel
theorem dX10_pilesOperand_7 : decode cX10_pilesOperand 7 = .ok (.invokevirtual 191, 3) := by decide +kernel
theorem dX10_pilesOperand_10 : decode cX10_pilesOperand 10 = .ok (.aload_n 0, 1) := by decide +kernel
theorem dX10_pilesOperand_11 : decode cX10_pilesOperand 11 = .ok (.iload_n 1, 1) := by decide +kernel
theorem dX10_pilesOperand_12 : decode cX10_pilesOperand 12 = .ok (.invokevirtual 191, 3) := by decide +kernel
theorem dX10_pilesOperand_15 : decode cX10_pilesOperand 15 = .ok (.iload_n 2, 1) := by decide +kernel
theorem dX10_pilesOperand_16 : decode cX10_pilesOperand 16 = .ok (.ifCond .eq 9, 3) := by decide +kernel
theorem dX10_pilesOperand_19 : decode cX10_pilesOperand 19 = .ok (.aload_n 0, 1) := by decide +kernel
theorem dX10_pilesOperand_20 : decode cX10_pilesOperand 20 = .ok (.bipush (-40), 2) := by decide +kernel
theorem dX10_pilesOperand_22 : decode cX10_pilesOperand 22 = .ok (.invokevirtual 191, 3) := by decide +kernel
theorem dX10_pilesOperand_25 : decode cX10_pilesOperand 25 = .ok (.return_, 1) := by decide +kernel
theorem dX10_shows_0 : decode cX10_shows 0 = .ok (.aload_n 0, 1) := by decide +kernel
theorem dX10_shows_1 : decode cX10_shows 1 = .ok (.getfield 52, 3) := by decide +kernel
theorem dX10_shows_4 : decode cX10_shows 4 = .ok (.aload_n 0, 1) := by decide +kernel
theorem dX10_shows_5 : decode cX10_shows 5 = .ok (.getfield 194, 3) := by decide +kernel
theorem dX10_shows_8 : decode cX10_shows 8 = .ok (.iload_n 1, 1) := by decide +kernel
theorem dX10_shows_9 : decode cX10_shows 9 = .ok (.iastore, 1) := by decide +kernel
theorem dX10_shows_10 : decode cX10_shows 10 = .ok (.aload_n 0, 1) := by decide +kernel
theorem dX10_shows_11 : decode cX10_shows 11 = .ok (.dup, 1) := by decide +kernel
theorem dX10_shows_12 : decode cX10_shows 12 = .ok (.getfield 194, 3) := by decide +kernel
theorem dX10_shows_15 : decode cX10_shows 15 = .ok (.iconst 1, 1) := by decide +kernel
theorem dX10_shows_16 : decode cX10_shows 16 = .ok (.iadd, 1) := by decide +kernel
theorem dX10_shows_17 : decode cX10_shows 17 = .ok (.putfield 194, 3) := by decide +kernel
theorem dX10_shows_20 : decode cX10_shows 20 = .ok (.return_, 1) := by decide +kernel
theorem dX10_expands_0 : decode cX10_expands 0 = .ok (.aload_n 0, 1) := by decide +kernel
theorem dX10_expands_1 : decode cX10_expands 1 = .ok (.iload_n 1, 1) := by decide +kernel
theorem dX10_expands_2 : decode cX10_expands 2 = .ok (.iload_n 2, 1) := by decide +kernel
theorem dX10_expands_3 : decode cX10_expands 3 = .ok (.invokevirtual 116, 3) := by decide +kernel
theorem dX10_expands_6 : decode cX10_expands 6 = .ok (.istore_n 3, 1) := by decide +kernel
theorem dX10_expands_7 : decode cX10_expands 7 = .ok (.aload_n 0, 1) := by decide +kernel
theorem dX10_expands_8 : decode cX10_expands 8 = .ok (.getfield 40, 3) := by decide +kernel
theorem dX10_expands_11 : decode cX10_expands 11 = .ok (.iload_n 2, 1) := by decide +kernel
theorem dX10_expands_12 : decode cX10_expands 12 = .ok (.iaload, 1) := by decide +kernel
theorem dX10_expands_13 : decode cX10_expands 13 = .ok (.iconst (-1), 1) := by decide +kernel
theorem dX10_expands_14 : decode cX10_expands 14 = .ok (.if_icmp .ne 7, 3) := by decide +kernel
theorem dX10_expands_17 : decode cX10_expands 17 = .ok (.iconst (-1), 1) := by decide +kernel
theorem dX10_expands_18 : decode cX10_expands 18 = .ok (.goto 14, 3) := by decide +kernel
theorem dX10_expands_21 : decode cX10_expands 21 = .ok (.aload_n 0, 1) := by decide +kernel
theorem dX10_expands_22 : decode cX10_expands 22 = .ok (.iload_n 1, 1) := by decide +kernel
theorem dX10_expands_23 : decode cX10_expands 23 = .ok (.aload_n 0, 1) := by decide +kernel
theorem dX10_expands_24 : decode cX10_expands 24 = .ok (.getfield 40, 3) := by decide +kernel
theorem dX10_expands_27 : decode cX10_expands 27 = .ok (.iload_n 2, 1) := by decide +kernel
theorem dX10_expands_28 : decode cX10_expands 28 = .ok (.iaload, 1) := by decide +kernel
theorem dX10_expands_29 : decode cX10_expands 29 = .ok (.invokevirtual 116, 3) := by decide +kernel
theorem dX10_expands_32 : decode cX10_expands 32 = .ok (.istore 4, 2) := by decide +kernel
theorem dX10_expands_34 : decode cX10_expands 34 = .ok (.aload_n 0, 1) := by decide +kernel
theorem dX10_expands_35 : decode cX10_expands 35 = .ok (.getfield 43, 3) := by decide +kernel
theorem dX10_expands_38 : decode cX10_expands 38 = .ok (.iload_n 2, 1) := by decide +kernel
theorem dX10_expands_39 : decode cX10_expands 39 = .ok (.iaload, 1) := by decide +kernel
theorem dX10_expands_40 : decode cX10_expands 40 = .ok (.iconst (-1), 1) := by decide +kernel
theorem dX10_expands_41 : decode cX10_expands 41 = .ok (.if_icmp .ne 7, 3) := by decide +kernel
theorem dX10_expands_44 : decode cX10_expands 44 = .ok (.iconst (-1), 1) := by decide +kernel
theorem dX10_expands_45 : decode cX10_expands 45 = .ok (.goto 14, 3) := by decide +kernel
theorem dX10_expands_48 : decode cX10_expands 48 = .ok (.aload_n 0, 1) := by decide +kernel
theorem dX10_expands_49 : decode cX10_expands 49 = .ok (.iload_n 1, 1) := by decide +kernel
theorem dX10_expands_50 : decode cX10_expands 50 = .ok (.aload_n 0, 1) := by decide +kernel
theorem dX10_expands_51 : decode cX10_expands 51 = .ok (.getfield 43, 3) := by decide +kernel
theorem dX10_expands_54 : decode cX10_expands 54 = .ok (.iload_n 2, 1) := by decide +kernel
theorem dX10_expands_55 : decode cX10_expands 55 = .ok (.iaload, 1) := by decide +kernel
theorem dX10_expands_56 : decode cX10_expands 56 = .ok (.invokevirtual 116, 3) := by decide +kernel
theorem dX10_expands_59 : decode cX10_expands 59 = .ok (.istore 5, 2) := by decide +kernel
theorem dX10_expands_61 : decode cX10_expands 61 = .ok (.iload_n 3, 1) := by decide +kernel
theorem dX10_expands_62 : decode cX10_expands 62 = .ok (.bipush 10, 2) := by decide +kernel
theorem dX10_expands_64 : decode cX10_expands 64 = .ok (.if_icmp .ge 14, 3) := by decide +kernel
theorem dX10_expands_67 : decode cX10_expands 67 = .ok (.aload_n 0, 1) := by decide +kernel
theorem dX10_expands_68 : decode cX10_expands 68 = .ok (.bipush 48, 2) := by decide +kernel
theorem dX10_expands_70 : decode cX10_expands 70 = .ok (.iload_n 3, 1) := by decide +kernel
theorem dX10_expands_71 : decode cX10_expands 71 = .ok (.iadd, 1) := by decide +kernel
theorem dX10_expands_72 : decode cX10_expands 72 = .ok (.invokevirtual 197, 3) := by decide +kernel
theorem dX10_expands_75 : decode cX10_expands 75 = .ok (.goto 332, 3) := by decide +kernel
theorem dX10_expands_78 : decode cX10_expands 78 = .ok (.iload_n 3, 1) := by decide +kernel
theorem dX10_expands_79 : decode cX10_expands 79 = .ok (.bipush 50, 2) := by decide +kernel
theorem dX10_expands_81 : decode cX10_expands 81 = .ok (.if_icmp .ge 64, 3) := by decide +kernel
theorem dX10_expands_84 : decode cX10_expands 84 = .ok (.iload_n 3, 1) := by decide +kernel
theorem dX10_expands_85 : decode cX10_expands 85 = .ok (.bipush 30, 2) := by decide +kernel
theorem dX10_expands_87 : decode cX10_expands 87 = .ok (.if_icmp .ge 10, 3) := by decide +kernel
theorem dX10_expands_90 : decode cX10_expands 90 = .ok (.iload_n 3, 1) := by decide +kernel
theorem dX10_expands_91 : decode cX10_expands 91 = .ok (.bipush 10, 2) := by decide +kernel
theorem dX10_expands_93 : decode cX10_expands 93 = .ok (.isub, 1) := by decide +kernel
theorem dX10_expands_94 : decode cX10_expands 94 = .ok (.goto 7, 3) := by decide +kernel
theorem dX10_expands_97 : decode cX10_expands 97 = .ok (.iload_n 3, 1) := by decide +kernel
theorem dX10_expands_98 : decode cX10_expands 98 = .ok (.bipush 30, 2) := by decide +kernel
theorem dX10_expands_100 : decode cX10_expands 100 = .ok (.isub, 1) := by decide +kernel
theorem dX10_expands_101 : decode cX10_expands 101 = .ok (.istore 6, 2) := by decide +kernel
theorem dX10_expands_103 : decode cX10_expands 103 = .ok (.aload_n 0, 1) := by decide +kernel
theorem dX10_expands_104 : decode cX10_expands 104 = .ok (.bipush 120, 2) := by decide +kernel
theorem dX10_expands_106 : decode cX10_expands 106 = .ok (.iload 6, 2) := by decide +kernel
theorem dX10_expands_108 : decode cX10_expands 108 = .ok (.iconst 4, 1) := by decide +kernel
theorem dX10_expands_109 : decode cX10_expands 109 = .ok (.idiv, 1) := by decide +kernel
theorem dX10_expands_110 : decode cX10_expands 110 = .ok (.iadd, 1) := by decide +kernel
theorem dX10_expands_111 : decode cX10_expands 111 = .ok (.invokevirtual 197, 3) := by decide +kernel
theorem dX10_expands_114 : decode cX10_expands 114 = .ok (.aload_n 0, 1) := by decide +kernel
theorem dX10_expands_115 : decode cX10_expands 115 = .ok (.iload_n 3, 1) := by decide +kernel
theorem dX10_expands_116 : decode cX10_expands 116 = .ok (.bipush 30, 2) := by decide +kernel
theorem dX10_expands_118 : decode cX10_expands 118 = .ok (.if_icmp .ge 8, 3) := by decide +kernel
theorem dX10_expands_121 : decode cX10_expands 121 = .ok (.bipush 61, 2) := by decide +kernel
theorem dX10_expands_123 : decode cX10_expands 123 = .ok (.goto 5, 3) := by decide +kernel
theorem dX10_expands_126 : decode cX10_expands 126 = .ok (.bipush 58, 2) := by decide +kernel
theorem dX10_expands_128 : decode cX10_expands 128 = .ok (.invokevirtual 197, 3) := by decide +kernel
theorem dX10_expands_131 : decode cX10_expands 131 = .ok (.aload_n 0, 1) := by decide +kernel
theorem dX10_expands_132 : decode cX10_expands 132 = .ok (.bipush 48, 2) := by decide +kernel
theorem dX10_expands_134 : decode cX10_expands 134 = .ok (.iload 6, 2) := by decide +kernel
theorem dX10_expands_136 : decode cX10_expands 136 = .ok (.iconst 4, 1) := by decide +kernel
theorem dX10_expands_137 : decode cX10_expands 137 = .ok (.irem, 1) := by decide +kernel
theorem dX10_expands_138 : decode cX10_expands 138 = .ok (.iadd, 1) := by decide +kernel
theorem dX10_expands_139 : decode cX10_expands 139 = .ok (.invokevirtual 197, 3) := by decide +kernel
theorem dX10_expands_142 : decode cX10_expands 142 = .ok (.goto 265, 3) := by decide +kernel
theorem dX10_expands_145 : decode cX10_expands 145 = .ok (.iload_n 3, 1) := by decide +kernel
theorem dX10_expands_146 : decode cX10_expands 146 = .ok (.bipush 50, 2) := by decide +kernel
theorem dX10_expands_148 : decode cX10_expands 148 = .ok (.if_icmp .ne 44, 3) := by decide +kernel
theorem dX10_expands_151 : decode cX10_expands 151 = .ok (.aload_n 0, 1) := by decide +kernel
theorem dX10_expands_152 : decode cX10_expands 152 = .ok (.aload_n 0, 1) := by decide +kernel
theorem dX10_expands_153 : decode cX10_expands 153 = .ok (.getfield 43, 3) := by decide +kernel
theorem dX10_expands_156 : decode cX10_expands 156 = .ok (.iload_n 2, 1) := by decide +kernel
theorem dX10_expands_157 : decode cX10_expands 157 = .ok (.iaload, 1) := by decide +kernel
theorem dX10_expands_158 : decode cX10_expands 158 = .ok (.iload 5, 2) := by decide +kernel
theorem dX10_expands_160 : decode cX10_expands 160 = .ok (.bipush 50, 2) := by decide +kernel
theorem dX10_expands_162 : decode cX10_expands 162 = .ok (.if_icmp .ne 7, 3) := by decide +kernel
theorem dX10_expands_165 : decode cX10_expands 165 = .ok (.iconst 1, 1) := by decide +kernel
theorem dX10_expands_166 : decode cX10_expands 166 = .ok (.goto 4, 3) := by decide +kernel
theorem dX10_expands_169 : decode cX10_expands 169 = .ok (.iconst 0, 1) := by decide +kernel
theorem dX10_expands_170 : decode cX10_expands 170 = .ok (.invokevirtual 200, 3) := by decide +kernel
theorem dX10_expands_173 : decode cX10_expands 173 = .ok (.aload_n 0, 1) := by decide +kernel
theorem dX10_expands_174 : decode cX10_expands 174 = .ok (.bipush (-43), 2) := by decide +kernel
theorem dX10_expands_176 : decode cX10_expands 176 = .ok (.invokevirtual 191, 3) := by decide +kernel
theorem dX10_expands_179 : decode cX10_expands 179 = .ok (.aload_n 0, 1) := by decide +kernel
theorem dX10_expands_180 : decode cX10_expands 180 = .ok (.aload_n 0, 1) := by decide +kernel
theorem dX10_expands_181 : decode cX10_expands 181 = .ok (.getfield 40, 3) := by decide +kernel
theorem dX10_expands_184 : decode cX10_expands 184 = .ok (.iload_n 2, 1) := by decide +kernel
theorem dX10_expands_185 : decode cX10_expands 185 = .ok (.iaload, 1) := by decide +kernel
theorem dX10_expands_186 : decode cX10_expands 186 = .ok (.invokevirtual 191, 3) := by decide +kernel
theorem dX10_expands_189 : decode cX10_expands 189 = .ok (.goto 218, 3) := by decide +kernel
theorem dX10_expands_192 : decode cX10_expands 192 = .ok (.iload_n 3, 1) := by decide +kernel
theorem dX10_expands_193 : decode cX10_expands 193 = .ok (.bipush 51, 2) := by decide +kernel
theorem dX10_expands_195 : decode cX10_expands 195 = .ok (.if_icmp .ne 63, 3) := by decide +kernel
theorem dX10_expands_198 : decode cX10_expands 198 = .ok (.aload_n 0, 1) := by decide +kernel
theorem dX10_expands_199 : decode cX10_expands 199 = .ok (.aload_n 0, 1) := by decide +kernel
theorem dX10_expands_200 : decode cX10_expands 200 = .ok (.getfield 43, 3) := by decide +kernel
theorem dX10_expands_203 : decode cX10_expands 203 = .ok (.iload_n 2, 1) := by decide +kernel
theorem dX10_expands_204 : decode cX10_expands 204 = .ok (.iaload, 1) := by decide +kernel
theorem dX10_expands_205 : decode cX10_expands 205 = .ok (.iload 5, 2) := by decide +kernel
theorem dX10_expands_207 : decode cX10_expands 207 = .ok (.bipush 50, 2) := by decide +kernel
theorem dX10_expands_209 : decode cX10_expands 209 = .ok (.if_icmp .eq 10, 3) := by decide +kernel
theorem dX10_expands_212 : decode cX10_expands 212 = .ok (.iload 5, 2) := by decide +kernel
theorem dX10_expands_214 : decode cX10_expands 214 = .ok (.bipush 51, 2) := by decide +kernel
theorem dX10_expands_216 : decode cX10_expands 216 = .ok (.if_icmp .ne 7, 3) := by decide +kernel
theorem dX10_expands_219 : decode cX10_expands 219 = .ok (.iconst 1, 1) := by decide +kernel
theorem dX10_expands_220 : decode cX10_expands 220 = .ok (.goto 4, 3) := by decide +kernel
theorem dX10_expands_223 : decode cX10_expands 223 = .ok (.iconst 0, 1) := by decide +kernel
theorem dX10_expands_224 : decode cX10_expands 224 = .ok (.invokevirtual 200, 3) := by decide +kernel
theorem dX10_expands_227 : decode cX10_expands 227 = .ok (.aload_n 0, 1) := by decide +kernel
theorem dX10_expands_228 : decode cX10_expands 228 = .ok (.bipush (-46), 2) := by decide +kernel
theorem dX10_expands_230 : decode cX10_expands 230 = .ok (.invokevirtual 191, 3) := by decide +kernel
theorem dX10_expands_233 : decode cX10_expands 233 = .ok (.aload_n 0, 1) := by decide +kernel
theorem dX10_expands_234 : decode cX10_expands 234 = .ok (.aload_n 0, 1) := by decide +kernel
theorem dX10_expands_235 : decode cX10_expands 235 = .ok (.getfield 40, 3) := by decide +kernel
theorem dX10_expands_238 : decode cX10_expands 238 = .ok (.iload_n 2, 1) := by decide +kernel
theorem dX10_expands_239 : decode cX10_expands 239 = .ok (.iaload, 1) := by decide +kernel
theorem dX10_expands_240 : decode cX10_expands 240 = .ok (.iload 4, 2) := by decide +kernel
theorem dX10_expands_242 : decode cX10_expands 242 = .ok (.bipush 50, 2) := by decide +kernel
theorem dX10_expands_244 : decode cX10_expands 244 = .ok (.if_icmp .ne 7, 3) := by decide +kernel
theorem dX10_expands_247 : decode cX10_expands 247 = .ok (.iconst 1, 1) := by decide +kernel
theorem dX10_expands_248 : decode cX10_expands 248 = .ok (.goto 4, 3) := by decide +kernel
theorem dX10_expands_251 : decode cX10_expands 251 = .ok (.iconst 0, 1) := by decide +kernel
theorem dX10_expands_252 : decode cX10_expands 252 = .ok (.invokevirtual 200, 3) := by decide +kernel
theorem dX10_expands_255 : decode cX10_expands 255 = .ok (.goto 152, 3) := by decide +kernel
theorem dX10_expands_258 : decode cX10_expands 258 = .ok (.iload_n 3, 1) := by decide +kernel
theorem dX10_expands_259 : decode cX10_expands 259 = .ok (.bipush 52, 2) := by decide +kernel
theorem dX10_expands_261 : decode cX10_expands 261 = .ok (.if_icmp .ne 48, 3) := by decide +kernel
theorem dX10_expands_264 : decode cX10_expands 264 = .ok (.aload_n 0, 1) := by decide +kernel
theorem dX10_expands_265 : decode cX10_expands 265 = .ok (.bipush (-42), 2) := by decide +kernel
theorem dX10_expands_267 : decode cX10_expands 267 = .ok (.invokevirtual 191, 3) := by decide +kernel
theorem dX10_expands_270 : decode cX10_expands 270 = .ok (.aload_n 0, 1) := by decide +kernel
theorem dX10_expands_271 : decode cX10_expands 271 = .ok (.aload_n 0, 1) := by decide +kernel
theorem dX10_expands_272 : decode cX10_expands 272 = .ok (.getfield 40, 3) := by decide +kernel
theorem dX10_expands_275 : decode cX10_expands 275 = .ok (.iload_n 2, 1) := by decide +kernel
theorem dX10_expands_276 : decode cX10_expands 276 = .ok (.iaload, 1) := by decide +kernel
theorem dX10_expands_277 : decode cX10_expands 277 = .ok (.iload 4, 2) := by decide +kernel
theorem dX10_expands_279 : decode cX10_expands 279 = .ok (.bipush 50, 2) := by decide +kernel
theorem dX10_expands_281 : decode cX10_expands 281 = .ok (.if_icmp .eq 17, 3) := by decide +kernel
theorem dX10_expands_284 : decode cX10_expands 284 = .ok (.iload 4, 2) := by decide +kernel
theorem dX10_expands_286 : decode cX10_expands 286 = .ok (.bipush 51, 2) := by decide +kernel
theorem dX10_expands_288 : decode cX10_expands 288 = .ok (.if_icmp .eq 10, 3) := by decide +kernel
theorem dX10_expands_291 : decode cX10_expands 291 = .ok (.iload 4, 2) := by decide +kernel
theorem dX10_expands_293 : decode cX10_expands 293 = .ok (.bipush 53, 2) := by decide +kernel
theorem dX10_expands_295 : decode cX10_expands 295 = .ok (.if_icmp .ne 7, 3) := by decide +kernel
theorem dX10_expands_298 : decode cX10_expands 298 = .ok (.iconst 1, 1) := by decide +kernel
theorem dX10_expands_299 : decode cX10_expands 299 = .ok (.goto 4, 3) := by decide +kernel
theorem dX10_expands_302 : decode cX10_expands 302 = .ok (.iconst 0, 1) := by decide +kernel
theorem dX10_expands_303 : decode cX10_expands 303 = .ok (.invokevirtual 200, 3) := by decide +kernel
theorem dX10_expands_306 : decode cX10_expands 306 = .ok (.goto 101, 3) := by decide +kernel
theorem dX10_expands_309 : decode cX10_expands 309 = .ok (.iload_n 3, 1) := by decide +kernel
theorem dX10_expands_310 : decode cX10_expands 310 = .ok (.bipush 53, 2) := by decide +kernel
theorem dX10_expands_312 : decode cX10_expands 312 = .ok (.if_icmp .ne 41, 3) := by decide +kernel
theorem dX10_expands_315 : decode cX10_expands 315 = .ok (.aload_n 0, 1) := by decide +kernel
theorem dX10_expands_316 : decode cX10_expands 316 = .ok (.aload_n 0, 1) := by decide +kernel
theorem dX10_expands_317 : decode cX10_expands 317 = .ok (.getfield 40, 3) := by decide +kernel
theorem dX10_expands_320 : decode cX10_expands 320 = .ok (.iload_n 2, 1) := by decide +kernel
theorem dX10_expands_321 : decode cX10_expands 321 = .ok (.iaload, 1) := by decide +kernel
theorem dX10_expands_322 : decode cX10_expands 322 = .ok (.iload 4, 2) := by decide +kernel
theorem dX10_expands_324 : decode cX10_expands 324 = .ok (.bipush 50, 2) := by decide +kernel
theorem dX10_expands_326 : decode cX10_expands 326 = .ok (.if_icmp .eq 10, 3) := by decide +kernel
theorem dX10_expands_329 : decode cX10_expands 329 = .ok (.iload 4, 2) := by decide +kernel
theorem dX10_expands_331 : decode cX10_expands 331 = .ok (.bipush 51, 2) := by decide +kernel
theorem dX10_expands_333 : decode cX10_expands 333 = .ok (.if_icmp .ne 7, 3) := by decide +kernel
theorem dX10_expands_336 : decode cX10_expands 336 = .ok (.iconst 1, 1) := by decide +kernel
theorem dX10_expands_337 : decode cX10_expands 337 = .ok (.goto 4, 3) := by decide +kernel
theorem dX10_expands_340 : decode cX10_expands 340 = .ok (.iconst 0, 1) := by decide +kernel
theorem dX10_expands_341 : decode cX10_expands 341 = .ok (.invokevirtual 200, 3) := by decide +kernel
theorem dX10_expands_344 : decode cX10_expands 344 = .ok (.aload_n 0, 1) := by decide +kernel
theorem dX10_expands_345 : decode cX10_expands 345 = .ok (.bipush (-33), 2) := by decide +kernel
theorem dX10_expands_347 : decode cX10_expands 347 = .ok (.invokevirtual 191, 3) := by decide +kernel
theorem dX10_expands_350 : decode cX10_expands 350 = .ok (.goto 57, 3) := by decide +kernel
theorem dX10_expands_353 : decode cX10_expands 353 = .ok (.aload_n 0, 1) := by decide +kernel
theorem dX10_expands_354 : decode cX10_expands 354 = .ok (.bipush (-93), 2) := by decide +kernel
theorem dX10_expands_356 : decode cX10_expands 356 = .ok (.invokevirtual 191, 3) := by decide +kernel
theorem dX10_expands_359 : decode cX10_expands 359 = .ok (.aload_n 0, 1) := by decide +kernel
theorem dX10_expands_360 : decode cX10_expands 360 = .ok (.aload_n 0, 1) := by decide +kernel
theorem dX10_expands_361 : decode cX10_expands 361 = .ok (.getfield 46, 3) := by decide +kernel
theorem dX10_expands_364 : decode cX10_expands 364 = .ok (.iload_n 2, 1) := by decide +kernel
theorem dX10_expands_365 : decode cX10_expands 365 = .ok (.iaload, 1) := by decide +kernel
theorem dX10_expands_366 : decode cX10_expands 366 = .ok (.invokevirtual 191, 3) := by decide +kernel
theorem dX10_expands_369 : decode cX10_expands 369 = .ok (.aload_n 0, 1) := by decide +kernel
theorem dX10_expands_370 : decode cX10_expands 370 = .ok (.bipush (-124), 2) := by decide +kernel
theorem dX10_expands_372 : decode cX10_expands 372 = .ok (.invokevirtual 191, 3) := by decide +kernel
theorem dX10_expands_375 : decode cX10_expands 375 = .ok (.aload_n 0, 1) := by decide +kernel
theorem dX10_expands_376 : decode cX10_expands 376 = .ok (.aload_n 0, 1) := by decide +kernel
theorem dX10_expands_377 : decode cX10_expands 377 = .ok (.getfield 43, 3) := by decide +kernel
theorem dX10_expands_380 : decode cX10_expands 380 = .ok (.iload_n 2, 1) := by decide +kernel
theorem dX10_expands_381 : decode cX10_expands 381 = .ok (.iaload, 1) := by decide +kernel
theorem dX10_expands_382 : decode cX10_expands 382 = .ok (.invokevirtual 191, 3) := by decide +kernel
theorem dX10_expands_385 : decode cX10_expands 385 = .ok (.aload_n 0, 1) := by decide +kernel
theorem dX10_expands_386 : decode cX10_expands 386 = .ok (.bipush (-63), 2) := by decide +kernel
theorem dX10_expands_388 : decode cX10_expands 388 = .ok (.invokevirtual 191, 3) := by decide +kernel
theorem dX10_expands_391 : decode cX10_expands 391 = .ok (.aload_n 0, 1) := by decide +kernel
theorem dX10_expands_392 : decode cX10_expands 392 = .ok (.aload_n 0, 1) := by decide +kernel
theorem dX10_expands_393 : decode cX10_expands 393 = .ok (.getfield 40, 3) := by decide +kernel
theorem dX10_expands_396 : decode cX10_expands 396 = .ok (.iload_n 2, 1) := by decide +kernel
theorem dX10_expands_397 : decode cX10_expands 397 = .ok (.iaload, 1) := by decide +kernel
theorem dX10_expands_398 : decode cX10_expands 398 = .ok (.invokevirtual 191, 3) := by decide +kernel
theorem dX10_expands_401 : decode cX10_expands 401 = .ok (.aload_n 0, 1) := by decide +kernel
theorem dX10_expands_402 : decode cX10_expands 402 = .ok (.bipush (-91), 2) := by decide +kernel
theorem dX10_expands_404 : decode cX10_expands 404 = .ok (.invokevirtual 191, 3) := by decide +kernel
theorem dX10_expands_407 : decode cX10_expands 407 = .ok (.return_, 1) := by decide +kernel
theorem dX10_prints_0 : decode cX10_prints 0 = .ok (.aload_n 0, 1) := by decide +kernel
theorem dX10_prints_1 : decode cX10_prints 1 = .ok (.iload_n 1, 1) := by decide +kernel
theorem dX10_prints_2 : decode cX10_prints 2 = .ok (.invokevirtual 203, 3) := by decide +kernel
theorem dX10_prints_5 : decode cX10_prints 5 = .ok (.aload_n 0, 1) := by decide +kernel
theorem dX10_prints_6 : decode cX10_prints 6 = .ok (.iconst 0, 1) := by decide +kernel
theorem dX10_prints_7 : decode cX10_prints 7 = .ok (.putfield 194, 3) := by decide +kernel
theorem dX10_prints_10 : decode cX10_prints 10 = .ok (.aload_n 0, 1) := by decide +kernel
theorem dX10_prints_11 : decode cX10_prints 11 = .ok (.iconst 1, 1) := by decide +kernel
theorem dX10_prints_12 : decode cX10_prints 12 = .ok (.putfield 188, 3) := by decide +kernel
theorem dX10_prints_15 : decode cX10_prints 15 = .ok (.aload_n 0, 1) := by decide +kernel
theorem dX10_prints_16 : decode cX10_prints 16 = .ok (.getfield 49, 3) := by decide +kernel
theorem dX10_prints_19 : decode cX10_prints 19 = .ok (.iconst 0, 1) := by decide +kernel
theorem dX10_prints_20 : decode cX10_prints 20 = .ok (.aload_n 0, 1) := by decide +kernel
theorem dX10_prints_21 : decode cX10_prints 21 = .ok (.getfield 7, 3) := by decide +kernel
theorem dX10_prints_24 : decode cX10_prints 24 = .ok (.iload_n 1, 1) := by decide +kernel
theorem dX10_prints_25 : decode cX10_prints 25 = .ok (.iaload, 1) := by decide +kernel
theorem dX10_prints_26 : decode cX10_prints 26 = .ok (.iconst 1, 1) := by decide +kernel
theorem dX10_prints_27 : decode cX10_prints 27 = .ok (.isub, 1) := by decide +kernel
theorem dX10_prints_28 : decode cX10_prints 28 = .ok (.iastore, 1) := by decide +kernel
theorem dX10_prints_29 : decode cX10_prints 29 = .ok (.aload_n 0, 1) := by decide +kernel
theorem dX10_prints_30 : decode cX10_prints 30 = .ok (.getfield 188, 3) := by decide +kernel
theorem dX10_prints_33 : decode cX10_prints 33 = .ok (.ifCond .le 45, 3) := by decide +kernel
theorem dX10_prints_36 : decode cX10_prints 36 = .ok (.aload_n 0, 1) := by decide +kernel
theorem dX10_prints_37 : decode cX10_prints 37 = .ok (.dup, 1) := by decide +kernel
theorem dX10_prints_38 : decode cX10_prints 38 = .ok (.getfield 188, 3) := by decide +kernel
theorem dX10_prints_41 : decode cX10_prints 41 = .ok (.iconst 1, 1) := by decide +kernel
theorem dX10_prints_42 : decode cX10_prints 42 = .ok (.isub, 1) := by decide +kernel
theorem dX10_prints_43 : decode cX10_prints 43 = .ok (.putfield 188, 3) := by decide +kernel
theorem dX10_prints_46 : decode cX10_prints 46 = .ok (.aload_n 0, 1) := by decide +kernel
theorem dX10_prints_47 : decode cX10_prints 47 = .ok (.getfield 49, 3) := by decide +kernel
theorem dX10_prints_50 : decode cX10_prints 50 = .ok (.aload_n 0, 1) := by decide +kernel
theorem dX10_prints_51 : decode cX10_prints 51 = .ok (.getfield 188, 3) := by decide +kernel
theorem dX10_prints_54 : decode cX10_prints 54 = .ok (.iaload, 1) := by decide +kernel
theorem dX10_prints_55 : decode cX10_prints 55 = .ok (.istore_n 2, 1) := by decide +kernel
theorem dX10_prints_56 : decode cX10_prints 56 = .ok (.iload_n 2, 1) := by decide +kernel
theorem dX10_prints_57 : decode cX10_prints 57 = .ok (.ifCond .ge 12, 3) := by decide +kernel
theorem dX10_prints_60 : decode cX10_prints 60 = .ok (.aload_n 0, 1) := by decide +kernel
theorem dX10_prints_61 : decode cX10_prints 61 = .ok (.iload_n 2, 1) := by decide +kernel
theorem dX10_prints_62 : decode cX10_prints 62 = .ok (.ineg, 1) := by decide +kernel
theorem dX10_prints_63 : decode cX10_prints 63 = .ok (.invokevirtual 197, 3) := by decide +kernel
theorem dX10_prints_66 : decode cX10_prints 66 = .ok (.goto 9, 3) := by decide +kernel
theorem dX10_prints_69 : decode cX10_prints 69 = .ok (.aload_n 0, 1) := by decide +kernel
theorem dX10_prints_70 : decode cX10_prints 70 = .ok (.iload_n 1, 1) := by decide +kernel
theorem dX10_prints_71 : decode cX10_prints 71 = .ok (.iload_n 2, 1) := by decide +kernel
theorem dX10_prints_72 : decode cX10_prints 72 = .ok (.invokevirtual 206, 3) := by decide +kernel
theorem dX10_prints_75 : decode cX10_prints 75 = .ok (.goto (-46), 3) := by decide +kernel
theorem dX10_prints_78 : decode cX10_prints 78 = .ok (.return_, 1) := by decide +kernel
theorem dX10_printed_0 : decode cX10_printed 0 = .ok (.iload_n 1, 1) := by decide +kernel
theorem dX10_printed_1 : decode cX10_printed 1 = .ok (.invokestatic 179, 3) := by decide +kernel
theorem dX10_printed_4 : decode cX10_printed 4 = .ok (.ifCond .eq 8, 3) := by decide +kernel
theorem dX10_printed_7 : decode cX10_printed 7 = .ok (.iload_n 2, 1) := by decide +kernel
theorem dX10_printed_8 : decode cX10_printed 8 = .ok (.iconst (-1), 1) := by decide +kernel
theorem dX10_printed_9 : decode cX10_printed 9 = .ok (.if_icmp .ge 10, 3) := by decide +kernel
theorem dX10_printed_12 : decode cX10_printed 12 = .ok (.aload_n 0, 1) := by decide +kernel
theorem dX10_printed_13 : decode cX10_printed 13 = .ok (.bipush (-2), 2) := by decide +kernel
theorem dX10_printed_15 : decode cX10_printed 15 = .ok (.invokevirtual 106, 3) := by decide +kernel
theorem dX10_printed_18 : decode cX10_printed 18 = .ok (.ireturn, 1) := by decide +kernel
theorem dX10_printed_19 : decode cX10_printed 19 = .ok (.aload_n 0, 1) := by decide +kernel
theorem dX10_printed_20 : decode cX10_printed 20 = .ok (.iload_n 1, 1) := by decide +kernel
theorem dX10_printed_21 : decode cX10_printed 21 = .ok (.invokevirtual 210, 3) := by decide +kernel
theorem dX10_printed_24 : decode cX10_printed 24 = .ok (.iload_n 2, 1) := by decide +kernel
theorem dX10_printed_25 : decode cX10_printed 25 = .ok (.iconst (-1), 1) := by decide +kernel
theorem dX10_printed_26 : decode cX10_printed 26 = .ok (.if_icmp .ne 10, 3) := by decide +kernel
theorem dX10_printed_29 : decode cX10_printed 29 = .ok (.aload_n 0, 1) := by decide +kernel
theorem dX10_printed_30 : decode cX10_printed 30 = .ok (.getfield 194, 3) := by decide +kernel
theorem dX10_printed_33 : decode cX10_printed 33 = .ok (.goto 21, 3) := by decide +kernel
theorem dX10_printed_36 : decode cX10_printed 36 = .ok (.iload_n 2, 1) := by decide +kernel
theorem dX10_printed_37 : decode cX10_printed 37 = .ok (.aload_n 0, 1) := by decide +kernel
theorem dX10_printed_38 : decode cX10_printed 38 = .ok (.getfield 194, 3) := by decide +kernel
theorem dX10_printed_41 : decode cX10_printed 41 = .ok (.if_icmp .ge 12, 3) := by decide +kernel
theorem dX10_printed_44 : decode cX10_printed 44 = .ok (.aload_n 0, 1) := by decide +kernel
theorem dX10_printed_45 : decode cX10_printed 45 = .ok (.getfield 52, 3) := by decide +kernel
theorem dX10_printed_48 : decode cX10_printed 48 = .ok (.iload_n 2, 1) := by decide +kernel
theorem dX10_printed_49 : decode cX10_printed 49 = .ok (.iaload, 1) := by decide +kernel
theorem dX10_printed_50 : decode cX10_printed 50 = .ok (.goto 4, 3) := by decide +kernel
theorem dX10_printed_53 : decode cX10_printed 53 = .ok (.iconst (-1), 1) := by decide +kernel
theorem dX10_printed_54 : decode cX10_printed 54 = .ok (.ireturn, 1) := by decide +kernel
theorem dX10_valueOf_0 : decode cX10_valueOf 0 = .ok (.iload_n 0, 1) := by decide +kernel
theorem dX10_valueOf_1 : decode cX10_valueOf 1 = .ok (.iconst 4, 1) := by decide +kernel
theorem dX10_valueOf_2 : decode cX10_valueOf 2 = .ok (.iconst 2, 1) := by decide +kernel
theorem dX10_valueOf_3 : decode cX10_valueOf 3 = .ok (.iload_n 1, 1) := by decide +kernel
theorem dX10_valueOf_4 : decode cX10_valueOf 4 = .ok (.imul, 1) := by decide +kernel
theorem dX10_valueOf_5 : decode cX10_valueOf 5 = .ok (.isub, 1) := by decide +kernel
theorem dX10_valueOf_6 : decode cX10_valueOf 6 = .ok (.ishr, 1) := by decide +kernel
theorem dX10_valueOf_7 : decode cX10_valueOf 7 = .ok (.iconst 3, 1) := by decide +kernel
theorem dX10_valueOf_8 : decode cX10_valueOf 8 = .ok (.iand, 1) := by decide +kernel
theorem dX10_valueOf_9 : decode cX10_valueOf 9 = .ok (.ireturn, 1) := by decide +kernel
theorem dX10_simple_0 : decode cX10_simple 0 = .ok (.bipush 64, 2) := by decide +kernel
theorem dX10_simple_2 : decode cX10_simple 2 = .ok (.aload_n 0, 1) := by decide +kernel
theorem dX10_simple_3 : decode cX10_simple 3 = .ok (.getfield 213, 3) := by decide +kernel
theorem dX10_simple_6 : decode cX10_simple 6 = .ok (.imul, 1) := by decide +kernel
theorem dX10_simple_7 : decode cX10_simple 7 = .ok (.istore_n 2, 1) := by decide +kernel
theorem dX10_simple_8 : decode cX10_simple 8 = .ok (.iconst 0, 1) := by decide +kernel
theorem dX10_simple_9 : decode cX10_simple 9 = .ok (.istore_n 3, 1) := by decide +kernel
theorem dX10_simple_10 : decode cX10_simple 10 = .ok (.iload_n 3, 1) := by decide +kernel
theorem dX10_simple_11 : decode cX10_simple 11 = .ok (.bipush 64, 2) := by decide +kernel
theorem dX10_simple_13 : decode cX10_simple 13 = .ok (.if_icmp .ge 143, 3) := by decide +kernel
theorem dX10_simple_16 : decode cX10_simple 16 = .ok (.iload_n 1, 1) := by decide +kernel
theorem dX10_simple_17 : decode cX10_simple 17 = .ok (.bipush 30, 2) := by decide +kernel
theorem dX10_simple_19 : decode cX10_simple 19 = .ok (.if_icmp .ge 10, 3) := by decide +kernel
theorem dX10_simple_22 : decode cX10_simple 22 = .ok (.iload_n 1, 1) := by decide +kernel
theorem dX10_simple_23 : decode cX10_simple 23 = .ok (.bipush 10, 2) := by decide +kernel
theorem dX10_simple_25 : decode cX10_simple 25 = .ok (.isub, 1) := by decide +kernel
theorem dX10_simple_26 : decode cX10_simple 26 = .ok (.goto 7, 3) := by decide +kernel
theorem dX10_simple_29 : decode cX10_simple 29 = .ok (.iload_n 1, 1) := by decide +kernel
theorem dX10_simple_30 : decode cX10_simple 30 = .ok (.bipush 30, 2) := by decide +kernel
theorem dX10_simple_32 : decode cX10_simple 32 = .ok (.isub, 1) := by decide +kernel
theorem dX10_simple_33 : decode cX10_simple 33 = .ok (.iconst 4, 1) := by decide +kernel
theorem dX10_simple_34 : decode cX10_simple 34 = .ok (.idiv, 1) := by decide +kernel
theorem dX10_simple_35 : decode cX10_simple 35 = .ok (.istore 4, 2) := by decide +kernel
theorem dX10_simple_37 : decode cX10_simple 37 = .ok (.iload_n 1, 1) := by decide +kernel
theorem dX10_simple_38 : decode cX10_simple 38 = .ok (.bipush 30, 2) := by decide +kernel
theorem dX10_simple_40 : decode cX10_simple 40 = .ok (.if_icmp .ge 10, 3) := by decide +kernel
theorem dX10_simple_43 : decode cX10_simple 43 = .ok (.iload_n 1, 1) := by decide +kernel
theorem dX10_simple_44 : decode cX10_simple 44 = .ok (.bipush 10, 2) := by decide +kernel
theorem dX10_simple_46 : decode cX10_simple 46 = .ok (.isub, 1) := by decide +kernel
theorem dX10_simple_47 : decode cX10_simple 47 = .ok (.goto 7, 3) := by decide +kernel
theorem dX10_simple_50 : decode cX10_simple 50 = .ok (.iload_n 1, 1) := by decide +kernel
theorem dX10_simple_51 : decode cX10_simple 51 = .ok (.bipush 30, 2) := by decide +kernel
theorem dX10_simple_53 : decode cX10_simple 53 = .ok (.isub, 1) := by decide +kernel
theorem dX10_simple_54 : decode cX10_simple 54 = .ok (.iconst 4, 1) := by decide +kernel
theorem dX10_simple_55 : decode cX10_simple 55 = .ok (.irem, 1) := by decide +kernel
theorem dX10_simple_56 : decode cX10_simple 56 = .ok (.istore 5, 2) := by decide +kernel
theorem dX10_simple_58 : decode cX10_simple 58 = .ok (.iload_n 1, 1) := by decide +kernel
theorem dX10_simple_59 : decode cX10_simple 59 = .ok (.bipush 10, 2) := by decide +kernel
theorem dX10_simple_61 : decode cX10_simple 61 = .ok (.if_icmp .ge 26, 3) := by decide +kernel
theorem dX10_simple_64 : decode cX10_simple 64 = .ok (.aload_n 0, 1) := by decide +kernel
theorem dX10_simple_65 : decode cX10_simple 65 = .ok (.getfield 55, 3) := by decide +kernel
theorem dX10_simple_68 : decode cX10_simple 68 = .ok (.iload_n 2, 1) := by decide +kernel
theorem dX10_simple_69 : decode cX10_simple 69 = .ok (.iload_n 3, 1) := by decide +kernel
theorem dX10_simple_70 : decode cX10_simple 70 = .ok (.iadd, 1) := by decide +kernel
theorem dX10_simple_71 : decode cX10_simple 71 = .ok (.iload_n 1, 1) := by decide +kernel
theorem dX10_simple_72 : decode cX10_simple 72 = .ok (.iconst 1, 1) := by decide +kernel
theorem dX10_simple_73 : decode cX10_simple 73 = .ok (.if_icmp .ne 9, 3) := by decide +kernel
theorem dX10_simple_76 : decode cX10_simple 76 = .ok (.lconst 1, 1) := by decide +kernel
theorem dX10_simple_77 : decode cX10_simple 77 = .ok (.iload_n 3, 1) := by decide +kernel
theorem dX10_simple_78 : decode cX10_simple 78 = .ok (.lshl, 1) := by decide +kernel
theorem dX10_simple_79 : decode cX10_simple 79 = .ok (.goto 4, 3) := by decide +kernel
theorem dX10_simple_82 : decode cX10_simple 82 = .ok (.lconst 0, 1) := by decide +kernel
theorem dX10_simple_83 : decode cX10_simple 83 = .ok (.lastore, 1) := by decide +kernel
theorem dX10_simple_84 : decode cX10_simple 84 = .ok (.goto 66, 3) := by decide +kernel
theorem dX10_simple_87 : decode cX10_simple 87 = .ok (.iload_n 1, 1) := by decide +kernel
theorem dX10_simple_88 : decode cX10_simple 88 = .ok (.bipush 30, 2) := by decide +kernel
theorem dX10_simple_90 : decode cX10_simple 90 = .ok (.if_icmp .ge 32, 3) := by decide +kernel
theorem dX10_simple_93 : decode cX10_simple 93 = .ok (.aload_n 0, 1) := by decide +kernel
theorem dX10_simple_94 : decode cX10_simple 94 = .ok (.getfield 55, 3) := by decide +kernel
theorem dX10_simple_97 : decode cX10_simple 97 = .ok (.iload_n 2, 1) := by decide +kernel
theorem dX10_simple_98 : decode cX10_simple 98 = .ok (.iload_n 3, 1) := by decide +kernel
theorem dX10_simple_99 : decode cX10_simple 99 = .ok (.iadd, 1) := by decide +kernel
theorem dX10_simple_100 : decode cX10_simple 100 = .ok (.iload_n 3, 1) := by decide +kernel
theorem dX10_simple_101 : decode cX10_simple 101 = .ok (.iload 4, 2) := by decide +kernel
theorem dX10_simple_103 : decode cX10_simple 103 = .ok (.invokestatic 216, 3) := by decide +kernel
theorem dX10_simple_106 : decode cX10_simple 106 = .ok (.iload 5, 2) := by decide +kernel
theorem dX10_simple_108 : decode cX10_simple 108 = .ok (.if_icmp .ne 9, 3) := by decide +kernel
theorem dX10_simple_111 : decode cX10_simple 111 = .ok (.lconst 1, 1) := by decide +kernel
theorem dX10_simple_112 : decode cX10_simple 112 = .ok (.iload_n 3, 1) := by decide +kernel
theorem dX10_simple_113 : decode cX10_simple 113 = .ok (.lshl, 1) := by decide +kernel
theorem dX10_simple_114 : decode cX10_simple 114 = .ok (.goto 4, 3) := by decide +kernel
theorem dX10_simple_117 : decode cX10_simple 117 = .ok (.lconst 0, 1) := by decide +kernel
theorem dX10_simple_118 : decode cX10_simple 118 = .ok (.lastore, 1) := by decide +kernel
theorem dX10_simple_119 : decode cX10_simple 119 = .ok (.goto 31, 3) := by decide +kernel
theorem dX10_simple_122 : decode cX10_simple 122 = .ok (.aload_n 0, 1) := by decide +kernel
theorem dX10_simple_123 : decode cX10_simple 123 = .ok (.getfield 55, 3) := by decide +kernel
theorem dX10_simple_126 : decode cX10_simple 126 = .ok (.iload_n 2, 1) := by decide +kernel
theorem dX10_simple_127 : decode cX10_simple 127 = .ok (.iload_n 3, 1) := by decide +kernel
theorem dX10_simple_128 : decode cX10_simple 128 = .ok (.iadd, 1) := by decide +kernel
theorem dX10_simple_129 : decode cX10_simple 129 = .ok (.lconst 1, 1) := by decide +kernel
theorem dX10_simple_130 : decode cX10_simple 130 = .ok (.iload_n 3, 1) := by decide +kernel
theorem dX10_simple_131 : decode cX10_simple 131 = .ok (.iload 5, 2) := by decide +kernel
theorem dX10_simple_133 : decode cX10_simple 133 = .ok (.iload_n 3, 1) := by decide +kernel
theorem dX10_simple_134 : decode cX10_simple 134 = .ok (.iload 4, 2) := by decide +kernel
theorem dX10_simple_136 : decode cX10_simple 136 = .ok (.invokestatic 216, 3) := by decide +kernel
theorem dX10_simple_139 : decode cX10_simple 139 = .ok (.isub, 1) := by decide +kernel
theorem dX10_simple_140 : decode cX10_simple 140 = .ok (.iconst 4, 1) := by decide +kernel
theorem dX10_simple_141 : decode cX10_simple 141 = .ok (.iconst 2, 1) := by decide +kernel
theorem dX10_simple_142 : decode cX10_simple 142 = .ok (.iload 4, 2) := by decide +kernel
theorem dX10_simple_144 : decode cX10_simple 144 = .ok (.imul, 1) := by decide +kernel
theorem dX10_simple_145 : decode cX10_simple 145 = .ok (.isub, 1) := by decide +kernel
theorem dX10_simple_146 : decode cX10_simple 146 = .ok (.ishl, 1) := by decide +kernel
theorem dX10_simple_147 : decode cX10_simple 147 = .ok (.iadd, 1) := by decide +kernel
theorem dX10_simple_148 : decode cX10_simple 148 = .ok (.lshl, 1) := by decide +kernel
theorem dX10_simple_149 : decode cX10_simple 149 = .ok (.lastore, 1) := by decide +kernel
theorem dX10_simple_150 : decode cX10_simple 150 = .ok (.iinc 3 1, 3) := by decide +kernel
theorem dX10_simple_153 : decode cX10_simple 153 = .ok (.goto (-143), 3) := by decide +kernel
theorem dX10_simple_156 : decode cX10_simple 156 = .ok (.aload_n 0, 1) := by decide +kernel
theorem dX10_simple_157 : decode cX10_simple 157 = .ok (.dup, 1) := by decide +kernel
theorem dX10_simple_158 : decode cX10_simple 158 = .ok (.getfield 213, 3) := by decide +kernel
theorem dX10_simple_161 : decode cX10_simple 161 = .ok (.iconst 1, 1) := by decide +kernel
theorem dX10_simple_162 : decode cX10_simple 162 = .ok (.iadd, 1) := by decide +kernel
theorem dX10_simple_163 : decode cX10_simple 163 = .ok (.putfield 213, 3) := by decide +kernel
theorem dX10_simple_166 : decode cX10_simple 166 = .ok (.return_, 1) := by decide +kernel
theorem dX10_turned_0 : decode cX10_turned 0 = .ok (.lconst 0, 1) := by decide +kernel
theorem dX10_turned_1 : decode cX10_turned 1 = .ok (.lstore 4, 2) := by decide +kernel
theorem dX10_turned_3 : decode cX10_turned 3 = .ok (.iconst 0, 1) := by decide +kernel
theorem dX10_turned_4 : decode cX10_turned 4 = .ok (.istore 6, 2) := by decide +kernel
theorem dX10_turned_6 : decode cX10_turned 6 = .ok (.iload 6, 2) := by decide +kernel
theorem dX10_turned_8 : decode cX10_turned 8 = .ok (.bipush 64, 2) := by decide +kernel
theorem dX10_turned_10 : decode cX10_turned 10 = .ok (.if_icmp .ge 38, 3) := by decide +kernel
theorem dX10_turned_13 : decode cX10_turned 13 = .ok (.lload 4, 2) := by decide +kernel
theorem dX10_turned_15 : decode cX10_turned 15 = .ok (.lload_n 1, 1) := by decide +kernel
theorem dX10_turned_16 : decode cX10_turned 16 = .ok (.iload 6, 2) := by decide +kernel
theorem dX10_turned_18 : decode cX10_turned 18 = .ok (.lshr, 1) := by decide +kernel
theorem dX10_turned_19 : decode cX10_turned 19 = .ok (.lconst 1, 1) := by decide +kernel
theorem dX10_turned_20 : decode cX10_turned 20 = .ok (.land, 1) := by decide +kernel
theorem dX10_turned_21 : decode cX10_turned 21 = .ok (.lconst 1, 1) := by decide +kernel
theorem dX10_turned_22 : decode cX10_turned 22 = .ok (.lcmp, 1) := by decide +kernel
theorem dX10_turned_23 : decode cX10_turned 23 = .ok (.ifCond .ne 15, 3) := by decide +kernel
theorem dX10_turned_26 : decode cX10_turned 26 = .ok (.aload_n 0, 1) := by decide +kernel
theorem dX10_turned_27 : decode cX10_turned 27 = .ok (.getfield 55, 3) := by decide +kernel
theorem dX10_turned_30 : decode cX10_turned 30 = .ok (.iload_n 3, 1) := by decide +kernel
theorem dX10_turned_31 : decode cX10_turned 31 = .ok (.iload 6, 2) := by decide +kernel
theorem dX10_turned_33 : decode cX10_turned 33 = .ok (.iadd, 1) := by decide +kernel
theorem dX10_turned_34 : decode cX10_turned 34 = .ok (.laload, 1) := by decide +kernel
theorem dX10_turned_35 : decode cX10_turned 35 = .ok (.goto 4, 3) := by decide +kernel
theorem dX10_turned_38 : decode cX10_turned 38 = .ok (.lconst 0, 1) := by decide +kernel
theorem dX10_turned_39 : decode cX10_turned 39 = .ok (.lor, 1) := by decide +kernel
theorem dX10_turned_40 : decode cX10_turned 40 = .ok (.lstore 4, 2) := by decide +kernel
theorem dX10_turned_42 : decode cX10_turned 42 = .ok (.iinc 6 1, 3) := by decide +kernel
theorem dX10_turned_45 : decode cX10_turned 45 = .ok (.goto (-39), 3) := by decide +kernel
theorem dX10_turned_48 : decode cX10_turned 48 = .ok (.lload 4, 2) := by decide +kernel
theorem dX10_turned_50 : decode cX10_turned 50 = .ok (.lreturn, 1) := by decide +kernel
theorem dX10_reached_0 : decode cX10_reached 0 = .ok (.lconst 1, 1) := by decide +kernel
theorem dX10_reached_1 : decode cX10_reached 1 = .ok (.iload_n 1, 1) := by decide +kernel
theorem dX10_reached_2 : decode cX10_reached 2 = .ok (.lshl, 1) := by decide +kernel
theorem dX10_reached_3 : decode cX10_reached 3 = .ok (.lstore_n 3, 1) := by decide +kernel
theorem dX10_reached_4 : decode cX10_reached 4 = .ok (.aload_n 0, 1) := by decide +kernel
theorem dX10_reached_5 : decode cX10_reached 5 = .ok (.lload_n 3, 1) := by decide +kernel
theorem dX10_reached_6 : decode cX10_reached 6 = .ok (.iload_n 2, 1) := by decide +kernel
theorem dX10_reached_7 : decode cX10_reached 7 = .ok (.invokevirtual 219, 3) := by decide +kernel
theorem dX10_reached_10 : decode cX10_reached 10 = .ok (.lload_n 3, 1) := by decide +kernel
theorem dX10_reached_11 : decode cX10_reached 11 = .ok (.ldc2_w 223, 3) := by decide +kernel
theorem dX10_reached_14 : decode cX10_reached 14 = .ok (.lxor, 1) := by decide +kernel
theorem dX10_reached_15 : decode cX10_reached 15 = .ok (.land, 1) := by decide +kernel
theorem dX10_reached_16 : decode cX10_reached 16 = .ok (.lstore 5, 2) := by decide +kernel
theorem dX10_reached_18 : decode cX10_reached 18 = .ok (.aload_n 0, 1) := by decide +kernel
theorem dX10_reached_19 : decode cX10_reached 19 = .ok (.getfield 59, 3) := by decide +kernel
theorem dX10_reached_22 : decode cX10_reached 22 = .ok (.iload_n 1, 1) := by decide +kernel
theorem dX10_reached_23 : decode cX10_reached 23 = .ok (.iconst 0, 1) := by decide +kernel
theorem dX10_reached_24 : decode cX10_reached 24 = .ok (.iastore, 1) := by decide +kernel
theorem dX10_reached_25 : decode cX10_reached 25 = .ok (.lload 5, 2) := by decide +kernel
theorem dX10_reached_27 : decode cX10_reached 27 = .ok (.lconst 0, 1) := by decide +kernel
theorem dX10_reached_28 : decode cX10_reached 28 = .ok (.lcmp, 1) := by decide +kernel
theorem dX10_reached_29 : decode cX10_reached 29 = .ok (.ifCond .eq 35, 3) := by decide +kernel
theorem dX10_reached_32 : decode cX10_reached 32 = .ok (.aload_n 0, 1) := by decide +kernel
theorem dX10_reached_33 : decode cX10_reached 33 = .ok (.getfield 59, 3) := by decide +kernel
theorem dX10_reached_36 : decode cX10_reached 36 = .ok (.iload_n 1, 1) := by decide +kernel
theorem dX10_reached_37 : decode cX10_reached 37 = .ok (.dup2, 1) := by decide +kernel
theorem dX10_reached_38 : decode cX10_reached 38 = .ok (.iaload, 1) := by decide +kernel
theorem dX10_reached_39 : decode cX10_reached 39 = .ok (.iconst 1, 1) := by decide +kernel
theorem dX10_reached_40 : decode cX10_reached 40 = .ok (.iadd, 1) := by decide +kernel
theorem dX10_reached_41 : decode cX10_reached 41 = .ok (.iastore, 1) := by decide +kernel
theorem dX10_reached_42 : decode cX10_reached 42 = .ok (.lload_n 3, 1) := by decide +kernel
theorem dX10_reached_43 : decode cX10_reached 43 = .ok (.lload 5, 2) := by decide +kernel
theorem dX10_reached_45 : decode cX10_reached 45 = .ok (.lor, 1) := by decide +kernel
theorem dX10_reached_46 : decode cX10_reached 46 = .ok (.lstore_n 3, 1) := by decide +kernel
theorem dX10_reached_47 : decode cX10_reached 47 = .ok (.aload_n 0, 1) := by decide +kernel
theorem dX10_reached_48 : decode cX10_reached 48 = .ok (.lload_n 3, 1) := by decide +kernel
theorem dX10_reached_49 : decode cX10_reached 49 = .ok (.iload_n 2, 1) := by decide +kernel
theorem dX10_reached_50 : decode cX10_reached 50 = .ok (.invokevirtual 219, 3) := by decide +kernel
theorem dX10_reached_53 : decode cX10_reached 53 = .ok (.lload_n 3, 1) := by decide +kernel
theorem dX10_reached_54 : decode cX10_reached 54 = .ok (.ldc2_w 223, 3) := by decide +kernel
theorem dX10_reached_57 : decode cX10_reached 57 = .ok (.lxor, 1) := by decide +kernel
theorem dX10_reached_58 : decode cX10_reached 58 = .ok (.land, 1) := by decide +kernel
theorem dX10_reached_59 : decode cX10_reached 59 = .ok (.lstore 5, 2) := by decide +kernel
theorem dX10_reached_61 : decode cX10_reached 61 = .ok (.goto (-36), 3) := by decide +kernel
theorem dX10_reached_64 : decode cX10_reached 64 = .ok (.lload_n 3, 1) := by decide +kernel
theorem dX10_reached_65 : decode cX10_reached 65 = .ok (.lreturn, 1) := by decide +kernel
theorem dX10_operates_0 : decode cX10_operates 0 = .ok (.iload_n 1, 1) := by decide +kernel
theorem dX10_operates_1 : decode cX10_operates 1 = .ok (.bipush 52, 2) := by decide +kernel
theorem dX10_operates_3 : decode cX10_operates 3 = .ok (.if_icmp .ge 7, 3) := by decide +kernel
theorem dX10_operates_6 : decode cX10_operates 6 = .ok (.iconst 2, 1) := by decide +kernel
theorem dX10_operates_7 : decode cX10_operates 7 = .ok (.goto 14, 3) := by decide +kernel
theorem dX10_operates_10 : decode cX10_operates 10 = .ok (.iload_n 1, 1) := by decide +kernel
theorem dX10_operates_11 : decode cX10_operates 11 = .ok (.bipush 54, 2) := by decide +kernel
theorem dX10_operates_13 : decode cX10_operates 13 = .ok (.if_icmp .ne 7, 3) := by decide +kernel
theorem dX10_operates_16 : decode cX10_operates 16 = .ok (.iconst 3, 1) := by decide +kernel
theorem dX10_operates_17 : decode cX10_operates 17 = .ok (.goto 4, 3) := by decide +kernel
theorem dX10_operates_20 : decode cX10_operates 20 = .ok (.iconst 1, 1) := by decide +kernel
theorem dX10_operates_21 : decode cX10_operates 21 = .ok (.istore_n 2, 1) := by decide +kernel
theorem dX10_operates_22 : decode cX10_operates 22 = .ok (.aload_n 0, 1) := by decide +kernel
theorem dX10_operates_23 : decode cX10_operates 23 = .ok (.dup, 1) := by decide +kernel
theorem dX10_operates_24 : decode cX10_operates 24 = .ok (.getfield 213, 3) := by decide +kernel
theorem dX10_operates_27 : decode cX10_operates 27 = .ok (.iload_n 2, 1) := by decide +kernel
theorem dX10_operates_28 : decode cX10_operates 28 = .ok (.iconst 1, 1) := by decide +kernel
theorem dX10_operates_29 : decode cX10_operates 29 = .ok (.isub, 1) := by decide +kernel
theorem dX10_operates_30 : decode cX10_operates 30 = .ok (.isub, 1) := by decide +kernel
theorem dX10_operates_31 : decode cX10_operates 31 = .ok (.putfield 213, 3) := by decide +kernel
theorem dX10_operates_34 : decode cX10_operates 34 = .ok (.bipush 64, 2) := by decide +kernel
theorem dX10_operates_36 : decode cX10_operates 36 = .ok (.aload_n 0, 1) := by decide +kernel
theorem dX10_operates_37 : decode cX10_operates 37 = .ok (.getfield 213, 3) := by decide +kernel
theorem dX10_operates_40 : decode cX10_operates 40 = .ok (.iconst 1, 1) := by decide +kernel
theorem dX10_operates_41 : decode cX10_operates 41 = .ok (.isub, 1) := by decide +kernel
theorem dX10_operates_42 : decode cX10_operates 42 = .ok (.imul, 1) := by decide +kernel
theorem dX10_operates_43 : decode cX10_operates 43 = .ok (.istore_n 3, 1) := by decide +kernel
theorem dX10_operates_44 : decode cX10_operates 44 = .ok (.iload_n 3, 1) := by decide +kernel
theorem dX10_operates_45 : decode cX10_operates 45 = .ok (.bipush 64, 2) := by decide +kernel
theorem dX10_operates_47 : decode cX10_operates 47 = .ok (.iadd, 1) := by decide +kernel
theorem dX10_operates_48 : decode cX10_operates 48 = .ok (.istore 4, 2) := by decide +kernel
theorem dX10_operates_50 : decode cX10_operates 50 = .ok (.iload 4, 2) := by decide +kernel
theorem dX10_operates_52 : decode cX10_operates 52 = .ok (.bipush 64, 2) := by decide +kernel
theorem dX10_operates_54 : decode cX10_operates 54 = .ok (.iadd, 1) := by decide +kernel
theorem dX10_operates_55 : decode cX10_operates 55 = .ok (.istore 5, 2) := by decide +kernel
theorem dX10_operates_57 : decode cX10_operates 57 = .ok (.iconst 0, 1) := by decide +kernel
theorem dX10_operates_58 : decode cX10_operates 58 = .ok (.istore 6, 2) := by decide +kernel
theorem dX10_operates_60 : decode cX10_operates 60 = .ok (.iload 6, 2) := by decide +kernel
theorem dX10_operates_62 : decode cX10_operates 62 = .ok (.bipush 64, 2) := by decide +kernel
theorem dX10_operates_64 : decode cX10_operates 64 = .ok (.if_icmp .ge 153, 3) := by decide +kernel
theorem dX10_operates_67 : decode cX10_operates 67 = .ok (.aload_n 0, 1) := by decide +kernel
theorem dX10_operates_68 : decode cX10_operates 68 = .ok (.getfield 62, 3) := by decide +kernel
theorem dX10_operates_71 : decode cX10_operates 71 = .ok (.iload 6, 2) := by decide +kernel
theorem dX10_operates_73 : decode cX10_operates 73 = .ok (.iload_n 1, 1) := by decide +kernel
theorem dX10_operates_74 : decode cX10_operates 74 = .ok (.bipush 50, 2) := by decide +kernel
theorem dX10_operates_76 : decode cX10_operates 76 = .ok (.if_icmp .ne 26, 3) := by decide +kernel
theorem dX10_operates_79 : decode cX10_operates 79 = .ok (.aload_n 0, 1) := by decide +kernel
theorem dX10_operates_80 : decode cX10_operates 80 = .ok (.getfield 55, 3) := by decide +kernel
theorem dX10_operates_83 : decode cX10_operates 83 = .ok (.iload_n 3, 1) := by decide +kernel
theorem dX10_operates_84 : decode cX10_operates 84 = .ok (.iload 6, 2) := by decide +kernel
theorem dX10_operates_86 : decode cX10_operates 86 = .ok (.iadd, 1) := by decide +kernel
theorem dX10_operates_87 : decode cX10_operates 87 = .ok (.laload, 1) := by decide +kernel
theorem dX10_operates_88 : decode cX10_operates 88 = .ok (.aload_n 0, 1) := by decide +kernel
theorem dX10_operates_89 : decode cX10_operates 89 = .ok (.getfield 55, 3) := by decide +kernel
theorem dX10_operates_92 : decode cX10_operates 92 = .ok (.iload 4, 2) := by decide +kernel
theorem dX10_operates_94 : decode cX10_operates 94 = .ok (.iload 6, 2) := by decide +kernel
theorem dX10_operates_96 : decode cX10_operates 96 = .ok (.iadd, 1) := by decide +kernel
theorem dX10_operates_97 : decode cX10_operates 97 = .ok (.laload, 1) := by decide +kernel
theorem dX10_operates_98 : decode cX10_operates 98 = .ok (.lor, 1) := by decide +kernel
theorem dX10_operates_99 : decode cX10_operates 99 = .ok (.goto 111, 3) := by decide +kernel
theorem dX10_operates_102 : decode cX10_operates 102 = .ok (.iload_n 1, 1) := by decide +kernel
theorem dX10_operates_103 : decode cX10_operates 103 = .ok (.bipush 51, 2) := by decide +kernel
theorem dX10_operates_105 : decode cX10_operates 105 = .ok (.if_icmp .ne 21, 3) := by decide +kernel
theorem dX10_operates_108 : decode cX10_operates 108 = .ok (.aload_n 0, 1) := by decide +kernel
theorem dX10_operates_109 : decode cX10_operates 109 = .ok (.aload_n 0, 1) := by decide +kernel
theorem dX10_operates_110 : decode cX10_operates 110 = .ok (.getfield 55, 3) := by decide +kernel
theorem dX10_operates_113 : decode cX10_operates 113 = .ok (.iload_n 3, 1) := by decide +kernel
theorem dX10_operates_114 : decode cX10_operates 114 = .ok (.iload 6, 2) := by decide +kernel
theorem dX10_operates_116 : decode cX10_operates 116 = .ok (.iadd, 1) := by decide +kernel
theorem dX10_operates_117 : decode cX10_operates 117 = .ok (.laload, 1) := by decide +kernel
theorem dX10_operates_118 : decode cX10_operates 118 = .ok (.iload 4, 2) := by decide +kernel
theorem dX10_operates_120 : decode cX10_operates 120 = .ok (.invokevirtual 219, 3) := by decide +kernel
theorem dX10_operates_123 : decode cX10_operates 123 = .ok (.goto 87, 3) := by decide +kernel
theorem dX10_operates_126 : decode cX10_operates 126 = .ok (.iload_n 1, 1) := by decide +kernel
theorem dX10_operates_127 : decode cX10_operates 127 = .ok (.bipush 52, 2) := by decide +kernel
theorem dX10_operates_129 : decode cX10_operates 129 = .ok (.if_icmp .ne 13, 3) := by decide +kernel
theorem dX10_operates_132 : decode cX10_operates 132 = .ok (.aload_n 0, 1) := by decide +kernel
theorem dX10_operates_133 : decode cX10_operates 133 = .ok (.iload 6, 2) := by decide +kernel
theorem dX10_operates_135 : decode cX10_operates 135 = .ok (.iload_n 3, 1) := by decide +kernel
theorem dX10_operates_136 : decode cX10_operates 136 = .ok (.invokevirtual 225, 3) := by decide +kernel
theorem dX10_operates_139 : decode cX10_operates 139 = .ok (.goto 71, 3) := by decide +kernel
theorem dX10_operates_142 : decode cX10_operates 142 = .ok (.iload_n 1, 1) := by decide +kernel
theorem dX10_operates_143 : decode cX10_operates 143 = .ok (.bipush 53, 2) := by decide +kernel
theorem dX10_operates_145 : decode cX10_operates 145 = .ok (.if_icmp .ne 28, 3) := by decide +kernel
theorem dX10_operates_148 : decode cX10_operates 148 = .ok (.aload_n 0, 1) := by decide +kernel
theorem dX10_operates_149 : decode cX10_operates 149 = .ok (.getfield 55, 3) := by decide +kernel
theorem dX10_operates_152 : decode cX10_operates 152 = .ok (.iload_n 3, 1) := by decide +kernel
theorem dX10_operates_153 : decode cX10_operates 153 = .ok (.iload 6, 2) := by decide +kernel
theorem dX10_operates_155 : decode cX10_operates 155 = .ok (.iadd, 1) := by decide +kernel
theorem dX10_operates_156 : decode cX10_operates 156 = .ok (.laload, 1) := by decide +kernel
theorem dX10_operates_157 : decode cX10_operates 157 = .ok (.lconst 0, 1) := by decide +kernel
theorem dX10_operates_158 : decode cX10_operates 158 = .ok (.lcmp, 1) := by decide +kernel
theorem dX10_operates_159 : decode cX10_operates 159 = .ok (.ifCond .ne 10, 3) := by decide +kernel
theorem dX10_operates_162 : decode cX10_operates 162 = .ok (.lconst 1, 1) := by decide +kernel
theorem dX10_operates_163 : decode cX10_operates 163 = .ok (.iload 6, 2) := by decide +kernel
theorem dX10_operates_165 : decode cX10_operates 165 = .ok (.lshl, 1) := by decide +kernel
theorem dX10_operates_166 : decode cX10_operates 166 = .ok (.goto 44, 3) := by decide +kernel
theorem dX10_operates_169 : decode cX10_operates 169 = .ok (.lconst 0, 1) := by decide +kernel
theorem dX10_operates_170 : decode cX10_operates 170 = .ok (.goto 40, 3) := by decide +kernel
theorem dX10_operates_173 : decode cX10_operates 173 = .ok (.aload_n 0, 1) := by decide +kernel
theorem dX10_operates_174 : decode cX10_operates 174 = .ok (.getfield 55, 3) := by decide +kernel
theorem dX10_operates_177 : decode cX10_operates 177 = .ok (.iload_n 3, 1) := by decide +kernel
theorem dX10_operates_178 : decode cX10_operates 178 = .ok (.iload 6, 2) := by decide +kernel
theorem dX10_operates_180 : decode cX10_operates 180 = .ok (.iadd, 1) := by decide +kernel
theorem dX10_operates_181 : decode cX10_operates 181 = .ok (.laload, 1) := by decide +kernel
theorem dX10_operates_182 : decode cX10_operates 182 = .ok (.lconst 0, 1) := by decide +kernel
theorem dX10_operates_183 : decode cX10_operates 183 = .ok (.lcmp, 1) := by decide +kernel
theorem dX10_operates_184 : decode cX10_operates 184 = .ok (.ifCond .eq 16, 3) := by decide +kernel
theorem dX10_operates_187 : decode cX10_operates 187 = .ok (.aload_n 0, 1) := by decide +kernel
theorem dX10_operates_188 : decode cX10_operates 188 = .ok (.getfield 55, 3) := by decide +kernel
theorem dX10_operates_191 : decode cX10_operates 191 = .ok (.iload 4, 2) := by decide +kernel
theorem dX10_operates_193 : decode cX10_operates 193 = .ok (.iload 6, 2) := by decide +kernel
theorem dX10_operates_195 : decode cX10_operates 195 = .ok (.iadd, 1) := by decide +kernel
theorem dX10_operates_196 : decode cX10_operates 196 = .ok (.laload, 1) := by decide +kernel
theorem dX10_operates_197 : decode cX10_operates 197 = .ok (.goto 13, 3) := by decide +kernel
theorem dX10_operates_200 : decode cX10_operates 200 = .ok (.aload_n 0, 1) := by decide +kernel
theorem dX10_operates_201 : decode cX10_operates 201 = .ok (.getfield 55, 3) := by decide +kernel
theorem dX10_operates_204 : decode cX10_operates 204 = .ok (.iload 5, 2) := by decide +kernel
theorem dX10_operates_206 : decode cX10_operates 206 = .ok (.iload 6, 2) := by decide +kernel
theorem dX10_operates_208 : decode cX10_operates 208 = .ok (.iadd, 1) := by decide +kernel
theorem dX10_operates_209 : decode cX10_operates 209 = .ok (.laload, 1) := by decide +kernel
theorem dX10_operates_210 : decode cX10_operates 210 = .ok (.lastore, 1) := by decide +kernel
theorem dX10_operates_211 : decode cX10_operates 211 = .ok (.iinc 6 1, 3) := by decide +kernel
theorem dX10_operates_214 : decode cX10_operates 214 = .ok (.goto (-154), 3) := by decide +kernel
theorem dX10_operates_217 : decode cX10_operates 217 = .ok (.iconst 0, 1) := by decide +kernel
theorem dX10_operates_218 : decode cX10_operates 218 = .ok (.istore 6, 2) := by decide +kernel
theorem dX10_operates_220 : decode cX10_operates 220 = .ok (.iload 6, 2) := by decide +kernel
theorem dX10_operates_222 : decode cX10_operates 222 = .ok (.bipush 64, 2) := by decide +kernel
theorem dX10_operates_224 : decode cX10_operates 224 = .ok (.if_icmp .ge 25, 3) := by decide +kernel
theorem dX10_operates_227 : decode cX10_operates 227 = .ok (.aload_n 0, 1) := by decide +kernel
theorem dX10_operates_228 : decode cX10_operates 228 = .ok (.getfield 55, 3) := by decide +kernel
theorem dX10_operates_231 : decode cX10_operates 231 = .ok (.iload_n 3, 1) := by decide +kernel
theorem dX10_operates_232 : decode cX10_operates 232 = .ok (.iload 6, 2) := by decide +kernel
theorem dX10_operates_234 : decode cX10_operates 234 = .ok (.iadd, 1) := by decide +kernel
theorem dX10_operates_235 : decode cX10_operates 235 = .ok (.aload_n 0, 1) := by decide +kernel
theorem dX10_operates_236 : decode cX10_operates 236 = .ok (.getfield 62, 3) := by decide +kernel
theorem dX10_operates_239 : decode cX10_operates 239 = .ok (.iload 6, 2) := by decide +kernel
theorem dX10_operates_241 : decode cX10_operates 241 = .ok (.laload, 1) := by decide +kernel
theorem dX10_operates_242 : decode cX10_operates 242 = .ok (.lastore, 1) := by decide +kernel
theorem dX10_operates_243 : decode cX10_operates 243 = .ok (.iinc 6 1, 3) := by decide +kernel
theorem dX10_operates_246 : decode cX10_operates 246 = .ok (.goto (-26), 3) := by decide +kernel
theorem dX10_operates_249 : decode cX10_operates 249 = .ok (.return_, 1) := by decide +kernel
theorem dX10_evaluates_0 : decode cX10_evaluates 0 = .ok (.aload_n 0, 1) := by decide +kernel
theorem dX10_evaluates_1 : decode cX10_evaluates 1 = .ok (.iconst 0, 1) := by decide +kernel
theorem dX10_evaluates_2 : decode cX10_evaluates 2 = .ok (.putfield 213, 3) := by decide +kernel
theorem dX10_evaluates_5 : decode cX10_evaluates 5 = .ok (.iconst 0, 1) := by decide +kernel
theorem dX10_evaluates_6 : decode cX10_evaluates 6 = .ok (.istore_n 2, 1) := by decide +kernel
theorem dX10_evaluates_7 : decode cX10_evaluates 7 = .ok (.iload_n 2, 1) := by decide +kernel
theorem dX10_evaluates_8 : decode cX10_evaluates 8 = .ok (.aload_n 0, 1) := by decide +kernel
theorem dX10_evaluates_9 : decode cX10_evaluates 9 = .ok (.getfield 7, 3) := by decide +kernel
theorem dX10_evaluates_12 : decode cX10_evaluates 12 = .ok (.iload_n 1, 1) := by decide +kernel
theorem dX10_evaluates_13 : decode cX10_evaluates 13 = .ok (.iaload, 1) := by decide +kernel
theorem dX10_evaluates_14 : decode cX10_evaluates 14 = .ok (.if_icmp .ge 35, 3) := by decide +kernel
theorem dX10_evaluates_17 : decode cX10_evaluates 17 = .ok (.aload_n 0, 1) := by decide +kernel
theorem dX10_evaluates_18 : decode cX10_evaluates 18 = .ok (.iload_n 1, 1) := by decide +kernel
theorem dX10_evaluates_19 : decode cX10_evaluates 19 = .ok (.iload_n 2, 1) := by decide +kernel
theorem dX10_evaluates_20 : decode cX10_evaluates 20 = .ok (.invokevirtual 116, 3) := by decide +kernel
theorem dX10_evaluates_23 : decode cX10_evaluates 23 = .ok (.istore_n 3, 1) := by decide +kernel
theorem dX10_evaluates_24 : decode cX10_evaluates 24 = .ok (.iload_n 3, 1) := by decide +kernel
theorem dX10_evaluates_25 : decode cX10_evaluates 25 = .ok (.bipush 50, 2) := by decide +kernel
theorem dX10_evaluates_27 : decode cX10_evaluates 27 = .ok (.if_icmp .ge 11, 3) := by decide +kernel
theorem dX10_evaluates_30 : decode cX10_evaluates 30 = .ok (.aload_n 0, 1) := by decide +kernel
theorem dX10_evaluates_31 : decode cX10_evaluates 31 = .ok (.iload_n 3, 1) := by decide +kernel
theorem dX10_evaluates_32 : decode cX10_evaluates 32 = .ok (.invokevirtual 229, 3) := by decide +kernel
theorem dX10_evaluates_35 : decode cX10_evaluates 35 = .ok (.goto 8, 3) := by decide +kernel
theorem dX10_evaluates_38 : decode cX10_evaluates 38 = .ok (.aload_n 0, 1) := by decide +kernel
theorem dX10_evaluates_39 : decode cX10_evaluates 39 = .ok (.iload_n 3, 1) := by decide +kernel
theorem dX10_evaluates_40 : decode cX10_evaluates 40 = .ok (.invokevirtual 232, 3) := by decide +kernel
theorem dX10_evaluates_43 : decode cX10_evaluates 43 = .ok (.iinc 2 1, 3) := by decide +kernel
theorem dX10_evaluates_46 : decode cX10_evaluates 46 = .ok (.goto (-39), 3) := by decide +kernel
theorem dX10_evaluates_49 : decode cX10_evaluates 49 = .ok (.return_, 1) := by decide +kernel
theorem dX10_outputsOf_0 : decode cX10_outputsOf 0 = .ok (.aload_n 0, 1) := by decide +kernel
theorem dX10_outputsOf_1 : decode cX10_outputsOf 1 = .ok (.iload_n 1, 1) := by decide +kernel
theorem dX10_outputsOf_2 : decode cX10_outputsOf 2 = .ok (.invokevirtual 235, 3) := by decide +kernel
theorem dX10_outputsOf_5 : decode cX10_outputsOf 5 = .ok (.aload_n 0, 1) := by decide +kernel
theorem dX10_outputsOf_6 : decode cX10_outputsOf 6 = .ok (.getfield 55, 3) := by decide +kernel
theorem dX10_outputsOf_9 : decode cX10_outputsOf 9 = .ok (.iload_n 2, 1) := by decide +kernel
theorem dX10_outputsOf_10 : decode cX10_outputsOf 10 = .ok (.laload, 1) := by decide +kernel
theorem dX10_outputsOf_11 : decode cX10_outputsOf 11 = .ok (.lreturn, 1) := by decide +kernel
theorem dX10_isPacket_0 : decode cX10_isPacket 0 = .ok (.iload_n 0, 1) := by decide +kernel
theorem dX10_isPacket_1 : decode cX10_isPacket 1 = .ok (.iconst 0, 1) := by decide +kernel
theorem dX10_isPacket_2 : decode cX10_isPacket 2 = .ok (.bipush 63, 2) := by decide +kernel
theorem dX10_isPacket_4 : decode cX10_isPacket 4 = .ok (.invokestatic 98, 3) := by decide +kernel
theorem dX10_isPacket_7 : decode cX10_isPacket 7 = .ok (.ireturn, 1) := by decide +kernel
theorem dX10_outputs_0 : decode cX10_outputs 0 = .ok (.iload_n 1, 1) := by decide +kernel
theorem dX10_outputs_1 : decode cX10_outputs 1 = .ok (.invokestatic 179, 3) := by decide +kernel
theorem dX10_outputs_4 : decode cX10_outputs 4 = .ok (.ifCond .eq 19, 3) := by decide +kernel
theorem dX10_outputs_7 : decode cX10_outputs 7 = .ok (.iload_n 2, 1) := by decide +kernel
theorem dX10_outputs_8 : decode cX10_outputs 8 = .ok (.invokestatic 238, 3) := by decide +kernel
theorem dX10_outputs_11 : decode cX10_outputs 11 = .ok (.ifCond .eq 12, 3) := by decide +kernel
theorem dX10_outputs_14 : decode cX10_outputs 14 = .ok (.aload_n 0, 1) := by decide +kernel
theorem dX10_outputs_15 : decode cX10_outputs 15 = .ok (.iload_n 1, 1) := by decide +kernel
theorem dX10_outputs_16 : decode cX10_outputs 16 = .ok (.iload_n 2, 1) := by decide +kernel
theorem dX10_outputs_17 : decode cX10_outputs 17 = .ok (.invokevirtual 241, 3) := by decide +kernel
theorem dX10_outputs_20 : decode cX10_outputs 20 = .ok (.goto 10, 3) := by decide +kernel
theorem dX10_outputs_23 : decode cX10_outputs 23 = .ok (.aload_n 0, 1) := by decide +kernel
theorem dX10_outputs_24 : decode cX10_outputs 24 = .ok (.bipush (-2), 2) := by decide +kernel
theorem dX10_outputs_26 : decode cX10_outputs 26 = .ok (.invokevirtual 106, 3) := by decide +kernel
theorem dX10_outputs_29 : decode cX10_outputs 29 = .ok (.i2l, 1) := by decide +kernel
theorem dX10_outputs_30 : decode cX10_outputs 30 = .ok (.lreturn, 1) := by decide +kernel
theorem dX10_acceptedOf_0 : decode cX10_acceptedOf 0 = .ok (.aload_n 0, 1) := by decide +kernel
theorem dX10_acceptedOf_1 : decode cX10_acceptedOf 1 = .ok (.iload_n 1, 1) := by decide +kernel
theorem dX10_acceptedOf_2 : decode cX10_acceptedOf 2 = .ok (.invokevirtual 235, 3) := by decide +kernel
theorem dX10_acceptedOf_5 : decode cX10_acceptedOf 5 = .ok (.lconst 0, 1) := by decide +kernel
theorem dX10_acceptedOf_6 : decode cX10_acceptedOf 6 = .ok (.lstore_n 2, 1) := by decide +kernel
theorem dX10_acceptedOf_7 : decode cX10_acceptedOf 7 = .ok (.iconst 0, 1) := by decide +kernel
theorem dX10_acceptedOf_8 : decode cX10_acceptedOf 8 = .ok (.istore 4, 2) := by decide +kernel
theorem dX10_acceptedOf_10 : decode cX10_acceptedOf 10 = .ok (.iload 4, 2) := by decide +kernel
theorem dX10_acceptedOf_12 : decode cX10_acceptedOf 12 = .ok (.bipush 64, 2) := by decide +kernel
theorem dX10_acceptedOf_14 : decode cX10_acceptedOf 14 = .ok (.if_icmp .ge 32, 3) := by decide +kernel
theorem dX10_acceptedOf_17 : decode cX10_acceptedOf 17 = .ok (.lload_n 2, 1) := by decide +kernel
theorem dX10_acceptedOf_18 : decode cX10_acceptedOf 18 = .ok (.aload_n 0, 1) := by decide +kernel
theorem dX10_acceptedOf_19 : decode cX10_acceptedOf 19 = .ok (.getfield 55, 3) := by decide +kernel
theorem dX10_acceptedOf_22 : decode cX10_acceptedOf 22 = .ok (.iload 4, 2) := by decide +kernel
theorem dX10_acceptedOf_24 : decode cX10_acceptedOf 24 = .ok (.laload, 1) := by decide +kernel
theorem dX10_acceptedOf_25 : decode cX10_acceptedOf 25 = .ok (.lconst 0, 1) := by decide +kernel
theorem dX10_acceptedOf_26 : decode cX10_acceptedOf 26 = .ok (.lcmp, 1) := by decide +kernel
theorem dX10_acceptedOf_27 : decode cX10_acceptedOf 27 = .ok (.ifCond .eq 10, 3) := by decide +kernel
theorem dX10_acceptedOf_30 : decode cX10_acceptedOf 30 = .ok (.lconst 1, 1) := by decide +kernel
theorem dX10_acceptedOf_31 : decode cX10_acceptedOf 31 = .ok (.iload 4, 2) := by decide +kernel
theorem dX10_acceptedOf_33 : decode cX10_acceptedOf 33 = .ok (.lshl, 1) := by decide +kernel
theorem dX10_acceptedOf_34 : decode cX10_acceptedOf 34 = .ok (.goto 4, 3) := by decide +kernel
theorem dX10_acceptedOf_37 : decode cX10_acceptedOf 37 = .ok (.lconst 0, 1) := by decide +kernel
theorem dX10_acceptedOf_38 : decode cX10_acceptedOf 38 = .ok (.lor, 1) := by decide +kernel
theorem dX10_acceptedOf_39 : decode cX10_acceptedOf 39 = .ok (.lstore_n 2, 1) := by decide +kernel
theorem dX10_acceptedOf_40 : decode cX10_acceptedOf 40 = .ok (.iinc 4 1, 3) := by decide +kernel
theorem dX10_acceptedOf_43 : decode cX10_acceptedOf 43 = .ok (.goto (-33), 3) := by decide +kernel
theorem dX10_acceptedOf_46 : decode cX10_acceptedOf 46 = .ok (.lload_n 2, 1) := by decide +kernel
theorem dX10_acceptedOf_47 : decode cX10_acceptedOf 47 = .ok (.lreturn, 1) := by decide +kernel
theorem dX10_accepted_0 : decode cX10_accepted 0 = .ok (.iload_n 1, 1) := by decide +kernel
theorem dX10_accepted_1 : decode cX10_accepted 1 = .ok (.invokestatic 179, 3) := by decide +kernel
theorem dX10_accepted_4 : decode cX10_accepted 4 = .ok (.ifCond .eq 11, 3) := by decide +kernel
theorem dX10_accepted_7 : decode cX10_accepted 7 = .ok (.aload_n 0, 1) := by decide +kernel
theorem dX10_accepted_8 : decode cX10_accepted 8 = .ok (.iload_n 1, 1) := by decide +kernel
theorem dX10_accepted_9 : decode cX10_accepted 9 = .ok (.invokevirtual 244, 3) := by decide +kernel
theorem dX10_accepted_12 : decode cX10_accepted 12 = .ok (.goto 10, 3) := by decide +kernel
theorem dX10_accepted_15 : decode cX10_accepted 15 = .ok (.aload_n 0, 1) := by decide +kernel
theorem dX10_accepted_16 : decode cX10_accepted 16 = .ok (.bipush (-2), 2) := by decide +kernel
theorem dX10_accepted_18 : decode cX10_accepted 18 = .ok (.invokevirtual 106, 3) := by decide +kernel
theorem dX10_accepted_21 : decode cX10_accepted 21 = .ok (.i2l, 1) := by decide +kernel
theorem dX10_accepted_22 : decode cX10_accepted 22 = .ok (.lreturn, 1) := by decide +kernel
theorem dX10_ones_0 : decode cX10_ones 0 = .ok (.iconst 0, 1) := by decide +kernel
theorem dX10_ones_1 : decode cX10_ones 1 = .ok (.istore_n 2, 1) := by decide +kernel
theorem dX10_ones_2 : decode cX10_ones 2 = .ok (.iconst 0, 1) := by decide +kernel
theorem dX10_ones_3 : decode cX10_ones 3 = .ok (.istore_n 3, 1) := by decide +kernel
theorem dX10_ones_4 : decode cX10_ones 4 = .ok (.iload_n 3, 1) := by decide +kernel
theorem dX10_ones_5 : decode cX10_ones 5 = .ok (.bipush 64, 2) := by decide +kernel
theorem dX10_ones_7 : decode cX10_ones 7 = .ok (.if_icmp .ge 27, 3) := by decide +kernel
theorem dX10_ones_10 : decode cX10_ones 10 = .ok (.iload_n 2, 1) := by decide +kernel
theorem dX10_ones_11 : decode cX10_ones 11 = .ok (.lload_n 0, 1) := by decide +kernel
theorem dX10_ones_12 : decode cX10_ones 12 = .ok (.iload_n 3, 1) := by decide +kernel
theorem dX10_ones_13 : decode cX10_ones 13 = .ok (.lshr, 1) := by decide +kernel
theorem dX10_ones_14 : decode cX10_ones 14 = .ok (.lconst 1, 1) := by decide +kernel
theorem dX10_ones_15 : decode cX10_ones 15 = .ok (.land, 1) := by decide +kernel
theorem dX10_ones_16 : decode cX10_ones 16 = .ok (.lconst 1, 1) := by decide +kernel
theorem dX10_ones_17 : decode cX10_ones 17 = .ok (.lcmp, 1) := by decide +kernel
theorem dX10_ones_18 : decode cX10_ones 18 = .ok (.ifCond .ne 7, 3) := by decide +kernel
theorem dX10_ones_21 : decode cX10_ones 21 = .ok (.iconst 1, 1) := by decide +kernel
theorem dX10_ones_22 : decode cX10_ones 22 = .ok (.goto 4, 3) := by decide +kernel
theorem dX10_ones_25 : decode cX10_ones 25 = .ok (.iconst 0, 1) := by decide +kernel
theorem dX10_ones_26 : decode cX10_ones 26 = .ok (.iadd, 1) := by decide +kernel
theorem dX10_ones_27 : decode cX10_ones 27 = .ok (.istore_n 2, 1) := by decide +kernel
theorem dX10_ones_28 : decode cX10_ones 28 = .ok (.iinc 3 1, 3) := by decide +kernel
theorem dX10_ones_31 : decode cX10_ones 31 = .ok (.goto (-27), 3) := by decide +kernel
theorem dX10_ones_34 : decode cX10_ones 34 = .ok (.iload_n 2, 1) := by decide +kernel
theorem dX10_ones_35 : decode cX10_ones 35 = .ok (.ireturn, 1) := by decide +kernel
theorem dX10_spreadOf_0 : decode cX10_spreadOf 0 = .ok (.aload_n 0, 1) := by decide +kernel
theorem dX10_spreadOf_1 : decode cX10_spreadOf 1 = .ok (.iload_n 1, 1) := by decide +kernel
theorem dX10_spreadOf_2 : decode cX10_spreadOf 2 = .ok (.invokevirtual 235, 3) := by decide +kernel
theorem dX10_spreadOf_5 : decode cX10_spreadOf 5 = .ok (.iconst 0, 1) := by decide +kernel
theorem dX10_spreadOf_6 : decode cX10_spreadOf 6 = .ok (.istore_n 2, 1) := by decide +kernel
theorem dX10_spreadOf_7 : decode cX10_spreadOf 7 = .ok (.iconst 0, 1) := by decide +kernel
theorem dX10_spreadOf_8 : decode cX10_spreadOf 8 = .ok (.istore_n 3, 1) := by decide +kernel
theorem dX10_spreadOf_9 : decode cX10_spreadOf 9 = .ok (.iload_n 3, 1) := by decide +kernel
theorem dX10_spreadOf_10 : decode cX10_spreadOf 10 = .ok (.bipush 64, 2) := by decide +kernel
theorem dX10_spreadOf_12 : decode cX10_spreadOf 12 = .ok (.if_icmp .ge 36, 3) := by decide +kernel
theorem dX10_spreadOf_15 : decode cX10_spreadOf 15 = .ok (.aload_n 0, 1) := by decide +kernel
theorem dX10_spreadOf_16 : decode cX10_spreadOf 16 = .ok (.getfield 55, 3) := by decide +kernel
theorem dX10_spreadOf_19 : decode cX10_spreadOf 19 = .ok (.iload_n 3, 1) := by decide +kernel
theorem dX10_spreadOf_20 : decode cX10_spreadOf 20 = .ok (.laload, 1) := by decide +kernel
theorem dX10_spreadOf_21 : decode cX10_spreadOf 21 = .ok (.invokestatic 248, 3) := by decide +kernel
theorem dX10_spreadOf_24 : decode cX10_spreadOf 24 = .ok (.iload_n 2, 1) := by decide +kernel
theorem dX10_spreadOf_25 : decode cX10_spreadOf 25 = .ok (.if_icmp .le 15, 3) := by decide +kernel
theorem dX10_spreadOf_28 : decode cX10_spreadOf 28 = .ok (.aload_n 0, 1) := by decide +kernel
theorem dX10_spreadOf_29 : decode cX10_spreadOf 29 = .ok (.getfield 55, 3) := by decide +kernel
theorem dX10_spreadOf_32 : decode cX10_spreadOf 32 = .ok (.iload_n 3, 1) := by decide +kernel
theorem dX10_spreadOf_33 : decode cX10_spreadOf 33 = .ok (.laload, 1) := by decide +kernel
theorem dX10_spreadOf_34 : decode cX10_spreadOf 34 = .ok (.invokestatic 248, 3) := by decide +kernel
theorem dX10_spreadOf_37 : decode cX10_spreadOf 37 = .ok (.goto 4, 3) := by decide +kernel
theorem dX10_spreadOf_40 : decode cX10_spreadOf 40 = .ok (.iload_n 2, 1) := by decide +kernel
theorem dX10_spreadOf_41 : decode cX10_spreadOf 41 = .ok (.istore_n 2, 1) := by decide +kernel
theorem dX10_spreadOf_42 : decode cX10_spreadOf 42 = .ok (.iinc 3 1, 3) := by decide +kernel
theorem dX10_spreadOf_45 : decode cX10_spreadOf 45 = .ok (.goto (-36), 3) := by decide +kernel
theorem dX10_spreadOf_48 : decode cX10_spreadOf 48 = .ok (.iload_n 2, 1) := by decide +kernel
theorem dX10_spreadOf_49 : decode cX10_spreadOf 49 = .ok (.ireturn, 1) := by decide +kernel
theorem dX10_spread_0 : decode cX10_spread 0 = .ok (.iload_n 1, 1) := by decide +kernel
theorem dX10_spread_1 : decode cX10_spread 1 = .ok (.invokestatic 179, 3) := by decide +kernel
theorem dX10_spread_4 : decode cX10_spread 4 = .ok (.ifCond .eq 11, 3) := by decide +kernel
theorem dX10_spread_7 : decode cX10_spread 7 = .ok (.aload_n 0, 1) := by decide +kernel
theorem dX10_spread_8 : decode cX10_spread 8 = .ok (.iload_n 1, 1) := by decide +kernel
theorem dX10_spread_9 : decode cX10_spread 9 = .ok (.invokevirtual 252, 3) := by decide +kernel
theorem dX10_spread_12 : decode cX10_spread 12 = .ok (.goto 9, 3) := by decide +kernel
theorem dX10_spread_15 : decode cX10_spread 15 = .ok (.aload_n 0, 1) := by decide +kernel
theorem dX10_spread_16 : decode cX10_spread 16 = .ok (.bipush (-2), 2) := by decide +kernel
theorem dX10_spread_18 : decode cX10_spread 18 = .ok (.invokevirtual 106, 3) := by decide +kernel
theorem dX10_spread_21 : decode cX10_spread 21 = .ok (.ireturn, 1) := by decide +kernel
theorem dX10_roundsOf_0 : decode cX10_roundsOf 0 = .ok (.aload_n 0, 1) := by decide +kernel
theorem dX10_roundsOf_1 : decode cX10_roundsOf 1 = .ok (.iload_n 1, 1) := by decide +kernel
theorem dX10_roundsOf_2 : decode cX10_roundsOf 2 = .ok (.invokevirtual 235, 3) := by decide +kernel
theorem dX10_roundsOf_5 : decode cX10_roundsOf 5 = .ok (.iconst 0, 1) := by decide +kernel
theorem dX10_roundsOf_6 : decode cX10_roundsOf 6 = .ok (.istore_n 2, 1) := by decide +kernel
theorem dX10_roundsOf_7 : decode cX10_roundsOf 7 = .ok (.iconst 0, 1) := by decide +kernel
theorem dX10_roundsOf_8 : decode cX10_roundsOf 8 = .ok (.istore_n 3, 1) := by decide +kernel
theorem dX10_roundsOf_9 : decode cX10_roundsOf 9 = .ok (.iload_n 3, 1) := by decide +kernel
theorem dX10_roundsOf_10 : decode cX10_roundsOf 10 = .ok (.bipush 64, 2) := by decide +kernel
theorem dX10_roundsOf_12 : decode cX10_roundsOf 12 = .ok (.if_icmp .ge 45, 3) := by decide +kernel
theorem dX10_roundsOf_15 : decode cX10_roundsOf 15 = .ok (.aload_n 0, 1) := by decide +kernel
theorem dX10_roundsOf_16 : decode cX10_roundsOf 16 = .ok (.iload_n 3, 1) := by decide +kernel
theorem dX10_roundsOf_17 : decode cX10_roundsOf 17 = .ok (.iconst 0, 1) := by decide +kernel
theorem dX10_roundsOf_18 : decode cX10_roundsOf 18 = .ok (.invokevirtual 225, 3) := by decide +kernel
theorem dX10_roundsOf_21 : decode cX10_roundsOf 21 = .ok (.lstore 4, 2) := by decide +kernel
theorem dX10_roundsOf_23 : decode cX10_roundsOf 23 = .ok (.lload 4, 2) := by decide +kernel
theorem dX10_roundsOf_25 : decode cX10_roundsOf 25 = .ok (.lconst 0, 1) := by decide +kernel
theorem dX10_roundsOf_26 : decode cX10_roundsOf 26 = .ok (.lcmp, 1) := by decide +kernel
theorem dX10_roundsOf_27 : decode cX10_roundsOf 27 = .ok (.ifCond .eq 22, 3) := by decide +kernel
theorem dX10_roundsOf_30 : decode cX10_roundsOf 30 = .ok (.aload_n 0, 1) := by decide +kernel
theorem dX10_roundsOf_31 : decode cX10_roundsOf 31 = .ok (.getfield 59, 3) := by decide +kernel
theorem dX10_roundsOf_34 : decode cX10_roundsOf 34 = .ok (.iload_n 3, 1) := by decide +kernel
theorem dX10_roundsOf_35 : decode cX10_roundsOf 35 = .ok (.iaload, 1) := by decide +kernel
theorem dX10_roundsOf_36 : decode cX10_roundsOf 36 = .ok (.iload_n 2, 1) := by decide +kernel
theorem dX10_roundsOf_37 : decode cX10_roundsOf 37 = .ok (.if_icmp .le 12, 3) := by decide +kernel
theorem dX10_roundsOf_40 : decode cX10_roundsOf 40 = .ok (.aload_n 0, 1) := by decide +kernel
theorem dX10_roundsOf_41 : decode cX10_roundsOf 41 = .ok (.getfield 59, 3) := by decide +kernel
theorem dX10_roundsOf_44 : decode cX10_roundsOf 44 = .ok (.iload_n 3, 1) := by decide +kernel
theorem dX10_roundsOf_45 : decode cX10_roundsOf 45 = .ok (.iaload, 1) := by decide +kernel
theorem dX10_roundsOf_46 : decode cX10_roundsOf 46 = .ok (.goto 4, 3) := by decide +kernel
theorem dX10_roundsOf_49 : decode cX10_roundsOf 49 = .ok (.iload_n 2, 1) := by decide +kernel
theorem dX10_roundsOf_50 : decode cX10_roundsOf 50 = .ok (.istore_n 2, 1) := by decide +kernel
theorem dX10_roundsOf_51 : decode cX10_roundsOf 51 = .ok (.iinc 3 1, 3) := by decide +kernel
theorem dX10_roundsOf_54 : decode cX10_roundsOf 54 = .ok (.goto (-45), 3) := by decide +kernel
theorem dX10_roundsOf_57 : decode cX10_roundsOf 57 = .ok (.iload_n 2, 1) := by decide +kernel
theorem dX10_roundsOf_58 : decode cX10_roundsOf 58 = .ok (.ireturn, 1) := by decide +kernel
theorem dX10_rounds_0 : decode cX10_rounds 0 = .ok (.iload_n 1, 1) := by decide +kernel
theorem dX10_rounds_1 : decode cX10_rounds 1 = .ok (.invokestatic 179, 3) := by decide +kernel
theorem dX10_rounds_4 : decode cX10_rounds 4 = .ok (.ifCond .eq 11, 3) := by decide +kernel
theorem dX10_rounds_7 : decode cX10_rounds 7 = .ok (.aload_n 0, 1) := by decide +kernel
theorem dX10_rounds_8 : decode cX10_rounds 8 = .ok (.iload_n 1, 1) := by decide +kernel
theorem dX10_rounds_9 : decode cX10_rounds 9 = .ok (.invokevirtual 255, 3) := by decide +kernel
theorem dX10_rounds_12 : decode cX10_rounds 12 = .ok (.goto 9, 3) := by decide +kernel
theorem dX10_rounds_15 : decode cX10_rounds 15 = .ok (.aload_n 0, 1) := by decide +kernel
theorem dX10_rounds_16 : decode cX10_rounds 16 = .ok (.bipush (-2), 2) := by decide +kernel
theorem dX10_rounds_18 : decode cX10_rounds 18 = .ok (.invokevirtual 106, 3) := by decide +kernel
theorem dX10_rounds_21 : decode cX10_rounds 21 = .ok (.ireturn, 1) := by decide +kernel
theorem dX10_laysBoth_0 : decode cX10_laysBoth 0 = .ok (.aload_n 0, 1) := by decide +kernel
theorem dX10_laysBoth_1 : decode cX10_laysBoth 1 = .ok (.iload_n 1, 1) := by decide +kernel
theorem dX10_laysBoth_2 : decode cX10_laysBoth 2 = .ok (.invokevirtual 235, 3) := by decide +kernel
theorem dX10_laysBoth_5 : decode cX10_laysBoth 5 = .ok (.iconst 0, 1) := by decide +kernel
theorem dX10_laysBoth_6 : decode cX10_laysBoth 6 = .ok (.istore_n 3, 1) := by decide +kernel
theorem dX10_laysBoth_7 : decode cX10_laysBoth 7 = .ok (.iload_n 3, 1) := by decide +kernel
theorem dX10_laysBoth_8 : decode cX10_laysBoth 8 = .ok (.bipush 64, 2) := by decide +kernel
theorem dX10_laysBoth_10 : decode cX10_laysBoth 10 = .ok (.if_icmp .ge 21, 3) := by decide +kernel
theorem dX10_laysBoth_13 : decode cX10_laysBoth 13 = .ok (.aload_n 0, 1) := by decide +kernel
theorem dX10_laysBoth_14 : decode cX10_laysBoth 14 = .ok (.getfield 65, 3) := by decide +kernel
theorem dX10_laysBoth_17 : decode cX10_laysBoth 17 = .ok (.iload_n 3, 1) := by decide +kernel
theorem dX10_laysBoth_18 : decode cX10_laysBoth 18 = .ok (.aload_n 0, 1) := by decide +kernel
theorem dX10_laysBoth_19 : decode cX10_laysBoth 19 = .ok (.getfield 55, 3) := by decide +kernel
theorem dX10_laysBoth_22 : decode cX10_laysBoth 22 = .ok (.iload_n 3, 1) := by decide +kernel
theorem dX10_laysBoth_23 : decode cX10_laysBoth 23 = .ok (.laload, 1) := by decide +kernel
theorem dX10_laysBoth_24 : decode cX10_laysBoth 24 = .ok (.lastore, 1) := by decide +kernel
theorem dX10_laysBoth_25 : decode cX10_laysBoth 25 = .ok (.iinc 3 1, 3) := by decide +kernel
theorem dX10_laysBoth_28 : decode cX10_laysBoth 28 = .ok (.goto (-21), 3) := by decide +kernel
theorem dX10_laysBoth_31 : decode cX10_laysBoth 31 = .ok (.aload_n 0, 1) := by decide +kernel
theorem dX10_laysBoth_32 : decode cX10_laysBoth 32 = .ok (.iload_n 2, 1) := by decide +kernel
theorem dX10_laysBoth_33 : decode cX10_laysBoth 33 = .ok (.invokevirtual 235, 3) := by decide +kernel
theorem dX10_laysBoth_36 : decode cX10_laysBoth 36 = .ok (.return_, 1) := by decide +kernel
theorem dX10_compared_0 : decode cX10_compared 0 = .ok (.aload_n 0, 1) := by decide +kernel
theorem dX10_compared_1 : decode cX10_compared 1 = .ok (.iload_n 1, 1) := by decide +kernel
theorem dX10_compared_2 : decode cX10_compared 2 = .ok (.iload_n 2, 1) := by decide +kernel
theorem dX10_compared_3 : decode cX10_compared 3 = .ok (.invokevirtual 258, 3) := by decide +kernel
theorem dX10_compared_6 : decode cX10_compared 6 = .ok (.iconst 1, 1) := by decide +kernel
theorem dX10_compared_7 : decode cX10_compared 7 = .ok (.istore_n 3, 1) := by decide +kernel
theorem dX10_compared_8 : decode cX10_compared 8 = .ok (.iconst 1, 1) := by decide +kernel
theorem dX10_compared_9 : decode cX10_compared 9 = .ok (.istore 4, 2) := by decide +kernel
theorem dX10_compared_11 : decode cX10_compared 11 = .ok (.iconst 0, 1) := by decide +kernel
theorem dX10_compared_12 : decode cX10_compared 12 = .ok (.istore 5, 2) := by decide +kernel
theorem dX10_compared_14 : decode cX10_compared 14 = .ok (.iload 5, 2) := by decide +kernel
theorem dX10_compared_16 : decode cX10_compared 16 = .ok (.bipush 64, 2) := by decide +kernel
theorem dX10_compared_18 : decode cX10_compared 18 = .ok (.if_icmp .ge 79, 3) := by decide +kernel
theorem dX10_compared_21 : decode cX10_compared 21 = .ok (.iload_n 3, 1) := by decide +kernel
theorem dX10_compared_22 : decode cX10_compared 22 = .ok (.ifCond .eq 31, 3) := by decide +kernel
theorem dX10_compared_25 : decode cX10_compared 25 = .ok (.aload_n 0, 1) := by decide +kernel
theorem dX10_compared_26 : decode cX10_compared 26 = .ok (.getfield 65, 3) := by decide +kernel
theorem dX10_compared_29 : decode cX10_compared 29 = .ok (.iload 5, 2) := by decide +kernel
theorem dX10_compared_31 : decode cX10_compared 31 = .ok (.laload, 1) := by decide +kernel
theorem dX10_compared_32 : decode cX10_compared 32 = .ok (.aload_n 0, 1) := by decide +kernel
theorem dX10_compared_33 : decode cX10_compared 33 = .ok (.getfield 55, 3) := by decide +kernel
theorem dX10_compared_36 : decode cX10_compared 36 = .ok (.iload 5, 2) := by decide +kernel
theorem dX10_compared_38 : decode cX10_compared 38 = .ok (.laload, 1) := by decide +kernel
theorem dX10_compared_39 : decode cX10_compared 39 = .ok (.ldc2_w 223, 3) := by decide +kernel
theorem dX10_compared_42 : decode cX10_compared 42 = .ok (.lxor, 1) := by decide +kernel
theorem dX10_compared_43 : decode cX10_compared 43 = .ok (.land, 1) := by decide +kernel
theorem dX10_compared_44 : decode cX10_compared 44 = .ok (.lconst 0, 1) := by decide +kernel
theorem dX10_compared_45 : decode cX10_compared 45 = .ok (.lcmp, 1) := by decide +kernel
theorem dX10_compared_46 : decode cX10_compared 46 = .ok (.ifCond .ne 7, 3) := by decide +kernel
theorem dX10_compared_49 : decode cX10_compared 49 = .ok (.iconst 1, 1) := by decide +kernel
theorem dX10_compared_50 : decode cX10_compared 50 = .ok (.goto 4, 3) := by decide +kernel
theorem dX10_compared_53 : decode cX10_compared 53 = .ok (.iconst 0, 1) := by decide +kernel
theorem dX10_compared_54 : decode cX10_compared 54 = .ok (.istore_n 3, 1) := by decide +kernel
theorem dX10_compared_55 : decode cX10_compared 55 = .ok (.iload 4, 2) := by decide +kernel
theorem dX10_compared_57 : decode cX10_compared 57 = .ok (.ifCond .eq 31, 3) := by decide +kernel
theorem dX10_compared_60 : decode cX10_compared 60 = .ok (.aload_n 0, 1) := by decide +kernel
theorem dX10_compared_61 : decode cX10_compared 61 = .ok (.getfield 55, 3) := by decide +kernel
theorem dX10_compared_64 : decode cX10_compared 64 = .ok (.iload 5, 2) := by decide +kernel
theorem dX10_compared_66 : decode cX10_compared 66 = .ok (.laload, 1) := by decide +kernel
theorem dX10_compared_67 : decode cX10_compared 67 = .ok (.aload_n 0, 1) := by decide +kernel
theorem dX10_compared_68 : decode cX10_compared 68 = .ok (.getfield 65, 3) := by decide +kernel
theorem dX10_compared_71 : decode cX10_compared 71 = .ok (.iload 5, 2) := by decide +kernel
theorem dX10_compared_73 : decode cX10_compared 73 = .ok (.laload, 1) := by decide +kernel
theorem dX10_compared_74 : decode cX10_compared 74 = .ok (.ldc2_w 223, 3) := by decide +kernel
theorem dX10_compared_77 : decode cX10_compared 77 = .ok (.lxor, 1) := by decide +kernel
theorem dX10_compared_78 : decode cX10_compared 78 = .ok (.land, 1) := by decide +kernel
theorem dX10_compared_79 : decode cX10_compared 79 = .ok (.lconst 0, 1) := by decide +kernel
theorem dX10_compared_80 : decode cX10_compared 80 = .ok (.lcmp, 1) := by decide +kernel
theorem dX10_compared_81 : decode cX10_compared 81 = .ok (.ifCond .ne 7, 3) := by decide +kernel
theorem dX10_compared_84 : decode cX10_compared 84 = .ok (.iconst 1, 1) := by decide +kernel
theorem dX10_compared_85 : decode cX10_compared 85 = .ok (.goto 4, 3) := by decide +kernel
theorem dX10_compared_88 : decode cX10_compared 88 = .ok (.iconst 0, 1) := by decide +kernel
theorem dX10_compared_89 : decode cX10_compared 89 = .ok (.istore 4, 2) := by decide +kernel
theorem dX10_compared_91 : decode cX10_compared 91 = .ok (.iinc 5 1, 3) := by decide +kernel
theorem dX10_compared_94 : decode cX10_compared 94 = .ok (.goto (-80), 3) := by decide +kernel
theorem dX10_compared_97 : decode cX10_compared 97 = .ok (.iload_n 3, 1) := by decide +kernel
theorem dX10_compared_98 : decode cX10_compared 98 = .ok (.ifCond .eq 12, 3) := by decide +kernel
theorem dX10_compared_101 : decode cX10_compared 101 = .ok (.iload 4, 2) := by decide +kernel
theorem dX10_compared_103 : decode cX10_compared 103 = .ok (.ifCond .eq 7, 3) := by decide +kernel
theorem dX10_compared_106 : decode cX10_compared 106 = .ok (.iconst 0, 1) := by decide +kernel
theorem dX10_compared_107 : decode cX10_compared 107 = .ok (.goto 21, 3) := by decide +kernel
theorem dX10_compared_110 : decode cX10_compared 110 = .ok (.iload_n 3, 1) := by decide +kernel
theorem dX10_compared_111 : decode cX10_compared 111 = .ok (.ifCond .eq 7, 3) := by decide +kernel
theorem dX10_compared_114 : decode cX10_compared 114 = .ok (.iconst 1, 1) := by decide +kernel
theorem dX10_compared_115 : decode cX10_compared 115 = .ok (.goto 13, 3) := by decide +kernel
theorem dX10_compared_118 : decode cX10_compared 118 = .ok (.iload 4, 2) := by decide +kernel
theorem dX10_compared_120 : decode cX10_compared 120 = .ok (.ifCond .eq 7, 3) := by decide +kernel
theorem dX10_compared_123 : decode cX10_compared 123 = .ok (.iconst 2, 1) := by decide +kernel
theorem dX10_compared_124 : decode cX10_compared 124 = .ok (.goto 4, 3) := by decide +kernel
theorem dX10_compared_127 : decode cX10_compared 127 = .ok (.iconst 3, 1) := by decide +kernel
theorem dX10_compared_128 : decode cX10_compared 128 = .ok (.ireturn, 1) := by decide +kernel
theorem dX10_compare_0 : decode cX10_compare 0 = .ok (.iload_n 1, 1) := by decide +kernel
theorem dX10_compare_1 : decode cX10_compare 1 = .ok (.invokestatic 179, 3) := by decide +kernel
theorem dX10_compare_4 : decode cX10_compare 4 = .ok (.ifCond .eq 19, 3) := by decide +kernel
theorem dX10_compare_7 : decode cX10_compare 7 = .ok (.iload_n 2, 1) := by decide +kernel
theorem dX10_compare_8 : decode cX10_compare 8 = .ok (.invokestatic 179, 3) := by decide +kernel
theorem dX10_compare_11 : decode cX10_compare 11 = .ok (.ifCond .eq 12, 3) := by decide +kernel
theorem dX10_compare_14 : decode cX10_compare 14 = .ok (.aload_n 0, 1) := by decide +kernel
theorem dX10_compare_15 : decode cX10_compare 15 = .ok (.iload_n 1, 1) := by decide +kernel
theorem dX10_compare_16 : decode cX10_compare 16 = .ok (.iload_n 2, 1) := by decide +kernel
theorem dX10_compare_17 : decode cX10_compare 17 = .ok (.invokevirtual 261, 3) := by decide +kernel
theorem dX10_compare_20 : decode cX10_compare 20 = .ok (.goto 9, 3) := by decide +kernel
theorem dX10_compare_23 : decode cX10_compare 23 = .ok (.aload_n 0, 1) := by decide +kernel
theorem dX10_compare_24 : decode cX10_compare 24 = .ok (.bipush (-2), 2) := by decide +kernel
theorem dX10_compare_26 : decode cX10_compare 26 = .ok (.invokevirtual 106, 3) := by decide +kernel
theorem dX10_compare_29 : decode cX10_compare 29 = .ok (.ireturn, 1) := by decide +kernel
theorem dX10_witnessOf_0 : decode cX10_witnessOf 0 = .ok (.aload_n 0, 1) := by decide +kernel
theorem dX10_witnessOf_1 : decode cX10_witnessOf 1 = .ok (.iload_n 1, 1) := by decide +kernel
theorem dX10_witnessOf_2 : decode cX10_witnessOf 2 = .ok (.iload_n 2, 1) := by decide +kernel
theorem dX10_witnessOf_3 : decode cX10_witnessOf 3 = .ok (.invokevirtual 258, 3) := by decide +kernel
theorem dX10_witnessOf_6 : decode cX10_witnessOf 6 = .ok (.iconst 0, 1) := by decide +kernel
theorem dX10_witnessOf_7 : decode cX10_witnessOf 7 = .ok (.istore_n 3, 1) := by decide +kernel
theorem dX10_witnessOf_8 : decode cX10_witnessOf 8 = .ok (.iload_n 3, 1) := by decide +kernel
theorem dX10_witnessOf_9 : decode cX10_witnessOf 9 = .ok (.bipush 64, 2) := by decide +kernel
theorem dX10_witnessOf_11 : decode cX10_witnessOf 11 = .ok (.if_icmp .ge 25, 3) := by decide +kernel
theorem dX10_witnessOf_14 : decode cX10_witnessOf 14 = .ok (.aload_n 0, 1) := by decide +kernel
theorem dX10_witnessOf_15 : decode cX10_witnessOf 15 = .ok (.getfield 65, 3) := by decide +kernel
theorem dX10_witnessOf_18 : decode cX10_witnessOf 18 = .ok (.iload_n 3, 1) := by decide +kernel
theorem dX10_witnessOf_19 : decode cX10_witnessOf 19 = .ok (.laload, 1) := by decide +kernel
theorem dX10_witnessOf_20 : decode cX10_witnessOf 20 = .ok (.aload_n 0, 1) := by decide +kernel
theorem dX10_witnessOf_21 : decode cX10_witnessOf 21 = .ok (.getfield 55, 3) := by decide +kernel
theorem dX10_witnessOf_24 : decode cX10_witnessOf 24 = .ok (.iload_n 3, 1) := by decide +kernel
theorem dX10_witnessOf_25 : decode cX10_witnessOf 25 = .ok (.laload, 1) := by decide +kernel
theorem dX10_witnessOf_26 : decode cX10_witnessOf 26 = .ok (.lcmp, 1) := by decide +kernel
theorem dX10_witnessOf_27 : decode cX10_witnessOf 27 = .ok (.ifCond .ne 9, 3) := by decide +kernel
theorem dX10_witnessOf_30 : decode cX10_witnessOf 30 = .ok (.iinc 3 1, 3) := by decide +kernel
theorem dX10_witnessOf_33 : decode cX10_witnessOf 33 = .ok (.goto (-25), 3) := by decide +kernel
theorem dX10_witnessOf_36 : decode cX10_witnessOf 36 = .ok (.iload_n 3, 1) := by decide +kernel
theorem dX10_witnessOf_37 : decode cX10_witnessOf 37 = .ok (.bipush 64, 2) := by decide +kernel
theorem dX10_witnessOf_39 : decode cX10_witnessOf 39 = .ok (.if_icmp .ne 7, 3) := by decide +kernel
theorem dX10_witnessOf_42 : decode cX10_witnessOf 42 = .ok (.iconst (-1), 1) := by decide +kernel
theorem dX10_witnessOf_43 : decode cX10_witnessOf 43 = .ok (.goto 4, 3) := by decide +kernel
theorem dX10_witnessOf_46 : decode cX10_witnessOf 46 = .ok (.iload_n 3, 1) := by decide +kernel
theorem dX10_witnessOf_47 : decode cX10_witnessOf 47 = .ok (.ireturn, 1) := by decide +kernel
theorem dX10_witness_0 : decode cX10_witness 0 = .ok (.iload_n 1, 1) := by decide +kernel
theorem dX10_witness_1 : decode cX10_witness 1 = .ok (.invokestatic 179, 3) := by decide +kernel
theorem dX10_witness_4 : decode cX10_witness 4 = .ok (.ifCond .eq 19, 3) := by decide +kernel
theorem dX10_witness_7 : decode cX10_witness 7 = .ok (.iload_n 2, 1) := by decide +kernel
theorem dX10_witness_8 : decode cX10_witness 8 = .ok (.invokestatic 179, 3) := by decide +kernel
theorem dX10_witness_11 : decode cX10_witness 11 = .ok (.ifCond .eq 12, 3) := by decide +kernel
theorem dX10_witness_14 : decode cX10_witness 14 = .ok (.aload_n 0, 1) := by decide +kernel
theorem dX10_witness_15 : decode cX10_witness 15 = .ok (.iload_n 1, 1) := by decide +kernel
theorem dX10_witness_16 : decode cX10_witness 16 = .ok (.iload_n 2, 1) := by decide +kernel
theorem dX10_witness_17 : decode cX10_witness 17 = .ok (.invokevirtual 264, 3) := by decide +kernel
theorem dX10_witness_20 : decode cX10_witness 20 = .ok (.goto 9, 3) := by decide +kernel
theorem dX10_witness_23 : decode cX10_witness 23 = .ok (.aload_n 0, 1) := by decide +kernel
theorem dX10_witness_24 : decode cX10_witness 24 = .ok (.bipush (-2), 2) := by decide +kernel
theorem dX10_witness_26 : decode cX10_witness 26 = .ok (.invokevirtual 106, 3) := by decide +kernel
theorem dX10_witness_29 : decode cX10_witness 29 = .ok (.ireturn, 1) := by decide +kernel
theorem dX10_difference_0 : decode cX10_difference 0 = .ok (.iload_n 1, 1) := by decide +kernel
theorem dX10_difference_1 : decode cX10_difference 1 = .ok (.invokestatic 179, 3) := by decide +kernel
theorem dX10_difference_4 : decode cX10_difference 4 = .ok (.ifCond .eq 10, 3) := by decide +kernel
theorem dX10_difference_7 : decode cX10_difference 7 = .ok (.iload_n 2, 1) := by decide +kernel
theorem dX10_difference_8 : decode cX10_difference 8 = .ok (.invokestatic 179, 3) := by decide +kernel
theorem dX10_difference_11 : decode cX10_difference 11 = .ok (.ifCond .ne 10, 3) := by decide +kernel
theorem dX10_difference_14 : decode cX10_difference 14 = .ok (.aload_n 0, 1) := by decide +kernel
theorem dX10_difference_15 : decode cX10_difference 15 = .ok (.bipush (-2), 2) := by decide +kernel
theorem dX10_difference_17 : decode cX10_difference 17 = .ok (.invokevirtual 106, 3) := by decide +kernel
theorem dX10_difference_20 : decode cX10_difference 20 = .ok (.ireturn, 1) := by decide +kernel
theorem dX10_difference_21 : decode cX10_difference 21 = .ok (.aload_n 0, 1) := by decide +kernel
theorem dX10_difference_22 : decode cX10_difference 22 = .ok (.iload_n 1, 1) := by decide +kernel
theorem dX10_difference_23 : decode cX10_difference 23 = .ok (.iload_n 2, 1) := by decide +kernel
theorem dX10_difference_24 : decode cX10_difference 24 = .ok (.invokevirtual 264, 3) := by decide +kernel
theorem dX10_difference_27 : decode cX10_difference 27 = .ok (.istore_n 3, 1) := by decide +kernel
theorem dX10_difference_28 : decode cX10_difference 28 = .ok (.iconst 0, 1) := by decide +kernel
theorem dX10_difference_29 : decode cX10_difference 29 = .ok (.istore 4, 2) := by decide +kernel
theorem dX10_difference_31 : decode cX10_difference 31 = .ok (.iload_n 3, 1) := by decide +kernel
theorem dX10_difference_32 : decode cX10_difference 32 = .ok (.iconst (-1), 1) := by decide +kernel
theorem dX10_difference_33 : decode cX10_difference 33 = .ok (.if_icmp .eq 32, 3) := by decide +kernel
theorem dX10_difference_36 : decode cX10_difference 36 = .ok (.aload_n 0, 1) := by decide +kernel
theorem dX10_difference_37 : decode cX10_difference 37 = .ok (.getfield 65, 3) := by decide +kernel
theorem dX10_difference_40 : decode cX10_difference 40 = .ok (.iload_n 3, 1) := by decide +kernel
theorem dX10_difference_41 : decode cX10_difference 41 = .ok (.laload, 1) := by decide +kernel
theorem dX10_difference_42 : decode cX10_difference 42 = .ok (.aload_n 0, 1) := by decide +kernel
theorem dX10_difference_43 : decode cX10_difference 43 = .ok (.getfield 55, 3) := by decide +kernel
theorem dX10_difference_46 : decode cX10_difference 46 = .ok (.iload_n 3, 1) := by decide +kernel
theorem dX10_difference_47 : decode cX10_difference 47 = .ok (.laload, 1) := by decide +kernel
theorem dX10_difference_48 : decode cX10_difference 48 = .ok (.lxor, 1) := by decide +kernel
theorem dX10_difference_49 : decode cX10_difference 49 = .ok (.iload 4, 2) := by decide +kernel
theorem dX10_difference_51 : decode cX10_difference 51 = .ok (.lshr, 1) := by decide +kernel
theorem dX10_difference_52 : decode cX10_difference 52 = .ok (.lconst 1, 1) := by decide +kernel
theorem dX10_difference_53 : decode cX10_difference 53 = .ok (.land, 1) := by decide +kernel
theorem dX10_difference_54 : decode cX10_difference 54 = .ok (.lconst 0, 1) := by decide +kernel
theorem dX10_difference_55 : decode cX10_difference 55 = .ok (.lcmp, 1) := by decide +kernel
theorem dX10_difference_56 : decode cX10_difference 56 = .ok (.ifCond .ne 9, 3) := by decide +kernel
theorem dX10_difference_59 : decode cX10_difference 59 = .ok (.iinc 4 1, 3) := by decide +kernel
theorem dX10_difference_62 : decode cX10_difference 62 = .ok (.goto (-31), 3) := by decide +kernel
theorem dX10_difference_65 : decode cX10_difference 65 = .ok (.iload_n 3, 1) := by decide +kernel
theorem dX10_difference_66 : decode cX10_difference 66 = .ok (.iconst (-1), 1) := by decide +kernel
theorem dX10_difference_67 : decode cX10_difference 67 = .ok (.if_icmp .ne 7, 3) := by decide +kernel
theorem dX10_difference_70 : decode cX10_difference 70 = .ok (.iconst (-1), 1) := by decide +kernel
theorem dX10_difference_71 : decode cX10_difference 71 = .ok (.goto 5, 3) := by decide +kernel
theorem dX10_difference_74 : decode cX10_difference 74 = .ok (.iload 4, 2) := by decide +kernel
theorem dX10_difference_76 : decode cX10_difference 76 = .ok (.ireturn, 1) := by decide +kernel
theorem dX10_actionOf_0 : decode cX10_actionOf 0 = .ok (.iconst 0, 1) := by decide +kernel
theorem dX10_actionOf_1 : decode cX10_actionOf 1 = .ok (.istore_n 2, 1) := by decide +kernel
theorem dX10_actionOf_2 : decode cX10_actionOf 2 = .ok (.iconst 0, 1) := by decide +kernel
theorem dX10_actionOf_3 : decode cX10_actionOf 3 = .ok (.istore_n 3, 1) := by decide +kernel
theorem dX10_actionOf_4 : decode cX10_actionOf 4 = .ok (.iload_n 3, 1) := by decide +kernel
theorem dX10_actionOf_5 : decode cX10_actionOf 5 = .ok (.iconst 3, 1) := by decide +kernel
theorem dX10_actionOf_6 : decode cX10_actionOf 6 = .ok (.if_icmp .ge 36, 3) := by decide +kernel
theorem dX10_actionOf_9 : decode cX10_actionOf 9 = .ok (.iconst 5, 1) := by decide +kernel
theorem dX10_actionOf_10 : decode cX10_actionOf 10 = .ok (.iload_n 2, 1) := by decide +kernel
theorem dX10_actionOf_11 : decode cX10_actionOf 11 = .ok (.imul, 1) := by decide +kernel
theorem dX10_actionOf_12 : decode cX10_actionOf 12 = .ok (.iload_n 0, 1) := by decide +kernel
theorem dX10_actionOf_13 : decode cX10_actionOf 13 = .ok (.iload_n 3, 1) := by decide +kernel
theorem dX10_actionOf_14 : decode cX10_actionOf 14 = .ok (.invokestatic 216, 3) := by decide +kernel
theorem dX10_actionOf_17 : decode cX10_actionOf 17 = .ok (.iload_n 1, 1) := by decide +kernel
theorem dX10_actionOf_18 : decode cX10_actionOf 18 = .ok (.iload_n 3, 1) := by decide +kernel
theorem dX10_actionOf_19 : decode cX10_actionOf 19 = .ok (.invokestatic 216, 3) := by decide +kernel
theorem dX10_actionOf_22 : decode cX10_actionOf 22 = .ok (.if_icmp .ne 7, 3) := by decide +kernel
theorem dX10_actionOf_25 : decode cX10_actionOf 25 = .ok (.iconst 4, 1) := by decide +kernel
theorem dX10_actionOf_26 : decode cX10_actionOf 26 = .ok (.goto 8, 3) := by decide +kernel
theorem dX10_actionOf_29 : decode cX10_actionOf 29 = .ok (.iload_n 1, 1) := by decide +kernel
theorem dX10_actionOf_30 : decode cX10_actionOf 30 = .ok (.iload_n 3, 1) := by decide +kernel
theorem dX10_actionOf_31 : decode cX10_actionOf 31 = .ok (.invokestatic 216, 3) := by decide +kernel
theorem dX10_actionOf_34 : decode cX10_actionOf 34 = .ok (.iadd, 1) := by decide +kernel
theorem dX10_actionOf_35 : decode cX10_actionOf 35 = .ok (.istore_n 2, 1) := by decide +kernel
theorem dX10_actionOf_36 : decode cX10_actionOf 36 = .ok (.iinc 3 1, 3) := by decide +kernel
theorem dX10_actionOf_39 : decode cX10_actionOf 39 = .ok (.goto (-35), 3) := by decide +kernel
theorem dX10_actionOf_42 : decode cX10_actionOf 42 = .ok (.iload_n 2, 1) := by decide +kernel
theorem dX10_actionOf_43 : decode cX10_actionOf 43 = .ok (.ireturn, 1) := by decide +kernel
theorem dX10_leafOf_0 : decode cX10_leafOf 0 = .ok (.lconst 0, 1) := by decide +kernel
theorem dX10_leafOf_1 : decode cX10_leafOf 1 = .ok (.lstore_n 2, 1) := by decide +kernel
theorem dX10_leafOf_2 : decode cX10_leafOf 2 = .ok (.lconst 0, 1) := by decide +kernel
theorem dX10_leafOf_3 : decode cX10_leafOf 3 = .ok (.lstore 4, 2) := by decide +kernel
theorem dX10_leafOf_5 : decode cX10_leafOf 5 = .ok (.iconst 0, 1) := by decide +kernel
theorem dX10_leafOf_6 : decode cX10_leafOf 6 = .ok (.istore 6, 2) := by decide +kernel
theorem dX10_leafOf_8 : decode cX10_leafOf 8 = .ok (.iload 6, 2) := by decide +kernel
theorem dX10_leafOf_10 : decode cX10_leafOf 10 = .ok (.bipush 64, 2) := by decide +kernel
theorem dX10_leafOf_12 : decode cX10_leafOf 12 = .ok (.if_icmp .ge 74, 3) := by decide +kernel
theorem dX10_leafOf_15 : decode cX10_leafOf 15 = .ok (.aload_n 0, 1) := by decide +kernel
theorem dX10_leafOf_16 : decode cX10_leafOf 16 = .ok (.getfield 55, 3) := by decide +kernel
theorem dX10_leafOf_19 : decode cX10_leafOf 19 = .ok (.iload_n 1, 1) := by decide +kernel
theorem dX10_leafOf_20 : decode cX10_leafOf 20 = .ok (.laload, 1) := by decide +kernel
theorem dX10_leafOf_21 : decode cX10_leafOf 21 = .ok (.iload 6, 2) := by decide +kernel
theorem dX10_leafOf_23 : decode cX10_leafOf 23 = .ok (.lshr, 1) := by decide +kernel
theorem dX10_leafOf_24 : decode cX10_leafOf 24 = .ok (.lconst 1, 1) := by decide +kernel
theorem dX10_leafOf_25 : decode cX10_leafOf 25 = .ok (.land, 1) := by decide +kernel
theorem dX10_leafOf_26 : decode cX10_leafOf 26 = .ok (.lconst 1, 1) := by decide +kernel
theorem dX10_leafOf_27 : decode cX10_leafOf 27 = .ok (.lcmp, 1) := by decide +kernel
theorem dX10_leafOf_28 : decode cX10_leafOf 28 = .ok (.ifCond .ne 52, 3) := by decide +kernel
theorem dX10_leafOf_31 : decode cX10_leafOf 31 = .ok (.iload_n 1, 1) := by decide +kernel
theorem dX10_leafOf_32 : decode cX10_leafOf 32 = .ok (.iload 6, 2) := by decide +kernel
theorem dX10_leafOf_34 : decode cX10_leafOf 34 = .ok (.invokestatic 267, 3) := by decide +kernel
theorem dX10_leafOf_37 : decode cX10_leafOf 37 = .ok (.istore 7, 2) := by decide +kernel
theorem dX10_leafOf_39 : decode cX10_leafOf 39 = .ok (.lload_n 2, 1) := by decide +kernel
theorem dX10_leafOf_40 : decode cX10_leafOf 40 = .ok (.iload 7, 2) := by decide +kernel
theorem dX10_leafOf_42 : decode cX10_leafOf 42 = .ok (.bipush 64, 2) := by decide +kernel
theorem dX10_leafOf_44 : decode cX10_leafOf 44 = .ok (.if_icmp .ge 10, 3) := by decide +kernel
theorem dX10_leafOf_47 : decode cX10_leafOf 47 = .ok (.lconst 1, 1) := by decide +kernel
theorem dX10_leafOf_48 : decode cX10_leafOf 48 = .ok (.iload 7, 2) := by decide +kernel
theorem dX10_leafOf_50 : decode cX10_leafOf 50 = .ok (.lshl, 1) := by decide +kernel
theorem dX10_leafOf_51 : decode cX10_leafOf 51 = .ok (.goto 4, 3) := by decide +kernel
theorem dX10_leafOf_54 : decode cX10_leafOf 54 = .ok (.lconst 0, 1) := by decide +kernel
theorem dX10_leafOf_55 : decode cX10_leafOf 55 = .ok (.lor, 1) := by decide +kernel
theorem dX10_leafOf_56 : decode cX10_leafOf 56 = .ok (.lstore_n 2, 1) := by decide +kernel
theorem dX10_leafOf_57 : decode cX10_leafOf 57 = .ok (.lload 4, 2) := by decide +kernel
theorem dX10_leafOf_59 : decode cX10_leafOf 59 = .ok (.iload 7, 2) := by decide +kernel
theorem dX10_leafOf_61 : decode cX10_leafOf 61 = .ok (.bipush 64, 2) := by decide +kernel
theorem dX10_leafOf_63 : decode cX10_leafOf 63 = .ok (.if_icmp .ge 7, 3) := by decide +kernel
theorem dX10_leafOf_66 : decode cX10_leafOf 66 = .ok (.lconst 0, 1) := by decide +kernel
theorem dX10_leafOf_67 : decode cX10_leafOf 67 = .ok (.goto 10, 3) := by decide +kernel
theorem dX10_leafOf_70 : decode cX10_leafOf 70 = .ok (.lconst 1, 1) := by decide +kernel
theorem dX10_leafOf_71 : decode cX10_leafOf 71 = .ok (.iload 7, 2) := by decide +kernel
theorem dX10_leafOf_73 : decode cX10_leafOf 73 = .ok (.bipush 64, 2) := by decide +kernel
theorem dX10_leafOf_75 : decode cX10_leafOf 75 = .ok (.isub, 1) := by decide +kernel
theorem dX10_leafOf_76 : decode cX10_leafOf 76 = .ok (.lshl, 1) := by decide +kernel
theorem dX10_leafOf_77 : decode cX10_leafOf 77 = .ok (.lor, 1) := by decide +kernel
theorem dX10_leafOf_78 : decode cX10_leafOf 78 = .ok (.lstore 4, 2) := by decide +kernel
theorem dX10_leafOf_80 : decode cX10_leafOf 80 = .ok (.iinc 6 1, 3) := by decide +kernel
theorem dX10_leafOf_83 : decode cX10_leafOf 83 = .ok (.goto (-75), 3) := by decide +kernel
theorem dX10_leafOf_86 : decode cX10_leafOf 86 = .ok (.iconst 0, 1) := by decide +kernel
theorem dX10_leafOf_87 : decode cX10_leafOf 87 = .ok (.istore 6, 2) := by decide +kernel
theorem dX10_leafOf_89 : decode cX10_leafOf 89 = .ok (.iload 6, 2) := by decide +kernel
theorem dX10_leafOf_91 : decode cX10_leafOf 91 = .ok (.aload_n 0, 1) := by decide +kernel
theorem dX10_leafOf_92 : decode cX10_leafOf 92 = .ok (.getfield 270, 3) := by decide +kernel
theorem dX10_leafOf_95 : decode cX10_leafOf 95 = .ok (.if_icmp .ge 34, 3) := by decide +kernel
theorem dX10_leafOf_98 : decode cX10_leafOf 98 = .ok (.aload_n 0, 1) := by decide +kernel
theorem dX10_leafOf_99 : decode cX10_leafOf 99 = .ok (.getfield 68, 3) := by decide +kernel
theorem dX10_leafOf_102 : decode cX10_leafOf 102 = .ok (.iload 6, 2) := by decide +kernel
theorem dX10_leafOf_104 : decode cX10_leafOf 104 = .ok (.laload, 1) := by decide +kernel
theorem dX10_leafOf_105 : decode cX10_leafOf 105 = .ok (.lload_n 2, 1) := by decide +kernel
theorem dX10_leafOf_106 : decode cX10_leafOf 106 = .ok (.lcmp, 1) := by decide +kernel
theorem dX10_leafOf_107 : decode cX10_leafOf 107 = .ok (.ifCond .ne 16, 3) := by decide +kernel
theorem dX10_leafOf_110 : decode cX10_leafOf 110 = .ok (.aload_n 0, 1) := by decide +kernel
theorem dX10_leafOf_111 : decode cX10_leafOf 111 = .ok (.getfield 71, 3) := by decide +kernel
theorem dX10_leafOf_114 : decode cX10_leafOf 114 = .ok (.iload 6, 2) := by decide +kernel
theorem dX10_leafOf_116 : decode cX10_leafOf 116 = .ok (.laload, 1) := by decide +kernel
theorem dX10_leafOf_117 : decode cX10_leafOf 117 = .ok (.lload 4, 2) := by decide +kernel
theorem dX10_leafOf_119 : decode cX10_leafOf 119 = .ok (.lcmp, 1) := by decide +kernel
theorem dX10_leafOf_120 : decode cX10_leafOf 120 = .ok (.ifCond .eq 9, 3) := by decide +kernel
theorem dX10_leafOf_123 : decode cX10_leafOf 123 = .ok (.iinc 6 1, 3) := by decide +kernel
theorem dX10_leafOf_126 : decode cX10_leafOf 126 = .ok (.goto (-37), 3) := by decide +kernel
theorem dX10_leafOf_129 : decode cX10_leafOf 129 = .ok (.aload_n 0, 1) := by decide +kernel
theorem dX10_leafOf_130 : decode cX10_leafOf 130 = .ok (.getfield 68, 3) := by decide +kernel
theorem dX10_leafOf_133 : decode cX10_leafOf 133 = .ok (.iload 6, 2) := by decide +kernel
theorem dX10_leafOf_135 : decode cX10_leafOf 135 = .ok (.lload_n 2, 1) := by decide +kernel
theorem dX10_leafOf_136 : decode cX10_leafOf 136 = .ok (.lastore, 1) := by decide +kernel
theorem dX10_leafOf_137 : decode cX10_leafOf 137 = .ok (.aload_n 0, 1) := by decide +kernel
theorem dX10_leafOf_138 : decode cX10_leafOf 138 = .ok (.getfield 71, 3) := by decide +kernel
theorem dX10_leafOf_141 : decode cX10_leafOf 141 = .ok (.iload 6, 2) := by decide +kernel
theorem dX10_leafOf_143 : decode cX10_leafOf 143 = .ok (.lload 4, 2) := by decide +kernel
theorem dX10_leafOf_145 : decode cX10_leafOf 145 = .ok (.lastore, 1) := by decide +kernel
theorem dX10_leafOf_146 : decode cX10_leafOf 146 = .ok (.aload_n 0, 1) := by decide +kernel
theorem dX10_leafOf_147 : decode cX10_leafOf 147 = .ok (.iload 6, 2) := by decide +kernel
theorem dX10_leafOf_149 : decode cX10_leafOf 149 = .ok (.aload_n 0, 1) := by decide +kernel
theorem dX10_leafOf_150 : decode cX10_leafOf 150 = .ok (.getfield 270, 3) := by decide +kernel
theorem dX10_leafOf_153 : decode cX10_leafOf 153 = .ok (.if_icmp .ne 10, 3) := by decide +kernel
theorem dX10_leafOf_156 : decode cX10_leafOf 156 = .ok (.iload 6, 2) := by decide +kernel
theorem dX10_leafOf_158 : decode cX10_leafOf 158 = .ok (.iconst 1, 1) := by decide +kernel
theorem dX10_leafOf_159 : decode cX10_leafOf 159 = .ok (.iadd, 1) := by decide +kernel
theorem dX10_leafOf_160 : decode cX10_leafOf 160 = .ok (.goto 7, 3) := by decide +kernel
theorem dX10_leafOf_163 : decode cX10_leafOf 163 = .ok (.aload_n 0, 1) := by decide +kernel
theorem dX10_leafOf_164 : decode cX10_leafOf 164 = .ok (.getfield 270, 3) := by decide +kernel
theorem dX10_leafOf_167 : decode cX10_leafOf 167 = .ok (.putfield 270, 3) := by decide +kernel
theorem dX10_leafOf_170 : decode cX10_leafOf 170 = .ok (.iload 6, 2) := by decide +kernel
theorem dX10_leafOf_172 : decode cX10_leafOf 172 = .ok (.ireturn, 1) := by decide +kernel
theorem dX10_nodeOver_0 : decode cX10_nodeOver 0 = .ok (.iconst 1, 1) := by decide +kernel
theorem dX10_nodeOver_1 : decode cX10_nodeOver 1 = .ok (.istore_n 3, 1) := by decide +kernel
theorem dX10_nodeOver_2 : decode cX10_nodeOver 2 = .ok (.iconst 1, 1) := by decide +kernel
theorem dX10_nodeOver_3 : decode cX10_nodeOver 3 = .ok (.istore 4, 2) := by decide +kernel
theorem dX10_nodeOver_5 : decode cX10_nodeOver 5 = .ok (.iload 4, 2) := by decide +kernel
theorem dX10_nodeOver_7 : decode cX10_nodeOver 7 = .ok (.iconst 4, 1) := by decide +kernel
theorem dX10_nodeOver_8 : decode cX10_nodeOver 8 = .ok (.if_icmp .ge 37, 3) := by decide +kernel
theorem dX10_nodeOver_11 : decode cX10_nodeOver 11 = .ok (.iload_n 3, 1) := by decide +kernel
theorem dX10_nodeOver_12 : decode cX10_nodeOver 12 = .ok (.ifCond .eq 25, 3) := by decide +kernel
theorem dX10_nodeOver_15 : decode cX10_nodeOver 15 = .ok (.aload_n 0, 1) := by decide +kernel
theorem dX10_nodeOver_16 : decode cX10_nodeOver 16 = .ok (.getfield 83, 3) := by decide +kernel
theorem dX10_nodeOver_19 : decode cX10_nodeOver 19 = .ok (.iload_n 2, 1) := by decide +kernel
theorem dX10_nodeOver_20 : decode cX10_nodeOver 20 = .ok (.iload 4, 2) := by decide +kernel
theorem dX10_nodeOver_22 : decode cX10_nodeOver 22 = .ok (.iadd, 1) := by decide +kernel
theorem dX10_nodeOver_23 : decode cX10_nodeOver 23 = .ok (.iaload, 1) := by decide +kernel
theorem dX10_nodeOver_24 : decode cX10_nodeOver 24 = .ok (.aload_n 0, 1) := by decide +kernel
theorem dX10_nodeOver_25 : decode cX10_nodeOver 25 = .ok (.getfield 83, 3) := by decide +kernel
theorem dX10_nodeOver_28 : decode cX10_nodeOver 28 = .ok (.iload_n 2, 1) := by decide +kernel
theorem dX10_nodeOver_29 : decode cX10_nodeOver 29 = .ok (.iaload, 1) := by decide +kernel
theorem dX10_nodeOver_30 : decode cX10_nodeOver 30 = .ok (.if_icmp .ne 7, 3) := by decide +kernel
theorem dX10_nodeOver_33 : decode cX10_nodeOver 33 = .ok (.iconst 1, 1) := by decide +kernel
theorem dX10_nodeOver_34 : decode cX10_nodeOver 34 = .ok (.goto 4, 3) := by decide +kernel
theorem dX10_nodeOver_37 : decode cX10_nodeOver 37 = .ok (.iconst 0, 1) := by decide +kernel
theorem dX10_nodeOver_38 : decode cX10_nodeOver 38 = .ok (.istore_n 3, 1) := by decide +kernel
theorem dX10_nodeOver_39 : decode cX10_nodeOver 39 = .ok (.iinc 4 1, 3) := by decide +kernel
theorem dX10_nodeOver_42 : decode cX10_nodeOver 42 = .ok (.goto (-37), 3) := by decide +kernel
theorem dX10_nodeOver_45 : decode cX10_nodeOver 45 = .ok (.iload_n 3, 1) := by decide +kernel
theorem dX10_nodeOver_46 : decode cX10_nodeOver 46 = .ok (.ifCond .eq 10, 3) := by decide +kernel
theorem dX10_nodeOver_49 : decode cX10_nodeOver 49 = .ok (.aload_n 0, 1) := by decide +kernel
theorem dX10_nodeOver_50 : decode cX10_nodeOver 50 = .ok (.getfield 83, 3) := by decide +kernel
theorem dX10_nodeOver_53 : decode cX10_nodeOver 53 = .ok (.iload_n 2, 1) := by decide +kernel
theorem dX10_nodeOver_54 : decode cX10_nodeOver 54 = .ok (.iaload, 1) := by decide +kernel
theorem dX10_nodeOver_55 : decode cX10_nodeOver 55 = .ok (.ireturn, 1) := by decide +kernel
theorem dX10_nodeOver_56 : decode cX10_nodeOver 56 = .ok (.iconst 0, 1) := by decide +kernel
theorem dX10_nodeOver_57 : decode cX10_nodeOver 57 = .ok (.istore 4, 2) := by decide +kernel
theorem dX10_nodeOver_59 : decode cX10_nodeOver 59 = .ok (.iload 4, 2) := by decide +kernel
theorem dX10_nodeOver_61 : decode cX10_nodeOver 61 = .ok (.aload_n 0, 1) := by decide +kernel
theorem dX10_nodeOver_62 : decode cX10_nodeOver 62 = .ok (.getfield 273, 3) := by decide +kernel
theorem dX10_nodeOver_65 : decode cX10_nodeOver 65 = .ok (.if_icmp .ge 20, 3) := by decide +kernel
theorem dX10_nodeOver_68 : decode cX10_nodeOver 68 = .ok (.aload_n 0, 1) := by decide +kernel
theorem dX10_nodeOver_69 : decode cX10_nodeOver 69 = .ok (.iload 4, 2) := by decide +kernel
theorem dX10_nodeOver_71 : decode cX10_nodeOver 71 = .ok (.iload_n 1, 1) := by decide +kernel
theorem dX10_nodeOver_72 : decode cX10_nodeOver 72 = .ok (.iload_n 2, 1) := by decide +kernel
theorem dX10_nodeOver_73 : decode cX10_nodeOver 73 = .ok (.invokevirtual 276, 3) := by decide +kernel
theorem dX10_nodeOver_76 : decode cX10_nodeOver 76 = .ok (.ifCond .ne 9, 3) := by decide +kernel
theorem dX10_nodeOver_79 : decode cX10_nodeOver 79 = .ok (.iinc 4 1, 3) := by decide +kernel
theorem dX10_nodeOver_82 : decode cX10_nodeOver 82 = .ok (.goto (-23), 3) := by decide +kernel
theorem dX10_nodeOver_85 : decode cX10_nodeOver 85 = .ok (.aload_n 0, 1) := by decide +kernel
theorem dX10_nodeOver_86 : decode cX10_nodeOver 86 = .ok (.getfield 74, 3) := by decide +kernel
theorem dX10_nodeOver_89 : decode cX10_nodeOver 89 = .ok (.iload 4, 2) := by decide +kernel
theorem dX10_nodeOver_91 : decode cX10_nodeOver 91 = .ok (.iload_n 1, 1) := by decide +kernel
theorem dX10_nodeOver_92 : decode cX10_nodeOver 92 = .ok (.iastore, 1) := by decide +kernel
theorem dX10_nodeOver_93 : decode cX10_nodeOver 93 = .ok (.iconst 0, 1) := by decide +kernel
theorem dX10_nodeOver_94 : decode cX10_nodeOver 94 = .ok (.istore 5, 2) := by decide +kernel
theorem dX10_nodeOver_96 : decode cX10_nodeOver 96 = .ok (.iload 5, 2) := by decide +kernel
theorem dX10_nodeOver_98 : decode cX10_nodeOver 98 = .ok (.iconst 4, 1) := by decide +kernel
theorem dX10_nodeOver_99 : decode cX10_nodeOver 99 = .ok (.if_icmp .ge 30, 3) := by decide +kernel
theorem dX10_nodeOver_102 : decode cX10_nodeOver 102 = .ok (.aload_n 0, 1) := by decide +kernel
theorem dX10_nodeOver_103 : decode cX10_nodeOver 103 = .ok (.getfield 77, 3) := by decide +kernel
theorem dX10_nodeOver_106 : decode cX10_nodeOver 106 = .ok (.iconst 4, 1) := by decide +kernel
theorem dX10_nodeOver_107 : decode cX10_nodeOver 107 = .ok (.iload 4, 2) := by decide +kernel
theorem dX10_nodeOver_109 : decode cX10_nodeOver 109 = .ok (.imul, 1) := by decide +kernel
theorem dX10_nodeOver_110 : decode cX10_nodeOver 110 = .ok (.iload 5, 2) := by decide +kernel
theorem dX10_nodeOver_112 : decode cX10_nodeOver 112 = .ok (.iadd, 1) := by decide +kernel
theorem dX10_nodeOver_113 : decode cX10_nodeOver 113 = .ok (.aload_n 0, 1) := by decide +kernel
theorem dX10_nodeOver_114 : decode cX10_nodeOver 114 = .ok (.getfield 83, 3) := by decide +kernel
theorem dX10_nodeOver_117 : decode cX10_nodeOver 117 = .ok (.iload_n 2, 1) := by decide +kernel
theorem dX10_nodeOver_118 : decode cX10_nodeOver 118 = .ok (.iload 5, 2) := by decide +kernel
theorem dX10_nodeOver_120 : decode cX10_nodeOver 120 = .ok (.iadd, 1) := by decide +kernel
theorem dX10_nodeOver_121 : decode cX10_nodeOver 121 = .ok (.iaload, 1) := by decide +kernel
theorem dX10_nodeOver_122 : decode cX10_nodeOver 122 = .ok (.iastore, 1) := by decide +kernel
theorem dX10_nodeOver_123 : decode cX10_nodeOver 123 = .ok (.iinc 5 1, 3) := by decide +kernel
theorem dX10_nodeOver_126 : decode cX10_nodeOver 126 = .ok (.goto (-30), 3) := by decide +kernel
theorem dX10_nodeOver_129 : decode cX10_nodeOver 129 = .ok (.aload_n 0, 1) := by decide +kernel
theorem dX10_nodeOver_130 : decode cX10_nodeOver 130 = .ok (.iload 4, 2) := by decide +kernel
theorem dX10_nodeOver_132 : decode cX10_nodeOver 132 = .ok (.aload_n 0, 1) := by decide +kernel
theorem dX10_nodeOver_133 : decode cX10_nodeOver 133 = .ok (.getfield 273, 3) := by decide +kernel
theorem dX10_nodeOver_136 : decode cX10_nodeOver 136 = .ok (.if_icmp .ne 10, 3) := by decide +kernel
theorem dX10_nodeOver_139 : decode cX10_nodeOver 139 = .ok (.iload 4, 2) := by decide +kernel
theorem dX10_nodeOver_141 : decode cX10_nodeOver 141 = .ok (.iconst 1, 1) := by decide +kernel
theorem dX10_nodeOver_142 : decode cX10_nodeOver 142 = .ok (.iadd, 1) := by decide +kernel
theorem dX10_nodeOver_143 : decode cX10_nodeOver 143 = .ok (.goto 7, 3) := by decide +kernel
theorem dX10_nodeOver_146 : decode cX10_nodeOver 146 = .ok (.aload_n 0, 1) := by decide +kernel
theorem dX10_nodeOver_147 : decode cX10_nodeOver 147 = .ok (.getfield 273, 3) := by decide +kernel
theorem dX10_nodeOver_150 : decode cX10_nodeOver 150 = .ok (.putfield 273, 3) := by decide +kernel
theorem dX10_nodeOver_153 : decode cX10_nodeOver 153 = .ok (.sipush 128, 3) := by decide +kernel
theorem dX10_nodeOver_156 : decode cX10_nodeOver 156 = .ok (.iload 4, 2) := by decide +kernel
theorem dX10_nodeOver_158 : decode cX10_nodeOver 158 = .ok (.iadd, 1) := by decide +kernel
theorem dX10_nodeOver_159 : decode cX10_nodeOver 159 = .ok (.ireturn, 1) := by decide +kernel
theorem dX10_isTest_0 : decode cX10_isTest 0 = .ok (.aload_n 0, 1) := by decide +kernel
theorem dX10_isTest_1 : decode cX10_isTest 1 = .ok (.getfield 74, 3) := by decide +kernel
theorem dX10_isTest_4 : decode cX10_isTest 4 = .ok (.iload_n 1, 1) := by decide +kernel
theorem dX10_isTest_5 : decode cX10_isTest 5 = .ok (.iaload, 1) := by decide +kernel
theorem dX10_isTest_6 : decode cX10_isTest 6 = .ok (.iload_n 2, 1) := by decide +kernel
theorem dX10_isTest_7 : decode cX10_isTest 7 = .ok (.if_icmp .ne 7, 3) := by decide +kernel
theorem dX10_isTest_10 : decode cX10_isTest 10 = .ok (.iconst 1, 1) := by decide +kernel
theorem dX10_isTest_11 : decode cX10_isTest 11 = .ok (.goto 4, 3) := by decide +kernel
theorem dX10_isTest_14 : decode cX10_isTest 14 = .ok (.iconst 0, 1) := by decide +kernel
theorem dX10_isTest_15 : decode cX10_isTest 15 = .ok (.istore 4, 2) := by decide +kernel
theorem dX10_isTest_17 : decode cX10_isTest 17 = .ok (.iconst 0, 1) := by decide +kernel
theorem dX10_isTest_18 : decode cX10_isTest 18 = .ok (.istore 5, 2) := by decide +kernel
theorem dX10_isTest_20 : decode cX10_isTest 20 = .ok (.iload 5, 2) := by decide +kernel
theorem dX10_isTest_22 : decode cX10_isTest 22 = .ok (.iconst 4, 1) := by decide +kernel
theorem dX10_isTest_23 : decode cX10_isTest 23 = .ok (.if_icmp .ge 44, 3) := by decide +kernel
theorem dX10_isTest_26 : decode cX10_isTest 26 = .ok (.iload 4, 2) := by decide +kernel
theorem dX10_isTest_28 : decode cX10_isTest 28 = .ok (.ifCond .eq 30, 3) := by decide +kernel
theorem dX10_isTest_31 : decode cX10_isTest 31 = .ok (.aload_n 0, 1) := by decide +kernel
theorem dX10_isTest_32 : decode cX10_isTest 32 = .ok (.getfield 77, 3) := by decide +kernel
theorem dX10_isTest_35 : decode cX10_isTest 35 = .ok (.iconst 4, 1) := by decide +kernel
theorem dX10_isTest_36 : decode cX10_isTest 36 = .ok (.iload_n 1, 1) := by decide +kernel
theorem dX10_isTest_37 : decode cX10_isTest 37 = .ok (.imul, 1) := by decide +kernel
theorem dX10_isTest_38 : decode cX10_isTest 38 = .ok (.iload 5, 2) := by decide +kernel
theorem dX10_isTest_40 : decode cX10_isTest 40 = .ok (.iadd, 1) := by decide +kernel
theorem dX10_isTest_41 : decode cX10_isTest 41 = .ok (.iaload, 1) := by decide +kernel
theorem dX10_isTest_42 : decode cX10_isTest 42 = .ok (.aload_n 0, 1) := by decide +kernel
theorem dX10_isTest_43 : decode cX10_isTest 43 = .ok (.getfield 83, 3) := by decide +kernel
theorem dX10_isTest_46 : decode cX10_isTest 46 = .ok (.iload_n 3, 1) := by decide +kernel
theorem dX10_isTest_47 : decode cX10_isTest 47 = .ok (.iload 5, 2) := by decide +kernel
theorem dX10_isTest_49 : decode cX10_isTest 49 = .ok (.iadd, 1) := by decide +kernel
theorem dX10_isTest_50 : decode cX10_isTest 50 = .ok (.iaload, 1) := by decide +kernel
theorem dX10_isTest_51 : decode cX10_isTest 51 = .ok (.if_icmp .ne 7, 3) := by decide +kernel
theorem dX10_isTest_54 : decode cX10_isTest 54 = .ok (.iconst 1, 1) := by decide +kernel
theorem dX10_isTest_55 : decode cX10_isTest 55 = .ok (.goto 4, 3) := by decide +kernel
theorem dX10_isTest_58 : decode cX10_isTest 58 = .ok (.iconst 0, 1) := by decide +kernel
theorem dX10_isTest_59 : decode cX10_isTest 59 = .ok (.istore 4, 2) := by decide +kernel
theorem dX10_isTest_61 : decode cX10_isTest 61 = .ok (.iinc 5 1, 3) := by decide +kernel
theorem dX10_isTest_64 : decode cX10_isTest 64 = .ok (.goto (-44), 3) := by decide +kernel
theorem dX10_isTest_67 : decode cX10_isTest 67 = .ok (.iload 4, 2) := by decide +kernel
theorem dX10_isTest_69 : decode cX10_isTest 69 = .ok (.ireturn, 1) := by decide +kernel
theorem dX10_draws_0 : decode cX10_draws 0 = .ok (.aload_n 0, 1) := by decide +kernel
theorem dX10_draws_1 : decode cX10_draws 1 = .ok (.iload_n 1, 1) := by decide +kernel
theorem dX10_draws_2 : decode cX10_draws 2 = .ok (.invokevirtual 235, 3) := by decide +kernel
theorem dX10_draws_5 : decode cX10_draws 5 = .ok (.iconst 0, 1) := by decide +kernel
theorem dX10_draws_6 : decode cX10_draws 6 = .ok (.istore_n 3, 1) := by decide +kernel
theorem dX10_draws_7 : decode cX10_draws 7 = .ok (.iload_n 3, 1) := by decide +kernel
theorem dX10_draws_8 : decode cX10_draws 8 = .ok (.bipush 64, 2) := by decide +kernel
theorem dX10_draws_10 : decode cX10_draws 10 = .ok (.if_icmp .ge 35, 3) := by decide +kernel
theorem dX10_draws_13 : decode cX10_draws 13 = .ok (.aload_n 0, 1) := by decide +kernel
theorem dX10_draws_14 : decode cX10_draws 14 = .ok (.getfield 83, 3) := by decide +kernel
theorem dX10_draws_17 : decode cX10_draws 17 = .ok (.iload_n 3, 1) := by decide +kernel
theorem dX10_draws_18 : decode cX10_draws 18 = .ok (.aload_n 0, 1) := by decide +kernel
theorem dX10_draws_19 : decode cX10_draws 19 = .ok (.iload_n 3, 1) := by decide +kernel
theorem dX10_draws_20 : decode cX10_draws 20 = .ok (.invokevirtual 279, 3) := by decide +kernel
theorem dX10_draws_23 : decode cX10_draws 23 = .ok (.iastore, 1) := by decide +kernel
theorem dX10_draws_24 : decode cX10_draws 24 = .ok (.aload_n 0, 1) := by decide +kernel
theorem dX10_draws_25 : decode cX10_draws 25 = .ok (.getfield 80, 3) := by decide +kernel
theorem dX10_draws_28 : decode cX10_draws 28 = .ok (.aload_n 0, 1) := by decide +kernel
theorem dX10_draws_29 : decode cX10_draws 29 = .ok (.getfield 83, 3) := by decide +kernel
theorem dX10_draws_32 : decode cX10_draws 32 = .ok (.iload_n 3, 1) := by decide +kernel
theorem dX10_draws_33 : decode cX10_draws 33 = .ok (.iaload, 1) := by decide +kernel
theorem dX10_draws_34 : decode cX10_draws 34 = .ok (.dup2, 1) := by decide +kernel
theorem dX10_draws_35 : decode cX10_draws 35 = .ok (.iaload, 1) := by decide +kernel
theorem dX10_draws_36 : decode cX10_draws 36 = .ok (.iload_n 2, 1) := by decide +kernel
theorem dX10_draws_37 : decode cX10_draws 37 = .ok (.ior, 1) := by decide +kernel
theorem dX10_draws_38 : decode cX10_draws 38 = .ok (.iastore, 1) := by decide +kernel
theorem dX10_draws_39 : decode cX10_draws 39 = .ok (.iinc 3 1, 3) := by decide +kernel
theorem dX10_draws_42 : decode cX10_draws 42 = .ok (.goto (-35), 3) := by decide +kernel
theorem dX10_draws_45 : decode cX10_draws 45 = .ok (.bipush 64, 2) := by decide +kernel
theorem dX10_draws_47 : decode cX10_draws 47 = .ok (.istore_n 3, 1) := by decide +kernel
theorem dX10_draws_48 : decode cX10_draws 48 = .ok (.iconst 2, 1) := by decide +kernel
theorem dX10_draws_49 : decode cX10_draws 49 = .ok (.istore 4, 2) := by decide +kernel
theorem dX10_draws_51 : decode cX10_draws 51 = .ok (.iload 4, 2) := by decide +kernel
theorem dX10_draws_53 : decode cX10_draws 53 = .ok (.ifCond .lt 61, 3) := by decide +kernel
theorem dX10_draws_56 : decode cX10_draws 56 = .ok (.iload_n 3, 1) := by decide +kernel
theorem dX10_draws_57 : decode cX10_draws 57 = .ok (.iconst 4, 1) := by decide +kernel
theorem dX10_draws_58 : decode cX10_draws 58 = .ok (.idiv, 1) := by decide +kernel
theorem dX10_draws_59 : decode cX10_draws 59 = .ok (.istore_n 3, 1) := by decide +kernel
theorem dX10_draws_60 : decode cX10_draws 60 = .ok (.iconst 0, 1) := by decide +kernel
theorem dX10_draws_61 : decode cX10_draws 61 = .ok (.istore 5, 2) := by decide +kernel
theorem dX10_draws_63 : decode cX10_draws 63 = .ok (.iload 5, 2) := by decide +kernel
theorem dX10_draws_65 : decode cX10_draws 65 = .ok (.iload_n 3, 1) := by decide +kernel
theorem dX10_draws_66 : decode cX10_draws 66 = .ok (.if_icmp .ge 42, 3) := by decide +kernel
theorem dX10_draws_69 : decode cX10_draws 69 = .ok (.aload_n 0, 1) := by decide +kernel
theorem dX10_draws_70 : decode cX10_draws 70 = .ok (.getfield 83, 3) := by decide +kernel
theorem dX10_draws_73 : decode cX10_draws 73 = .ok (.iload 5, 2) := by decide +kernel
theorem dX10_draws_75 : decode cX10_draws 75 = .ok (.aload_n 0, 1) := by decide +kernel
theorem dX10_draws_76 : decode cX10_draws 76 = .ok (.iload 4, 2) := by decide +kernel
theorem dX10_draws_78 : decode cX10_draws 78 = .ok (.iconst 4, 1) := by decide +kernel
theorem dX10_draws_79 : decode cX10_draws 79 = .ok (.iload 5, 2) := by decide +kernel
theorem dX10_draws_81 : decode cX10_draws 81 = .ok (.imul, 1) := by decide +kernel
theorem dX10_draws_82 : decode cX10_draws 82 = .ok (.invokevirtual 282, 3) := by decide +kernel
theorem dX10_draws_85 : decode cX10_draws 85 = .ok (.iastore, 1) := by decide +kernel
theorem dX10_draws_86 : decode cX10_draws 86 = .ok (.aload_n 0, 1) := by decide +kernel
theorem dX10_draws_87 : decode cX10_draws 87 = .ok (.getfield 80, 3) := by decide +kernel
theorem dX10_draws_90 : decode cX10_draws 90 = .ok (.aload_n 0, 1) := by decide +kernel
theorem dX10_draws_91 : decode cX10_draws 91 = .ok (.getfield 83, 3) := by decide +kernel
theorem dX10_draws_94 : decode cX10_draws 94 = .ok (.iload 5, 2) := by decide +kernel
theorem dX10_draws_96 : decode cX10_draws 96 = .ok (.iaload, 1) := by decide +kernel
theorem dX10_draws_97 : decode cX10_draws 97 = .ok (.dup2, 1) := by decide +kernel
theorem dX10_draws_98 : decode cX10_draws 98 = .ok (.iaload, 1) := by decide +kernel
theorem dX10_draws_99 : decode cX10_draws 99 = .ok (.iload_n 2, 1) := by decide +kernel
theorem dX10_draws_100 : decode cX10_draws 100 = .ok (.ior, 1) := by decide +kernel
theorem dX10_draws_101 : decode cX10_draws 101 = .ok (.iastore, 1) := by decide +kernel
theorem dX10_draws_102 : decode cX10_draws 102 = .ok (.iinc 5 1, 3) := by decide +kernel
theorem dX10_draws_105 : decode cX10_draws 105 = .ok (.goto (-42), 3) := by decide +kernel
theorem dX10_draws_108 : decode cX10_draws 108 = .ok (.iinc 4 (-1), 3) := by decide +kernel
theorem dX10_draws_111 : decode cX10_draws 111 = .ok (.goto (-60), 3) := by decide +kernel
theorem dX10_draws_114 : decode cX10_draws 114 = .ok (.aload_n 0, 1) := by decide +kernel
theorem dX10_draws_115 : decode cX10_draws 115 = .ok (.getfield 83, 3) := by decide +kernel
theorem dX10_draws_118 : decode cX10_draws 118 = .ok (.iconst 0, 1) := by decide +kernel
theorem dX10_draws_119 : decode cX10_draws 119 = .ok (.iaload, 1) := by decide +kernel
theorem dX10_draws_120 : decode cX10_draws 120 = .ok (.ireturn, 1) := by decide +kernel
theorem dX10_clears_0 : decode cX10_clears 0 = .ok (.aload_n 0, 1) := by decide +kernel
theorem dX10_clears_1 : decode cX10_clears 1 = .ok (.iconst 0, 1) := by decide +kernel
theorem dX10_clears_2 : decode cX10_clears 2 = .ok (.putfield 270, 3) := by decide +kernel
theorem dX10_clears_5 : decode cX10_clears 5 = .ok (.aload_n 0, 1) := by decide +kernel
theorem dX10_clears_6 : decode cX10_clears 6 = .ok (.iconst 0, 1) := by decide +kernel
theorem dX10_clears_7 : decode cX10_clears 7 = .ok (.putfield 273, 3) := by decide +kernel
theorem dX10_clears_10 : decode cX10_clears 10 = .ok (.iconst 0, 1) := by decide +kernel
theorem dX10_clears_11 : decode cX10_clears 11 = .ok (.istore_n 1, 1) := by decide +kernel
theorem dX10_clears_12 : decode cX10_clears 12 = .ok (.iload_n 1, 1) := by decide +kernel
theorem dX10_clears_13 : decode cX10_clears 13 = .ok (.sipush 192, 3) := by decide +kernel
theorem dX10_clears_16 : decode cX10_clears 16 = .ok (.if_icmp .ge 16, 3) := by decide +kernel
theorem dX10_clears_19 : decode cX10_clears 19 = .ok (.aload_n 0, 1) := by decide +kernel
theorem dX10_clears_20 : decode cX10_clears 20 = .ok (.getfield 80, 3) := by decide +kernel
theorem dX10_clears_23 : decode cX10_clears 23 = .ok (.iload_n 1, 1) := by decide +kernel
theorem dX10_clears_24 : decode cX10_clears 24 = .ok (.iconst 0, 1) := by decide +kernel
theorem dX10_clears_25 : decode cX10_clears 25 = .ok (.iastore, 1) := by decide +kernel
theorem dX10_clears_26 : decode cX10_clears 26 = .ok (.iinc 1 1, 3) := by decide +kernel
theorem dX10_clears_29 : decode cX10_clears 29 = .ok (.goto (-17), 3) := by decide +kernel
theorem dX10_clears_32 : decode cX10_clears 32 = .ok (.return_, 1) := by decide +kernel
theorem dX10_drawsAlone_0 : decode cX10_drawsAlone 0 = .ok (.aload_n 0, 1) := by decide +kernel
theorem dX10_drawsAlone_1 : decode cX10_drawsAlone 1 = .ok (.invokevirtual 285, 3) := by decide +kernel
theorem dX10_drawsAlone_4 : decode cX10_drawsAlone 4 = .ok (.aload_n 0, 1) := by decide +kernel
theorem dX10_drawsAlone_5 : decode cX10_drawsAlone 5 = .ok (.iload_n 1, 1) := by decide +kernel
theorem dX10_drawsAlone_6 : decode cX10_drawsAlone 6 = .ok (.iconst 1, 1) := by decide +kernel
theorem dX10_drawsAlone_7 : decode cX10_drawsAlone 7 = .ok (.invokevirtual 288, 3) := by decide +kernel
theorem dX10_drawsAlone_10 : decode cX10_drawsAlone 10 = .ok (.ireturn, 1) := by decide +kernel
theorem dX10_sizeOf_0 : decode cX10_sizeOf 0 = .ok (.aload_n 0, 1) := by decide +kernel
theorem dX10_sizeOf_1 : decode cX10_sizeOf 1 = .ok (.iload_n 1, 1) := by decide +kernel
theorem dX10_sizeOf_2 : decode cX10_sizeOf 2 = .ok (.invokevirtual 291, 3) := by decide +kernel
theorem dX10_sizeOf_5 : decode cX10_sizeOf 5 = .ok (.pop, 1) := by decide +kernel
theorem dX10_sizeOf_6 : decode cX10_sizeOf 6 = .ok (.aload_n 0, 1) := by decide +kernel
theorem dX10_sizeOf_7 : decode cX10_sizeOf 7 = .ok (.getfield 270, 3) := by decide +kernel
theorem dX10_sizeOf_10 : decode cX10_sizeOf 10 = .ok (.aload_n 0, 1) := by decide +kernel
theorem dX10_sizeOf_11 : decode cX10_sizeOf 11 = .ok (.getfield 273, 3) := by decide +kernel
theorem dX10_sizeOf_14 : decode cX10_sizeOf 14 = .ok (.iadd, 1) := by decide +kernel
theorem dX10_sizeOf_15 : decode cX10_sizeOf 15 = .ok (.ireturn, 1) := by decide +kernel
theorem dX10_diagramSize_0 : decode cX10_diagramSize 0 = .ok (.iload_n 1, 1) := by decide +kernel
theorem dX10_diagramSize_1 : decode cX10_diagramSize 1 = .ok (.invokestatic 179, 3) := by decide +kernel
theorem dX10_diagramSize_4 : decode cX10_diagramSize 4 = .ok (.ifCond .eq 11, 3) := by decide +kernel
theorem dX10_diagramSize_7 : decode cX10_diagramSize 7 = .ok (.aload_n 0, 1) := by decide +kernel
theorem dX10_diagramSize_8 : decode cX10_diagramSize 8 = .ok (.iload_n 1, 1) := by decide +kernel
theorem dX10_diagramSize_9 : decode cX10_diagramSize 9 = .ok (.invokevirtual 294, 3) := by decide +kernel
theorem dX10_diagramSize_12 : decode cX10_diagramSize 12 = .ok (.goto 9, 3) := by decide +kernel
theorem dX10_diagramSize_15 : decode cX10_diagramSize 15 = .ok (.aload_n 0, 1) := by decide +kernel
theorem dX10_diagramSize_16 : decode cX10_diagramSize 16 = .ok (.bipush (-2), 2) := by decide +kernel
theorem dX10_diagramSize_18 : decode cX10_diagramSize 18 = .ok (.invokevirtual 106, 3) := by decide +kernel
theorem dX10_diagramSize_21 : decode cX10_diagramSize 21 = .ok (.ireturn, 1) := by decide +kernel
theorem dX10_leavesOf_0 : decode cX10_leavesOf 0 = .ok (.aload_n 0, 1) := by decide +kernel
theorem dX10_leavesOf_1 : decode cX10_leavesOf 1 = .ok (.iload_n 1, 1) := by decide +kernel
theorem dX10_leavesOf_2 : decode cX10_leavesOf 2 = .ok (.invokevirtual 291, 3) := by decide +kernel
theorem dX10_leavesOf_5 : decode cX10_leavesOf 5 = .ok (.pop, 1) := by decide +kernel
theorem dX10_leavesOf_6 : decode cX10_leavesOf 6 = .ok (.aload_n 0, 1) := by decide +kernel
theorem dX10_leavesOf_7 : decode cX10_leavesOf 7 = .ok (.getfield 270, 3) := by decide +kernel
theorem dX10_leavesOf_10 : decode cX10_leavesOf 10 = .ok (.ireturn, 1) := by decide +kernel
theorem dX10_leaves_0 : decode cX10_leaves 0 = .ok (.iload_n 1, 1) := by decide +kernel
theorem dX10_leaves_1 : decode cX10_leaves 1 = .ok (.invokestatic 179, 3) := by decide +kernel
theorem dX10_leaves_4 : decode cX10_leaves 4 = .ok (.ifCond .eq 11, 3) := by decide +kernel
theorem dX10_leaves_7 : decode cX10_leaves 7 = .ok (.aload_n 0, 1) := by decide +kernel
theorem dX10_leaves_8 : decode cX10_leaves 8 = .ok (.iload_n 1, 1) := by decide +kernel
theorem dX10_leaves_9 : decode cX10_leaves 9 = .ok (.invokevirtual 297, 3) := by decide +kernel
theorem dX10_leaves_12 : decode cX10_leaves 12 = .ok (.goto 9, 3) := by decide +kernel
theorem dX10_leaves_15 : decode cX10_leaves 15 = .ok (.aload_n 0, 1) := by decide +kernel
theorem dX10_leaves_16 : decode cX10_leaves 16 = .ok (.bipush (-2), 2) := by decide +kernel
theorem dX10_leaves_18 : decode cX10_leaves 18 = .ok (.invokevirtual 106, 3) := by decide +kernel
theorem dX10_leaves_21 : decode cX10_leaves 21 = .ok (.ireturn, 1) := by decide +kernel
theorem dX10_depthOf_0 : decode cX10_depthOf 0 = .ok (.aload_n 0, 1) := by decide +kernel
theorem dX10_depthOf_1 : decode cX10_depthOf 1 = .ok (.iload_n 1, 1) := by decide +kernel
theorem dX10_depthOf_2 : decode cX10_depthOf 2 = .ok (.invokevirtual 291, 3) := by decide +kernel
theorem dX10_depthOf_5 : decode cX10_depthOf 5 = .ok (.istore_n 2, 1) := by decide +kernel
theorem dX10_depthOf_6 : decode cX10_depthOf 6 = .ok (.iconst 0, 1) := by decide +kernel
theorem dX10_depthOf_7 : decode cX10_depthOf 7 = .ok (.istore_n 3, 1) := by decide +kernel
theorem dX10_depthOf_8 : decode cX10_depthOf 8 = .ok (.iconst 0, 1) := by decide +kernel
theorem dX10_depthOf_9 : decode cX10_depthOf 9 = .ok (.istore 4, 2) := by decide +kernel
theorem dX10_depthOf_11 : decode cX10_depthOf 11 = .ok (.iload 4, 2) := by decide +kernel
theorem dX10_depthOf_13 : decode cX10_depthOf 13 = .ok (.bipush 64, 2) := by decide +kernel
theorem dX10_depthOf_15 : decode cX10_depthOf 15 = .ok (.if_icmp .ge 74, 3) := by decide +kernel
theorem dX10_depthOf_18 : decode cX10_depthOf 18 = .ok (.iconst 0, 1) := by decide +kernel
theorem dX10_depthOf_19 : decode cX10_depthOf 19 = .ok (.istore 5, 2) := by decide +kernel
theorem dX10_depthOf_21 : decode cX10_depthOf 21 = .ok (.iload_n 2, 1) := by decide +kernel
theorem dX10_depthOf_22 : decode cX10_depthOf 22 = .ok (.istore 6, 2) := by decide +kernel
theorem dX10_depthOf_24 : decode cX10_depthOf 24 = .ok (.iload 6, 2) := by decide +kernel
theorem dX10_depthOf_26 : decode cX10_depthOf 26 = .ok (.sipush 128, 3) := by decide +kernel
theorem dX10_depthOf_29 : decode cX10_depthOf 29 = .ok (.if_icmp .lt 41, 3) := by decide +kernel
theorem dX10_depthOf_32 : decode cX10_depthOf 32 = .ok (.aload_n 0, 1) := by decide +kernel
theorem dX10_depthOf_33 : decode cX10_depthOf 33 = .ok (.getfield 77, 3) := by decide +kernel
theorem dX10_depthOf_36 : decode cX10_depthOf 36 = .ok (.iconst 4, 1) := by decide +kernel
theorem dX10_depthOf_37 : decode cX10_depthOf 37 = .ok (.iload 6, 2) := by decide +kernel
theorem dX10_depthOf_39 : decode cX10_depthOf 39 = .ok (.sipush 128, 3) := by decide +kernel
theorem dX10_depthOf_42 : decode cX10_depthOf 42 = .ok (.isub, 1) := by decide +kernel
theorem dX10_depthOf_43 : decode cX10_depthOf 43 = .ok (.imul, 1) := by decide +kernel
theorem dX10_depthOf_44 : decode cX10_depthOf 44 = .ok (.iload 4, 2) := by decide +kernel
theorem dX10_depthOf_46 : decode cX10_depthOf 46 = .ok (.aload_n 0, 1) := by decide +kernel
theorem dX10_depthOf_47 : decode cX10_depthOf 47 = .ok (.getfield 74, 3) := by decide +kernel
theorem dX10_depthOf_50 : decode cX10_depthOf 50 = .ok (.iload 6, 2) := by decide +kernel
theorem dX10_depthOf_52 : decode cX10_depthOf 52 = .ok (.sipush 128, 3) := by decide +kernel
theorem dX10_depthOf_55 : decode cX10_depthOf 55 = .ok (.isub, 1) := by decide +kernel
theorem dX10_depthOf_56 : decode cX10_depthOf 56 = .ok (.iaload, 1) := by decide +kernel
theorem dX10_depthOf_57 : decode cX10_depthOf 57 = .ok (.invokestatic 216, 3) := by decide +kernel
theorem dX10_depthOf_60 : decode cX10_depthOf 60 = .ok (.iadd, 1) := by decide +kernel
theorem dX10_depthOf_61 : decode cX10_depthOf 61 = .ok (.iaload, 1) := by decide +kernel
theorem dX10_depthOf_62 : decode cX10_depthOf 62 = .ok (.istore 6, 2) := by decide +kernel
theorem dX10_depthOf_64 : decode cX10_depthOf 64 = .ok (.iinc 5 1, 3) := by decide +kernel
theorem dX10_depthOf_67 : decode cX10_depthOf 67 = .ok (.goto (-43), 3) := by decide +kernel
theorem dX10_depthOf_70 : decode cX10_depthOf 70 = .ok (.iload 5, 2) := by decide +kernel
theorem dX10_depthOf_72 : decode cX10_depthOf 72 = .ok (.iload_n 3, 1) := by decide +kernel
theorem dX10_depthOf_73 : decode cX10_depthOf 73 = .ok (.if_icmp .le 8, 3) := by decide +kernel
theorem dX10_depthOf_76 : decode cX10_depthOf 76 = .ok (.iload 5, 2) := by decide +kernel
theorem dX10_depthOf_78 : decode cX10_depthOf 78 = .ok (.goto 4, 3) := by decide +kernel
theorem dX10_depthOf_81 : decode cX10_depthOf 81 = .ok (.iload_n 3, 1) := by decide +kernel
theorem dX10_depthOf_82 : decode cX10_depthOf 82 = .ok (.istore_n 3, 1) := by decide +kernel
theorem dX10_depthOf_83 : decode cX10_depthOf 83 = .ok (.iinc 4 1, 3) := by decide +kernel
theorem dX10_depthOf_86 : decode cX10_depthOf 86 = .ok (.goto (-75), 3) := by decide +kernel
theorem dX10_depthOf_89 : decode cX10_depthOf 89 = .ok (.iload_n 3, 1) := by decide +kernel
theorem dX10_depthOf_90 : decode cX10_depthOf 90 = .ok (.ireturn, 1) := by decide +kernel
theorem dX10_diagramDepth_0 : decode cX10_diagramDepth 0 = .ok (.iload_n 1, 1) := by decide +kernel
theorem dX10_diagramDepth_1 : decode cX10_diagramDepth 1 = .ok (.invokestatic 179, 3) := by decide +kernel
theorem dX10_diagramDepth_4 : decode cX10_diagramDepth 4 = .ok (.ifCond .eq 11, 3) := by decide +kernel
theorem dX10_diagramDepth_7 : decode cX10_diagramDepth 7 = .ok (.aload_n 0, 1) := by decide +kernel
theorem dX10_diagramDepth_8 : decode cX10_diagramDepth 8 = .ok (.iload_n 1, 1) := by decide +kernel
theorem dX10_diagramDepth_9 : decode cX10_diagramDepth 9 = .ok (.invokevirtual 300, 3) := by decide +kernel
theorem dX10_diagramDepth_12 : decode cX10_diagramDepth 12 = .ok (.goto 9, 3) := by decide +kernel
theorem dX10_diagramDepth_15 : decode cX10_diagramDepth 15 = .ok (.aload_n 0, 1) := by decide +kernel
theorem dX10_diagramDepth_16 : decode cX10_diagramDepth 16 = .ok (.bipush (-2), 2) := by decide +kernel
theorem dX10_diagramDepth_18 : decode cX10_diagramDepth 18 = .ok (.invokevirtual 106, 3) := by decide +kernel
theorem dX10_diagramDepth_21 : decode cX10_diagramDepth 21 = .ok (.ireturn, 1) := by decide +kernel
theorem dX10_sharedNodes_0 : decode cX10_sharedNodes 0 = .ok (.iload_n 1, 1) := by decide +kernel
theorem dX10_sharedNodes_1 : decode cX10_sharedNodes 1 = .ok (.invokestatic 179, 3) := by decide +kernel
theorem dX10_sharedNodes_4 : decode cX10_sharedNodes 4 = .ok (.ifCond .eq 10, 3) := by decide +kernel
theorem dX10_sharedNodes_7 : decode cX10_sharedNodes 7 = .ok (.iload_n 2, 1) := by decide +kernel
theorem dX10_sharedNodes_8 : decode cX10_sharedNodes 8 = .ok (.invokestatic 179, 3) := by decide +kernel
theorem dX10_sharedNodes_11 : decode cX10_sharedNodes 11 = .ok (.ifCond .ne 10, 3) := by decide +kernel
theorem dX10_sharedNodes_14 : decode cX10_sharedNodes 14 = .ok (.aload_n 0, 1) := by decide +kernel
theorem dX10_sharedNodes_15 : decode cX10_sharedNodes 15 = .ok (.bipush (-2), 2) := by decide +kernel
theorem dX10_sharedNodes_17 : decode cX10_sharedNodes 17 = .ok (.invokevirtual 106, 3) := by decide +kernel
theorem dX10_sharedNodes_20 : decode cX10_sharedNodes 20 = .ok (.ireturn, 1) := by decide +kernel
theorem dX10_sharedNodes_21 : decode cX10_sharedNodes 21 = .ok (.aload_n 0, 1) := by decide +kernel
theorem dX10_sharedNodes_22 : decode cX10_sharedNodes 22 = .ok (.invokevirtual 285, 3) := by decide +kernel
theorem dX10_sharedNodes_25 : decode cX10_sharedNodes 25 = .ok (.aload_n 0, 1) := by decide +kernel
theorem dX10_sharedNodes_26 : decode cX10_sharedNodes 26 = .ok (.iload_n 1, 1) := by decide +kernel
theorem dX10_sharedNodes_27 : decode cX10_sharedNodes 27 = .ok (.iconst 1, 1) := by decide +kernel
theorem dX10_sharedNodes_28 : decode cX10_sharedNodes 28 = .ok (.invokevirtual 288, 3) := by decide +kernel
theorem dX10_sharedNodes_31 : decode cX10_sharedNodes 31 = .ok (.istore_n 3, 1) := by decide +kernel
theorem dX10_sharedNodes_32 : decode cX10_sharedNodes 32 = .ok (.aload_n 0, 1) := by decide +kernel
theorem dX10_sharedNodes_33 : decode cX10_sharedNodes 33 = .ok (.iload_n 2, 1) := by decide +kernel
theorem dX10_sharedNodes_34 : decode cX10_sharedNodes 34 = .ok (.iconst 2, 1) := by decide +kernel
theorem dX10_sharedNodes_35 : decode cX10_sharedNodes 35 = .ok (.invokevirtual 288, 3) := by decide +kernel
theorem dX10_sharedNodes_38 : decode cX10_sharedNodes 38 = .ok (.istore 4, 2) := by decide +kernel
theorem dX10_sharedNodes_40 : decode cX10_sharedNodes 40 = .ok (.iconst 0, 1) := by decide +kernel
theorem dX10_sharedNodes_41 : decode cX10_sharedNodes 41 = .ok (.istore 5, 2) := by decide +kernel
theorem dX10_sharedNodes_43 : decode cX10_sharedNodes 43 = .ok (.iconst 0, 1) := by decide +kernel
theorem dX10_sharedNodes_44 : decode cX10_sharedNodes 44 = .ok (.istore 6, 2) := by decide +kernel
theorem dX10_sharedNodes_46 : decode cX10_sharedNodes 46 = .ok (.iload 6, 2) := by decide +kernel
theorem dX10_sharedNodes_48 : decode cX10_sharedNodes 48 = .ok (.sipush 192, 3) := by decide +kernel
theorem dX10_sharedNodes_51 : decode cX10_sharedNodes 51 = .ok (.if_icmp .ge 37, 3) := by decide +kernel
theorem dX10_sharedNodes_54 : decode cX10_sharedNodes 54 = .ok (.iload_n 3, 1) := by decide +kernel
theorem dX10_sharedNodes_55 : decode cX10_sharedNodes 55 = .ok (.iload 4, 2) := by decide +kernel
theorem dX10_sharedNodes_57 : decode cX10_sharedNodes 57 = .ok (.iadd, 1) := by decide +kernel
theorem dX10_sharedNodes_58 : decode cX10_sharedNodes 58 = .ok (.ifCond .lt 30, 3) := by decide +kernel
theorem dX10_sharedNodes_61 : decode cX10_sharedNodes 61 = .ok (.iload 5, 2) := by decide +kernel
theorem dX10_sharedNodes_63 : decode cX10_sharedNodes 63 = .ok (.aload_n 0, 1) := by decide +kernel
theorem dX10_sharedNodes_64 : decode cX10_sharedNodes 64 = .ok (.getfield 80, 3) := by decide +kernel
theorem dX10_sharedNodes_67 : decode cX10_sharedNodes 67 = .ok (.iload 6, 2) := by decide +kernel
theorem dX10_sharedNodes_69 : decode cX10_sharedNodes 69 = .ok (.iaload, 1) := by decide +kernel
theorem dX10_sharedNodes_70 : decode cX10_sharedNodes 70 = .ok (.iconst 3, 1) := by decide +kernel
theorem dX10_sharedNodes_71 : decode cX10_sharedNodes 71 = .ok (.if_icmp .ne 7, 3) := by decide +kernel
theorem dX10_sharedNodes_74 : decode cX10_sharedNodes 74 = .ok (.iconst 1, 1) := by decide +kernel
theorem dX10_sharedNodes_75 : decode cX10_sharedNodes 75 = .ok (.goto 4, 3) := by decide +kernel
theorem dX10_sharedNodes_78 : decode cX10_sharedNodes 78 = .ok (.iconst 0, 1) := by decide +kernel
theorem dX10_sharedNodes_79 : decode cX10_sharedNodes 79 = .ok (.iadd, 1) := by decide +kernel
theorem dX10_sharedNodes_80 : decode cX10_sharedNodes 80 = .ok (.istore 5, 2) := by decide +kernel
theorem dX10_sharedNodes_82 : decode cX10_sharedNodes 82 = .ok (.iinc 6 1, 3) := by decide +kernel
theorem dX10_sharedNodes_85 : decode cX10_sharedNodes 85 = .ok (.goto (-39), 3) := by decide +kernel
theorem dX10_sharedNodes_88 : decode cX10_sharedNodes 88 = .ok (.iload 5, 2) := by decide +kernel
theorem dX10_sharedNodes_90 : decode cX10_sharedNodes 90 = .ok (.ireturn, 1) := by decide +kernel
theorem dX10_fives_0 : decode cX10_fives 0 = .ok (.iload_n 0, 1) := by decide +kernel
theorem dX10_fives_1 : decode cX10_fives 1 = .ok (.ifCond .ne 8, 3) := by decide +kernel
theorem dX10_fives_4 : decode cX10_fives 4 = .ok (.bipush 25, 2) := by decide +kernel
theorem dX10_fives_6 : decode cX10_fives 6 = .ok (.goto 13, 3) := by decide +kernel
theorem dX10_fives_9 : decode cX10_fives 9 = .ok (.iload_n 0, 1) := by decide +kernel
theorem dX10_fives_10 : decode cX10_fives 10 = .ok (.iconst 1, 1) := by decide +kernel
theorem dX10_fives_11 : decode cX10_fives 11 = .ok (.if_icmp .ne 7, 3) := by decide +kernel
theorem dX10_fives_14 : decode cX10_fives 14 = .ok (.iconst 5, 1) := by decide +kernel
theorem dX10_fives_15 : decode cX10_fives 15 = .ok (.goto 4, 3) := by decide +kernel
theorem dX10_fives_18 : decode cX10_fives 18 = .ok (.iconst 1, 1) := by decide +kernel
theorem dX10_fives_19 : decode cX10_fives 19 = .ok (.ireturn, 1) := by decide +kernel
theorem dX10_mainOf_0 : decode cX10_mainOf 0 = .ok (.iconst 0, 1) := by decide +kernel
theorem dX10_mainOf_1 : decode cX10_mainOf 1 = .ok (.istore_n 2, 1) := by decide +kernel
theorem dX10_mainOf_2 : decode cX10_mainOf 2 = .ok (.iconst 0, 1) := by decide +kernel
theorem dX10_mainOf_3 : decode cX10_mainOf 3 = .ok (.istore_n 3, 1) := by decide +kernel
theorem dX10_mainOf_4 : decode cX10_mainOf 4 = .ok (.iconst 0, 1) := by decide +kernel
theorem dX10_mainOf_5 : decode cX10_mainOf 5 = .ok (.istore 4, 2) := by decide +kernel
theorem dX10_mainOf_7 : decode cX10_mainOf 7 = .ok (.iload 4, 2) := by decide +kernel
theorem dX10_mainOf_9 : decode cX10_mainOf 9 = .ok (.iconst 4, 1) := by decide +kernel
theorem dX10_mainOf_10 : decode cX10_mainOf 10 = .ok (.if_icmp .ge 88, 3) := by decide +kernel
theorem dX10_mainOf_13 : decode cX10_mainOf 13 = .ok (.iconst 0, 1) := by decide +kernel
theorem dX10_mainOf_14 : decode cX10_mainOf 14 = .ok (.istore 5, 2) := by decide +kernel
theorem dX10_mainOf_16 : decode cX10_mainOf 16 = .ok (.iconst 0, 1) := by decide +kernel
theorem dX10_mainOf_17 : decode cX10_mainOf 17 = .ok (.istore 6, 2) := by decide +kernel
theorem dX10_mainOf_19 : decode cX10_mainOf 19 = .ok (.iload 6, 2) := by decide +kernel
theorem dX10_mainOf_21 : decode cX10_mainOf 21 = .ok (.iconst 4, 1) := by decide +kernel
theorem dX10_mainOf_22 : decode cX10_mainOf 22 = .ok (.if_icmp .ge 44, 3) := by decide +kernel
theorem dX10_mainOf_25 : decode cX10_mainOf 25 = .ok (.iload 5, 2) := by decide +kernel
theorem dX10_mainOf_27 : decode cX10_mainOf 27 = .ok (.aload_n 0, 1) := by decide +kernel
theorem dX10_mainOf_28 : decode cX10_mainOf 28 = .ok (.getfield 77, 3) := by decide +kernel
theorem dX10_mainOf_31 : decode cX10_mainOf 31 = .ok (.iconst 4, 1) := by decide +kernel
theorem dX10_mainOf_32 : decode cX10_mainOf 32 = .ok (.iload_n 1, 1) := by decide +kernel
theorem dX10_mainOf_33 : decode cX10_mainOf 33 = .ok (.imul, 1) := by decide +kernel
theorem dX10_mainOf_34 : decode cX10_mainOf 34 = .ok (.iload 6, 2) := by decide +kernel
theorem dX10_mainOf_36 : decode cX10_mainOf 36 = .ok (.iadd, 1) := by decide +kernel
theorem dX10_mainOf_37 : decode cX10_mainOf 37 = .ok (.iaload, 1) := by decide +kernel
theorem dX10_mainOf_38 : decode cX10_mainOf 38 = .ok (.aload_n 0, 1) := by decide +kernel
theorem dX10_mainOf_39 : decode cX10_mainOf 39 = .ok (.getfield 77, 3) := by decide +kernel
theorem dX10_mainOf_42 : decode cX10_mainOf 42 = .ok (.iconst 4, 1) := by decide +kernel
theorem dX10_mainOf_43 : decode cX10_mainOf 43 = .ok (.iload_n 1, 1) := by decide +kernel
theorem dX10_mainOf_44 : decode cX10_mainOf 44 = .ok (.imul, 1) := by decide +kernel
theorem dX10_mainOf_45 : decode cX10_mainOf 45 = .ok (.iload 4, 2) := by decide +kernel
theorem dX10_mainOf_47 : decode cX10_mainOf 47 = .ok (.iadd, 1) := by decide +kernel
theorem dX10_mainOf_48 : decode cX10_mainOf 48 = .ok (.iaload, 1) := by decide +kernel
theorem dX10_mainOf_49 : decode cX10_mainOf 49 = .ok (.if_icmp .ne 7, 3) := by decide +kernel
theorem dX10_mainOf_52 : decode cX10_mainOf 52 = .ok (.iconst 1, 1) := by decide +kernel
theorem dX10_mainOf_53 : decode cX10_mainOf 53 = .ok (.goto 4, 3) := by decide +kernel
theorem dX10_mainOf_56 : decode cX10_mainOf 56 = .ok (.iconst 0, 1) := by decide +kernel
theorem dX10_mainOf_57 : decode cX10_mainOf 57 = .ok (.iadd, 1) := by decide +kernel
theorem dX10_mainOf_58 : decode cX10_mainOf 58 = .ok (.istore 5, 2) := by decide +kernel
theorem dX10_mainOf_60 : decode cX10_mainOf 60 = .ok (.iinc 6 1, 3) := by decide +kernel
theorem dX10_mainOf_63 : decode cX10_mainOf 63 = .ok (.goto (-44), 3) := by decide +kernel
theorem dX10_mainOf_66 : decode cX10_mainOf 66 = .ok (.iload 5, 2) := by decide +kernel
theorem dX10_mainOf_68 : decode cX10_mainOf 68 = .ok (.iload_n 3, 1) := by decide +kernel
theorem dX10_mainOf_69 : decode cX10_mainOf 69 = .ok (.if_icmp .le 8, 3) := by decide +kernel
theorem dX10_mainOf_72 : decode cX10_mainOf 72 = .ok (.iload 4, 2) := by decide +kernel
theorem dX10_mainOf_74 : decode cX10_mainOf 74 = .ok (.goto 4, 3) := by decide +kernel
theorem dX10_mainOf_77 : decode cX10_mainOf 77 = .ok (.iload_n 2, 1) := by decide +kernel
theorem dX10_mainOf_78 : decode cX10_mainOf 78 = .ok (.istore_n 2, 1) := by decide +kernel
theorem dX10_mainOf_79 : decode cX10_mainOf 79 = .ok (.iload 5, 2) := by decide +kernel
theorem dX10_mainOf_81 : decode cX10_mainOf 81 = .ok (.iload_n 3, 1) := by decide +kernel
theorem dX10_mainOf_82 : decode cX10_mainOf 82 = .ok (.if_icmp .le 8, 3) := by decide +kernel
theorem dX10_mainOf_85 : decode cX10_mainOf 85 = .ok (.iload 5, 2) := by decide +kernel
theorem dX10_mainOf_87 : decode cX10_mainOf 87 = .ok (.goto 4, 3) := by decide +kernel
theorem dX10_mainOf_90 : decode cX10_mainOf 90 = .ok (.iload_n 3, 1) := by decide +kernel
theorem dX10_mainOf_91 : decode cX10_mainOf 91 = .ok (.istore_n 3, 1) := by decide +kernel
theorem dX10_mainOf_92 : decode cX10_mainOf 92 = .ok (.iinc 4 1, 3) := by decide +kernel
theorem dX10_mainOf_95 : decode cX10_mainOf 95 = .ok (.goto (-88), 3) := by decide +kernel
theorem dX10_mainOf_98 : decode cX10_mainOf 98 = .ok (.aload_n 0, 1) := by decide +kernel
theorem dX10_mainOf_99 : decode cX10_mainOf 99 = .ok (.getfield 77, 3) := by decide +kernel
theorem dX10_mainOf_102 : decode cX10_mainOf 102 = .ok (.iconst 4, 1) := by decide +kernel
theorem dX10_mainOf_103 : decode cX10_mainOf 103 = .ok (.iload_n 1, 1) := by decide +kernel
theorem dX10_mainOf_104 : decode cX10_mainOf 104 = .ok (.imul, 1) := by decide +kernel
theorem dX10_mainOf_105 : decode cX10_mainOf 105 = .ok (.iload_n 2, 1) := by decide +kernel
theorem dX10_mainOf_106 : decode cX10_mainOf 106 = .ok (.iadd, 1) := by decide +kernel
theorem dX10_mainOf_107 : decode cX10_mainOf 107 = .ok (.iaload, 1) := by decide +kernel
theorem dX10_mainOf_108 : decode cX10_mainOf 108 = .ok (.ireturn, 1) := by decide +kernel
theorem dX10_tabulates_0 : decode cX10_tabulates 0 = .ok (.aload_n 0, 1) := by decide +kernel
theorem dX10_tabulates_1 : decode cX10_tabulates 1 = .ok (.getfield 92, 3) := by decide +kernel
theorem dX10_tabulates_4 : decode cX10_tabulates 4 = .ok (.iconst 0, 1) := by decide +kernel
theorem dX10_tabulates_5 : decode cX10_tabulates 5 = .ok (.aload_n 0, 1) := by decide +kernel
theorem dX10_tabulates_6 : decode cX10_tabulates 6 = .ok (.iload_n 1, 1) := by decide +kernel
theorem dX10_tabulates_7 : decode cX10_tabulates 7 = .ok (.invokevirtual 291, 3) := by decide +kernel
theorem dX10_tabulates_10 : decode cX10_tabulates 10 = .ok (.iastore, 1) := by decide +kernel
theorem dX10_tabulates_11 : decode cX10_tabulates 11 = .ok (.aload_n 0, 1) := by decide +kernel
theorem dX10_tabulates_12 : decode cX10_tabulates 12 = .ok (.getfield 95, 3) := by decide +kernel
theorem dX10_tabulates_15 : decode cX10_tabulates 15 = .ok (.iconst 0, 1) := by decide +kernel
theorem dX10_tabulates_16 : decode cX10_tabulates 16 = .ok (.bipush 124, 2) := by decide +kernel
theorem dX10_tabulates_18 : decode cX10_tabulates 18 = .ok (.iastore, 1) := by decide +kernel
theorem dX10_tabulates_19 : decode cX10_tabulates 19 = .ok (.iconst 1, 1) := by decide +kernel
theorem dX10_tabulates_20 : decode cX10_tabulates 20 = .ok (.istore_n 2, 1) := by decide +kernel
theorem dX10_tabulates_21 : decode cX10_tabulates 21 = .ok (.aload_n 0, 1) := by decide +kernel
theorem dX10_tabulates_22 : decode cX10_tabulates 22 = .ok (.iconst 0, 1) := by decide +kernel
theorem dX10_tabulates_23 : decode cX10_tabulates 23 = .ok (.putfield 303, 3) := by decide +kernel
theorem dX10_tabulates_26 : decode cX10_tabulates 26 = .ok (.iload_n 2, 1) := by decide +kernel
theorem dX10_tabulates_27 : decode cX10_tabulates 27 = .ok (.ifCond .le 175, 3) := by decide +kernel
theorem dX10_tabulates_30 : decode cX10_tabulates 30 = .ok (.iinc 2 (-1), 3) := by decide +kernel
theorem dX10_tabulates_33 : decode cX10_tabulates 33 = .ok (.aload_n 0, 1) := by decide +kernel
theorem dX10_tabulates_34 : decode cX10_tabulates 34 = .ok (.getfield 92, 3) := by decide +kernel
theorem dX10_tabulates_37 : decode cX10_tabulates 37 = .ok (.iload_n 2, 1) := by decide +kernel
theorem dX10_tabulates_38 : decode cX10_tabulates 38 = .ok (.iaload, 1) := by decide +kernel
theorem dX10_tabulates_39 : decode cX10_tabulates 39 = .ok (.istore_n 3, 1) := by decide +kernel
theorem dX10_tabulates_40 : decode cX10_tabulates 40 = .ok (.aload_n 0, 1) := by decide +kernel
theorem dX10_tabulates_41 : decode cX10_tabulates 41 = .ok (.getfield 95, 3) := by decide +kernel
theorem dX10_tabulates_44 : decode cX10_tabulates 44 = .ok (.iload_n 2, 1) := by decide +kernel
theorem dX10_tabulates_45 : decode cX10_tabulates 45 = .ok (.iaload, 1) := by decide +kernel
theorem dX10_tabulates_46 : decode cX10_tabulates 46 = .ok (.istore 4, 2) := by decide +kernel
theorem dX10_tabulates_48 : decode cX10_tabulates 48 = .ok (.iload_n 3, 1) := by decide +kernel
theorem dX10_tabulates_49 : decode cX10_tabulates 49 = .ok (.sipush 128, 3) := by decide +kernel
theorem dX10_tabulates_52 : decode cX10_tabulates 52 = .ok (.if_icmp .ge 37, 3) := by decide +kernel
theorem dX10_tabulates_55 : decode cX10_tabulates 55 = .ok (.aload_n 0, 1) := by decide +kernel
theorem dX10_tabulates_56 : decode cX10_tabulates 56 = .ok (.getfield 89, 3) := by decide +kernel
theorem dX10_tabulates_59 : decode cX10_tabulates 59 = .ok (.aload_n 0, 1) := by decide +kernel
theorem dX10_tabulates_60 : decode cX10_tabulates 60 = .ok (.getfield 303, 3) := by decide +kernel
theorem dX10_tabulates_63 : decode cX10_tabulates 63 = .ok (.iload_n 3, 1) := by decide +kernel
theorem dX10_tabulates_64 : decode cX10_tabulates 64 = .ok (.iastore, 1) := by decide +kernel
theorem dX10_tabulates_65 : decode cX10_tabulates 65 = .ok (.aload_n 0, 1) := by decide +kernel
theorem dX10_tabulates_66 : decode cX10_tabulates 66 = .ok (.getfield 86, 3) := by decide +kernel
theorem dX10_tabulates_69 : decode cX10_tabulates 69 = .ok (.aload_n 0, 1) := by decide +kernel
theorem dX10_tabulates_70 : decode cX10_tabulates 70 = .ok (.getfield 303, 3) := by decide +kernel
theorem dX10_tabulates_73 : decode cX10_tabulates 73 = .ok (.iload 4, 2) := by decide +kernel
theorem dX10_tabulates_75 : decode cX10_tabulates 75 = .ok (.iastore, 1) := by decide +kernel
theorem dX10_tabulates_76 : decode cX10_tabulates 76 = .ok (.aload_n 0, 1) := by decide +kernel
theorem dX10_tabulates_77 : decode cX10_tabulates 77 = .ok (.dup, 1) := by decide +kernel
theorem dX10_tabulates_78 : decode cX10_tabulates 78 = .ok (.getfield 303, 3) := by decide +kernel
theorem dX10_tabulates_81 : decode cX10_tabulates 81 = .ok (.iconst 1, 1) := by decide +kernel
theorem dX10_tabulates_82 : decode cX10_tabulates 82 = .ok (.iadd, 1) := by decide +kernel
theorem dX10_tabulates_83 : decode cX10_tabulates 83 = .ok (.putfield 303, 3) := by decide +kernel
theorem dX10_tabulates_86 : decode cX10_tabulates 86 = .ok (.goto 113, 3) := by decide +kernel
theorem dX10_tabulates_89 : decode cX10_tabulates 89 = .ok (.iload_n 3, 1) := by decide +kernel
theorem dX10_tabulates_90 : decode cX10_tabulates 90 = .ok (.sipush 128, 3) := by decide +kernel
theorem dX10_tabulates_93 : decode cX10_tabulates 93 = .ok (.isub, 1) := by decide +kernel
theorem dX10_tabulates_94 : decode cX10_tabulates 94 = .ok (.istore 5, 2) := by decide +kernel
theorem dX10_tabulates_96 : decode cX10_tabulates 96 = .ok (.aload_n 0, 1) := by decide +kernel
theorem dX10_tabulates_97 : decode cX10_tabulates 97 = .ok (.iload 5, 2) := by decide +kernel
theorem dX10_tabulates_99 : decode cX10_tabulates 99 = .ok (.invokevirtual 306, 3) := by decide +kernel
theorem dX10_tabulates_102 : decode cX10_tabulates 102 = .ok (.istore 6, 2) := by decide +kernel
theorem dX10_tabulates_104 : decode cX10_tabulates 104 = .ok (.aload_n 0, 1) := by decide +kernel
theorem dX10_tabulates_105 : decode cX10_tabulates 105 = .ok (.getfield 92, 3) := by decide +kernel
theorem dX10_tabulates_108 : decode cX10_tabulates 108 = .ok (.iload_n 2, 1) := by decide +kernel
theorem dX10_tabulates_109 : decode cX10_tabulates 109 = .ok (.iload 6, 2) := by decide +kernel
theorem dX10_tabulates_111 : decode cX10_tabulates 111 = .ok (.iastore, 1) := by decide +kernel
theorem dX10_tabulates_112 : decode cX10_tabulates 112 = .ok (.aload_n 0, 1) := by decide +kernel
theorem dX10_tabulates_113 : decode cX10_tabulates 113 = .ok (.getfield 95, 3) := by decide +kernel
theorem dX10_tabulates_116 : decode cX10_tabulates 116 = .ok (.iload_n 2, 1) := by decide +kernel
theorem dX10_tabulates_117 : decode cX10_tabulates 117 = .ok (.iload 4, 2) := by decide +kernel
theorem dX10_tabulates_119 : decode cX10_tabulates 119 = .ok (.iastore, 1) := by decide +kernel
theorem dX10_tabulates_120 : decode cX10_tabulates 120 = .ok (.iinc 2 1, 3) := by decide +kernel
theorem dX10_tabulates_123 : decode cX10_tabulates 123 = .ok (.iconst 3, 1) := by decide +kernel
theorem dX10_tabulates_124 : decode cX10_tabulates 124 = .ok (.istore 7, 2) := by decide +kernel
theorem dX10_tabulates_126 : decode cX10_tabulates 126 = .ok (.iload 7, 2) := by decide +kernel
theorem dX10_tabulates_128 : decode cX10_tabulates 128 = .ok (.ifCond .lt 71, 3) := by decide +kernel
theorem dX10_tabulates_131 : decode cX10_tabulates 131 = .ok (.aload_n 0, 1) := by decide +kernel
theorem dX10_tabulates_132 : decode cX10_tabulates 132 = .ok (.getfield 77, 3) := by decide +kernel
theorem dX10_tabulates_135 : decode cX10_tabulates 135 = .ok (.iconst 4, 1) := by decide +kernel
theorem dX10_tabulates_136 : decode cX10_tabulates 136 = .ok (.iload 5, 2) := by decide +kernel
theorem dX10_tabulates_138 : decode cX10_tabulates 138 = .ok (.imul, 1) := by decide +kernel
theorem dX10_tabulates_139 : decode cX10_tabulates 139 = .ok (.iload 7, 2) := by decide +kernel
theorem dX10_tabulates_141 : decode cX10_tabulates 141 = .ok (.iadd, 1) := by decide +kernel
theorem dX10_tabulates_142 : decode cX10_tabulates 142 = .ok (.iaload, 1) := by decide +kernel
theorem dX10_tabulates_143 : decode cX10_tabulates 143 = .ok (.iload 6, 2) := by decide +kernel
theorem dX10_tabulates_145 : decode cX10_tabulates 145 = .ok (.if_icmp .eq 48, 3) := by decide +kernel
theorem dX10_tabulates_148 : decode cX10_tabulates 148 = .ok (.aload_n 0, 1) := by decide +kernel
theorem dX10_tabulates_149 : decode cX10_tabulates 149 = .ok (.getfield 92, 3) := by decide +kernel
theorem dX10_tabulates_152 : decode cX10_tabulates 152 = .ok (.iload_n 2, 1) := by decide +kernel
theorem dX10_tabulates_153 : decode cX10_tabulates 153 = .ok (.aload_n 0, 1) := by decide +kernel
theorem dX10_tabulates_154 : decode cX10_tabulates 154 = .ok (.getfield 77, 3) := by decide +kernel
theorem dX10_tabulates_157 : decode cX10_tabulates 157 = .ok (.iconst 4, 1) := by decide +kernel
theorem dX10_tabulates_158 : decode cX10_tabulates 158 = .ok (.iload 5, 2) := by decide +kernel
theorem dX10_tabulates_160 : decode cX10_tabulates 160 = .ok (.imul, 1) := by decide +kernel
theorem dX10_tabulates_161 : decode cX10_tabulates 161 = .ok (.iload 7, 2) := by decide +kernel
theorem dX10_tabulates_163 : decode cX10_tabulates 163 = .ok (.iadd, 1) := by decide +kernel
theorem dX10_tabulates_164 : decode cX10_tabulates 164 = .ok (.iaload, 1) := by decide +kernel
theorem dX10_tabulates_165 : decode cX10_tabulates 165 = .ok (.iastore, 1) := by decide +kernel
theorem dX10_tabulates_166 : decode cX10_tabulates 166 = .ok (.aload_n 0, 1) := by decide +kernel
theorem dX10_tabulates_167 : decode cX10_tabulates 167 = .ok (.getfield 95, 3) := by decide +kernel
theorem dX10_tabulates_170 : decode cX10_tabulates 170 = .ok (.iload_n 2, 1) := by decide +kernel
theorem dX10_tabulates_171 : decode cX10_tabulates 171 = .ok (.iload 4, 2) := by decide +kernel
theorem dX10_tabulates_173 : decode cX10_tabulates 173 = .ok (.iload 7, 2) := by decide +kernel
theorem dX10_tabulates_175 : decode cX10_tabulates 175 = .ok (.iconst 4, 1) := by decide +kernel
theorem dX10_tabulates_176 : decode cX10_tabulates 176 = .ok (.isub, 1) := by decide +kernel
theorem dX10_tabulates_177 : decode cX10_tabulates 177 = .ok (.aload_n 0, 1) := by decide +kernel
theorem dX10_tabulates_178 : decode cX10_tabulates 178 = .ok (.getfield 74, 3) := by decide +kernel
theorem dX10_tabulates_181 : decode cX10_tabulates 181 = .ok (.iload 5, 2) := by decide +kernel
theorem dX10_tabulates_183 : decode cX10_tabulates 183 = .ok (.iaload, 1) := by decide +kernel
theorem dX10_tabulates_184 : decode cX10_tabulates 184 = .ok (.invokestatic 309, 3) := by decide +kernel
theorem dX10_tabulates_187 : decode cX10_tabulates 187 = .ok (.imul, 1) := by decide +kernel
theorem dX10_tabulates_188 : decode cX10_tabulates 188 = .ok (.iadd, 1) := by decide +kernel
theorem dX10_tabulates_189 : decode cX10_tabulates 189 = .ok (.iastore, 1) := by decide +kernel
theorem dX10_tabulates_190 : decode cX10_tabulates 190 = .ok (.iinc 2 1, 3) := by decide +kernel
theorem dX10_tabulates_193 : decode cX10_tabulates 193 = .ok (.iinc 7 (-1), 3) := by decide +kernel
theorem dX10_tabulates_196 : decode cX10_tabulates 196 = .ok (.goto (-70), 3) := by decide +kernel
theorem dX10_tabulates_199 : decode cX10_tabulates 199 = .ok (.goto (-173), 3) := by decide +kernel
theorem dX10_tabulates_202 : decode cX10_tabulates 202 = .ok (.aload_n 0, 1) := by decide +kernel
theorem dX10_tabulates_203 : decode cX10_tabulates 203 = .ok (.getfield 303, 3) := by decide +kernel
theorem dX10_tabulates_206 : decode cX10_tabulates 206 = .ok (.ifCond .le 58, 3) := by decide +kernel
theorem dX10_tabulates_209 : decode cX10_tabulates 209 = .ok (.aload_n 0, 1) := by decide +kernel
theorem dX10_tabulates_210 : decode cX10_tabulates 210 = .ok (.getfield 68, 3) := by decide +kernel
theorem dX10_tabulates_213 : decode cX10_tabulates 213 = .ok (.aload_n 0, 1) := by decide +kernel
theorem dX10_tabulates_214 : decode cX10_tabulates 214 = .ok (.getfield 89, 3) := by decide +kernel
theorem dX10_tabulates_217 : decode cX10_tabulates 217 = .ok (.aload_n 0, 1) := by decide +kernel
theorem dX10_tabulates_218 : decode cX10_tabulates 218 = .ok (.getfield 303, 3) := by decide +kernel
theorem dX10_tabulates_221 : decode cX10_tabulates 221 = .ok (.iconst 1, 1) := by decide +kernel
theorem dX10_tabulates_222 : decode cX10_tabulates 222 = .ok (.isub, 1) := by decide +kernel
theorem dX10_tabulates_223 : decode cX10_tabulates 223 = .ok (.iaload, 1) := by decide +kernel
theorem dX10_tabulates_224 : decode cX10_tabulates 224 = .ok (.laload, 1) := by decide +kernel
theorem dX10_tabulates_225 : decode cX10_tabulates 225 = .ok (.lconst 0, 1) := by decide +kernel
theorem dX10_tabulates_226 : decode cX10_tabulates 226 = .ok (.lcmp, 1) := by decide +kernel
theorem dX10_tabulates_227 : decode cX10_tabulates 227 = .ok (.ifCond .ne 37, 3) := by decide +kernel
theorem dX10_tabulates_230 : decode cX10_tabulates 230 = .ok (.aload_n 0, 1) := by decide +kernel
theorem dX10_tabulates_231 : decode cX10_tabulates 231 = .ok (.getfield 71, 3) := by decide +kernel
theorem dX10_tabulates_234 : decode cX10_tabulates 234 = .ok (.aload_n 0, 1) := by decide +kernel
theorem dX10_tabulates_235 : decode cX10_tabulates 235 = .ok (.getfield 89, 3) := by decide +kernel
theorem dX10_tabulates_238 : decode cX10_tabulates 238 = .ok (.aload_n 0, 1) := by decide +kernel
theorem dX10_tabulates_239 : decode cX10_tabulates 239 = .ok (.getfield 303, 3) := by decide +kernel
theorem dX10_tabulates_242 : decode cX10_tabulates 242 = .ok (.iconst 1, 1) := by decide +kernel
theorem dX10_tabulates_243 : decode cX10_tabulates 243 = .ok (.isub, 1) := by decide +kernel
theorem dX10_tabulates_244 : decode cX10_tabulates 244 = .ok (.iaload, 1) := by decide +kernel
theorem dX10_tabulates_245 : decode cX10_tabulates 245 = .ok (.laload, 1) := by decide +kernel
theorem dX10_tabulates_246 : decode cX10_tabulates 246 = .ok (.lconst 0, 1) := by decide +kernel
theorem dX10_tabulates_247 : decode cX10_tabulates 247 = .ok (.lcmp, 1) := by decide +kernel
theorem dX10_tabulates_248 : decode cX10_tabulates 248 = .ok (.ifCond .ne 16, 3) := by decide +kernel
theorem dX10_tabulates_251 : decode cX10_tabulates 251 = .ok (.aload_n 0, 1) := by decide +kernel
theorem dX10_tabulates_252 : decode cX10_tabulates 252 = .ok (.dup, 1) := by decide +kernel
theorem dX10_tabulates_253 : decode cX10_tabulates 253 = .ok (.getfield 303, 3) := by decide +kernel
theorem dX10_tabulates_256 : decode cX10_tabulates 256 = .ok (.iconst 1, 1) := by decide +kernel
theorem dX10_tabulates_257 : decode cX10_tabulates 257 = .ok (.isub, 1) := by decide +kernel
theorem dX10_tabulates_258 : decode cX10_tabulates 258 = .ok (.putfield 303, 3) := by decide +kernel
theorem dX10_tabulates_261 : decode cX10_tabulates 261 = .ok (.goto (-59), 3) := by decide +kernel
theorem dX10_tabulates_264 : decode cX10_tabulates 264 = .ok (.return_, 1) := by decide +kernel
theorem dX10_demandOf_0 : decode cX10_demandOf 0 = .ok (.iload_n 0, 1) := by decide +kernel
theorem dX10_demandOf_1 : decode cX10_demandOf 1 = .ok (.iload_n 1, 1) := by decide +kernel
theorem dX10_demandOf_2 : decode cX10_demandOf 2 = .ok (.invokestatic 309, 3) := by decide +kernel
theorem dX10_demandOf_5 : decode cX10_demandOf 5 = .ok (.idiv, 1) := by decide +kernel
theorem dX10_demandOf_6 : decode cX10_demandOf 6 = .ok (.iconst 5, 1) := by decide +kernel
theorem dX10_demandOf_7 : decode cX10_demandOf 7 = .ok (.irem, 1) := by decide +kernel
theorem dX10_demandOf_8 : decode cX10_demandOf 8 = .ok (.ireturn, 1) := by decide +kernel
theorem dX10_rows_0 : decode cX10_rows 0 = .ok (.iload_n 1, 1) := by decide +kernel
theorem dX10_rows_1 : decode cX10_rows 1 = .ok (.invokestatic 179, 3) := by decide +kernel
theorem dX10_rows_4 : decode cX10_rows 4 = .ok (.ifCond .ne 10, 3) := by decide +kernel
theorem dX10_rows_7 : decode cX10_rows 7 = .ok (.aload_n 0, 1) := by decide +kernel
theorem dX10_rows_8 : decode cX10_rows 8 = .ok (.bipush (-2), 2) := by decide +kernel
theorem dX10_rows_10 : decode cX10_rows 10 = .ok (.invokevirtual 106, 3) := by decide +kernel
theorem dX10_rows_13 : decode cX10_rows 13 = .ok (.ireturn, 1) := by decide +kernel
theorem dX10_rows_14 : decode cX10_rows 14 = .ok (.aload_n 0, 1) := by decide +kernel
theorem dX10_rows_15 : decode cX10_rows 15 = .ok (.iload_n 1, 1) := by decide +kernel
theorem dX10_rows_16 : decode cX10_rows 16 = .ok (.invokevirtual 312, 3) := by decide +kernel
theorem dX10_rows_19 : decode cX10_rows 19 = .ok (.aload_n 0, 1) := by decide +kernel
theorem dX10_rows_20 : decode cX10_rows 20 = .ok (.getfield 303, 3) := by decide +kernel
theorem dX10_rows_23 : decode cX10_rows 23 = .ok (.ireturn, 1) := by decide +kernel
theorem dX10_hasRow_0 : decode cX10_hasRow 0 = .ok (.iload_n 1, 1) := by decide +kernel
theorem dX10_hasRow_1 : decode cX10_hasRow 1 = .ok (.invokestatic 179, 3) := by decide +kernel
theorem dX10_hasRow_4 : decode cX10_hasRow 4 = .ok (.ifCond .ne 5, 3) := by decide +kernel
theorem dX10_hasRow_7 : decode cX10_hasRow 7 = .ok (.iconst 0, 1) := by decide +kernel
theorem dX10_hasRow_8 : decode cX10_hasRow 8 = .ok (.ireturn, 1) := by decide +kernel
theorem dX10_hasRow_9 : decode cX10_hasRow 9 = .ok (.aload_n 0, 1) := by decide +kernel
theorem dX10_hasRow_10 : decode cX10_hasRow 10 = .ok (.iload_n 1, 1) := by decide +kernel
theorem dX10_hasRow_11 : decode cX10_hasRow 11 = .ok (.invokevirtual 312, 3) := by decide +kernel
theorem dX10_hasRow_14 : decode cX10_hasRow 14 = .ok (.iload_n 2, 1) := by decide +kernel
theorem dX10_hasRow_15 : decode cX10_hasRow 15 = .ok (.iconst 0, 1) := by decide +kernel
theorem dX10_hasRow_16 : decode cX10_hasRow 16 = .ok (.aload_n 0, 1) := by decide +kernel
theorem dX10_hasRow_17 : decode cX10_hasRow 17 = .ok (.getfield 303, 3) := by decide +kernel
theorem dX10_hasRow_20 : decode cX10_hasRow 20 = .ok (.iconst 1, 1) := by decide +kernel
theorem dX10_hasRow_21 : decode cX10_hasRow 21 = .ok (.isub, 1) := by decide +kernel
theorem dX10_hasRow_22 : decode cX10_hasRow 22 = .ok (.invokestatic 98, 3) := by decide +kernel
theorem dX10_hasRow_25 : decode cX10_hasRow 25 = .ok (.ireturn, 1) := by decide +kernel
theorem dX10_match_0 : decode cX10_match 0 = .ok (.iload_n 3, 1) := by decide +kernel
theorem dX10_match_1 : decode cX10_match 1 = .ok (.iconst 0, 1) := by decide +kernel
theorem dX10_match_2 : decode cX10_match 2 = .ok (.iconst 2, 1) := by decide +kernel
theorem dX10_match_3 : decode cX10_match 3 = .ok (.invokestatic 98, 3) := by decide +kernel
theorem dX10_match_6 : decode cX10_match 6 = .ok (.ifCond .eq 25, 3) := by decide +kernel
theorem dX10_match_9 : decode cX10_match 9 = .ok (.aload_n 0, 1) := by decide +kernel
theorem dX10_match_10 : decode cX10_match 10 = .ok (.iload_n 1, 1) := by decide +kernel
theorem dX10_match_11 : decode cX10_match 11 = .ok (.iload_n 2, 1) := by decide +kernel
theorem dX10_match_12 : decode cX10_match 12 = .ok (.invokevirtual 315, 3) := by decide +kernel
theorem dX10_match_15 : decode cX10_match 15 = .ok (.ifCond .eq 16, 3) := by decide +kernel
theorem dX10_match_18 : decode cX10_match 18 = .ok (.aload_n 0, 1) := by decide +kernel
theorem dX10_match_19 : decode cX10_match 19 = .ok (.getfield 86, 3) := by decide +kernel
theorem dX10_match_22 : decode cX10_match 22 = .ok (.iload_n 2, 1) := by decide +kernel
theorem dX10_match_23 : decode cX10_match 23 = .ok (.iaload, 1) := by decide +kernel
theorem dX10_match_24 : decode cX10_match 24 = .ok (.iload_n 3, 1) := by decide +kernel
theorem dX10_match_25 : decode cX10_match 25 = .ok (.invokestatic 319, 3) := by decide +kernel
theorem dX10_match_28 : decode cX10_match 28 = .ok (.goto 9, 3) := by decide +kernel
theorem dX10_match_31 : decode cX10_match 31 = .ok (.aload_n 0, 1) := by decide +kernel
theorem dX10_match_32 : decode cX10_match 32 = .ok (.bipush (-2), 2) := by decide +kernel
theorem dX10_match_34 : decode cX10_match 34 = .ok (.invokevirtual 106, 3) := by decide +kernel
theorem dX10_match_37 : decode cX10_match 37 = .ok (.ireturn, 1) := by decide +kernel
theorem dX10_hasAction_0 : decode cX10_hasAction 0 = .ok (.iload_n 2, 1) := by decide +kernel
theorem dX10_hasAction_1 : decode cX10_hasAction 1 = .ok (.bipush 64, 2) := by decide +kernel
theorem dX10_hasAction_3 : decode cX10_hasAction 3 = .ok (.if_icmp .ge 17, 3) := by decide +kernel
theorem dX10_hasAction_6 : decode cX10_hasAction 6 = .ok (.aload_n 0, 1) := by decide +kernel
theorem dX10_hasAction_7 : decode cX10_hasAction 7 = .ok (.getfield 68, 3) := by decide +kernel
theorem dX10_hasAction_10 : decode cX10_hasAction 10 = .ok (.aload_n 0, 1) := by decide +kernel
theorem dX10_hasAction_11 : decode cX10_hasAction 11 = .ok (.getfield 89, 3) := by decide +kernel
theorem dX10_hasAction_14 : decode cX10_hasAction 14 = .ok (.iload_n 1, 1) := by decide +kernel
theorem dX10_hasAction_15 : decode cX10_hasAction 15 = .ok (.iaload, 1) := by decide +kernel
theorem dX10_hasAction_16 : decode cX10_hasAction 16 = .ok (.laload, 1) := by decide +kernel
theorem dX10_hasAction_17 : decode cX10_hasAction 17 = .ok (.goto 14, 3) := by decide +kernel
theorem dX10_hasAction_20 : decode cX10_hasAction 20 = .ok (.aload_n 0, 1) := by decide +kernel
theorem dX10_hasAction_21 : decode cX10_hasAction 21 = .ok (.getfield 71, 3) := by decide +kernel
theorem dX10_hasAction_24 : decode cX10_hasAction 24 = .ok (.aload_n 0, 1) := by decide +kernel
theorem dX10_hasAction_25 : decode cX10_hasAction 25 = .ok (.getfield 89, 3) := by decide +kernel
theorem dX10_hasAction_28 : decode cX10_hasAction 28 = .ok (.iload_n 1, 1) := by decide +kernel
theorem dX10_hasAction_29 : decode cX10_hasAction 29 = .ok (.iaload, 1) := by decide +kernel
theorem dX10_hasAction_30 : decode cX10_hasAction 30 = .ok (.laload, 1) := by decide +kernel
theorem dX10_hasAction_31 : decode cX10_hasAction 31 = .ok (.lstore_n 3, 1) := by decide +kernel
theorem dX10_hasAction_32 : decode cX10_hasAction 32 = .ok (.lload_n 3, 1) := by decide +kernel
theorem dX10_hasAction_33 : decode cX10_hasAction 33 = .ok (.iload_n 2, 1) := by decide +kernel
theorem dX10_hasAction_34 : decode cX10_hasAction 34 = .ok (.bipush 64, 2) := by decide +kernel
theorem dX10_hasAction_36 : decode cX10_hasAction 36 = .ok (.irem, 1) := by decide +kernel
theorem dX10_hasAction_37 : decode cX10_hasAction 37 = .ok (.lshr, 1) := by decide +kernel
theorem dX10_hasAction_38 : decode cX10_hasAction 38 = .ok (.lconst 1, 1) := by decide +kernel
theorem dX10_hasAction_39 : decode cX10_hasAction 39 = .ok (.land, 1) := by decide +kernel
theorem dX10_hasAction_40 : decode cX10_hasAction 40 = .ok (.lconst 1, 1) := by decide +kernel
theorem dX10_hasAction_41 : decode cX10_hasAction 41 = .ok (.lcmp, 1) := by decide +kernel
theorem dX10_hasAction_42 : decode cX10_hasAction 42 = .ok (.ifCond .ne 7, 3) := by decide +kernel
theorem dX10_hasAction_45 : decode cX10_hasAction 45 = .ok (.iconst 1, 1) := by decide +kernel
theorem dX10_hasAction_46 : decode cX10_hasAction 46 = .ok (.goto 4, 3) := by decide +kernel
theorem dX10_hasAction_49 : decode cX10_hasAction 49 = .ok (.iconst 0, 1) := by decide +kernel
theorem dX10_hasAction_50 : decode cX10_hasAction 50 = .ok (.ireturn, 1) := by decide +kernel
theorem dX10_actionAt_0 : decode cX10_actionAt 0 = .ok (.iconst 0, 1) := by decide +kernel
theorem dX10_actionAt_1 : decode cX10_actionAt 1 = .ok (.istore_n 3, 1) := by decide +kernel
theorem dX10_actionAt_2 : decode cX10_actionAt 2 = .ok (.iconst 0, 1) := by decide +kernel
theorem dX10_actionAt_3 : decode cX10_actionAt 3 = .ok (.istore 4, 2) := by decide +kernel
theorem dX10_actionAt_5 : decode cX10_actionAt 5 = .ok (.iload 4, 2) := by decide +kernel
theorem dX10_actionAt_7 : decode cX10_actionAt 7 = .ok (.bipush 125, 2) := by decide +kernel
theorem dX10_actionAt_9 : decode cX10_actionAt 9 = .ok (.if_icmp .ge 30, 3) := by decide +kernel
theorem dX10_actionAt_12 : decode cX10_actionAt 12 = .ok (.aload_n 0, 1) := by decide +kernel
theorem dX10_actionAt_13 : decode cX10_actionAt 13 = .ok (.iload_n 1, 1) := by decide +kernel
theorem dX10_actionAt_14 : decode cX10_actionAt 14 = .ok (.iload 4, 2) := by decide +kernel
theorem dX10_actionAt_16 : decode cX10_actionAt 16 = .ok (.invokevirtual 322, 3) := by decide +kernel
theorem dX10_actionAt_19 : decode cX10_actionAt 19 = .ok (.ifCond .eq 14, 3) := by decide +kernel
theorem dX10_actionAt_22 : decode cX10_actionAt 22 = .ok (.iload_n 3, 1) := by decide +kernel
theorem dX10_actionAt_23 : decode cX10_actionAt 23 = .ok (.iload_n 2, 1) := by decide +kernel
theorem dX10_actionAt_24 : decode cX10_actionAt 24 = .ok (.if_icmp .ne 6, 3) := by decide +kernel
theorem dX10_actionAt_27 : decode cX10_actionAt 27 = .ok (.iload 4, 2) := by decide +kernel
theorem dX10_actionAt_29 : decode cX10_actionAt 29 = .ok (.ireturn, 1) := by decide +kernel
theorem dX10_actionAt_30 : decode cX10_actionAt 30 = .ok (.iinc 3 1, 3) := by decide +kernel
theorem dX10_actionAt_33 : decode cX10_actionAt 33 = .ok (.iinc 4 1, 3) := by decide +kernel
theorem dX10_actionAt_36 : decode cX10_actionAt 36 = .ok (.goto (-31), 3) := by decide +kernel
theorem dX10_actionAt_39 : decode cX10_actionAt 39 = .ok (.iload_n 2, 1) := by decide +kernel
theorem dX10_actionAt_40 : decode cX10_actionAt 40 = .ok (.iconst (-1), 1) := by decide +kernel
theorem dX10_actionAt_41 : decode cX10_actionAt 41 = .ok (.if_icmp .ne 7, 3) := by decide +kernel
theorem dX10_actionAt_44 : decode cX10_actionAt 44 = .ok (.iload_n 3, 1) := by decide +kernel
theorem dX10_actionAt_45 : decode cX10_actionAt 45 = .ok (.goto 4, 3) := by decide +kernel
theorem dX10_actionAt_48 : decode cX10_actionAt 48 = .ok (.iconst (-1), 1) := by decide +kernel
theorem dX10_actionAt_49 : decode cX10_actionAt 49 = .ok (.ireturn, 1) := by decide +kernel
theorem dX10_action_0 : decode cX10_action 0 = .ok (.iload_n 3, 1) := by decide +kernel
theorem dX10_action_1 : decode cX10_action 1 = .ok (.iconst (-1), 1) := by decide +kernel
theorem dX10_action_2 : decode cX10_action 2 = .ok (.if_icmp .lt 21, 3) := by decide +kernel
theorem dX10_action_5 : decode cX10_action 5 = .ok (.aload_n 0, 1) := by decide +kernel
theorem dX10_action_6 : decode cX10_action 6 = .ok (.iload_n 1, 1) := by decide +kernel
theorem dX10_action_7 : decode cX10_action 7 = .ok (.iload_n 2, 1) := by decide +kernel
theorem dX10_action_8 : decode cX10_action 8 = .ok (.invokevirtual 315, 3) := by decide +kernel
theorem dX10_action_11 : decode cX10_action 11 = .ok (.ifCond .eq 12, 3) := by decide +kernel
theorem dX10_action_14 : decode cX10_action 14 = .ok (.aload_n 0, 1) := by decide +kernel
theorem dX10_action_15 : decode cX10_action 15 = .ok (.iload_n 2, 1) := by decide +kernel
theorem dX10_action_16 : decode cX10_action 16 = .ok (.iload_n 3, 1) := by decide +kernel
theorem dX10_action_17 : decode cX10_action 17 = .ok (.invokevirtual 325, 3) := by decide +kernel
theorem dX10_action_20 : decode cX10_action 20 = .ok (.goto 9, 3) := by decide +kernel
theorem dX10_action_23 : decode cX10_action 23 = .ok (.aload_n 0, 1) := by decide +kernel
theorem dX10_action_24 : decode cX10_action 24 = .ok (.bipush (-2), 2) := by decide +kernel
theorem dX10_action_26 : decode cX10_action 26 = .ok (.invokevirtual 106, 3) := by decide +kernel
theorem dX10_action_29 : decode cX10_action 29 = .ok (.ireturn, 1) := by decide +kernel
theorem dX10_hitOf_0 : decode cX10_hitOf 0 = .ok (.iconst 0, 1) := by decide +kernel
theorem dX10_hitOf_1 : decode cX10_hitOf 1 = .ok (.istore_n 2, 1) := by decide +kernel
theorem dX10_hitOf_2 : decode cX10_hitOf 2 = .ok (.iload_n 2, 1) := by decide +kernel
theorem dX10_hitOf_3 : decode cX10_hitOf 3 = .ok (.aload_n 0, 1) := by decide +kernel
theorem dX10_hitOf_4 : decode cX10_hitOf 4 = .ok (.getfield 303, 3) := by decide +kernel
theorem dX10_hitOf_7 : decode cX10_hitOf 7 = .ok (.if_icmp .ge 72, 3) := by decide +kernel
theorem dX10_hitOf_10 : decode cX10_hitOf 10 = .ok (.iconst 1, 1) := by decide +kernel
theorem dX10_hitOf_11 : decode cX10_hitOf 11 = .ok (.istore_n 3, 1) := by decide +kernel
theorem dX10_hitOf_12 : decode cX10_hitOf 12 = .ok (.iconst 0, 1) := by decide +kernel
theorem dX10_hitOf_13 : decode cX10_hitOf 13 = .ok (.istore 4, 2) := by decide +kernel
theorem dX10_hitOf_15 : decode cX10_hitOf 15 = .ok (.iload 4, 2) := by decide +kernel
theorem dX10_hitOf_17 : decode cX10_hitOf 17 = .ok (.iconst 3, 1) := by decide +kernel
theorem dX10_hitOf_18 : decode cX10_hitOf 18 = .ok (.if_icmp .ge 49, 3) := by decide +kernel
theorem dX10_hitOf_21 : decode cX10_hitOf 21 = .ok (.aload_n 0, 1) := by decide +kernel
theorem dX10_hitOf_22 : decode cX10_hitOf 22 = .ok (.getfield 86, 3) := by decide +kernel
theorem dX10_hitOf_25 : decode cX10_hitOf 25 = .ok (.iload_n 2, 1) := by decide +kernel
theorem dX10_hitOf_26 : decode cX10_hitOf 26 = .ok (.iaload, 1) := by decide +kernel
theorem dX10_hitOf_27 : decode cX10_hitOf 27 = .ok (.iload 4, 2) := by decide +kernel
theorem dX10_hitOf_29 : decode cX10_hitOf 29 = .ok (.invokestatic 319, 3) := by decide +kernel
theorem dX10_hitOf_32 : decode cX10_hitOf 32 = .ok (.istore 5, 2) := by decide +kernel
theorem dX10_hitOf_34 : decode cX10_hitOf 34 = .ok (.iload_n 3, 1) := by decide +kernel
theorem dX10_hitOf_35 : decode cX10_hitOf 35 = .ok (.ifCond .eq 24, 3) := by decide +kernel
theorem dX10_hitOf_38 : decode cX10_hitOf 38 = .ok (.iload 5, 2) := by decide +kernel
theorem dX10_hitOf_40 : decode cX10_hitOf 40 = .ok (.iconst 4, 1) := by decide +kernel
theorem dX10_hitOf_41 : decode cX10_hitOf 41 = .ok (.if_icmp .eq 14, 3) := by decide +kernel
theorem dX10_hitOf_44 : decode cX10_hitOf 44 = .ok (.iload 5, 2) := by decide +kernel
theorem dX10_hitOf_46 : decode cX10_hitOf 46 = .ok (.iload_n 1, 1) := by decide +kernel
theorem dX10_hitOf_47 : decode cX10_hitOf 47 = .ok (.iload 4, 2) := by decide +kernel
theorem dX10_hitOf_49 : decode cX10_hitOf 49 = .ok (.invokestatic 216, 3) := by decide +kernel
theorem dX10_hitOf_52 : decode cX10_hitOf 52 = .ok (.if_icmp .ne 7, 3) := by decide +kernel
theorem dX10_hitOf_55 : decode cX10_hitOf 55 = .ok (.iconst 1, 1) := by decide +kernel
theorem dX10_hitOf_56 : decode cX10_hitOf 56 = .ok (.goto 4, 3) := by decide +kernel
theorem dX10_hitOf_59 : decode cX10_hitOf 59 = .ok (.iconst 0, 1) := by decide +kernel
theorem dX10_hitOf_60 : decode cX10_hitOf 60 = .ok (.istore_n 3, 1) := by decide +kernel
theorem dX10_hitOf_61 : decode cX10_hitOf 61 = .ok (.iinc 4 1, 3) := by decide +kernel
theorem dX10_hitOf_64 : decode cX10_hitOf 64 = .ok (.goto (-49), 3) := by decide +kernel
theorem dX10_hitOf_67 : decode cX10_hitOf 67 = .ok (.iload_n 3, 1) := by decide +kernel
theorem dX10_hitOf_68 : decode cX10_hitOf 68 = .ok (.ifCond .eq 5, 3) := by decide +kernel
theorem dX10_hitOf_71 : decode cX10_hitOf 71 = .ok (.iload_n 2, 1) := by decide +kernel
theorem dX10_hitOf_72 : decode cX10_hitOf 72 = .ok (.ireturn, 1) := by decide +kernel
theorem dX10_hitOf_73 : decode cX10_hitOf 73 = .ok (.iinc 2 1, 3) := by decide +kernel
theorem dX10_hitOf_76 : decode cX10_hitOf 76 = .ok (.goto (-74), 3) := by decide +kernel
theorem dX10_hitOf_79 : decode cX10_hitOf 79 = .ok (.iconst (-1), 1) := by decide +kernel
theorem dX10_hitOf_80 : decode cX10_hitOf 80 = .ok (.ireturn, 1) := by decide +kernel
theorem dX10_hit_0 : decode cX10_hit 0 = .ok (.iload_n 1, 1) := by decide +kernel
theorem dX10_hit_1 : decode cX10_hit 1 = .ok (.invokestatic 179, 3) := by decide +kernel
theorem dX10_hit_4 : decode cX10_hit 4 = .ok (.ifCond .eq 10, 3) := by decide +kernel
theorem dX10_hit_7 : decode cX10_hit 7 = .ok (.iload_n 2, 1) := by decide +kernel
theorem dX10_hit_8 : decode cX10_hit 8 = .ok (.invokestatic 238, 3) := by decide +kernel
theorem dX10_hit_11 : decode cX10_hit 11 = .ok (.ifCond .ne 10, 3) := by decide +kernel
theorem dX10_hit_14 : decode cX10_hit 14 = .ok (.aload_n 0, 1) := by decide +kernel
theorem dX10_hit_15 : decode cX10_hit 15 = .ok (.bipush (-2), 2) := by decide +kernel
theorem dX10_hit_17 : decode cX10_hit 17 = .ok (.invokevirtual 106, 3) := by decide +kernel
theorem dX10_hit_20 : decode cX10_hit 20 = .ok (.ireturn, 1) := by decide +kernel
theorem dX10_hit_21 : decode cX10_hit 21 = .ok (.aload_n 0, 1) := by decide +kernel
theorem dX10_hit_22 : decode cX10_hit 22 = .ok (.iload_n 1, 1) := by decide +kernel
theorem dX10_hit_23 : decode cX10_hit 23 = .ok (.invokevirtual 312, 3) := by decide +kernel
theorem dX10_hit_26 : decode cX10_hit 26 = .ok (.aload_n 0, 1) := by decide +kernel
theorem dX10_hit_27 : decode cX10_hit 27 = .ok (.iload_n 2, 1) := by decide +kernel
theorem dX10_hit_28 : decode cX10_hit 28 = .ok (.invokevirtual 328, 3) := by decide +kernel
theorem dX10_hit_31 : decode cX10_hit 31 = .ok (.ireturn, 1) := by decide +kernel
theorem dX10_hits_0 : decode cX10_hits 0 = .ok (.aload_n 0, 1) := by decide +kernel
theorem dX10_hits_1 : decode cX10_hits 1 = .ok (.iload_n 1, 1) := by decide +kernel
theorem dX10_hits_2 : decode cX10_hits 2 = .ok (.iload_n 2, 1) := by decide +kernel
theorem dX10_hits_3 : decode cX10_hits 3 = .ok (.invokevirtual 315, 3) := by decide +kernel
theorem dX10_hits_6 : decode cX10_hits 6 = .ok (.ifCond .ne 10, 3) := by decide +kernel
theorem dX10_hits_9 : decode cX10_hits 9 = .ok (.aload_n 0, 1) := by decide +kernel
theorem dX10_hits_10 : decode cX10_hits 10 = .ok (.bipush (-2), 2) := by decide +kernel
theorem dX10_hits_12 : decode cX10_hits 12 = .ok (.invokevirtual 106, 3) := by decide +kernel
theorem dX10_hits_15 : decode cX10_hits 15 = .ok (.ireturn, 1) := by decide +kernel
theorem dX10_hits_16 : decode cX10_hits 16 = .ok (.iconst 0, 1) := by decide +kernel
theorem dX10_hits_17 : decode cX10_hits 17 = .ok (.istore_n 3, 1) := by decide +kernel
theorem dX10_hits_18 : decode cX10_hits 18 = .ok (.iconst 0, 1) := by decide +kernel
theorem dX10_hits_19 : decode cX10_hits 19 = .ok (.istore 4, 2) := by decide +kernel
theorem dX10_hits_21 : decode cX10_hits 21 = .ok (.iload 4, 2) := by decide +kernel
theorem dX10_hits_23 : decode cX10_hits 23 = .ok (.bipush 64, 2) := by decide +kernel
theorem dX10_hits_25 : decode cX10_hits 25 = .ok (.if_icmp .ge 27, 3) := by decide +kernel
theorem dX10_hits_28 : decode cX10_hits 28 = .ok (.iload_n 3, 1) := by decide +kernel
theorem dX10_hits_29 : decode cX10_hits 29 = .ok (.aload_n 0, 1) := by decide +kernel
theorem dX10_hits_30 : decode cX10_hits 30 = .ok (.iload 4, 2) := by decide +kernel
theorem dX10_hits_32 : decode cX10_hits 32 = .ok (.invokevirtual 328, 3) := by decide +kernel
theorem dX10_hits_35 : decode cX10_hits 35 = .ok (.iload_n 2, 1) := by decide +kernel
theorem dX10_hits_36 : decode cX10_hits 36 = .ok (.if_icmp .ne 7, 3) := by decide +kernel
theorem dX10_hits_39 : decode cX10_hits 39 = .ok (.iconst 1, 1) := by decide +kernel
theorem dX10_hits_40 : decode cX10_hits 40 = .ok (.goto 4, 3) := by decide +kernel
theorem dX10_hits_43 : decode cX10_hits 43 = .ok (.iconst 0, 1) := by decide +kernel
theorem dX10_hits_44 : decode cX10_hits 44 = .ok (.iadd, 1) := by decide +kernel
theorem dX10_hits_45 : decode cX10_hits 45 = .ok (.istore_n 3, 1) := by decide +kernel
theorem dX10_hits_46 : decode cX10_hits 46 = .ok (.iinc 4 1, 3) := by decide +kernel
theorem dX10_hits_49 : decode cX10_hits 49 = .ok (.goto (-28), 3) := by decide +kernel
theorem dX10_hits_52 : decode cX10_hits 52 = .ok (.iload_n 3, 1) := by decide +kernel
theorem dX10_hits_53 : decode cX10_hits 53 = .ok (.ireturn, 1) := by decide +kernel
theorem dX10_errorCount_0 : decode cX10_errorCount 0 = .ok (.iload_n 1, 1) := by decide +kernel
theorem dX10_errorCount_1 : decode cX10_errorCount 1 = .ok (.bipush (-6), 2) := by decide +kernel
theorem dX10_errorCount_3 : decode cX10_errorCount 3 = .ok (.bipush (-2), 2) := by decide +kernel
theorem dX10_errorCount_5 : decode cX10_errorCount 5 = .ok (.invokestatic 98, 3) := by decide +kernel
theorem dX10_errorCount_8 : decode cX10_errorCount 8 = .ok (.ifCond .eq 15, 3) := by decide +kernel
theorem dX10_errorCount_11 : decode cX10_errorCount 11 = .ok (.aload_n 0, 1) := by decide +kernel
theorem dX10_errorCount_12 : decode cX10_errorCount 12 = .ok (.getfield 16, 3) := by decide +kernel
theorem dX10_errorCount_15 : decode cX10_errorCount 15 = .ok (.bipush (-2), 2) := by decide +kernel
theorem dX10_errorCount_17 : decode cX10_errorCount 17 = .ok (.iload_n 1, 1) := by decide +kernel
theorem dX10_errorCount_18 : decode cX10_errorCount 18 = .ok (.isub, 1) := by decide +kernel
theorem dX10_errorCount_19 : decode cX10_errorCount 19 = .ok (.iaload, 1) := by decide +kernel
theorem dX10_errorCount_20 : decode cX10_errorCount 20 = .ok (.goto 9, 3) := by decide +kernel
theorem dX10_errorCount_23 : decode cX10_errorCount 23 = .ok (.aload_n 0, 1) := by decide +kernel
theorem dX10_errorCount_24 : decode cX10_errorCount 24 = .ok (.bipush (-2), 2) := by decide +kernel
theorem dX10_errorCount_26 : decode cX10_errorCount 26 = .ok (.invokevirtual 106, 3) := by decide +kernel
theorem dX10_errorCount_29 : decode cX10_errorCount 29 = .ok (.ireturn, 1) := by decide +kernel
theorem dX10_mix_0 : decode cX10_mix 0 = .ok (.aload_n 0, 1) := by decide +kernel
theorem dX10_mix_1 : decode cX10_mix 1 = .ok (.ldc2_w 331, 3) := by decide +kernel
theorem dX10_mix_4 : decode cX10_mix 4 = .ok (.aload_n 0, 1) := by decide +kernel
theorem dX10_mix_5 : decode cX10_mix 5 = .ok (.getfield 333, 3) := by decide +kernel
theorem dX10_mix_8 : decode cX10_mix 8 = .ok (.lmul, 1) := by decide +kernel
theorem dX10_mix_9 : decode cX10_mix 9 = .ok (.lload_n 1, 1) := by decide +kernel
theorem dX10_mix_10 : decode cX10_mix 10 = .ok (.ladd, 1) := by decide +kernel
theorem dX10_mix_11 : decode cX10_mix 11 = .ok (.putfield 333, 3) := by decide +kernel
theorem dX10_mix_14 : decode cX10_mix 14 = .ok (.return_, 1) := by decide +kernel
theorem dX10_mixSlot_0 : decode cX10_mixSlot 0 = .ok (.aload_n 0, 1) := by decide +kernel
theorem dX10_mixSlot_1 : decode cX10_mixSlot 1 = .ok (.aload_n 0, 1) := by decide +kernel
theorem dX10_mixSlot_2 : decode cX10_mixSlot 2 = .ok (.getfield 7, 3) := by decide +kernel
theorem dX10_mixSlot_5 : decode cX10_mixSlot 5 = .ok (.iload_n 1, 1) := by decide +kernel
theorem dX10_mixSlot_6 : decode cX10_mixSlot 6 = .ok (.iaload, 1) := by decide +kernel
theorem dX10_mixSlot_7 : decode cX10_mixSlot 7 = .ok (.i2l, 1) := by decide +kernel
theorem dX10_mixSlot_8 : decode cX10_mixSlot 8 = .ok (.invokevirtual 337, 3) := by decide +kernel
theorem dX10_mixSlot_11 : decode cX10_mixSlot 11 = .ok (.aload_n 0, 1) := by decide +kernel
theorem dX10_mixSlot_12 : decode cX10_mixSlot 12 = .ok (.iload_n 1, 1) := by decide +kernel
theorem dX10_mixSlot_13 : decode cX10_mixSlot 13 = .ok (.invokevirtual 210, 3) := by decide +kernel
theorem dX10_mixSlot_16 : decode cX10_mixSlot 16 = .ok (.iconst 0, 1) := by decide +kernel
theorem dX10_mixSlot_17 : decode cX10_mixSlot 17 = .ok (.istore_n 2, 1) := by decide +kernel
theorem dX10_mixSlot_18 : decode cX10_mixSlot 18 = .ok (.iload_n 2, 1) := by decide +kernel
theorem dX10_mixSlot_19 : decode cX10_mixSlot 19 = .ok (.aload_n 0, 1) := by decide +kernel
theorem dX10_mixSlot_20 : decode cX10_mixSlot 20 = .ok (.getfield 194, 3) := by decide +kernel
theorem dX10_mixSlot_23 : decode cX10_mixSlot 23 = .ok (.if_icmp .ge 20, 3) := by decide +kernel
theorem dX10_mixSlot_26 : decode cX10_mixSlot 26 = .ok (.aload_n 0, 1) := by decide +kernel
theorem dX10_mixSlot_27 : decode cX10_mixSlot 27 = .ok (.aload_n 0, 1) := by decide +kernel
theorem dX10_mixSlot_28 : decode cX10_mixSlot 28 = .ok (.getfield 52, 3) := by decide +kernel
theorem dX10_mixSlot_31 : decode cX10_mixSlot 31 = .ok (.iload_n 2, 1) := by decide +kernel
theorem dX10_mixSlot_32 : decode cX10_mixSlot 32 = .ok (.iaload, 1) := by decide +kernel
theorem dX10_mixSlot_33 : decode cX10_mixSlot 33 = .ok (.i2l, 1) := by decide +kernel
theorem dX10_mixSlot_34 : decode cX10_mixSlot 34 = .ok (.invokevirtual 337, 3) := by decide +kernel
theorem dX10_mixSlot_37 : decode cX10_mixSlot 37 = .ok (.iinc 2 1, 3) := by decide +kernel
theorem dX10_mixSlot_40 : decode cX10_mixSlot 40 = .ok (.goto (-22), 3) := by decide +kernel
theorem dX10_mixSlot_43 : decode cX10_mixSlot 43 = .ok (.aload_n 0, 1) := by decide +kernel
theorem dX10_mixSlot_44 : decode cX10_mixSlot 44 = .ok (.aload_n 0, 1) := by decide +kernel
theorem dX10_mixSlot_45 : decode cX10_mixSlot 45 = .ok (.iload_n 1, 1) := by decide +kernel
theorem dX10_mixSlot_46 : decode cX10_mixSlot 46 = .ok (.iconst 0, 1) := by decide +kernel
theorem dX10_mixSlot_47 : decode cX10_mixSlot 47 = .ok (.invokevirtual 241, 3) := by decide +kernel
theorem dX10_mixSlot_50 : decode cX10_mixSlot 50 = .ok (.invokevirtual 337, 3) := by decide +kernel
theorem dX10_mixSlot_53 : decode cX10_mixSlot 53 = .ok (.aload_n 0, 1) := by decide +kernel
theorem dX10_mixSlot_54 : decode cX10_mixSlot 54 = .ok (.aload_n 0, 1) := by decide +kernel
theorem dX10_mixSlot_55 : decode cX10_mixSlot 55 = .ok (.iload_n 1, 1) := by decide +kernel
theorem dX10_mixSlot_56 : decode cX10_mixSlot 56 = .ok (.bipush 27, 2) := by decide +kernel
theorem dX10_mixSlot_58 : decode cX10_mixSlot 58 = .ok (.invokevirtual 241, 3) := by decide +kernel
theorem dX10_mixSlot_61 : decode cX10_mixSlot 61 = .ok (.invokevirtual 337, 3) := by decide +kernel
theorem dX10_mixSlot_64 : decode cX10_mixSlot 64 = .ok (.aload_n 0, 1) := by decide +kernel
theorem dX10_mixSlot_65 : decode cX10_mixSlot 65 = .ok (.aload_n 0, 1) := by decide +kernel
theorem dX10_mixSlot_66 : decode cX10_mixSlot 66 = .ok (.iload_n 1, 1) := by decide +kernel
theorem dX10_mixSlot_67 : decode cX10_mixSlot 67 = .ok (.bipush 63, 2) := by decide +kernel
theorem dX10_mixSlot_69 : decode cX10_mixSlot 69 = .ok (.invokevirtual 241, 3) := by decide +kernel
theorem dX10_mixSlot_72 : decode cX10_mixSlot 72 = .ok (.invokevirtual 337, 3) := by decide +kernel
theorem dX10_mixSlot_75 : decode cX10_mixSlot 75 = .ok (.aload_n 0, 1) := by decide +kernel
theorem dX10_mixSlot_76 : decode cX10_mixSlot 76 = .ok (.aload_n 0, 1) := by decide +kernel
theorem dX10_mixSlot_77 : decode cX10_mixSlot 77 = .ok (.iload_n 1, 1) := by decide +kernel
theorem dX10_mixSlot_78 : decode cX10_mixSlot 78 = .ok (.invokevirtual 244, 3) := by decide +kernel
theorem dX10_mixSlot_81 : decode cX10_mixSlot 81 = .ok (.invokevirtual 337, 3) := by decide +kernel
theorem dX10_mixSlot_84 : decode cX10_mixSlot 84 = .ok (.aload_n 0, 1) := by decide +kernel
theorem dX10_mixSlot_85 : decode cX10_mixSlot 85 = .ok (.aload_n 0, 1) := by decide +kernel
theorem dX10_mixSlot_86 : decode cX10_mixSlot 86 = .ok (.iload_n 1, 1) := by decide +kernel
theorem dX10_mixSlot_87 : decode cX10_mixSlot 87 = .ok (.invokevirtual 252, 3) := by decide +kernel
theorem dX10_mixSlot_90 : decode cX10_mixSlot 90 = .ok (.i2l, 1) := by decide +kernel
theorem dX10_mixSlot_91 : decode cX10_mixSlot 91 = .ok (.invokevirtual 337, 3) := by decide +kernel
theorem dX10_mixSlot_94 : decode cX10_mixSlot 94 = .ok (.aload_n 0, 1) := by decide +kernel
theorem dX10_mixSlot_95 : decode cX10_mixSlot 95 = .ok (.aload_n 0, 1) := by decide +kernel
theorem dX10_mixSlot_96 : decode cX10_mixSlot 96 = .ok (.iload_n 1, 1) := by decide +kernel
theorem dX10_mixSlot_97 : decode cX10_mixSlot 97 = .ok (.invokevirtual 255, 3) := by decide +kernel
theorem dX10_mixSlot_100 : decode cX10_mixSlot 100 = .ok (.i2l, 1) := by decide +kernel
theorem dX10_mixSlot_101 : decode cX10_mixSlot 101 = .ok (.invokevirtual 337, 3) := by decide +kernel
theorem dX10_mixSlot_104 : decode cX10_mixSlot 104 = .ok (.aload_n 0, 1) := by decide +kernel
theorem dX10_mixSlot_105 : decode cX10_mixSlot 105 = .ok (.aload_n 0, 1) := by decide +kernel
theorem dX10_mixSlot_106 : decode cX10_mixSlot 106 = .ok (.iload_n 1, 1) := by decide +kernel
theorem dX10_mixSlot_107 : decode cX10_mixSlot 107 = .ok (.invokevirtual 294, 3) := by decide +kernel
theorem dX10_mixSlot_110 : decode cX10_mixSlot 110 = .ok (.i2l, 1) := by decide +kernel
theorem dX10_mixSlot_111 : decode cX10_mixSlot 111 = .ok (.invokevirtual 337, 3) := by decide +kernel
theorem dX10_mixSlot_114 : decode cX10_mixSlot 114 = .ok (.aload_n 0, 1) := by decide +kernel
theorem dX10_mixSlot_115 : decode cX10_mixSlot 115 = .ok (.aload_n 0, 1) := by decide +kernel
theorem dX10_mixSlot_116 : decode cX10_mixSlot 116 = .ok (.iload_n 1, 1) := by decide +kernel
theorem dX10_mixSlot_117 : decode cX10_mixSlot 117 = .ok (.invokevirtual 297, 3) := by decide +kernel
theorem dX10_mixSlot_120 : decode cX10_mixSlot 120 = .ok (.i2l, 1) := by decide +kernel
theorem dX10_mixSlot_121 : decode cX10_mixSlot 121 = .ok (.invokevirtual 337, 3) := by decide +kernel
theorem dX10_mixSlot_124 : decode cX10_mixSlot 124 = .ok (.aload_n 0, 1) := by decide +kernel
theorem dX10_mixSlot_125 : decode cX10_mixSlot 125 = .ok (.aload_n 0, 1) := by decide +kernel
theorem dX10_mixSlot_126 : decode cX10_mixSlot 126 = .ok (.iload_n 1, 1) := by decide +kernel
theorem dX10_mixSlot_127 : decode cX10_mixSlot 127 = .ok (.invokevirtual 300, 3) := by decide +kernel
theorem dX10_mixSlot_130 : decode cX10_mixSlot 130 = .ok (.i2l, 1) := by decide +kernel
theorem dX10_mixSlot_131 : decode cX10_mixSlot 131 = .ok (.invokevirtual 337, 3) := by decide +kernel
theorem dX10_mixSlot_134 : decode cX10_mixSlot 134 = .ok (.aload_n 0, 1) := by decide +kernel
theorem dX10_mixSlot_135 : decode cX10_mixSlot 135 = .ok (.iload_n 1, 1) := by decide +kernel
theorem dX10_mixSlot_136 : decode cX10_mixSlot 136 = .ok (.invokevirtual 312, 3) := by decide +kernel
theorem dX10_mixSlot_139 : decode cX10_mixSlot 139 = .ok (.aload_n 0, 1) := by decide +kernel
theorem dX10_mixSlot_140 : decode cX10_mixSlot 140 = .ok (.aload_n 0, 1) := by decide +kernel
theorem dX10_mixSlot_141 : decode cX10_mixSlot 141 = .ok (.getfield 303, 3) := by decide +kernel
theorem dX10_mixSlot_144 : decode cX10_mixSlot 144 = .ok (.i2l, 1) := by decide +kernel
theorem dX10_mixSlot_145 : decode cX10_mixSlot 145 = .ok (.invokevirtual 337, 3) := by decide +kernel
theorem dX10_mixSlot_148 : decode cX10_mixSlot 148 = .ok (.iconst 0, 1) := by decide +kernel
theorem dX10_mixSlot_149 : decode cX10_mixSlot 149 = .ok (.istore_n 2, 1) := by decide +kernel
theorem dX10_mixSlot_150 : decode cX10_mixSlot 150 = .ok (.iload_n 2, 1) := by decide +kernel
theorem dX10_mixSlot_151 : decode cX10_mixSlot 151 = .ok (.aload_n 0, 1) := by decide +kernel
theorem dX10_mixSlot_152 : decode cX10_mixSlot 152 = .ok (.getfield 303, 3) := by decide +kernel
theorem dX10_mixSlot_155 : decode cX10_mixSlot 155 = .ok (.if_icmp .ge 66, 3) := by decide +kernel
theorem dX10_mixSlot_158 : decode cX10_mixSlot 158 = .ok (.iconst 0, 1) := by decide +kernel
theorem dX10_mixSlot_159 : decode cX10_mixSlot 159 = .ok (.istore_n 3, 1) := by decide +kernel
theorem dX10_mixSlot_160 : decode cX10_mixSlot 160 = .ok (.iload_n 3, 1) := by decide +kernel
theorem dX10_mixSlot_161 : decode cX10_mixSlot 161 = .ok (.iconst 3, 1) := by decide +kernel
theorem dX10_mixSlot_162 : decode cX10_mixSlot 162 = .ok (.if_icmp .ge 24, 3) := by decide +kernel
theorem dX10_mixSlot_165 : decode cX10_mixSlot 165 = .ok (.aload_n 0, 1) := by decide +kernel
theorem dX10_mixSlot_166 : decode cX10_mixSlot 166 = .ok (.aload_n 0, 1) := by decide +kernel
theorem dX10_mixSlot_167 : decode cX10_mixSlot 167 = .ok (.getfield 86, 3) := by decide +kernel
theorem dX10_mixSlot_170 : decode cX10_mixSlot 170 = .ok (.iload_n 2, 1) := by decide +kernel
theorem dX10_mixSlot_171 : decode cX10_mixSlot 171 = .ok (.iaload, 1) := by decide +kernel
theorem dX10_mixSlot_172 : decode cX10_mixSlot 172 = .ok (.iload_n 3, 1) := by decide +kernel
theorem dX10_mixSlot_173 : decode cX10_mixSlot 173 = .ok (.invokestatic 319, 3) := by decide +kernel
theorem dX10_mixSlot_176 : decode cX10_mixSlot 176 = .ok (.i2l, 1) := by decide +kernel
theorem dX10_mixSlot_177 : decode cX10_mixSlot 177 = .ok (.invokevirtual 337, 3) := by decide +kernel
theorem dX10_mixSlot_180 : decode cX10_mixSlot 180 = .ok (.iinc 3 1, 3) := by decide +kernel
theorem dX10_mixSlot_183 : decode cX10_mixSlot 183 = .ok (.goto (-23), 3) := by decide +kernel
theorem dX10_mixSlot_186 : decode cX10_mixSlot 186 = .ok (.iconst 0, 1) := by decide +kernel
theorem dX10_mixSlot_187 : decode cX10_mixSlot 187 = .ok (.istore_n 3, 1) := by decide +kernel
theorem dX10_mixSlot_188 : decode cX10_mixSlot 188 = .ok (.iload_n 3, 1) := by decide +kernel
theorem dX10_mixSlot_189 : decode cX10_mixSlot 189 = .ok (.bipush 125, 2) := by decide +kernel
theorem dX10_mixSlot_191 : decode cX10_mixSlot 191 = .ok (.if_icmp .ge 24, 3) := by decide +kernel
theorem dX10_mixSlot_194 : decode cX10_mixSlot 194 = .ok (.aload_n 0, 1) := by decide +kernel
theorem dX10_mixSlot_195 : decode cX10_mixSlot 195 = .ok (.iload_n 2, 1) := by decide +kernel
theorem dX10_mixSlot_196 : decode cX10_mixSlot 196 = .ok (.iload_n 3, 1) := by decide +kernel
theorem dX10_mixSlot_197 : decode cX10_mixSlot 197 = .ok (.invokevirtual 322, 3) := by decide +kernel
theorem dX10_mixSlot_200 : decode cX10_mixSlot 200 = .ok (.ifCond .eq 9, 3) := by decide +kernel
theorem dX10_mixSlot_203 : decode cX10_mixSlot 203 = .ok (.aload_n 0, 1) := by decide +kernel
theorem dX10_mixSlot_204 : decode cX10_mixSlot 204 = .ok (.iload_n 3, 1) := by decide +kernel
theorem dX10_mixSlot_205 : decode cX10_mixSlot 205 = .ok (.i2l, 1) := by decide +kernel
theorem dX10_mixSlot_206 : decode cX10_mixSlot 206 = .ok (.invokevirtual 337, 3) := by decide +kernel
theorem dX10_mixSlot_209 : decode cX10_mixSlot 209 = .ok (.iinc 3 1, 3) := by decide +kernel
theorem dX10_mixSlot_212 : decode cX10_mixSlot 212 = .ok (.goto (-24), 3) := by decide +kernel
theorem dX10_mixSlot_215 : decode cX10_mixSlot 215 = .ok (.iinc 2 1, 3) := by decide +kernel
theorem dX10_mixSlot_218 : decode cX10_mixSlot 218 = .ok (.goto (-68), 3) := by decide +kernel
theorem dX10_mixSlot_221 : decode cX10_mixSlot 221 = .ok (.return_, 1) := by decide +kernel
theorem dX10_digest_0 : decode cX10_digest 0 = .ok (.aload_n 0, 1) := by decide +kernel
theorem dX10_digest_1 : decode cX10_digest 1 = .ok (.ldc2_w 341, 3) := by decide +kernel
theorem dX10_digest_4 : decode cX10_digest 4 = .ok (.putfield 333, 3) := by decide +kernel
theorem dX10_digest_7 : decode cX10_digest 7 = .ok (.iconst 0, 1) := by decide +kernel
theorem dX10_digest_8 : decode cX10_digest 8 = .ok (.istore_n 1, 1) := by decide +kernel
theorem dX10_digest_9 : decode cX10_digest 9 = .ok (.iload_n 1, 1) := by decide +kernel
theorem dX10_digest_10 : decode cX10_digest 10 = .ok (.iconst 5, 1) := by decide +kernel
theorem dX10_digest_11 : decode cX10_digest 11 = .ok (.if_icmp .ge 20, 3) := by decide +kernel
theorem dX10_digest_14 : decode cX10_digest 14 = .ok (.aload_n 0, 1) := by decide +kernel
theorem dX10_digest_15 : decode cX10_digest 15 = .ok (.aload_n 0, 1) := by decide +kernel
theorem dX10_digest_16 : decode cX10_digest 16 = .ok (.getfield 16, 3) := by decide +kernel
theorem dX10_digest_19 : decode cX10_digest 19 = .ok (.iload_n 1, 1) := by decide +kernel
theorem dX10_digest_20 : decode cX10_digest 20 = .ok (.iaload, 1) := by decide +kernel
theorem dX10_digest_21 : decode cX10_digest 21 = .ok (.i2l, 1) := by decide +kernel
theorem dX10_digest_22 : decode cX10_digest 22 = .ok (.invokevirtual 337, 3) := by decide +kernel
theorem dX10_digest_25 : decode cX10_digest 25 = .ok (.iinc 1 1, 3) := by decide +kernel
theorem dX10_digest_28 : decode cX10_digest 28 = .ok (.goto (-19), 3) := by decide +kernel
theorem dX10_digest_31 : decode cX10_digest 31 = .ok (.aload_n 0, 1) := by decide +kernel
theorem dX10_digest_32 : decode cX10_digest 32 = .ok (.aload_n 0, 1) := by decide +kernel
theorem dX10_digest_33 : decode cX10_digest 33 = .ok (.getfield 131, 3) := by decide +kernel
theorem dX10_digest_36 : decode cX10_digest 36 = .ok (.i2l, 1) := by decide +kernel
theorem dX10_digest_37 : decode cX10_digest 37 = .ok (.invokevirtual 337, 3) := by decide +kernel
theorem dX10_digest_40 : decode cX10_digest 40 = .ok (.iconst 0, 1) := by decide +kernel
theorem dX10_digest_41 : decode cX10_digest 41 = .ok (.istore_n 1, 1) := by decide +kernel
theorem dX10_digest_42 : decode cX10_digest 42 = .ok (.iload_n 1, 1) := by decide +kernel
theorem dX10_digest_43 : decode cX10_digest 43 = .ok (.iconst 4, 1) := by decide +kernel
theorem dX10_digest_44 : decode cX10_digest 44 = .ok (.if_icmp .ge 14, 3) := by decide +kernel
theorem dX10_digest_47 : decode cX10_digest 47 = .ok (.aload_n 0, 1) := by decide +kernel
theorem dX10_digest_48 : decode cX10_digest 48 = .ok (.iload_n 1, 1) := by decide +kernel
theorem dX10_digest_49 : decode cX10_digest 49 = .ok (.invokevirtual 343, 3) := by decide +kernel
theorem dX10_digest_52 : decode cX10_digest 52 = .ok (.iinc 1 1, 3) := by decide +kernel
theorem dX10_digest_55 : decode cX10_digest 55 = .ok (.goto (-13), 3) := by decide +kernel
theorem dX10_digest_58 : decode cX10_digest 58 = .ok (.iconst 0, 1) := by decide +kernel
theorem dX10_digest_59 : decode cX10_digest 59 = .ok (.istore_n 1, 1) := by decide +kernel
theorem dX10_digest_60 : decode cX10_digest 60 = .ok (.iload_n 1, 1) := by decide +kernel
theorem dX10_digest_61 : decode cX10_digest 61 = .ok (.iconst 4, 1) := by decide +kernel
theorem dX10_digest_62 : decode cX10_digest 62 = .ok (.if_icmp .ge 46, 3) := by decide +kernel
theorem dX10_digest_65 : decode cX10_digest 65 = .ok (.iload_n 1, 1) := by decide +kernel
theorem dX10_digest_66 : decode cX10_digest 66 = .ok (.iconst 1, 1) := by decide +kernel
theorem dX10_digest_67 : decode cX10_digest 67 = .ok (.iadd, 1) := by decide +kernel
theorem dX10_digest_68 : decode cX10_digest 68 = .ok (.istore_n 2, 1) := by decide +kernel
theorem dX10_digest_69 : decode cX10_digest 69 = .ok (.iload_n 2, 1) := by decide +kernel
theorem dX10_digest_70 : decode cX10_digest 70 = .ok (.iconst 4, 1) := by decide +kernel
theorem dX10_digest_71 : decode cX10_digest 71 = .ok (.if_icmp .ge 31, 3) := by decide +kernel
theorem dX10_digest_74 : decode cX10_digest 74 = .ok (.aload_n 0, 1) := by decide +kernel
theorem dX10_digest_75 : decode cX10_digest 75 = .ok (.aload_n 0, 1) := by decide +kernel
theorem dX10_digest_76 : decode cX10_digest 76 = .ok (.iload_n 1, 1) := by decide +kernel
theorem dX10_digest_77 : decode cX10_digest 77 = .ok (.iload_n 2, 1) := by decide +kernel
theorem dX10_digest_78 : decode cX10_digest 78 = .ok (.invokevirtual 261, 3) := by decide +kernel
theorem dX10_digest_81 : decode cX10_digest 81 = .ok (.i2l, 1) := by decide +kernel
theorem dX10_digest_82 : decode cX10_digest 82 = .ok (.invokevirtual 337, 3) := by decide +kernel
theorem dX10_digest_85 : decode cX10_digest 85 = .ok (.aload_n 0, 1) := by decide +kernel
theorem dX10_digest_86 : decode cX10_digest 86 = .ok (.aload_n 0, 1) := by decide +kernel
theorem dX10_digest_87 : decode cX10_digest 87 = .ok (.iload_n 1, 1) := by decide +kernel
theorem dX10_digest_88 : decode cX10_digest 88 = .ok (.iload_n 2, 1) := by decide +kernel
theorem dX10_digest_89 : decode cX10_digest 89 = .ok (.invokevirtual 264, 3) := by decide +kernel
theorem dX10_digest_92 : decode cX10_digest 92 = .ok (.i2l, 1) := by decide +kernel
theorem dX10_digest_93 : decode cX10_digest 93 = .ok (.invokevirtual 337, 3) := by decide +kernel
theorem dX10_digest_96 : decode cX10_digest 96 = .ok (.iinc 2 1, 3) := by decide +kernel
theorem dX10_digest_99 : decode cX10_digest 99 = .ok (.goto (-30), 3) := by decide +kernel
theorem dX10_digest_102 : decode cX10_digest 102 = .ok (.iinc 1 1, 3) := by decide +kernel
theorem dX10_digest_105 : decode cX10_digest 105 = .ok (.goto (-45), 3) := by decide +kernel
theorem dX10_digest_108 : decode cX10_digest 108 = .ok (.aload_n 0, 1) := by decide +kernel
theorem dX10_digest_109 : decode cX10_digest 109 = .ok (.aload_n 0, 1) := by decide +kernel
theorem dX10_digest_110 : decode cX10_digest 110 = .ok (.getfield 102, 3) := by decide +kernel
theorem dX10_digest_113 : decode cX10_digest 113 = .ok (.i2l, 1) := by decide +kernel
theorem dX10_digest_114 : decode cX10_digest 114 = .ok (.invokevirtual 337, 3) := by decide +kernel
theorem dX10_digest_117 : decode cX10_digest 117 = .ok (.aload_n 0, 1) := by decide +kernel
theorem dX10_digest_118 : decode cX10_digest 118 = .ok (.getfield 333, 3) := by decide +kernel
theorem dX10_digest_121 : decode cX10_digest 121 = .ok (.lreturn, 1) := by decide +kernel
