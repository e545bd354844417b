theorem dX11_cakes_148 : decode cX11_cakes 148 = .ok (.aload_n 0, 1) := by decide +kernel
theorem dX11_cakes_149 : decode cX11_cakes 149 = .ok (.getfield 34, 3) := by decide +kernel
theorem dX11_cakes_152 : decode cX11_cakes 152 = .ok (.iload_n 1, 1) := by decide +kernel
theorem dX11_cakes_153 : decode cX11_cakes 153 = .ok (.iaload, 1) := by decide +kernel
theorem dX11_cakes_154 : decode cX11_cakes 154 = .ok (.goto 5, 3) := by decide +kernel
theorem dX11_cakes_157 : decode cX11_cakes 157 = .ok (.bipush (-6), 2) := by decide +kernel
theorem dX11_cakes_159 : decode cX11_cakes 159 = .ok (.ireturn, 1) := by decide +kernel
theorem dX11_hasLeft_0 : decode cX11_hasLeft 0 = .ok (.aload_n 0, 1) := by decide +kernel
theorem dX11_hasLeft_1 : decode cX11_hasLeft 1 = .ok (.getfield 34, 3) := by decide +kernel
theorem dX11_hasLeft_4 : decode cX11_hasLeft 4 = .ok (.iload_n 1, 1) := by decide +kernel
theorem dX11_hasLeft_5 : decode cX11_hasLeft 5 = .ok (.iload_n 2, 1) := by decide +kernel
theorem dX11_hasLeft_6 : decode cX11_hasLeft 6 = .ok (.isub, 1) := by decide +kernel
theorem dX11_hasLeft_7 : decode cX11_hasLeft 7 = .ok (.iaload, 1) := by decide +kernel
theorem dX11_hasLeft_8 : decode cX11_hasLeft 8 = .ok (.iconst 2, 1) := by decide +kernel
theorem dX11_hasLeft_9 : decode cX11_hasLeft 9 = .ok (.iload_n 2, 1) := by decide +kernel
theorem dX11_hasLeft_10 : decode cX11_hasLeft 10 = .ok (.imul, 1) := by decide +kernel
theorem dX11_hasLeft_11 : decode cX11_hasLeft 11 = .ok (.if_icmp .le 7, 3) := by decide +kernel
theorem dX11_hasLeft_14 : decode cX11_hasLeft 14 = .ok (.iconst 1, 1) := by decide +kernel
theorem dX11_hasLeft_15 : decode cX11_hasLeft 15 = .ok (.goto 4, 3) := by decide +kernel
theorem dX11_hasLeft_18 : decode cX11_hasLeft 18 = .ok (.iconst 0, 1) := by decide +kernel
theorem dX11_hasLeft_19 : decode cX11_hasLeft 19 = .ok (.ireturn, 1) := by decide +kernel
theorem dX11_lowest_0 : decode cX11_lowest 0 = .ok (.lload_n 0, 1) := by decide +kernel
theorem dX11_lowest_1 : decode cX11_lowest 1 = .ok (.lstore 5, 2) := by decide +kernel
theorem dX11_lowest_3 : decode cX11_lowest 3 = .ok (.lload_n 2, 1) := by decide +kernel
theorem dX11_lowest_4 : decode cX11_lowest 4 = .ok (.lstore 7, 2) := by decide +kernel
theorem dX11_lowest_6 : decode cX11_lowest 6 = .ok (.lload 7, 2) := by decide +kernel
theorem dX11_lowest_8 : decode cX11_lowest 8 = .ok (.lconst 0, 1) := by decide +kernel
theorem dX11_lowest_9 : decode cX11_lowest 9 = .ok (.lcmp, 1) := by decide +kernel
theorem dX11_lowest_10 : decode cX11_lowest 10 = .ok (.ifCond .eq 21, 3) := by decide +kernel
theorem dX11_lowest_13 : decode cX11_lowest 13 = .ok (.lload 5, 2) := by decide +kernel
theorem dX11_lowest_15 : decode cX11_lowest 15 = .ok (.lload 7, 2) := by decide +kernel
theorem dX11_lowest_17 : decode cX11_lowest 17 = .ok (.lrem, 1) := by decide +kernel
theorem dX11_lowest_18 : decode cX11_lowest 18 = .ok (.lstore 9, 2) := by decide +kernel
theorem dX11_lowest_20 : decode cX11_lowest 20 = .ok (.lload 7, 2) := by decide +kernel
theorem dX11_lowest_22 : decode cX11_lowest 22 = .ok (.lstore 5, 2) := by decide +kernel
theorem dX11_lowest_24 : decode cX11_lowest 24 = .ok (.lload 9, 2) := by decide +kernel
theorem dX11_lowest_26 : decode cX11_lowest 26 = .ok (.lstore 7, 2) := by decide +kernel
theorem dX11_lowest_28 : decode cX11_lowest 28 = .ok (.goto (-22), 3) := by decide +kernel
theorem dX11_lowest_31 : decode cX11_lowest 31 = .ok (.iload 4, 2) := by decide +kernel
theorem dX11_lowest_33 : decode cX11_lowest 33 = .ok (.ifCond .ne 10, 3) := by decide +kernel
theorem dX11_lowest_36 : decode cX11_lowest 36 = .ok (.lload_n 0, 1) := by decide +kernel
theorem dX11_lowest_37 : decode cX11_lowest 37 = .ok (.lload 5, 2) := by decide +kernel
theorem dX11_lowest_39 : decode cX11_lowest 39 = .ok (.ldiv, 1) := by decide +kernel
theorem dX11_lowest_40 : decode cX11_lowest 40 = .ok (.goto 7, 3) := by decide +kernel
theorem dX11_lowest_43 : decode cX11_lowest 43 = .ok (.lload_n 2, 1) := by decide +kernel
theorem dX11_lowest_44 : decode cX11_lowest 44 = .ok (.lload 5, 2) := by decide +kernel
theorem dX11_lowest_46 : decode cX11_lowest 46 = .ok (.ldiv, 1) := by decide +kernel
theorem dX11_lowest_47 : decode cX11_lowest 47 = .ok (.lreturn, 1) := by decide +kernel
theorem dX11_rung_0 : decode cX11_rung 0 = .ok (.iload_n 1, 1) := by decide +kernel
theorem dX11_rung_1 : decode cX11_rung 1 = .ok (.iconst 0, 1) := by decide +kernel
theorem dX11_rung_2 : decode cX11_rung 2 = .ok (.bipush 12, 2) := by decide +kernel
theorem dX11_rung_4 : decode cX11_rung 4 = .ok (.invokestatic 54, 3) := by decide +kernel
theorem dX11_rung_7 : decode cX11_rung 7 = .ok (.ifCond .eq 44, 3) := by decide +kernel
theorem dX11_rung_10 : decode cX11_rung 10 = .ok (.iload_n 2, 1) := by decide +kernel
theorem dX11_rung_11 : decode cX11_rung 11 = .ok (.iconst 1, 1) := by decide +kernel
theorem dX11_rung_12 : decode cX11_rung 12 = .ok (.bipush 7, 2) := by decide +kernel
theorem dX11_rung_14 : decode cX11_rung 14 = .ok (.invokestatic 54, 3) := by decide +kernel
theorem dX11_rung_17 : decode cX11_rung 17 = .ok (.ifCond .eq 34, 3) := by decide +kernel
theorem dX11_rung_20 : decode cX11_rung 20 = .ok (.iload_n 3, 1) := by decide +kernel
theorem dX11_rung_21 : decode cX11_rung 21 = .ok (.iconst 0, 1) := by decide +kernel
theorem dX11_rung_22 : decode cX11_rung 22 = .ok (.iload_n 2, 1) := by decide +kernel
theorem dX11_rung_23 : decode cX11_rung 23 = .ok (.iconst 1, 1) := by decide +kernel
theorem dX11_rung_24 : decode cX11_rung 24 = .ok (.isub, 1) := by decide +kernel
theorem dX11_rung_25 : decode cX11_rung 25 = .ok (.invokestatic 54, 3) := by decide +kernel
theorem dX11_rung_28 : decode cX11_rung 28 = .ok (.ifCond .eq 23, 3) := by decide +kernel
theorem dX11_rung_31 : decode cX11_rung 31 = .ok (.iload 4, 2) := by decide +kernel
theorem dX11_rung_33 : decode cX11_rung 33 = .ok (.iconst 0, 1) := by decide +kernel
theorem dX11_rung_34 : decode cX11_rung 34 = .ok (.iconst 1, 1) := by decide +kernel
theorem dX11_rung_35 : decode cX11_rung 35 = .ok (.invokestatic 54, 3) := by decide +kernel
theorem dX11_rung_38 : decode cX11_rung 38 = .ok (.ifCond .eq 13, 3) := by decide +kernel
theorem dX11_rung_41 : decode cX11_rung 41 = .ok (.iload 5, 2) := by decide +kernel
theorem dX11_rung_43 : decode cX11_rung 43 = .ok (.iconst 0, 1) := by decide +kernel
theorem dX11_rung_44 : decode cX11_rung 44 = .ok (.iconst 1, 1) := by decide +kernel
theorem dX11_rung_45 : decode cX11_rung 45 = .ok (.invokestatic 54, 3) := by decide +kernel
theorem dX11_rung_48 : decode cX11_rung 48 = .ok (.ifCond .ne 7, 3) := by decide +kernel
theorem dX11_rung_51 : decode cX11_rung 51 = .ok (.ldc2_w 145, 3) := by decide +kernel
theorem dX11_rung_54 : decode cX11_rung 54 = .ok (.lreturn, 1) := by decide +kernel
theorem dX11_rung_55 : decode cX11_rung 55 = .ok (.lconst 1, 1) := by decide +kernel
theorem dX11_rung_56 : decode cX11_rung 56 = .ok (.lstore 6, 2) := by decide +kernel
theorem dX11_rung_58 : decode cX11_rung 58 = .ok (.lconst 1, 1) := by decide +kernel
theorem dX11_rung_59 : decode cX11_rung 59 = .ok (.lstore 8, 2) := by decide +kernel
theorem dX11_rung_61 : decode cX11_rung 61 = .ok (.iconst 0, 1) := by decide +kernel
theorem dX11_rung_62 : decode cX11_rung 62 = .ok (.istore 10, 2) := by decide +kernel
theorem dX11_rung_64 : decode cX11_rung 64 = .ok (.iload 10, 2) := by decide +kernel
theorem dX11_rung_66 : decode cX11_rung 66 = .ok (.iload_n 1, 1) := by decide +kernel
theorem dX11_rung_67 : decode cX11_rung 67 = .ok (.if_icmp .ge 25, 3) := by decide +kernel
theorem dX11_rung_70 : decode cX11_rung 70 = .ok (.lload 6, 2) := by decide +kernel
theorem dX11_rung_72 : decode cX11_rung 72 = .ok (.iload_n 2, 1) := by decide +kernel
theorem dX11_rung_73 : decode cX11_rung 73 = .ok (.i2l, 1) := by decide +kernel
theorem dX11_rung_74 : decode cX11_rung 74 = .ok (.lmul, 1) := by decide +kernel
theorem dX11_rung_75 : decode cX11_rung 75 = .ok (.lstore 6, 2) := by decide +kernel
theorem dX11_rung_77 : decode cX11_rung 77 = .ok (.lload 8, 2) := by decide +kernel
theorem dX11_rung_79 : decode cX11_rung 79 = .ok (.iload_n 2, 1) := by decide +kernel
theorem dX11_rung_80 : decode cX11_rung 80 = .ok (.iconst 1, 1) := by decide +kernel
theorem dX11_rung_81 : decode cX11_rung 81 = .ok (.isub, 1) := by decide +kernel
theorem dX11_rung_82 : decode cX11_rung 82 = .ok (.i2l, 1) := by decide +kernel
theorem dX11_rung_83 : decode cX11_rung 83 = .ok (.lmul, 1) := by decide +kernel
theorem dX11_rung_84 : decode cX11_rung 84 = .ok (.lstore 8, 2) := by decide +kernel
theorem dX11_rung_86 : decode cX11_rung 86 = .ok (.iinc 10 1, 3) := by decide +kernel
theorem dX11_rung_89 : decode cX11_rung 89 = .ok (.goto (-25), 3) := by decide +kernel
theorem dX11_rung_92 : decode cX11_rung 92 = .ok (.iload 4, 2) := by decide +kernel
theorem dX11_rung_94 : decode cX11_rung 94 = .ok (.iconst 1, 1) := by decide +kernel
theorem dX11_rung_95 : decode cX11_rung 95 = .ok (.if_icmp .ne 13, 3) := by decide +kernel
theorem dX11_rung_98 : decode cX11_rung 98 = .ok (.lload 8, 2) := by decide +kernel
theorem dX11_rung_100 : decode cX11_rung 100 = .ok (.lload 6, 2) := by decide +kernel
theorem dX11_rung_102 : decode cX11_rung 102 = .ok (.iload 5, 2) := by decide +kernel
theorem dX11_rung_104 : decode cX11_rung 104 = .ok (.invokestatic 147, 3) := by decide +kernel
theorem dX11_rung_107 : decode cX11_rung 107 = .ok (.lreturn, 1) := by decide +kernel
theorem dX11_rung_108 : decode cX11_rung 108 = .ok (.iconst 0, 1) := by decide +kernel
theorem dX11_rung_109 : decode cX11_rung 109 = .ok (.istore 10, 2) := by decide +kernel
theorem dX11_rung_111 : decode cX11_rung 111 = .ok (.iload 10, 2) := by decide +kernel
theorem dX11_rung_113 : decode cX11_rung 113 = .ok (.sipush 169, 3) := by decide +kernel
theorem dX11_rung_116 : decode cX11_rung 116 = .ok (.if_icmp .ge 60, 3) := by decide +kernel
theorem dX11_rung_119 : decode cX11_rung 119 = .ok (.aload_n 0, 1) := by decide +kernel
theorem dX11_rung_120 : decode cX11_rung 120 = .ok (.getfield 44, 3) := by decide +kernel
theorem dX11_rung_123 : decode cX11_rung 123 = .ok (.iload 10, 2) := by decide +kernel
theorem dX11_rung_125 : decode cX11_rung 125 = .ok (.iload 10, 2) := by decide +kernel
theorem dX11_rung_127 : decode cX11_rung 127 = .ok (.bipush 13, 2) := by decide +kernel
theorem dX11_rung_129 : decode cX11_rung 129 = .ok (.irem, 1) := by decide +kernel
theorem dX11_rung_130 : decode cX11_rung 130 = .ok (.ifCond .ne 7, 3) := by decide +kernel
theorem dX11_rung_133 : decode cX11_rung 133 = .ok (.lconst 1, 1) := by decide +kernel
theorem dX11_rung_134 : decode cX11_rung 134 = .ok (.goto 35, 3) := by decide +kernel
theorem dX11_rung_137 : decode cX11_rung 137 = .ok (.iload 10, 2) := by decide +kernel
theorem dX11_rung_139 : decode cX11_rung 139 = .ok (.bipush 13, 2) := by decide +kernel
theorem dX11_rung_141 : decode cX11_rung 141 = .ok (.if_icmp .ge 7, 3) := by decide +kernel
theorem dX11_rung_144 : decode cX11_rung 144 = .ok (.lconst 0, 1) := by decide +kernel
theorem dX11_rung_145 : decode cX11_rung 145 = .ok (.goto 24, 3) := by decide +kernel
theorem dX11_rung_148 : decode cX11_rung 148 = .ok (.aload_n 0, 1) := by decide +kernel
theorem dX11_rung_149 : decode cX11_rung 149 = .ok (.getfield 44, 3) := by decide +kernel
theorem dX11_rung_152 : decode cX11_rung 152 = .ok (.iload 10, 2) := by decide +kernel
theorem dX11_rung_154 : decode cX11_rung 154 = .ok (.bipush 13, 2) := by decide +kernel
theorem dX11_rung_156 : decode cX11_rung 156 = .ok (.isub, 1) := by decide +kernel
theorem dX11_rung_157 : decode cX11_rung 157 = .ok (.laload, 1) := by decide +kernel
theorem dX11_rung_158 : decode cX11_rung 158 = .ok (.aload_n 0, 1) := by decide +kernel
theorem dX11_rung_159 : decode cX11_rung 159 = .ok (.getfield 44, 3) := by decide +kernel
theorem dX11_rung_162 : decode cX11_rung 162 = .ok (.iload 10, 2) := by decide +kernel
theorem dX11_rung_164 : decode cX11_rung 164 = .ok (.bipush 14, 2) := by decide +kernel
theorem dX11_rung_166 : decode cX11_rung 166 = .ok (.isub, 1) := by decide +kernel
theorem dX11_rung_167 : decode cX11_rung 167 = .ok (.laload, 1) := by decide +kernel
theorem dX11_rung_168 : decode cX11_rung 168 = .ok (.ladd, 1) := by decide +kernel
theorem dX11_rung_169 : decode cX11_rung 169 = .ok (.lastore, 1) := by decide +kernel
theorem dX11_rung_170 : decode cX11_rung 170 = .ok (.iinc 10 1, 3) := by decide +kernel
theorem dX11_rung_173 : decode cX11_rung 173 = .ok (.goto (-62), 3) := by decide +kernel
theorem dX11_rung_176 : decode cX11_rung 176 = .ok (.lconst 0, 1) := by decide +kernel
theorem dX11_rung_177 : decode cX11_rung 177 = .ok (.lstore 10, 2) := by decide +kernel
theorem dX11_rung_179 : decode cX11_rung 179 = .ok (.iconst 0, 1) := by decide +kernel
theorem dX11_rung_180 : decode cX11_rung 180 = .ok (.istore 12, 2) := by decide +kernel
theorem dX11_rung_182 : decode cX11_rung 182 = .ok (.iload 12, 2) := by decide +kernel
theorem dX11_rung_184 : decode cX11_rung 184 = .ok (.iload_n 1, 1) := by decide +kernel
theorem dX11_rung_185 : decode cX11_rung 185 = .ok (.if_icmp .gt 214, 3) := by decide +kernel
theorem dX11_rung_188 : decode cX11_rung 188 = .ok (.iconst 0, 1) := by decide +kernel
theorem dX11_rung_189 : decode cX11_rung 189 = .ok (.istore 13, 2) := by decide +kernel
theorem dX11_rung_191 : decode cX11_rung 191 = .ok (.iload 13, 2) := by decide +kernel
theorem dX11_rung_193 : decode cX11_rung 193 = .ok (.bipush 13, 2) := by decide +kernel
theorem dX11_rung_195 : decode cX11_rung 195 = .ok (.if_icmp .ge 41, 3) := by decide +kernel
theorem dX11_rung_198 : decode cX11_rung 198 = .ok (.aload_n 0, 1) := by decide +kernel
theorem dX11_rung_199 : decode cX11_rung 199 = .ok (.getfield 37, 3) := by decide +kernel
theorem dX11_rung_202 : decode cX11_rung 202 = .ok (.iload 13, 2) := by decide +kernel
theorem dX11_rung_204 : decode cX11_rung 204 = .ok (.iload 13, 2) := by decide +kernel
theorem dX11_rung_206 : decode cX11_rung 206 = .ok (.iload_n 1, 1) := by decide +kernel
theorem dX11_rung_207 : decode cX11_rung 207 = .ok (.iload 12, 2) := by decide +kernel
theorem dX11_rung_209 : decode cX11_rung 209 = .ok (.isub, 1) := by decide +kernel
theorem dX11_rung_210 : decode cX11_rung 210 = .ok (.if_icmp .ne 18, 3) := by decide +kernel
theorem dX11_rung_213 : decode cX11_rung 213 = .ok (.aload_n 0, 1) := by decide +kernel
theorem dX11_rung_214 : decode cX11_rung 214 = .ok (.getfield 44, 3) := by decide +kernel
theorem dX11_rung_217 : decode cX11_rung 217 = .ok (.bipush 13, 2) := by decide +kernel
theorem dX11_rung_219 : decode cX11_rung 219 = .ok (.iload_n 1, 1) := by decide +kernel
theorem dX11_rung_220 : decode cX11_rung 220 = .ok (.imul, 1) := by decide +kernel
theorem dX11_rung_221 : decode cX11_rung 221 = .ok (.iload 12, 2) := by decide +kernel
theorem dX11_rung_223 : decode cX11_rung 223 = .ok (.iadd, 1) := by decide +kernel
theorem dX11_rung_224 : decode cX11_rung 224 = .ok (.laload, 1) := by decide +kernel
theorem dX11_rung_225 : decode cX11_rung 225 = .ok (.goto 4, 3) := by decide +kernel
theorem dX11_rung_228 : decode cX11_rung 228 = .ok (.lconst 0, 1) := by decide +kernel
theorem dX11_rung_229 : decode cX11_rung 229 = .ok (.lastore, 1) := by decide +kernel
theorem dX11_rung_230 : decode cX11_rung 230 = .ok (.iinc 13 1, 3) := by decide +kernel
theorem dX11_rung_233 : decode cX11_rung 233 = .ok (.goto (-42), 3) := by decide +kernel
theorem dX11_rung_236 : decode cX11_rung 236 = .ok (.iconst 0, 1) := by decide +kernel
theorem dX11_rung_237 : decode cX11_rung 237 = .ok (.istore 13, 2) := by decide +kernel
theorem dX11_rung_239 : decode cX11_rung 239 = .ok (.iload 13, 2) := by decide +kernel
theorem dX11_rung_241 : decode cX11_rung 241 = .ok (.iload_n 2, 1) := by decide +kernel
theorem dX11_rung_242 : decode cX11_rung 242 = .ok (.if_icmp .ge 140, 3) := by decide +kernel
theorem dX11_rung_245 : decode cX11_rung 245 = .ok (.iload 13, 2) := by decide +kernel
theorem dX11_rung_247 : decode cX11_rung 247 = .ok (.iload_n 3, 1) := by decide +kernel
theorem dX11_rung_248 : decode cX11_rung 248 = .ok (.if_icmp .ge 10, 3) := by decide +kernel
theorem dX11_rung_251 : decode cX11_rung 251 = .ok (.iload 12, 2) := by decide +kernel
theorem dX11_rung_253 : decode cX11_rung 253 = .ok (.iconst 1, 1) := by decide +kernel
theorem dX11_rung_254 : decode cX11_rung 254 = .ok (.iadd, 1) := by decide +kernel
theorem dX11_rung_255 : decode cX11_rung 255 = .ok (.goto 5, 3) := by decide +kernel
theorem dX11_rung_258 : decode cX11_rung 258 = .ok (.iload 12, 2) := by decide +kernel
theorem dX11_rung_260 : decode cX11_rung 260 = .ok (.istore 14, 2) := by decide +kernel
theorem dX11_rung_262 : decode cX11_rung 262 = .ok (.iconst 0, 1) := by decide +kernel
theorem dX11_rung_263 : decode cX11_rung 263 = .ok (.istore 15, 2) := by decide +kernel
theorem dX11_rung_265 : decode cX11_rung 265 = .ok (.iload 15, 2) := by decide +kernel
theorem dX11_rung_267 : decode cX11_rung 267 = .ok (.bipush 13, 2) := by decide +kernel
theorem dX11_rung_269 : decode cX11_rung 269 = .ok (.if_icmp .ge 71, 3) := by decide +kernel
theorem dX11_rung_272 : decode cX11_rung 272 = .ok (.aload_n 0, 1) := by decide +kernel
theorem dX11_rung_273 : decode cX11_rung 273 = .ok (.getfield 41, 3) := by decide +kernel
theorem dX11_rung_276 : decode cX11_rung 276 = .ok (.iload 15, 2) := by decide +kernel
theorem dX11_rung_278 : decode cX11_rung 278 = .ok (.lconst 0, 1) := by decide +kernel
theorem dX11_rung_279 : decode cX11_rung 279 = .ok (.lastore, 1) := by decide +kernel
theorem dX11_rung_280 : decode cX11_rung 280 = .ok (.iload 15, 2) := by decide +kernel
theorem dX11_rung_282 : decode cX11_rung 282 = .ok (.iload 14, 2) := by decide +kernel
theorem dX11_rung_284 : decode cX11_rung 284 = .ok (.iadd, 1) := by decide +kernel
theorem dX11_rung_285 : decode cX11_rung 285 = .ok (.istore 16, 2) := by decide +kernel
theorem dX11_rung_287 : decode cX11_rung 287 = .ok (.iload 16, 2) := by decide +kernel
theorem dX11_rung_289 : decode cX11_rung 289 = .ok (.bipush 13, 2) := by decide +kernel
theorem dX11_rung_291 : decode cX11_rung 291 = .ok (.if_icmp .ge 43, 3) := by decide +kernel
theorem dX11_rung_294 : decode cX11_rung 294 = .ok (.aload_n 0, 1) := by decide +kernel
theorem dX11_rung_295 : decode cX11_rung 295 = .ok (.getfield 41, 3) := by decide +kernel
theorem dX11_rung_298 : decode cX11_rung 298 = .ok (.iload 15, 2) := by decide +kernel
theorem dX11_rung_300 : decode cX11_rung 300 = .ok (.dup2, 1) := by decide +kernel
theorem dX11_rung_301 : decode cX11_rung 301 = .ok (.laload, 1) := by decide +kernel
theorem dX11_rung_302 : decode cX11_rung 302 = .ok (.aload_n 0, 1) := by decide +kernel
theorem dX11_rung_303 : decode cX11_rung 303 = .ok (.getfield 37, 3) := by decide +kernel
theorem dX11_rung_306 : decode cX11_rung 306 = .ok (.iload 16, 2) := by decide +kernel
theorem dX11_rung_308 : decode cX11_rung 308 = .ok (.laload, 1) := by decide +kernel
theorem dX11_rung_309 : decode cX11_rung 309 = .ok (.aload_n 0, 1) := by decide +kernel
theorem dX11_rung_310 : decode cX11_rung 310 = .ok (.getfield 44, 3) := by decide +kernel
theorem dX11_rung_313 : decode cX11_rung 313 = .ok (.bipush 13, 2) := by decide +kernel
theorem dX11_rung_315 : decode cX11_rung 315 = .ok (.iload 16, 2) := by decide +kernel
theorem dX11_rung_317 : decode cX11_rung 317 = .ok (.imul, 1) := by decide +kernel
theorem dX11_rung_318 : decode cX11_rung 318 = .ok (.iload 16, 2) := by decide +kernel
theorem dX11_rung_320 : decode cX11_rung 320 = .ok (.iadd, 1) := by decide +kernel
theorem dX11_rung_321 : decode cX11_rung 321 = .ok (.iload 15, 2) := by decide +kernel
theorem dX11_rung_323 : decode cX11_rung 323 = .ok (.isub, 1) := by decide +kernel
theorem dX11_rung_324 : decode cX11_rung 324 = .ok (.laload, 1) := by decide +kernel
theorem dX11_rung_325 : decode cX11_rung 325 = .ok (.lmul, 1) := by decide +kernel
theorem dX11_rung_326 : decode cX11_rung 326 = .ok (.ladd, 1) := by decide +kernel
theorem dX11_rung_327 : decode cX11_rung 327 = .ok (.lastore, 1) := by decide +kernel
theorem dX11_rung_328 : decode cX11_rung 328 = .ok (.iinc 16 1, 3) := by decide +kernel
theorem dX11_rung_331 : decode cX11_rung 331 = .ok (.goto (-44), 3) := by decide +kernel
theorem dX11_rung_334 : decode cX11_rung 334 = .ok (.iinc 15 1, 3) := by decide +kernel
theorem dX11_rung_337 : decode cX11_rung 337 = .ok (.goto (-72), 3) := by decide +kernel
theorem dX11_rung_340 : decode cX11_rung 340 = .ok (.iconst 0, 1) := by decide +kernel
theorem dX11_rung_341 : decode cX11_rung 341 = .ok (.istore 15, 2) := by decide +kernel
theorem dX11_rung_343 : decode cX11_rung 343 = .ok (.iload 15, 2) := by decide +kernel
theorem dX11_rung_345 : decode cX11_rung 345 = .ok (.bipush 13, 2) := by decide +kernel
theorem dX11_rung_347 : decode cX11_rung 347 = .ok (.if_icmp .ge 29, 3) := by decide +kernel
theorem dX11_rung_350 : decode cX11_rung 350 = .ok (.iload 13, 2) := by decide +kernel
theorem dX11_rung_352 : decode cX11_rung 352 = .ok (.iload_n 3, 1) := by decide +kernel
theorem dX11_rung_353 : decode cX11_rung 353 = .ok (.if_icmp .eq 23, 3) := by decide +kernel
theorem dX11_rung_356 : decode cX11_rung 356 = .ok (.aload_n 0, 1) := by decide +kernel
theorem dX11_rung_357 : decode cX11_rung 357 = .ok (.getfield 37, 3) := by decide +kernel
theorem dX11_rung_360 : decode cX11_rung 360 = .ok (.iload 15, 2) := by decide +kernel
theorem dX11_rung_362 : decode cX11_rung 362 = .ok (.aload_n 0, 1) := by decide +kernel
theorem dX11_rung_363 : decode cX11_rung 363 = .ok (.getfield 41, 3) := by decide +kernel
theorem dX11_rung_366 : decode cX11_rung 366 = .ok (.iload 15, 2) := by decide +kernel
theorem dX11_rung_368 : decode cX11_rung 368 = .ok (.laload, 1) := by decide +kernel
theorem dX11_rung_369 : decode cX11_rung 369 = .ok (.lastore, 1) := by decide +kernel
theorem dX11_rung_370 : decode cX11_rung 370 = .ok (.iinc 15 1, 3) := by decide +kernel
theorem dX11_rung_373 : decode cX11_rung 373 = .ok (.goto (-30), 3) := by decide +kernel
theorem dX11_rung_376 : decode cX11_rung 376 = .ok (.iinc 13 1, 3) := by decide +kernel
theorem dX11_rung_379 : decode cX11_rung 379 = .ok (.goto (-140), 3) := by decide +kernel
theorem dX11_rung_382 : decode cX11_rung 382 = .ok (.lload 10, 2) := by decide +kernel
theorem dX11_rung_384 : decode cX11_rung 384 = .ok (.aload_n 0, 1) := by decide +kernel
theorem dX11_rung_385 : decode cX11_rung 385 = .ok (.getfield 37, 3) := by decide +kernel
theorem dX11_rung_388 : decode cX11_rung 388 = .ok (.iconst 0, 1) := by decide +kernel
theorem dX11_rung_389 : decode cX11_rung 389 = .ok (.laload, 1) := by decide +kernel
theorem dX11_rung_390 : decode cX11_rung 390 = .ok (.ladd, 1) := by decide +kernel
theorem dX11_rung_391 : decode cX11_rung 391 = .ok (.lstore 10, 2) := by decide +kernel
theorem dX11_rung_393 : decode cX11_rung 393 = .ok (.iinc 12 1, 3) := by decide +kernel
theorem dX11_rung_396 : decode cX11_rung 396 = .ok (.goto (-214), 3) := by decide +kernel
theorem dX11_rung_399 : decode cX11_rung 399 = .ok (.lload 10, 2) := by decide +kernel
theorem dX11_rung_401 : decode cX11_rung 401 = .ok (.lload 6, 2) := by decide +kernel
theorem dX11_rung_403 : decode cX11_rung 403 = .ok (.iload 5, 2) := by decide +kernel
theorem dX11_rung_405 : decode cX11_rung 405 = .ok (.invokestatic 147, 3) := by decide +kernel
theorem dX11_rung_408 : decode cX11_rung 408 = .ok (.lreturn, 1) := by decide +kernel
theorem dX11_year_0 : decode cX11_year 0 = .ok (.iload_n 1, 1) := by decide +kernel
theorem dX11_year_1 : decode cX11_year 1 = .ok (.iconst 0, 1) := by decide +kernel
theorem dX11_year_2 : decode cX11_year 2 = .ok (.sipush 9999, 3) := by decide +kernel
theorem dX11_year_5 : decode cX11_year 5 = .ok (.invokestatic 54, 3) := by decide +kernel
theorem dX11_year_8 : decode cX11_year 8 = .ok (.ifCond .eq 22, 3) := by decide +kernel
theorem dX11_year_11 : decode cX11_year 11 = .ok (.iload_n 2, 1) := by decide +kernel
theorem dX11_year_12 : decode cX11_year 12 = .ok (.iconst 1, 1) := by decide +kernel
theorem dX11_year_13 : decode cX11_year 13 = .ok (.bipush 99, 2) := by decide +kernel
theorem dX11_year_15 : decode cX11_year 15 = .ok (.invokestatic 54, 3) := by decide +kernel
theorem dX11_year_18 : decode cX11_year 18 = .ok (.ifCond .eq 12, 3) := by decide +kernel
theorem dX11_year_21 : decode cX11_year 21 = .ok (.iload_n 3, 1) := by decide +kernel
theorem dX11_year_22 : decode cX11_year 22 = .ok (.iconst 0, 1) := by decide +kernel
theorem dX11_year_23 : decode cX11_year 23 = .ok (.iconst 2, 1) := by decide +kernel
theorem dX11_year_24 : decode cX11_year 24 = .ok (.invokestatic 54, 3) := by decide +kernel
theorem dX11_year_27 : decode cX11_year 27 = .ok (.ifCond .ne 6, 3) := by decide +kernel
theorem dX11_year_30 : decode cX11_year 30 = .ok (.bipush (-2), 2) := by decide +kernel
theorem dX11_year_32 : decode cX11_year 32 = .ok (.ireturn, 1) := by decide +kernel
theorem dX11_year_33 : decode cX11_year 33 = .ok (.aload_n 0, 1) := by decide +kernel
theorem dX11_year_34 : decode cX11_year 34 = .ok (.invokevirtual 101, 3) := by decide +kernel
theorem dX11_year_37 : decode cX11_year 37 = .ok (.iload_n 1, 1) := by decide +kernel
theorem dX11_year_38 : decode cX11_year 38 = .ok (.istore 4, 2) := by decide +kernel
theorem dX11_year_40 : decode cX11_year 40 = .ok (.iconst 0, 1) := by decide +kernel
theorem dX11_year_41 : decode cX11_year 41 = .ok (.istore 5, 2) := by decide +kernel
theorem dX11_year_43 : decode cX11_year 43 = .ok (.iload 5, 2) := by decide +kernel
theorem dX11_year_45 : decode cX11_year 45 = .ok (.iload_n 2, 1) := by decide +kernel
theorem dX11_year_46 : decode cX11_year 46 = .ok (.if_icmp .ge 192, 3) := by decide +kernel
theorem dX11_year_49 : decode cX11_year 49 = .ok (.bipush 75, 2) := by decide +kernel
theorem dX11_year_51 : decode cX11_year 51 = .ok (.iload 4, 2) := by decide +kernel
theorem dX11_year_53 : decode cX11_year 53 = .ok (.imul, 1) := by decide +kernel
theorem dX11_year_54 : decode cX11_year 54 = .ok (.bipush 74, 2) := by decide +kernel
theorem dX11_year_56 : decode cX11_year 56 = .ok (.iadd, 1) := by decide +kernel
theorem dX11_year_57 : decode cX11_year 57 = .ok (.ldc 151, 2) := by decide +kernel
theorem dX11_year_59 : decode cX11_year 59 = .ok (.irem, 1) := by decide +kernel
theorem dX11_year_60 : decode cX11_year 60 = .ok (.istore 4, 2) := by decide +kernel
theorem dX11_year_62 : decode cX11_year 62 = .ok (.iload 4, 2) := by decide +kernel
theorem dX11_year_64 : decode cX11_year 64 = .ok (.bipush 8, 2) := by decide +kernel
theorem dX11_year_66 : decode cX11_year 66 = .ok (.irem, 1) := by decide +kernel
theorem dX11_year_67 : decode cX11_year 67 = .ok (.istore 6, 2) := by decide +kernel
theorem dX11_year_69 : decode cX11_year 69 = .ok (.iload 4, 2) := by decide +kernel
theorem dX11_year_71 : decode cX11_year 71 = .ok (.bipush 64, 2) := by decide +kernel
theorem dX11_year_73 : decode cX11_year 73 = .ok (.idiv, 1) := by decide +kernel
theorem dX11_year_74 : decode cX11_year 74 = .ok (.istore 7, 2) := by decide +kernel
theorem dX11_year_76 : decode cX11_year 76 = .ok (.iload 4, 2) := by decide +kernel
theorem dX11_year_78 : decode cX11_year 78 = .ok (.bipush 8, 2) := by decide +kernel
theorem dX11_year_80 : decode cX11_year 80 = .ok (.idiv, 1) := by decide +kernel
theorem dX11_year_81 : decode cX11_year 81 = .ok (.bipush 8, 2) := by decide +kernel
theorem dX11_year_83 : decode cX11_year 83 = .ok (.irem, 1) := by decide +kernel
theorem dX11_year_84 : decode cX11_year 84 = .ok (.tableswitch 140 0 5 #[40, 40, 58, 73, 91, 109], 40) := by decide +kernel
theorem dX11_year_124 : decode cX11_year 124 = .ok (.aload_n 0, 1) := by decide +kernel
theorem dX11_year_125 : decode cX11_year 125 = .ok (.aload_n 0, 1) := by decide +kernel
theorem dX11_year_126 : decode cX11_year 126 = .ok (.iload 6, 2) := by decide +kernel
theorem dX11_year_128 : decode cX11_year 128 = .ok (.iload 7, 2) := by decide +kernel
theorem dX11_year_130 : decode cX11_year 130 = .ok (.bipush 7, 2) := by decide +kernel
theorem dX11_year_132 : decode cX11_year 132 = .ok (.irem, 1) := by decide +kernel
theorem dX11_year_133 : decode cX11_year 133 = .ok (.invokevirtual 98, 3) := by decide +kernel
theorem dX11_year_136 : decode cX11_year 136 = .ok (.putfield 113, 3) := by decide +kernel
theorem dX11_year_139 : decode cX11_year 139 = .ok (.goto 93, 3) := by decide +kernel
theorem dX11_year_142 : decode cX11_year 142 = .ok (.aload_n 0, 1) := by decide +kernel
theorem dX11_year_143 : decode cX11_year 143 = .ok (.aload_n 0, 1) := by decide +kernel
theorem dX11_year_144 : decode cX11_year 144 = .ok (.iload 6, 2) := by decide +kernel
theorem dX11_year_146 : decode cX11_year 146 = .ok (.bipush (-6), 2) := by decide +kernel
theorem dX11_year_148 : decode cX11_year 148 = .ok (.invokevirtual 98, 3) := by decide +kernel
theorem dX11_year_151 : decode cX11_year 151 = .ok (.putfield 113, 3) := by decide +kernel
theorem dX11_year_154 : decode cX11_year 154 = .ok (.goto 78, 3) := by decide +kernel
theorem dX11_year_157 : decode cX11_year 157 = .ok (.aload_n 0, 1) := by decide +kernel
theorem dX11_year_158 : decode cX11_year 158 = .ok (.aload_n 0, 1) := by decide +kernel
theorem dX11_year_159 : decode cX11_year 159 = .ok (.iload 6, 2) := by decide +kernel
theorem dX11_year_161 : decode cX11_year 161 = .ok (.iload 7, 2) := by decide +kernel
theorem dX11_year_163 : decode cX11_year 163 = .ok (.bipush 8, 2) := by decide +kernel
theorem dX11_year_165 : decode cX11_year 165 = .ok (.irem, 1) := by decide +kernel
theorem dX11_year_166 : decode cX11_year 166 = .ok (.invokevirtual 89, 3) := by decide +kernel
theorem dX11_year_169 : decode cX11_year 169 = .ok (.putfield 113, 3) := by decide +kernel
theorem dX11_year_172 : decode cX11_year 172 = .ok (.goto 60, 3) := by decide +kernel
theorem dX11_year_175 : decode cX11_year 175 = .ok (.aload_n 0, 1) := by decide +kernel
theorem dX11_year_176 : decode cX11_year 176 = .ok (.aload_n 0, 1) := by decide +kernel
theorem dX11_year_177 : decode cX11_year 177 = .ok (.iload 6, 2) := by decide +kernel
theorem dX11_year_179 : decode cX11_year 179 = .ok (.iload 7, 2) := by decide +kernel
theorem dX11_year_181 : decode cX11_year 181 = .ok (.bipush 8, 2) := by decide +kernel
theorem dX11_year_183 : decode cX11_year 183 = .ok (.irem, 1) := by decide +kernel
theorem dX11_year_184 : decode cX11_year 184 = .ok (.invokevirtual 92, 3) := by decide +kernel
theorem dX11_year_187 : decode cX11_year 187 = .ok (.putfield 113, 3) := by decide +kernel
theorem dX11_year_190 : decode cX11_year 190 = .ok (.goto 42, 3) := by decide +kernel
theorem dX11_year_193 : decode cX11_year 193 = .ok (.aload_n 0, 1) := by decide +kernel
theorem dX11_year_194 : decode cX11_year 194 = .ok (.iload 7, 2) := by decide +kernel
theorem dX11_year_196 : decode cX11_year 196 = .ok (.iconst 2, 1) := by decide +kernel
theorem dX11_year_197 : decode cX11_year 197 = .ok (.irem, 1) := by decide +kernel
theorem dX11_year_198 : decode cX11_year 198 = .ok (.ifCond .ne 12, 3) := by decide +kernel
theorem dX11_year_201 : decode cX11_year 201 = .ok (.aload_n 0, 1) := by decide +kernel
theorem dX11_year_202 : decode cX11_year 202 = .ok (.iload 6, 2) := by decide +kernel
theorem dX11_year_204 : decode cX11_year 204 = .ok (.invokevirtual 95, 3) := by decide +kernel
theorem dX11_year_207 : decode cX11_year 207 = .ok (.goto 11, 3) := by decide +kernel
theorem dX11_year_210 : decode cX11_year 210 = .ok (.aload_n 0, 1) := by decide +kernel
theorem dX11_year_211 : decode cX11_year 211 = .ok (.iload 7, 2) := by decide +kernel
theorem dX11_year_213 : decode cX11_year 213 = .ok (.iconst 4, 1) := by decide +kernel
theorem dX11_year_214 : decode cX11_year 214 = .ok (.irem, 1) := by decide +kernel
theorem dX11_year_215 : decode cX11_year 215 = .ok (.invokevirtual 86, 3) := by decide +kernel
theorem dX11_year_218 : decode cX11_year 218 = .ok (.putfield 113, 3) := by decide +kernel
theorem dX11_year_221 : decode cX11_year 221 = .ok (.goto 11, 3) := by decide +kernel
theorem dX11_year_224 : decode cX11_year 224 = .ok (.aload_n 0, 1) := by decide +kernel
theorem dX11_year_225 : decode cX11_year 225 = .ok (.aload_n 0, 1) := by decide +kernel
theorem dX11_year_226 : decode cX11_year 226 = .ok (.invokevirtual 107, 3) := by decide +kernel
theorem dX11_year_229 : decode cX11_year 229 = .ok (.putfield 113, 3) := by decide +kernel
theorem dX11_year_232 : decode cX11_year 232 = .ok (.iinc 5 1, 3) := by decide +kernel
theorem dX11_year_235 : decode cX11_year 235 = .ok (.goto (-192), 3) := by decide +kernel
theorem dX11_year_238 : decode cX11_year 238 = .ok (.iload_n 3, 1) := by decide +kernel
theorem dX11_year_239 : decode cX11_year 239 = .ok (.ifCond .ne 10, 3) := by decide +kernel
theorem dX11_year_242 : decode cX11_year 242 = .ok (.aload_n 0, 1) := by decide +kernel
theorem dX11_year_243 : decode cX11_year 243 = .ok (.getfield 70, 3) := by decide +kernel
theorem dX11_year_246 : decode cX11_year 246 = .ok (.goto 22, 3) := by decide +kernel
theorem dX11_year_249 : decode cX11_year 249 = .ok (.iload_n 3, 1) := by decide +kernel
theorem dX11_year_250 : decode cX11_year 250 = .ok (.iconst 1, 1) := by decide +kernel
theorem dX11_year_251 : decode cX11_year 251 = .ok (.if_icmp .ne 13, 3) := by decide +kernel
theorem dX11_year_254 : decode cX11_year 254 = .ok (.aload_n 0, 1) := by decide +kernel
theorem dX11_year_255 : decode cX11_year 255 = .ok (.getfield 13, 3) := by decide +kernel
theorem dX11_year_258 : decode cX11_year 258 = .ok (.bipush 16, 2) := by decide +kernel
theorem dX11_year_260 : decode cX11_year 260 = .ok (.iaload, 1) := by decide +kernel
theorem dX11_year_261 : decode cX11_year 261 = .ok (.goto 7, 3) := by decide +kernel
theorem dX11_year_264 : decode cX11_year 264 = .ok (.aload_n 0, 1) := by decide +kernel
theorem dX11_year_265 : decode cX11_year 265 = .ok (.getfield 73, 3) := by decide +kernel
theorem dX11_year_268 : decode cX11_year 268 = .ok (.ireturn, 1) := by decide +kernel
theorem dX11_image_0 : decode cX11_image 0 = .ok (.iload_n 1, 1) := by decide +kernel
theorem dX11_image_1 : decode cX11_image 1 = .ok (.iconst 0, 1) := by decide +kernel
theorem dX11_image_2 : decode cX11_image 2 = .ok (.iconst 1, 1) := by decide +kernel
theorem dX11_image_3 : decode cX11_image 3 = .ok (.invokestatic 54, 3) := by decide +kernel
theorem dX11_image_6 : decode cX11_image 6 = .ok (.ifCond .ne 6, 3) := by decide +kernel
theorem dX11_image_9 : decode cX11_image 9 = .ok (.bipush (-2), 2) := by decide +kernel
theorem dX11_image_11 : decode cX11_image 11 = .ok (.ireturn, 1) := by decide +kernel
theorem dX11_image_12 : decode cX11_image 12 = .ok (.bipush 60, 2) := by decide +kernel
theorem dX11_image_14 : decode cX11_image 14 = .ok (.iload_n 1, 1) := by decide +kernel
theorem dX11_image_15 : decode cX11_image 15 = .ok (.imul, 1) := by decide +kernel
theorem dX11_image_16 : decode cX11_image 16 = .ok (.istore_n 2, 1) := by decide +kernel
theorem dX11_image_17 : decode cX11_image 17 = .ok (.iconst 0, 1) := by decide +kernel
theorem dX11_image_18 : decode cX11_image 18 = .ok (.istore_n 3, 1) := by decide +kernel
theorem dX11_image_19 : decode cX11_image 19 = .ok (.iload_n 3, 1) := by decide +kernel
theorem dX11_image_20 : decode cX11_image 20 = .ok (.bipush 31, 2) := by decide +kernel
theorem dX11_image_22 : decode cX11_image 22 = .ok (.if_icmp .ge 23, 3) := by decide +kernel
theorem dX11_image_25 : decode cX11_image 25 = .ok (.aload_n 0, 1) := by decide +kernel
theorem dX11_image_26 : decode cX11_image 26 = .ok (.getfield 47, 3) := by decide +kernel
theorem dX11_image_29 : decode cX11_image 29 = .ok (.iload_n 2, 1) := by decide +kernel
theorem dX11_image_30 : decode cX11_image 30 = .ok (.iload_n 3, 1) := by decide +kernel
theorem dX11_image_31 : decode cX11_image 31 = .ok (.iadd, 1) := by decide +kernel
theorem dX11_image_32 : decode cX11_image 32 = .ok (.aload_n 0, 1) := by decide +kernel
theorem dX11_image_33 : decode cX11_image 33 = .ok (.getfield 7, 3) := by decide +kernel
theorem dX11_image_36 : decode cX11_image 36 = .ok (.iload_n 3, 1) := by decide +kernel
theorem dX11_image_37 : decode cX11_image 37 = .ok (.iaload, 1) := by decide +kernel
theorem dX11_image_38 : decode cX11_image 38 = .ok (.iastore, 1) := by decide +kernel
theorem dX11_image_39 : decode cX11_image 39 = .ok (.iinc 3 1, 3) := by decide +kernel
theorem dX11_image_42 : decode cX11_image 42 = .ok (.goto (-23), 3) := by decide +kernel
theorem dX11_image_45 : decode cX11_image 45 = .ok (.iconst 0, 1) := by decide +kernel
theorem dX11_image_46 : decode cX11_image 46 = .ok (.istore_n 3, 1) := by decide +kernel
theorem dX11_image_47 : decode cX11_image 47 = .ok (.iload_n 3, 1) := by decide +kernel
theorem dX11_image_48 : decode cX11_image 48 = .ok (.bipush 24, 2) := by decide +kernel
theorem dX11_image_50 : decode cX11_image 50 = .ok (.if_icmp .ge 26, 3) := by decide +kernel
theorem dX11_image_53 : decode cX11_image 53 = .ok (.aload_n 0, 1) := by decide +kernel
theorem dX11_image_54 : decode cX11_image 54 = .ok (.getfield 47, 3) := by decide +kernel
theorem dX11_image_57 : decode cX11_image 57 = .ok (.iload_n 2, 1) := by decide +kernel
theorem dX11_image_58 : decode cX11_image 58 = .ok (.bipush 31, 2) := by decide +kernel
theorem dX11_image_60 : decode cX11_image 60 = .ok (.iadd, 1) := by decide +kernel
theorem dX11_image_61 : decode cX11_image 61 = .ok (.iload_n 3, 1) := by decide +kernel
theorem dX11_image_62 : decode cX11_image 62 = .ok (.iadd, 1) := by decide +kernel
theorem dX11_image_63 : decode cX11_image 63 = .ok (.aload_n 0, 1) := by decide +kernel
theorem dX11_image_64 : decode cX11_image 64 = .ok (.getfield 16, 3) := by decide +kernel
theorem dX11_image_67 : decode cX11_image 67 = .ok (.iload_n 3, 1) := by decide +kernel
theorem dX11_image_68 : decode cX11_image 68 = .ok (.iaload, 1) := by decide +kernel
theorem dX11_image_69 : decode cX11_image 69 = .ok (.iastore, 1) := by decide +kernel
theorem dX11_image_70 : decode cX11_image 70 = .ok (.iinc 3 1, 3) := by decide +kernel
theorem dX11_image_73 : decode cX11_image 73 = .ok (.goto (-26), 3) := by decide +kernel
theorem dX11_image_76 : decode cX11_image 76 = .ok (.aload_n 0, 1) := by decide +kernel
theorem dX11_image_77 : decode cX11_image 77 = .ok (.getfield 47, 3) := by decide +kernel
theorem dX11_image_80 : decode cX11_image 80 = .ok (.iload_n 2, 1) := by decide +kernel
theorem dX11_image_81 : decode cX11_image 81 = .ok (.bipush 56, 2) := by decide +kernel
theorem dX11_image_83 : decode cX11_image 83 = .ok (.iadd, 1) := by decide +kernel
theorem dX11_image_84 : decode cX11_image 84 = .ok (.aload_n 0, 1) := by decide +kernel
theorem dX11_image_85 : decode cX11_image 85 = .ok (.getfield 131, 3) := by decide +kernel
theorem dX11_image_88 : decode cX11_image 88 = .ok (.iastore, 1) := by decide +kernel
theorem dX11_image_89 : decode cX11_image 89 = .ok (.aload_n 0, 1) := by decide +kernel
theorem dX11_image_90 : decode cX11_image 90 = .ok (.getfield 50, 3) := by decide +kernel
theorem dX11_image_93 : decode cX11_image 93 = .ok (.iload_n 1, 1) := by decide +kernel
theorem dX11_image_94 : decode cX11_image 94 = .ok (.iconst 1, 1) := by decide +kernel
theorem dX11_image_95 : decode cX11_image 95 = .ok (.bastore, 1) := by decide +kernel
theorem dX11_image_96 : decode cX11_image 96 = .ok (.iconst 1, 1) := by decide +kernel
theorem dX11_image_97 : decode cX11_image 97 = .ok (.ireturn, 1) := by decide +kernel
theorem dX11_restore_0 : decode cX11_restore 0 = .ok (.iload_n 1, 1) := by decide +kernel
theorem dX11_restore_1 : decode cX11_restore 1 = .ok (.iconst 0, 1) := by decide +kernel
theorem dX11_restore_2 : decode cX11_restore 2 = .ok (.iconst 1, 1) := by decide +kernel
theorem dX11_restore_3 : decode cX11_restore 3 = .ok (.invokestatic 54, 3) := by decide +kernel
theorem dX11_restore_6 : decode cX11_restore 6 = .ok (.ifCond .ne 6, 3) := by decide +kernel
theorem dX11_restore_9 : decode cX11_restore 9 = .ok (.bipush (-2), 2) := by decide +kernel
theorem dX11_restore_11 : decode cX11_restore 11 = .ok (.ireturn, 1) := by decide +kernel
theorem dX11_restore_12 : decode cX11_restore 12 = .ok (.aload_n 0, 1) := by decide +kernel
theorem dX11_restore_13 : decode cX11_restore 13 = .ok (.getfield 50, 3) := by decide +kernel
theorem dX11_restore_16 : decode cX11_restore 16 = .ok (.iload_n 1, 1) := by decide +kernel
theorem dX11_restore_17 : decode cX11_restore 17 = .ok (.baload, 1) := by decide +kernel
theorem dX11_restore_18 : decode cX11_restore 18 = .ok (.ifCond .ne 6, 3) := by decide +kernel
theorem dX11_restore_21 : decode cX11_restore 21 = .ok (.bipush (-3), 2) := by decide +kernel
theorem dX11_restore_23 : decode cX11_restore 23 = .ok (.ireturn, 1) := by decide +kernel
theorem dX11_restore_24 : decode cX11_restore 24 = .ok (.bipush 60, 2) := by decide +kernel
theorem dX11_restore_26 : decode cX11_restore 26 = .ok (.iload_n 1, 1) := by decide +kernel
theorem dX11_restore_27 : decode cX11_restore 27 = .ok (.imul, 1) := by decide +kernel
theorem dX11_restore_28 : decode cX11_restore 28 = .ok (.istore_n 2, 1) := by decide +kernel
theorem dX11_restore_29 : decode cX11_restore 29 = .ok (.iconst 0, 1) := by decide +kernel
theorem dX11_restore_30 : decode cX11_restore 30 = .ok (.istore_n 3, 1) := by decide +kernel
theorem dX11_restore_31 : decode cX11_restore 31 = .ok (.iload_n 3, 1) := by decide +kernel
theorem dX11_restore_32 : decode cX11_restore 32 = .ok (.bipush 31, 2) := by decide +kernel
theorem dX11_restore_34 : decode cX11_restore 34 = .ok (.if_icmp .ge 23, 3) := by decide +kernel
theorem dX11_restore_37 : decode cX11_restore 37 = .ok (.aload_n 0, 1) := by decide +kernel
theorem dX11_restore_38 : decode cX11_restore 38 = .ok (.getfield 7, 3) := by decide +kernel
theorem dX11_restore_41 : decode cX11_restore 41 = .ok (.iload_n 3, 1) := by decide +kernel
theorem dX11_restore_42 : decode cX11_restore 42 = .ok (.aload_n 0, 1) := by decide +kernel
theorem dX11_restore_43 : decode cX11_restore 43 = .ok (.getfield 47, 3) := by decide +kernel
theorem dX11_restore_46 : decode cX11_restore 46 = .ok (.iload_n 2, 1) := by decide +kernel
theorem dX11_restore_47 : decode cX11_restore 47 = .ok (.iload_n 3, 1) := by decide +kernel
theorem dX11_restore_48 : decode cX11_restore 48 = .ok (.iadd, 1) := by decide +kernel
theorem dX11_restore_49 : decode cX11_restore 49 = .ok (.iaload, 1) := by decide +kernel
theorem dX11_restore_50 : decode cX11_restore 50 = .ok (.iastore, 1) := by decide +kernel
theorem dX11_restore_51 : decode cX11_restore 51 = .ok (.iinc 3 1, 3) := by decide +kernel
theorem dX11_restore_54 : decode cX11_restore 54 = .ok (.goto (-23), 3) := by decide +kernel
theorem dX11_restore_57 : decode cX11_restore 57 = .ok (.iconst 0, 1) := by decide +kernel
theorem dX11_restore_58 : decode cX11_restore 58 = .ok (.istore_n 3, 1) := by decide +kernel
theorem dX11_restore_59 : decode cX11_restore 59 = .ok (.iload_n 3, 1) := by decide +kernel
theorem dX11_restore_60 : decode cX11_restore 60 = .ok (.bipush 24, 2) := by decide +kernel
theorem dX11_restore_62 : decode cX11_restore 62 = .ok (.if_icmp .ge 26, 3) := by decide +kernel
theorem dX11_restore_65 : decode cX11_restore 65 = .ok (.aload_n 0, 1) := by decide +kernel
theorem dX11_restore_66 : decode cX11_restore 66 = .ok (.getfield 16, 3) := by decide +kernel
theorem dX11_restore_69 : decode cX11_restore 69 = .ok (.iload_n 3, 1) := by decide +kernel
theorem dX11_restore_70 : decode cX11_restore 70 = .ok (.aload_n 0, 1) := by decide +kernel
theorem dX11_restore_71 : decode cX11_restore 71 = .ok (.getfield 47, 3) := by decide +kernel
theorem dX11_restore_74 : decode cX11_restore 74 = .ok (.iload_n 2, 1) := by decide +kernel
theorem dX11_restore_75 : decode cX11_restore 75 = .ok (.bipush 31, 2) := by decide +kernel
theorem dX11_restore_77 : decode cX11_restore 77 = .ok (.iadd, 1) := by decide +kernel
theorem dX11_restore_78 : decode cX11_restore 78 = .ok (.iload_n 3, 1) := by decide +kernel
theorem dX11_restore_79 : decode cX11_restore 79 = .ok (.iadd, 1) := by decide +kernel
theorem dX11_restore_80 : decode cX11_restore 80 = .ok (.iaload, 1) := by decide +kernel
theorem dX11_restore_81 : decode cX11_restore 81 = .ok (.iastore, 1) := by decide +kernel
theorem dX11_restore_82 : decode cX11_restore 82 = .ok (.iinc 3 1, 3) := by decide +kernel
theorem dX11_restore_85 : decode cX11_restore 85 = .ok (.goto (-26), 3) := by decide +kernel
theorem dX11_restore_88 : decode cX11_restore 88 = .ok (.aload_n 0, 1) := by decide +kernel
theorem dX11_restore_89 : decode cX11_restore 89 = .ok (.aload_n 0, 1) := by decide +kernel
theorem dX11_restore_90 : decode cX11_restore 90 = .ok (.getfield 47, 3) := by decide +kernel
theorem dX11_restore_93 : decode cX11_restore 93 = .ok (.iload_n 2, 1) := by decide +kernel
theorem dX11_restore_94 : decode cX11_restore 94 = .ok (.bipush 56, 2) := by decide +kernel
theorem dX11_restore_96 : decode cX11_restore 96 = .ok (.iadd, 1) := by decide +kernel
theorem dX11_restore_97 : decode cX11_restore 97 = .ok (.iaload, 1) := by decide +kernel
theorem dX11_restore_98 : decode cX11_restore 98 = .ok (.putfield 131, 3) := by decide +kernel
theorem dX11_restore_101 : decode cX11_restore 101 = .ok (.iconst 1, 1) := by decide +kernel
theorem dX11_restore_102 : decode cX11_restore 102 = .ok (.ireturn, 1) := by decide +kernel
theorem dX11_told_0 : decode cX11_told 0 = .ok (.iload_n 1, 1) := by decide +kernel
theorem dX11_told_1 : decode cX11_told 1 = .ok (.bipush 10, 2) := by decide +kernel
theorem dX11_told_3 : decode cX11_told 3 = .ok (.if_icmp .lt 63, 3) := by decide +kernel
theorem dX11_told_6 : decode cX11_told 6 = .ok (.iload_n 1, 1) := by decide +kernel
theorem dX11_told_7 : decode cX11_told 7 = .ok (.bipush 10, 2) := by decide +kernel
theorem dX11_told_9 : decode cX11_told 9 = .ok (.irem, 1) := by decide +kernel
theorem dX11_told_10 : decode cX11_told 10 = .ok (.istore_n 2, 1) := by decide +kernel
theorem dX11_told_11 : decode cX11_told 11 = .ok (.iload_n 1, 1) := by decide +kernel
theorem dX11_told_12 : decode cX11_told 12 = .ok (.bipush 40, 2) := by decide +kernel
theorem dX11_told_14 : decode cX11_told 14 = .ok (.if_icmp .lt 24, 3) := by decide +kernel
theorem dX11_told_17 : decode cX11_told 17 = .ok (.iload_n 1, 1) := by decide +kernel
theorem dX11_told_18 : decode cX11_told 18 = .ok (.bipush 44, 2) := by decide +kernel
theorem dX11_told_20 : decode cX11_told 20 = .ok (.if_icmp .ge 15, 3) := by decide +kernel
theorem dX11_told_23 : decode cX11_told 23 = .ok (.aload_n 0, 1) := by decide +kernel
theorem dX11_told_24 : decode cX11_told 24 = .ok (.getfield 7, 3) := by decide +kernel
theorem dX11_told_27 : decode cX11_told 27 = .ok (.bipush 24, 2) := by decide +kernel
theorem dX11_told_29 : decode cX11_told 29 = .ok (.iload_n 2, 1) := by decide +kernel
theorem dX11_told_30 : decode cX11_told 30 = .ok (.iadd, 1) := by decide +kernel
theorem dX11_told_31 : decode cX11_told 31 = .ok (.iaload, 1) := by decide +kernel
theorem dX11_told_32 : decode cX11_told 32 = .ok (.goto 5, 3) := by decide +kernel
theorem dX11_told_35 : decode cX11_told 35 = .ok (.bipush (-2), 2) := by decide +kernel
theorem dX11_told_37 : decode cX11_told 37 = .ok (.ireturn, 1) := by decide +kernel
theorem dX11_told_38 : decode cX11_told 38 = .ok (.iload_n 2, 1) := by decide +kernel
theorem dX11_told_39 : decode cX11_told 39 = .ok (.bipush 7, 2) := by decide +kernel
theorem dX11_told_41 : decode cX11_told 41 = .ok (.if_icmp .le 8, 3) := by decide +kernel
theorem dX11_told_44 : decode cX11_told 44 = .ok (.bipush (-2), 2) := by decide +kernel
theorem dX11_told_46 : decode cX11_told 46 = .ok (.goto 19, 3) := by decide +kernel
theorem dX11_told_49 : decode cX11_told 49 = .ok (.aload_n 0, 1) := by decide +kernel
theorem dX11_told_50 : decode cX11_told 50 = .ok (.getfield 7, 3) := by decide +kernel
theorem dX11_told_53 : decode cX11_told 53 = .ok (.bipush 8, 2) := by decide +kernel
theorem dX11_told_55 : decode cX11_told 55 = .ok (.iload_n 1, 1) := by decide +kernel
theorem dX11_told_56 : decode cX11_told 56 = .ok (.bipush 10, 2) := by decide +kernel
theorem dX11_told_58 : decode cX11_told 58 = .ok (.idiv, 1) := by decide +kernel
theorem dX11_told_59 : decode cX11_told 59 = .ok (.iconst 1, 1) := by decide +kernel
theorem dX11_told_60 : decode cX11_told 60 = .ok (.isub, 1) := by decide +kernel
theorem dX11_told_61 : decode cX11_told 61 = .ok (.imul, 1) := by decide +kernel
theorem dX11_told_62 : decode cX11_told 62 = .ok (.iload_n 2, 1) := by decide +kernel
theorem dX11_told_63 : decode cX11_told 63 = .ok (.iadd, 1) := by decide +kernel
theorem dX11_told_64 : decode cX11_told 64 = .ok (.iaload, 1) := by decide +kernel
theorem dX11_told_65 : decode cX11_told 65 = .ok (.ireturn, 1) := by decide +kernel
theorem dX11_told_66 : decode cX11_told 66 = .ok (.aload_n 0, 1) := by decide +kernel
theorem dX11_told_67 : decode cX11_told 67 = .ok (.invokevirtual 101, 3) := by decide +kernel
theorem dX11_told_70 : decode cX11_told 70 = .ok (.iload_n 1, 1) := by decide +kernel
theorem dX11_told_71 : decode cX11_told 71 = .ok (.tableswitch 67 0 4 #[33, 38, 46, 51, 59], 33) := by decide +kernel
theorem dX11_told_104 : decode cX11_told 104 = .ok (.aload_n 0, 1) := by decide +kernel
theorem dX11_told_105 : decode cX11_told 105 = .ok (.getfield 58, 3) := by decide +kernel
theorem dX11_told_108 : decode cX11_told 108 = .ok (.ireturn, 1) := by decide +kernel
theorem dX11_told_109 : decode cX11_told 109 = .ok (.aload_n 0, 1) := by decide +kernel
theorem dX11_told_110 : decode cX11_told 110 = .ok (.getfield 7, 3) := by decide +kernel
theorem dX11_told_113 : decode cX11_told 113 = .ok (.bipush 28, 2) := by decide +kernel
theorem dX11_told_115 : decode cX11_told 115 = .ok (.iaload, 1) := by decide +kernel
theorem dX11_told_116 : decode cX11_told 116 = .ok (.ireturn, 1) := by decide +kernel
theorem dX11_told_117 : decode cX11_told 117 = .ok (.aload_n 0, 1) := by decide +kernel
theorem dX11_told_118 : decode cX11_told 118 = .ok (.invokevirtual 83, 3) := by decide +kernel
theorem dX11_told_121 : decode cX11_told 121 = .ok (.ireturn, 1) := by decide +kernel
theorem dX11_told_122 : decode cX11_told 122 = .ok (.aload_n 0, 1) := by decide +kernel
theorem dX11_told_123 : decode cX11_told 123 = .ok (.getfield 7, 3) := by decide +kernel
theorem dX11_told_126 : decode cX11_told 126 = .ok (.bipush 30, 2) := by decide +kernel
theorem dX11_told_128 : decode cX11_told 128 = .ok (.iaload, 1) := by decide +kernel
theorem dX11_told_129 : decode cX11_told 129 = .ok (.ireturn, 1) := by decide +kernel
theorem dX11_told_130 : decode cX11_told 130 = .ok (.aload_n 0, 1) := by decide +kernel
theorem dX11_told_131 : decode cX11_told 131 = .ok (.getfield 7, 3) := by decide +kernel
theorem dX11_told_134 : decode cX11_told 134 = .ok (.bipush 29, 2) := by decide +kernel
theorem dX11_told_136 : decode cX11_told 136 = .ok (.iaload, 1) := by decide +kernel
theorem dX11_told_137 : decode cX11_told 137 = .ok (.ireturn, 1) := by decide +kernel
theorem dX11_told_138 : decode cX11_told 138 = .ok (.iload_n 1, 1) := by decide +kernel
theorem dX11_told_139 : decode cX11_told 139 = .ok (.iconst 5, 1) := by decide +kernel
theorem dX11_told_140 : decode cX11_told 140 = .ok (.if_icmp .ne 10, 3) := by decide +kernel
theorem dX11_told_143 : decode cX11_told 143 = .ok (.aload_n 0, 1) := by decide +kernel
theorem dX11_told_144 : decode cX11_told 144 = .ok (.getfield 131, 3) := by decide +kernel
theorem dX11_told_147 : decode cX11_told 147 = .ok (.goto 5, 3) := by decide +kernel
theorem dX11_told_150 : decode cX11_told 150 = .ok (.bipush (-2), 2) := by decide +kernel
theorem dX11_told_152 : decode cX11_told 152 = .ok (.ireturn, 1) := by decide +kernel
theorem dL_law_0 : decode cL_law 0 = .ok (.new 7, 3) := by decide +kernel
theorem dL_law_3 : decode cL_law 3 = .ok (.dup, 1) := by decide +kernel
theorem dL_law_4 : decode cL_law 4 = .ok (.invokespecial 9, 3) := by decide +kernel
theorem dL_law_7 : decode cL_law 7 = .ok (.astore_n 1, 1) := by decide +kernel
theorem dL_law_8 : decode cL_law 8 = .ok (.new 10, 3) := by decide +kernel
theorem dL_law_11 : decode cL_law 11 = .ok (.dup, 1) := by decide +kernel
theorem dL_law_12 : decode cL_law 12 = .ok (.invokespecial 12, 3) := by decide +kernel
theorem dL_law_15 : decode cL_law 15 = .ok (.astore_n 2, 1) := by decide +kernel
theorem dL_law_16 : decode cL_law 16 = .ok (.iconst 0, 1) := by decide +kernel
theorem dL_law_17 : decode cL_law 17 = .ok (.istore_n 3, 1) := by decide +kernel
theorem dL_law_18 : decode cL_law 18 = .ok (.iload_n 3, 1) := by decide +kernel
theorem dL_law_19 : decode cL_law 19 = .ok (.aload_n 0, 1) := by decide +kernel
theorem dL_law_20 : decode cL_law 20 = .ok (.arraylength, 1) := by decide +kernel
theorem dL_law_21 : decode cL_law 21 = .ok (.bipush 6, 2) := by decide +kernel
theorem dL_law_23 : decode cL_law 23 = .ok (.isub, 1) := by decide +kernel
theorem dL_law_24 : decode cL_law 24 = .ok (.if_icmp .gt 886, 3) := by decide +kernel
theorem dL_law_27 : decode cL_law 27 = .ok (.aload_n 0, 1) := by decide +kernel
theorem dL_law_28 : decode cL_law 28 = .ok (.iload_n 3, 1) := by decide +kernel
theorem dL_law_29 : decode cL_law 29 = .ok (.iaload, 1) := by decide +kernel
theorem dL_law_30 : decode cL_law 30 = .ok (.bipush 31, 2) := by decide +kernel
theorem dL_law_32 : decode cL_law 32 = .ok (.iand, 1) := by decide +kernel
theorem dL_law_33 : decode cL_law 33 = .ok (.tableswitch 871 0 24 #[115, 168, 201, 224, 247, 260, 273, 296, 309, 342, 365, 388, 411, 434, 497, 550, 593, 606, 629, 652, 695, 759, 802, 825, 848], 115) := by decide +kernel
theorem dL_law_148 : decode cL_law 148 = .ok (.aload_n 1, 1) := by decide +kernel
theorem dL_law_149 : decode cL_law 149 = .ok (.aload_n 0, 1) := by decide +kernel
theorem dL_law_150 : decode cL_law 150 = .ok (.iload_n 3, 1) := by decide +kernel
theorem dL_law_151 : decode cL_law 151 = .ok (.iconst 1, 1) := by decide +kernel
theorem dL_law_152 : decode cL_law 152 = .ok (.iadd, 1) := by decide +kernel
theorem dL_law_153 : decode cL_law 153 = .ok (.iaload, 1) := by decide +kernel
theorem dL_law_154 : decode cL_law 154 = .ok (.aload_n 0, 1) := by decide +kernel
theorem dL_law_155 : decode cL_law 155 = .ok (.iload_n 3, 1) := by decide +kernel
theorem dL_law_156 : decode cL_law 156 = .ok (.iconst 2, 1) := by decide +kernel
theorem dL_law_157 : decode cL_law 157 = .ok (.iadd, 1) := by decide +kernel
theorem dL_law_158 : decode cL_law 158 = .ok (.iaload, 1) := by decide +kernel
theorem dL_law_159 : decode cL_law 159 = .ok (.aload_n 0, 1) := by decide +kernel
theorem dL_law_160 : decode cL_law 160 = .ok (.iload_n 3, 1) := by decide +kernel
theorem dL_law_161 : decode cL_law 161 = .ok (.iconst 3, 1) := by decide +kernel
theorem dL_law_162 : decode cL_law 162 = .ok (.iadd, 1) := by decide +kernel
theorem dL_law_163 : decode cL_law 163 = .ok (.iaload, 1) := by decide +kernel
theorem dL_law_164 : decode cL_law 164 = .ok (.aload_n 0, 1) := by decide +kernel
theorem dL_law_165 : decode cL_law 165 = .ok (.iload_n 3, 1) := by decide +kernel
theorem dL_law_166 : decode cL_law 166 = .ok (.iconst 4, 1) := by decide +kernel
theorem dL_law_167 : decode cL_law 167 = .ok (.iadd, 1) := by decide +kernel
theorem dL_law_168 : decode cL_law 168 = .ok (.iaload, 1) := by decide +kernel
theorem dL_law_169 : decode cL_law 169 = .ok (.invokevirtual 13, 3) := by decide +kernel
theorem dL_law_172 : decode cL_law 172 = .ok (.aload_n 2, 1) := by decide +kernel
theorem dL_law_173 : decode cL_law 173 = .ok (.aload_n 0, 1) := by decide +kernel
theorem dL_law_174 : decode cL_law 174 = .ok (.iload_n 3, 1) := by decide +kernel
theorem dL_law_175 : decode cL_law 175 = .ok (.iconst 1, 1) := by decide +kernel
theorem dL_law_176 : decode cL_law 176 = .ok (.iadd, 1) := by decide +kernel
theorem dL_law_177 : decode cL_law 177 = .ok (.iaload, 1) := by decide +kernel
theorem dL_law_178 : decode cL_law 178 = .ok (.aload_n 0, 1) := by decide +kernel
theorem dL_law_179 : decode cL_law 179 = .ok (.iload_n 3, 1) := by decide +kernel
theorem dL_law_180 : decode cL_law 180 = .ok (.iconst 2, 1) := by decide +kernel
theorem dL_law_181 : decode cL_law 181 = .ok (.iadd, 1) := by decide +kernel
theorem dL_law_182 : decode cL_law 182 = .ok (.iaload, 1) := by decide +kernel
theorem dL_law_183 : decode cL_law 183 = .ok (.aload_n 0, 1) := by decide +kernel
theorem dL_law_184 : decode cL_law 184 = .ok (.iload_n 3, 1) := by decide +kernel
theorem dL_law_185 : decode cL_law 185 = .ok (.iconst 3, 1) := by decide +kernel
theorem dL_law_186 : decode cL_law 186 = .ok (.iadd, 1) := by decide +kernel
theorem dL_law_187 : decode cL_law 187 = .ok (.iaload, 1) := by decide +kernel
theorem dL_law_188 : decode cL_law 188 = .ok (.aload_n 0, 1) := by decide +kernel
theorem dL_law_189 : decode cL_law 189 = .ok (.iload_n 3, 1) := by decide +kernel
theorem dL_law_190 : decode cL_law 190 = .ok (.iconst 4, 1) := by decide +kernel
theorem dL_law_191 : decode cL_law 191 = .ok (.iadd, 1) := by decide +kernel
theorem dL_law_192 : decode cL_law 192 = .ok (.iaload, 1) := by decide +kernel
theorem dL_law_193 : decode cL_law 193 = .ok (.invokevirtual 17, 3) := by decide +kernel
theorem dL_law_196 : decode cL_law 196 = .ok (.if_icmp .eq 708, 3) := by decide +kernel
theorem dL_law_199 : decode cL_law 199 = .ok (.iconst 0, 1) := by decide +kernel
theorem dL_law_200 : decode cL_law 200 = .ok (.ireturn, 1) := by decide +kernel
theorem dL_law_201 : decode cL_law 201 = .ok (.aload_n 1, 1) := by decide +kernel
theorem dL_law_202 : decode cL_law 202 = .ok (.aload_n 0, 1) := by decide +kernel
theorem dL_law_203 : decode cL_law 203 = .ok (.iload_n 3, 1) := by decide +kernel
theorem dL_law_204 : decode cL_law 204 = .ok (.iconst 1, 1) := by decide +kernel
theorem dL_law_205 : decode cL_law 205 = .ok (.iadd, 1) := by decide +kernel
theorem dL_law_206 : decode cL_law 206 = .ok (.iaload, 1) := by decide +kernel
theorem dL_law_207 : decode cL_law 207 = .ok (.aload_n 0, 1) := by decide +kernel
theorem dL_law_208 : decode cL_law 208 = .ok (.iload_n 3, 1) := by decide +kernel
theorem dL_law_209 : decode cL_law 209 = .ok (.iconst 2, 1) := by decide +kernel
theorem dL_law_210 : decode cL_law 210 = .ok (.iadd, 1) := by decide +kernel
theorem dL_law_211 : decode cL_law 211 = .ok (.iaload, 1) := by decide +kernel
theorem dL_law_212 : decode cL_law 212 = .ok (.invokevirtual 18, 3) := by decide +kernel
theorem dL_law_215 : decode cL_law 215 = .ok (.aload_n 2, 1) := by decide +kernel
theorem dL_law_216 : decode cL_law 216 = .ok (.aload_n 0, 1) := by decide +kernel
theorem dL_law_217 : decode cL_law 217 = .ok (.iload_n 3, 1) := by decide +kernel
theorem dL_law_218 : decode cL_law 218 = .ok (.iconst 1, 1) := by decide +kernel
theorem dL_law_219 : decode cL_law 219 = .ok (.iadd, 1) := by decide +kernel
theorem dL_law_220 : decode cL_law 220 = .ok (.iaload, 1) := by decide +kernel
theorem dL_law_221 : decode cL_law 221 = .ok (.aload_n 0, 1) := by decide +kernel
theorem dL_law_222 : decode cL_law 222 = .ok (.iload_n 3, 1) := by decide +kernel
theorem dL_law_223 : decode cL_law 223 = .ok (.iconst 2, 1) := by decide +kernel
theorem dL_law_224 : decode cL_law 224 = .ok (.iadd, 1) := by decide +kernel
theorem dL_law_225 : decode cL_law 225 = .ok (.iaload, 1) := by decide +kernel
theorem dL_law_226 : decode cL_law 226 = .ok (.invokevirtual 22, 3) := by decide +kernel
theorem dL_law_229 : decode cL_law 229 = .ok (.if_icmp .eq 675, 3) := by decide +kernel
theorem dL_law_232 : decode cL_law 232 = .ok (.iconst 0, 1) := by decide +kernel
theorem dL_law_233 : decode cL_law 233 = .ok (.ireturn, 1) := by decide +kernel
theorem dL_law_234 : decode cL_law 234 = .ok (.aload_n 1, 1) := by decide +kernel
theorem dL_law_235 : decode cL_law 235 = .ok (.aload_n 0, 1) := by decide +kernel
theorem dL_law_236 : decode cL_law 236 = .ok (.iload_n 3, 1) := by decide +kernel
theorem dL_law_237 : decode cL_law 237 = .ok (.iconst 1, 1) := by decide +kernel
theorem dL_law_238 : decode cL_law 238 = .ok (.iadd, 1) := by decide +kernel
theorem dL_law_239 : decode cL_law 239 = .ok (.iaload, 1) := by decide +kernel
theorem dL_law_240 : decode cL_law 240 = .ok (.invokevirtual 23, 3) := by decide +kernel
theorem dL_law_243 : decode cL_law 243 = .ok (.aload_n 2, 1) := by decide +kernel
theorem dL_law_244 : decode cL_law 244 = .ok (.aload_n 0, 1) := by decide +kernel
theorem dL_law_245 : decode cL_law 245 = .ok (.iload_n 3, 1) := by decide +kernel
theorem dL_law_246 : decode cL_law 246 = .ok (.iconst 1, 1) := by decide +kernel
theorem dL_law_247 : decode cL_law 247 = .ok (.iadd, 1) := by decide +kernel
theorem dL_law_248 : decode cL_law 248 = .ok (.iaload, 1) := by decide +kernel
theorem dL_law_249 : decode cL_law 249 = .ok (.invokevirtual 27, 3) := by decide +kernel
theorem dL_law_252 : decode cL_law 252 = .ok (.if_icmp .eq 652, 3) := by decide +kernel
theorem dL_law_255 : decode cL_law 255 = .ok (.iconst 0, 1) := by decide +kernel
theorem dL_law_256 : decode cL_law 256 = .ok (.ireturn, 1) := by decide +kernel
theorem dL_law_257 : decode cL_law 257 = .ok (.aload_n 1, 1) := by decide +kernel
theorem dL_law_258 : decode cL_law 258 = .ok (.aload_n 0, 1) := by decide +kernel
theorem dL_law_259 : decode cL_law 259 = .ok (.iload_n 3, 1) := by decide +kernel
theorem dL_law_260 : decode cL_law 260 = .ok (.iconst 1, 1) := by decide +kernel
theorem dL_law_261 : decode cL_law 261 = .ok (.iadd, 1) := by decide +kernel
theorem dL_law_262 : decode cL_law 262 = .ok (.iaload, 1) := by decide +kernel
theorem dL_law_263 : decode cL_law 263 = .ok (.invokevirtual 28, 3) := by decide +kernel
theorem dL_law_266 : decode cL_law 266 = .ok (.aload_n 2, 1) := by decide +kernel
theorem dL_law_267 : decode cL_law 267 = .ok (.aload_n 0, 1) := by decide +kernel
theorem dL_law_268 : decode cL_law 268 = .ok (.iload_n 3, 1) := by decide +kernel
theorem dL_law_269 : decode cL_law 269 = .ok (.iconst 1, 1) := by decide +kernel
theorem dL_law_270 : decode cL_law 270 = .ok (.iadd, 1) := by decide +kernel
theorem dL_law_271 : decode cL_law 271 = .ok (.iaload, 1) := by decide +kernel
theorem dL_law_272 : decode cL_law 272 = .ok (.invokevirtual 31, 3) := by decide +kernel
theorem dL_law_275 : decode cL_law 275 = .ok (.if_icmp .eq 629, 3) := by decide +kernel
theorem dL_law_278 : decode cL_law 278 = .ok (.iconst 0, 1) := by decide +kernel
theorem dL_law_279 : decode cL_law 279 = .ok (.ireturn, 1) := by decide +kernel
theorem dL_law_280 : decode cL_law 280 = .ok (.aload_n 1, 1) := by decide +kernel
theorem dL_law_281 : decode cL_law 281 = .ok (.invokevirtual 32, 3) := by decide +kernel
theorem dL_law_284 : decode cL_law 284 = .ok (.aload_n 2, 1) := by decide +kernel
theorem dL_law_285 : decode cL_law 285 = .ok (.invokevirtual 36, 3) := by decide +kernel
theorem dL_law_288 : decode cL_law 288 = .ok (.if_icmp .eq 616, 3) := by decide +kernel
theorem dL_law_291 : decode cL_law 291 = .ok (.iconst 0, 1) := by decide +kernel
theorem dL_law_292 : decode cL_law 292 = .ok (.ireturn, 1) := by decide +kernel
theorem dL_law_293 : decode cL_law 293 = .ok (.aload_n 1, 1) := by decide +kernel
theorem dL_law_294 : decode cL_law 294 = .ok (.invokevirtual 37, 3) := by decide +kernel
theorem dL_law_297 : decode cL_law 297 = .ok (.aload_n 2, 1) := by decide +kernel
theorem dL_law_298 : decode cL_law 298 = .ok (.invokevirtual 40, 3) := by decide +kernel
theorem dL_law_301 : decode cL_law 301 = .ok (.if_icmp .eq 603, 3) := by decide +kernel
theorem dL_law_304 : decode cL_law 304 = .ok (.iconst 0, 1) := by decide +kernel
theorem dL_law_305 : decode cL_law 305 = .ok (.ireturn, 1) := by decide +kernel
theorem dL_law_306 : decode cL_law 306 = .ok (.aload_n 1, 1) := by decide +kernel
theorem dL_law_307 : decode cL_law 307 = .ok (.aload_n 0, 1) := by decide +kernel
theorem dL_law_308 : decode cL_law 308 = .ok (.iload_n 3, 1) := by decide +kernel
theorem dL_law_309 : decode cL_law 309 = .ok (.iconst 1, 1) := by decide +kernel
theorem dL_law_310 : decode cL_law 310 = .ok (.iadd, 1) := by decide +kernel
theorem dL_law_311 : decode cL_law 311 = .ok (.iaload, 1) := by decide +kernel
theorem dL_law_312 : decode cL_law 312 = .ok (.invokevirtual 41, 3) := by decide +kernel
theorem dL_law_315 : decode cL_law 315 = .ok (.aload_n 2, 1) := by decide +kernel
theorem dL_law_316 : decode cL_law 316 = .ok (.aload_n 0, 1) := by decide +kernel
theorem dL_law_317 : decode cL_law 317 = .ok (.iload_n 3, 1) := by decide +kernel
theorem dL_law_318 : decode cL_law 318 = .ok (.iconst 1, 1) := by decide +kernel
theorem dL_law_319 : decode cL_law 319 = .ok (.iadd, 1) := by decide +kernel
theorem dL_law_320 : decode cL_law 320 = .ok (.iaload, 1) := by decide +kernel
theorem dL_law_321 : decode cL_law 321 = .ok (.invokevirtual 44, 3) := by decide +kernel
theorem dL_law_324 : decode cL_law 324 = .ok (.if_icmp .eq 580, 3) := by decide +kernel
theorem dL_law_327 : decode cL_law 327 = .ok (.iconst 0, 1) := by decide +kernel
theorem dL_law_328 : decode cL_law 328 = .ok (.ireturn, 1) := by decide +kernel
theorem dL_law_329 : decode cL_law 329 = .ok (.aload_n 1, 1) := by decide +kernel
theorem dL_law_330 : decode cL_law 330 = .ok (.invokevirtual 45, 3) := by decide +kernel
theorem dL_law_333 : decode cL_law 333 = .ok (.aload_n 2, 1) := by decide +kernel
theorem dL_law_334 : decode cL_law 334 = .ok (.invokevirtual 48, 3) := by decide +kernel
theorem dL_law_337 : decode cL_law 337 = .ok (.if_icmp .eq 567, 3) := by decide +kernel
theorem dL_law_340 : decode cL_law 340 = .ok (.iconst 0, 1) := by decide +kernel
theorem dL_law_341 : decode cL_law 341 = .ok (.ireturn, 1) := by decide +kernel
theorem dL_law_342 : decode cL_law 342 = .ok (.aload_n 1, 1) := by decide +kernel
theorem dL_law_343 : decode cL_law 343 = .ok (.aload_n 0, 1) := by decide +kernel
theorem dL_law_344 : decode cL_law 344 = .ok (.iload_n 3, 1) := by decide +kernel
theorem dL_law_345 : decode cL_law 345 = .ok (.iconst 1, 1) := by decide +kernel
theorem dL_law_346 : decode cL_law 346 = .ok (.iadd, 1) := by decide +kernel
theorem dL_law_347 : decode cL_law 347 = .ok (.iaload, 1) := by decide +kernel
theorem dL_law_348 : decode cL_law 348 = .ok (.aload_n 0, 1) := by decide +kernel
theorem dL_law_349 : decode cL_law 349 = .ok (.iload_n 3, 1) := by decide +kernel
theorem dL_law_350 : decode cL_law 350 = .ok (.iconst 2, 1) := by decide +kernel
theorem dL_law_351 : decode cL_law 351 = .ok (.iadd, 1) := by decide +kernel
theorem dL_law_352 : decode cL_law 352 = .ok (.iaload, 1) := by decide +kernel
theorem dL_law_353 : decode cL_law 353 = .ok (.invokevirtual 49, 3) := by decide +kernel
theorem dL_law_356 : decode cL_law 356 = .ok (.aload_n 2, 1) := by decide +kernel
theorem dL_law_357 : decode cL_law 357 = .ok (.aload_n 0, 1) := by decide +kernel
theorem dL_law_358 : decode cL_law 358 = .ok (.iload_n 3, 1) := by decide +kernel
theorem dL_law_359 : decode cL_law 359 = .ok (.iconst 1, 1) := by decide +kernel
theorem dL_law_360 : decode cL_law 360 = .ok (.iadd, 1) := by decide +kernel
theorem dL_law_361 : decode cL_law 361 = .ok (.iaload, 1) := by decide +kernel
theorem dL_law_362 : decode cL_law 362 = .ok (.aload_n 0, 1) := by decide +kernel
theorem dL_law_363 : decode cL_law 363 = .ok (.iload_n 3, 1) := by decide +kernel
theorem dL_law_364 : decode cL_law 364 = .ok (.iconst 2, 1) := by decide +kernel
theorem dL_law_365 : decode cL_law 365 = .ok (.iadd, 1) := by decide +kernel
theorem dL_law_366 : decode cL_law 366 = .ok (.iaload, 1) := by decide +kernel
theorem dL_law_367 : decode cL_law 367 = .ok (.invokevirtual 52, 3) := by decide +kernel
theorem dL_law_370 : decode cL_law 370 = .ok (.if_icmp .eq 534, 3) := by decide +kernel
theorem dL_law_373 : decode cL_law 373 = .ok (.iconst 0, 1) := by decide +kernel
theorem dL_law_374 : decode cL_law 374 = .ok (.ireturn, 1) := by decide +kernel
theorem dL_law_375 : decode cL_law 375 = .ok (.aload_n 1, 1) := by decide +kernel
theorem dL_law_376 : decode cL_law 376 = .ok (.aload_n 0, 1) := by decide +kernel
theorem dL_law_377 : decode cL_law 377 = .ok (.iload_n 3, 1) := by decide +kernel
theorem dL_law_378 : decode cL_law 378 = .ok (.iconst 1, 1) := by decide +kernel
theorem dL_law_379 : decode cL_law 379 = .ok (.iadd, 1) := by decide +kernel
theorem dL_law_380 : decode cL_law 380 = .ok (.iaload, 1) := by decide +kernel
theorem dL_law_381 : decode cL_law 381 = .ok (.invokevirtual 53, 3) := by decide +kernel
theorem dL_law_384 : decode cL_law 384 = .ok (.aload_n 2, 1) := by decide +kernel
theorem dL_law_385 : decode cL_law 385 = .ok (.aload_n 0, 1) := by decide +kernel
theorem dL_law_386 : decode cL_law 386 = .ok (.iload_n 3, 1) := by decide +kernel
theorem dL_law_387 : decode cL_law 387 = .ok (.iconst 1, 1) := by decide +kernel
theorem dL_law_388 : decode cL_law 388 = .ok (.iadd, 1) := by decide +kernel
theorem dL_law_389 : decode cL_law 389 = .ok (.iaload, 1) := by decide +kernel
theorem dL_law_390 : decode cL_law 390 = .ok (.invokevirtual 56, 3) := by decide +kernel
theorem dL_law_393 : decode cL_law 393 = .ok (.if_icmp .eq 511, 3) := by decide +kernel
theorem dL_law_396 : decode cL_law 396 = .ok (.iconst 0, 1) := by decide +kernel
theorem dL_law_397 : decode cL_law 397 = .ok (.ireturn, 1) := by decide +kernel
theorem dL_law_398 : decode cL_law 398 = .ok (.aload_n 1, 1) := by decide +kernel
theorem dL_law_399 : decode cL_law 399 = .ok (.aload_n 0, 1) := by decide +kernel
theorem dL_law_400 : decode cL_law 400 = .ok (.iload_n 3, 1) := by decide +kernel
theorem dL_law_401 : decode cL_law 401 = .ok (.iconst 1, 1) := by decide +kernel
theorem dL_law_402 : decode cL_law 402 = .ok (.iadd, 1) := by decide +kernel
theorem dL_law_403 : decode cL_law 403 = .ok (.iaload, 1) := by decide +kernel
theorem dL_law_404 : decode cL_law 404 = .ok (.invokevirtual 57, 3) := by decide +kernel
theorem dL_law_407 : decode cL_law 407 = .ok (.aload_n 2, 1) := by decide +kernel
theorem dL_law_408 : decode cL_law 408 = .ok (.aload_n 0, 1) := by decide +kernel
theorem dL_law_409 : decode cL_law 409 = .ok (.iload_n 3, 1) := by decide +kernel
theorem dL_law_410 : decode cL_law 410 = .ok (.iconst 1, 1) := by decide +kernel
theorem dL_law_411 : decode cL_law 411 = .ok (.iadd, 1) := by decide +kernel
theorem dL_law_412 : decode cL_law 412 = .ok (.iaload, 1) := by decide +kernel
theorem dL_law_413 : decode cL_law 413 = .ok (.invokevirtual 60, 3) := by decide +kernel
theorem dL_law_416 : decode cL_law 416 = .ok (.if_icmp .eq 488, 3) := by decide +kernel
theorem dL_law_419 : decode cL_law 419 = .ok (.iconst 0, 1) := by decide +kernel
theorem dL_law_420 : decode cL_law 420 = .ok (.ireturn, 1) := by decide +kernel
theorem dL_law_421 : decode cL_law 421 = .ok (.aload_n 1, 1) := by decide +kernel
theorem dL_law_422 : decode cL_law 422 = .ok (.aload_n 0, 1) := by decide +kernel
theorem dL_law_423 : decode cL_law 423 = .ok (.iload_n 3, 1) := by decide +kernel
theorem dL_law_424 : decode cL_law 424 = .ok (.iconst 1, 1) := by decide +kernel
theorem dL_law_425 : decode cL_law 425 = .ok (.iadd, 1) := by decide +kernel
theorem dL_law_426 : decode cL_law 426 = .ok (.iaload, 1) := by decide +kernel
theorem dL_law_427 : decode cL_law 427 = .ok (.invokevirtual 61, 3) := by decide +kernel
theorem dL_law_430 : decode cL_law 430 = .ok (.aload_n 2, 1) := by decide +kernel
theorem dL_law_431 : decode cL_law 431 = .ok (.aload_n 0, 1) := by decide +kernel
theorem dL_law_432 : decode cL_law 432 = .ok (.iload_n 3, 1) := by decide +kernel
theorem dL_law_433 : decode cL_law 433 = .ok (.iconst 1, 1) := by decide +kernel
theorem dL_law_434 : decode cL_law 434 = .ok (.iadd, 1) := by decide +kernel
theorem dL_law_435 : decode cL_law 435 = .ok (.iaload, 1) := by decide +kernel
theorem dL_law_436 : decode cL_law 436 = .ok (.invokevirtual 64, 3) := by decide +kernel
theorem dL_law_439 : decode cL_law 439 = .ok (.if_icmp .eq 465, 3) := by decide +kernel
theorem dL_law_442 : decode cL_law 442 = .ok (.iconst 0, 1) := by decide +kernel
theorem dL_law_443 : decode cL_law 443 = .ok (.ireturn, 1) := by decide +kernel
theorem dL_law_444 : decode cL_law 444 = .ok (.aload_n 1, 1) := by decide +kernel
theorem dL_law_445 : decode cL_law 445 = .ok (.aload_n 0, 1) := by decide +kernel
theorem dL_law_446 : decode cL_law 446 = .ok (.iload_n 3, 1) := by decide +kernel
theorem dL_law_447 : decode cL_law 447 = .ok (.iconst 1, 1) := by decide +kernel
theorem dL_law_448 : decode cL_law 448 = .ok (.iadd, 1) := by decide +kernel
theorem dL_law_449 : decode cL_law 449 = .ok (.iaload, 1) := by decide +kernel
theorem dL_law_450 : decode cL_law 450 = .ok (.invokevirtual 65, 3) := by decide +kernel
theorem dL_law_453 : decode cL_law 453 = .ok (.aload_n 2, 1) := by decide +kernel
theorem dL_law_454 : decode cL_law 454 = .ok (.aload_n 0, 1) := by decide +kernel
theorem dL_law_455 : decode cL_law 455 = .ok (.iload_n 3, 1) := by decide +kernel
theorem dL_law_456 : decode cL_law 456 = .ok (.iconst 1, 1) := by decide +kernel
theorem dL_law_457 : decode cL_law 457 = .ok (.iadd, 1) := by decide +kernel
theorem dL_law_458 : decode cL_law 458 = .ok (.iaload, 1) := by decide +kernel
theorem dL_law_459 : decode cL_law 459 = .ok (.invokevirtual 68, 3) := by decide +kernel
theorem dL_law_462 : decode cL_law 462 = .ok (.if_icmp .eq 442, 3) := by decide +kernel
theorem dL_law_465 : decode cL_law 465 = .ok (.iconst 0, 1) := by decide +kernel
theorem dL_law_466 : decode cL_law 466 = .ok (.ireturn, 1) := by decide +kernel
theorem dL_law_467 : decode cL_law 467 = .ok (.aload_n 1, 1) := by decide +kernel
theorem dL_law_468 : decode cL_law 468 = .ok (.aload_n 0, 1) := by decide +kernel
theorem dL_law_469 : decode cL_law 469 = .ok (.iload_n 3, 1) := by decide +kernel
theorem dL_law_470 : decode cL_law 470 = .ok (.iconst 1, 1) := by decide +kernel
theorem dL_law_471 : decode cL_law 471 = .ok (.iadd, 1) := by decide +kernel
theorem dL_law_472 : decode cL_law 472 = .ok (.iaload, 1) := by decide +kernel
theorem dL_law_473 : decode cL_law 473 = .ok (.aload_n 0, 1) := by decide +kernel
theorem dL_law_474 : decode cL_law 474 = .ok (.iload_n 3, 1) := by decide +kernel
theorem dL_law_475 : decode cL_law 475 = .ok (.iconst 2, 1) := by decide +kernel
theorem dL_law_476 : decode cL_law 476 = .ok (.iadd, 1) := by decide +kernel
theorem dL_law_477 : decode cL_law 477 = .ok (.iaload, 1) := by decide +kernel
theorem dL_law_478 : decode cL_law 478 = .ok (.aload_n 0, 1) := by decide +kernel
theorem dL_law_479 : decode cL_law 479 = .ok (.iload_n 3, 1) := by decide +kernel
theorem dL_law_480 : decode cL_law 480 = .ok (.iconst 3, 1) := by decide +kernel
theorem dL_law_481 : decode cL_law 481 = .ok (.iadd, 1) := by decide +kernel
theorem dL_law_482 : decode cL_law 482 = .ok (.iaload, 1) := by decide +kernel
theorem dL_law_483 : decode cL_law 483 = .ok (.aload_n 0, 1) := by decide +kernel
theorem dL_law_484 : decode cL_law 484 = .ok (.iload_n 3, 1) := by decide +kernel
theorem dL_law_485 : decode cL_law 485 = .ok (.iconst 4, 1) := by decide +kernel
theorem dL_law_486 : decode cL_law 486 = .ok (.iadd, 1) := by decide +kernel
theorem dL_law_487 : decode cL_law 487 = .ok (.iaload, 1) := by decide +kernel
theorem dL_law_488 : decode cL_law 488 = .ok (.aload_n 0, 1) := by decide +kernel
theorem dL_law_489 : decode cL_law 489 = .ok (.iload_n 3, 1) := by decide +kernel
theorem dL_law_490 : decode cL_law 490 = .ok (.iconst 5, 1) := by decide +kernel
theorem dL_law_491 : decode cL_law 491 = .ok (.iadd, 1) := by decide +kernel
theorem dL_law_492 : decode cL_law 492 = .ok (.iaload, 1) := by decide +kernel
theorem dL_law_493 : decode cL_law 493 = .ok (.invokevirtual 69, 3) := by decide +kernel
theorem dL_law_496 : decode cL_law 496 = .ok (.aload_n 2, 1) := by decide +kernel
theorem dL_law_497 : decode cL_law 497 = .ok (.aload_n 0, 1) := by decide +kernel
theorem dL_law_498 : decode cL_law 498 = .ok (.iload_n 3, 1) := by decide +kernel
theorem dL_law_499 : decode cL_law 499 = .ok (.iconst 1, 1) := by decide +kernel
theorem dL_law_500 : decode cL_law 500 = .ok (.iadd, 1) := by decide +kernel
theorem dL_law_501 : decode cL_law 501 = .ok (.iaload, 1) := by decide +kernel
theorem dL_law_502 : decode cL_law 502 = .ok (.aload_n 0, 1) := by decide +kernel
theorem dL_law_503 : decode cL_law 503 = .ok (.iload_n 3, 1) := by decide +kernel
theorem dL_law_504 : decode cL_law 504 = .ok (.iconst 2, 1) := by decide +kernel
theorem dL_law_505 : decode cL_law 505 = .ok (.iadd, 1) := by decide +kernel
theorem dL_law_506 : decode cL_law 506 = .ok (.iaload, 1) := by decide +kernel
theorem dL_law_507 : decode cL_law 507 = .ok (.aload_n 0, 1) := by decide +kernel
theorem dL_law_508 : decode cL_law 508 = .ok (.iload_n 3, 1) := by decide +kernel
theorem dL_law_509 : decode cL_law 509 = .ok (.iconst 3, 1) := by decide +kernel
theorem dL_law_510 : decode cL_law 510 = .ok (.iadd, 1) := by decide +kernel
theorem dL_law_511 : decode cL_law 511 = .ok (.iaload, 1) := by decide +kernel
theorem dL_law_512 : decode cL_law 512 = .ok (.aload_n 0, 1) := by decide +kernel
theorem dL_law_513 : decode cL_law 513 = .ok (.iload_n 3, 1) := by decide +kernel
theorem dL_law_514 : decode cL_law 514 = .ok (.iconst 4, 1) := by decide +kernel
theorem dL_law_515 : decode cL_law 515 = .ok (.iadd, 1) := by decide +kernel
theorem dL_law_516 : decode cL_law 516 = .ok (.iaload, 1) := by decide +kernel
theorem dL_law_517 : decode cL_law 517 = .ok (.aload_n 0, 1) := by decide +kernel
theorem dL_law_518 : decode cL_law 518 = .ok (.iload_n 3, 1) := by decide +kernel
theorem dL_law_519 : decode cL_law 519 = .ok (.iconst 5, 1) := by decide +kernel
theorem dL_law_520 : decode cL_law 520 = .ok (.iadd, 1) := by decide +kernel
theorem dL_law_521 : decode cL_law 521 = .ok (.iaload, 1) := by decide +kernel
theorem dL_law_522 : decode cL_law 522 = .ok (.invokevirtual 73, 3) := by decide +kernel
theorem dL_law_525 : decode cL_law 525 = .ok (.if_icmp .eq 379, 3) := by decide +kernel
theorem dL_law_528 : decode cL_law 528 = .ok (.iconst 0, 1) := by decide +kernel
theorem dL_law_529 : decode cL_law 529 = .ok (.ireturn, 1) := by decide +kernel
theorem dL_law_530 : decode cL_law 530 = .ok (.aload_n 1, 1) := by decide +kernel
theorem dL_law_531 : decode cL_law 531 = .ok (.aload_n 0, 1) := by decide +kernel
theorem dL_law_532 : decode cL_law 532 = .ok (.iload_n 3, 1) := by decide +kernel
theorem dL_law_533 : decode cL_law 533 = .ok (.iconst 1, 1) := by decide +kernel
theorem dL_law_534 : decode cL_law 534 = .ok (.iadd, 1) := by decide +kernel
theorem dL_law_535 : decode cL_law 535 = .ok (.iaload, 1) := by decide +kernel
theorem dL_law_536 : decode cL_law 536 = .ok (.aload_n 0, 1) := by decide +kernel
theorem dL_law_537 : decode cL_law 537 = .ok (.iload_n 3, 1) := by decide +kernel
theorem dL_law_538 : decode cL_law 538 = .ok (.iconst 2, 1) := by decide +kernel
theorem dL_law_539 : decode cL_law 539 = .ok (.iadd, 1) := by decide +kernel
theorem dL_law_540 : decode cL_law 540 = .ok (.iaload, 1) := by decide +kernel
theorem dL_law_541 : decode cL_law 541 = .ok (.aload_n 0, 1) := by decide +kernel
theorem dL_law_542 : decode cL_law 542 = .ok (.iload_n 3, 1) := by decide +kernel
theorem dL_law_543 : decode cL_law 543 = .ok (.iconst 3, 1) := by decide +kernel
theorem dL_law_544 : decode cL_law 544 = .ok (.iadd, 1) := by decide +kernel
theorem dL_law_545 : decode cL_law 545 = .ok (.iaload, 1) := by decide +kernel
theorem dL_law_546 : decode cL_law 546 = .ok (.aload_n 0, 1) := by decide +kernel
theorem dL_law_547 : decode cL_law 547 = .ok (.iload_n 3, 1) := by decide +kernel
theorem dL_law_548 : decode cL_law 548 = .ok (.iconst 4, 1) := by decide +kernel
theorem dL_law_549 : decode cL_law 549 = .ok (.iadd, 1) := by decide +kernel
theorem dL_law_550 : decode cL_law 550 = .ok (.iaload, 1) := by decide +kernel
theorem dL_law_551 : decode cL_law 551 = .ok (.invokevirtual 74, 3) := by decide +kernel
theorem dL_law_554 : decode cL_law 554 = .ok (.aload_n 2, 1) := by decide +kernel
theorem dL_law_555 : decode cL_law 555 = .ok (.aload_n 0, 1) := by decide +kernel
theorem dL_law_556 : decode cL_law 556 = .ok (.iload_n 3, 1) := by decide +kernel
theorem dL_law_557 : decode cL_law 557 = .ok (.iconst 1, 1) := by decide +kernel
theorem dL_law_558 : decode cL_law 558 = .ok (.iadd, 1) := by decide +kernel
theorem dL_law_559 : decode cL_law 559 = .ok (.iaload, 1) := by decide +kernel
theorem dL_law_560 : decode cL_law 560 = .ok (.aload_n 0, 1) := by decide +kernel
theorem dL_law_561 : decode cL_law 561 = .ok (.iload_n 3, 1) := by decide +kernel
theorem dL_law_562 : decode cL_law 562 = .ok (.iconst 2, 1) := by decide +kernel
theorem dL_law_563 : decode cL_law 563 = .ok (.iadd, 1) := by decide +kernel
theorem dL_law_564 : decode cL_law 564 = .ok (.iaload, 1) := by decide +kernel
theorem dL_law_565 : decode cL_law 565 = .ok (.aload_n 0, 1) := by decide +kernel
theorem dL_law_566 : decode cL_law 566 = .ok (.iload_n 3, 1) := by decide +kernel
theorem dL_law_567 : decode cL_law 567 = .ok (.iconst 3, 1) := by decide +kernel
theorem dL_law_568 : decode cL_law 568 = .ok (.iadd, 1) := by decide +kernel
theorem dL_law_569 : decode cL_law 569 = .ok (.iaload, 1) := by decide +kernel
theorem dL_law_570 : decode cL_law 570 = .ok (.aload_n 0, 1) := by decide +kernel
theorem dL_law_571 : decode cL_law 571 = .ok (.iload_n 3, 1) := by decide +kernel
theorem dL_law_572 : decode cL_law 572 = .ok (.iconst 4, 1) := by decide +kernel
theorem dL_law_573 : decode cL_law 573 = .ok (.iadd, 1) := by decide +kernel
theorem dL_law_574 : decode cL_law 574 = .ok (.iaload, 1) := by decide +kernel
theorem dL_law_575 : decode cL_law 575 = .ok (.invokevirtual 77, 3) := by decide +kernel
theorem dL_law_578 : decode cL_law 578 = .ok (.if_icmp .eq 326, 3) := by decide +kernel
theorem dL_law_581 : decode cL_law 581 = .ok (.iconst 0, 1) := by decide +kernel
theorem dL_law_582 : decode cL_law 582 = .ok (.ireturn, 1) := by decide +kernel
theorem dL_law_583 : decode cL_law 583 = .ok (.aload_n 1, 1) := by decide +kernel
theorem dL_law_584 : decode cL_law 584 = .ok (.aload_n 0, 1) := by decide +kernel
theorem dL_law_585 : decode cL_law 585 = .ok (.iload_n 3, 1) := by decide +kernel
theorem dL_law_586 : decode cL_law 586 = .ok (.iconst 1, 1) := by decide +kernel
theorem dL_law_587 : decode cL_law 587 = .ok (.iadd, 1) := by decide +kernel
theorem dL_law_588 : decode cL_law 588 = .ok (.iaload, 1) := by decide +kernel
theorem dL_law_589 : decode cL_law 589 = .ok (.aload_n 0, 1) := by decide +kernel
theorem dL_law_590 : decode cL_law 590 = .ok (.iload_n 3, 1) := by decide +kernel
theorem dL_law_591 : decode cL_law 591 = .ok (.iconst 2, 1) := by decide +kernel
theorem dL_law_592 : decode cL_law 592 = .ok (.iadd, 1) := by decide +kernel
theorem dL_law_593 : decode cL_law 593 = .ok (.iaload, 1) := by decide +kernel
theorem dL_law_594 : decode cL_law 594 = .ok (.aload_n 0, 1) := by decide +kernel
theorem dL_law_595 : decode cL_law 595 = .ok (.iload_n 3, 1) := by decide +kernel
theorem dL_law_596 : decode cL_law 596 = .ok (.iconst 3, 1) := by decide +kernel
theorem dL_law_597 : decode cL_law 597 = .ok (.iadd, 1) := by decide +kernel
theorem dL_law_598 : decode cL_law 598 = .ok (.iaload, 1) := by decide +kernel
theorem dL_law_599 : decode cL_law 599 = .ok (.invokevirtual 78, 3) := by decide +kernel
theorem dL_law_602 : decode cL_law 602 = .ok (.aload_n 2, 1) := by decide +kernel
theorem dL_law_603 : decode cL_law 603 = .ok (.aload_n 0, 1) := by decide +kernel
theorem dL_law_604 : decode cL_law 604 = .ok (.iload_n 3, 1) := by decide +kernel
theorem dL_law_605 : decode cL_law 605 = .ok (.iconst 1, 1) := by decide +kernel
theorem dL_law_606 : decode cL_law 606 = .ok (.iadd, 1) := by decide +kernel
theorem dL_law_607 : decode cL_law 607 = .ok (.iaload, 1) := by decide +kernel
theorem dL_law_608 : decode cL_law 608 = .ok (.aload_n 0, 1) := by decide +kernel
theorem dL_law_609 : decode cL_law 609 = .ok (.iload_n 3, 1) := by decide +kernel
theorem dL_law_610 : decode cL_law 610 = .ok (.iconst 2, 1) := by decide +kernel
theorem dL_law_611 : decode cL_law 611 = .ok (.iadd, 1) := by decide +kernel
theorem dL_law_612 : decode cL_law 612 = .ok (.iaload, 1) := by decide +kernel
theorem dL_law_613 : decode cL_law 613 = .ok (.aload_n 0, 1) := by decide +kernel
theorem dL_law_614 : decode cL_law 614 = .ok (.iload_n 3, 1) := by decide +kernel
theorem dL_law_615 : decode cL_law 615 = .ok (.iconst 3, 1) := by decide +kernel
theorem dL_law_616 : decode cL_law 616 = .ok (.iadd, 1) := by decide +kernel
theorem dL_law_617 : decode cL_law 617 = .ok (.iaload, 1) := by decide +kernel
theorem dL_law_618 : decode cL_law 618 = .ok (.invokevirtual 82, 3) := by decide +kernel
theorem dL_law_621 : decode cL_law 621 = .ok (.if_icmp .eq 283, 3) := by decide +kernel
theorem dL_law_624 : decode cL_law 624 = .ok (.iconst 0, 1) := by decide +kernel
theorem dL_law_625 : decode cL_law 625 = .ok (.ireturn, 1) := by decide +kernel
theorem dL_law_626 : decode cL_law 626 = .ok (.aload_n 1, 1) := by decide +kernel
theorem dL_law_627 : decode cL_law 627 = .ok (.invokevirtual 83, 3) := by decide +kernel
theorem dL_law_630 : decode cL_law 630 = .ok (.aload_n 2, 1) := by decide +kernel
theorem dL_law_631 : decode cL_law 631 = .ok (.invokevirtual 86, 3) := by decide +kernel
theorem dL_law_634 : decode cL_law 634 = .ok (.if_icmp .eq 270, 3) := by decide +kernel
theorem dL_law_637 : decode cL_law 637 = .ok (.iconst 0, 1) := by decide +kernel
theorem dL_law_638 : decode cL_law 638 = .ok (.ireturn, 1) := by decide +kernel
theorem dL_law_639 : decode cL_law 639 = .ok (.aload_n 1, 1) := by decide +kernel
theorem dL_law_640 : decode cL_law 640 = .ok (.aload_n 0, 1) := by decide +kernel
theorem dL_law_641 : decode cL_law 641 = .ok (.iload_n 3, 1) := by decide +kernel
theorem dL_law_642 : decode cL_law 642 = .ok (.iconst 1, 1) := by decide +kernel
theorem dL_law_643 : decode cL_law 643 = .ok (.iadd, 1) := by decide +kernel
theorem dL_law_644 : decode cL_law 644 = .ok (.iaload, 1) := by decide +kernel
theorem dL_law_645 : decode cL_law 645 = .ok (.invokevirtual 87, 3) := by decide +kernel
theorem dL_law_648 : decode cL_law 648 = .ok (.aload_n 2, 1) := by decide +kernel
theorem dL_law_649 : decode cL_law 649 = .ok (.aload_n 0, 1) := by decide +kernel
theorem dL_law_650 : decode cL_law 650 = .ok (.iload_n 3, 1) := by decide +kernel
theorem dL_law_651 : decode cL_law 651 = .ok (.iconst 1, 1) := by decide +kernel
theorem dL_law_652 : decode cL_law 652 = .ok (.iadd, 1) := by decide +kernel
theorem dL_law_653 : decode cL_law 653 = .ok (.iaload, 1) := by decide +kernel
theorem dL_law_654 : decode cL_law 654 = .ok (.invokevirtual 90, 3) := by decide +kernel
theorem dL_law_657 : decode cL_law 657 = .ok (.if_icmp .eq 247, 3) := by decide +kernel
theorem dL_law_660 : decode cL_law 660 = .ok (.iconst 0, 1) := by decide +kernel
theorem dL_law_661 : decode cL_law 661 = .ok (.ireturn, 1) := by decide +kernel
theorem dL_law_662 : decode cL_law 662 = .ok (.aload_n 1, 1) := by decide +kernel
theorem dL_law_663 : decode cL_law 663 = .ok (.aload_n 0, 1) := by decide +kernel
theorem dL_law_664 : decode cL_law 664 = .ok (.iload_n 3, 1) := by decide +kernel
theorem dL_law_665 : decode cL_law 665 = .ok (.iconst 1, 1) := by decide +kernel
theorem dL_law_666 : decode cL_law 666 = .ok (.iadd, 1) := by decide +kernel
theorem dL_law_667 : decode cL_law 667 = .ok (.iaload, 1) := by decide +kernel
theorem dL_law_668 : decode cL_law 668 = .ok (.invokevirtual 91, 3) := by decide +kernel
theorem dL_law_671 : decode cL_law 671 = .ok (.aload_n 2, 1) := by decide +kernel
theorem dL_law_672 : decode cL_law 672 = .ok (.aload_n 0, 1) := by decide +kernel
theorem dL_law_673 : decode cL_law 673 = .ok (.iload_n 3, 1) := by decide +kernel
theorem dL_law_674 : decode cL_law 674 = .ok (.iconst 1, 1) := by decide +kernel
theorem dL_law_675 : decode cL_law 675 = .ok (.iadd, 1) := by decide +kernel
theorem dL_law_676 : decode cL_law 676 = .ok (.iaload, 1) := by decide +kernel
theorem dL_law_677 : decode cL_law 677 = .ok (.invokevirtual 94, 3) := by decide +kernel
theorem dL_law_680 : decode cL_law 680 = .ok (.if_icmp .eq 224, 3) := by decide +kernel
theorem dL_law_683 : decode cL_law 683 = .ok (.iconst 0, 1) := by decide +kernel
theorem dL_law_684 : decode cL_law 684 = .ok (.ireturn, 1) := by decide +kernel
theorem dL_law_685 : decode cL_law 685 = .ok (.aload_n 1, 1) := by decide +kernel
theorem dL_law_686 : decode cL_law 686 = .ok (.aload_n 0, 1) := by decide +kernel
theorem dL_law_687 : decode cL_law 687 = .ok (.iload_n 3, 1) := by decide +kernel
theorem dL_law_688 : decode cL_law 688 = .ok (.iconst 1, 1) := by decide +kernel
theorem dL_law_689 : decode cL_law 689 = .ok (.iadd, 1) := by decide +kernel
theorem dL_law_690 : decode cL_law 690 = .ok (.iaload, 1) := by decide +kernel
theorem dL_law_691 : decode cL_law 691 = .ok (.aload_n 0, 1) := by decide +kernel
theorem dL_law_692 : decode cL_law 692 = .ok (.iload_n 3, 1) := by decide +kernel
theorem dL_law_693 : decode cL_law 693 = .ok (.iconst 2, 1) := by decide +kernel
theorem dL_law_694 : decode cL_law 694 = .ok (.iadd, 1) := by decide +kernel
theorem dL_law_695 : decode cL_law 695 = .ok (.iaload, 1) := by decide +kernel
theorem dL_law_696 : decode cL_law 696 = .ok (.aload_n 0, 1) := by decide +kernel
theorem dL_law_697 : decode cL_law 697 = .ok (.iload_n 3, 1) := by decide +kernel
theorem dL_law_698 : decode cL_law 698 = .ok (.iconst 3, 1) := by decide +kernel
theorem dL_law_699 : decode cL_law 699 = .ok (.iadd, 1) := by decide +kernel
theorem dL_law_700 : decode cL_law 700 = .ok (.iaload, 1) := by decide +kernel
theorem dL_law_701 : decode cL_law 701 = .ok (.invokevirtual 95, 3) := by decide +kernel
theorem dL_law_704 : decode cL_law 704 = .ok (.aload_n 2, 1) := by decide +kernel
theorem dL_law_705 : decode cL_law 705 = .ok (.aload_n 0, 1) := by decide +kernel
theorem dL_law_706 : decode cL_law 706 = .ok (.iload_n 3, 1) := by decide +kernel
theorem dL_law_707 : decode cL_law 707 = .ok (.iconst 1, 1) := by decide +kernel
theorem dL_law_708 : decode cL_law 708 = .ok (.iadd, 1) := by decide +kernel
theorem dL_law_709 : decode cL_law 709 = .ok (.iaload, 1) := by decide +kernel
theorem dL_law_710 : decode cL_law 710 = .ok (.aload_n 0, 1) := by decide +kernel
theorem dL_law_711 : decode cL_law 711 = .ok (.iload_n 3, 1) := by decide +kernel
theorem dL_law_712 : decode cL_law 712 = .ok (.iconst 2, 1) := by decide +kernel
theorem dL_law_713 : decode cL_law 713 = .ok (.iadd, 1) := by decide +kernel
theorem dL_law_714 : decode cL_law 714 = .ok (.iaload, 1) := by decide +kernel
theorem dL_law_715 : decode cL_law 715 = .ok (.aload_n 0, 1) := by decide +kernel
theorem dL_law_716 : decode cL_law 716 = .ok (.iload_n 3, 1) := by decide +kernel
theorem dL_law_717 : decode cL_law 717 = .ok (.iconst 3, 1) := by decide +kernel
theorem dL_law_718 : decode cL_law 718 = .ok (.iadd, 1) := by decide +kernel
theorem dL_law_719 : decode cL_law 719 = .ok (.iaload, 1) := by decide +kernel
theorem dL_law_720 : decode cL_law 720 = .ok (.invokevirtual 98, 3) := by decide +kernel
theorem dL_law_723 : decode cL_law 723 = .ok (.if_icmp .eq 181, 3) := by decide +kernel
theorem dL_law_726 : decode cL_law 726 = .ok (.iconst 0, 1) := by decide +kernel
theorem dL_law_727 : decode cL_law 727 = .ok (.ireturn, 1) := by decide +kernel
theorem dL_law_728 : decode cL_law 728 = .ok (.aload_n 1, 1) := by decide +kernel
theorem dL_law_729 : decode cL_law 729 = .ok (.aload_n 0, 1) := by decide +kernel
theorem dL_law_730 : decode cL_law 730 = .ok (.iload_n 3, 1) := by decide +kernel
theorem dL_law_731 : decode cL_law 731 = .ok (.iconst 1, 1) := by decide +kernel
theorem dL_law_732 : decode cL_law 732 = .ok (.iadd, 1) := by decide +kernel
theorem dL_law_733 : decode cL_law 733 = .ok (.iaload, 1) := by decide +kernel
theorem dL_law_734 : decode cL_law 734 = .ok (.aload_n 0, 1) := by decide +kernel
theorem dL_law_735 : decode cL_law 735 = .ok (.iload_n 3, 1) := by decide +kernel
theorem dL_law_736 : decode cL_law 736 = .ok (.iconst 2, 1) := by decide +kernel
theorem dL_law_737 : decode cL_law 737 = .ok (.iadd, 1) := by decide +kernel
theorem dL_law_738 : decode cL_law 738 = .ok (.iaload, 1) := by decide +kernel
theorem dL_law_739 : decode cL_law 739 = .ok (.aload_n 0, 1) := by decide +kernel
theorem dL_law_740 : decode cL_law 740 = .ok (.iload_n 3, 1) := by decide +kernel
theorem dL_law_741 : decode cL_law 741 = .ok (.iconst 3, 1) := by decide +kernel
theorem dL_law_742 : decode cL_law 742 = .ok (.iadd, 1) := by decide +kernel
theorem dL_law_743 : decode cL_law 743 = .ok (.iaload, 1) := by decide +kernel
theorem dL_law_744 : decode cL_law 744 = .ok (.aload_n 0, 1) := by decide +kernel
theorem dL_law_745 : decode cL_law 745 = .ok (.iload_n 3, 1) := by decide +kernel
theorem dL_law_746 : decode cL_law 746 = .ok (.iconst 4, 1) := by decide +kernel
theorem dL_law_747 : decode cL_law 747 = .ok (.iadd, 1) := by decide +kernel
theorem dL_law_748 : decode cL_law 748 = .ok (.iaload, 1) := by decide +kernel
theorem dL_law_749 : decode cL_law 749 = .ok (.aload_n 0, 1) := by decide +kernel
theorem dL_law_750 : decode cL_law 750 = .ok (.iload_n 3, 1) := by decide +kernel
theorem dL_law_751 : decode cL_law 751 = .ok (.iconst 5, 1) := by decide +kernel
theorem dL_law_752 : decode cL_law 752 = .ok (.iadd, 1) := by decide +kernel
theorem dL_law_753 : decode cL_law 753 = .ok (.iaload, 1) := by decide +kernel
theorem dL_law_754 : decode cL_law 754 = .ok (.invokevirtual 99, 3) := by decide +kernel
theorem dL_law_757 : decode cL_law 757 = .ok (.aload_n 2, 1) := by decide +kernel
theorem dL_law_758 : decode cL_law 758 = .ok (.aload_n 0, 1) := by decide +kernel
theorem dL_law_759 : decode cL_law 759 = .ok (.iload_n 3, 1) := by decide +kernel
theorem dL_law_760 : decode cL_law 760 = .ok (.iconst 1, 1) := by decide +kernel
theorem dL_law_761 : decode cL_law 761 = .ok (.iadd, 1) := by decide +kernel
theorem dL_law_762 : decode cL_law 762 = .ok (.iaload, 1) := by decide +kernel
theorem dL_law_763 : decode cL_law 763 = .ok (.aload_n 0, 1) := by decide +kernel
theorem dL_law_764 : decode cL_law 764 = .ok (.iload_n 3, 1) := by decide +kernel
theorem dL_law_765 : decode cL_law 765 = .ok (.iconst 2, 1) := by decide +kernel
theorem dL_law_766 : decode cL_law 766 = .ok (.iadd, 1) := by decide +kernel
theorem dL_law_767 : decode cL_law 767 = .ok (.iaload, 1) := by decide +kernel
theorem dL_law_768 : decode cL_law 768 = .ok (.aload_n 0, 1) := by decide +kernel
theorem dL_law_769 : decode cL_law 769 = .ok (.iload_n 3, 1) := by decide +kernel
theorem dL_law_770 : decode cL_law 770 = .ok (.iconst 3, 1) := by decide +kernel
theorem dL_law_771 : decode cL_law 771 = .ok (.iadd, 1) := by decide +kernel
theorem dL_law_772 : decode cL_law 772 = .ok (.iaload, 1) := by decide +kernel
theorem dL_law_773 : decode cL_law 773 = .ok (.aload_n 0, 1) := by decide +kernel
theorem dL_law_774 : decode cL_law 774 = .ok (.iload_n 3, 1) := by decide +kernel
theorem dL_law_775 : decode cL_law 775 = .ok (.iconst 4, 1) := by decide +kernel
theorem dL_law_776 : decode cL_law 776 = .ok (.iadd, 1) := by decide +kernel
theorem dL_law_777 : decode cL_law 777 = .ok (.iaload, 1) := by decide +kernel
theorem dL_law_778 : decode cL_law 778 = .ok (.aload_n 0, 1) := by decide +kernel
theorem dL_law_779 : decode cL_law 779 = .ok (.iload_n 3, 1) := by decide +kernel
theorem dL_law_780 : decode cL_law 780 = .ok (.iconst 5, 1) := by decide +kernel
theorem dL_law_781 : decode cL_law 781 = .ok (.iadd, 1) := by decide +kernel
theorem dL_law_782 : decode cL_law 782 = .ok (.iaload, 1) := by decide +kernel
theorem dL_law_783 : decode cL_law 783 = .ok (.invokevirtual 103, 3) := by decide +kernel
theorem dL_law_786 : decode cL_law 786 = .ok (.lcmp, 1) := by decide +kernel
theorem dL_law_787 : decode cL_law 787 = .ok (.ifCond .eq 117, 3) := by decide +kernel
theorem dL_law_790 : decode cL_law 790 = .ok (.iconst 0, 1) := by decide +kernel
theorem dL_law_791 : decode cL_law 791 = .ok (.ireturn, 1) := by decide +kernel
theorem dL_law_792 : decode cL_law 792 = .ok (.aload_n 1, 1) := by decide +kernel
theorem dL_law_793 : decode cL_law 793 = .ok (.aload_n 0, 1) := by decide +kernel
theorem dL_law_794 : decode cL_law 794 = .ok (.iload_n 3, 1) := by decide +kernel
theorem dL_law_795 : decode cL_law 795 = .ok (.iconst 1, 1) := by decide +kernel
theorem dL_law_796 : decode cL_law 796 = .ok (.iadd, 1) := by decide +kernel
theorem dL_law_797 : decode cL_law 797 = .ok (.iaload, 1) := by decide +kernel
theorem dL_law_798 : decode cL_law 798 = .ok (.aload_n 0, 1) := by decide +kernel
theorem dL_law_799 : decode cL_law 799 = .ok (.iload_n 3, 1) := by decide +kernel
theorem dL_law_800 : decode cL_law 800 = .ok (.iconst 2, 1) := by decide +kernel
theorem dL_law_801 : decode cL_law 801 = .ok (.iadd, 1) := by decide +kernel
theorem dL_law_802 : decode cL_law 802 = .ok (.iaload, 1) := by decide +kernel
theorem dL_law_803 : decode cL_law 803 = .ok (.aload_n 0, 1) := by decide +kernel
theorem dL_law_804 : decode cL_law 804 = .ok (.iload_n 3, 1) := by decide +kernel
theorem dL_law_805 : decode cL_law 805 = .ok (.iconst 3, 1) := by decide +kernel
theorem dL_law_806 : decode cL_law 806 = .ok (.iadd, 1) := by decide +kernel
theorem dL_law_807 : decode cL_law 807 = .ok (.iaload, 1) := by decide +kernel
theorem dL_law_808 : decode cL_law 808 = .ok (.invokevirtual 104, 3) := by decide +kernel
theorem dL_law_811 : decode cL_law 811 = .ok (.aload_n 2, 1) := by decide +kernel
theorem dL_law_812 : decode cL_law 812 = .ok (.aload_n 0, 1) := by decide +kernel
theorem dL_law_813 : decode cL_law 813 = .ok (.iload_n 3, 1) := by decide +kernel
theorem dL_law_814 : decode cL_law 814 = .ok (.iconst 1, 1) := by decide +kernel
theorem dL_law_815 : decode cL_law 815 = .ok (.iadd, 1) := by decide +kernel
theorem dL_law_816 : decode cL_law 816 = .ok (.iaload, 1) := by decide +kernel
theorem dL_law_817 : decode cL_law 817 = .ok (.aload_n 0, 1) := by decide +kernel
theorem dL_law_818 : decode cL_law 818 = .ok (.iload_n 3, 1) := by decide +kernel
theorem dL_law_819 : decode cL_law 819 = .ok (.iconst 2, 1) := by decide +kernel
theorem dL_law_820 : decode cL_law 820 = .ok (.iadd, 1) := by decide +kernel
theorem dL_law_821 : decode cL_law 821 = .ok (.iaload, 1) := by decide +kernel
theorem dL_law_822 : decode cL_law 822 = .ok (.aload_n 0, 1) := by decide +kernel
theorem dL_law_823 : decode cL_law 823 = .ok (.iload_n 3, 1) := by decide +kernel
theorem dL_law_824 : decode cL_law 824 = .ok (.iconst 3, 1) := by decide +kernel
theorem dL_law_825 : decode cL_law 825 = .ok (.iadd, 1) := by decide +kernel
theorem dL_law_826 : decode cL_law 826 = .ok (.iaload, 1) := by decide +kernel
theorem dL_law_827 : decode cL_law 827 = .ok (.invokevirtual 107, 3) := by decide +kernel
theorem dL_law_830 : decode cL_law 830 = .ok (.if_icmp .eq 74, 3) := by decide +kernel
theorem dL_law_833 : decode cL_law 833 = .ok (.iconst 0, 1) := by decide +kernel
theorem dL_law_834 : decode cL_law 834 = .ok (.ireturn, 1) := by decide +kernel
theorem dL_law_835 : decode cL_law 835 = .ok (.aload_n 1, 1) := by decide +kernel
theorem dL_law_836 : decode cL_law 836 = .ok (.aload_n 0, 1) := by decide +kernel
theorem dL_law_837 : decode cL_law 837 = .ok (.iload_n 3, 1) := by decide +kernel
theorem dL_law_838 : decode cL_law 838 = .ok (.iconst 1, 1) := by decide +kernel
theorem dL_law_839 : decode cL_law 839 = .ok (.iadd, 1) := by decide +kernel
theorem dL_law_840 : decode cL_law 840 = .ok (.iaload, 1) := by decide +kernel
theorem dL_law_841 : decode cL_law 841 = .ok (.invokevirtual 108, 3) := by decide +kernel
theorem dL_law_844 : decode cL_law 844 = .ok (.aload_n 2, 1) := by decide +kernel
theorem dL_law_845 : decode cL_law 845 = .ok (.aload_n 0, 1) := by decide +kernel
theorem dL_law_846 : decode cL_law 846 = .ok (.iload_n 3, 1) := by decide +kernel
theorem dL_law_847 : decode cL_law 847 = .ok (.iconst 1, 1) := by decide +kernel
theorem dL_law_848 : decode cL_law 848 = .ok (.iadd, 1) := by decide +kernel
theorem dL_law_849 : decode cL_law 849 = .ok (.iaload, 1) := by decide +kernel
theorem dL_law_850 : decode cL_law 850 = .ok (.invokevirtual 111, 3) := by decide +kernel
theorem dL_law_853 : decode cL_law 853 = .ok (.if_icmp .eq 51, 3) := by decide +kernel
theorem dL_law_856 : decode cL_law 856 = .ok (.iconst 0, 1) := by decide +kernel
theorem dL_law_857 : decode cL_law 857 = .ok (.ireturn, 1) := by decide +kernel
theorem dL_law_858 : decode cL_law 858 = .ok (.aload_n 1, 1) := by decide +kernel
theorem dL_law_859 : decode cL_law 859 = .ok (.aload_n 0, 1) := by decide +kernel
theorem dL_law_860 : decode cL_law 860 = .ok (.iload_n 3, 1) := by decide +kernel
theorem dL_law_861 : decode cL_law 861 = .ok (.iconst 1, 1) := by decide +kernel
theorem dL_law_862 : decode cL_law 862 = .ok (.iadd, 1) := by decide +kernel
theorem dL_law_863 : decode cL_law 863 = .ok (.iaload, 1) := by decide +kernel
theorem dL_law_864 : decode cL_law 864 = .ok (.invokevirtual 112, 3) := by decide +kernel
theorem dL_law_867 : decode cL_law 867 = .ok (.aload_n 2, 1) := by decide +kernel
theorem dL_law_868 : decode cL_law 868 = .ok (.aload_n 0, 1) := by decide +kernel
theorem dL_law_869 : decode cL_law 869 = .ok (.iload_n 3, 1) := by decide +kernel
theorem dL_law_870 : decode cL_law 870 = .ok (.iconst 1, 1) := by decide +kernel
theorem dL_law_871 : decode cL_law 871 = .ok (.iadd, 1) := by decide +kernel
theorem dL_law_872 : decode cL_law 872 = .ok (.iaload, 1) := by decide +kernel
theorem dL_law_873 : decode cL_law 873 = .ok (.invokevirtual 115, 3) := by decide +kernel
theorem dL_law_876 : decode cL_law 876 = .ok (.if_icmp .eq 28, 3) := by decide +kernel
theorem dL_law_879 : decode cL_law 879 = .ok (.iconst 0, 1) := by decide +kernel
theorem dL_law_880 : decode cL_law 880 = .ok (.ireturn, 1) := by decide +kernel
theorem dL_law_881 : decode cL_law 881 = .ok (.aload_n 1, 1) := by decide +kernel
theorem dL_law_882 : decode cL_law 882 = .ok (.aload_n 0, 1) := by decide +kernel
theorem dL_law_883 : decode cL_law 883 = .ok (.iload_n 3, 1) := by decide +kernel
theorem dL_law_884 : decode cL_law 884 = .ok (.iconst 1, 1) := by decide +kernel
theorem dL_law_885 : decode cL_law 885 = .ok (.iadd, 1) := by decide +kernel
theorem dL_law_886 : decode cL_law 886 = .ok (.iaload, 1) := by decide +kernel
theorem dL_law_887 : decode cL_law 887 = .ok (.invokevirtual 116, 3) := by decide +kernel
theorem dL_law_890 : decode cL_law 890 = .ok (.aload_n 2, 1) := by decide +kernel
theorem dL_law_891 : decode cL_law 891 = .ok (.aload_n 0, 1) := by decide +kernel
theorem dL_law_892 : decode cL_law 892 = .ok (.iload_n 3, 1) := by decide +kernel
theorem dL_law_893 : decode cL_law 893 = .ok (.iconst 1, 1) := by decide +kernel
theorem dL_law_894 : decode cL_law 894 = .ok (.iadd, 1) := by decide +kernel
theorem dL_law_895 : decode cL_law 895 = .ok (.iaload, 1) := by decide +kernel
theorem dL_law_896 : decode cL_law 896 = .ok (.invokevirtual 119, 3) := by decide +kernel
theorem dL_law_899 : decode cL_law 899 = .ok (.if_icmp .eq 5, 3) := by decide +kernel
theorem dL_law_902 : decode cL_law 902 = .ok (.iconst 0, 1) := by decide +kernel
theorem dL_law_903 : decode cL_law 903 = .ok (.ireturn, 1) := by decide +kernel
theorem dL_law_904 : decode cL_law 904 = .ok (.iinc 3 6, 3) := by decide +kernel
theorem dL_law_907 : decode cL_law 907 = .ok (.goto (-889), 3) := by decide +kernel
theorem dL_law_910 : decode cL_law 910 = .ok (.iconst 1, 1) := by decide +kernel
theorem dL_law_911 : decode cL_law 911 = .ok (.ireturn, 1) := by decide +kernel
