theorem dX11_pushes_53 : decode cX11_pushes 53 = .ok (.return_, 1) := by decide +kernel
theorem dX11_opens_0 : decode cX11_opens 0 = .ok (.aload_n 0, 1) := by decide +kernel
theorem dX11_opens_1 : decode cX11_opens 1 = .ok (.getfield 152, 3) := by decide +kernel
theorem dX11_opens_4 : decode cX11_opens 4 = .ok (.bipush 8, 2) := by decide +kernel
theorem dX11_opens_6 : decode cX11_opens 6 = .ok (.if_icmp .ne 12, 3) := by decide +kernel
theorem dX11_opens_9 : decode cX11_opens 9 = .ok (.aload_n 0, 1) := by decide +kernel
theorem dX11_opens_10 : decode cX11_opens 10 = .ok (.iconst 5, 1) := by decide +kernel
theorem dX11_opens_11 : decode cX11_opens 11 = .ok (.aload_n 0, 1) := by decide +kernel
theorem dX11_opens_12 : decode cX11_opens 12 = .ok (.getfield 23, 3) := by decide +kernel
theorem dX11_opens_15 : decode cX11_opens 15 = .ok (.invokevirtual 252, 3) := by decide +kernel
theorem dX11_opens_18 : decode cX11_opens 18 = .ok (.aload_n 0, 1) := by decide +kernel
theorem dX11_opens_19 : decode cX11_opens 19 = .ok (.getfield 36, 3) := by decide +kernel
theorem dX11_opens_22 : decode cX11_opens 22 = .ok (.ifCond .le 4, 3) := by decide +kernel
theorem dX11_opens_25 : decode cX11_opens 25 = .ok (.return_, 1) := by decide +kernel
theorem dX11_opens_26 : decode cX11_opens 26 = .ok (.aload_n 0, 1) := by decide +kernel
theorem dX11_opens_27 : decode cX11_opens 27 = .ok (.dup, 1) := by decide +kernel
theorem dX11_opens_28 : decode cX11_opens 28 = .ok (.getfield 152, 3) := by decide +kernel
theorem dX11_opens_31 : decode cX11_opens 31 = .ok (.iconst 1, 1) := by decide +kernel
theorem dX11_opens_32 : decode cX11_opens 32 = .ok (.iadd, 1) := by decide +kernel
theorem dX11_opens_33 : decode cX11_opens 33 = .ok (.putfield 152, 3) := by decide +kernel
theorem dX11_opens_36 : decode cX11_opens 36 = .ok (.aload_n 0, 1) := by decide +kernel
theorem dX11_opens_37 : decode cX11_opens 37 = .ok (.invokevirtual 259, 3) := by decide +kernel
theorem dX11_opens_40 : decode cX11_opens 40 = .ok (.aload_n 0, 1) := by decide +kernel
theorem dX11_opens_41 : decode cX11_opens 41 = .ok (.iload_n 1, 1) := by decide +kernel
theorem dX11_opens_42 : decode cX11_opens 42 = .ok (.invokevirtual 334, 3) := by decide +kernel
theorem dX11_opens_45 : decode cX11_opens 45 = .ok (.return_, 1) := by decide +kernel
theorem dX11_isTest_0 : decode cX11_isTest 0 = .ok (.iload_n 0, 1) := by decide +kernel
theorem dX11_isTest_1 : decode cX11_isTest 1 = .ok (.iconst 1, 1) := by decide +kernel
theorem dX11_isTest_2 : decode cX11_isTest 2 = .ok (.if_icmp .eq 8, 3) := by decide +kernel
theorem dX11_isTest_5 : decode cX11_isTest 5 = .ok (.iload_n 0, 1) := by decide +kernel
theorem dX11_isTest_6 : decode cX11_isTest 6 = .ok (.iconst 5, 1) := by decide +kernel
theorem dX11_isTest_7 : decode cX11_isTest 7 = .ok (.if_icmp .ne 7, 3) := by decide +kernel
theorem dX11_isTest_10 : decode cX11_isTest 10 = .ok (.iconst 1, 1) := by decide +kernel
theorem dX11_isTest_11 : decode cX11_isTest 11 = .ok (.goto 4, 3) := by decide +kernel
theorem dX11_isTest_14 : decode cX11_isTest 14 = .ok (.iconst 0, 1) := by decide +kernel
theorem dX11_isTest_15 : decode cX11_isTest 15 = .ok (.ireturn, 1) := by decide +kernel
theorem dX11_operand_0 : decode cX11_operand 0 = .ok (.aload_n 0, 1) := by decide +kernel
theorem dX11_operand_1 : decode cX11_operand 1 = .ok (.getfield 149, 3) := by decide +kernel
theorem dX11_operand_4 : decode cX11_operand 4 = .ok (.iconst 1, 1) := by decide +kernel
theorem dX11_operand_5 : decode cX11_operand 5 = .ok (.isub, 1) := by decide +kernel
theorem dX11_operand_6 : decode cX11_operand 6 = .ok (.istore_n 1, 1) := by decide +kernel
theorem dX11_operand_7 : decode cX11_operand 7 = .ok (.aload_n 0, 1) := by decide +kernel
theorem dX11_operand_8 : decode cX11_operand 8 = .ok (.getfield 133, 3) := by decide +kernel
theorem dX11_operand_11 : decode cX11_operand 11 = .ok (.iload_n 1, 1) := by decide +kernel
theorem dX11_operand_12 : decode cX11_operand 12 = .ok (.iaload, 1) := by decide +kernel
theorem dX11_operand_13 : decode cX11_operand 13 = .ok (.invokestatic 337, 3) := by decide +kernel
theorem dX11_operand_16 : decode cX11_operand 16 = .ok (.ifCond .eq 16, 3) := by decide +kernel
theorem dX11_operand_19 : decode cX11_operand 19 = .ok (.aload_n 0, 1) := by decide +kernel
theorem dX11_operand_20 : decode cX11_operand 20 = .ok (.getfield 139, 3) := by decide +kernel
theorem dX11_operand_23 : decode cX11_operand 23 = .ok (.iload_n 1, 1) := by decide +kernel
theorem dX11_operand_24 : decode cX11_operand 24 = .ok (.baload, 1) := by decide +kernel
theorem dX11_operand_25 : decode cX11_operand 25 = .ok (.ifCond .eq 7, 3) := by decide +kernel
theorem dX11_operand_28 : decode cX11_operand 28 = .ok (.iconst 1, 1) := by decide +kernel
theorem dX11_operand_29 : decode cX11_operand 29 = .ok (.goto 4, 3) := by decide +kernel
theorem dX11_operand_32 : decode cX11_operand 32 = .ok (.iconst 0, 1) := by decide +kernel
theorem dX11_operand_33 : decode cX11_operand 33 = .ok (.istore_n 2, 1) := by decide +kernel
theorem dX11_operand_34 : decode cX11_operand 34 = .ok (.iload_n 2, 1) := by decide +kernel
theorem dX11_operand_35 : decode cX11_operand 35 = .ok (.ifCond .eq 25, 3) := by decide +kernel
theorem dX11_operand_38 : decode cX11_operand 38 = .ok (.aload_n 0, 1) := by decide +kernel
theorem dX11_operand_39 : decode cX11_operand 39 = .ok (.ldc2_w 302, 3) := by decide +kernel
theorem dX11_operand_42 : decode cX11_operand 42 = .ok (.invokevirtual 340, 3) := by decide +kernel
theorem dX11_operand_45 : decode cX11_operand 45 = .ok (.ifCond .eq 15, 3) := by decide +kernel
theorem dX11_operand_48 : decode cX11_operand 48 = .ok (.aload_n 0, 1) := by decide +kernel
theorem dX11_operand_49 : decode cX11_operand 49 = .ok (.bipush 22, 2) := by decide +kernel
theorem dX11_operand_51 : decode cX11_operand 51 = .ok (.invokevirtual 344, 3) := by decide +kernel
theorem dX11_operand_54 : decode cX11_operand 54 = .ok (.aload_n 0, 1) := by decide +kernel
theorem dX11_operand_55 : decode cX11_operand 55 = .ok (.invokevirtual 259, 3) := by decide +kernel
theorem dX11_operand_58 : decode cX11_operand 58 = .ok (.iconst 0, 1) := by decide +kernel
theorem dX11_operand_59 : decode cX11_operand 59 = .ok (.ireturn, 1) := by decide +kernel
theorem dX11_operand_60 : decode cX11_operand 60 = .ok (.aload_n 0, 1) := by decide +kernel
theorem dX11_operand_61 : decode cX11_operand 61 = .ok (.getfield 139, 3) := by decide +kernel
theorem dX11_operand_64 : decode cX11_operand 64 = .ok (.iload_n 1, 1) := by decide +kernel
theorem dX11_operand_65 : decode cX11_operand 65 = .ok (.iconst 0, 1) := by decide +kernel
theorem dX11_operand_66 : decode cX11_operand 66 = .ok (.bastore, 1) := by decide +kernel
theorem dX11_operand_67 : decode cX11_operand 67 = .ok (.iload_n 2, 1) := by decide +kernel
theorem dX11_operand_68 : decode cX11_operand 68 = .ok (.ifCond .eq 19, 3) := by decide +kernel
theorem dX11_operand_71 : decode cX11_operand 71 = .ok (.aload_n 0, 1) := by decide +kernel
theorem dX11_operand_72 : decode cX11_operand 72 = .ok (.bipush 91, 2) := by decide +kernel
theorem dX11_operand_74 : decode cX11_operand 74 = .ok (.invokevirtual 256, 3) := by decide +kernel
theorem dX11_operand_77 : decode cX11_operand 77 = .ok (.ifCond .eq 10, 3) := by decide +kernel
theorem dX11_operand_80 : decode cX11_operand 80 = .ok (.aload_n 0, 1) := by decide +kernel
theorem dX11_operand_81 : decode cX11_operand 81 = .ok (.iconst 5, 1) := by decide +kernel
theorem dX11_operand_82 : decode cX11_operand 82 = .ok (.invokevirtual 347, 3) := by decide +kernel
theorem dX11_operand_85 : decode cX11_operand 85 = .ok (.iconst 0, 1) := by decide +kernel
theorem dX11_operand_86 : decode cX11_operand 86 = .ok (.ireturn, 1) := by decide +kernel
theorem dX11_operand_87 : decode cX11_operand 87 = .ok (.iload_n 2, 1) := by decide +kernel
theorem dX11_operand_88 : decode cX11_operand 88 = .ok (.ifCond .eq 33, 3) := by decide +kernel
theorem dX11_operand_91 : decode cX11_operand 91 = .ok (.aload_n 0, 1) := by decide +kernel
theorem dX11_operand_92 : decode cX11_operand 92 = .ok (.ldc2_w 304, 3) := by decide +kernel
theorem dX11_operand_95 : decode cX11_operand 95 = .ok (.invokevirtual 340, 3) := by decide +kernel
theorem dX11_operand_98 : decode cX11_operand 98 = .ok (.ifCond .eq 23, 3) := by decide +kernel
theorem dX11_operand_101 : decode cX11_operand 101 = .ok (.aload_n 0, 1) := by decide +kernel
theorem dX11_operand_102 : decode cX11_operand 102 = .ok (.bipush 9, 2) := by decide +kernel
theorem dX11_operand_104 : decode cX11_operand 104 = .ok (.iconst 0, 1) := by decide +kernel
theorem dX11_operand_105 : decode cX11_operand 105 = .ok (.invokevirtual 331, 3) := by decide +kernel
theorem dX11_operand_108 : decode cX11_operand 108 = .ok (.aload_n 0, 1) := by decide +kernel
theorem dX11_operand_109 : decode cX11_operand 109 = .ok (.getfield 136, 3) := by decide +kernel
theorem dX11_operand_112 : decode cX11_operand 112 = .ok (.iload_n 1, 1) := by decide +kernel
theorem dX11_operand_113 : decode cX11_operand 113 = .ok (.iconst 2, 1) := by decide +kernel
theorem dX11_operand_114 : decode cX11_operand 114 = .ok (.iastore, 1) := by decide +kernel
theorem dX11_operand_115 : decode cX11_operand 115 = .ok (.aload_n 0, 1) := by decide +kernel
theorem dX11_operand_116 : decode cX11_operand 116 = .ok (.invokevirtual 259, 3) := by decide +kernel
theorem dX11_operand_119 : decode cX11_operand 119 = .ok (.iconst 1, 1) := by decide +kernel
theorem dX11_operand_120 : decode cX11_operand 120 = .ok (.ireturn, 1) := by decide +kernel
theorem dX11_operand_121 : decode cX11_operand 121 = .ok (.aload_n 0, 1) := by decide +kernel
theorem dX11_operand_122 : decode cX11_operand 122 = .ok (.bipush 40, 2) := by decide +kernel
theorem dX11_operand_124 : decode cX11_operand 124 = .ok (.invokevirtual 256, 3) := by decide +kernel
theorem dX11_operand_127 : decode cX11_operand 127 = .ok (.ifCond .eq 10, 3) := by decide +kernel
theorem dX11_operand_130 : decode cX11_operand 130 = .ok (.aload_n 0, 1) := by decide +kernel
theorem dX11_operand_131 : decode cX11_operand 131 = .ok (.iconst 2, 1) := by decide +kernel
theorem dX11_operand_132 : decode cX11_operand 132 = .ok (.invokevirtual 347, 3) := by decide +kernel
theorem dX11_operand_135 : decode cX11_operand 135 = .ok (.iconst 0, 1) := by decide +kernel
theorem dX11_operand_136 : decode cX11_operand 136 = .ok (.ireturn, 1) := by decide +kernel
theorem dX11_operand_137 : decode cX11_operand 137 = .ok (.aload_n 0, 1) := by decide +kernel
theorem dX11_operand_138 : decode cX11_operand 138 = .ok (.ldc2_w 316, 3) := by decide +kernel
theorem dX11_operand_141 : decode cX11_operand 141 = .ok (.invokevirtual 340, 3) := by decide +kernel
theorem dX11_operand_144 : decode cX11_operand 144 = .ok (.ifCond .ne 13, 3) := by decide +kernel
theorem dX11_operand_147 : decode cX11_operand 147 = .ok (.aload_n 0, 1) := by decide +kernel
theorem dX11_operand_148 : decode cX11_operand 148 = .ok (.ldc2_w 318, 3) := by decide +kernel
theorem dX11_operand_151 : decode cX11_operand 151 = .ok (.invokevirtual 340, 3) := by decide +kernel
theorem dX11_operand_154 : decode cX11_operand 154 = .ok (.ifCond .eq 69, 3) := by decide +kernel
theorem dX11_operand_157 : decode cX11_operand 157 = .ok (.aload_n 0, 1) := by decide +kernel
theorem dX11_operand_158 : decode cX11_operand 158 = .ok (.ldc2_w 316, 3) := by decide +kernel
theorem dX11_operand_161 : decode cX11_operand 161 = .ok (.invokevirtual 340, 3) := by decide +kernel
theorem dX11_operand_164 : decode cX11_operand 164 = .ok (.ifCond .eq 8, 3) := by decide +kernel
theorem dX11_operand_167 : decode cX11_operand 167 = .ok (.bipush 15, 2) := by decide +kernel
theorem dX11_operand_169 : decode cX11_operand 169 = .ok (.goto 5, 3) := by decide +kernel
theorem dX11_operand_172 : decode cX11_operand 172 = .ok (.bipush 16, 2) := by decide +kernel
theorem dX11_operand_174 : decode cX11_operand 174 = .ok (.istore_n 3, 1) := by decide +kernel
theorem dX11_operand_175 : decode cX11_operand 175 = .ok (.aload_n 0, 1) := by decide +kernel
theorem dX11_operand_176 : decode cX11_operand 176 = .ok (.invokevirtual 259, 3) := by decide +kernel
theorem dX11_operand_179 : decode cX11_operand 179 = .ok (.aload_n 0, 1) := by decide +kernel
theorem dX11_operand_180 : decode cX11_operand 180 = .ok (.bipush 40, 2) := by decide +kernel
theorem dX11_operand_182 : decode cX11_operand 182 = .ok (.invokevirtual 256, 3) := by decide +kernel
theorem dX11_operand_185 : decode cX11_operand 185 = .ok (.ifCond .ne 12, 3) := by decide +kernel
theorem dX11_operand_188 : decode cX11_operand 188 = .ok (.aload_n 0, 1) := by decide +kernel
theorem dX11_operand_189 : decode cX11_operand 189 = .ok (.iconst 1, 1) := by decide +kernel
theorem dX11_operand_190 : decode cX11_operand 190 = .ok (.aload_n 0, 1) := by decide +kernel
theorem dX11_operand_191 : decode cX11_operand 191 = .ok (.getfield 23, 3) := by decide +kernel
theorem dX11_operand_194 : decode cX11_operand 194 = .ok (.invokevirtual 252, 3) := by decide +kernel
theorem dX11_operand_197 : decode cX11_operand 197 = .ok (.aload_n 0, 1) := by decide +kernel
theorem dX11_operand_198 : decode cX11_operand 198 = .ok (.iconst 3, 1) := by decide +kernel
theorem dX11_operand_199 : decode cX11_operand 199 = .ok (.invokevirtual 347, 3) := by decide +kernel
theorem dX11_operand_202 : decode cX11_operand 202 = .ok (.aload_n 0, 1) := by decide +kernel
theorem dX11_operand_203 : decode cX11_operand 203 = .ok (.getfield 36, 3) := by decide +kernel
theorem dX11_operand_206 : decode cX11_operand 206 = .ok (.ifCond .ne 15, 3) := by decide +kernel
theorem dX11_operand_209 : decode cX11_operand 209 = .ok (.aload_n 0, 1) := by decide +kernel
theorem dX11_operand_210 : decode cX11_operand 210 = .ok (.getfield 143, 3) := by decide +kernel
theorem dX11_operand_213 : decode cX11_operand 213 = .ok (.aload_n 0, 1) := by decide +kernel
theorem dX11_operand_214 : decode cX11_operand 214 = .ok (.getfield 149, 3) := by decide +kernel
theorem dX11_operand_217 : decode cX11_operand 217 = .ok (.iconst 1, 1) := by decide +kernel
theorem dX11_operand_218 : decode cX11_operand 218 = .ok (.isub, 1) := by decide +kernel
theorem dX11_operand_219 : decode cX11_operand 219 = .ok (.iload_n 3, 1) := by decide +kernel
theorem dX11_operand_220 : decode cX11_operand 220 = .ok (.iastore, 1) := by decide +kernel
theorem dX11_operand_221 : decode cX11_operand 221 = .ok (.iconst 0, 1) := by decide +kernel
theorem dX11_operand_222 : decode cX11_operand 222 = .ok (.ireturn, 1) := by decide +kernel
theorem dX11_operand_223 : decode cX11_operand 223 = .ok (.aload_n 0, 1) := by decide +kernel
theorem dX11_operand_224 : decode cX11_operand 224 = .ok (.getfield 20, 3) := by decide +kernel
theorem dX11_operand_227 : decode cX11_operand 227 = .ok (.iconst 2, 1) := by decide +kernel
theorem dX11_operand_228 : decode cX11_operand 228 = .ok (.if_icmp .ne 7, 3) := by decide +kernel
theorem dX11_operand_231 : decode cX11_operand 231 = .ok (.iconst 0, 1) := by decide +kernel
theorem dX11_operand_232 : decode cX11_operand 232 = .ok (.goto 89, 3) := by decide +kernel
theorem dX11_operand_235 : decode cX11_operand 235 = .ok (.aload_n 0, 1) := by decide +kernel
theorem dX11_operand_236 : decode cX11_operand 236 = .ok (.ldc2_w 306, 3) := by decide +kernel
theorem dX11_operand_239 : decode cX11_operand 239 = .ok (.invokevirtual 340, 3) := by decide +kernel
theorem dX11_operand_242 : decode cX11_operand 242 = .ok (.ifCond .eq 7, 3) := by decide +kernel
theorem dX11_operand_245 : decode cX11_operand 245 = .ok (.iconst 1, 1) := by decide +kernel
theorem dX11_operand_246 : decode cX11_operand 246 = .ok (.goto 75, 3) := by decide +kernel
theorem dX11_operand_249 : decode cX11_operand 249 = .ok (.aload_n 0, 1) := by decide +kernel
theorem dX11_operand_250 : decode cX11_operand 250 = .ok (.ldc2_w 308, 3) := by decide +kernel
theorem dX11_operand_253 : decode cX11_operand 253 = .ok (.invokevirtual 340, 3) := by decide +kernel
theorem dX11_operand_256 : decode cX11_operand 256 = .ok (.ifCond .eq 7, 3) := by decide +kernel
theorem dX11_operand_259 : decode cX11_operand 259 = .ok (.iconst 2, 1) := by decide +kernel
theorem dX11_operand_260 : decode cX11_operand 260 = .ok (.goto 61, 3) := by decide +kernel
theorem dX11_operand_263 : decode cX11_operand 263 = .ok (.aload_n 0, 1) := by decide +kernel
theorem dX11_operand_264 : decode cX11_operand 264 = .ok (.ldc2_w 310, 3) := by decide +kernel
theorem dX11_operand_267 : decode cX11_operand 267 = .ok (.invokevirtual 340, 3) := by decide +kernel
theorem dX11_operand_270 : decode cX11_operand 270 = .ok (.ifCond .eq 7, 3) := by decide +kernel
theorem dX11_operand_273 : decode cX11_operand 273 = .ok (.iconst 3, 1) := by decide +kernel
theorem dX11_operand_274 : decode cX11_operand 274 = .ok (.goto 47, 3) := by decide +kernel
theorem dX11_operand_277 : decode cX11_operand 277 = .ok (.aload_n 0, 1) := by decide +kernel
theorem dX11_operand_278 : decode cX11_operand 278 = .ok (.ldc2_w 312, 3) := by decide +kernel
theorem dX11_operand_281 : decode cX11_operand 281 = .ok (.invokevirtual 340, 3) := by decide +kernel
theorem dX11_operand_284 : decode cX11_operand 284 = .ok (.ifCond .eq 7, 3) := by decide +kernel
theorem dX11_operand_287 : decode cX11_operand 287 = .ok (.iconst 4, 1) := by decide +kernel
theorem dX11_operand_288 : decode cX11_operand 288 = .ok (.goto 33, 3) := by decide +kernel
theorem dX11_operand_291 : decode cX11_operand 291 = .ok (.aload_n 0, 1) := by decide +kernel
theorem dX11_operand_292 : decode cX11_operand 292 = .ok (.ldc2_w 314, 3) := by decide +kernel
theorem dX11_operand_295 : decode cX11_operand 295 = .ok (.invokevirtual 340, 3) := by decide +kernel
theorem dX11_operand_298 : decode cX11_operand 298 = .ok (.ifCond .eq 7, 3) := by decide +kernel
theorem dX11_operand_301 : decode cX11_operand 301 = .ok (.iconst 5, 1) := by decide +kernel
theorem dX11_operand_302 : decode cX11_operand 302 = .ok (.goto 19, 3) := by decide +kernel
theorem dX11_operand_305 : decode cX11_operand 305 = .ok (.aload_n 0, 1) := by decide +kernel
theorem dX11_operand_306 : decode cX11_operand 306 = .ok (.ldc2_w 274, 3) := by decide +kernel
theorem dX11_operand_309 : decode cX11_operand 309 = .ok (.invokevirtual 340, 3) := by decide +kernel
theorem dX11_operand_312 : decode cX11_operand 312 = .ok (.ifCond .eq 8, 3) := by decide +kernel
theorem dX11_operand_315 : decode cX11_operand 315 = .ok (.bipush 6, 2) := by decide +kernel
theorem dX11_operand_317 : decode cX11_operand 317 = .ok (.goto 4, 3) := by decide +kernel
theorem dX11_operand_320 : decode cX11_operand 320 = .ok (.iconst (-1), 1) := by decide +kernel
theorem dX11_operand_321 : decode cX11_operand 321 = .ok (.istore_n 3, 1) := by decide +kernel
theorem dX11_operand_322 : decode cX11_operand 322 = .ok (.iload_n 3, 1) := by decide +kernel
theorem dX11_operand_323 : decode cX11_operand 323 = .ok (.iconst (-1), 1) := by decide +kernel
theorem dX11_operand_324 : decode cX11_operand 324 = .ok (.if_icmp .ne 12, 3) := by decide +kernel
theorem dX11_operand_327 : decode cX11_operand 327 = .ok (.aload_n 0, 1) := by decide +kernel
theorem dX11_operand_328 : decode cX11_operand 328 = .ok (.iconst 1, 1) := by decide +kernel
theorem dX11_operand_329 : decode cX11_operand 329 = .ok (.aload_n 0, 1) := by decide +kernel
theorem dX11_operand_330 : decode cX11_operand 330 = .ok (.getfield 23, 3) := by decide +kernel
theorem dX11_operand_333 : decode cX11_operand 333 = .ok (.invokevirtual 252, 3) := by decide +kernel
theorem dX11_operand_336 : decode cX11_operand 336 = .ok (.aload_n 0, 1) := by decide +kernel
theorem dX11_operand_337 : decode cX11_operand 337 = .ok (.getfield 36, 3) := by decide +kernel
theorem dX11_operand_340 : decode cX11_operand 340 = .ok (.ifCond .le 5, 3) := by decide +kernel
theorem dX11_operand_343 : decode cX11_operand 343 = .ok (.iconst 1, 1) := by decide +kernel
theorem dX11_operand_344 : decode cX11_operand 344 = .ok (.ireturn, 1) := by decide +kernel
theorem dX11_operand_345 : decode cX11_operand 345 = .ok (.aload_n 0, 1) := by decide +kernel
theorem dX11_operand_346 : decode cX11_operand 346 = .ok (.iload_n 3, 1) := by decide +kernel
theorem dX11_operand_347 : decode cX11_operand 347 = .ok (.aload_n 0, 1) := by decide +kernel
theorem dX11_operand_348 : decode cX11_operand 348 = .ok (.getfield 29, 3) := by decide +kernel
theorem dX11_operand_351 : decode cX11_operand 351 = .ok (.invokevirtual 331, 3) := by decide +kernel
theorem dX11_operand_354 : decode cX11_operand 354 = .ok (.aload_n 0, 1) := by decide +kernel
theorem dX11_operand_355 : decode cX11_operand 355 = .ok (.invokevirtual 259, 3) := by decide +kernel
theorem dX11_operand_358 : decode cX11_operand 358 = .ok (.iconst 1, 1) := by decide +kernel
theorem dX11_operand_359 : decode cX11_operand 359 = .ok (.ireturn, 1) := by decide +kernel
theorem dX11_goesOn_0 : decode cX11_goesOn 0 = .ok (.aload_n 0, 1) := by decide +kernel
theorem dX11_goesOn_1 : decode cX11_goesOn 1 = .ok (.getfield 149, 3) := by decide +kernel
theorem dX11_goesOn_4 : decode cX11_goesOn 4 = .ok (.iconst 1, 1) := by decide +kernel
theorem dX11_goesOn_5 : decode cX11_goesOn 5 = .ok (.isub, 1) := by decide +kernel
theorem dX11_goesOn_6 : decode cX11_goesOn 6 = .ok (.istore_n 1, 1) := by decide +kernel
theorem dX11_goesOn_7 : decode cX11_goesOn 7 = .ok (.aload_n 0, 1) := by decide +kernel
theorem dX11_goesOn_8 : decode cX11_goesOn 8 = .ok (.getfield 133, 3) := by decide +kernel
theorem dX11_goesOn_11 : decode cX11_goesOn 11 = .ok (.iload_n 1, 1) := by decide +kernel
theorem dX11_goesOn_12 : decode cX11_goesOn 12 = .ok (.iaload, 1) := by decide +kernel
theorem dX11_goesOn_13 : decode cX11_goesOn 13 = .ok (.istore_n 2, 1) := by decide +kernel
theorem dX11_goesOn_14 : decode cX11_goesOn 14 = .ok (.iload_n 2, 1) := by decide +kernel
theorem dX11_goesOn_15 : decode cX11_goesOn 15 = .ok (.invokestatic 337, 3) := by decide +kernel
theorem dX11_goesOn_18 : decode cX11_goesOn 18 = .ok (.istore_n 3, 1) := by decide +kernel
theorem dX11_goesOn_19 : decode cX11_goesOn 19 = .ok (.aload_n 0, 1) := by decide +kernel
theorem dX11_goesOn_20 : decode cX11_goesOn 20 = .ok (.getfield 136, 3) := by decide +kernel
theorem dX11_goesOn_23 : decode cX11_goesOn 23 = .ok (.iload_n 1, 1) := by decide +kernel
theorem dX11_goesOn_24 : decode cX11_goesOn 24 = .ok (.iaload, 1) := by decide +kernel
theorem dX11_goesOn_25 : decode cX11_goesOn 25 = .ok (.iconst 2, 1) := by decide +kernel
theorem dX11_goesOn_26 : decode cX11_goesOn 26 = .ok (.if_icmp .ge 149, 3) := by decide +kernel
theorem dX11_goesOn_29 : decode cX11_goesOn 29 = .ok (.aload_n 0, 1) := by decide +kernel
theorem dX11_goesOn_30 : decode cX11_goesOn 30 = .ok (.bipush 43, 2) := by decide +kernel
theorem dX11_goesOn_32 : decode cX11_goesOn 32 = .ok (.invokevirtual 256, 3) := by decide +kernel
theorem dX11_goesOn_35 : decode cX11_goesOn 35 = .ok (.ifCond .ne 39, 3) := by decide +kernel
theorem dX11_goesOn_38 : decode cX11_goesOn 38 = .ok (.aload_n 0, 1) := by decide +kernel
theorem dX11_goesOn_39 : decode cX11_goesOn 39 = .ok (.bipush 45, 2) := by decide +kernel
theorem dX11_goesOn_41 : decode cX11_goesOn 41 = .ok (.invokevirtual 256, 3) := by decide +kernel
theorem dX11_goesOn_44 : decode cX11_goesOn 44 = .ok (.ifCond .ne 30, 3) := by decide +kernel
theorem dX11_goesOn_47 : decode cX11_goesOn 47 = .ok (.aload_n 0, 1) := by decide +kernel
theorem dX11_goesOn_48 : decode cX11_goesOn 48 = .ok (.bipush 42, 2) := by decide +kernel
theorem dX11_goesOn_50 : decode cX11_goesOn 50 = .ok (.invokevirtual 256, 3) := by decide +kernel
theorem dX11_goesOn_53 : decode cX11_goesOn 53 = .ok (.ifCond .ne 21, 3) := by decide +kernel
theorem dX11_goesOn_56 : decode cX11_goesOn 56 = .ok (.aload_n 0, 1) := by decide +kernel
theorem dX11_goesOn_57 : decode cX11_goesOn 57 = .ok (.bipush 47, 2) := by decide +kernel
theorem dX11_goesOn_59 : decode cX11_goesOn 59 = .ok (.invokevirtual 256, 3) := by decide +kernel
theorem dX11_goesOn_62 : decode cX11_goesOn 62 = .ok (.ifCond .ne 12, 3) := by decide +kernel
theorem dX11_goesOn_65 : decode cX11_goesOn 65 = .ok (.aload_n 0, 1) := by decide +kernel
theorem dX11_goesOn_66 : decode cX11_goesOn 66 = .ok (.bipush 37, 2) := by decide +kernel
theorem dX11_goesOn_68 : decode cX11_goesOn 68 = .ok (.invokevirtual 256, 3) := by decide +kernel
theorem dX11_goesOn_71 : decode cX11_goesOn 71 = .ok (.ifCond .eq 104, 3) := by decide +kernel
theorem dX11_goesOn_74 : decode cX11_goesOn 74 = .ok (.aload_n 0, 1) := by decide +kernel
theorem dX11_goesOn_75 : decode cX11_goesOn 75 = .ok (.aload_n 0, 1) := by decide +kernel
theorem dX11_goesOn_76 : decode cX11_goesOn 76 = .ok (.bipush 43, 2) := by decide +kernel
theorem dX11_goesOn_78 : decode cX11_goesOn 78 = .ok (.invokevirtual 256, 3) := by decide +kernel
theorem dX11_goesOn_81 : decode cX11_goesOn 81 = .ok (.ifCond .ne 12, 3) := by decide +kernel
theorem dX11_goesOn_84 : decode cX11_goesOn 84 = .ok (.aload_n 0, 1) := by decide +kernel
theorem dX11_goesOn_85 : decode cX11_goesOn 85 = .ok (.bipush 45, 2) := by decide +kernel
theorem dX11_goesOn_87 : decode cX11_goesOn 87 = .ok (.invokevirtual 256, 3) := by decide +kernel
theorem dX11_goesOn_90 : decode cX11_goesOn 90 = .ok (.ifCond .eq 7, 3) := by decide +kernel
theorem dX11_goesOn_93 : decode cX11_goesOn 93 = .ok (.iconst 5, 1) := by decide +kernel
theorem dX11_goesOn_94 : decode cX11_goesOn 94 = .ok (.goto 5, 3) := by decide +kernel
theorem dX11_goesOn_97 : decode cX11_goesOn 97 = .ok (.bipush 6, 2) := by decide +kernel
theorem dX11_goesOn_99 : decode cX11_goesOn 99 = .ok (.invokevirtual 350, 3) := by decide +kernel
theorem dX11_goesOn_102 : decode cX11_goesOn 102 = .ok (.aload_n 0, 1) := by decide +kernel
theorem dX11_goesOn_103 : decode cX11_goesOn 103 = .ok (.aload_n 0, 1) := by decide +kernel
theorem dX11_goesOn_104 : decode cX11_goesOn 104 = .ok (.bipush 43, 2) := by decide +kernel
theorem dX11_goesOn_106 : decode cX11_goesOn 106 = .ok (.invokevirtual 256, 3) := by decide +kernel
theorem dX11_goesOn_109 : decode cX11_goesOn 109 = .ok (.ifCond .eq 8, 3) := by decide +kernel
theorem dX11_goesOn_112 : decode cX11_goesOn 112 = .ok (.bipush 10, 2) := by decide +kernel
theorem dX11_goesOn_114 : decode cX11_goesOn 114 = .ok (.goto 47, 3) := by decide +kernel
theorem dX11_goesOn_117 : decode cX11_goesOn 117 = .ok (.aload_n 0, 1) := by decide +kernel
theorem dX11_goesOn_118 : decode cX11_goesOn 118 = .ok (.bipush 45, 2) := by decide +kernel
theorem dX11_goesOn_120 : decode cX11_goesOn 120 = .ok (.invokevirtual 256, 3) := by decide +kernel
theorem dX11_goesOn_123 : decode cX11_goesOn 123 = .ok (.ifCond .eq 8, 3) := by decide +kernel
theorem dX11_goesOn_126 : decode cX11_goesOn 126 = .ok (.bipush 11, 2) := by decide +kernel
theorem dX11_goesOn_128 : decode cX11_goesOn 128 = .ok (.goto 33, 3) := by decide +kernel
theorem dX11_goesOn_131 : decode cX11_goesOn 131 = .ok (.aload_n 0, 1) := by decide +kernel
theorem dX11_goesOn_132 : decode cX11_goesOn 132 = .ok (.bipush 42, 2) := by decide +kernel
theorem dX11_goesOn_134 : decode cX11_goesOn 134 = .ok (.invokevirtual 256, 3) := by decide +kernel
theorem dX11_goesOn_137 : decode cX11_goesOn 137 = .ok (.ifCond .eq 8, 3) := by decide +kernel
theorem dX11_goesOn_140 : decode cX11_goesOn 140 = .ok (.bipush 12, 2) := by decide +kernel
theorem dX11_goesOn_142 : decode cX11_goesOn 142 = .ok (.goto 19, 3) := by decide +kernel
theorem dX11_goesOn_145 : decode cX11_goesOn 145 = .ok (.aload_n 0, 1) := by decide +kernel
theorem dX11_goesOn_146 : decode cX11_goesOn 146 = .ok (.bipush 47, 2) := by decide +kernel
theorem dX11_goesOn_148 : decode cX11_goesOn 148 = .ok (.invokevirtual 256, 3) := by decide +kernel
theorem dX11_goesOn_151 : decode cX11_goesOn 151 = .ok (.ifCond .eq 8, 3) := by decide +kernel
theorem dX11_goesOn_154 : decode cX11_goesOn 154 = .ok (.bipush 13, 2) := by decide +kernel
theorem dX11_goesOn_156 : decode cX11_goesOn 156 = .ok (.goto 5, 3) := by decide +kernel
theorem dX11_goesOn_159 : decode cX11_goesOn 159 = .ok (.bipush 14, 2) := by decide +kernel
theorem dX11_goesOn_161 : decode cX11_goesOn 161 = .ok (.invokevirtual 344, 3) := by decide +kernel
theorem dX11_goesOn_164 : decode cX11_goesOn 164 = .ok (.aload_n 0, 1) := by decide +kernel
theorem dX11_goesOn_165 : decode cX11_goesOn 165 = .ok (.invokevirtual 259, 3) := by decide +kernel
theorem dX11_goesOn_168 : decode cX11_goesOn 168 = .ok (.aload_n 0, 1) := by decide +kernel
theorem dX11_goesOn_169 : decode cX11_goesOn 169 = .ok (.iconst 0, 1) := by decide +kernel
theorem dX11_goesOn_170 : decode cX11_goesOn 170 = .ok (.putfield 161, 3) := by decide +kernel
theorem dX11_goesOn_173 : decode cX11_goesOn 173 = .ok (.iconst 1, 1) := by decide +kernel
theorem dX11_goesOn_174 : decode cX11_goesOn 174 = .ok (.ireturn, 1) := by decide +kernel
theorem dX11_goesOn_175 : decode cX11_goesOn 175 = .ok (.iload_n 3, 1) := by decide +kernel
theorem dX11_goesOn_176 : decode cX11_goesOn 176 = .ok (.ifCond .eq 96, 3) := by decide +kernel
theorem dX11_goesOn_179 : decode cX11_goesOn 179 = .ok (.aload_n 0, 1) := by decide +kernel
theorem dX11_goesOn_180 : decode cX11_goesOn 180 = .ok (.getfield 136, 3) := by decide +kernel
theorem dX11_goesOn_183 : decode cX11_goesOn 183 = .ok (.iload_n 1, 1) := by decide +kernel
theorem dX11_goesOn_184 : decode cX11_goesOn 184 = .ok (.iaload, 1) := by decide +kernel
theorem dX11_goesOn_185 : decode cX11_goesOn 185 = .ok (.ifCond .ne 87, 3) := by decide +kernel
theorem dX11_goesOn_188 : decode cX11_goesOn 188 = .ok (.aload_n 0, 1) := by decide +kernel
theorem dX11_goesOn_189 : decode cX11_goesOn 189 = .ok (.bipush 60, 2) := by decide +kernel
theorem dX11_goesOn_191 : decode cX11_goesOn 191 = .ok (.invokevirtual 256, 3) := by decide +kernel
theorem dX11_goesOn_194 : decode cX11_goesOn 194 = .ok (.ifCond .ne 21, 3) := by decide +kernel
theorem dX11_goesOn_197 : decode cX11_goesOn 197 = .ok (.aload_n 0, 1) := by decide +kernel
theorem dX11_goesOn_198 : decode cX11_goesOn 198 = .ok (.bipush 62, 2) := by decide +kernel
theorem dX11_goesOn_200 : decode cX11_goesOn 200 = .ok (.invokevirtual 256, 3) := by decide +kernel
theorem dX11_goesOn_203 : decode cX11_goesOn 203 = .ok (.ifCond .ne 12, 3) := by decide +kernel
theorem dX11_goesOn_206 : decode cX11_goesOn 206 = .ok (.aload_n 0, 1) := by decide +kernel
theorem dX11_goesOn_207 : decode cX11_goesOn 207 = .ok (.bipush 61, 2) := by decide +kernel
theorem dX11_goesOn_209 : decode cX11_goesOn 209 = .ok (.invokevirtual 256, 3) := by decide +kernel
theorem dX11_goesOn_212 : decode cX11_goesOn 212 = .ok (.ifCond .eq 60, 3) := by decide +kernel
theorem dX11_goesOn_215 : decode cX11_goesOn 215 = .ok (.aload_n 0, 1) := by decide +kernel
theorem dX11_goesOn_216 : decode cX11_goesOn 216 = .ok (.iconst 5, 1) := by decide +kernel
theorem dX11_goesOn_217 : decode cX11_goesOn 217 = .ok (.invokevirtual 350, 3) := by decide +kernel
theorem dX11_goesOn_220 : decode cX11_goesOn 220 = .ok (.aload_n 0, 1) := by decide +kernel
theorem dX11_goesOn_221 : decode cX11_goesOn 221 = .ok (.aload_n 0, 1) := by decide +kernel
theorem dX11_goesOn_222 : decode cX11_goesOn 222 = .ok (.bipush 60, 2) := by decide +kernel
theorem dX11_goesOn_224 : decode cX11_goesOn 224 = .ok (.invokevirtual 256, 3) := by decide +kernel
theorem dX11_goesOn_227 : decode cX11_goesOn 227 = .ok (.ifCond .eq 8, 3) := by decide +kernel
theorem dX11_goesOn_230 : decode cX11_goesOn 230 = .ok (.bipush 17, 2) := by decide +kernel
theorem dX11_goesOn_232 : decode cX11_goesOn 232 = .ok (.goto 19, 3) := by decide +kernel
theorem dX11_goesOn_235 : decode cX11_goesOn 235 = .ok (.aload_n 0, 1) := by decide +kernel
theorem dX11_goesOn_236 : decode cX11_goesOn 236 = .ok (.bipush 62, 2) := by decide +kernel
theorem dX11_goesOn_238 : decode cX11_goesOn 238 = .ok (.invokevirtual 256, 3) := by decide +kernel
theorem dX11_goesOn_241 : decode cX11_goesOn 241 = .ok (.ifCond .eq 8, 3) := by decide +kernel
theorem dX11_goesOn_244 : decode cX11_goesOn 244 = .ok (.bipush 18, 2) := by decide +kernel
theorem dX11_goesOn_246 : decode cX11_goesOn 246 = .ok (.goto 5, 3) := by decide +kernel
theorem dX11_goesOn_249 : decode cX11_goesOn 249 = .ok (.bipush 19, 2) := by decide +kernel
theorem dX11_goesOn_251 : decode cX11_goesOn 251 = .ok (.invokevirtual 344, 3) := by decide +kernel
theorem dX11_goesOn_254 : decode cX11_goesOn 254 = .ok (.aload_n 0, 1) := by decide +kernel
theorem dX11_goesOn_255 : decode cX11_goesOn 255 = .ok (.getfield 136, 3) := by decide +kernel
theorem dX11_goesOn_258 : decode cX11_goesOn 258 = .ok (.iload_n 1, 1) := by decide +kernel
theorem dX11_goesOn_259 : decode cX11_goesOn 259 = .ok (.iconst 1, 1) := by decide +kernel
theorem dX11_goesOn_260 : decode cX11_goesOn 260 = .ok (.iastore, 1) := by decide +kernel
theorem dX11_goesOn_261 : decode cX11_goesOn 261 = .ok (.aload_n 0, 1) := by decide +kernel
theorem dX11_goesOn_262 : decode cX11_goesOn 262 = .ok (.invokevirtual 259, 3) := by decide +kernel
theorem dX11_goesOn_265 : decode cX11_goesOn 265 = .ok (.aload_n 0, 1) := by decide +kernel
theorem dX11_goesOn_266 : decode cX11_goesOn 266 = .ok (.iconst 0, 1) := by decide +kernel
theorem dX11_goesOn_267 : decode cX11_goesOn 267 = .ok (.putfield 161, 3) := by decide +kernel
theorem dX11_goesOn_270 : decode cX11_goesOn 270 = .ok (.iconst 1, 1) := by decide +kernel
theorem dX11_goesOn_271 : decode cX11_goesOn 271 = .ok (.ireturn, 1) := by decide +kernel
theorem dX11_goesOn_272 : decode cX11_goesOn 272 = .ok (.iload_n 3, 1) := by decide +kernel
theorem dX11_goesOn_273 : decode cX11_goesOn 273 = .ok (.ifCond .eq 114, 3) := by decide +kernel
theorem dX11_goesOn_276 : decode cX11_goesOn 276 = .ok (.aload_n 0, 1) := by decide +kernel
theorem dX11_goesOn_277 : decode cX11_goesOn 277 = .ok (.ldc2_w 300, 3) := by decide +kernel
theorem dX11_goesOn_280 : decode cX11_goesOn 280 = .ok (.invokevirtual 340, 3) := by decide +kernel
theorem dX11_goesOn_283 : decode cX11_goesOn 283 = .ok (.ifCond .ne 13, 3) := by decide +kernel
theorem dX11_goesOn_286 : decode cX11_goesOn 286 = .ok (.aload_n 0, 1) := by decide +kernel
theorem dX11_goesOn_287 : decode cX11_goesOn 287 = .ok (.ldc2_w 298, 3) := by decide +kernel
theorem dX11_goesOn_290 : decode cX11_goesOn 290 = .ok (.invokevirtual 340, 3) := by decide +kernel
theorem dX11_goesOn_293 : decode cX11_goesOn 293 = .ok (.ifCond .eq 94, 3) := by decide +kernel
theorem dX11_goesOn_296 : decode cX11_goesOn 296 = .ok (.aload_n 0, 1) := by decide +kernel
theorem dX11_goesOn_297 : decode cX11_goesOn 297 = .ok (.getfield 136, 3) := by decide +kernel
theorem dX11_goesOn_300 : decode cX11_goesOn 300 = .ok (.iload_n 1, 1) := by decide +kernel
theorem dX11_goesOn_301 : decode cX11_goesOn 301 = .ok (.iaload, 1) := by decide +kernel
theorem dX11_goesOn_302 : decode cX11_goesOn 302 = .ok (.ifCond .ne 12, 3) := by decide +kernel
theorem dX11_goesOn_305 : decode cX11_goesOn 305 = .ok (.aload_n 0, 1) := by decide +kernel
theorem dX11_goesOn_306 : decode cX11_goesOn 306 = .ok (.iconst 1, 1) := by decide +kernel
theorem dX11_goesOn_307 : decode cX11_goesOn 307 = .ok (.aload_n 0, 1) := by decide +kernel
theorem dX11_goesOn_308 : decode cX11_goesOn 308 = .ok (.getfield 23, 3) := by decide +kernel
theorem dX11_goesOn_311 : decode cX11_goesOn 311 = .ok (.invokevirtual 252, 3) := by decide +kernel
theorem dX11_goesOn_314 : decode cX11_goesOn 314 = .ok (.aload_n 0, 1) := by decide +kernel
theorem dX11_goesOn_315 : decode cX11_goesOn 315 = .ok (.getfield 36, 3) := by decide +kernel
theorem dX11_goesOn_318 : decode cX11_goesOn 318 = .ok (.ifCond .le 5, 3) := by decide +kernel
theorem dX11_goesOn_321 : decode cX11_goesOn 321 = .ok (.iconst 0, 1) := by decide +kernel
theorem dX11_goesOn_322 : decode cX11_goesOn 322 = .ok (.ireturn, 1) := by decide +kernel
theorem dX11_goesOn_323 : decode cX11_goesOn 323 = .ok (.aload_n 0, 1) := by decide +kernel
theorem dX11_goesOn_324 : decode cX11_goesOn 324 = .ok (.ldc2_w 300, 3) := by decide +kernel
theorem dX11_goesOn_327 : decode cX11_goesOn 327 = .ok (.invokevirtual 340, 3) := by decide +kernel
theorem dX11_goesOn_330 : decode cX11_goesOn 330 = .ok (.istore 4, 2) := by decide +kernel
theorem dX11_goesOn_332 : decode cX11_goesOn 332 = .ok (.aload_n 0, 1) := by decide +kernel
theorem dX11_goesOn_333 : decode cX11_goesOn 333 = .ok (.iload 4, 2) := by decide +kernel
theorem dX11_goesOn_335 : decode cX11_goesOn 335 = .ok (.ifCond .eq 7, 3) := by decide +kernel
theorem dX11_goesOn_338 : decode cX11_goesOn 338 = .ok (.iconst 2, 1) := by decide +kernel
theorem dX11_goesOn_339 : decode cX11_goesOn 339 = .ok (.goto 4, 3) := by decide +kernel
theorem dX11_goesOn_342 : decode cX11_goesOn 342 = .ok (.iconst 1, 1) := by decide +kernel
theorem dX11_goesOn_343 : decode cX11_goesOn 343 = .ok (.invokevirtual 350, 3) := by decide +kernel
theorem dX11_goesOn_346 : decode cX11_goesOn 346 = .ok (.aload_n 0, 1) := by decide +kernel
theorem dX11_goesOn_347 : decode cX11_goesOn 347 = .ok (.iload 4, 2) := by decide +kernel
theorem dX11_goesOn_349 : decode cX11_goesOn 349 = .ok (.ifCond .eq 8, 3) := by decide +kernel
theorem dX11_goesOn_352 : decode cX11_goesOn 352 = .ok (.bipush 20, 2) := by decide +kernel
theorem dX11_goesOn_354 : decode cX11_goesOn 354 = .ok (.goto 5, 3) := by decide +kernel
theorem dX11_goesOn_357 : decode cX11_goesOn 357 = .ok (.bipush 21, 2) := by decide +kernel
theorem dX11_goesOn_359 : decode cX11_goesOn 359 = .ok (.invokevirtual 344, 3) := by decide +kernel
theorem dX11_goesOn_362 : decode cX11_goesOn 362 = .ok (.aload_n 0, 1) := by decide +kernel
theorem dX11_goesOn_363 : decode cX11_goesOn 363 = .ok (.getfield 136, 3) := by decide +kernel
theorem dX11_goesOn_366 : decode cX11_goesOn 366 = .ok (.iload_n 1, 1) := by decide +kernel
theorem dX11_goesOn_367 : decode cX11_goesOn 367 = .ok (.iconst 0, 1) := by decide +kernel
theorem dX11_goesOn_368 : decode cX11_goesOn 368 = .ok (.iastore, 1) := by decide +kernel
theorem dX11_goesOn_369 : decode cX11_goesOn 369 = .ok (.aload_n 0, 1) := by decide +kernel
theorem dX11_goesOn_370 : decode cX11_goesOn 370 = .ok (.getfield 139, 3) := by decide +kernel
theorem dX11_goesOn_373 : decode cX11_goesOn 373 = .ok (.iload_n 1, 1) := by decide +kernel
theorem dX11_goesOn_374 : decode cX11_goesOn 374 = .ok (.iconst 1, 1) := by decide +kernel
theorem dX11_goesOn_375 : decode cX11_goesOn 375 = .ok (.bastore, 1) := by decide +kernel
theorem dX11_goesOn_376 : decode cX11_goesOn 376 = .ok (.aload_n 0, 1) := by decide +kernel
theorem dX11_goesOn_377 : decode cX11_goesOn 377 = .ok (.invokevirtual 259, 3) := by decide +kernel
theorem dX11_goesOn_380 : decode cX11_goesOn 380 = .ok (.aload_n 0, 1) := by decide +kernel
theorem dX11_goesOn_381 : decode cX11_goesOn 381 = .ok (.iconst 0, 1) := by decide +kernel
theorem dX11_goesOn_382 : decode cX11_goesOn 382 = .ok (.putfield 161, 3) := by decide +kernel
theorem dX11_goesOn_385 : decode cX11_goesOn 385 = .ok (.iconst 1, 1) := by decide +kernel
theorem dX11_goesOn_386 : decode cX11_goesOn 386 = .ok (.ireturn, 1) := by decide +kernel
theorem dX11_goesOn_387 : decode cX11_goesOn 387 = .ok (.iload_n 3, 1) := by decide +kernel
theorem dX11_goesOn_388 : decode cX11_goesOn 388 = .ok (.ifCond .eq 21, 3) := by decide +kernel
theorem dX11_goesOn_391 : decode cX11_goesOn 391 = .ok (.aload_n 0, 1) := by decide +kernel
theorem dX11_goesOn_392 : decode cX11_goesOn 392 = .ok (.getfield 136, 3) := by decide +kernel
theorem dX11_goesOn_395 : decode cX11_goesOn 395 = .ok (.iload_n 1, 1) := by decide +kernel
theorem dX11_goesOn_396 : decode cX11_goesOn 396 = .ok (.iaload, 1) := by decide +kernel
theorem dX11_goesOn_397 : decode cX11_goesOn 397 = .ok (.ifCond .ne 12, 3) := by decide +kernel
theorem dX11_goesOn_400 : decode cX11_goesOn 400 = .ok (.aload_n 0, 1) := by decide +kernel
theorem dX11_goesOn_401 : decode cX11_goesOn 401 = .ok (.iconst 1, 1) := by decide +kernel
theorem dX11_goesOn_402 : decode cX11_goesOn 402 = .ok (.aload_n 0, 1) := by decide +kernel
theorem dX11_goesOn_403 : decode cX11_goesOn 403 = .ok (.getfield 23, 3) := by decide +kernel
theorem dX11_goesOn_406 : decode cX11_goesOn 406 = .ok (.invokevirtual 252, 3) := by decide +kernel
theorem dX11_goesOn_409 : decode cX11_goesOn 409 = .ok (.iload_n 2, 1) := by decide +kernel
theorem dX11_goesOn_410 : decode cX11_goesOn 410 = .ok (.iconst 2, 1) := by decide +kernel
theorem dX11_goesOn_411 : decode cX11_goesOn 411 = .ok (.if_icmp .ge 17, 3) := by decide +kernel
theorem dX11_goesOn_414 : decode cX11_goesOn 414 = .ok (.aload_n 0, 1) := by decide +kernel
theorem dX11_goesOn_415 : decode cX11_goesOn 415 = .ok (.getfield 36, 3) := by decide +kernel
theorem dX11_goesOn_418 : decode cX11_goesOn 418 = .ok (.ifCond .ne 8, 3) := by decide +kernel
theorem dX11_goesOn_421 : decode cX11_goesOn 421 = .ok (.aload_n 0, 1) := by decide +kernel
theorem dX11_goesOn_422 : decode cX11_goesOn 422 = .ok (.iconst 1, 1) := by decide +kernel
theorem dX11_goesOn_423 : decode cX11_goesOn 423 = .ok (.invokevirtual 350, 3) := by decide +kernel
theorem dX11_goesOn_426 : decode cX11_goesOn 426 = .ok (.iconst 0, 1) := by decide +kernel
theorem dX11_goesOn_427 : decode cX11_goesOn 427 = .ok (.ireturn, 1) := by decide +kernel
theorem dX11_goesOn_428 : decode cX11_goesOn 428 = .ok (.iload_n 2, 1) := by decide +kernel
theorem dX11_goesOn_429 : decode cX11_goesOn 429 = .ok (.iconst 3, 1) := by decide +kernel
theorem dX11_goesOn_430 : decode cX11_goesOn 430 = .ok (.if_icmp .ne 53, 3) := by decide +kernel
theorem dX11_goesOn_433 : decode cX11_goesOn 433 = .ok (.aload_n 0, 1) := by decide +kernel
theorem dX11_goesOn_434 : decode cX11_goesOn 434 = .ok (.bipush 44, 2) := by decide +kernel
theorem dX11_goesOn_436 : decode cX11_goesOn 436 = .ok (.invokevirtual 256, 3) := by decide +kernel
theorem dX11_goesOn_439 : decode cX11_goesOn 439 = .ok (.ifCond .ne 12, 3) := by decide +kernel
theorem dX11_goesOn_442 : decode cX11_goesOn 442 = .ok (.aload_n 0, 1) := by decide +kernel
theorem dX11_goesOn_443 : decode cX11_goesOn 443 = .ok (.iconst 1, 1) := by decide +kernel
theorem dX11_goesOn_444 : decode cX11_goesOn 444 = .ok (.aload_n 0, 1) := by decide +kernel
theorem dX11_goesOn_445 : decode cX11_goesOn 445 = .ok (.getfield 23, 3) := by decide +kernel
theorem dX11_goesOn_448 : decode cX11_goesOn 448 = .ok (.invokevirtual 252, 3) := by decide +kernel
theorem dX11_goesOn_451 : decode cX11_goesOn 451 = .ok (.aload_n 0, 1) := by decide +kernel
theorem dX11_goesOn_452 : decode cX11_goesOn 452 = .ok (.getfield 36, 3) := by decide +kernel
theorem dX11_goesOn_455 : decode cX11_goesOn 455 = .ok (.ifCond .le 5, 3) := by decide +kernel
theorem dX11_goesOn_458 : decode cX11_goesOn 458 = .ok (.iconst 0, 1) := by decide +kernel
theorem dX11_goesOn_459 : decode cX11_goesOn 459 = .ok (.ireturn, 1) := by decide +kernel
theorem dX11_goesOn_460 : decode cX11_goesOn 460 = .ok (.aload_n 0, 1) := by decide +kernel
theorem dX11_goesOn_461 : decode cX11_goesOn 461 = .ok (.iconst 1, 1) := by decide +kernel
theorem dX11_goesOn_462 : decode cX11_goesOn 462 = .ok (.invokevirtual 350, 3) := by decide +kernel
theorem dX11_goesOn_465 : decode cX11_goesOn 465 = .ok (.aload_n 0, 1) := by decide +kernel
theorem dX11_goesOn_466 : decode cX11_goesOn 466 = .ok (.getfield 133, 3) := by decide +kernel
theorem dX11_goesOn_469 : decode cX11_goesOn 469 = .ok (.iload_n 1, 1) := by decide +kernel
theorem dX11_goesOn_470 : decode cX11_goesOn 470 = .ok (.iconst 4, 1) := by decide +kernel
theorem dX11_goesOn_471 : decode cX11_goesOn 471 = .ok (.iastore, 1) := by decide +kernel
theorem dX11_goesOn_472 : decode cX11_goesOn 472 = .ok (.aload_n 0, 1) := by decide +kernel
theorem dX11_goesOn_473 : decode cX11_goesOn 473 = .ok (.invokevirtual 259, 3) := by decide +kernel
theorem dX11_goesOn_476 : decode cX11_goesOn 476 = .ok (.aload_n 0, 1) := by decide +kernel
theorem dX11_goesOn_477 : decode cX11_goesOn 477 = .ok (.iconst 0, 1) := by decide +kernel
theorem dX11_goesOn_478 : decode cX11_goesOn 478 = .ok (.putfield 161, 3) := by decide +kernel
theorem dX11_goesOn_481 : decode cX11_goesOn 481 = .ok (.iconst 1, 1) := by decide +kernel
theorem dX11_goesOn_482 : decode cX11_goesOn 482 = .ok (.ireturn, 1) := by decide +kernel
theorem dX11_goesOn_483 : decode cX11_goesOn 483 = .ok (.aload_n 0, 1) := by decide +kernel
theorem dX11_goesOn_484 : decode cX11_goesOn 484 = .ok (.iload_n 2, 1) := by decide +kernel
theorem dX11_goesOn_485 : decode cX11_goesOn 485 = .ok (.iconst 5, 1) := by decide +kernel
theorem dX11_goesOn_486 : decode cX11_goesOn 486 = .ok (.if_icmp .ne 8, 3) := by decide +kernel
theorem dX11_goesOn_489 : decode cX11_goesOn 489 = .ok (.bipush 93, 2) := by decide +kernel
theorem dX11_goesOn_491 : decode cX11_goesOn 491 = .ok (.goto 5, 3) := by decide +kernel
theorem dX11_goesOn_494 : decode cX11_goesOn 494 = .ok (.bipush 41, 2) := by decide +kernel
theorem dX11_goesOn_496 : decode cX11_goesOn 496 = .ok (.invokevirtual 256, 3) := by decide +kernel
theorem dX11_goesOn_499 : decode cX11_goesOn 499 = .ok (.ifCond .ne 12, 3) := by decide +kernel
theorem dX11_goesOn_502 : decode cX11_goesOn 502 = .ok (.aload_n 0, 1) := by decide +kernel
theorem dX11_goesOn_503 : decode cX11_goesOn 503 = .ok (.iconst 1, 1) := by decide +kernel
theorem dX11_goesOn_504 : decode cX11_goesOn 504 = .ok (.aload_n 0, 1) := by decide +kernel
theorem dX11_goesOn_505 : decode cX11_goesOn 505 = .ok (.getfield 23, 3) := by decide +kernel
theorem dX11_goesOn_508 : decode cX11_goesOn 508 = .ok (.invokevirtual 252, 3) := by decide +kernel
theorem dX11_goesOn_511 : decode cX11_goesOn 511 = .ok (.aload_n 0, 1) := by decide +kernel
theorem dX11_goesOn_512 : decode cX11_goesOn 512 = .ok (.getfield 36, 3) := by decide +kernel
theorem dX11_goesOn_515 : decode cX11_goesOn 515 = .ok (.ifCond .le 5, 3) := by decide +kernel
theorem dX11_goesOn_518 : decode cX11_goesOn 518 = .ok (.iconst 0, 1) := by decide +kernel
theorem dX11_goesOn_519 : decode cX11_goesOn 519 = .ok (.ireturn, 1) := by decide +kernel
theorem dX11_goesOn_520 : decode cX11_goesOn 520 = .ok (.aload_n 0, 1) := by decide +kernel
theorem dX11_goesOn_521 : decode cX11_goesOn 521 = .ok (.iconst 1, 1) := by decide +kernel
theorem dX11_goesOn_522 : decode cX11_goesOn 522 = .ok (.invokevirtual 350, 3) := by decide +kernel
theorem dX11_goesOn_525 : decode cX11_goesOn 525 = .ok (.aload_n 0, 1) := by decide +kernel
theorem dX11_goesOn_526 : decode cX11_goesOn 526 = .ok (.dup, 1) := by decide +kernel
theorem dX11_goesOn_527 : decode cX11_goesOn 527 = .ok (.getfield 149, 3) := by decide +kernel
theorem dX11_goesOn_530 : decode cX11_goesOn 530 = .ok (.iconst 1, 1) := by decide +kernel
theorem dX11_goesOn_531 : decode cX11_goesOn 531 = .ok (.isub, 1) := by decide +kernel
theorem dX11_goesOn_532 : decode cX11_goesOn 532 = .ok (.putfield 149, 3) := by decide +kernel
theorem dX11_goesOn_535 : decode cX11_goesOn 535 = .ok (.aload_n 0, 1) := by decide +kernel
theorem dX11_goesOn_536 : decode cX11_goesOn 536 = .ok (.dup, 1) := by decide +kernel
theorem dX11_goesOn_537 : decode cX11_goesOn 537 = .ok (.getfield 152, 3) := by decide +kernel
theorem dX11_goesOn_540 : decode cX11_goesOn 540 = .ok (.iconst 1, 1) := by decide +kernel
theorem dX11_goesOn_541 : decode cX11_goesOn 541 = .ok (.isub, 1) := by decide +kernel
theorem dX11_goesOn_542 : decode cX11_goesOn 542 = .ok (.putfield 152, 3) := by decide +kernel
theorem dX11_goesOn_545 : decode cX11_goesOn 545 = .ok (.iload_n 2, 1) := by decide +kernel
theorem dX11_goesOn_546 : decode cX11_goesOn 546 = .ok (.iconst 4, 1) := by decide +kernel
theorem dX11_goesOn_547 : decode cX11_goesOn 547 = .ok (.if_icmp .ne 14, 3) := by decide +kernel
theorem dX11_goesOn_550 : decode cX11_goesOn 550 = .ok (.aload_n 0, 1) := by decide +kernel
theorem dX11_goesOn_551 : decode cX11_goesOn 551 = .ok (.aload_n 0, 1) := by decide +kernel
theorem dX11_goesOn_552 : decode cX11_goesOn 552 = .ok (.getfield 143, 3) := by decide +kernel
theorem dX11_goesOn_555 : decode cX11_goesOn 555 = .ok (.iload_n 1, 1) := by decide +kernel
theorem dX11_goesOn_556 : decode cX11_goesOn 556 = .ok (.iaload, 1) := by decide +kernel
theorem dX11_goesOn_557 : decode cX11_goesOn 557 = .ok (.iconst 0, 1) := by decide +kernel
theorem dX11_goesOn_558 : decode cX11_goesOn 558 = .ok (.invokevirtual 331, 3) := by decide +kernel
theorem dX11_goesOn_561 : decode cX11_goesOn 561 = .ok (.iload_n 2, 1) := by decide +kernel
theorem dX11_goesOn_562 : decode cX11_goesOn 562 = .ok (.iconst 5, 1) := by decide +kernel
theorem dX11_goesOn_563 : decode cX11_goesOn 563 = .ok (.if_icmp .ne 15, 3) := by decide +kernel
theorem dX11_goesOn_566 : decode cX11_goesOn 566 = .ok (.aload_n 0, 1) := by decide +kernel
theorem dX11_goesOn_567 : decode cX11_goesOn 567 = .ok (.getfield 136, 3) := by decide +kernel
theorem dX11_goesOn_570 : decode cX11_goesOn 570 = .ok (.aload_n 0, 1) := by decide +kernel
theorem dX11_goesOn_571 : decode cX11_goesOn 571 = .ok (.getfield 149, 3) := by decide +kernel
theorem dX11_goesOn_574 : decode cX11_goesOn 574 = .ok (.iconst 1, 1) := by decide +kernel
theorem dX11_goesOn_575 : decode cX11_goesOn 575 = .ok (.isub, 1) := by decide +kernel
theorem dX11_goesOn_576 : decode cX11_goesOn 576 = .ok (.iconst 2, 1) := by decide +kernel
theorem dX11_goesOn_577 : decode cX11_goesOn 577 = .ok (.iastore, 1) := by decide +kernel
theorem dX11_goesOn_578 : decode cX11_goesOn 578 = .ok (.aload_n 0, 1) := by decide +kernel
theorem dX11_goesOn_579 : decode cX11_goesOn 579 = .ok (.invokevirtual 259, 3) := by decide +kernel
theorem dX11_goesOn_582 : decode cX11_goesOn 582 = .ok (.iconst 1, 1) := by decide +kernel
theorem dX11_goesOn_583 : decode cX11_goesOn 583 = .ok (.ireturn, 1) := by decide +kernel
theorem dX11_reads_0 : decode cX11_reads 0 = .ok (.aload_n 0, 1) := by decide +kernel
theorem dX11_reads_1 : decode cX11_reads 1 = .ok (.getfield 36, 3) := by decide +kernel
theorem dX11_reads_4 : decode cX11_reads 4 = .ok (.ifCond .le 4, 3) := by decide +kernel
theorem dX11_reads_7 : decode cX11_reads 7 = .ok (.return_, 1) := by decide +kernel
theorem dX11_reads_8 : decode cX11_reads 8 = .ok (.aload_n 0, 1) := by decide +kernel
theorem dX11_reads_9 : decode cX11_reads 9 = .ok (.iconst 0, 1) := by decide +kernel
theorem dX11_reads_10 : decode cX11_reads 10 = .ok (.putfield 149, 3) := by decide +kernel
theorem dX11_reads_13 : decode cX11_reads 13 = .ok (.aload_n 0, 1) := by decide +kernel
theorem dX11_reads_14 : decode cX11_reads 14 = .ok (.iconst 0, 1) := by decide +kernel
theorem dX11_reads_15 : decode cX11_reads 15 = .ok (.putfield 152, 3) := by decide +kernel
theorem dX11_reads_18 : decode cX11_reads 18 = .ok (.aload_n 0, 1) := by decide +kernel
theorem dX11_reads_19 : decode cX11_reads 19 = .ok (.iconst 0, 1) := by decide +kernel
theorem dX11_reads_20 : decode cX11_reads 20 = .ok (.putfield 158, 3) := by decide +kernel
theorem dX11_reads_23 : decode cX11_reads 23 = .ok (.aload_n 0, 1) := by decide +kernel
theorem dX11_reads_24 : decode cX11_reads 24 = .ok (.iconst 0, 1) := by decide +kernel
theorem dX11_reads_25 : decode cX11_reads 25 = .ok (.putfield 161, 3) := by decide +kernel
theorem dX11_reads_28 : decode cX11_reads 28 = .ok (.aload_n 0, 1) := by decide +kernel
theorem dX11_reads_29 : decode cX11_reads 29 = .ok (.iload_n 1, 1) := by decide +kernel
theorem dX11_reads_30 : decode cX11_reads 30 = .ok (.ifCond .eq 7, 3) := by decide +kernel
theorem dX11_reads_33 : decode cX11_reads 33 = .ok (.iconst 1, 1) := by decide +kernel
theorem dX11_reads_34 : decode cX11_reads 34 = .ok (.goto 4, 3) := by decide +kernel
theorem dX11_reads_37 : decode cX11_reads 37 = .ok (.iconst 0, 1) := by decide +kernel
theorem dX11_reads_38 : decode cX11_reads 38 = .ok (.invokevirtual 334, 3) := by decide +kernel
theorem dX11_reads_41 : decode cX11_reads 41 = .ok (.iconst 1, 1) := by decide +kernel
theorem dX11_reads_42 : decode cX11_reads 42 = .ok (.istore_n 2, 1) := by decide +kernel
theorem dX11_reads_43 : decode cX11_reads 43 = .ok (.iload_n 2, 1) := by decide +kernel
theorem dX11_reads_44 : decode cX11_reads 44 = .ok (.ifCond .eq 46, 3) := by decide +kernel
theorem dX11_reads_47 : decode cX11_reads 47 = .ok (.aload_n 0, 1) := by decide +kernel
theorem dX11_reads_48 : decode cX11_reads 48 = .ok (.getfield 161, 3) := by decide +kernel
theorem dX11_reads_51 : decode cX11_reads 51 = .ok (.ifCond .ne 14, 3) := by decide +kernel
theorem dX11_reads_54 : decode cX11_reads 54 = .ok (.aload_n 0, 1) := by decide +kernel
theorem dX11_reads_55 : decode cX11_reads 55 = .ok (.aload_n 0, 1) := by decide +kernel
theorem dX11_reads_56 : decode cX11_reads 56 = .ok (.invokevirtual 353, 3) := by decide +kernel
theorem dX11_reads_59 : decode cX11_reads 59 = .ok (.putfield 161, 3) := by decide +kernel
theorem dX11_reads_62 : decode cX11_reads 62 = .ok (.goto 8, 3) := by decide +kernel
theorem dX11_reads_65 : decode cX11_reads 65 = .ok (.aload_n 0, 1) := by decide +kernel
theorem dX11_reads_66 : decode cX11_reads 66 = .ok (.invokevirtual 356, 3) := by decide +kernel
theorem dX11_reads_69 : decode cX11_reads 69 = .ok (.istore_n 2, 1) := by decide +kernel
theorem dX11_reads_70 : decode cX11_reads 70 = .ok (.iload_n 2, 1) := by decide +kernel
theorem dX11_reads_71 : decode cX11_reads 71 = .ok (.ifCond .eq 14, 3) := by decide +kernel
theorem dX11_reads_74 : decode cX11_reads 74 = .ok (.aload_n 0, 1) := by decide +kernel
theorem dX11_reads_75 : decode cX11_reads 75 = .ok (.getfield 36, 3) := by decide +kernel
theorem dX11_reads_78 : decode cX11_reads 78 = .ok (.ifCond .ne 7, 3) := by decide +kernel
theorem dX11_reads_81 : decode cX11_reads 81 = .ok (.iconst 1, 1) := by decide +kernel
theorem dX11_reads_82 : decode cX11_reads 82 = .ok (.goto 4, 3) := by decide +kernel
theorem dX11_reads_85 : decode cX11_reads 85 = .ok (.iconst 0, 1) := by decide +kernel
theorem dX11_reads_86 : decode cX11_reads 86 = .ok (.istore_n 2, 1) := by decide +kernel
theorem dX11_reads_87 : decode cX11_reads 87 = .ok (.goto (-44), 3) := by decide +kernel
theorem dX11_reads_90 : decode cX11_reads 90 = .ok (.return_, 1) := by decide +kernel
theorem dX11_counts_0 : decode cX11_counts 0 = .ok (.aload_n 0, 1) := by decide +kernel
theorem dX11_counts_1 : decode cX11_counts 1 = .ok (.getfield 36, 3) := by decide +kernel
theorem dX11_counts_4 : decode cX11_counts 4 = .ok (.ifCond .ne 16, 3) := by decide +kernel
theorem dX11_counts_7 : decode cX11_counts 7 = .ok (.iload_n 1, 1) := by decide +kernel
theorem dX11_counts_8 : decode cX11_counts 8 = .ok (.ifCond .eq 12, 3) := by decide +kernel
theorem dX11_counts_11 : decode cX11_counts 11 = .ok (.aload_n 0, 1) := by decide +kernel
theorem dX11_counts_12 : decode cX11_counts 12 = .ok (.iconst 5, 1) := by decide +kernel
theorem dX11_counts_13 : decode cX11_counts 13 = .ok (.aload_n 0, 1) := by decide +kernel
theorem dX11_counts_14 : decode cX11_counts 14 = .ok (.getfield 23, 3) := by decide +kernel
theorem dX11_counts_17 : decode cX11_counts 17 = .ok (.invokevirtual 252, 3) := by decide +kernel
theorem dX11_counts_20 : decode cX11_counts 20 = .ok (.aload_n 0, 1) := by decide +kernel
theorem dX11_counts_21 : decode cX11_counts 21 = .ok (.getfield 36, 3) := by decide +kernel
theorem dX11_counts_24 : decode cX11_counts 24 = .ok (.ifCond .ne 7, 3) := by decide +kernel
theorem dX11_counts_27 : decode cX11_counts 27 = .ok (.aload_n 0, 1) := by decide +kernel
theorem dX11_counts_28 : decode cX11_counts 28 = .ok (.invokevirtual 259, 3) := by decide +kernel
theorem dX11_counts_31 : decode cX11_counts 31 = .ok (.aload_n 0, 1) := by decide +kernel
theorem dX11_counts_32 : decode cX11_counts 32 = .ok (.getfield 36, 3) := by decide +kernel
theorem dX11_counts_35 : decode cX11_counts 35 = .ok (.ifCond .ne 7, 3) := by decide +kernel
theorem dX11_counts_38 : decode cX11_counts 38 = .ok (.iconst 1, 1) := by decide +kernel
theorem dX11_counts_39 : decode cX11_counts 39 = .ok (.goto 4, 3) := by decide +kernel
theorem dX11_counts_42 : decode cX11_counts 42 = .ok (.iconst 0, 1) := by decide +kernel
theorem dX11_counts_43 : decode cX11_counts 43 = .ok (.ireturn, 1) := by decide +kernel
theorem dX11_must__0 : decode cX11_must_ 0 = .ok (.aload_n 0, 1) := by decide +kernel
theorem dX11_must__1 : decode cX11_must_ 1 = .ok (.getfield 36, 3) := by decide +kernel
theorem dX11_must__4 : decode cX11_must_ 4 = .ok (.ifCond .le 4, 3) := by decide +kernel
theorem dX11_must__7 : decode cX11_must_ 7 = .ok (.return_, 1) := by decide +kernel
theorem dX11_must__8 : decode cX11_must_ 8 = .ok (.aload_n 0, 1) := by decide +kernel
theorem dX11_must__9 : decode cX11_must_ 9 = .ok (.lload_n 1, 1) := by decide +kernel
theorem dX11_must__10 : decode cX11_must_ 10 = .ok (.invokevirtual 340, 3) := by decide +kernel
theorem dX11_must__13 : decode cX11_must_ 13 = .ok (.ifCond .ne 12, 3) := by decide +kernel
theorem dX11_must__16 : decode cX11_must_ 16 = .ok (.aload_n 0, 1) := by decide +kernel
theorem dX11_must__17 : decode cX11_must_ 17 = .ok (.iconst 1, 1) := by decide +kernel
theorem dX11_must__18 : decode cX11_must_ 18 = .ok (.aload_n 0, 1) := by decide +kernel
theorem dX11_must__19 : decode cX11_must_ 19 = .ok (.getfield 23, 3) := by decide +kernel
theorem dX11_must__22 : decode cX11_must_ 22 = .ok (.invokevirtual 252, 3) := by decide +kernel
theorem dX11_must__25 : decode cX11_must_ 25 = .ok (.aload_n 0, 1) := by decide +kernel
theorem dX11_must__26 : decode cX11_must_ 26 = .ok (.getfield 36, 3) := by decide +kernel
theorem dX11_must__29 : decode cX11_must_ 29 = .ok (.ifCond .ne 7, 3) := by decide +kernel
theorem dX11_must__32 : decode cX11_must_ 32 = .ok (.aload_n 0, 1) := by decide +kernel
theorem dX11_must__33 : decode cX11_must_ 33 = .ok (.invokevirtual 259, 3) := by decide +kernel
theorem dX11_must__36 : decode cX11_must_ 36 = .ok (.return_, 1) := by decide +kernel
theorem dX11_fresh_0 : decode cX11_fresh 0 = .ok (.aload_n 0, 1) := by decide +kernel
theorem dX11_fresh_1 : decode cX11_fresh 1 = .ok (.getfield 36, 3) := by decide +kernel
theorem dX11_fresh_4 : decode cX11_fresh 4 = .ok (.ifCond .le 5, 3) := by decide +kernel
theorem dX11_fresh_7 : decode cX11_fresh 7 = .ok (.lconst 0, 1) := by decide +kernel
theorem dX11_fresh_8 : decode cX11_fresh 8 = .ok (.lreturn, 1) := by decide +kernel
theorem dX11_fresh_9 : decode cX11_fresh 9 = .ok (.aload_n 0, 1) := by decide +kernel
theorem dX11_fresh_10 : decode cX11_fresh 10 = .ok (.getfield 20, 3) := by decide +kernel
theorem dX11_fresh_13 : decode cX11_fresh 13 = .ok (.iconst 1, 1) := by decide +kernel
theorem dX11_fresh_14 : decode cX11_fresh 14 = .ok (.if_icmp .ne 14, 3) := by decide +kernel
theorem dX11_fresh_17 : decode cX11_fresh 17 = .ok (.aload_n 0, 1) := by decide +kernel
theorem dX11_fresh_18 : decode cX11_fresh 18 = .ok (.aload_n 0, 1) := by decide +kernel
theorem dX11_fresh_19 : decode cX11_fresh 19 = .ok (.getfield 32, 3) := by decide +kernel
theorem dX11_fresh_22 : decode cX11_fresh 22 = .ok (.invokevirtual 359, 3) := by decide +kernel
theorem dX11_fresh_25 : decode cX11_fresh 25 = .ok (.ifCond .eq 12, 3) := by decide +kernel
theorem dX11_fresh_28 : decode cX11_fresh 28 = .ok (.aload_n 0, 1) := by decide +kernel
theorem dX11_fresh_29 : decode cX11_fresh 29 = .ok (.iconst 1, 1) := by decide +kernel
theorem dX11_fresh_30 : decode cX11_fresh 30 = .ok (.aload_n 0, 1) := by decide +kernel
theorem dX11_fresh_31 : decode cX11_fresh 31 = .ok (.getfield 23, 3) := by decide +kernel
theorem dX11_fresh_34 : decode cX11_fresh 34 = .ok (.invokevirtual 252, 3) := by decide +kernel
theorem dX11_fresh_37 : decode cX11_fresh 37 = .ok (.iconst 0, 1) := by decide +kernel
theorem dX11_fresh_38 : decode cX11_fresh 38 = .ok (.istore_n 1, 1) := by decide +kernel
theorem dX11_fresh_39 : decode cX11_fresh 39 = .ok (.iload_n 1, 1) := by decide +kernel
theorem dX11_fresh_40 : decode cX11_fresh 40 = .ok (.iconst 2, 1) := by decide +kernel
theorem dX11_fresh_41 : decode cX11_fresh 41 = .ok (.if_icmp .gt 38, 3) := by decide +kernel
theorem dX11_fresh_44 : decode cX11_fresh 44 = .ok (.aload_n 0, 1) := by decide +kernel
theorem dX11_fresh_45 : decode cX11_fresh 45 = .ok (.getfield 36, 3) := by decide +kernel
theorem dX11_fresh_48 : decode cX11_fresh 48 = .ok (.ifCond .ne 31, 3) := by decide +kernel
theorem dX11_fresh_51 : decode cX11_fresh 51 = .ok (.aload_n 0, 1) := by decide +kernel
theorem dX11_fresh_52 : decode cX11_fresh 52 = .ok (.iload_n 1, 1) := by decide +kernel
theorem dX11_fresh_53 : decode cX11_fresh 53 = .ok (.aload_n 0, 1) := by decide +kernel
theorem dX11_fresh_54 : decode cX11_fresh 54 = .ok (.getfield 32, 3) := by decide +kernel
theorem dX11_fresh_57 : decode cX11_fresh 57 = .ok (.invokevirtual 362, 3) := by decide +kernel
theorem dX11_fresh_60 : decode cX11_fresh 60 = .ok (.iconst (-1), 1) := by decide +kernel
theorem dX11_fresh_61 : decode cX11_fresh 61 = .ok (.if_icmp .eq 12, 3) := by decide +kernel
theorem dX11_fresh_64 : decode cX11_fresh 64 = .ok (.aload_n 0, 1) := by decide +kernel
theorem dX11_fresh_65 : decode cX11_fresh 65 = .ok (.iconst 2, 1) := by decide +kernel
theorem dX11_fresh_66 : decode cX11_fresh 66 = .ok (.aload_n 0, 1) := by decide +kernel
theorem dX11_fresh_67 : decode cX11_fresh 67 = .ok (.getfield 23, 3) := by decide +kernel
theorem dX11_fresh_70 : decode cX11_fresh 70 = .ok (.invokevirtual 252, 3) := by decide +kernel
theorem dX11_fresh_73 : decode cX11_fresh 73 = .ok (.iinc 1 1, 3) := by decide +kernel
theorem dX11_fresh_76 : decode cX11_fresh 76 = .ok (.goto (-37), 3) := by decide +kernel
theorem dX11_fresh_79 : decode cX11_fresh 79 = .ok (.aload_n 0, 1) := by decide +kernel
theorem dX11_fresh_80 : decode cX11_fresh 80 = .ok (.getfield 32, 3) := by decide +kernel
theorem dX11_fresh_83 : decode cX11_fresh 83 = .ok (.lstore_n 1, 1) := by decide +kernel
theorem dX11_fresh_84 : decode cX11_fresh 84 = .ok (.aload_n 0, 1) := by decide +kernel
theorem dX11_fresh_85 : decode cX11_fresh 85 = .ok (.getfield 36, 3) := by decide +kernel
theorem dX11_fresh_88 : decode cX11_fresh 88 = .ok (.ifCond .ne 7, 3) := by decide +kernel
theorem dX11_fresh_91 : decode cX11_fresh 91 = .ok (.aload_n 0, 1) := by decide +kernel
theorem dX11_fresh_92 : decode cX11_fresh 92 = .ok (.invokevirtual 259, 3) := by decide +kernel
theorem dX11_fresh_95 : decode cX11_fresh 95 = .ok (.lload_n 1, 1) := by decide +kernel
theorem dX11_fresh_96 : decode cX11_fresh 96 = .ok (.lreturn, 1) := by decide +kernel
theorem dX11_asked_0 : decode cX11_asked 0 = .ok (.aload_n 0, 1) := by decide +kernel
theorem dX11_asked_1 : decode cX11_asked 1 = .ok (.getfield 36, 3) := by decide +kernel
theorem dX11_asked_4 : decode cX11_asked 4 = .ok (.ifCond .le 5, 3) := by decide +kernel
theorem dX11_asked_7 : decode cX11_asked 7 = .ok (.iconst 0, 1) := by decide +kernel
theorem dX11_asked_8 : decode cX11_asked 8 = .ok (.ireturn, 1) := by decide +kernel
theorem dX11_asked_9 : decode cX11_asked 9 = .ok (.aload_n 0, 1) := by decide +kernel
theorem dX11_asked_10 : decode cX11_asked 10 = .ok (.getfield 20, 3) := by decide +kernel
theorem dX11_asked_13 : decode cX11_asked 13 = .ok (.iconst 1, 1) := by decide +kernel
theorem dX11_asked_14 : decode cX11_asked 14 = .ok (.if_icmp .ne 14, 3) := by decide +kernel
theorem dX11_asked_17 : decode cX11_asked 17 = .ok (.aload_n 0, 1) := by decide +kernel
theorem dX11_asked_18 : decode cX11_asked 18 = .ok (.aload_n 0, 1) := by decide +kernel
theorem dX11_asked_19 : decode cX11_asked 19 = .ok (.getfield 32, 3) := by decide +kernel
theorem dX11_asked_22 : decode cX11_asked 22 = .ok (.invokevirtual 359, 3) := by decide +kernel
theorem dX11_asked_25 : decode cX11_asked 25 = .ok (.ifCond .eq 12, 3) := by decide +kernel
theorem dX11_asked_28 : decode cX11_asked 28 = .ok (.aload_n 0, 1) := by decide +kernel
theorem dX11_asked_29 : decode cX11_asked 29 = .ok (.iconst 1, 1) := by decide +kernel
theorem dX11_asked_30 : decode cX11_asked 30 = .ok (.aload_n 0, 1) := by decide +kernel
theorem dX11_asked_31 : decode cX11_asked 31 = .ok (.getfield 23, 3) := by decide +kernel
theorem dX11_asked_34 : decode cX11_asked 34 = .ok (.invokevirtual 252, 3) := by decide +kernel
theorem dX11_asked_37 : decode cX11_asked 37 = .ok (.aload_n 0, 1) := by decide +kernel
theorem dX11_asked_38 : decode cX11_asked 38 = .ok (.getfield 36, 3) := by decide +kernel
theorem dX11_asked_41 : decode cX11_asked 41 = .ok (.ifCond .le 7, 3) := by decide +kernel
theorem dX11_asked_44 : decode cX11_asked 44 = .ok (.iconst 0, 1) := by decide +kernel
theorem dX11_asked_45 : decode cX11_asked 45 = .ok (.goto 12, 3) := by decide +kernel
theorem dX11_asked_48 : decode cX11_asked 48 = .ok (.aload_n 0, 1) := by decide +kernel
theorem dX11_asked_49 : decode cX11_asked 49 = .ok (.iload_n 1, 1) := by decide +kernel
theorem dX11_asked_50 : decode cX11_asked 50 = .ok (.aload_n 0, 1) := by decide +kernel
theorem dX11_asked_51 : decode cX11_asked 51 = .ok (.getfield 32, 3) := by decide +kernel
theorem dX11_asked_54 : decode cX11_asked 54 = .ok (.invokevirtual 362, 3) := by decide +kernel
theorem dX11_asked_57 : decode cX11_asked 57 = .ok (.istore_n 2, 1) := by decide +kernel
theorem dX11_asked_58 : decode cX11_asked 58 = .ok (.aload_n 0, 1) := by decide +kernel
theorem dX11_asked_59 : decode cX11_asked 59 = .ok (.getfield 36, 3) := by decide +kernel
theorem dX11_asked_62 : decode cX11_asked 62 = .ok (.ifCond .ne 17, 3) := by decide +kernel
theorem dX11_asked_65 : decode cX11_asked 65 = .ok (.iload_n 2, 1) := by decide +kernel
theorem dX11_asked_66 : decode cX11_asked 66 = .ok (.iconst (-1), 1) := by decide +kernel
theorem dX11_asked_67 : decode cX11_asked 67 = .ok (.if_icmp .ne 12, 3) := by decide +kernel
theorem dX11_asked_70 : decode cX11_asked 70 = .ok (.aload_n 0, 1) := by decide +kernel
theorem dX11_asked_71 : decode cX11_asked 71 = .ok (.iconst 3, 1) := by decide +kernel
theorem dX11_asked_72 : decode cX11_asked 72 = .ok (.aload_n 0, 1) := by decide +kernel
theorem dX11_asked_73 : decode cX11_asked 73 = .ok (.getfield 23, 3) := by decide +kernel
theorem dX11_asked_76 : decode cX11_asked 76 = .ok (.invokevirtual 252, 3) := by decide +kernel
theorem dX11_asked_79 : decode cX11_asked 79 = .ok (.aload_n 0, 1) := by decide +kernel
theorem dX11_asked_80 : decode cX11_asked 80 = .ok (.getfield 36, 3) := by decide +kernel
theorem dX11_asked_83 : decode cX11_asked 83 = .ok (.ifCond .ne 7, 3) := by decide +kernel
theorem dX11_asked_86 : decode cX11_asked 86 = .ok (.aload_n 0, 1) := by decide +kernel
theorem dX11_asked_87 : decode cX11_asked 87 = .ok (.invokevirtual 259, 3) := by decide +kernel
theorem dX11_asked_90 : decode cX11_asked 90 = .ok (.aload_n 0, 1) := by decide +kernel
theorem dX11_asked_91 : decode cX11_asked 91 = .ok (.getfield 36, 3) := by decide +kernel
theorem dX11_asked_94 : decode cX11_asked 94 = .ok (.ifCond .le 7, 3) := by decide +kernel
theorem dX11_asked_97 : decode cX11_asked 97 = .ok (.iconst 0, 1) := by decide +kernel
theorem dX11_asked_98 : decode cX11_asked 98 = .ok (.goto 4, 3) := by decide +kernel
theorem dX11_asked_101 : decode cX11_asked 101 = .ok (.iload_n 2, 1) := by decide +kernel
theorem dX11_asked_102 : decode cX11_asked 102 = .ok (.ireturn, 1) := by decide +kernel
theorem dX11_beginning_0 : decode cX11_beginning 0 = .ok (.aload_n 0, 1) := by decide +kernel
theorem dX11_beginning_1 : decode cX11_beginning 1 = .ok (.ldc2_w 262, 3) := by decide +kernel
theorem dX11_beginning_4 : decode cX11_beginning 4 = .ok (.invokevirtual 340, 3) := by decide +kernel
theorem dX11_beginning_7 : decode cX11_beginning 7 = .ok (.ifCond .ne 12, 3) := by decide +kernel
theorem dX11_beginning_10 : decode cX11_beginning 10 = .ok (.aload_n 0, 1) := by decide +kernel
theorem dX11_beginning_11 : decode cX11_beginning 11 = .ok (.iconst 1, 1) := by decide +kernel
theorem dX11_beginning_12 : decode cX11_beginning 12 = .ok (.aload_n 0, 1) := by decide +kernel
theorem dX11_beginning_13 : decode cX11_beginning 13 = .ok (.getfield 23, 3) := by decide +kernel
theorem dX11_beginning_16 : decode cX11_beginning 16 = .ok (.invokevirtual 252, 3) := by decide +kernel
theorem dX11_beginning_19 : decode cX11_beginning 19 = .ok (.aload_n 0, 1) := by decide +kernel
theorem dX11_beginning_20 : decode cX11_beginning 20 = .ok (.getfield 36, 3) := by decide +kernel
theorem dX11_beginning_23 : decode cX11_beginning 23 = .ok (.ifCond .le 4, 3) := by decide +kernel
theorem dX11_beginning_26 : decode cX11_beginning 26 = .ok (.return_, 1) := by decide +kernel
theorem dX11_beginning_27 : decode cX11_beginning 27 = .ok (.aload_n 0, 1) := by decide +kernel
theorem dX11_beginning_28 : decode cX11_beginning 28 = .ok (.invokevirtual 259, 3) := by decide +kernel
theorem dX11_beginning_31 : decode cX11_beginning 31 = .ok (.aload_n 0, 1) := by decide +kernel
theorem dX11_beginning_32 : decode cX11_beginning 32 = .ok (.getfield 51, 3) := by decide +kernel
theorem dX11_beginning_35 : decode cX11_beginning 35 = .ok (.aload_n 0, 1) := by decide +kernel
theorem dX11_beginning_36 : decode cX11_beginning 36 = .ok (.getfield 130, 3) := by decide +kernel
theorem dX11_beginning_39 : decode cX11_beginning 39 = .ok (.aload_n 0, 1) := by decide +kernel
theorem dX11_beginning_40 : decode cX11_beginning 40 = .ok (.iconst 2, 1) := by decide +kernel
theorem dX11_beginning_41 : decode cX11_beginning 41 = .ok (.bipush 6, 2) := by decide +kernel
theorem dX11_beginning_43 : decode cX11_beginning 43 = .ok (.invokevirtual 366, 3) := by decide +kernel
theorem dX11_beginning_46 : decode cX11_beginning 46 = .ok (.iastore, 1) := by decide +kernel
theorem dX11_beginning_47 : decode cX11_beginning 47 = .ok (.aload_n 0, 1) := by decide +kernel
theorem dX11_beginning_48 : decode cX11_beginning 48 = .ok (.ldc2_w 264, 3) := by decide +kernel
theorem dX11_beginning_51 : decode cX11_beginning 51 = .ok (.invokevirtual 370, 3) := by decide +kernel
theorem dX11_beginning_54 : decode cX11_beginning 54 = .ok (.aload_n 0, 1) := by decide +kernel
theorem dX11_beginning_55 : decode cX11_beginning 55 = .ok (.getfield 54, 3) := by decide +kernel
theorem dX11_beginning_58 : decode cX11_beginning 58 = .ok (.aload_n 0, 1) := by decide +kernel
theorem dX11_beginning_59 : decode cX11_beginning 59 = .ok (.getfield 130, 3) := by decide +kernel
theorem dX11_beginning_62 : decode cX11_beginning 62 = .ok (.aload_n 0, 1) := by decide +kernel
theorem dX11_beginning_63 : decode cX11_beginning 63 = .ok (.iconst 2, 1) := by decide +kernel
theorem dX11_beginning_64 : decode cX11_beginning 64 = .ok (.iconst 5, 1) := by decide +kernel
theorem dX11_beginning_65 : decode cX11_beginning 65 = .ok (.invokevirtual 366, 3) := by decide +kernel
theorem dX11_beginning_68 : decode cX11_beginning 68 = .ok (.iastore, 1) := by decide +kernel
theorem dX11_beginning_69 : decode cX11_beginning 69 = .ok (.aload_n 0, 1) := by decide +kernel
theorem dX11_beginning_70 : decode cX11_beginning 70 = .ok (.getfield 36, 3) := by decide +kernel
theorem dX11_beginning_73 : decode cX11_beginning 73 = .ok (.ifCond .ne 9, 3) := by decide +kernel
theorem dX11_beginning_76 : decode cX11_beginning 76 = .ok (.aload_n 0, 1) := by decide +kernel
theorem dX11_beginning_77 : decode cX11_beginning 77 = .ok (.bipush 59, 2) := by decide +kernel
theorem dX11_beginning_79 : decode cX11_beginning 79 = .ok (.invokevirtual 374, 3) := by decide +kernel
theorem dX11_beginning_82 : decode cX11_beginning 82 = .ok (.return_, 1) := by decide +kernel
theorem dX11_tune_0 : decode cX11_tune 0 = .ok (.aload_n 0, 1) := by decide +kernel
theorem dX11_tune_1 : decode cX11_tune 1 = .ok (.aload_n 0, 1) := by decide +kernel
theorem dX11_tune_2 : decode cX11_tune 2 = .ok (.getfield 57, 3) := by decide +kernel
theorem dX11_tune_5 : decode cX11_tune 5 = .ok (.aload_n 0, 1) := by decide +kernel
theorem dX11_tune_6 : decode cX11_tune 6 = .ok (.getfield 130, 3) := by decide +kernel
theorem dX11_tune_9 : decode cX11_tune 9 = .ok (.iaload, 1) := by decide +kernel
theorem dX11_tune_10 : decode cX11_tune 10 = .ok (.iconst 3, 1) := by decide +kernel
theorem dX11_tune_11 : decode cX11_tune 11 = .ok (.if_icmp .ne 7, 3) := by decide +kernel
theorem dX11_tune_14 : decode cX11_tune 14 = .ok (.iconst 1, 1) := by decide +kernel
theorem dX11_tune_15 : decode cX11_tune 15 = .ok (.goto 4, 3) := by decide +kernel
theorem dX11_tune_18 : decode cX11_tune 18 = .ok (.iconst 0, 1) := by decide +kernel
theorem dX11_tune_19 : decode cX11_tune 19 = .ok (.invokevirtual 376, 3) := by decide +kernel
theorem dX11_tune_22 : decode cX11_tune 22 = .ok (.ifCond .ne 4, 3) := by decide +kernel
theorem dX11_tune_25 : decode cX11_tune 25 = .ok (.return_, 1) := by decide +kernel
theorem dX11_tune_26 : decode cX11_tune 26 = .ok (.iconst 3, 1) := by decide +kernel
theorem dX11_tune_27 : decode cX11_tune 27 = .ok (.aload_n 0, 1) := by decide +kernel
theorem dX11_tune_28 : decode cX11_tune 28 = .ok (.getfield 130, 3) := by decide +kernel
theorem dX11_tune_31 : decode cX11_tune 31 = .ok (.imul, 1) := by decide +kernel
theorem dX11_tune_32 : decode cX11_tune 32 = .ok (.aload_n 0, 1) := by decide +kernel
theorem dX11_tune_33 : decode cX11_tune 33 = .ok (.getfield 57, 3) := by decide +kernel
theorem dX11_tune_36 : decode cX11_tune 36 = .ok (.aload_n 0, 1) := by decide +kernel
theorem dX11_tune_37 : decode cX11_tune 37 = .ok (.getfield 130, 3) := by decide +kernel
theorem dX11_tune_40 : decode cX11_tune 40 = .ok (.iaload, 1) := by decide +kernel
theorem dX11_tune_41 : decode cX11_tune 41 = .ok (.iadd, 1) := by decide +kernel
theorem dX11_tune_42 : decode cX11_tune 42 = .ok (.istore_n 1, 1) := by decide +kernel
theorem dX11_tune_43 : decode cX11_tune 43 = .ok (.aload_n 0, 1) := by decide +kernel
theorem dX11_tune_44 : decode cX11_tune 44 = .ok (.getfield 60, 3) := by decide +kernel
theorem dX11_tune_47 : decode cX11_tune 47 = .ok (.iload_n 1, 1) := by decide +kernel
theorem dX11_tune_48 : decode cX11_tune 48 = .ok (.aload_n 0, 1) := by decide +kernel
theorem dX11_tune_49 : decode cX11_tune 49 = .ok (.invokevirtual 380, 3) := by decide +kernel
theorem dX11_tune_52 : decode cX11_tune 52 = .ok (.lastore, 1) := by decide +kernel
theorem dX11_tune_53 : decode cX11_tune 53 = .ok (.iconst 0, 1) := by decide +kernel
theorem dX11_tune_54 : decode cX11_tune 54 = .ok (.istore_n 2, 1) := by decide +kernel
theorem dX11_tune_55 : decode cX11_tune 55 = .ok (.iload_n 2, 1) := by decide +kernel
theorem dX11_tune_56 : decode cX11_tune 56 = .ok (.aload_n 0, 1) := by decide +kernel
theorem dX11_tune_57 : decode cX11_tune 57 = .ok (.getfield 54, 3) := by decide +kernel
theorem dX11_tune_60 : decode cX11_tune 60 = .ok (.aload_n 0, 1) := by decide +kernel
theorem dX11_tune_61 : decode cX11_tune 61 = .ok (.getfield 130, 3) := by decide +kernel
theorem dX11_tune_64 : decode cX11_tune 64 = .ok (.iaload, 1) := by decide +kernel
theorem dX11_tune_65 : decode cX11_tune 65 = .ok (.if_icmp .ge 35, 3) := by decide +kernel
theorem dX11_tune_68 : decode cX11_tune 68 = .ok (.aload_n 0, 1) := by decide +kernel
theorem dX11_tune_69 : decode cX11_tune 69 = .ok (.getfield 64, 3) := by decide +kernel
theorem dX11_tune_72 : decode cX11_tune 72 = .ok (.iconst 5, 1) := by decide +kernel
theorem dX11_tune_73 : decode cX11_tune 73 = .ok (.iload_n 1, 1) := by decide +kernel
theorem dX11_tune_74 : decode cX11_tune 74 = .ok (.imul, 1) := by decide +kernel
theorem dX11_tune_75 : decode cX11_tune 75 = .ok (.iload_n 2, 1) := by decide +kernel
theorem dX11_tune_76 : decode cX11_tune 76 = .ok (.iadd, 1) := by decide +kernel
theorem dX11_tune_77 : decode cX11_tune 77 = .ok (.aload_n 0, 1) := by decide +kernel
theorem dX11_tune_78 : decode cX11_tune 78 = .ok (.iconst 0, 1) := by decide +kernel
theorem dX11_tune_79 : decode cX11_tune 79 = .ok (.aload_n 0, 1) := by decide +kernel
theorem dX11_tune_80 : decode cX11_tune 80 = .ok (.getfield 51, 3) := by decide +kernel
theorem dX11_tune_83 : decode cX11_tune 83 = .ok (.aload_n 0, 1) := by decide +kernel
theorem dX11_tune_84 : decode cX11_tune 84 = .ok (.getfield 130, 3) := by decide +kernel
theorem dX11_tune_87 : decode cX11_tune 87 = .ok (.iaload, 1) := by decide +kernel
theorem dX11_tune_88 : decode cX11_tune 88 = .ok (.iconst 1, 1) := by decide +kernel
theorem dX11_tune_89 : decode cX11_tune 89 = .ok (.isub, 1) := by decide +kernel
theorem dX11_tune_90 : decode cX11_tune 90 = .ok (.invokevirtual 366, 3) := by decide +kernel
theorem dX11_tune_93 : decode cX11_tune 93 = .ok (.iastore, 1) := by decide +kernel
theorem dX11_tune_94 : decode cX11_tune 94 = .ok (.iinc 2 1, 3) := by decide +kernel
theorem dX11_tune_97 : decode cX11_tune 97 = .ok (.goto (-42), 3) := by decide +kernel
theorem dX11_tune_100 : decode cX11_tune 100 = .ok (.aload_n 0, 1) := by decide +kernel
theorem dX11_tune_101 : decode cX11_tune 101 = .ok (.ldc2_w 268, 3) := by decide +kernel
theorem dX11_tune_104 : decode cX11_tune 104 = .ok (.invokevirtual 370, 3) := by decide +kernel
theorem dX11_tune_107 : decode cX11_tune 107 = .ok (.aload_n 0, 1) := by decide +kernel
theorem dX11_tune_108 : decode cX11_tune 108 = .ok (.getfield 67, 3) := by decide +kernel
theorem dX11_tune_111 : decode cX11_tune 111 = .ok (.iload_n 1, 1) := by decide +kernel
theorem dX11_tune_112 : decode cX11_tune 112 = .ok (.aload_n 0, 1) := by decide +kernel
theorem dX11_tune_113 : decode cX11_tune 113 = .ok (.iconst 0, 1) := by decide +kernel
theorem dX11_tune_114 : decode cX11_tune 114 = .ok (.bipush 99, 2) := by decide +kernel
theorem dX11_tune_116 : decode cX11_tune 116 = .ok (.invokevirtual 366, 3) := by decide +kernel
theorem dX11_tune_119 : decode cX11_tune 119 = .ok (.iastore, 1) := by decide +kernel
theorem dX11_tune_120 : decode cX11_tune 120 = .ok (.aload_n 0, 1) := by decide +kernel
theorem dX11_tune_121 : decode cX11_tune 121 = .ok (.getfield 36, 3) := by decide +kernel
theorem dX11_tune_124 : decode cX11_tune 124 = .ok (.ifCond .ne 16, 3) := by decide +kernel
theorem dX11_tune_127 : decode cX11_tune 127 = .ok (.aload_n 0, 1) := by decide +kernel
theorem dX11_tune_128 : decode cX11_tune 128 = .ok (.getfield 57, 3) := by decide +kernel
theorem dX11_tune_131 : decode cX11_tune 131 = .ok (.aload_n 0, 1) := by decide +kernel
theorem dX11_tune_132 : decode cX11_tune 132 = .ok (.getfield 130, 3) := by decide +kernel
theorem dX11_tune_135 : decode cX11_tune 135 = .ok (.dup2, 1) := by decide +kernel
theorem dX11_tune_136 : decode cX11_tune 136 = .ok (.iaload, 1) := by decide +kernel
theorem dX11_tune_137 : decode cX11_tune 137 = .ok (.iconst 1, 1) := by decide +kernel
theorem dX11_tune_138 : decode cX11_tune 138 = .ok (.iadd, 1) := by decide +kernel
theorem dX11_tune_139 : decode cX11_tune 139 = .ok (.iastore, 1) := by decide +kernel
theorem dX11_tune_140 : decode cX11_tune 140 = .ok (.return_, 1) := by decide +kernel
theorem dX11_rule_0 : decode cX11_rule 0 = .ok (.aload_n 0, 1) := by decide +kernel
theorem dX11_rule_1 : decode cX11_rule 1 = .ok (.aload_n 0, 1) := by decide +kernel
theorem dX11_rule_2 : decode cX11_rule 2 = .ok (.getfield 70, 3) := by decide +kernel
theorem dX11_rule_5 : decode cX11_rule 5 = .ok (.iconst 3, 1) := by decide +kernel
theorem dX11_rule_6 : decode cX11_rule 6 = .ok (.aload_n 0, 1) := by decide +kernel
theorem dX11_rule_7 : decode cX11_rule 7 = .ok (.getfield 130, 3) := by decide +kernel
theorem dX11_rule_10 : decode cX11_rule 10 = .ok (.imul, 1) := by decide +kernel
theorem dX11_rule_11 : decode cX11_rule 11 = .ok (.iload_n 1, 1) := by decide +kernel
theorem dX11_rule_12 : decode cX11_rule 12 = .ok (.iadd, 1) := by decide +kernel
theorem dX11_rule_13 : decode cX11_rule 13 = .ok (.iaload, 1) := by decide +kernel
theorem dX11_rule_14 : decode cX11_rule 14 = .ok (.iload_n 1, 1) := by decide +kernel
theorem dX11_rule_15 : decode cX11_rule 15 = .ok (.iconst 2, 1) := by decide +kernel
theorem dX11_rule_16 : decode cX11_rule 16 = .ok (.if_icmp .ne 7, 3) := by decide +kernel
theorem dX11_rule_19 : decode cX11_rule 19 = .ok (.iconst 4, 1) := by decide +kernel
theorem dX11_rule_20 : decode cX11_rule 20 = .ok (.goto 5, 3) := by decide +kernel
theorem dX11_rule_23 : decode cX11_rule 23 = .ok (.bipush 6, 2) := by decide +kernel
theorem dX11_rule_25 : decode cX11_rule 25 = .ok (.if_icmp .ne 7, 3) := by decide +kernel
theorem dX11_rule_28 : decode cX11_rule 28 = .ok (.iconst 1, 1) := by decide +kernel
theorem dX11_rule_29 : decode cX11_rule 29 = .ok (.goto 4, 3) := by decide +kernel
theorem dX11_rule_32 : decode cX11_rule 32 = .ok (.iconst 0, 1) := by decide +kernel
theorem dX11_rule_33 : decode cX11_rule 33 = .ok (.invokevirtual 376, 3) := by decide +kernel
theorem dX11_rule_36 : decode cX11_rule 36 = .ok (.ifCond .ne 4, 3) := by decide +kernel
theorem dX11_rule_39 : decode cX11_rule 39 = .ok (.return_, 1) := by decide +kernel
theorem dX11_rule_40 : decode cX11_rule 40 = .ok (.bipush 6, 2) := by decide +kernel
theorem dX11_rule_42 : decode cX11_rule 42 = .ok (.iconst 3, 1) := by decide +kernel
theorem dX11_rule_43 : decode cX11_rule 43 = .ok (.aload_n 0, 1) := by decide +kernel
theorem dX11_rule_44 : decode cX11_rule 44 = .ok (.getfield 130, 3) := by decide +kernel
theorem dX11_rule_47 : decode cX11_rule 47 = .ok (.imul, 1) := by decide +kernel
theorem dX11_rule_48 : decode cX11_rule 48 = .ok (.iload_n 1, 1) := by decide +kernel
theorem dX11_rule_49 : decode cX11_rule 49 = .ok (.iadd, 1) := by decide +kernel
theorem dX11_rule_50 : decode cX11_rule 50 = .ok (.imul, 1) := by decide +kernel
theorem dX11_rule_51 : decode cX11_rule 51 = .ok (.aload_n 0, 1) := by decide +kernel
theorem dX11_rule_52 : decode cX11_rule 52 = .ok (.getfield 70, 3) := by decide +kernel
theorem dX11_rule_55 : decode cX11_rule 55 = .ok (.iconst 3, 1) := by decide +kernel
theorem dX11_rule_56 : decode cX11_rule 56 = .ok (.aload_n 0, 1) := by decide +kernel
theorem dX11_rule_57 : decode cX11_rule 57 = .ok (.getfield 130, 3) := by decide +kernel
theorem dX11_rule_60 : decode cX11_rule 60 = .ok (.imul, 1) := by decide +kernel
theorem dX11_rule_61 : decode cX11_rule 61 = .ok (.iload_n 1, 1) := by decide +kernel
theorem dX11_rule_62 : decode cX11_rule 62 = .ok (.iadd, 1) := by decide +kernel
theorem dX11_rule_63 : decode cX11_rule 63 = .ok (.iaload, 1) := by decide +kernel
theorem dX11_rule_64 : decode cX11_rule 64 = .ok (.iadd, 1) := by decide +kernel
theorem dX11_rule_65 : decode cX11_rule 65 = .ok (.istore_n 2, 1) := by decide +kernel
theorem dX11_rule_66 : decode cX11_rule 66 = .ok (.aload_n 0, 1) := by decide +kernel
theorem dX11_rule_67 : decode cX11_rule 67 = .ok (.getfield 73, 3) := by decide +kernel
theorem dX11_rule_70 : decode cX11_rule 70 = .ok (.iload_n 2, 1) := by decide +kernel
theorem dX11_rule_71 : decode cX11_rule 71 = .ok (.aload_n 0, 1) := by decide +kernel
theorem dX11_rule_72 : decode cX11_rule 72 = .ok (.getfield 127, 3) := by decide +kernel
theorem dX11_rule_75 : decode cX11_rule 75 = .ok (.iastore, 1) := by decide +kernel
theorem dX11_rule_76 : decode cX11_rule 76 = .ok (.aload_n 0, 1) := by decide +kernel
theorem dX11_rule_77 : decode cX11_rule 77 = .ok (.iconst 0, 1) := by decide +kernel
theorem dX11_rule_78 : decode cX11_rule 78 = .ok (.invokevirtual 384, 3) := by decide +kernel
theorem dX11_rule_81 : decode cX11_rule 81 = .ok (.aload_n 0, 1) := by decide +kernel
theorem dX11_rule_82 : decode cX11_rule 82 = .ok (.ldc2_w 296, 3) := by decide +kernel
theorem dX11_rule_85 : decode cX11_rule 85 = .ok (.invokevirtual 370, 3) := by decide +kernel
theorem dX11_rule_88 : decode cX11_rule 88 = .ok (.aload_n 0, 1) := by decide +kernel
theorem dX11_rule_89 : decode cX11_rule 89 = .ok (.getfield 76, 3) := by decide +kernel
theorem dX11_rule_92 : decode cX11_rule 92 = .ok (.iload_n 2, 1) := by decide +kernel
theorem dX11_rule_93 : decode cX11_rule 93 = .ok (.aload_n 0, 1) := by decide +kernel
theorem dX11_rule_94 : decode cX11_rule 94 = .ok (.getfield 127, 3) := by decide +kernel
theorem dX11_rule_97 : decode cX11_rule 97 = .ok (.iastore, 1) := by decide +kernel
theorem dX11_rule_98 : decode cX11_rule 98 = .ok (.aload_n 0, 1) := by decide +kernel
theorem dX11_rule_99 : decode cX11_rule 99 = .ok (.getfield 36, 3) := by decide +kernel
theorem dX11_rule_102 : decode cX11_rule 102 = .ok (.ifCond .ne 8, 3) := by decide +kernel
theorem dX11_rule_105 : decode cX11_rule 105 = .ok (.aload_n 0, 1) := by decide +kernel
theorem dX11_rule_106 : decode cX11_rule 106 = .ok (.iconst 1, 1) := by decide +kernel
theorem dX11_rule_107 : decode cX11_rule 107 = .ok (.invokevirtual 384, 3) := by decide +kernel
theorem dX11_rule_110 : decode cX11_rule 110 = .ok (.aload_n 0, 1) := by decide +kernel
theorem dX11_rule_111 : decode cX11_rule 111 = .ok (.getfield 79, 3) := by decide +kernel
theorem dX11_rule_114 : decode cX11_rule 114 = .ok (.iload_n 2, 1) := by decide +kernel
theorem dX11_rule_115 : decode cX11_rule 115 = .ok (.aload_n 0, 1) := by decide +kernel
theorem dX11_rule_116 : decode cX11_rule 116 = .ok (.getfield 127, 3) := by decide +kernel
theorem dX11_rule_119 : decode cX11_rule 119 = .ok (.iastore, 1) := by decide +kernel
theorem dX11_rule_120 : decode cX11_rule 120 = .ok (.aload_n 0, 1) := by decide +kernel
theorem dX11_rule_121 : decode cX11_rule 121 = .ok (.getfield 36, 3) := by decide +kernel
theorem dX11_rule_124 : decode cX11_rule 124 = .ok (.ifCond .ne 20, 3) := by decide +kernel
theorem dX11_rule_127 : decode cX11_rule 127 = .ok (.aload_n 0, 1) := by decide +kernel
theorem dX11_rule_128 : decode cX11_rule 128 = .ok (.getfield 70, 3) := by decide +kernel
theorem dX11_rule_131 : decode cX11_rule 131 = .ok (.iconst 3, 1) := by decide +kernel
theorem dX11_rule_132 : decode cX11_rule 132 = .ok (.aload_n 0, 1) := by decide +kernel
theorem dX11_rule_133 : decode cX11_rule 133 = .ok (.getfield 130, 3) := by decide +kernel
theorem dX11_rule_136 : decode cX11_rule 136 = .ok (.imul, 1) := by decide +kernel
theorem dX11_rule_137 : decode cX11_rule 137 = .ok (.iload_n 1, 1) := by decide +kernel
theorem dX11_rule_138 : decode cX11_rule 138 = .ok (.iadd, 1) := by decide +kernel
theorem dX11_rule_139 : decode cX11_rule 139 = .ok (.dup2, 1) := by decide +kernel
theorem dX11_rule_140 : decode cX11_rule 140 = .ok (.iaload, 1) := by decide +kernel
theorem dX11_rule_141 : decode cX11_rule 141 = .ok (.iconst 1, 1) := by decide +kernel
theorem dX11_rule_142 : decode cX11_rule 142 = .ok (.iadd, 1) := by decide +kernel
theorem dX11_rule_143 : decode cX11_rule 143 = .ok (.iastore, 1) := by decide +kernel
theorem dX11_rule_144 : decode cX11_rule 144 = .ok (.return_, 1) := by decide +kernel
theorem dX11_kindHere_0 : decode cX11_kindHere 0 = .ok (.aload_n 0, 1) := by decide +kernel
theorem dX11_kindHere_1 : decode cX11_kindHere 1 = .ok (.ldc2_w 278, 3) := by decide +kernel
theorem dX11_kindHere_4 : decode cX11_kindHere 4 = .ok (.invokevirtual 340, 3) := by decide +kernel
theorem dX11_kindHere_7 : decode cX11_kindHere 7 = .ok (.ifCond .eq 7, 3) := by decide +kernel
theorem dX11_kindHere_10 : decode cX11_kindHere 10 = .ok (.iconst 0, 1) := by decide +kernel
theorem dX11_kindHere_11 : decode cX11_kindHere 11 = .ok (.goto 60, 3) := by decide +kernel
theorem dX11_kindHere_14 : decode cX11_kindHere 14 = .ok (.aload_n 0, 1) := by decide +kernel
theorem dX11_kindHere_15 : decode cX11_kindHere 15 = .ok (.ldc2_w 280, 3) := by decide +kernel
theorem dX11_kindHere_18 : decode cX11_kindHere 18 = .ok (.invokevirtual 340, 3) := by decide +kernel
theorem dX11_kindHere_21 : decode cX11_kindHere 21 = .ok (.ifCond .eq 7, 3) := by decide +kernel
theorem dX11_kindHere_24 : decode cX11_kindHere 24 = .ok (.iconst 1, 1) := by decide +kernel
theorem dX11_kindHere_25 : decode cX11_kindHere 25 = .ok (.goto 46, 3) := by decide +kernel
theorem dX11_kindHere_28 : decode cX11_kindHere 28 = .ok (.aload_n 0, 1) := by decide +kernel
theorem dX11_kindHere_29 : decode cX11_kindHere 29 = .ok (.ldc2_w 282, 3) := by decide +kernel
theorem dX11_kindHere_32 : decode cX11_kindHere 32 = .ok (.invokevirtual 340, 3) := by decide +kernel
theorem dX11_kindHere_35 : decode cX11_kindHere 35 = .ok (.ifCond .eq 7, 3) := by decide +kernel
theorem dX11_kindHere_38 : decode cX11_kindHere 38 = .ok (.iconst 2, 1) := by decide +kernel
theorem dX11_kindHere_39 : decode cX11_kindHere 39 = .ok (.goto 32, 3) := by decide +kernel
theorem dX11_kindHere_42 : decode cX11_kindHere 42 = .ok (.aload_n 0, 1) := by decide +kernel
theorem dX11_kindHere_43 : decode cX11_kindHere 43 = .ok (.ldc2_w 284, 3) := by decide +kernel
theorem dX11_kindHere_46 : decode cX11_kindHere 46 = .ok (.invokevirtual 340, 3) := by decide +kernel
theorem dX11_kindHere_49 : decode cX11_kindHere 49 = .ok (.ifCond .eq 7, 3) := by decide +kernel
theorem dX11_kindHere_52 : decode cX11_kindHere 52 = .ok (.iconst 3, 1) := by decide +kernel
theorem dX11_kindHere_53 : decode cX11_kindHere 53 = .ok (.goto 18, 3) := by decide +kernel
theorem dX11_kindHere_56 : decode cX11_kindHere 56 = .ok (.aload_n 0, 1) := by decide +kernel
theorem dX11_kindHere_57 : decode cX11_kindHere 57 = .ok (.ldc2_w 286, 3) := by decide +kernel
theorem dX11_kindHere_60 : decode cX11_kindHere 60 = .ok (.invokevirtual 340, 3) := by decide +kernel
theorem dX11_kindHere_63 : decode cX11_kindHere 63 = .ok (.ifCond .eq 7, 3) := by decide +kernel
theorem dX11_kindHere_66 : decode cX11_kindHere 66 = .ok (.iconst 4, 1) := by decide +kernel
theorem dX11_kindHere_67 : decode cX11_kindHere 67 = .ok (.goto 4, 3) := by decide +kernel
theorem dX11_kindHere_70 : decode cX11_kindHere 70 = .ok (.iconst (-1), 1) := by decide +kernel
theorem dX11_kindHere_71 : decode cX11_kindHere 71 = .ok (.ireturn, 1) := by decide +kernel
theorem dX11_door_0 : decode cX11_door 0 = .ok (.aload_n 0, 1) := by decide +kernel
theorem dX11_door_1 : decode cX11_door 1 = .ok (.aload_n 0, 1) := by decide +kernel
theorem dX11_door_2 : decode cX11_door 2 = .ok (.getfield 82, 3) := by decide +kernel
theorem dX11_door_5 : decode cX11_door 5 = .ok (.aload_n 0, 1) := by decide +kernel
theorem dX11_door_6 : decode cX11_door 6 = .ok (.getfield 130, 3) := by decide +kernel
theorem dX11_door_9 : decode cX11_door 9 = .ok (.iaload, 1) := by decide +kernel
theorem dX11_door_10 : decode cX11_door 10 = .ok (.iconst 4, 1) := by decide +kernel
theorem dX11_door_11 : decode cX11_door 11 = .ok (.if_icmp .ne 7, 3) := by decide +kernel
theorem dX11_door_14 : decode cX11_door 14 = .ok (.iconst 1, 1) := by decide +kernel
theorem dX11_door_15 : decode cX11_door 15 = .ok (.goto 4, 3) := by decide +kernel
theorem dX11_door_18 : decode cX11_door 18 = .ok (.iconst 0, 1) := by decide +kernel
theorem dX11_door_19 : decode cX11_door 19 = .ok (.invokevirtual 376, 3) := by decide +kernel
theorem dX11_door_22 : decode cX11_door 22 = .ok (.ifCond .ne 4, 3) := by decide +kernel
theorem dX11_door_25 : decode cX11_door 25 = .ok (.return_, 1) := by decide +kernel
theorem dX11_door_26 : decode cX11_door 26 = .ok (.iconst 4, 1) := by decide +kernel
theorem dX11_door_27 : decode cX11_door 27 = .ok (.aload_n 0, 1) := by decide +kernel
theorem dX11_door_28 : decode cX11_door 28 = .ok (.getfield 130, 3) := by decide +kernel
theorem dX11_door_31 : decode cX11_door 31 = .ok (.imul, 1) := by decide +kernel
theorem dX11_door_32 : decode cX11_door 32 = .ok (.aload_n 0, 1) := by decide +kernel
theorem dX11_door_33 : decode cX11_door 33 = .ok (.getfield 82, 3) := by decide +kernel
theorem dX11_door_36 : decode cX11_door 36 = .ok (.aload_n 0, 1) := by decide +kernel
theorem dX11_door_37 : decode cX11_door 37 = .ok (.getfield 130, 3) := by decide +kernel
theorem dX11_door_40 : decode cX11_door 40 = .ok (.iaload, 1) := by decide +kernel
theorem dX11_door_41 : decode cX11_door 41 = .ok (.iadd, 1) := by decide +kernel
theorem dX11_door_42 : decode cX11_door 42 = .ok (.istore_n 1, 1) := by decide +kernel
theorem dX11_door_43 : decode cX11_door 43 = .ok (.aload_n 0, 1) := by decide +kernel
theorem dX11_door_44 : decode cX11_door 44 = .ok (.getfield 85, 3) := by decide +kernel
theorem dX11_door_47 : decode cX11_door 47 = .ok (.iload_n 1, 1) := by decide +kernel
theorem dX11_door_48 : decode cX11_door 48 = .ok (.aload_n 0, 1) := by decide +kernel
theorem dX11_door_49 : decode cX11_door 49 = .ok (.invokevirtual 380, 3) := by decide +kernel
theorem dX11_door_52 : decode cX11_door 52 = .ok (.lastore, 1) := by decide +kernel
theorem dX11_door_53 : decode cX11_door 53 = .ok (.aload_n 0, 1) := by decide +kernel
theorem dX11_door_54 : decode cX11_door 54 = .ok (.getfield 36, 3) := by decide +kernel
theorem dX11_door_57 : decode cX11_door 57 = .ok (.ifCond .ne 20, 3) := by decide +kernel
theorem dX11_door_60 : decode cX11_door 60 = .ok (.aload_n 0, 1) := by decide +kernel
theorem dX11_door_61 : decode cX11_door 61 = .ok (.invokevirtual 388, 3) := by decide +kernel
theorem dX11_door_64 : decode cX11_door 64 = .ok (.iconst (-1), 1) := by decide +kernel
theorem dX11_door_65 : decode cX11_door 65 = .ok (.if_icmp .ne 12, 3) := by decide +kernel
theorem dX11_door_68 : decode cX11_door 68 = .ok (.aload_n 0, 1) := by decide +kernel
theorem dX11_door_69 : decode cX11_door 69 = .ok (.iconst 1, 1) := by decide +kernel
theorem dX11_door_70 : decode cX11_door 70 = .ok (.aload_n 0, 1) := by decide +kernel
theorem dX11_door_71 : decode cX11_door 71 = .ok (.getfield 23, 3) := by decide +kernel
theorem dX11_door_74 : decode cX11_door 74 = .ok (.invokevirtual 252, 3) := by decide +kernel
theorem dX11_door_77 : decode cX11_door 77 = .ok (.aload_n 0, 1) := by decide +kernel
theorem dX11_door_78 : decode cX11_door 78 = .ok (.getfield 36, 3) := by decide +kernel
theorem dX11_door_81 : decode cX11_door 81 = .ok (.ifCond .le 4, 3) := by decide +kernel
theorem dX11_door_84 : decode cX11_door 84 = .ok (.return_, 1) := by decide +kernel
theorem dX11_door_85 : decode cX11_door 85 = .ok (.aload_n 0, 1) := by decide +kernel
theorem dX11_door_86 : decode cX11_door 86 = .ok (.invokevirtual 388, 3) := by decide +kernel
theorem dX11_door_89 : decode cX11_door 89 = .ok (.istore_n 2, 1) := by decide +kernel
theorem dX11_door_90 : decode cX11_door 90 = .ok (.aload_n 0, 1) := by decide +kernel
theorem dX11_door_91 : decode cX11_door 91 = .ok (.getfield 88, 3) := by decide +kernel
theorem dX11_door_94 : decode cX11_door 94 = .ok (.iload_n 1, 1) := by decide +kernel
theorem dX11_door_95 : decode cX11_door 95 = .ok (.iload_n 2, 1) := by decide +kernel
theorem dX11_door_96 : decode cX11_door 96 = .ok (.iastore, 1) := by decide +kernel
theorem dX11_door_97 : decode cX11_door 97 = .ok (.aload_n 0, 1) := by decide +kernel
theorem dX11_door_98 : decode cX11_door 98 = .ok (.invokevirtual 259, 3) := by decide +kernel
theorem dX11_door_101 : decode cX11_door 101 = .ok (.aload_n 0, 1) := by decide +kernel
theorem dX11_door_102 : decode cX11_door 102 = .ok (.getfield 91, 3) := by decide +kernel
theorem dX11_door_105 : decode cX11_door 105 = .ok (.iload_n 1, 1) := by decide +kernel
theorem dX11_door_106 : decode cX11_door 106 = .ok (.iload_n 2, 1) := by decide +kernel
theorem dX11_door_107 : decode cX11_door 107 = .ok (.ifCond .ne 7, 3) := by decide +kernel
theorem dX11_door_110 : decode cX11_door 110 = .ok (.iconst 0, 1) := by decide +kernel
theorem dX11_door_111 : decode cX11_door 111 = .ok (.goto 19, 3) := by decide +kernel
theorem dX11_door_114 : decode cX11_door 114 = .ok (.aload_n 0, 1) := by decide +kernel
theorem dX11_door_115 : decode cX11_door 115 = .ok (.iload_n 2, 1) := by decide +kernel
theorem dX11_door_116 : decode cX11_door 116 = .ok (.iconst 2, 1) := by decide +kernel
theorem dX11_door_117 : decode cX11_door 117 = .ok (.if_icmp .ne 7, 3) := by decide +kernel
theorem dX11_door_120 : decode cX11_door 120 = .ok (.iconst 1, 1) := by decide +kernel
theorem dX11_door_121 : decode cX11_door 121 = .ok (.goto 4, 3) := by decide +kernel
theorem dX11_door_124 : decode cX11_door 124 = .ok (.iconst 0, 1) := by decide +kernel
theorem dX11_door_125 : decode cX11_door 125 = .ok (.bipush 40, 2) := by decide +kernel
theorem dX11_door_127 : decode cX11_door 127 = .ok (.invokevirtual 366, 3) := by decide +kernel
theorem dX11_door_130 : decode cX11_door 130 = .ok (.iastore, 1) := by decide +kernel
theorem dX11_door_131 : decode cX11_door 131 = .ok (.aload_n 0, 1) := by decide +kernel
theorem dX11_door_132 : decode cX11_door 132 = .ok (.getfield 94, 3) := by decide +kernel
theorem dX11_door_135 : decode cX11_door 135 = .ok (.iload_n 1, 1) := by decide +kernel
theorem dX11_door_136 : decode cX11_door 136 = .ok (.iload_n 2, 1) := by decide +kernel
theorem dX11_door_137 : decode cX11_door 137 = .ok (.iconst 1, 1) := by decide +kernel
theorem dX11_door_138 : decode cX11_door 138 = .ok (.if_icmp .ne 13, 3) := by decide +kernel
theorem dX11_door_141 : decode cX11_door 141 = .ok (.aload_n 0, 1) := by decide +kernel
theorem dX11_door_142 : decode cX11_door 142 = .ok (.iconst 0, 1) := by decide +kernel
theorem dX11_door_143 : decode cX11_door 143 = .ok (.bipush 9, 2) := by decide +kernel
theorem dX11_door_145 : decode cX11_door 145 = .ok (.invokevirtual 366, 3) := by decide +kernel
theorem dX11_door_148 : decode cX11_door 148 = .ok (.goto 33, 3) := by decide +kernel
theorem dX11_door_151 : decode cX11_door 151 = .ok (.iload_n 2, 1) := by decide +kernel
theorem dX11_door_152 : decode cX11_door 152 = .ok (.iconst 3, 1) := by decide +kernel
theorem dX11_door_153 : decode cX11_door 153 = .ok (.if_icmp .ne 12, 3) := by decide +kernel
theorem dX11_door_156 : decode cX11_door 156 = .ok (.aload_n 0, 1) := by decide +kernel
theorem dX11_door_157 : decode cX11_door 157 = .ok (.iconst 0, 1) := by decide +kernel
theorem dX11_door_158 : decode cX11_door 158 = .ok (.iconst 4, 1) := by decide +kernel
theorem dX11_door_159 : decode cX11_door 159 = .ok (.invokevirtual 366, 3) := by decide +kernel
theorem dX11_door_162 : decode cX11_door 162 = .ok (.goto 19, 3) := by decide +kernel
theorem dX11_door_165 : decode cX11_door 165 = .ok (.iload_n 2, 1) := by decide +kernel
theorem dX11_door_166 : decode cX11_door 166 = .ok (.iconst 4, 1) := by decide +kernel
theorem dX11_door_167 : decode cX11_door 167 = .ok (.if_icmp .ne 13, 3) := by decide +kernel
theorem dX11_door_170 : decode cX11_door 170 = .ok (.aload_n 0, 1) := by decide +kernel
theorem dX11_door_171 : decode cX11_door 171 = .ok (.iconst 1, 1) := by decide +kernel
theorem dX11_door_172 : decode cX11_door 172 = .ok (.bipush 9, 2) := by decide +kernel
theorem dX11_door_174 : decode cX11_door 174 = .ok (.invokevirtual 366, 3) := by decide +kernel
theorem dX11_door_177 : decode cX11_door 177 = .ok (.goto 4, 3) := by decide +kernel
theorem dX11_door_180 : decode cX11_door 180 = .ok (.iconst 0, 1) := by decide +kernel
theorem dX11_door_181 : decode cX11_door 181 = .ok (.iastore, 1) := by decide +kernel
theorem dX11_door_182 : decode cX11_door 182 = .ok (.aload_n 0, 1) := by decide +kernel
theorem dX11_door_183 : decode cX11_door 183 = .ok (.getfield 36, 3) := by decide +kernel
theorem dX11_door_186 : decode cX11_door 186 = .ok (.ifCond .ne 16, 3) := by decide +kernel
theorem dX11_door_189 : decode cX11_door 189 = .ok (.aload_n 0, 1) := by decide +kernel
theorem dX11_door_190 : decode cX11_door 190 = .ok (.getfield 82, 3) := by decide +kernel
theorem dX11_door_193 : decode cX11_door 193 = .ok (.aload_n 0, 1) := by decide +kernel
theorem dX11_door_194 : decode cX11_door 194 = .ok (.getfield 130, 3) := by decide +kernel
theorem dX11_door_197 : decode cX11_door 197 = .ok (.dup2, 1) := by decide +kernel
theorem dX11_door_198 : decode cX11_door 198 = .ok (.iaload, 1) := by decide +kernel
theorem dX11_door_199 : decode cX11_door 199 = .ok (.iconst 1, 1) := by decide +kernel
theorem dX11_door_200 : decode cX11_door 200 = .ok (.iadd, 1) := by decide +kernel
theorem dX11_door_201 : decode cX11_door 201 = .ok (.iastore, 1) := by decide +kernel
theorem dX11_door_202 : decode cX11_door 202 = .ok (.return_, 1) := by decide +kernel
theorem dX11_person_0 : decode cX11_person 0 = .ok (.aload_n 0, 1) := by decide +kernel
theorem dX11_person_1 : decode cX11_person 1 = .ok (.aload_n 0, 1) := by decide +kernel
theorem dX11_person_2 : decode cX11_person 2 = .ok (.getfield 97, 3) := by decide +kernel
theorem dX11_person_5 : decode cX11_person 5 = .ok (.aload_n 0, 1) := by decide +kernel
theorem dX11_person_6 : decode cX11_person 6 = .ok (.getfield 130, 3) := by decide +kernel
theorem dX11_person_9 : decode cX11_person 9 = .ok (.iaload, 1) := by decide +kernel
theorem dX11_person_10 : decode cX11_person 10 = .ok (.iconst 4, 1) := by decide +kernel
theorem dX11_person_11 : decode cX11_person 11 = .ok (.if_icmp .ne 7, 3) := by decide +kernel
theorem dX11_person_14 : decode cX11_person 14 = .ok (.iconst 1, 1) := by decide +kernel
theorem dX11_person_15 : decode cX11_person 15 = .ok (.goto 4, 3) := by decide +kernel
theorem dX11_person_18 : decode cX11_person 18 = .ok (.iconst 0, 1) := by decide +kernel
theorem dX11_person_19 : decode cX11_person 19 = .ok (.invokevirtual 376, 3) := by decide +kernel
theorem dX11_person_22 : decode cX11_person 22 = .ok (.ifCond .ne 4, 3) := by decide +kernel
theorem dX11_person_25 : decode cX11_person 25 = .ok (.return_, 1) := by decide +kernel
theorem dX11_person_26 : decode cX11_person 26 = .ok (.iconst 4, 1) := by decide +kernel
theorem dX11_person_27 : decode cX11_person 27 = .ok (.aload_n 0, 1) := by decide +kernel
theorem dX11_person_28 : decode cX11_person 28 = .ok (.getfield 130, 3) := by decide +kernel
theorem dX11_person_31 : decode cX11_person 31 = .ok (.imul, 1) := by decide +kernel
theorem dX11_person_32 : decode cX11_person 32 = .ok (.aload_n 0, 1) := by decide +kernel
theorem dX11_person_33 : decode cX11_person 33 = .ok (.getfield 97, 3) := by decide +kernel
theorem dX11_person_36 : decode cX11_person 36 = .ok (.aload_n 0, 1) := by decide +kernel
theorem dX11_person_37 : decode cX11_person 37 = .ok (.getfield 130, 3) := by decide +kernel
theorem dX11_person_40 : decode cX11_person 40 = .ok (.iaload, 1) := by decide +kernel
theorem dX11_person_41 : decode cX11_person 41 = .ok (.iadd, 1) := by decide +kernel
theorem dX11_person_42 : decode cX11_person 42 = .ok (.istore_n 1, 1) := by decide +kernel
theorem dX11_person_43 : decode cX11_person 43 = .ok (.aload_n 0, 1) := by decide +kernel
theorem dX11_person_44 : decode cX11_person 44 = .ok (.getfield 100, 3) := by decide +kernel
theorem dX11_person_47 : decode cX11_person 47 = .ok (.iload_n 1, 1) := by decide +kernel
theorem dX11_person_48 : decode cX11_person 48 = .ok (.aload_n 0, 1) := by decide +kernel
theorem dX11_person_49 : decode cX11_person 49 = .ok (.invokevirtual 380, 3) := by decide +kernel
theorem dX11_person_52 : decode cX11_person 52 = .ok (.lastore, 1) := by decide +kernel
theorem dX11_person_53 : decode cX11_person 53 = .ok (.aload_n 0, 1) := by decide +kernel
theorem dX11_person_54 : decode cX11_person 54 = .ok (.ldc2_w 276, 3) := by decide +kernel
theorem dX11_person_57 : decode cX11_person 57 = .ok (.invokevirtual 370, 3) := by decide +kernel
theorem dX11_person_60 : decode cX11_person 60 = .ok (.aload_n 0, 1) := by decide +kernel
theorem dX11_person_61 : decode cX11_person 61 = .ok (.getfield 103, 3) := by decide +kernel
theorem dX11_person_64 : decode cX11_person 64 = .ok (.iload_n 1, 1) := by decide +kernel
theorem dX11_person_65 : decode cX11_person 65 = .ok (.aload_n 0, 1) := by decide +kernel
theorem dX11_person_66 : decode cX11_person 66 = .ok (.iconst 1, 1) := by decide +kernel
theorem dX11_person_67 : decode cX11_person 67 = .ok (.invokevirtual 392, 3) := by decide +kernel
theorem dX11_person_70 : decode cX11_person 70 = .ok (.iastore, 1) := by decide +kernel
theorem dX11_person_71 : decode cX11_person 71 = .ok (.aload_n 0, 1) := by decide +kernel
theorem dX11_person_72 : decode cX11_person 72 = .ok (.ldc2_w 266, 3) := by decide +kernel
theorem dX11_person_75 : decode cX11_person 75 = .ok (.invokevirtual 370, 3) := by decide +kernel
theorem dX11_person_78 : decode cX11_person 78 = .ok (.aload_n 0, 1) := by decide +kernel
theorem dX11_person_79 : decode cX11_person 79 = .ok (.getfield 106, 3) := by decide +kernel
theorem dX11_person_82 : decode cX11_person 82 = .ok (.iload_n 1, 1) := by decide +kernel
theorem dX11_person_83 : decode cX11_person 83 = .ok (.aload_n 0, 1) := by decide +kernel
theorem dX11_person_84 : decode cX11_person 84 = .ok (.iconst 0, 1) := by decide +kernel
theorem dX11_person_85 : decode cX11_person 85 = .ok (.invokevirtual 392, 3) := by decide +kernel
theorem dX11_person_88 : decode cX11_person 88 = .ok (.iastore, 1) := by decide +kernel
theorem dX11_person_89 : decode cX11_person 89 = .ok (.aload_n 0, 1) := by decide +kernel
theorem dX11_person_90 : decode cX11_person 90 = .ok (.ldc2_w 290, 3) := by decide +kernel
theorem dX11_person_93 : decode cX11_person 93 = .ok (.invokevirtual 370, 3) := by decide +kernel
theorem dX11_person_96 : decode cX11_person 96 = .ok (.aload_n 0, 1) := by decide +kernel
theorem dX11_person_97 : decode cX11_person 97 = .ok (.getfield 109, 3) := by decide +kernel
theorem dX11_person_100 : decode cX11_person 100 = .ok (.iload_n 1, 1) := by decide +kernel
theorem dX11_person_101 : decode cX11_person 101 = .ok (.aload_n 0, 1) := by decide +kernel
theorem dX11_person_102 : decode cX11_person 102 = .ok (.iconst 0, 1) := by decide +kernel
theorem dX11_person_103 : decode cX11_person 103 = .ok (.bipush 100, 2) := by decide +kernel
theorem dX11_person_105 : decode cX11_person 105 = .ok (.invokevirtual 366, 3) := by decide +kernel
theorem dX11_person_108 : decode cX11_person 108 = .ok (.iastore, 1) := by decide +kernel
theorem dX11_person_109 : decode cX11_person 109 = .ok (.aload_n 0, 1) := by decide +kernel
theorem dX11_person_110 : decode cX11_person 110 = .ok (.ldc2_w 292, 3) := by decide +kernel
theorem dX11_person_113 : decode cX11_person 113 = .ok (.invokevirtual 370, 3) := by decide +kernel
theorem dX11_person_116 : decode cX11_person 116 = .ok (.aload_n 0, 1) := by decide +kernel
theorem dX11_person_117 : decode cX11_person 117 = .ok (.getfield 112, 3) := by decide +kernel
theorem dX11_person_120 : decode cX11_person 120 = .ok (.iload_n 1, 1) := by decide +kernel
theorem dX11_person_121 : decode cX11_person 121 = .ok (.aload_n 0, 1) := by decide +kernel
theorem dX11_person_122 : decode cX11_person 122 = .ok (.iconst 0, 1) := by decide +kernel
theorem dX11_person_123 : decode cX11_person 123 = .ok (.bipush 100, 2) := by decide +kernel
theorem dX11_person_125 : decode cX11_person 125 = .ok (.invokevirtual 366, 3) := by decide +kernel
theorem dX11_person_128 : decode cX11_person 128 = .ok (.iastore, 1) := by decide +kernel
theorem dX11_person_129 : decode cX11_person 129 = .ok (.aload_n 0, 1) := by decide +kernel
theorem dX11_person_130 : decode cX11_person 130 = .ok (.getfield 36, 3) := by decide +kernel
theorem dX11_person_133 : decode cX11_person 133 = .ok (.ifCond .ne 16, 3) := by decide +kernel
theorem dX11_person_136 : decode cX11_person 136 = .ok (.aload_n 0, 1) := by decide +kernel
theorem dX11_person_137 : decode cX11_person 137 = .ok (.getfield 97, 3) := by decide +kernel
theorem dX11_person_140 : decode cX11_person 140 = .ok (.aload_n 0, 1) := by decide +kernel
theorem dX11_person_141 : decode cX11_person 141 = .ok (.getfield 130, 3) := by decide +kernel
theorem dX11_person_144 : decode cX11_person 144 = .ok (.dup2, 1) := by decide +kernel
theorem dX11_person_145 : decode cX11_person 145 = .ok (.iaload, 1) := by decide +kernel
theorem dX11_person_146 : decode cX11_person 146 = .ok (.iconst 1, 1) := by decide +kernel
theorem dX11_person_147 : decode cX11_person 147 = .ok (.iadd, 1) := by decide +kernel
theorem dX11_person_148 : decode cX11_person 148 = .ok (.iastore, 1) := by decide +kernel
theorem dX11_person_149 : decode cX11_person 149 = .ok (.return_, 1) := by decide +kernel
theorem dX11_worths_0 : decode cX11_worths 0 = .ok (.aload_n 0, 1) := by decide +kernel
theorem dX11_worths_1 : decode cX11_worths 1 = .ok (.iconst 0, 1) := by decide +kernel
theorem dX11_worths_2 : decode cX11_worths 2 = .ok (.invokevirtual 376, 3) := by decide +kernel
theorem dX11_worths_5 : decode cX11_worths 5 = .ok (.ifCond .ne 4, 3) := by decide +kernel
theorem dX11_worths_8 : decode cX11_worths 8 = .ok (.return_, 1) := by decide +kernel
theorem dX11_worths_9 : decode cX11_worths 9 = .ok (.aload_n 0, 1) := by decide +kernel
theorem dX11_worths_10 : decode cX11_worths 10 = .ok (.iconst 0, 1) := by decide +kernel
theorem dX11_worths_11 : decode cX11_worths 11 = .ok (.sipush 9999, 3) := by decide +kernel
theorem dX11_worths_14 : decode cX11_worths 14 = .ok (.invokevirtual 366, 3) := by decide +kernel
theorem dX11_worths_17 : decode cX11_worths 17 = .ok (.istore_n 1, 1) := by decide +kernel
theorem dX11_worths_18 : decode cX11_worths 18 = .ok (.aload_n 0, 1) := by decide +kernel
theorem dX11_worths_19 : decode cX11_worths 19 = .ok (.iconst 0, 1) := by decide +kernel
theorem dX11_worths_20 : decode cX11_worths 20 = .ok (.sipush 9999, 3) := by decide +kernel
theorem dX11_worths_23 : decode cX11_worths 23 = .ok (.invokevirtual 366, 3) := by decide +kernel
theorem dX11_worths_26 : decode cX11_worths 26 = .ok (.istore_n 2, 1) := by decide +kernel
theorem dX11_worths_27 : decode cX11_worths 27 = .ok (.aload_n 0, 1) := by decide +kernel
theorem dX11_worths_28 : decode cX11_worths 28 = .ok (.getfield 36, 3) := by decide +kernel
theorem dX11_worths_31 : decode cX11_worths 31 = .ok (.ifCond .le 4, 3) := by decide +kernel
theorem dX11_worths_34 : decode cX11_worths 34 = .ok (.return_, 1) := by decide +kernel
theorem dX11_worths_35 : decode cX11_worths 35 = .ok (.aload_n 0, 1) := by decide +kernel
theorem dX11_worths_36 : decode cX11_worths 36 = .ok (.getfield 115, 3) := by decide +kernel
theorem dX11_worths_39 : decode cX11_worths 39 = .ok (.aload_n 0, 1) := by decide +kernel
theorem dX11_worths_40 : decode cX11_worths 40 = .ok (.getfield 130, 3) := by decide +kernel
theorem dX11_worths_43 : decode cX11_worths 43 = .ok (.iload_n 1, 1) := by decide +kernel
theorem dX11_worths_44 : decode cX11_worths 44 = .ok (.iastore, 1) := by decide +kernel
theorem dX11_worths_45 : decode cX11_worths 45 = .ok (.aload_n 0, 1) := by decide +kernel
theorem dX11_worths_46 : decode cX11_worths 46 = .ok (.getfield 118, 3) := by decide +kernel
theorem dX11_worths_49 : decode cX11_worths 49 = .ok (.aload_n 0, 1) := by decide +kernel
theorem dX11_worths_50 : decode cX11_worths 50 = .ok (.getfield 130, 3) := by decide +kernel
theorem dX11_worths_53 : decode cX11_worths 53 = .ok (.iload_n 2, 1) := by decide +kernel
theorem dX11_worths_54 : decode cX11_worths 54 = .ok (.iastore, 1) := by decide +kernel
theorem dX11_worths_55 : decode cX11_worths 55 = .ok (.return_, 1) := by decide +kernel
theorem dX11_statement_0 : decode cX11_statement 0 = .ok (.aload_n 0, 1) := by decide +kernel
theorem dX11_statement_1 : decode cX11_statement 1 = .ok (.ldc2_w 266, 3) := by decide +kernel
theorem dX11_statement_4 : decode cX11_statement 4 = .ok (.invokevirtual 340, 3) := by decide +kernel
theorem dX11_statement_7 : decode cX11_statement 7 = .ok (.ifCond .eq 10, 3) := by decide +kernel
theorem dX11_statement_10 : decode cX11_statement 10 = .ok (.aload_n 0, 1) := by decide +kernel
theorem dX11_statement_11 : decode cX11_statement 11 = .ok (.invokevirtual 395, 3) := by decide +kernel
theorem dX11_statement_14 : decode cX11_statement 14 = .ok (.goto 117, 3) := by decide +kernel
theorem dX11_statement_17 : decode cX11_statement 17 = .ok (.aload_n 0, 1) := by decide +kernel
theorem dX11_statement_18 : decode cX11_statement 18 = .ok (.ldc2_w 270, 3) := by decide +kernel
theorem dX11_statement_21 : decode cX11_statement 21 = .ok (.invokevirtual 340, 3) := by decide +kernel
theorem dX11_statement_24 : decode cX11_statement 24 = .ok (.ifCond .eq 11, 3) := by decide +kernel
theorem dX11_statement_27 : decode cX11_statement 27 = .ok (.aload_n 0, 1) := by decide +kernel
theorem dX11_statement_28 : decode cX11_statement 28 = .ok (.iconst 0, 1) := by decide +kernel
theorem dX11_statement_29 : decode cX11_statement 29 = .ok (.invokevirtual 398, 3) := by decide +kernel
theorem dX11_statement_32 : decode cX11_statement 32 = .ok (.goto 99, 3) := by decide +kernel
theorem dX11_statement_35 : decode cX11_statement 35 = .ok (.aload_n 0, 1) := by decide +kernel
theorem dX11_statement_36 : decode cX11_statement 36 = .ok (.ldc2_w 272, 3) := by decide +kernel
theorem dX11_statement_39 : decode cX11_statement 39 = .ok (.invokevirtual 340, 3) := by decide +kernel
theorem dX11_statement_42 : decode cX11_statement 42 = .ok (.ifCond .eq 11, 3) := by decide +kernel
theorem dX11_statement_45 : decode cX11_statement 45 = .ok (.aload_n 0, 1) := by decide +kernel
theorem dX11_statement_46 : decode cX11_statement 46 = .ok (.iconst 1, 1) := by decide +kernel
theorem dX11_statement_47 : decode cX11_statement 47 = .ok (.invokevirtual 398, 3) := by decide +kernel
theorem dX11_statement_50 : decode cX11_statement 50 = .ok (.goto 81, 3) := by decide +kernel
theorem dX11_statement_53 : decode cX11_statement 53 = .ok (.aload_n 0, 1) := by decide +kernel
theorem dX11_statement_54 : decode cX11_statement 54 = .ok (.ldc2_w 274, 3) := by decide +kernel
theorem dX11_statement_57 : decode cX11_statement 57 = .ok (.invokevirtual 340, 3) := by decide +kernel
theorem dX11_statement_60 : decode cX11_statement 60 = .ok (.ifCond .eq 11, 3) := by decide +kernel
theorem dX11_statement_63 : decode cX11_statement 63 = .ok (.aload_n 0, 1) := by decide +kernel
theorem dX11_statement_64 : decode cX11_statement 64 = .ok (.iconst 2, 1) := by decide +kernel
theorem dX11_statement_65 : decode cX11_statement 65 = .ok (.invokevirtual 398, 3) := by decide +kernel
theorem dX11_statement_68 : decode cX11_statement 68 = .ok (.goto 63, 3) := by decide +kernel
theorem dX11_statement_71 : decode cX11_statement 71 = .ok (.aload_n 0, 1) := by decide +kernel
theorem dX11_statement_72 : decode cX11_statement 72 = .ok (.ldc2_w 276, 3) := by decide +kernel
theorem dX11_statement_75 : decode cX11_statement 75 = .ok (.invokevirtual 340, 3) := by decide +kernel
theorem dX11_statement_78 : decode cX11_statement 78 = .ok (.ifCond .eq 10, 3) := by decide +kernel
theorem dX11_statement_81 : decode cX11_statement 81 = .ok (.aload_n 0, 1) := by decide +kernel
theorem dX11_statement_82 : decode cX11_statement 82 = .ok (.invokevirtual 401, 3) := by decide +kernel
theorem dX11_statement_85 : decode cX11_statement 85 = .ok (.goto 46, 3) := by decide +kernel
theorem dX11_statement_88 : decode cX11_statement 88 = .ok (.aload_n 0, 1) := by decide +kernel
theorem dX11_statement_89 : decode cX11_statement 89 = .ok (.ldc2_w 288, 3) := by decide +kernel
theorem dX11_statement_92 : decode cX11_statement 92 = .ok (.invokevirtual 340, 3) := by decide +kernel
theorem dX11_statement_95 : decode cX11_statement 95 = .ok (.ifCond .eq 10, 3) := by decide +kernel
theorem dX11_statement_98 : decode cX11_statement 98 = .ok (.aload_n 0, 1) := by decide +kernel
theorem dX11_statement_99 : decode cX11_statement 99 = .ok (.invokevirtual 404, 3) := by decide +kernel
theorem dX11_statement_102 : decode cX11_statement 102 = .ok (.goto 29, 3) := by decide +kernel
theorem dX11_statement_105 : decode cX11_statement 105 = .ok (.aload_n 0, 1) := by decide +kernel
theorem dX11_statement_106 : decode cX11_statement 106 = .ok (.ldc2_w 294, 3) := by decide +kernel
theorem dX11_statement_109 : decode cX11_statement 109 = .ok (.invokevirtual 340, 3) := by decide +kernel
theorem dX11_statement_112 : decode cX11_statement 112 = .ok (.ifCond .eq 10, 3) := by decide +kernel
theorem dX11_statement_115 : decode cX11_statement 115 = .ok (.aload_n 0, 1) := by decide +kernel
theorem dX11_statement_116 : decode cX11_statement 116 = .ok (.invokevirtual 407, 3) := by decide +kernel
theorem dX11_statement_119 : decode cX11_statement 119 = .ok (.goto 12, 3) := by decide +kernel
theorem dX11_statement_122 : decode cX11_statement 122 = .ok (.aload_n 0, 1) := by decide +kernel
theorem dX11_statement_123 : decode cX11_statement 123 = .ok (.iconst 1, 1) := by decide +kernel
theorem dX11_statement_124 : decode cX11_statement 124 = .ok (.aload_n 0, 1) := by decide +kernel
theorem dX11_statement_125 : decode cX11_statement 125 = .ok (.getfield 23, 3) := by decide +kernel
theorem dX11_statement_128 : decode cX11_statement 128 = .ok (.invokevirtual 252, 3) := by decide +kernel
theorem dX11_statement_131 : decode cX11_statement 131 = .ok (.aload_n 0, 1) := by decide +kernel
theorem dX11_statement_132 : decode cX11_statement 132 = .ok (.getfield 36, 3) := by decide +kernel
theorem dX11_statement_135 : decode cX11_statement 135 = .ok (.ifCond .ne 9, 3) := by decide +kernel
theorem dX11_statement_138 : decode cX11_statement 138 = .ok (.aload_n 0, 1) := by decide +kernel
theorem dX11_statement_139 : decode cX11_statement 139 = .ok (.bipush 59, 2) := by decide +kernel
theorem dX11_statement_141 : decode cX11_statement 141 = .ok (.invokevirtual 374, 3) := by decide +kernel
theorem dX11_statement_144 : decode cX11_statement 144 = .ok (.return_, 1) := by decide +kernel
theorem dX11_house_0 : decode cX11_house 0 = .ok (.aload_n 0, 1) := by decide +kernel
theorem dX11_house_1 : decode cX11_house 1 = .ok (.aload_n 0, 1) := by decide +kernel
theorem dX11_house_2 : decode cX11_house 2 = .ok (.getfield 13, 3) := by decide +kernel
theorem dX11_house_5 : decode cX11_house 5 = .ok (.putfield 17, 3) := by decide +kernel
theorem dX11_house_8 : decode cX11_house 8 = .ok (.aload_n 0, 1) := by decide +kernel
theorem dX11_house_9 : decode cX11_house 9 = .ok (.iconst 0, 1) := by decide +kernel
theorem dX11_house_10 : decode cX11_house 10 = .ok (.putfield 13, 3) := by decide +kernel
theorem dX11_house_13 : decode cX11_house 13 = .ok (.aload_n 0, 1) := by decide +kernel
theorem dX11_house_14 : decode cX11_house 14 = .ok (.iconst 0, 1) := by decide +kernel
theorem dX11_house_15 : decode cX11_house 15 = .ok (.putfield 26, 3) := by decide +kernel
theorem dX11_house_18 : decode cX11_house 18 = .ok (.aload_n 0, 1) := by decide +kernel
theorem dX11_house_19 : decode cX11_house 19 = .ok (.iconst 0, 1) := by decide +kernel
theorem dX11_house_20 : decode cX11_house 20 = .ok (.putfield 36, 3) := by decide +kernel
theorem dX11_house_23 : decode cX11_house 23 = .ok (.aload_n 0, 1) := by decide +kernel
theorem dX11_house_24 : decode cX11_house 24 = .ok (.iconst (-1), 1) := by decide +kernel
theorem dX11_house_25 : decode cX11_house 25 = .ok (.putfield 39, 3) := by decide +kernel
theorem dX11_house_28 : decode cX11_house 28 = .ok (.aload_n 0, 1) := by decide +kernel
theorem dX11_house_29 : decode cX11_house 29 = .ok (.iconst 1, 1) := by decide +kernel
theorem dX11_house_30 : decode cX11_house 30 = .ok (.aload_n 0, 1) := by decide +kernel
theorem dX11_house_31 : decode cX11_house 31 = .ok (.getfield 48, 3) := by decide +kernel
theorem dX11_house_34 : decode cX11_house 34 = .ok (.isub, 1) := by decide +kernel
theorem dX11_house_35 : decode cX11_house 35 = .ok (.putfield 130, 3) := by decide +kernel
theorem dX11_house_38 : decode cX11_house 38 = .ok (.aload_n 0, 1) := by decide +kernel
theorem dX11_house_39 : decode cX11_house 39 = .ok (.getfield 57, 3) := by decide +kernel
theorem dX11_house_42 : decode cX11_house 42 = .ok (.aload_n 0, 1) := by decide +kernel
theorem dX11_house_43 : decode cX11_house 43 = .ok (.getfield 130, 3) := by decide +kernel
theorem dX11_house_46 : decode cX11_house 46 = .ok (.iconst 0, 1) := by decide +kernel
theorem dX11_house_47 : decode cX11_house 47 = .ok (.iastore, 1) := by decide +kernel
theorem dX11_house_48 : decode cX11_house 48 = .ok (.iconst 0, 1) := by decide +kernel
theorem dX11_house_49 : decode cX11_house 49 = .ok (.istore_n 1, 1) := by decide +kernel
theorem dX11_house_50 : decode cX11_house 50 = .ok (.iload_n 1, 1) := by decide +kernel
theorem dX11_house_51 : decode cX11_house 51 = .ok (.iconst 3, 1) := by decide +kernel
theorem dX11_house_52 : decode cX11_house 52 = .ok (.if_icmp .ge 23, 3) := by decide +kernel
theorem dX11_house_55 : decode cX11_house 55 = .ok (.aload_n 0, 1) := by decide +kernel
theorem dX11_house_56 : decode cX11_house 56 = .ok (.getfield 70, 3) := by decide +kernel
theorem dX11_house_59 : decode cX11_house 59 = .ok (.iconst 3, 1) := by decide +kernel
theorem dX11_house_60 : decode cX11_house 60 = .ok (.aload_n 0, 1) := by decide +kernel
theorem dX11_house_61 : decode cX11_house 61 = .ok (.getfield 130, 3) := by decide +kernel
theorem dX11_house_64 : decode cX11_house 64 = .ok (.imul, 1) := by decide +kernel
theorem dX11_house_65 : decode cX11_house 65 = .ok (.iload_n 1, 1) := by decide +kernel
theorem dX11_house_66 : decode cX11_house 66 = .ok (.iadd, 1) := by decide +kernel
theorem dX11_house_67 : decode cX11_house 67 = .ok (.iconst 0, 1) := by decide +kernel
theorem dX11_house_68 : decode cX11_house 68 = .ok (.iastore, 1) := by decide +kernel
theorem dX11_house_69 : decode cX11_house 69 = .ok (.iinc 1 1, 3) := by decide +kernel
theorem dX11_house_72 : decode cX11_house 72 = .ok (.goto (-22), 3) := by decide +kernel
theorem dX11_house_75 : decode cX11_house 75 = .ok (.aload_n 0, 1) := by decide +kernel
theorem dX11_house_76 : decode cX11_house 76 = .ok (.getfield 82, 3) := by decide +kernel
theorem dX11_house_79 : decode cX11_house 79 = .ok (.aload_n 0, 1) := by decide +kernel
theorem dX11_house_80 : decode cX11_house 80 = .ok (.getfield 130, 3) := by decide +kernel
theorem dX11_house_83 : decode cX11_house 83 = .ok (.iconst 0, 1) := by decide +kernel
theorem dX11_house_84 : decode cX11_house 84 = .ok (.iastore, 1) := by decide +kernel
theorem dX11_house_85 : decode cX11_house 85 = .ok (.aload_n 0, 1) := by decide +kernel
theorem dX11_house_86 : decode cX11_house 86 = .ok (.getfield 97, 3) := by decide +kernel
theorem dX11_house_89 : decode cX11_house 89 = .ok (.aload_n 0, 1) := by decide +kernel
theorem dX11_house_90 : decode cX11_house 90 = .ok (.getfield 130, 3) := by decide +kernel
theorem dX11_house_93 : decode cX11_house 93 = .ok (.iconst 0, 1) := by decide +kernel
theorem dX11_house_94 : decode cX11_house 94 = .ok (.iastore, 1) := by decide +kernel
theorem dX11_house_95 : decode cX11_house 95 = .ok (.aload_n 0, 1) := by decide +kernel
theorem dX11_house_96 : decode cX11_house 96 = .ok (.getfield 115, 3) := by decide +kernel
theorem dX11_house_99 : decode cX11_house 99 = .ok (.aload_n 0, 1) := by decide +kernel
theorem dX11_house_100 : decode cX11_house 100 = .ok (.getfield 130, 3) := by decide +kernel
theorem dX11_house_103 : decode cX11_house 103 = .ok (.iconst 1, 1) := by decide +kernel
theorem dX11_house_104 : decode cX11_house 104 = .ok (.iastore, 1) := by decide +kernel
theorem dX11_house_105 : decode cX11_house 105 = .ok (.aload_n 0, 1) := by decide +kernel
theorem dX11_house_106 : decode cX11_house 106 = .ok (.getfield 118, 3) := by decide +kernel
theorem dX11_house_109 : decode cX11_house 109 = .ok (.aload_n 0, 1) := by decide +kernel
theorem dX11_house_110 : decode cX11_house 110 = .ok (.getfield 130, 3) := by decide +kernel
theorem dX11_house_113 : decode cX11_house 113 = .ok (.iconst 1, 1) := by decide +kernel
theorem dX11_house_114 : decode cX11_house 114 = .ok (.iastore, 1) := by decide +kernel
theorem dX11_house_115 : decode cX11_house 115 = .ok (.aload_n 0, 1) := by decide +kernel
theorem dX11_house_116 : decode cX11_house 116 = .ok (.iconst 0, 1) := by decide +kernel
theorem dX11_house_117 : decode cX11_house 117 = .ok (.putfield 127, 3) := by decide +kernel
theorem dX11_house_120 : decode cX11_house 120 = .ok (.iconst 1, 1) := by decide +kernel
theorem dX11_house_121 : decode cX11_house 121 = .ok (.istore_n 1, 1) := by decide +kernel
theorem dX11_house_122 : decode cX11_house 122 = .ok (.aload_n 0, 1) := by decide +kernel
theorem dX11_house_123 : decode cX11_house 123 = .ok (.invokevirtual 259, 3) := by decide +kernel
theorem dX11_house_126 : decode cX11_house 126 = .ok (.aload_n 0, 1) := by decide +kernel
theorem dX11_house_127 : decode cX11_house 127 = .ok (.invokevirtual 410, 3) := by decide +kernel
theorem dX11_house_130 : decode cX11_house 130 = .ok (.aload_n 0, 1) := by decide +kernel
theorem dX11_house_131 : decode cX11_house 131 = .ok (.getfield 36, 3) := by decide +kernel
theorem dX11_house_134 : decode cX11_house 134 = .ok (.ifCond .ne 20, 3) := by decide +kernel
theorem dX11_house_137 : decode cX11_house 137 = .ok (.aload_n 0, 1) := by decide +kernel
theorem dX11_house_138 : decode cX11_house 138 = .ok (.getfield 20, 3) := by decide +kernel
theorem dX11_house_141 : decode cX11_house 141 = .ok (.ifCond .eq 13, 3) := by decide +kernel
theorem dX11_house_144 : decode cX11_house 144 = .ok (.aload_n 0, 1) := by decide +kernel
theorem dX11_house_145 : decode cX11_house 145 = .ok (.invokevirtual 413, 3) := by decide +kernel
theorem dX11_house_148 : decode cX11_house 148 = .ok (.iinc 1 1, 3) := by decide +kernel
theorem dX11_house_151 : decode cX11_house 151 = .ok (.goto (-21), 3) := by decide +kernel
theorem dX11_house_154 : decode cX11_house 154 = .ok (.aload_n 0, 1) := by decide +kernel
theorem dX11_house_155 : decode cX11_house 155 = .ok (.aload_n 0, 1) := by decide +kernel
theorem dX11_house_156 : decode cX11_house 156 = .ok (.getfield 36, 3) := by decide +kernel
theorem dX11_house_159 : decode cX11_house 159 = .ok (.putfield 42, 3) := by decide +kernel
theorem dX11_house_162 : decode cX11_house 162 = .ok (.aload_n 0, 1) := by decide +kernel
theorem dX11_house_163 : decode cX11_house 163 = .ok (.aload_n 0, 1) := by decide +kernel
theorem dX11_house_164 : decode cX11_house 164 = .ok (.getfield 39, 3) := by decide +kernel
theorem dX11_house_167 : decode cX11_house 167 = .ok (.putfield 45, 3) := by decide +kernel
theorem dX11_house_170 : decode cX11_house 170 = .ok (.aload_n 0, 1) := by decide +kernel
theorem dX11_house_171 : decode cX11_house 171 = .ok (.getfield 36, 3) := by decide +kernel
theorem dX11_house_174 : decode cX11_house 174 = .ok (.ifCond .le 9, 3) := by decide +kernel
theorem dX11_house_177 : decode cX11_house 177 = .ok (.aload_n 0, 1) := by decide +kernel
theorem dX11_house_178 : decode cX11_house 178 = .ok (.iconst 1, 1) := by decide +kernel
theorem dX11_house_179 : decode cX11_house 179 = .ok (.invokevirtual 237, 3) := by decide +kernel
theorem dX11_house_182 : decode cX11_house 182 = .ok (.ireturn, 1) := by decide +kernel
theorem dX11_house_183 : decode cX11_house 183 = .ok (.aload_n 0, 1) := by decide +kernel
theorem dX11_house_184 : decode cX11_house 184 = .ok (.aload_n 0, 1) := by decide +kernel
theorem dX11_house_185 : decode cX11_house 185 = .ok (.getfield 130, 3) := by decide +kernel
theorem dX11_house_188 : decode cX11_house 188 = .ok (.putfield 48, 3) := by decide +kernel
theorem dX11_house_191 : decode cX11_house 191 = .ok (.aload_n 0, 1) := by decide +kernel
theorem dX11_house_192 : decode cX11_house 192 = .ok (.invokevirtual 416, 3) := by decide +kernel
theorem dX11_house_195 : decode cX11_house 195 = .ok (.iload_n 1, 1) := by decide +kernel
theorem dX11_house_196 : decode cX11_house 196 = .ok (.ireturn, 1) := by decide +kernel
theorem dX11_fault_0 : decode cX11_fault 0 = .ok (.iload_n 1, 1) := by decide +kernel
theorem dX11_fault_1 : decode cX11_fault 1 = .ok (.ifCond .ne 10, 3) := by decide +kernel
theorem dX11_fault_4 : decode cX11_fault 4 = .ok (.aload_n 0, 1) := by decide +kernel
theorem dX11_fault_5 : decode cX11_fault 5 = .ok (.getfield 42, 3) := by decide +kernel
theorem dX11_fault_8 : decode cX11_fault 8 = .ok (.goto 16, 3) := by decide +kernel
theorem dX11_fault_11 : decode cX11_fault 11 = .ok (.iload_n 1, 1) := by decide +kernel
theorem dX11_fault_12 : decode cX11_fault 12 = .ok (.iconst 1, 1) := by decide +kernel
theorem dX11_fault_13 : decode cX11_fault 13 = .ok (.if_icmp .ne 10, 3) := by decide +kernel
theorem dX11_fault_16 : decode cX11_fault 16 = .ok (.aload_n 0, 1) := by decide +kernel
theorem dX11_fault_17 : decode cX11_fault 17 = .ok (.getfield 45, 3) := by decide +kernel
theorem dX11_fault_20 : decode cX11_fault 20 = .ok (.goto 4, 3) := by decide +kernel
theorem dX11_fault_23 : decode cX11_fault 23 = .ok (.iconst (-1), 1) := by decide +kernel
theorem dX11_fault_24 : decode cX11_fault 24 = .ok (.ireturn, 1) := by decide +kernel
theorem dX11_refuses_0 : decode cX11_refuses 0 = .ok (.aload_n 0, 1) := by decide +kernel
theorem dX11_refuses_1 : decode cX11_refuses 1 = .ok (.getfield 165, 3) := by decide +kernel
theorem dX11_refuses_4 : decode cX11_refuses 4 = .ok (.iload_n 1, 1) := by decide +kernel
theorem dX11_refuses_5 : decode cX11_refuses 5 = .ok (.dup2, 1) := by decide +kernel
theorem dX11_refuses_6 : decode cX11_refuses 6 = .ok (.iaload, 1) := by decide +kernel
